/-! ===== MATH 8: histories; what the public methods answer ===== -/
abbrev zH : Type := Int × Int × Int × List (Int × Int)
def hE (p d q n : Int) (u v : Int → Int) : zH := (p, d, q, tk (pr u v) n.toNat)
theorem hE_cong {p d q n : Int} {u v u' v' : Int → Int} (h : ∀ i : Int, 0 ≤ i → i < n → u' i = u i ∧ v' i = v i) : hE p d q n u' v' = hE p d q n u v := by
  unfold hE
  rw [tk_cong (f := pr u' v') (g := pr u v) (fun i h1 h2 => by have := h i h1 (by omega); unfold pr; rw [this.1, this.2])]
/-- the states of a history, the oldest first -/
def hL (hs : Int) (a b c d : zH) : List zH := [a, b, c, d].take hs.toNat
def hKp (hs : Int) (a b c d e : zH) (hs' : Int) (a' b' c' d' : zH) : Prop := (0 ≤ hs' ∧ hs' ≤ 4) ∧ hL hs' a' b' c' d' = (if hs = 4 then (hL hs a b c d).tail else hL hs a b c d) ++ [e]
def hTp (hs : Int) (a b c d e : zH) (hs' : Int) : Prop := hs' = hs - 1 ∧ hL hs a b c d = hL hs' a b c d ++ [e]
def n8 (n : Int) : Prop := 0 ≤ n ∧ n ≤ 8
-- answers
def nbV (a part x1 x2 x3 x4 : Int) : Int := if part = 0 then (if a = 0 then x1 else x3) + 1000000 else (if a = 0 then x2 else x4)
def poV (p d q what : Int) : Int := if what = 0 then p + 1000 else if what = 1 then d + 1000 else if what = 2 then q + 1000 else -1000001
def agV (f : Int → Int) (ld pd what z : Int) : Prop := (what = 0 ∧ z = ld) ∨ (what = 1 ∧ z = pd) ∨ (what = 2 ∧ z = grP f ld pd.toNat) ∨ (what = 3 ∧ z = unP f ld pd.toNat) ∨ (what = 4 ∧ ((z = 1 ∧ miP f ld pd) ∨ (z = 0 ∧ ¬ miP f ld pd)))
def agC (f : Int → Int) (ld pd what z : Int) : Prop := ((what < 0 ∨ 4 < what) ∧ z = -1000001) ∨ ((0 ≤ what ∧ what ≤ 4) ∧ pd ≤ 0 ∧ z = -1000003) ∨ ((0 ≤ what ∧ what ≤ 4) ∧ 0 < pd ∧ agV f ld pd what z)
def cvC (cv : Int) (U L : Int → Int) (i part z : Int) : Prop := (¬ ((0 ≤ i ∧ i ≤ 399) ∧ (0 ≤ part ∧ part ≤ 1)) ∧ z = -1000001) ∨ (((0 ≤ i ∧ i ≤ 399) ∧ (0 ≤ part ∧ part ≤ 1)) ∧ cv ≤ i ∧ z = -1000003) ∨ (((0 ≤ i ∧ i ≤ 399) ∧ (0 ≤ part ∧ part ≤ 1)) ∧ i < cv ∧ ((part = 0 ∧ z = U i + 9000000000000000) ∨ (part = 1 ∧ z = L i)))
def btOk (f : Int → Int) (i y part : Int) : Prop := (2 ≤ i ∧ i ≤ 399) ∧ (0 ≤ part ∧ part ≤ 1) ∧ (1 ≤ y ∧ y ≤ f i - 1)
def btC (cv : Int) (f U L : Int → Int) (i y part z : Int) : Prop := (¬ btOk f i y part ∧ z = -1000001) ∨ (btOk f i y part ∧ cv ≤ i ∧ z = -1000003) ∨ (btOk f i y part ∧ i < cv ∧ ((part = 0 ∧ z = ((y * (U (i - 1))) + (U (i - 2))) + 9000000000000000) ∨ (part = 1 ∧ z = (y * (L (i - 1))) + (L (i - 2)))))
/-- the two neighbours of the surd with lower parts up to a bound -/
def nbP (p d q w bd : Int) (bu bl au al r : Int) : Prop := ∃ k : Int, 0 ≤ k ∧ medN p d q w k.toNat = (bu, bl, au, al, r) ∧ bd < bl + al ∧ bl ≤ bd ∧ al ≤ bd
def neC (p d q w bd part z : Int) : Prop := (¬ ((1 ≤ bd ∧ bd ≤ 200) ∧ (0 ≤ part ∧ part ≤ 1)) ∧ z = -1000001) ∨ (((1 ≤ bd ∧ bd ≤ 200) ∧ (0 ≤ part ∧ part ≤ 1)) ∧ ∃ bu bl au al r : Int, nbP p d q w bd bu bl au al r ∧ ((nrr p d q au al bu bl = true ∧ z = nbV 1 part bu bl au al) ∨ (¬ nrr p d q au al bu bl = true ∧ z = nbV 0 part bu bl au al)))
def beC (p d q w bd ab part z : Int) : Prop := (¬ ((1 ≤ bd ∧ bd ≤ 200) ∧ (0 ≤ ab ∧ ab ≤ 1) ∧ (0 ≤ part ∧ part ≤ 1)) ∧ z = -1000001) ∨ (((1 ≤ bd ∧ bd ≤ 200) ∧ (0 ≤ ab ∧ ab ≤ 1) ∧ (0 ≤ part ∧ part ≤ 1)) ∧ ∃ bu bl au al r : Int, nbP p d q w bd bu bl au al r ∧ z = nbV ab part bu bl au al)
def reC (p d q w bd z : Int) : Prop := (¬ (1 ≤ bd ∧ bd ≤ 200) ∧ z = -1000001) ∨ ((1 ≤ bd ∧ bd ≤ 200) ∧ ∃ bu bl au al r : Int, nbP p d q w bd bu bl au al r ∧ z = r)
def rsP (n : Int) : Prop := -60 ≤ n ∧ n ≤ 60 ∧ n ≠ 0
def slC (d n ix part z : Int) : Prop := (¬ (rsP n ∧ 0 ≤ ix ∧ (0 ≤ part ∧ part ≤ 1)) ∧ z = -1000001) ∨ ((rsP n ∧ 0 ≤ ix ∧ (0 ≤ part ∧ part ≤ 1)) ∧ ¬ FS d n ix ∧ z = -1000004) ∨ ((rsP n ∧ 0 ≤ ix ∧ (0 ≤ part ∧ part ≤ 1)) ∧ ∃ y : Int, 0 ≤ y ∧ y ≤ 5000 ∧ isSq d n y = true ∧ cntS d n y.toNat = ix ∧ ((part = 0 ∧ z = rt (((d * y) * y) + n)) ∨ (part = 1 ∧ z = y)))
def snC (d n z : Int) : Prop := (¬ rsP n ∧ z = -1000001) ∨ (rsP n ∧ z = cntS d n 5001)
def lsC (d part z : Int) : Prop := (¬ (0 ≤ part ∧ part ≤ 1) ∧ z = -1000001) ∨ ((0 ≤ part ∧ part ≤ 1) ∧ ¬ LSq d ∧ z = -1000003) ∨ ((0 ≤ part ∧ part ≤ 1) ∧ ∃ j : Int, 1 ≤ j ∧ j ≤ 1000 ∧ lsAt d j ∧ ((part = 0 ∧ z = (chRun (tm 0 d 1) j.toNat).1) ∨ (part = 1 ∧ z = (chRun (tm 0 d 1) j.toNat).2.1)))
def ftC (c : Int → Int) (n what z : Int) : Prop := (¬ (0 ≤ what ∧ what ≤ 1) ∧ z = -1000001) ∨ ((0 ≤ what ∧ what ≤ 1) ∧ (∃ k : Nat, tFine c n k) ∧ z = -1000004) ∨ ((0 ≤ what ∧ what ≤ 1) ∧ ∃ fp fr : Int, tBad c n fp fr ∧ ((what = 0 ∧ z = fp) ∨ (what = 1 ∧ z = fr)))
theorem chRun_pos {f : Int → Int} {k : Nat} (h0 : -1000000 ≤ f 0 ∧ f 0 ≤ 1000000) (h : ∀ i : Int, 1 ≤ i → i < k → 1 ≤ f i) (hk : 1 ≤ k) : 1 ≤ (chRun f k).2.1 ∧ 0 ≤ (chRun f k).2.2.2.2 := by
  induction k with
  | zero => omega
  | succ k ih =>
    by_cases q : k = 0
    · subst q
      show 1 ≤ (chAdd (f ((0 : Nat) : Int)) (1, 0, 0, 0, 1)).2.1 ∧ 0 ≤ (chAdd (f ((0 : Nat) : Int)) (1, 0, 0, 0, 1)).2.2.2.2
      have z1 := zabs_or (f ((0 : Nat) : Int) * 1 + 0)
      have z2 := zabs_or (f ((0 : Nat) : Int) * 0 + 1)
      have e : f ((0 : Nat) : Int) = f 0 := rfl
      rw [chAdd_go (by omega)]
      dsimp only
      omega
    · have ih := ih (fun i h1 h2 => h i h1 (by omega)) (by omega)
      have hf := h k (by omega) (by omega)
      show 1 ≤ (chAdd (f k) (chRun f k)).2.1 ∧ 0 ≤ (chAdd (f k) (chRun f k)).2.2.2.2
      generalize chRun f k = c at *
      obtain ⟨u, v, o, a, b⟩ := c
      dsimp only at ih
      by_cases r : o = 1 ∨ 9000000000000000 < zabs (f k * u + a) ∨ 9000000000000000 < zabs (f k * v + b)
      · rw [chAdd_over r]; exact ih
      · rw [chAdd_go r]
        have := Int.mul_le_mul hf ih.1 (by omega) (by omega)
        dsimp only
        omega
/-- the fraction of a text with k + 1 terms -/
def tCh (c : Int → Int) (n : Int) (k : Nat) : zCh := chRun (fun i => tV c n i.toNat) (k + 1)
theorem tCh_of {c f : Int → Int} {n : Int} {k : Nat} (h : ∀ i : Int, 0 ≤ i → i ≤ k → f i = tV c n i.toNat) : chRun f (k + 1) = tCh c n k := chRun_cong (fun i h1 h2 => h i h1 (by omega))
theorem tCh_pos {c : Int → Int} {n : Int} {k : Nat} (h : tG c n k) : 1 ≤ (tCh c n k).2.1 := by
  have hg : ∀ i : Nat, i ≤ k → tG c n i := fun i hi => by
    have : tG c n (i + (k - i)) := by rw [show i + (k - i) = k by omega]; exact h
    exact tG_le this
  refine (chRun_pos (f := fun i => tV c n i.toNat) (k := k + 1) ?_ ?_ (by omega)).1
  · have := tV_bd (hg 0 (by omega)); show -1000000 ≤ tV c n (Int.toNat 0) ∧ tV c n (Int.toNat 0) ≤ 1000000
    rw [show Int.toNat 0 = 0 from rfl]; omega
  · intro i h1 h2
    have := tV_bd (hg i.toNat (by omega))
    show 1 ≤ tV c n i.toNat
    exact this.2.2 (by omega)
/-- a read text that is fine: the row's numbers, for the walks -/
theorem rdE_fine {c f : Int → Int} {n tc fp fr : Int} (h : rdE c n tc fp fr f) (h0 : fr = 0) : ∃ k : Nat, tFine c n k ∧ tc = k + 1 ∧ (∀ i : Int, 0 ≤ i → i ≤ k → f i = tV c n i.toNat) ∧ (∀ i : Int, 0 ≤ i → i < tc → -1000 ≤ f i ∧ f i ≤ 1000) ∧ 2 * (k : Int) + 1 ≤ n := by
  rcases h with ⟨a, k, b, e, g⟩ | ⟨a, -⟩
  · refine ⟨k, b, e, g, fun i h1 h2 => ?_, ?_⟩
    · rw [g i h1 (by omega)]
      have hg : tG c n i.toNat := by
        have : tG c n (i.toNat + (k - i.toNat)) := by rw [show i.toNat + (k - i.toNat) = k by omega]; exact b.1
        exact tG_le this
      have := tV_bd hg
      omega
    · have := tE_bd b.1; omega
  · exact absurd h0 a
theorem rdE_bad {c f : Int → Int} {n tc fp fr : Int} (h : rdE c n tc fp fr f) (h0 : fr ≠ 0) : tBad c n fp fr := by
  rcases h with ⟨a, -⟩ | ⟨-, b⟩
  · exact absurd a h0
  · exact b
theorem rdE_fr {c f : Int → Int} {n tc fp fr : Int} (h : rdE c n tc fp fr f) : 0 ≤ fr ∧ fr ≤ 2 := by
  rcases h with ⟨a, -⟩ | ⟨-, b⟩
  · omega
  · have := tBad_fr b; omega
/-- a fraction that the book may hold -/
def fitP (o u v : Int) : Prop := o = 0 ∧ (-30000 ≤ u ∧ u ≤ 30000) ∧ v ≤ 200
def ctV (a b c e what : Int) : Int := if what = 0 then a else if what = 1 then b else if what = 2 then c else if what = 3 then e else -1000001
def tyC (c : Int → Int) (n ch z : Int) (c' : Int → Int) (n' : Int) : Prop := (¬ (32 ≤ ch ∧ ch ≤ 126) ∧ z = -1000001 ∧ c' = c ∧ n' = n) ∨ ((32 ≤ ch ∧ ch ≤ 126) ∧ 40 ≤ n ∧ z = -1000003 ∧ c' = c ∧ n' = n) ∨ ((32 ≤ ch ∧ ch ≤ 126) ∧ n < 40 ∧ z = n + 1 ∧ c' = zu c n ch ∧ n' = n + 1)
