/-! ===== MATH 7: what Expansion computes ===== -/
def redS (r t b : Int) : Prop := 0 < t ∧ t ≤ r ∧ r - t < b ∧ b ≤ r + t
def redA (p d q : Int) (k : Nat) : Prop := redS (rt (Dd d q)) (sS p d q k).1 (sS p d q k).2
/-- one call of lookForPeriod -/
def lkP (t b r i lt lb ld pd lt' lb' ld' pd' : Int) : Prop := (ld < 0 ∧ redS r t b ∧ lt' = t ∧ lb' = b ∧ ld' = i ∧ pd' = pd) ∨ (ld < 0 ∧ ¬ redS r t b ∧ lt' = lt ∧ lb' = lb ∧ ld' = ld ∧ pd' = pd) ∨ (0 ≤ ld ∧ pd = 0 ∧ t = lt ∧ b = lb ∧ lt' = lt ∧ lb' = lb ∧ ld' = ld ∧ pd' = i - ld) ∨ (0 ≤ ld ∧ ¬ (pd = 0 ∧ t = lt ∧ b = lb) ∧ lt' = lt ∧ lb' = lb ∧ ld' = ld ∧ pd' = pd)
/-- what the calls for 0 .. k - 1 have left -/
def pdI (p d q k lt lb ld pd : Int) : Prop := (ld = -1 ∧ pd = 0 ∧ ∀ j : Nat, (j : Int) < k → ¬ redA p d q j) ∨ (0 ≤ ld ∧ ld < k ∧ redA p d q ld.toNat ∧ (∀ j : Nat, (j : Int) < ld → ¬ redA p d q j) ∧ sS p d q ld.toNat = (lt, lb) ∧ ((pd = 0 ∧ ∀ j : Nat, ld < j → (j : Int) < k → sS p d q j ≠ sS p d q ld.toNat) ∨ (0 < pd ∧ ld + pd < k ∧ sS p d q (ld + pd).toNat = sS p d q ld.toNat ∧ ∀ j : Nat, ld < j → (j : Int) < ld + pd → sS p d q j ≠ sS p d q ld.toNat)))
theorem pdI_0 {p d q lt lb : Int} : pdI p d q 0 lt lb (-1) 0 := Or.inl ⟨rfl, rfl, fun j h => absurd h (by omega)⟩
theorem pdI_bd {p d q k lt lb ld pd : Int} (hk : 0 ≤ k) (h : pdI p d q k lt lb ld pd) : -1 ≤ ld ∧ ld < k + 0 + (if ld < 0 then 1 else 0) ∧ 0 ≤ pd ∧ (ld < 0 → pd = 0) ∧ (0 ≤ ld → ld + pd < k) := by
  rcases h with ⟨a, b, c⟩ | ⟨a, b, c, e, f, g⟩
  · rw [if_pos (by omega)]; omega
  · rw [if_neg (by omega)]
    rcases g with ⟨g, -⟩ | ⟨g1, g2, -⟩ <;> omega
theorem pdI_lt {p d q k lt lb ld pd : Int} (hv : vS p d q) (h : pdI p d q k lt lb ld pd) (h0 : 0 ≤ ld) : (-30000 ≤ lt ∧ lt ≤ 30000) ∧ (-20000 ≤ lb ∧ lb ≤ 20000) := by
  rcases h with ⟨a, -⟩ | ⟨a, b, c, e, f, g⟩
  · omega
  · have := sS_get hv a f
    exact ⟨this.2.1, this.2.2.1⟩
theorem pdI_s {p d q k lt lb ld pd lt' lb' ld' pd' t b : Int} (hk : 0 ≤ k) (hs : sS p d q k.toNat = (t, b)) (h : pdI p d q k lt lb ld pd) (h2 : lkP t b (rt (Dd d q)) k lt lb ld pd lt' lb' ld' pd') : pdI p d q (k + 1) lt' lb' ld' pd' := by
  have hred : redA p d q k.toNat ↔ redS (rt (Dd d q)) t b := by unfold redA; rw [hs]
  rcases h with ⟨a, b1, c⟩ | ⟨a, b1, c, e, f, g⟩
  · rcases h2 with ⟨x, r1, e1, e2, e3, e4⟩ | ⟨x, r1, e1, e2, e3, e4⟩ | ⟨x, -⟩ | ⟨x, -⟩
    · subst e1; subst e2; subst e3; subst e4
      exact Or.inr ⟨hk, by omega, hred.mpr r1, c, hs, Or.inl ⟨b1, fun j h1 h3 => absurd h1 (by omega)⟩⟩
    · refine Or.inl ⟨by omega, by omega, fun j hj => ?_⟩
      by_cases q2 : (j : Int) = k
      · rw [show j = k.toNat by omega]; exact fun z => r1 (hred.mp z)
      · exact c j (by omega)
    · omega
    · omega
  · rcases h2 with ⟨x, -⟩ | ⟨x, -⟩ | ⟨x, y1, y2, y3, e1, e2, e3, e4⟩ | ⟨x, y, e1, e2, e3, e4⟩
    · omega
    · omega
    · rw [e1, e2, e3, e4]
      rcases g with ⟨g1, g2⟩ | ⟨g1, -⟩
      · refine Or.inr ⟨a, by omega, c, e, f, Or.inr ⟨by omega, by omega, ?_, fun j h1 h3 => g2 j h1 (by omega)⟩⟩
        rw [show ld + (k - ld) = k by omega, hs, f, y2, y3]
      · omega
    · rw [e1, e2, e3, e4]
      refine Or.inr ⟨a, by omega, c, e, f, ?_⟩
      rcases g with ⟨g1, g2⟩ | ⟨g1, g2, g3, g4⟩
      · refine Or.inl ⟨g1, fun j h1 h3 => ?_⟩
        by_cases q2 : (j : Int) = k
        · rw [show j = k.toNat by omega, hs, f]
          intro z
          simp only [Prod.mk.injEq] at z
          exact y ⟨g1, z.1, z.2⟩
        · exact g2 j h1 (by omega)
      · exact Or.inr ⟨g1, by omega, g3, g4⟩
/-- the convergents that are kept -/
def cvP (f : Int → Int) (cv : Int) (U L : Int → Int) : Prop := (∀ k : Int, 0 ≤ k → k < cv → (chRun f (k + 1).toNat).1 = U k ∧ (chRun f (k + 1).toNat).2.1 = L k ∧ (chRun f (k + 1).toNat).2.2.1 = 0)
theorem cvP_s {f : Int → Int} {i u v a e : Int} {U L : Int → Int} (h0 : 0 ≤ i) (h : cvP f i U L) (hc : chRun f (i + 1).toNat = (u, v, 0, a, e)) : cvP f (i + 1) (zu U i u) (zu L i v) := by
  intro k h1 h2
  by_cases q : k = i
  · subst q; rw [hc, zu_s, zu_s]; exact ⟨rfl, rfl, rfl⟩
  · rw [zu_n _ _ q, zu_n _ _ q]; exact h k h1 (by omega)
def grP (f : Int → Int) (ld : Int) : Nat → Int
  | 0 => 0
  | k + 1 => if grP f ld k < f (ld + k) then f (ld + k) else grP f ld k
theorem grP_s {f : Int → Int} {ld i g : Int} (h0 : 0 ≤ i) (h : g = grP f ld i.toNat) : (if g < f (ld + i) then f (ld + i) else g) = grP f ld (i + 1).toNat := by
  rw [show (i + 1).toNat = i.toNat + 1 by omega, h]
  show _ = if grP f ld i.toNat < f (ld + (i.toNat : Nat)) then f (ld + (i.toNat : Nat)) else grP f ld i.toNat
  rw [show ((i.toNat : Nat) : Int) = i by omega]
def newB (f : Int → Int) (ld : Int) (o : Nat) : Bool := (List.range o).all (fun j => f (ld + j) != f (ld + o))
theorem newB_iff {f : Int → Int} {ld o : Int} (h0 : 0 ≤ o) : newB f ld o.toNat = true ↔ ∀ j : Int, 0 ≤ j → j < o → f (ld + j) ≠ f (ld + o) := by
  unfold newB
  rw [List.all_eq_true, show ((o.toNat : Nat) : Int) = o by omega]
  constructor
  · intro h j h1 h2
    have := h j.toNat (List.mem_range.mpr (by omega))
    rw [show ((j.toNat : Nat) : Int) = j by omega] at this
    simpa using this
  · intro h j hj
    have := h j (by omega) (by have := List.mem_range.mp hj; omega)
    simpa using this
def unP (f : Int → Int) (ld : Int) : Nat → Int
  | 0 => 0
  | k + 1 => unP f ld k + (if newB f ld k = true then 1 else 0)
theorem unP_t {f : Int → Int} {ld i u : Int} (h0 : 0 ≤ i) (h : u = unP f ld i.toNat) (hn : newB f ld i.toNat = true) : u + 1 = unP f ld (i + 1).toNat := by
  rw [show (i + 1).toNat = i.toNat + 1 by omega]; unfold unP; rw [if_pos hn, h]
theorem unP_f {f : Int → Int} {ld i u : Int} (h0 : 0 ≤ i) (h : u = unP f ld i.toNat) (hn : ¬ newB f ld i.toNat = true) : u = unP f ld (i + 1).toNat := by
  rw [show (i + 1).toNat = i.toNat + 1 by omega]; unfold unP; rw [if_neg hn, h]; omega
def miP (f : Int → Int) (ld pd : Int) : Prop := ∀ i : Int, 0 ≤ i → i < pd - 1 → f (ld + i) = f (ld + pd - 2 - i)
theorem miP_half {f : Int → Int} {ld pd i : Int} (h : ∀ k : Int, 0 ≤ k → k < i → f (ld + k) = f ((ld + (pd - 2)) - k)) (hi : (pd - 2) - i ≤ i) : miP f ld pd := by
  intro k h1 h2
  by_cases q : k < i
  · have := h k h1 q
    rw [show ld + pd - 2 - k = (ld + (pd - 2)) - k by omega]; exact this
  · have := h (pd - 2 - k) (by omega)
    by_cases q2 : pd - 2 - k < i
    · have := this q2
      rw [show (ld + (pd - 2)) - (pd - 2 - k) = ld + k by omega] at this
      rw [← this]; congr 1; omega
    · rw [show ld + pd - 2 - k = ld + k by omega]
theorem miP_no {f : Int → Int} {ld pd i : Int} (h0 : 0 ≤ i) (hi : i < pd - 1) (h : ¬ f (ld + i) = f ((ld + (pd - 2)) - i)) : ¬ miP f ld pd := fun z => h (by
  have := z i h0 hi
  rw [show ld + pd - 2 - i = (ld + (pd - 2)) - i by omega] at this; exact this)
/-- how many of the first n are alike -/
def shP (g f : Int → Int) (n r : Int) : Prop := 0 ≤ r ∧ r ≤ n ∧ (∀ k : Int, 0 ≤ k → k < r → g k = f k) ∧ (r < n → g r ≠ f r)
theorem zu_tm {f g : Int → Int} {i : Int} (h : ∀ k : Int, 0 ≤ k → k < i → f k = g k) (v : Int) (hv : v = g i) : ∀ k : Int, 0 ≤ k → k < i + 1 → zu f i v k = g k := by
  intro k h1 h2
  by_cases q : k = i
  · subst q; rw [zu_s]; exact hv
  · rw [zu_n _ _ q]; exact h k h1 (by omega)
theorem tm_bd {p d q : Int} (h : vS p d q) (k : Int) : -40000 ≤ tm p d q k ∧ tm p d q k ≤ 40000 := by
  have e : sS p d q ((k.toNat : Nat) : Int).toNat = ((sS p d q k.toNat).1, (sS p d q k.toNat).2) := by rw [Int.toNat_natCast]
  have := sS_get h (i := (k.toNat : Nat)) (by omega) e
  exact this.2.2.2.1
theorem chRun_cong {f g : Int → Int} : ∀ {k : Nat}, (∀ i : Int, 0 ≤ i → i < k → f i = g i) → chRun f k = chRun g k
  | 0, _ => rfl
  | k + 1, h => by
    show chAdd (f k) (chRun f k) = chAdd (g k) (chRun g k)
    rw [chRun_cong (fun i a b => h i a (by omega)), h k (by omega) (by omega)]
