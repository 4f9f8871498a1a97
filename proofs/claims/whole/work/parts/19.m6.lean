/-! ===== MATH 6: texts as terms ===== -/
def chA (c : Int → Int) (n i : Int) : Int := if 0 ≤ i ∧ i < n then c i else 0
theorem chA_in {c : Int → Int} {n i : Int} (h : 0 ≤ i ∧ i < n) : chA c n i = c i := if_pos h
theorem chA_out {c : Int → Int} {n i : Int} (h : i < 0 ∨ n ≤ i) : chA c n i = 0 := if_neg (by omega)
def dg (c : Int → Int) (n i : Int) : Int := if 48 ≤ chA c n i ∧ chA c n i ≤ 57 then chA c n i - 48 else -1
theorem dg_t {c : Int → Int} {n i : Int} (h : 48 ≤ chA c n i ∧ chA c n i ≤ 57) : dg c n i = chA c n i - 48 := if_pos h
theorem dg_f {c : Int → Int} {n i : Int} (h : chA c n i < 48 ∨ 57 < chA c n i) : dg c n i = -1 := if_neg (by omega)
theorem dg_bd (c : Int → Int) (n i : Int) : -1 ≤ dg c n i ∧ dg c n i ≤ 9 := by unfold dg; split <;> omega
theorem dg_lt {c : Int → Int} {n i : Int} (h : 0 ≤ dg c n i) : 0 ≤ i ∧ i < n := by
  by_cases q : 0 ≤ i ∧ i < n
  · exact q
  · rw [dg_f (by rw [chA_out (by omega)]; omega)] at h; omega
/-- a number that begins at s with a digit: where it ends, and what it is -/
def nEnd (c : Int → Int) (n s : Int) : Int := if dg c n s = 0 then s + 1 else if dg c n (s + 1) < 0 then s + 1 else if dg c n (s + 2) < 0 then s + 2 else s + 3
def nVal (c : Int → Int) (n s : Int) : Int := if dg c n s = 0 then 0 else if dg c n (s + 1) < 0 then dg c n s else if dg c n (s + 2) < 0 then 10 * dg c n s + dg c n (s + 1) else 10 * (10 * dg c n s + dg c n (s + 1)) + dg c n (s + 2)
theorem nVal_bd {c : Int → Int} {n s : Int} (h : 0 ≤ dg c n s) : 0 ≤ nVal c n s ∧ nVal c n s ≤ 999 ∧ (0 < dg c n s → 0 < nVal c n s) := by
  have a0 := dg_bd c n s
  have a1 := dg_bd c n (s + 1)
  have a2 := dg_bd c n (s + 2)
  unfold nVal; split
  · omega
  · split
    · omega
    · split <;> omega
theorem nEnd_bd {c : Int → Int} {n s : Int} (h : 0 ≤ dg c n s) : s + 1 ≤ nEnd c n s ∧ nEnd c n s ≤ n := by
  have a0 := dg_lt h
  have a1 : 0 ≤ dg c n (s + 1) → s + 1 < n := fun z => (dg_lt z).2
  have a2 : 0 ≤ dg c n (s + 2) → s + 2 < n := fun z => (dg_lt z).2
  unfold nEnd; split
  · omega
  · split
    · omega
    · split <;> omega
/-- where the first number begins -/
def ts0 (c : Int → Int) (n : Int) : Int := if chA c n 0 = 45 then 1 else 0
/-- where the number k ends -/
def tE (c : Int → Int) (n : Int) : Nat → Int
  | 0 => nEnd c n (ts0 c n)
  | k + 1 => nEnd c n (tE c n k + 1)
def tV (c : Int → Int) (n : Int) : Nat → Int
  | 0 => if chA c n 0 = 45 then -(nVal c n (ts0 c n)) else nVal c n (ts0 c n)
  | k + 1 => nVal c n (tE c n k + 1)
/-- what must stand ahead of the number k + 1 -/
def due (k : Nat) : Int := if k = 0 then 59 else 44
def tG (c : Int → Int) (n : Int) : Nat → Prop
  | 0 => 0 ≤ dg c n (ts0 c n)
  | k + 1 => tG c n k ∧ tE c n k < n ∧ chA c n (tE c n k) = due k ∧ 0 < dg c n (tE c n k + 1)
theorem tE_bd {c : Int → Int} {n : Int} : ∀ {k : Nat}, tG c n k → 2 * (k : Int) + 1 ≤ tE c n k ∧ tE c n k ≤ n
  | 0, h => by
    have := nEnd_bd h
    have s : 0 ≤ ts0 c n := by unfold ts0; split <;> omega
    unfold tE; omega
  | k + 1, h => by
    obtain ⟨h1, h2, h3, h4⟩ := h
    have ih := tE_bd h1
    have := nEnd_bd (c := c) (n := n) (s := tE c n k + 1) (by omega)
    unfold tE; omega
theorem tG_le {c : Int → Int} {n : Int} {i : Nat} : ∀ {k : Nat}, tG c n (i + k) → tG c n i
  | 0, h => h
  | k + 1, h => tG_le (k := k) h.1
theorem tV_bd {c : Int → Int} {n : Int} : ∀ {k : Nat}, tG c n k → -999 ≤ tV c n k ∧ tV c n k ≤ 999 ∧ (0 < k → 1 ≤ tV c n k)
  | 0, h => by
    have := nVal_bd h
    unfold tV; split <;> omega
  | k + 1, h => by
    have := nVal_bd (c := c) (n := n) (s := tE c n k + 1) (by have := h.2.2.2; omega)
    have := h.2.2.2
    show -999 ≤ nVal c n (tE c n k + 1) ∧ nVal c n (tE c n k + 1) ≤ 999 ∧ (0 < k + 1 → 1 ≤ nVal c n (tE c n k + 1))
    omega
/-- why the reading stops behind the number k -/
def tStop (c : Int → Int) (n : Int) (k : Nat) (fp fr : Int) : Prop := tE c n k < n ∧ ((chA c n (tE c n k) ≠ due k ∧ fp = tE c n k ∧ fr = 1) ∨ (chA c n (tE c n k) = due k ∧ dg c n (tE c n k + 1) < 0 ∧ fp = tE c n k + 1 ∧ fr = 1) ∨ (chA c n (tE c n k) = due k ∧ dg c n (tE c n k + 1) = 0 ∧ fp = tE c n k + 1 ∧ fr = 2))
/-- the text has the fault (fp, fr) -/
def tBad (c : Int → Int) (n fp fr : Int) : Prop := (dg c n (ts0 c n) < 0 ∧ fp = ts0 c n ∧ fr = 1) ∨ ∃ k : Nat, tG c n k ∧ tStop c n k fp fr
/-- the text has no fault: it has k + 1 terms -/
def tFine (c : Int → Int) (n : Int) (k : Nat) : Prop := tG c n k ∧ n ≤ tE c n k
theorem tG_stop {c : Int → Int} {n : Int} {i j : Nat} {fp fr : Int} (hi : tStop c n i fp fr ∨ n ≤ tE c n i) (hj : tG c n j) : j ≤ i := by
  by_cases q : j ≤ i
  · exact q
  · exfalso
    have h : tG c n (i + 1) := by
      have : tG c n ((i + 1) + (j - (i + 1))) := by rw [show (i + 1) + (j - (i + 1)) = j by omega]; exact hj
      exact tG_le this
    obtain ⟨h1, h2, h3, h4⟩ := h
    rcases hi with ⟨-, hi⟩ | hi
    · rcases hi with hi | hi | hi
      · exact hi.1 h3
      · omega
      · omega
    · omega
theorem tBad_fr {c : Int → Int} {n fp fr : Int} (h : tBad c n fp fr) : fr = 1 ∨ fr = 2 := by
  rcases h with h | ⟨k, -, -, h⟩
  · exact Or.inl h.2.2
  · rcases h with h | h | h
    · exact Or.inl h.2.2
    · exact Or.inl h.2.2.2
    · exact Or.inr h.2.2.2
theorem tBad_uniq {c : Int → Int} {n fp fr fp' fr' : Int} (h : tBad c n fp fr) (g : tBad c n fp' fr') : fp = fp' ∧ fr = fr' := by
  rcases h with h | ⟨i, h1, h2⟩ <;> rcases g with g | ⟨j, g1, g2⟩
  · omega
  · have : tG c n 0 := by
      have q : tG c n (0 + j) := by rw [Nat.zero_add]; exact g1
      exact tG_le q
    have : 0 ≤ dg c n (ts0 c n) := this
    omega
  · have : tG c n 0 := by
      have q : tG c n (0 + i) := by rw [Nat.zero_add]; exact h1
      exact tG_le q
    have : 0 ≤ dg c n (ts0 c n) := this
    omega
  · have a := tG_stop (Or.inl h2) g1
    have b := tG_stop (Or.inl g2) h1
    have e : i = j := by omega
    subst e
    obtain ⟨-, h2⟩ := h2
    obtain ⟨-, g2⟩ := g2
    rcases h2 with h2 | h2 | h2 <;> rcases g2 with g2 | g2 | g2 <;> omega
theorem tFine_uniq {c : Int → Int} {n : Int} {i j : Nat} (h : tFine c n i) (g : tFine c n j) : i = j := by
  have a := tG_stop (fp := 0) (fr := 0) (Or.inr h.2) g.1
  have b := tG_stop (fp := 0) (fr := 0) (Or.inr g.2) h.1
  omega
theorem tFine_bad {c : Int → Int} {n fp fr : Int} {i : Nat} (h : tFine c n i) (g : tBad c n fp fr) : False := by
  rcases g with g | ⟨j, g1, g2⟩
  · have : tG c n 0 := by
      have q : tG c n (0 + i) := by rw [Nat.zero_add]; exact h.1
      exact tG_le q
    have : 0 ≤ dg c n (ts0 c n) := this
    omega
  · have a := tG_stop (fp := 0) (fr := 0) (Or.inr h.2) g1
    have b := tG_stop (Or.inl g2) h.1
    have e : i = j := by omega
    subst e
    have := h.2
    have := g2.1
    omega
-- the class's readNumber
def rdN (c : Int → Int) (n s ng tc fp fr : Int) (f : Int → Int) (tc' fp' fr' z : Int) (f' : Int → Int) : Prop :=
  (dg c n s < 0 ∧ tc' = tc ∧ fp' = s ∧ fr' = 1 ∧ f' = f ∧ z = s + 1) ∨ (dg c n s = 0 ∧ 0 < tc ∧ tc' = tc ∧ fp' = s ∧ fr' = 2 ∧ f' = f ∧ z = s + 1) ∨ (0 ≤ dg c n s ∧ (dg c n s = 0 → tc ≤ 0) ∧ tc' = tc + 1 ∧ fp' = fp ∧ fr' = fr ∧ f' = zu f tc (if ng = 0 then nVal c n s else -(nVal c n s)) ∧ z = nEnd c n s)
/-- the class's reading: behind the number k, or a fault -/
def rdI (c : Int → Int) (n pl tc fp fr k : Int) (f : Int → Int) : Prop := (fr = 0 ∧ tG c n k.toNat ∧ pl = tE c n k.toNat ∧ tc = k + 1 ∧ ∀ i : Int, 0 ≤ i → i ≤ k → f i = tV c n i.toNat) ∨ (fr ≠ 0 ∧ tBad c n fp fr)
theorem rdI_0 {c : Int → Int} {n tc' fp' fr' z ng : Int} {f f' : Int → Int} (hng : (chA c n 0 = 45 ∧ ng = 1) ∨ (chA c n 0 ≠ 45 ∧ ng = 0)) (h : rdN c n ng ng 0 0 0 f tc' fp' fr' z f') : rdI c n z tc' fp' fr' 0 f' := by
  have hs : ts0 c n = ng := by
    unfold ts0
    rcases hng with ⟨a, b⟩ | ⟨a, b⟩
    · rw [if_pos a, b]
    · rw [if_neg a, b]
  rcases h with ⟨a, b, e1, e2, e3, e4⟩ | ⟨a, b, -⟩ | ⟨a, b, e1, e2, e3, e4, e5⟩
  · exact Or.inr ⟨by omega, Or.inl ⟨by rw [hs]; exact a, by rw [hs]; exact e1, e2⟩⟩
  · omega
  · refine Or.inl ⟨e3, by show 0 ≤ dg c n (ts0 c n); rw [hs]; exact a, by show z = nEnd c n (ts0 c n); rw [hs]; exact e5, by omega, fun i h1 h2 => ?_⟩
    have : i = 0 := by omega
    subst this
    rw [e4, zu_s]
    show _ = if chA c n 0 = 45 then -(nVal c n (ts0 c n)) else nVal c n (ts0 c n)
    rw [hs]
    rcases hng with ⟨p, q⟩ | ⟨p, q⟩
    · rw [if_pos p, if_neg (by omega)]
    · rw [if_neg p, if_pos q]
theorem rdI_s {c : Int → Int} {n pl tc fp fr k tc' fp' fr' z : Int} {f f' : Int → Int} (hk : 0 ≤ k) (h : rdI c n pl tc fp fr k f) (h0 : fr = 0) (h1 : pl < n) (hd : chA c n pl = (if tc = 1 then 59 else 44)) (hr : rdN c n (pl + 1) 0 tc fp fr f tc' fp' fr' z f') : rdI c n z tc' fp' fr' (k + 1) f' := by
  rcases h with ⟨a1, a2, a3, a4, a5⟩ | ⟨a1, -⟩
  · have hdue : due k.toNat = (if tc = 1 then 59 else 44) := by
      unfold due
      by_cases q : k = 0
      · rw [if_pos (by omega), if_pos (by omega)]
      · rw [if_neg (by omega), if_neg (by omega)]
    subst a3
    rcases hr with ⟨a, b, e1, e2, e3, e4⟩ | ⟨a, b, e0, e1, e2, e3, e4⟩ | ⟨a, b, e1, e2, e3, e4, e5⟩
    · exact Or.inr ⟨by omega, Or.inr ⟨k.toNat, a2, h1, Or.inr (Or.inl ⟨by rw [hdue]; exact hd, a, e1, e2⟩)⟩⟩
    · exact Or.inr ⟨by omega, Or.inr ⟨k.toNat, a2, h1, Or.inr (Or.inr ⟨by rw [hdue]; exact hd, a, e1, e2⟩)⟩⟩
    · have hp : 0 < dg c n (tE c n k.toNat + 1) := by
        by_cases q : dg c n (tE c n k.toNat + 1) = 0
        · have := b q; omega
        · omega
      rw [show k + 1 = ((k.toNat + 1 : Nat) : Int) by omega]
      refine Or.inl ⟨by omega, ?_, ?_, by omega, fun i i1 i2 => ?_⟩
      · rw [Int.toNat_natCast]; exact ⟨a2, h1, by rw [hdue]; exact hd, hp⟩
      · rw [Int.toNat_natCast]; exact e5
      · rw [e4]
        by_cases q : i = tc
        · subst q
          rw [zu_s, if_pos rfl, show i.toNat = k.toNat + 1 by omega]; rfl
        · rw [zu_n _ _ q]; exact a5 i i1 (by omega)
  · exact absurd h0 a1
theorem rdI_f {c : Int → Int} {n pl tc fp fr k : Int} {f : Int → Int} (hk : 0 ≤ k) (h : rdI c n pl tc fp fr k f) (h0 : fr = 0) (h1 : pl < n) (hd : chA c n pl ≠ (if tc = 1 then 59 else 44)) : rdI c n pl tc pl 1 (k + 1) f := by
  rcases h with ⟨a1, a2, a3, a4, a5⟩ | ⟨a1, -⟩
  · have hdue : due k.toNat = (if tc = 1 then 59 else 44) := by
      unfold due
      by_cases q : k = 0
      · rw [if_pos (by omega), if_pos (by omega)]
      · rw [if_neg (by omega), if_neg (by omega)]
    subst a3
    exact Or.inr ⟨by omega, Or.inr ⟨k.toNat, a2, h1, Or.inl ⟨by rw [hdue]; exact hd, rfl, rfl⟩⟩⟩
  · exact absurd h0 a1
theorem rdI_bd {c : Int → Int} {n pl tc fp fr k : Int} {f : Int → Int} (hk : 0 ≤ k) (h : rdI c n pl tc fp fr k f) (h0 : fr = 0) : 2 * k + 1 ≤ pl ∧ pl ≤ n ∧ tc = k + 1 := by
  rcases h with ⟨a1, a2, a3, a4, a5⟩ | ⟨a1, -⟩
  · have := tE_bd a2; omega
  · exact absurd h0 a1
/-- what read leaves -/
def rdE (c : Int → Int) (n tc fp fr : Int) (f : Int → Int) : Prop := (fr = 0 ∧ ∃ k : Nat, tFine c n k ∧ tc = k + 1 ∧ ∀ i : Int, 0 ≤ i → i ≤ k → f i = tV c n i.toNat) ∨ (fr ≠ 0 ∧ tBad c n fp fr)
theorem rdE_of {c : Int → Int} {n pl tc fp fr k : Int} {f : Int → Int} (hk : 0 ≤ k) (h : rdI c n pl tc fp fr k f) (h2 : fr ≠ 0 ∨ n ≤ pl) : rdE c n tc fp fr f := by
  rcases h with ⟨a1, a2, a3, a4, a5⟩ | h
  · exact Or.inl ⟨a1, k.toNat, ⟨a2, by omega⟩, by omega, fun i i1 i2 => a5 i i1 (by omega)⟩
  · exact Or.inr h
theorem chA_bd {c : Int → Int} {n : Int} (h : ∀ i : Int, 0 ≤ i → i < n → 32 ≤ c i ∧ c i ≤ 126) (i : Int) : 0 ≤ chA c n i ∧ chA c n i ≤ 126 := by
  by_cases q : 0 ≤ i ∧ i < n
  · rw [chA_in q]; have := h i q.1 q.2; omega
  · rw [chA_out (by omega)]; omega
theorem rdN_bd {c : Int → Int} {n s ng tc fp fr tc' fp' fr' z : Int} {f f' : Int → Int} (h : rdN c n s ng tc fp fr f tc' fp' fr' z f') (h1 : 0 ≤ s ∧ s ≤ 41 ∧ n ≤ 40) (h2 : 0 ≤ fr ∧ fr ≤ 2) : 0 ≤ fr' ∧ fr' ≤ 2 ∧ 0 ≤ z ∧ z ≤ 42 := by
  rcases h with ⟨a, b, e1, e2, e3, e4⟩ | ⟨a, b, e0, e1, e2, e3, e4⟩ | ⟨a, b, e1, e2, e3, e4, e5⟩
  · omega
  · omega
  · have := nEnd_bd a; omega
theorem rd_out {c : Int → Int} {n pl tc fp fr k : Int} {f : Int → Int} (hk : 0 ≤ k) (h : rdI c n pl tc fp fr k f) (h2 : 40 ≤ k ∧ n ≤ 40) : fr ≠ 0 ∨ n ≤ pl := by
  by_cases q : fr = 0
  · have := rdI_bd hk h q; omega
  · exact Or.inl q
