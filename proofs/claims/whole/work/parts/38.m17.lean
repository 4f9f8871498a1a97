/-! ===== MATH 17: neighbours by mediants and by trying all lower parts ===== -/
theorem tm0_fl {p d q : Int} (h : vS p d q) : tm p d q 0 = flV p d q 1 := by
  have hD := vS_D h
  obtain ⟨-, hd, -, hq, -⟩ := h
  have key : ∀ u : Int, tm p d q 0 < u ↔ flV p d q 1 < u := by
    intro u
    rw [← abv_fl hq (by omega), abv_iff]
    have hz : 0 < zabs q := by have := zabs_or q; omega
    have e1 : (0 < q * u - p * 1 ∧ 1 * 1 * d < (q * u - p * 1) * (q * u - p * 1)) ↔ (0 < (q * u - p) * zabs q ∧ Dd d q < ((q * u - p) * zabs q) * ((q * u - p) * zabs q)) := by
      rw [show q * u - p * 1 = q * u - p by omega, show (1 : Int) * 1 * d = d by omega, pos_mul_iff hz]
      rw [show Dd d q = d * (zabs q * zabs q) by unfold Dd; grind, show (q * u - p) * zabs q * ((q * u - p) * zabs q) = ((q * u - p) * (q * u - p)) * (zabs q * zabs q) by grind, lt_mul_iff (Int.mul_pos hz hz)]
    rw [e1, root_lt (by omega)]
    have e2 : tm p d q 0 = wh (rt (Dd d q)) (p * zabs q) (q * zabs q) := rfl
    rw [e2]
    have e3 : (q * u - p) * zabs q = u * (q * zabs q) - p * zabs q := by grind
    rw [e3]
    rcases Int.lt_trichotomy 0 q with g | g | g
    · have hp : 0 < q * zabs q := Int.mul_pos g hz
      rw [wh_pos hp, Int.ediv_lt_iff_lt_mul hp]
      constructor
      · intro z; exact ⟨fun _ => g, fun _ => by omega⟩
      · intro z; have := z.mpr g; omega
    · omega
    · have hp : 0 < (-q) * zabs q := Int.mul_pos (by omega) hz
      have e5 : (-q) * zabs q = -(q * zabs q) := Int.neg_mul _ _
      rw [wh_neg (by omega)]
      have e4 : -u ≤ (p * zabs q + rt (Dd d q)) / (-(q * zabs q)) ↔ (-u) * (-(q * zabs q)) ≤ p * zabs q + rt (Dd d q) := Int.le_ediv_iff_mul_le (by omega)
      have e6 : (-u) * (-(q * zabs q)) = u * (q * zabs q) := Int.neg_mul_neg _ _
      rw [e6] at e4
      constructor
      · intro z
        have := e4.mp (by omega)
        exact ⟨fun y => by omega, fun y => by omega⟩
      · intro z
        have h1 : ¬ rt (Dd d q) < u * (q * zabs q) - p * zabs q := fun y => by have := z.mp y; omega
        have := e4.mpr (by omega)
        omega
  have k1 := key (tm p d q 0)
  have k2 := key (flV p d q 1)
  omega
def nbJ (p d q : Int) (c : zNb) : Prop := 1 ≤ c.2.1 ∧ 1 ≤ c.2.2.2.1 ∧ ¬ abv p d q c.1 c.2.1 = true ∧ abv p d q c.2.2.1 c.2.2.2.1 = true ∧ c.2.2.1 * c.2.1 - c.1 * c.2.2.2.1 = 1
theorem nb_btw {bu bl au al n m : Int} (hb : 1 ≤ bl) (ha : 1 ≤ al) (hdet : au * bl - bu * al = 1) (h1 : bu * m < n * bl) (h2 : n * al < au * m) : bl + al ≤ m ∧ (m = bl + al → n = bu + au) := by
  have e : m = bl * (au * m - n * al) + al * (n * bl - bu * m) := by
    have : m = m * (au * bl - bu * al) := by rw [hdet, Int.mul_one]
    have e2 : m * (au * bl - bu * al) = bl * (au * m - n * al) + al * (n * bl - bu * m) := by grind
    omega
  have f1 := Int.mul_le_mul (a := bl) (c := bl) (b := 1) (d := au * m - n * al) (Int.le_refl _) (by omega) (by omega) (by omega)
  have f2 := Int.mul_le_mul (a := al) (c := al) (b := 1) (d := n * bl - bu * m) (Int.le_refl _) (by omega) (by omega) (by omega)
  refine ⟨by omega, fun hm => ?_⟩
  have g1 : al * (n * bl - bu * m) = al := by omega
  have g2 : n * bl - bu * m = 1 := by
    refine Decidable.byContradiction (fun z => ?_)
    have := Int.mul_le_mul (a := al) (c := al) (b := 2) (d := n * bl - bu * m) (Int.le_refl _) (by omega) (by omega) (by omega)
    omega
  rw [hm] at g2
  have g3 : (n - (bu + au)) * bl = 0 := by grind
  rcases Int.mul_eq_zero.mp g3 with g | g
  · omega
  · omega
/-- below: not beyond the lower end; above: not beyond the upper end -/
theorem nb_out {p d q bu bl au al r n m : Int} (hq : q ≠ 0) (hd : 0 ≤ d) (h : nbJ p d q (bu, bl, au, al, r)) (hm : 1 ≤ m) (hlt : m < bl + al ∨ (m = bl + al ∧ n ≠ bu + au)) : (¬ abv p d q n m = true → n * bl ≤ bu * m) ∧ (abv p d q n m = true → au * m ≤ n * al) := by
  obtain ⟨h1, h2, h3, h4, h5⟩ := h
  dsimp only at h1 h2 h3 h4 h5
  refine ⟨fun z => ?_, fun z => ?_⟩
  · have := abv_cross hq hd (by omega) (by omega) z h4
    refine Decidable.byContradiction (fun y => ?_)
    have := nb_btw h1 h2 h5 (n := n) (m := m) (by omega) this
    omega
  · have := abv_cross hq hd (by omega) (by omega) h3 z
    refine Decidable.byContradiction (fun y => ?_)
    have := nb_btw h1 h2 h5 (n := n) (m := m) this (by omega)
    omega
def nbE (p d q : Int) (c : zNb) : Int × Int := if nrr p d q c.2.2.1 c.2.2.2.1 c.1 c.2.1 = true then (c.2.2.1, c.2.2.2.1) else (c.1, c.2.1)
/-- no fraction outside of the two ends is nearer than the nearer end -/
theorem nb_far {p d q bu bl au al r n m : Int} (hq : q ≠ 0) (hd : 0 ≤ d) (h : nbJ p d q (bu, bl, au, al, r)) (hm : 1 ≤ m) (ho : (¬ abv p d q n m = true → n * bl ≤ bu * m) ∧ (abv p d q n m = true → au * m ≤ n * al)) : ¬ nrr p d q n m (nbE p d q (bu, bl, au, al, r)).1 (nbE p d q (bu, bl, au, al, r)).2 = true := by
  obtain ⟨h1, h2, h3, h4, h5⟩ := h
  dsimp only at h1 h2 h3 h4 h5
  have hM : 0 < m * bl * al := Int.mul_pos (Int.mul_pos (by omega) (by omega)) (by omega)
  have f1 : m * (bl * al) = m * bl * al := by grind
  have f2 : bl * (m * al) = m * bl * al := by grind
  have f3 : al * (m * bl) = m * bl * al := by grind
  have a1 := abv_M (p := p) (d := d) (q := q) (a := n) hq hd hM (by omega) f1
  have a2 := abv_M (p := p) (d := d) (q := q) (a := bu) hq hd hM (by omega) f2
  have a3 := abv_M (p := p) (d := d) (q := q) (a := au) hq hd hM (by omega) f3
  rw [a1] at ho
  rw [a2] at h3
  rw [a3] at h4
  have n1 := nrr_M (p := p) (d := d) (q := q) (a := n) (c := bu) hq hd (by omega) (by omega) hM f1 f2
  have n2 := nrr_M (p := p) (d := d) (q := q) (a := n) (c := au) hq hd (by omega) (by omega) hM f1 f3
  have n3 := nrr_M (p := p) (d := d) (q := q) (a := au) (c := bu) hq hd (by omega) (by omega) hM f3 f2
  have g1 : n * bl ≤ bu * m → n * (bl * al) ≤ bu * (m * al) := fun z => by
    have := Int.mul_le_mul_of_nonneg_right z (show 0 ≤ al by omega)
    have e1 : n * bl * al = n * (bl * al) := Int.mul_assoc _ _ _
    have e2 : bu * m * al = bu * (m * al) := Int.mul_assoc _ _ _
    omega
  have g2 : au * m ≤ n * al → au * (m * bl) ≤ n * (bl * al) := fun z => by
    have := Int.mul_le_mul_of_nonneg_right z (show 0 ≤ bl by omega)
    have e1 : n * al * bl = n * (bl * al) := by grind
    have e2 : au * m * bl = au * (m * bl) := Int.mul_assoc _ _ _
    omega
  unfold nbE
  dsimp only
  generalize n * (bl * al) = U at *
  generalize bu * (m * al) = B at *
  generalize au * (m * bl) = A at *
  generalize flV p d q (2 * (m * bl * al)) = F at *
  by_cases hn : nrr p d q au al bu bl = true
  · rw [if_pos hn]
    dsimp only
    rw [n2]
    rw [n3] at hn
    by_cases hz : F < 2 * U
    · have := g2 (ho.2 hz); omega
    · have := g1 (ho.1 hz); omega
  · rw [if_neg hn]
    dsimp only
    rw [n1]
    rw [n3] at hn
    by_cases hz : F < 2 * U
    · have := g2 (ho.2 hz); omega
    · have := g1 (ho.1 hz); omega
