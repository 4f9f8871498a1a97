/-! ===== MATH 16: above and nearer, as numbers over one lower part ===== -/
theorem root_lt {N X : Int} (h0 : 0 ≤ N) : (0 < X ∧ N < X * X) ↔ rt N < X := by
  have hs := rt_spec h0
  have hr := rt_nonneg N
  constructor
  · rintro ⟨h1, h2⟩
    exact sq_lt_of (by omega) (by omega)
  · intro h
    have := Int.mul_le_mul (a := rt N + 1) (c := X) (b := rt N + 1) (d := X) (by omega) (by omega) (by omega) (by omega)
    omega
theorem abv_fl {p d q u v : Int} (hq : q ≠ 0) (hd : 0 ≤ d) : abv p d q u v = true ↔ flV p d q v < u := by
  have hN : 0 ≤ (v * v) * d := by
    refine Int.mul_nonneg ?_ hd
    rcases Int.le_total 0 v with h | h
    · exact Int.mul_nonneg h h
    · have := Int.mul_nonneg (a := -v) (b := -v) (by omega) (by omega)
      rw [Int.neg_mul_neg] at this; exact this
  rw [abv_iff, root_lt hN]
  unfold flV
  have e1 : q * u = u * q := Int.mul_comm _ _
  have e2 : p * v = v * p := Int.mul_comm _ _
  rcases Int.lt_trichotomy 0 q with h | h | h
  · rw [wh_pos h, Int.ediv_lt_iff_lt_mul h]
    constructor
    · intro z; have := z.mpr h; omega
    · intro z; exact ⟨fun _ => h, fun _ => by omega⟩
  · omega
  · rw [wh_neg h]
    have e3 : -u ≤ (v * p + rt (v * v * d)) / (-q) ↔ (-u) * (-q) ≤ v * p + rt (v * v * d) := Int.le_ediv_iff_mul_le (by omega)
    have e4 : (-u) * (-q) = u * q := Int.neg_mul_neg _ _
    rw [e4] at e3
    constructor
    · intro z
      have h1 : ¬ rt (v * v * d) < q * u - p * v := fun y => by have := z.mp y; omega
      have := e3.mpr (by omega)
      omega
    · intro z
      have := e3.mp (by omega)
      exact ⟨fun y => by omega, fun y => by omega⟩
theorem pos_mul_iff {x k : Int} (hk : 0 < k) : 0 < x * k ↔ 0 < x := by
  constructor
  · intro h
    refine Decidable.byContradiction (fun z => ?_)
    have := Int.mul_nonneg (a := -x) (b := k) (by omega) (by omega)
    have e : (-x) * k = -(x * k) := Int.neg_mul _ _
    omega
  · intro h; exact Int.mul_pos h hk
theorem lt_mul_iff {x y k : Int} (hk : 0 < k) : x * k < y * k ↔ x < y := by
  have h := pos_mul_iff (x := y - x) hk
  have e : (y - x) * k = y * k - x * k := Int.sub_mul _ _ _
  rw [e] at h
  omega
theorem abv_sc {p d q n m k : Int} (hk : 0 < k) : abv p d q (n * k) (m * k) = true ↔ abv p d q n m = true := by
  rw [abv_iff, abv_iff]
  have e1 : q * (n * k) - p * (m * k) = (q * n - p * m) * k := by grind
  have e2 : (m * k) * (m * k) * d = (m * m * d) * (k * k) := by grind
  have e3 : (q * n - p * m) * k * ((q * n - p * m) * k) = ((q * n - p * m) * (q * n - p * m)) * (k * k) := by grind
  rw [e1, e2, e3, pos_mul_iff hk, lt_mul_iff (Int.mul_pos hk hk)]
theorem abv_cross {p d q n m a b : Int} (hq : q ≠ 0) (hd : 0 ≤ d) (hm : 0 < m) (hb : 0 < b) (h1 : ¬ abv p d q n m = true) (h2 : abv p d q a b = true) : n * b < a * m := by
  rw [← abv_sc (k := b) hb, abv_fl hq hd] at h1
  rw [← abv_sc (k := m) hm, abv_fl hq hd, Int.mul_comm b m] at h2
  omega
theorem abv_mono {p d q n m a b : Int} (hq : q ≠ 0) (hd : 0 ≤ d) (hm : 0 < m) (hb : 0 < b) (h1 : abv p d q n m = true) (h2 : n * b ≤ a * m) : abv p d q a b = true := by
  refine Decidable.byContradiction (fun z => ?_)
  have := abv_cross hq hd hb hm z h1
  omega
theorem nrr_iff {p d q a b c e : Int} (hq : q ≠ 0) (hd : 0 ≤ d) (hb : 0 < b) (he : 0 < e) : nrr p d q a b c e = true ↔ (a * e < c * b ∧ abv p d q (a * e + c * b) ((2 * b) * e) = true) ∨ (c * b < a * e ∧ ¬ abv p d q (a * e + c * b) ((2 * b) * e) = true) := by
  have hbe : 0 < (2 * b) * e := Int.mul_pos (by omega) he
  have ea : a * ((2 * b) * e) = (a * e + a * e) * b := by grind
  have ec : c * ((2 * b) * e) = (c * b + c * b) * e := by grind
  have up_a : a * e < c * b → a * ((2 * b) * e) ≤ (a * e + c * b) * b := fun z => by rw [ea]; exact Int.mul_le_mul_of_nonneg_right (by omega) (by omega)
  have dn_a : c * b < a * e → (a * e + c * b) * b ≤ a * ((2 * b) * e) := fun z => by rw [ea]; exact Int.mul_le_mul_of_nonneg_right (by omega) (by omega)
  have up_c : c * b < a * e → c * ((2 * b) * e) ≤ (a * e + c * b) * e := fun z => by rw [ec]; exact Int.mul_le_mul_of_nonneg_right (by omega) (by omega)
  have dn_c : a * e < c * b → (a * e + c * b) * e ≤ c * ((2 * b) * e) := fun z => by rw [ec]; exact Int.mul_le_mul_of_nonneg_right (by omega) (by omega)
  by_cases h1 : abv p d q a b = true
  · by_cases h2 : abv p d q c e = true
    · rw [nrr_tt h1 h2]
      constructor
      · intro z; exact Or.inl ⟨z, abv_mono hq hd hb hbe h1 (up_a z)⟩
      · rintro (z | z)
        · exact z.1
        · exact absurd (abv_mono hq hd he hbe h2 (up_c z.1)) z.2
    · rw [nrr_tf h1 h2]
      have hc := abv_cross hq hd he hb h2 h1
      constructor
      · intro z; exact Or.inr ⟨hc, z⟩
      · rintro (z | z)
        · omega
        · exact z.2
  · by_cases h2 : abv p d q c e = true
    · rw [nrr_ft h1 h2]
      have hc := abv_cross hq hd hb he h1 h2
      constructor
      · intro z; exact Or.inl ⟨hc, z⟩
      · rintro (z | z)
        · exact z.2
        · omega
    · rw [nrr_ff h1 h2]
      constructor
      · intro z; exact Or.inr ⟨z, fun y => h1 (abv_mono hq hd hbe hb y (dn_a z))⟩
      · rintro (z | z)
        · exact absurd (abv_mono hq hd hbe he z.2 (dn_c z.1)) h2
        · exact z.1
/-- nearer, over one lower part M -/
theorem nrr_M {p d q a b c e k l M : Int} (hq : q ≠ 0) (hd : 0 ≤ d) (hb : 0 < b) (he : 0 < e) (hM : 0 < M) (h1 : b * k = M) (h2 : e * l = M) : nrr p d q a b c e = true ↔ (a * k < c * l ∧ flV p d q (2 * M) < a * k + c * l) ∨ (c * l < a * k ∧ a * k + c * l ≤ flV p d q (2 * M)) := by
  have hbe : 0 < b * e := Int.mul_pos hb he
  have e1 : (a * e) * M = (a * k) * (b * e) := by rw [← h1]; grind
  have e2 : (c * b) * M = (c * l) * (b * e) := by rw [← h2]; grind
  have c1 : a * e < c * b ↔ a * k < c * l := by rw [← lt_mul_iff hM, e1, e2, lt_mul_iff hbe]
  have c2 : c * b < a * e ↔ c * l < a * k := by rw [← lt_mul_iff hM, e1, e2, lt_mul_iff hbe]
  have c3 : abv p d q (a * e + c * b) ((2 * b) * e) = true ↔ flV p d q (2 * M) < a * k + c * l := by
    rw [← abv_sc (k := M) hM, ← abv_fl hq hd, ← abv_sc (n := a * k + c * l) (k := b * e) hbe]
    rw [show (a * e + c * b) * M = (a * k + c * l) * (b * e) by rw [Int.add_mul, e1, e2, Int.add_mul], show 2 * b * e * M = 2 * M * (b * e) by grind]
  rw [nrr_iff hq hd hb he, c1, c2, c3]
  omega
theorem abv_M {p d q a b k M : Int} (hq : q ≠ 0) (hd : 0 ≤ d) (hM : 0 < M) (hb : 0 < b) (h1 : b * k = M) : abv p d q a b = true ↔ flV p d q (2 * M) < 2 * (a * k) := by
  have hk : 0 < k := by
    refine Decidable.byContradiction (fun z => ?_)
    have := Int.mul_nonneg (a := b) (b := -k) (by omega) (by omega)
    have e : b * (-k) = -(b * k) := Int.mul_neg _ _
    omega
  rw [← abv_fl hq hd, ← abv_sc (k := 2 * k) (by omega), show a * (2 * k) = 2 * (a * k) by grind, show b * (2 * k) = 2 * M by rw [← h1]; grind]
/-- nearer is a strict order -/
theorem nrr_irr {p d q a b : Int} (hq : q ≠ 0) (hd : 0 ≤ d) (hb : 0 < b) : ¬ nrr p d q a b a b = true := by
  rw [nrr_M (k := 1) (l := 1) (M := b) hq hd hb hb hb (by omega) (by omega)]
  omega
theorem nrr_trans {p d q a b c e u v : Int} (hq : q ≠ 0) (hd : 0 ≤ d) (hb : 0 < b) (he : 0 < e) (hv : 0 < v) (h1 : nrr p d q a b c e = true) (h2 : nrr p d q c e u v = true) : nrr p d q a b u v = true := by
  have hM : 0 < b * e * v := Int.mul_pos (Int.mul_pos hb he) hv
  have f1 : b * (e * v) = b * e * v := by grind
  have f2 : e * (b * v) = b * e * v := by grind
  have f3 : v * (b * e) = b * e * v := by grind
  rw [nrr_M hq hd hb he hM f1 f2] at h1
  rw [nrr_M hq hd he hv hM f2 f3] at h2
  rw [nrr_M hq hd hb hv hM f1 f3]
  omega
theorem nrr_asymm {p d q a b c e : Int} (hq : q ≠ 0) (hd : 0 ≤ d) (hb : 0 < b) (he : 0 < e) (h1 : nrr p d q a b c e = true) : ¬ nrr p d q c e a b = true := fun z => nrr_irr hq hd hb (nrr_trans hq hd hb he hb h1 z)
/-- two fractions as near as each other are one number -/
theorem nrr_tot {p d q a b c e : Int} (hq : q ≠ 0) (hd : 0 ≤ d) (hb : 0 < b) (he : 0 < e) (h1 : ¬ nrr p d q a b c e = true) (h2 : ¬ nrr p d q c e a b = true) : a * e = c * b := by
  have hM : 0 < b * e := Int.mul_pos hb he
  have f2 : e * b = b * e := Int.mul_comm _ _
  rw [nrr_M (k := e) (l := b) hq hd hb he hM rfl f2] at h1
  rw [nrr_M (k := b) (l := e) hq hd he hb hM f2 rfl] at h2
  omega
