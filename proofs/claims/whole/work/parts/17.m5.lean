/-! ===== MATH 5: what Neighbours and Squares compute ===== -/
abbrev zNb : Type := Int × Int × Int × Int × Int
/-- below's upper and lower, above's upper and lower, records met: the mediant is taken in -/
def medR (p d q : Int) (c : zNb) : Int := if nrr p d q (c.1 + c.2.2.1) (c.2.1 + c.2.2.2.1) c.1 c.2.1 = true ∧ nrr p d q (c.1 + c.2.2.1) (c.2.1 + c.2.2.2.1) c.2.2.1 c.2.2.2.1 = true then c.2.2.2.2 + 1 else c.2.2.2.2
def med (p d q : Int) (c : zNb) : zNb := if abv p d q (c.1 + c.2.2.1) (c.2.1 + c.2.2.2.1) = true then (c.1, c.2.1, c.1 + c.2.2.1, c.2.1 + c.2.2.2.1, medR p d q c) else (c.1 + c.2.2.1, c.2.1 + c.2.2.2.1, c.2.2.1, c.2.2.2.1, medR p d q c)
def medN (p d q w : Int) : Nat → zNb
  | 0 => (w, 1, w + 1, 1, 1)
  | k + 1 => med p d q (medN p d q w k)
def nbI (w : Int) (k : Int) (c : zNb) : Prop := 1 ≤ c.2.1 ∧ 1 ≤ c.2.2.2.1 ∧ k + 2 ≤ c.2.1 + c.2.2.2.1 ∧ (w * c.2.1 ≤ c.1 ∧ c.1 ≤ (w + 1) * c.2.1) ∧ (w * c.2.2.2.1 ≤ c.2.2.1 ∧ c.2.2.1 ≤ (w + 1) * c.2.2.2.1)
theorem medN_bd (p d q w : Int) : ∀ k : Nat, nbI w k (medN p d q w k)
  | 0 => by unfold medN nbI; dsimp only; omega
  | k + 1 => by
    have ih := medN_bd p d q w k
    obtain ⟨i1, i2, i3, i4, i5⟩ := ih
    show nbI w ((k + 1 : Nat) : Int) (med p d q (medN p d q w k))
    generalize medN p d q w k = c at *
    have e1 : w * (c.2.1 + c.2.2.2.1) = w * c.2.1 + w * c.2.2.2.1 := Int.mul_add _ _ _
    have e2 : (w + 1) * (c.2.1 + c.2.2.2.1) = (w + 1) * c.2.1 + (w + 1) * c.2.2.2.1 := Int.mul_add _ _ _
    unfold med
    split <;> (unfold nbI; dsimp only; omega)
theorem medN_s {p d q w i : Int} {c c' : zNb} (h0 : 0 ≤ i) (h : medN p d q w i.toNat = c) (h2 : med p d q c = c') : medN p d q w (i + 1).toNat = c' := by
  rw [show (i + 1).toNat = i.toNat + 1 by omega]
  show med p d q (medN p d q w i.toNat) = c'
  rw [h, h2]
theorem medN_get {p d q w i bu bl au al r : Int} (h0 : 0 ≤ i) (h : medN p d q w i.toNat = (bu, bl, au, al, r)) : 1 ≤ bl ∧ 1 ≤ al ∧ i + 2 ≤ bl + al ∧ (w * bl ≤ bu ∧ bu ≤ (w + 1) * bl) ∧ (w * al ≤ au ∧ au ≤ (w + 1) * al) := by
  have := medN_bd p d q w i.toNat
  rw [h, show ((i.toNat : Nat) : Int) = i by omega] at this
  exact this
theorem okF_nb {w u v : Int} (hw : -141 ≤ w ∧ w ≤ 141) (h1 : 1 ≤ v) (h2 : v ≤ 200) (h3 : w * v ≤ u ∧ u ≤ (w + 1) * v) : okF u v := by
  have m1 := mul_bd (a := w) (b := v) (M := 141) (N := 200) hw (by omega)
  have m2 : (w + 1) * v = w * v + v := by rw [Int.add_mul, Int.one_mul]
  unfold okF; omega
theorem okF_med {w bu bl au al : Int} (hw : -141 ≤ w ∧ w ≤ 141) (h1 : 1 ≤ bl) (h2 : 1 ≤ al) (h3 : bl + al ≤ 200) (h4 : w * bl ≤ bu ∧ bu ≤ (w + 1) * bl) (h5 : w * al ≤ au ∧ au ≤ (w + 1) * al) : okF (bu + au) (bl + al) := by
  refine okF_nb hw (by omega) h3 ?_
  rw [Int.mul_add, Int.mul_add]; omega
-- squares
theorem goTo_end {v x : Int} (h0 : 0 ≤ x ∧ x ≤ 1000000) (h1 : x = 0 ∨ x * x ≤ v) (h2 : 1000000 ≤ x ∨ v < (x + 1) * (x + 1)) (hv : v < 1000000000000) : x = rt v := by
  by_cases hv0 : 0 ≤ v
  · refine rt_uniq h0.1 ?_ ?_
    · rcases h1 with h1 | h1
      · rw [h1]; omega
      · exact h1
    · rcases h2 with h2 | h2
      · have e : x = 1000000 := by omega
        subst e
        rcases h1 with h1 | h1 <;> omega
      · exact h2
  · rw [rt_neg (by omega)]
    rcases h1 with h1 | h1
    · exact h1
    · have := sq_bd (a := x) (M := 1000000) ⟨by omega, h0.2⟩
      omega
/-- y belongs to a solution of x * x - d * y * y = n -/
def isSq (d n y : Int) : Bool := decide (rt ((d * y) * y + n) * rt ((d * y) * y + n) = (d * y) * y + n)
def cntS (d n : Int) : Nat → Int
  | 0 => 0
  | k + 1 => cntS d n k + (if isSq d n k = true then 1 else 0)
theorem cntS_nn (d n : Int) : ∀ k : Nat, 0 ≤ cntS d n k ∧ cntS d n k ≤ k
  | 0 => by unfold cntS; omega
  | k + 1 => by
    have := cntS_nn d n k
    unfold cntS
    split <;> omega
theorem cntS_t {d n y m : Int} (h0 : 0 ≤ y) (h : m = cntS d n y.toNat) (hs : isSq d n y = true) : m + 1 = cntS d n (y + 1).toNat := by
  rw [show (y + 1).toNat = y.toNat + 1 by omega]
  unfold cntS
  rw [show ((y.toNat : Nat) : Int) = y by omega, if_pos hs, h]
theorem cntS_f {d n y m : Int} (h0 : 0 ≤ y) (h : m = cntS d n y.toNat) (hs : ¬ isSq d n y = true) : m = cntS d n (y + 1).toNat := by
  rw [show (y + 1).toNat = y.toNat + 1 by omega]
  unfold cntS
  rw [show ((y.toNat : Nat) : Int) = y by omega, if_neg hs, h]; omega
theorem isSq_iff {d n y x : Int} (hx : x = rt ((d * y) * y + n)) : isSq d n y = true ↔ x * x = (d * y) * y + n := by
  unfold isSq; rw [decide_eq_true_eq, hx]
def FS (d n idx : Int) : Prop := ∃ y : Int, 0 ≤ y ∧ y ≤ 5000 ∧ isSq d n y = true ∧ cntS d n y.toNat = idx
theorem dyy_bd {d n y : Int} (hd : 2 ≤ d ∧ d ≤ 999) (hn : -60 ≤ n ∧ n ≤ 60) (hy : 0 ≤ y ∧ y ≤ 5001) : (0 ≤ d * y ∧ d * y ≤ 4995999) ∧ (0 ≤ (d * y) * y ∧ (d * y) * y ≤ 24984990999) ∧ (0 ≤ rt ((d * y) * y + n) ∧ rt ((d * y) * y + n) ≤ 158100) := by
  have m1 := mul_bd (a := d) (b := y) (M := 999) (N := 5001) (by omega) (by omega)
  have p1 := Int.mul_nonneg (show 0 ≤ d by omega) hy.1
  have m2 := mul_bd (a := d * y) (b := y) (M := 4995999) (N := 5001) (by omega) (by omega)
  have p2 := Int.mul_nonneg p1 hy.1
  refine ⟨by omega, by omega, rt_nonneg _, ?_⟩
  by_cases q : 0 ≤ (d * y) * y + n
  · exact rt_le (by omega) q (by omega)
  · rw [rt_neg (by omega)]; omega
theorem wh_bd {r t b M : Int} (h : -M ≤ t + r ∧ t + r ≤ M) : -(M + 1) ≤ wh r t b ∧ wh r t b ≤ M + 1 := by
  have key : ∀ x c : Int, 0 < c → -M ≤ x → x ≤ M → -M ≤ x / c ∧ x / c ≤ M := by
    intro x c hc h1 h2
    have s := ediv_spec (a := x) hc
    by_cases q : 0 ≤ x / c
    · have := Int.mul_le_mul_of_nonneg_left (show 1 ≤ c by omega) q
      rw [Int.mul_one] at this
      omega
    · have k : (x / c + 1) * c ≤ x / c + 1 := by
        have := Int.mul_le_mul_of_nonneg_left (show 1 ≤ c by omega) (show 0 ≤ -(x / c + 1) by omega)
        rw [Int.mul_one, Int.neg_mul] at this
        omega
      rw [Int.add_mul, Int.one_mul] at k
      omega
  by_cases h1 : 0 < b
  · rw [wh_pos h1]
    have := key (t + r) b h1 h.1 h.2
    omega
  · by_cases h2 : b < 0
    · rw [wh_neg h2]
      have := key (t + r) (-b) (by omega) h.1 h.2
      omega
    · rw [wh_zero (by omega)]; omega
theorem sS_s {p d q i t b : Int} (h0 : 0 ≤ i) (h : sS p d q i.toNat = (t, b)) : sS p d q (i + 1).toNat = (((wh (rt (Dd d q)) t b) * b) - t, Int.tdiv (Dd d q - ((((wh (rt (Dd d q)) t b) * b) - t) * (((wh (rt (Dd d q)) t b) * b) - t))) b) := by
  rw [show (i + 1).toNat = i.toNat + 1 by omega]
  show stp _ _ (sS p d q i.toNat) = _
  rw [h]; rfl
theorem tm_of {p d q i t b : Int} (h : sS p d q i.toNat = (t, b)) : wh (rt (Dd d q)) t b = tm p d q i := by
  unfold tm; rw [h]
/-- all that the walks want to know of a step's numbers -/
theorem sS_get {p d q i t b : Int} (h : vS p d q) (h0 : 0 ≤ i) (e : sS p d q i.toNat = (t, b)) : b ≠ 0 ∧ (-30000 ≤ t ∧ t ≤ 30000) ∧ (-20000 ≤ b ∧ b ≤ 20000) ∧ (-40000 ≤ wh (rt (Dd d q)) t b ∧ wh (rt (Dd d q)) t b ≤ 40000) ∧ (-30000 ≤ (wh (rt (Dd d q)) t b) * b - t ∧ (wh (rt (Dd d q)) t b) * b - t ≤ 30000) ∧ (0 ≤ rt (Dd d q) ∧ rt (Dd d q) ≤ 3129) ∧ (2 ≤ Dd d q ∧ Dd d q ≤ 9791199) := by
  have k := sS_ok h i.toNat
  have k2 := sS_ok h (i + 1).toNat
  rw [sS_s h0 e] at k2
  rw [e] at k
  obtain ⟨r0, r1, r2, r3⟩ := vS_r h
  obtain ⟨a1, a2, a3, a4, a5⟩ := vS_D h
  obtain ⟨k1, -, k3, k4, k5⟩ := k
  obtain ⟨-, -, -, -, k6⟩ := k2
  dsimp only at k1 k3 k4 k5 k6
  have w := wh_bd (r := rt (Dd d q)) (t := t) (b := b) (M := 33129) (by omega)
  refine ⟨k1, k5, ?_, by omega, k6, ⟨r0, r1⟩, ⟨a1, a2⟩⟩
  by_cases q2 : 0 < b
  · have := k3 q2; omega
  · have := k4 (by omega); omega
-- the least solution
def lsAt (d j : Int) : Prop := (chRun (tm 0 d 1) j.toNat).2.2.1 = 0 ∧ (sS 0 d 1 j.toNat).2 = 1 ∧ j % 2 = 0 ∧ ∀ i : Int, 1 ≤ i → i < j → ¬ ((sS 0 d 1 i.toNat).2 = 1 ∧ i % 2 = 0)
def LSq (d : Int) : Prop := ∃ j : Int, 1 ≤ j ∧ j ≤ 1000 ∧ lsAt d j
theorem chRun_over {f : Int → Int} {k : Nat} (h : (chRun f k).2.2.1 = 1) : ∀ n : Nat, (chRun f (k + n)).2.2.1 = 1
  | 0 => h
  | n + 1 => by
    have ih := chRun_over h n
    show (chAdd (f ((k + n : Nat) : Int)) (chRun f (k + n))).2.2.1 = 1
    unfold chAdd
    rw [if_pos (Or.inl ih)]
theorem chRun_over' {f : Int → Int} {i j : Int} (h : (chRun f i.toNat).2.2.1 = 1) (hij : i ≤ j) : (chRun f j.toNat).2.2.1 = 1 := by
  have := chRun_over h (j.toNat - i.toNat)
  rwa [show i.toNat + (j.toNat - i.toNat) = j.toNat by omega] at this
theorem LSq_over {d i : Int} (h1 : ∀ j : Int, 1 ≤ j → j < i → ¬ ((sS 0 d 1 j.toNat).2 = 1 ∧ j % 2 = 0)) (h2 : (chRun (tm 0 d 1) i.toNat).2.2.1 = 1) : ¬ LSq d := by
  rintro ⟨j, a1, a2, a3, a4, a5, a6⟩
  by_cases q : j < i
  · exact h1 j a1 q ⟨a4, a5⟩
  · have := chRun_over' h2 (show i ≤ j by omega)
    omega
theorem LSq_none {d i : Int} (h1 : ∀ j : Int, 1 ≤ j → j < i → ¬ ((sS 0 d 1 j.toNat).2 = 1 ∧ j % 2 = 0)) (h2 : 1000 < i) : ¬ LSq d := by
  rintro ⟨j, a1, a2, a3, a4, a5, a6⟩
  exact h1 j a1 (by omega) ⟨a4, a5⟩
theorem lt_si1 {P : Int → Prop} {i : Int} (h : ∀ k : Int, 1 ≤ k → k < i → P k) (hi : P i) : ∀ k : Int, 1 ≤ k → k < i + 1 → P k := by
  intro k h1 h2
  by_cases q : k = i
  · rw [q]; exact hi
  · exact h k h1 (by omega)
theorem med_lo {p d q bu bl au al r bu' bl' au' al' r' bd : Int} (h : med p d q (bu, bl, au, al, r) = (bu', bl', au', al', r')) (h1 : bl ≤ bd ∧ al ≤ bd) (h2 : bl + al ≤ bd) : bl' ≤ bd ∧ al' ≤ bd := by
  unfold med at h
  dsimp only at h
  split at h <;> (simp only [Prod.mk.injEq] at h; omega)
