/-! ===== MATH 4: the exact steps ===== -/
def nsq (d : Int) : Prop := ∀ x y : Int, 0 < y → x * x ≠ (y * y) * d
theorem nsq_of {d : Int} (hd : 0 ≤ d) (h : rt d * rt d ≠ d) : nsq d := by
  have s := rt_spec hd
  have r0 := rt_nonneg d
  generalize rt d = r at *
  have key : ∀ n : Nat, ∀ x y : Int, y.toNat ≤ n → 0 < y → 0 ≤ x → x * x = (y * y) * d → False := by
    intro n
    induction n with
    | zero => intro x y h1 h2 _ _; omega
    | succ n ih =>
      intro x y h1 h2 h3 h4
      have hyy : 0 < y * y := Int.mul_pos h2 h2
      have hr1 : (r * y) * (r * y) < x * x := by
        have e : (r * y) * (r * y) = (y * y) * (r * r) := by grind
        rw [e, h4]
        exact Int.mul_lt_mul_of_pos_left (by omega) hyy
      have hr2 : x * x < ((r + 1) * y) * ((r + 1) * y) := by
        have e : ((r + 1) * y) * ((r + 1) * y) = (y * y) * ((r + 1) * (r + 1)) := by grind
        rw [e, h4]
        exact Int.mul_lt_mul_of_pos_left (by omega) hyy
      have a1 : r * y < x := sq_lt_of h3 hr1
      have a2 : x < (r + 1) * y := sq_lt_of (Int.mul_nonneg (by omega) (by omega)) hr2
      have a3 : (r + 1) * y = r * y + y := by grind
      have e2 : (d * y - r * x) * (d * y - r * x) = ((x - r * y) * (x - r * y)) * d := by
        have e3 : (d * y - r * x) * (d * y - r * x) - ((x - r * y) * (x - r * y)) * d = (r * r - d) * (x * x - (y * y) * d) := by grind
        rw [h4, Int.sub_self, Int.mul_zero] at e3
        omega
      rcases zabs_or (d * y - r * x) with ⟨q, e⟩ | ⟨q, e⟩
      · exact ih (d * y - r * x) (x - r * y) (by omega) (by omega) q e2
      · exact ih (-(d * y - r * x)) (x - r * y) (by omega) (by omega) (by omega) (by rw [Int.neg_mul_neg]; exact e2)
  intro x y hy e
  rcases zabs_or x with ⟨q, -⟩ | ⟨q, -⟩
  · exact key _ x y (Nat.le_refl _) hy q e
  · exact key _ (-x) y (Nat.le_refl _) hy (by omega) (by rw [Int.neg_mul_neg]; exact e)
/-- one exact step -/
def stp (D r : Int) (c : Int × Int) : Int × Int := (((wh r c.1 c.2) * c.2) - c.1, Int.tdiv (D - ((((wh r c.1 c.2) * c.2) - c.1) * (((wh r c.1 c.2) * c.2) - c.1))) c.2)
theorem whT_pos {r t b : Int} (h : 0 < b) : r - b < wh r t b * b - t ∧ wh r t b * b - t ≤ r := by
  rw [wh_pos h]
  have s := ediv_spec (a := t + r) h
  omega
theorem whT_neg {r t b : Int} (h : b < 0) : r < wh r t b * b - t ∧ wh r t b * b - t ≤ r - b := by
  rw [wh_neg h]
  have s := ediv_spec (a := t + r) (b := -b) (by omega)
  generalize (t + r) / (-b) = m at *
  rw [Int.mul_neg] at s
  have e : (-1 - m) * b = -b - m * b := by grind
  rw [e]
  omega
theorem stp_ok {D r M t b : Int} (r0 : 0 ≤ r) (h1 : r * r < D) (h2 : D < (r + 1) * (r + 1)) (hns : ∀ x : Int, x * x ≠ D) (hM : 2 * r ≤ M) (hb : b ≠ 0) (hdv : b ∣ D - t * t) (hp : 0 < b → b ≤ M) (hm : b < 0 → -b ≤ M - 2 * r) :
    (stp D r (t, b)).2 ≠ 0 ∧ (stp D r (t, b)).2 * b = D - (stp D r (t, b)).1 * (stp D r (t, b)).1 ∧ (stp D r (t, b)).2 ∣ D - (stp D r (t, b)).1 * (stp D r (t, b)).1 ∧ (0 < (stp D r (t, b)).2 → (stp D r (t, b)).2 ≤ M) ∧ ((stp D r (t, b)).2 < 0 → -(stp D r (t, b)).2 ≤ M - 2 * r) ∧ (-(M) ≤ (stp D r (t, b)).1 ∧ (stp D r (t, b)).1 ≤ M + r) := by
  have e1 : (stp D r (t, b)).1 = wh r t b * b - t := rfl
  have e2 : (stp D r (t, b)).2 = Int.tdiv (D - (stp D r (t, b)).1 * (stp D r (t, b)).1) b := rfl
  generalize (stp D r (t, b)).1 = T at *
  generalize (stp D r (t, b)).2 = B at *
  have hT1 := fun h => whT_pos (r := r) (t := t) (b := b) h
  have hT2 := fun h => whT_neg (r := r) (t := t) (b := b) h
  rw [← e1] at hT1 hT2
  have hdv2 : b ∣ D - T * T := by
    obtain ⟨c, hc⟩ := hdv
    refine ⟨c + 2 * (wh r t b) * t - (wh r t b) * (wh r t b) * b, ?_⟩
    rw [e1]
    grind
  have hB : B * b = D - T * T := by rw [e2]; exact Int.tdiv_mul_cancel hdv2
  have hne : D - T * T ≠ 0 := fun q => hns T (by omega)
  have hB0 : B ≠ 0 := fun q => hne (by rw [← hB, q, Int.zero_mul])
  refine ⟨hB0, hB, ⟨b, hB.symm⟩, ?_, ?_, ?_⟩
  · intro q
    by_cases hb0 : 0 < b
    · have a := hT1 hb0
      have a3 := hp hb0
      by_cases c : -r ≤ T
      · have k : B * b < (r + 1 + T) * b := by
          rw [hB]
          have k1 : (r + 1 - T) * (r + 1 + T) ≤ b * (r + 1 + T) := Int.mul_le_mul_of_nonneg_right (by omega) (by omega)
          have k2 : (r + 1 - T) * (r + 1 + T) = (r + 1) * (r + 1) - T * T := by grind
          rw [Int.mul_comm b] at k1
          omega
        have := Int.lt_of_mul_lt_mul_right k (by omega)
        omega
      · exfalso
        have k : r * r ≤ (-T) * (-T) := Int.mul_le_mul (by omega) (by omega) r0 (by omega)
        have k3 : (r + 1) * (r + 1) ≤ (-T) * (-T) := Int.mul_le_mul (by omega) (by omega) (by omega) (by omega)
        rw [Int.neg_mul_neg] at k3
        have k2 := Int.mul_pos q hb0
        omega
    · have hb1 : b < 0 := by omega
      have a := hT2 hb1
      have a3 := hm hb1
      have k : B * (-b) < (r + T) * (-b) := by
        rw [Int.mul_neg, hB]
        have k1 : (T - r) * (T + r) ≤ (-b) * (T + r) := Int.mul_le_mul_of_nonneg_right (by omega) (by omega)
        have k2 : (T - r) * (r + T) = T * T - r * r := by grind
        rw [Int.mul_comm (-b), Int.add_comm T r] at k1
        omega
      have := Int.lt_of_mul_lt_mul_right k (by omega)
      omega
  · intro q
    by_cases hb0 : 0 < b
    · have a := hT1 hb0
      have a3 := hp hb0
      by_cases c : -r ≤ T
      · exfalso
        have k := sq_bd (a := T) (M := r) ⟨c, a.2⟩
        have k2 := Int.mul_pos (show 0 < -B by omega) hb0
        rw [Int.neg_mul] at k2
        omega
      · have k : (-B) * b < (-T - r) * b := by
          rw [Int.neg_mul, hB]
          have k1 : (-T + r) * (-T - r) ≤ b * (-T - r) := Int.mul_le_mul_of_nonneg_right (by omega) (by omega)
          have k2 : (-T + r) * (-T - r) = T * T - r * r := by grind
          rw [Int.mul_comm b] at k1
          omega
        have := Int.lt_of_mul_lt_mul_right k (by omega)
        omega
    · exfalso
      have hb1 : b < 0 := by omega
      have a := hT2 hb1
      have k3 : (r + 1) * (r + 1) ≤ T * T := Int.mul_le_mul (by omega) (by omega) (by omega) (by omega)
      have k2 := Int.mul_pos (show 0 < -B by omega) (show 0 < -b by omega)
      rw [Int.neg_mul_neg] at k2
      omega
  · by_cases hb0 : 0 < b
    · have a := hT1 hb0
      have a3 := hp hb0
      omega
    · have hb1 : b < 0 := by omega
      have a := hT2 hb1
      have a3 := hm hb1
      omega
def Dd (d q : Int) : Int := (d * (zabs q)) * (zabs q)
def sS (p d q : Int) : Nat → Int × Int
  | 0 => (p * (zabs q), q * (zabs q))
  | k + 1 => stp (Dd d q) (rt (Dd d q)) (sS p d q k)
/-- the term k -/
def tm (p d q : Int) (k : Int) : Int := wh (rt (Dd d q)) (sS p d q k.toNat).1 (sS p d q k.toNat).2
def vS (p d q : Int) : Prop := (-99 ≤ p ∧ p ≤ 99) ∧ (2 ≤ d ∧ d ≤ 999) ∧ (-99 ≤ q ∧ q ≤ 99) ∧ q ≠ 0 ∧ nsq d
theorem zabs_bd {q M : Int} (h : -M ≤ q ∧ q ≤ M) : 0 ≤ zabs q ∧ zabs q ≤ M := by have := zabs_or q; omega
theorem vS_D {p d q : Int} (h : vS p d q) : 2 ≤ Dd d q ∧ Dd d q ≤ 9791199 ∧ (∀ x : Int, x * x ≠ Dd d q) ∧ 1 ≤ zabs q ∧ zabs q ≤ 99 := by
  obtain ⟨h1, h2, h3, h4, h5⟩ := h
  have z := zabs_bd (M := 99) h3
  have z2 := zabs_or q
  have z3 : 1 ≤ zabs q := by omega
  unfold Dd
  generalize zabs q = a at *
  have a1 : 2 * 1 ≤ d * a := Int.mul_le_mul h2.1 z3 (by omega) (by omega)
  have a2 : d * a ≤ 999 * 99 := Int.mul_le_mul h2.2 z.2 (by omega) (by omega)
  have b1 : 2 * 1 ≤ (d * a) * a := Int.mul_le_mul (by omega) z3 (by omega) (by omega)
  have b2 : (d * a) * a ≤ (999 * 99) * 99 := Int.mul_le_mul a2 z.2 (by omega) (by omega)
  refine ⟨by omega, by omega, fun x hx => ?_, by omega, by omega⟩
  exact h5 x a (by omega) (by rw [hx]; grind)
theorem vS_r {p d q : Int} (h : vS p d q) : 0 ≤ rt (Dd d q) ∧ rt (Dd d q) ≤ 3129 ∧ rt (Dd d q) * rt (Dd d q) < Dd d q ∧ Dd d q < (rt (Dd d q) + 1) * (rt (Dd d q) + 1) := by
  obtain ⟨a1, a2, a3, a4, a5⟩ := vS_D h
  have s := rt_spec (x := Dd d q) (by omega)
  have s2 := a3 (rt (Dd d q))
  refine ⟨rt_nonneg _, rt_le (by omega) (by omega) (by omega), by omega, s.2⟩
/-- what holds at every step -/
def sOk (D r : Int) (c : Int × Int) : Prop := c.2 ≠ 0 ∧ c.2 ∣ D - c.1 * c.1 ∧ (0 < c.2 → c.2 ≤ 20000) ∧ (c.2 < 0 → -c.2 ≤ 20000 - 2 * r) ∧ (-30000 ≤ c.1 ∧ c.1 ≤ 30000)
theorem sS_ok {p d q : Int} (h : vS p d q) : ∀ k : Nat, sOk (Dd d q) (rt (Dd d q)) (sS p d q k)
  | 0 => by
    obtain ⟨r0, r1, r2, r3⟩ := vS_r h
    obtain ⟨a1, a2, a3, a4, a5⟩ := vS_D h
    obtain ⟨h1, h2, h3, h4, h5⟩ := h
    have z2 := zabs_or q
    have m1 := mul_bd (a := q) (b := zabs q) (M := 99) (N := 99) h3 (by omega)
    have m2 := mul_bd (a := p) (b := zabs q) (M := 99) (N := 99) h1 (by omega)
    unfold sS
    refine ⟨?_, ?_, ?_, ?_, ?_⟩ <;> dsimp only
    · exact Int.mul_ne_zero h4 (by omega)
    · unfold Dd
      rcases z2 with ⟨_, e⟩ | ⟨_, e⟩ <;> rw [e]
      · exact ⟨d - p * p, by grind⟩
      · exact ⟨-(d - p * p), by grind⟩
    · omega
    · omega
    · omega
  | k + 1 => by
    have ih := sS_ok h k
    obtain ⟨r0, r1, r2, r3⟩ := vS_r h
    obtain ⟨a1, a2, a3, a4, a5⟩ := vS_D h
    obtain ⟨i1, i2, i3, i4, i5⟩ := ih
    have s := stp_ok (D := Dd d q) (r := rt (Dd d q)) (M := 20000) (t := (sS p d q k).1) (b := (sS p d q k).2) r0 r2 r3 a3 (by omega) i1 i2 i3 i4
    obtain ⟨s1, s2, s3, s4, s5, s6⟩ := s
    exact ⟨s1, s3, s4, s5, by show -30000 ≤ (stp (Dd d q) (rt (Dd d q)) ((sS p d q k).1, (sS p d q k).2)).1 ∧ (stp (Dd d q) (rt (Dd d q)) ((sS p d q k).1, (sS p d q k).2)).1 ≤ 30000; omega⟩
