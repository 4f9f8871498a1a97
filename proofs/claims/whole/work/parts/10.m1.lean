/-! ===== MATH 1: whole roots ===== -/
def rtN : Nat → Nat
  | 0 => 0
  | n + 1 => if (rtN n + 1) * (rtN n + 1) ≤ n + 1 then rtN n + 1 else rtN n
theorem rtN_spec : ∀ n : Nat, rtN n * rtN n ≤ n ∧ n < (rtN n + 1) * (rtN n + 1)
  | 0 => by decide
  | n + 1 => by
    have ih := rtN_spec n
    unfold rtN
    split
    · rename_i h
      refine ⟨h, ?_⟩
      have e : (rtN n + 1 + 1) * (rtN n + 1 + 1) = (rtN n + 1) * (rtN n + 1) + 2 * (rtN n + 1) + 1 := by
        simp only [Nat.add_mul, Nat.mul_add]; omega
      omega
    · rename_i h
      omega
def rt (x : Int) : Int := (rtN x.toNat : Int)
theorem rt_nonneg (x : Int) : 0 ≤ rt x := Int.natCast_nonneg _
theorem rt_spec {x : Int} (h : 0 ≤ x) : rt x * rt x ≤ x ∧ x < (rt x + 1) * (rt x + 1) := by
  obtain ⟨n, rfl⟩ := Int.eq_ofNat_of_zero_le h
  have h1 := rtN_spec n
  unfold rt
  rw [Int.toNat_natCast]
  constructor
  · exact_mod_cast h1.1
  · exact_mod_cast h1.2
theorem sq_lt_of {a b : Int} (h0 : 0 ≤ b) (h : a * a < b * b) : a < b := by
  by_cases q : a < b
  · exact q
  · have q : b ≤ a := by omega
    have := Int.mul_le_mul q q h0 (by omega)
    omega
theorem rt_uniq {x r : Int} (h0 : 0 ≤ r) (h1 : r * r ≤ x) (h2 : x < (r + 1) * (r + 1)) : r = rt x := by
  have h3 : 0 ≤ x := Int.le_trans (Int.mul_nonneg h0 h0) h1
  have h4 := rt_spec h3
  have h5 := rt_nonneg x
  have a : r < rt x + 1 := sq_lt_of (by omega) (by omega)
  have b : rt x < r + 1 := sq_lt_of (by omega) (by omega)
  omega
theorem rt_le {x r : Int} (h0 : 0 ≤ r) (hx : 0 ≤ x) (h : x < (r + 1) * (r + 1)) : rt x ≤ r := by
  have h4 := rt_spec hx
  have : rt x < r + 1 := sq_lt_of (by omega) (by omega)
  omega
theorem rt_neg {x : Int} (h : x ≤ 0) : rt x = 0 := by
  unfold rt
  rw [show x.toNat = 0 by omega]; rfl
theorem sq_bd {a M : Int} (h : -M ≤ a ∧ a ≤ M) : 0 ≤ a * a ∧ a * a ≤ M * M := by
  by_cases h0 : 0 ≤ a
  · exact ⟨Int.mul_nonneg h0 h0, Int.mul_le_mul h.2 h.2 h0 (by omega)⟩
  · have e : a * a = (-a) * (-a) := by rw [Int.neg_mul_neg]
    rw [e]
    exact ⟨Int.mul_nonneg (by omega) (by omega), Int.mul_le_mul (by omega) (by omega) (by omega) (by omega)⟩
theorem mul_bd {a b M N : Int} (ha : -M ≤ a ∧ a ≤ M) (hb : -N ≤ b ∧ b ≤ N) : -(M * N) ≤ a * b ∧ a * b ≤ M * N := by
  have key : ∀ x y : Int, 0 ≤ x → x ≤ M → 0 ≤ y → y ≤ N → 0 ≤ x * y ∧ x * y ≤ M * N := fun x y h1 h2 h3 h4 => ⟨Int.mul_nonneg h1 h3, Int.mul_le_mul h2 h4 h3 (by omega)⟩
  by_cases h0 : 0 ≤ a <;> by_cases h1 : 0 ≤ b
  · have := key a b h0 ha.2 h1 hb.2; omega
  · have := key a (-b) h0 ha.2 (by omega) (by omega); rw [Int.mul_neg] at this; omega
  · have := key (-a) b (by omega) (by omega) h1 hb.2; rw [Int.neg_mul] at this; omega
  · have := key (-a) (-b) (by omega) (by omega) (by omega) (by omega); rw [Int.neg_mul_neg] at this; omega
/-- the bits 32768, 16384 .. 1, 0 -/
def bitOk (b : Int) : Prop := b = 32768 ∨ b = 16384 ∨ b = 8192 ∨ b = 4096 ∨ b = 2048 ∨ b = 1024 ∨ b = 512 ∨ b = 256 ∨ b = 128 ∨ b = 64 ∨ b = 32 ∨ b = 16 ∨ b = 8 ∨ b = 4 ∨ b = 2 ∨ b = 1 ∨ b = 0
theorem bitOk_nn {b : Int} (h : bitOk b) : 0 ≤ b := by unfold bitOk at h; omega
theorem bitOk_half {b : Int} (h : bitOk b) (h0 : 0 < b) : bitOk (b / 2) ∧ ((b = 1 ∧ b / 2 = 0) ∨ (2 * (b / 2) = b ∧ 0 < b / 2)) := by unfold bitOk at h ⊢; omega
/-- one step of the root by bits -/
def rtInv (n r b : Int) : Prop := 0 ≤ r ∧ r * r ≤ n ∧ bitOk b ∧ r + 2 * b ≤ 65536 ∧ (0 < b → n < (r + 2 * b) * (r + 2 * b)) ∧ (b = 0 → n < (r + 1) * (r + 1))
theorem rtInv_0 {n : Int} (h0 : 0 ≤ n) (h : n < 4294967296) : rtInv n 0 32768 := ⟨by omega, by omega, Or.inl rfl, by omega, fun _ => by omega, fun q => absurd q (by decide)⟩
theorem rtInv_up {n r b : Int} (h : rtInv n r b) (h0 : 0 < b) (h1 : (r + b) * (r + b) ≤ n) : rtInv n (r + b) (b / 2) := by
  obtain ⟨a1, a2, a3, a4, a5, a6⟩ := h
  obtain ⟨b1, b2⟩ := bitOk_half a3 h0
  refine ⟨by omega, h1, b1, by omega, fun q => ?_, fun q => ?_⟩
  · rcases b2 with b2 | b2
    · omega
    · have := a5 h0
      rw [b2.1, show r + b + b = r + 2 * b by omega]; exact this
  · rcases b2 with b2 | b2
    · have := a5 h0
      rw [b2.1] at this ⊢
      rw [show r + 1 + 1 = r + 2 * 1 by omega]; exact this
    · omega
theorem rtInv_dn {n r b : Int} (h : rtInv n r b) (h0 : 0 < b) (h1 : n < (r + b) * (r + b)) : rtInv n r (b / 2) := by
  obtain ⟨a1, a2, a3, a4, a5, a6⟩ := h
  obtain ⟨b1, b2⟩ := bitOk_half a3 h0
  refine ⟨a1, a2, b1, by omega, fun q => ?_, fun q => ?_⟩
  · rcases b2 with b2 | b2
    · omega
    · rw [b2.1]; exact h1
  · rcases b2 with b2 | b2
    · rw [b2.1] at h1; exact h1
    · omega
theorem rtInv_end {n r b : Int} (h : rtInv n r b) (h0 : b ≤ 0) : rt n = r := by
  have h1 := bitOk_nn h.2.2.1
  exact (rt_uniq h.1 h.2.1 (h.2.2.2.2.2 (by omega))).symm
theorem rtInv_bd {n r b : Int} (h : rtInv n r b) : 0 ≤ b ∧ b ≤ 32768 ∧ 0 ≤ r ∧ r ≤ 65536 ∧ 0 ≤ r + b ∧ r + b ≤ 65536 ∧ 0 ≤ (r + b) * (r + b) ∧ (r + b) * (r + b) ≤ 4294967296 := by
  obtain ⟨a1, a2, a3, a4, a5, a6⟩ := h
  have b1 := bitOk_nn a3
  have b2 : b ≤ 32768 := by unfold bitOk at a3; omega
  have b3 := sq_bd (a := r + b) (M := 65536) ⟨by omega, by omega⟩
  omega
-- division
theorem ediv_uniq {a b c : Int} (hb : 0 < b) (h1 : c * b ≤ a) (h2 : a < c * b + b) : a / b = c := by
  have h := (Int.ediv_emod_unique (a := a) (b := b) (r := a - c * b) (q := c) hb).mpr ⟨by rw [Int.mul_comm b c]; omega, by omega, by omega⟩
  exact h.1
theorem ediv_spec {a b : Int} (hb : 0 < b) : (a / b) * b ≤ a ∧ a < (a / b) * b + b := by
  have h1 := Int.mul_ediv_add_emod a b
  have h2 := Int.emod_nonneg a (b := b) (by omega)
  have h3 := Int.emod_lt_of_pos a hb
  rw [Int.mul_comm] at h1
  omega
theorem tdiv_spec {a b : Int} (hb : 0 < b) : (0 ≤ a → a.tdiv b = a / b) ∧ (a < 0 → (a.tdiv b) * b = a → a.tdiv b = a / b) ∧ (a < 0 → ¬ (a.tdiv b) * b = a → a.tdiv b - 1 = a / b) := by
  refine ⟨fun h => Int.tdiv_eq_ediv_of_nonneg h, fun h h1 => ?_, fun h h1 => ?_⟩
  · exact (ediv_uniq hb (by omega) (by omega)).symm
  · have e : a.tdiv b = -((-a) / b) := by
      rw [show a = -(-a) by omega, Int.neg_tdiv, Int.tdiv_eq_ediv_of_nonneg (by omega), Int.neg_neg]
    have s := ediv_spec (a := -a) hb
    rw [e] at h1 ⊢
    rw [Int.neg_mul] at h1
    refine (ediv_uniq hb ?_ ?_).symm
    · rw [Int.sub_mul, Int.neg_mul]; omega
    · rw [Int.sub_mul, Int.neg_mul]; omega
theorem zl_xor {a b : Int} (ha : -9223372036854775808 ≤ a ∧ a ≤ 9223372036854775807) (hb : -9223372036854775808 ≤ b ∧ b ≤ 9223372036854775807) : ∃ x : Int, zl a ^^^ zl b = zl x ∧ (-9223372036854775808 ≤ x ∧ x ≤ 9223372036854775807) ∧ (x < 0 ↔ ¬ (a < 0 ↔ b < 0)) := by
  refine ⟨(zl a ^^^ zl b).toInt, (Int64.ofInt_toInt _).symm, ⟨Int64.le_toInt _, ?_⟩, ?_⟩
  · have := Int64.toInt_lt (zl a ^^^ zl b); omega
  · have h1 : (zl a ^^^ zl b).toInt < 0 ↔ (zl a ^^^ zl b).toBitVec.msb = true := by
      rw [BitVec.msb_eq_toInt, Int64.toInt_toBitVec, decide_eq_true_eq]
    have h2 : (zl a).toBitVec.msb = decide (a < 0) := by rw [BitVec.msb_eq_toInt]; simp only [Int64.toInt_toBitVec, zl_toInt ha]
    have h3 : (zl b).toBitVec.msb = decide (b < 0) := by rw [BitVec.msb_eq_toInt]; simp only [Int64.toInt_toBitVec, zl_toInt hb]
    rw [h1, Int64.toBitVec_xor, BitVec.msb_xor, h2, h3]
    by_cases p : a < 0 <;> by_cases q : b < 0 <;> simp [p, q]
/-- the greatest whole number not above (t + the root of a number whose whole root is r) / b -/
def wh (r t b : Int) : Int := if 0 < b then (t + r) / b else if b < 0 then (-1) - (t + r) / (-b) else 0
theorem wh_pos {r t b : Int} (h : 0 < b) : wh r t b = (t + r) / b := if_pos h
theorem wh_neg {r t b : Int} (h : b < 0) : wh r t b = (-1) - (t + r) / (-b) := by unfold wh; rw [if_neg (by omega), if_pos h]
theorem wh_zero {r t b : Int} (h : b = 0) : wh r t b = 0 := by unfold wh; rw [if_neg (by omega), if_neg (by omega)]
theorem tdiv_bd {a b : Int} (hb : 0 < b) : -(zabs a) ≤ a.tdiv b ∧ a.tdiv b ≤ zabs a ∧ -(zabs a) ≤ (a.tdiv b) * b ∧ (a.tdiv b) * b ≤ zabs a := by
  have key : ∀ x : Int, 0 ≤ x → 0 ≤ x / b ∧ x / b ≤ x ∧ 0 ≤ (x / b) * b ∧ (x / b) * b ≤ x := by
    intro x hx
    have s := ediv_spec (a := x) hb
    have h1 : 0 ≤ x / b := Int.ediv_nonneg hx (by omega)
    have h2 : x / b ≤ (x / b) * b := by
      have := Int.mul_le_mul_of_nonneg_left (show 1 ≤ b by omega) h1
      rw [Int.mul_one] at this; exact this
    have h3 := Int.mul_nonneg h1 (show 0 ≤ b by omega)
    omega
  rcases zabs_or a with ⟨h0, e⟩ | ⟨h0, e⟩
  · have := key a h0
    rw [e, Int.tdiv_eq_ediv_of_nonneg h0]
    omega
  · have := key (-a) (by omega)
    have e2 : a.tdiv b = -((-a) / b) := by
      rw [show a = -(-a) by omega, Int.neg_tdiv, Int.tdiv_eq_ediv_of_nonneg (by omega), Int.neg_neg]
    rw [e, e2, Int.neg_mul]
    omega
theorem tdiv_floor {a b : Int} (hb : 0 < b) (h : 0 ≤ a ∨ a.tdiv b * b = a) : a / b = a.tdiv b := by
  have s := tdiv_spec (a := a) hb
  by_cases h0 : 0 ≤ a
  · exact (s.1 h0).symm
  · rcases h with h | h
    · exact absurd h h0
    · exact (s.2.1 (by omega) h).symm
