-- helper facts for the rows
theorem z32_0 : -2147483648 ≤ (0 : Int) ∧ (0 : Int) ≤ 2147483647 := ⟨by omega, by omega⟩
theorem zi_nat (N : Nat) : zi (N : Int) = Int32.ofNat N := Int32.ofInt_eq_ofNat
theorem zi_nI (N : Nat) : zi (N : Int) = nI N := Int32.ofInt_eq_ofNat
theorem zl_lN (N : Nat) : zl (N : Int) = lN N := Int64.ofInt_eq_ofNat
theorem zi_nn {a : Int} (h0 : 0 ≤ a) (h : a ≤ 2147483647) : ¬ zi a < 0 := by
  rw [← zi_0, zi_lt ⟨by omega, h⟩ z32_0]; omega
theorem zi_clampN {N : Nat} (h : N ≤ 2147483647) : (zi (N : Int)).toNatClampNeg = N := by
  have := zi_clamp (a := (N : Int)) (by omega) (by omega)
  omega
theorem zi_char {a : Int} (h : 0 ≤ a ∧ a < 65536) : ((zi a).toUInt32 % 65536).toInt32 = zi a := by
  obtain ⟨h0, h1⟩ := h
  obtain ⟨m, rfl⟩ := Int.eq_ofNat_of_zero_le h0
  rw [pk_char, zi_nI, pk_tn (by omega), Nat.mod_eq_of_lt (by omega)]
theorem zi_char16 {a : Int} (h : 0 ≤ a ∧ a < 65536) : (zi a).toUInt32.toUInt16.toUInt32.toInt32 = zi a := by
  obtain ⟨h0, h1⟩ := h
  obtain ⟨m, rfl⟩ := Int.eq_ofNat_of_zero_le h0
  rw [zi_nI]
  exact Value.int.inj (pk_charN (q := m) (by omega)).1
theorem nar_char {a : Int} (h : 0 ≤ a ∧ a < 65536) : narrow .char (.int (zi a)) = .int (zi a) := congrArg Value.int (zi_char16 h)
theorem nar_bool {a : Int} (h : a = 0 ∨ a = 1) : narrow .boolean (.int (zi a)) = .int (zi a) := by
  rcases h with rfl | rfl <;> rfl
theorem nar_int (a : Int) : narrow .int (.int (zi a)) = .int (zi a) := rfl
theorem fit_bool {a : Int} (h : a = 0 ∨ a = 1) : fits .boolean (.int (zi a)) = true := by
  rcases h with rfl | rfl <;> rfl
theorem zl_ne0 {b : Int} (h : -9223372036854775808 ≤ b ∧ b ≤ 9223372036854775807) (h0 : b ≠ 0) : ¬ zl b = 0 := by
  rw [← zl_0, zl_eq h ⟨by omega, by omega⟩]; exact h0
theorem zl_div {a b : Int} (ha : -9223372036854775808 ≤ a ∧ a ≤ 9223372036854775807) (hb : -9223372036854775808 ≤ b ∧ b ≤ 9223372036854775807) : zl a / zl b = zl (a.tdiv b) :=
  (Int64.ofInt_tdiv (by rw [Int64.toInt_minValue]; omega) (by rw [Int64.toInt_maxValue]; omega) (by rw [Int64.toInt_minValue]; omega) (by rw [Int64.toInt_maxValue]; omega)).symm
theorem zi_div {a b : Int} (ha : -2147483648 ≤ a ∧ a ≤ 2147483647) (hb : -2147483648 ≤ b ∧ b ≤ 2147483647) : zi a / zi b = zi (a.tdiv b) :=
  (Int32.ofInt_tdiv (by rw [Int32.toInt_minValue]; omega) (by rw [Int32.toInt_maxValue]; omega) (by rw [Int32.toInt_minValue]; omega) (by rw [Int32.toInt_maxValue]; omega)).symm
theorem zl_rem {a b : Int} (ha : -9223372036854775808 ≤ a ∧ a ≤ 9223372036854775807) (hb : -9223372036854775808 ≤ b ∧ b ≤ 9223372036854775807) : zl a - zl a / zl b * zl b = zl (a.tmod b) := by
  rw [zl_div ha hb, zl_mul, zl_sub, Int.tmod_def, Int.mul_comm]
theorem zi_rem2 {a : Int} (ha : -2147483648 ≤ a ∧ a ≤ 2147483647) (h0 : 0 ≤ a) : zi a - zi a / zi 2 * zi 2 = zi (a % 2) := by
  rw [zi_div ha ⟨by omega, by omega⟩, zi_mul, zi_sub, Int.tdiv_eq_ediv_of_nonneg h0]
  congr 1; omega
theorem zl_shr1 {a : Int} (h : 0 ≤ a ∧ a < 4611686018427387904) : zl a >>> ((zi 1).toInt64 &&& 63) = zl (a / 2) := by
  apply Int64.toInt_inj.mp
  have e : (zl a >>> ((zi 1).toInt64 &&& 63)).toInt = (zl a).toInt >>> 1 := BitVec.toInt_sshiftRight ..
  rw [e, Int.shiftRight_eq_div_pow, zl_toInt (by omega), zl_toInt (by omega)]
  rfl
def zabs (a : Int) : Int := if 0 < a then a else -a
theorem zabs_pos {a : Int} (h : 0 ≤ a) : zabs a = a := by unfold zabs; split <;> omega
theorem zabs_neg {a : Int} (h : a ≤ 0) : zabs a = -a := by unfold zabs; split <;> omega
theorem zabs_or (a : Int) : (0 ≤ a ∧ zabs a = a) ∨ (a < 0 ∧ zabs a = -a) := by unfold zabs; split <;> omega
theorem zl_abs {a : Int} (h : -9223372036854775808 ≤ a ∧ a ≤ 9223372036854775807) : (if 0 < zl a then zl a else -zl a) = zl (zabs a) := by
  unfold zabs
  by_cases h1 : 0 < a
  · rw [if_pos h1, if_pos (by rw [← zl_0, zl_lt ⟨by omega, by omega⟩ h]; exact h1)]
  · rw [if_neg h1, if_neg (by rw [← zl_0, zl_lt ⟨by omega, by omega⟩ h]; exact h1), zl_neg]
theorem zi_max {a b : Int} (ha : -2147483648 ≤ a ∧ a ≤ 2147483647) (hb : -2147483648 ≤ b ∧ b ≤ 2147483647) : (if zi a < zi b then zi b else zi a) = zi (if a < b then b else a) := by
  by_cases h1 : a < b
  · rw [if_pos h1, if_pos ((zi_lt ha hb).mpr h1)]
  · rw [if_neg h1, if_neg (fun z => h1 ((zi_lt ha hb).mp z))]
/-! ===== Z-LAYER 2: the instruction rows over Zg ===== -/
section ZROWS
variable {X : zX} {own : String} {cc : ByteArray} {nL : Nat} {rm : Room} {l0 : Launch} {D0 : va_G} {κ0 : Nat → ClassId} {ws : va_W} {k n pc : Nat} {lv : List (Nat × Value)} {st : List Value}
theorem z_iconst (E : ZE X own cc nL rm l0 D0 κ0) {v : Int} (hdg : decode cc pc = .ok (.iconst v, 1)) (kk : Zg X ws k n (pc + 1) lv (.int (zi v) :: st)) : Zg X ws k n pc lv st := by
  obtain ⟨p, l, e, R, s, m, args, below, meth, c, Q, D, κ, A, nl⟩ := X
  obtain ⟨⟨hx, hb, hml, hown, hts⟩, hlk, hK, rfl, hA, rfl, rfl, rfl, rfl⟩ := E
  intro H locs ls hP hD hS hl
  exact lv_iconst hx hb hdg rfl (kk H locs ls hP hD hS hl)
theorem z_bipush (E : ZE X own cc nL rm l0 D0 κ0) {v : Int} (hdg : decode cc pc = .ok (.bipush v, 2)) (hv : (Int8.ofInt v).toInt32 = zi v) (kk : Zg X ws k n (pc + 2) lv (.int (zi v) :: st)) : Zg X ws k n pc lv st := by
  obtain ⟨p, l, e, R, s, m, args, below, meth, c, Q, D, κ, A, nl⟩ := X
  obtain ⟨⟨hx, hb, hml, hown, hts⟩, hlk, hK, rfl, hA, rfl, rfl, rfl, rfl⟩ := E
  intro H locs ls hP hD hS hl
  exact lv_bipush hx hb hdg hv (kk H locs ls hP hD hS hl)
theorem z_sipush (E : ZE X own cc nL rm l0 D0 κ0) {v : Int} (hdg : decode cc pc = .ok (.sipush v, 3)) (hv : (Int16.ofInt v).toInt32 = zi v) (kk : Zg X ws k n (pc + 3) lv (.int (zi v) :: st)) : Zg X ws k n pc lv st := by
  obtain ⟨p, l, e, R, s, m, args, below, meth, c, Q, D, κ, A, nl⟩ := X
  obtain ⟨⟨hx, hb, hml, hown, hts⟩, hlk, hK, rfl, hA, rfl, rfl, rfl, rfl⟩ := E
  intro H locs ls hP hD hS hl
  exact lv_sipush hx hb hdg hv (kk H locs ls hP hD hS hl)
theorem z_lconst0 (E : ZE X own cc nL rm l0 D0 κ0) (hdg : decode cc pc = .ok (.lconst 0, 1)) (kk : Zg X ws k n (pc + 1) lv (.long (zl 0) :: st)) : Zg X ws k n pc lv st := by
  obtain ⟨p, l, e, R, s, m, args, below, meth, c, Q, D, κ, A, nl⟩ := X
  obtain ⟨⟨hx, hb, hml, hown, hts⟩, hlk, hK, rfl, hA, rfl, rfl, rfl, rfl⟩ := E
  intro H locs ls hP hD hS hl
  exact lv_lconst (v := zl 0) hx hb hdg rfl (kk H locs ls hP hD hS hl)
theorem z_lconst1 (E : ZE X own cc nL rm l0 D0 κ0) (hdg : decode cc pc = .ok (.lconst 1, 1)) (kk : Zg X ws k n (pc + 1) lv (.long (zl 1) :: st)) : Zg X ws k n pc lv st := by
  obtain ⟨p, l, e, R, s, m, args, below, meth, c, Q, D, κ, A, nl⟩ := X
  obtain ⟨⟨hx, hb, hml, hown, hts⟩, hlk, hK, rfl, hA, rfl, rfl, rfl, rfl⟩ := E
  intro H locs ls hP hD hS hl
  exact lv_lconst (v := zl 1) hx hb hdg rfl (kk H locs ls hP hD hS hl)
theorem z_ldc (E : ZE X own cc nL rm l0 D0 κ0) {ix : Nat} {v : Int} (hc : Cond.constant own ix (zi v) ∈ zB) (hdg : decode cc pc = .ok (.ldc ix, 2)) (kk : Zg X ws k n (pc + 2) lv (.int (zi v) :: st)) : Zg X ws k n pc lv st := by
  obtain ⟨p, l, e, R, s, m, args, below, meth, c, Q, D, κ, A, nl⟩ := X
  obtain ⟨⟨hx, hb, hml, hown, hts⟩, hlk, hK, rfl, hA, rfl, rfl, rfl, rfl⟩ := E
  intro H locs ls hP hD hS hl
  exact lv_ldc hx hb hown (hts _ hc) hdg (kk H locs ls hP hD hS hl)
theorem z_ldc2 (E : ZE X own cc nL rm l0 D0 κ0) {ix : Nat} {v : Int} (hc : Cond.constantLong own ix (zl v) ∈ zB) (hdg : decode cc pc = .ok (.ldc2_w ix, 3)) (kk : Zg X ws k n (pc + 3) lv (.long (zl v) :: st)) : Zg X ws k n pc lv st := by
  obtain ⟨p, l, e, R, s, m, args, below, meth, c, Q, D, κ, A, nl⟩ := X
  obtain ⟨⟨hx, hb, hml, hown, hts⟩, hlk, hK, rfl, hA, rfl, rfl, rfl, rfl⟩ := E
  intro H locs ls hP hD hS hl
  exact lv_ldc2 hx hb hown (hts _ hc) hdg (kk H locs ls hP hD hS hl)
theorem z_iload_n (E : ZE X own cc nL rm l0 D0 κ0) {q : Fin 4} {i : Nat} {x : Int32} (j : Nat) (hj : lv[j]? = some (i, .int x)) (hi : (q : Nat) = i) (hdg : decode cc pc = .ok (.iload_n q, 1)) (kk : Zg X ws k n (pc + 1) lv (.int x :: st)) : Zg X ws k n pc lv st := by
  obtain ⟨p, l, e, R, s, m, args, below, meth, c, Q, D, κ, A, nl⟩ := X
  obtain ⟨⟨hx, hb, hml, hown, hts⟩, hlk, hK, rfl, hA, rfl, rfl, rfl, rfl⟩ := E
  intro H locs ls hP hD hS hl
  exact lv_iload_n hx hb hdg hi (lv_at hl j hj) (kk H locs ls hP hD hS hl)
theorem z_iload (E : ZE X own cc nL rm l0 D0 κ0) {i : Nat} {x : Int32} (j : Nat) (hj : lv[j]? = some (i, .int x)) (hdg : decode cc pc = .ok (.iload i, 2)) (kk : Zg X ws k n (pc + 2) lv (.int x :: st)) : Zg X ws k n pc lv st := by
  obtain ⟨p, l, e, R, s, m, args, below, meth, c, Q, D, κ, A, nl⟩ := X
  obtain ⟨⟨hx, hb, hml, hown, hts⟩, hlk, hK, rfl, hA, rfl, rfl, rfl, rfl⟩ := E
  intro H locs ls hP hD hS hl
  exact lv_iload hx hb hdg (lv_at hl j hj) (kk H locs ls hP hD hS hl)
theorem z_lload_n (E : ZE X own cc nL rm l0 D0 κ0) {q : Fin 4} {i : Nat} {x : Int64} (j : Nat) (hj : lv[j]? = some (i, .long x)) (hi : (q : Nat) = i) (hdg : decode cc pc = .ok (.lload_n q, 1)) (kk : Zg X ws k n (pc + 1) lv (.long x :: st)) : Zg X ws k n pc lv st := by
  obtain ⟨p, l, e, R, s, m, args, below, meth, c, Q, D, κ, A, nl⟩ := X
  obtain ⟨⟨hx, hb, hml, hown, hts⟩, hlk, hK, rfl, hA, rfl, rfl, rfl, rfl⟩ := E
  intro H locs ls hP hD hS hl
  exact lv_lload_n hx hb hdg hi (lv_at hl j hj) (kk H locs ls hP hD hS hl)
theorem z_lload (E : ZE X own cc nL rm l0 D0 κ0) {i : Nat} {x : Int64} (j : Nat) (hj : lv[j]? = some (i, .long x)) (hdg : decode cc pc = .ok (.lload i, 2)) (kk : Zg X ws k n (pc + 2) lv (.long x :: st)) : Zg X ws k n pc lv st := by
  obtain ⟨p, l, e, R, s, m, args, below, meth, c, Q, D, κ, A, nl⟩ := X
  obtain ⟨⟨hx, hb, hml, hown, hts⟩, hlk, hK, rfl, hA, rfl, rfl, rfl, rfl⟩ := E
  intro H locs ls hP hD hS hl
  exact lv_lload hx hb hdg (lv_at hl j hj) (kk H locs ls hP hD hS hl)
theorem z_aload_n (E : ZE X own cc nL rm l0 D0 κ0) {q : Fin 4} {i : Nat} {x : Nat} (j : Nat) (hj : lv[j]? = some (i, .ref x)) (hi : (q : Nat) = i) (hdg : decode cc pc = .ok (.aload_n q, 1)) (kk : Zg X ws k n (pc + 1) lv (.ref x :: st)) : Zg X ws k n pc lv st := by
  obtain ⟨p, l, e, R, s, m, args, below, meth, c, Q, D, κ, A, nl⟩ := X
  obtain ⟨⟨hx, hb, hml, hown, hts⟩, hlk, hK, rfl, hA, rfl, rfl, rfl, rfl⟩ := E
  intro H locs ls hP hD hS hl
  exact lv_aload_n hx hb hdg hi (lv_at hl j hj) (kk H locs ls hP hD hS hl)
theorem z_aload (E : ZE X own cc nL rm l0 D0 κ0) {i : Nat} {x : Nat} (j : Nat) (hj : lv[j]? = some (i, .ref x)) (hdg : decode cc pc = .ok (.aload i, 2)) (kk : Zg X ws k n (pc + 2) lv (.ref x :: st)) : Zg X ws k n pc lv st := by
  obtain ⟨p, l, e, R, s, m, args, below, meth, c, Q, D, κ, A, nl⟩ := X
  obtain ⟨⟨hx, hb, hml, hown, hts⟩, hlk, hK, rfl, hA, rfl, rfl, rfl, rfl⟩ := E
  intro H locs ls hP hD hS hl
  exact lv_aload hx hb hdg (lv_at hl j hj) (kk H locs ls hP hD hS hl)
theorem z_istore_n (E : ZE X own cc nL rm l0 D0 κ0) {q : Fin 4} {i : Nat} {x : Int32} {lv' : List (Nat × Value)} (hdg : decode cc pc = .ok (.istore_n q, 1)) (hi : (q : Nat) = i) (hn : i < nL) (h : (i, Value.int x) :: lv.filter (fun q => !(q.1 == i) && !(q.1 + 1 == i && q.2.category == 2)) = lv') (kk : Zg X ws k n (pc + 1) lv' st) : Zg X ws k n pc lv (.int x :: st) := by
  obtain ⟨p, l, e, R, s, m, args, below, meth, c, Q, D, κ, A, nl⟩ := X
  obtain ⟨⟨hx, hb, hml, hown, hts⟩, hlk, hK, rfl, hA, rfl, rfl, rfl, rfl⟩ := E
  intro H locs ls hP hD hS hl
  exact lv_istore_n hx hb hdg hi hl hn h (fun ls hl => kk H locs ls hP hD hS hl)
theorem z_istore (E : ZE X own cc nL rm l0 D0 κ0) {i : Nat} {x : Int32} {lv' : List (Nat × Value)} (hdg : decode cc pc = .ok (.istore i, 2)) (hn : i < nL) (h : (i, Value.int x) :: lv.filter (fun q => !(q.1 == i) && !(q.1 + 1 == i && q.2.category == 2)) = lv') (kk : Zg X ws k n (pc + 2) lv' st) : Zg X ws k n pc lv (.int x :: st) := by
  obtain ⟨p, l, e, R, s, m, args, below, meth, c, Q, D, κ, A, nl⟩ := X
  obtain ⟨⟨hx, hb, hml, hown, hts⟩, hlk, hK, rfl, hA, rfl, rfl, rfl, rfl⟩ := E
  intro H locs ls hP hD hS hl
  exact lv_istore hx hb hdg hl hn h (fun ls hl => kk H locs ls hP hD hS hl)
theorem z_lstore_n (E : ZE X own cc nL rm l0 D0 κ0) {q : Fin 4} {i : Nat} {x : Int64} {lv' : List (Nat × Value)} (hdg : decode cc pc = .ok (.lstore_n q, 1)) (hi : (q : Nat) = i) (hn : i + 1 < nL) (h : (i, Value.long x) :: lv.filter (fun q => !(q.1 == i) && (!(q.1 == i + 1) && !(q.1 + 1 == i && q.2.category == 2))) = lv') (kk : Zg X ws k n (pc + 1) lv' st) : Zg X ws k n pc lv (.long x :: st) := by
  obtain ⟨p, l, e, R, s, m, args, below, meth, c, Q, D, κ, A, nl⟩ := X
  obtain ⟨⟨hx, hb, hml, hown, hts⟩, hlk, hK, rfl, hA, rfl, rfl, rfl, rfl⟩ := E
  intro H locs ls hP hD hS hl
  exact lv_lstore_n hx hb hdg hi hl hn h (fun ls hl => kk H locs ls hP hD hS hl)
theorem z_lstore (E : ZE X own cc nL rm l0 D0 κ0) {i : Nat} {x : Int64} {lv' : List (Nat × Value)} (hdg : decode cc pc = .ok (.lstore i, 2)) (hn : i + 1 < nL) (h : (i, Value.long x) :: lv.filter (fun q => !(q.1 == i) && (!(q.1 == i + 1) && !(q.1 + 1 == i && q.2.category == 2))) = lv') (kk : Zg X ws k n (pc + 2) lv' st) : Zg X ws k n pc lv (.long x :: st) := by
  obtain ⟨p, l, e, R, s, m, args, below, meth, c, Q, D, κ, A, nl⟩ := X
  obtain ⟨⟨hx, hb, hml, hown, hts⟩, hlk, hK, rfl, hA, rfl, rfl, rfl, rfl⟩ := E
  intro H locs ls hP hD hS hl
  exact lv_lstore hx hb hdg hl hn h (fun ls hl => kk H locs ls hP hD hS hl)
theorem z_astore_n (E : ZE X own cc nL rm l0 D0 κ0) {q : Fin 4} {i : Nat} {x : Nat} {lv' : List (Nat × Value)} (hdg : decode cc pc = .ok (.astore_n q, 1)) (hi : (q : Nat) = i) (hn : i < nL) (h : (i, Value.ref x) :: lv.filter (fun q => !(q.1 == i) && !(q.1 + 1 == i && q.2.category == 2)) = lv') (kk : Zg X ws k n (pc + 1) lv' st) : Zg X ws k n pc lv (.ref x :: st) := by
  obtain ⟨p, l, e, R, s, m, args, below, meth, c, Q, D, κ, A, nl⟩ := X
  obtain ⟨⟨hx, hb, hml, hown, hts⟩, hlk, hK, rfl, hA, rfl, rfl, rfl, rfl⟩ := E
  intro H locs ls hP hD hS hl
  exact lv_astore_n hx hb hdg hi hl hn h (fun ls hl => kk H locs ls hP hD hS hl)
theorem z_astore (E : ZE X own cc nL rm l0 D0 κ0) {i : Nat} {x : Nat} {lv' : List (Nat × Value)} (hdg : decode cc pc = .ok (.astore i, 2)) (hn : i < nL) (h : (i, Value.ref x) :: lv.filter (fun q => !(q.1 == i) && !(q.1 + 1 == i && q.2.category == 2)) = lv') (kk : Zg X ws k n (pc + 2) lv' st) : Zg X ws k n pc lv (.ref x :: st) := by
  obtain ⟨p, l, e, R, s, m, args, below, meth, c, Q, D, κ, A, nl⟩ := X
  obtain ⟨⟨hx, hb, hml, hown, hts⟩, hlk, hK, rfl, hA, rfl, rfl, rfl, rfl⟩ := E
  intro H locs ls hP hD hS hl
  exact lv_astore hx hb hdg hl hn h (fun ls hl => kk H locs ls hP hD hS hl)
theorem z_iinc (E : ZE X own cc nL rm l0 D0 κ0) {i : Nat} {d x : Int} {lv' : List (Nat × Value)} (j : Nat) (hj : lv[j]? = some (i, .int (zi x))) (hdg : decode cc pc = .ok (.iinc i d, 3)) (hn : i < nL) (h : (i, Value.int (zi (x + d))) :: lv.filter (fun q => !(q.1 == i) && !(q.1 + 1 == i && q.2.category == 2)) = lv') (kk : Zg X ws k n (pc + 3) lv' st) : Zg X ws k n pc lv st := by
  obtain ⟨p, l, e, R, s, m, args, below, meth, c, Q, D, κ, A, nl⟩ := X
  obtain ⟨⟨hx, hb, hml, hown, hts⟩, hlk, hK, rfl, hA, rfl, rfl, rfl, rfl⟩ := E
  intro H locs ls hP hD hS hl
  exact lv_iinc (v := zi (x + d)) hx hb hdg hl hj (zi_add x d) hn h (fun ls hl => kk H locs ls hP hD hS hl)
theorem z_iadd (E : ZE X own cc nL rm l0 D0 κ0) {a b : Int} (hdg : decode cc pc = .ok (.iadd, 1)) (kk : Zg X ws k n (pc + 1) lv (.int (zi (a + b)) :: st)) : Zg X ws k n pc lv (.int (zi b) :: .int (zi a) :: st) := by
  obtain ⟨p, l, e, R, s, m, args, below, meth, c, Q, D, κ, A, nl⟩ := X
  obtain ⟨⟨hx, hb, hml, hown, hts⟩, hlk, hK, rfl, hA, rfl, rfl, rfl, rfl⟩ := E
  intro H locs ls hP hD hS hl
  exact lv_iadd hx hb hdg (by rw [zi_add]; exact kk H locs ls hP hD hS hl)
theorem z_isub (E : ZE X own cc nL rm l0 D0 κ0) {a b : Int} (hdg : decode cc pc = .ok (.isub, 1)) (kk : Zg X ws k n (pc + 1) lv (.int (zi (a - b)) :: st)) : Zg X ws k n pc lv (.int (zi b) :: .int (zi a) :: st) := by
  obtain ⟨p, l, e, R, s, m, args, below, meth, c, Q, D, κ, A, nl⟩ := X
  obtain ⟨⟨hx, hb, hml, hown, hts⟩, hlk, hK, rfl, hA, rfl, rfl, rfl, rfl⟩ := E
  intro H locs ls hP hD hS hl
  exact lv_isub hx hb hdg (by rw [zi_sub]; exact kk H locs ls hP hD hS hl)
theorem z_imul (E : ZE X own cc nL rm l0 D0 κ0) {a b : Int} (hdg : decode cc pc = .ok (.imul, 1)) (kk : Zg X ws k n (pc + 1) lv (.int (zi (a * b)) :: st)) : Zg X ws k n pc lv (.int (zi b) :: .int (zi a) :: st) := by
  obtain ⟨p, l, e, R, s, m, args, below, meth, c, Q, D, κ, A, nl⟩ := X
  obtain ⟨⟨hx, hb, hml, hown, hts⟩, hlk, hK, rfl, hA, rfl, rfl, rfl, rfl⟩ := E
  intro H locs ls hP hD hS hl
  exact lv_imul hx hb hdg (by rw [zi_mul]; exact kk H locs ls hP hD hS hl)
theorem z_ladd (E : ZE X own cc nL rm l0 D0 κ0) {a b : Int} (hdg : decode cc pc = .ok (.ladd, 1)) (kk : Zg X ws k n (pc + 1) lv (.long (zl (a + b)) :: st)) : Zg X ws k n pc lv (.long (zl b) :: .long (zl a) :: st) := by
  obtain ⟨p, l, e, R, s, m, args, below, meth, c, Q, D, κ, A, nl⟩ := X
  obtain ⟨⟨hx, hb, hml, hown, hts⟩, hlk, hK, rfl, hA, rfl, rfl, rfl, rfl⟩ := E
  intro H locs ls hP hD hS hl
  exact lv_ladd hx hb hdg (by rw [zl_add]; exact kk H locs ls hP hD hS hl)
theorem z_lsub (E : ZE X own cc nL rm l0 D0 κ0) {a b : Int} (hdg : decode cc pc = .ok (.lsub, 1)) (kk : Zg X ws k n (pc + 1) lv (.long (zl (a - b)) :: st)) : Zg X ws k n pc lv (.long (zl b) :: .long (zl a) :: st) := by
  obtain ⟨p, l, e, R, s, m, args, below, meth, c, Q, D, κ, A, nl⟩ := X
  obtain ⟨⟨hx, hb, hml, hown, hts⟩, hlk, hK, rfl, hA, rfl, rfl, rfl, rfl⟩ := E
  intro H locs ls hP hD hS hl
  exact lv_lsub hx hb hdg (by rw [zl_sub]; exact kk H locs ls hP hD hS hl)
theorem z_lmul (E : ZE X own cc nL rm l0 D0 κ0) {a b : Int} (hdg : decode cc pc = .ok (.lmul, 1)) (kk : Zg X ws k n (pc + 1) lv (.long (zl (a * b)) :: st)) : Zg X ws k n pc lv (.long (zl b) :: .long (zl a) :: st) := by
  obtain ⟨p, l, e, R, s, m, args, below, meth, c, Q, D, κ, A, nl⟩ := X
  obtain ⟨⟨hx, hb, hml, hown, hts⟩, hlk, hK, rfl, hA, rfl, rfl, rfl, rfl⟩ := E
  intro H locs ls hP hD hS hl
  exact lv_lmul hx hb hdg (by rw [zl_mul]; exact kk H locs ls hP hD hS hl)
theorem z_ineg (E : ZE X own cc nL rm l0 D0 κ0) {a : Int} (hdg : decode cc pc = .ok (.ineg, 1)) (kk : Zg X ws k n (pc + 1) lv (.int (zi (-a)) :: st)) : Zg X ws k n pc lv (.int (zi a) :: st) := by
  obtain ⟨p, l, e, R, s, m, args, below, meth, c, Q, D, κ, A, nl⟩ := X
  obtain ⟨⟨hx, hb, hml, hown, hts⟩, hlk, hK, rfl, hA, rfl, rfl, rfl, rfl⟩ := E
  intro H locs ls hP hD hS hl
  exact lv_ineg hx hb hdg (by rw [zi_neg]; exact kk H locs ls hP hD hS hl)
theorem z_lneg (E : ZE X own cc nL rm l0 D0 κ0) {a : Int} (hdg : decode cc pc = .ok (.lneg, 1)) (kk : Zg X ws k n (pc + 1) lv (.long (zl (-a)) :: st)) : Zg X ws k n pc lv (.long (zl a) :: st) := by
  obtain ⟨p, l, e, R, s, m, args, below, meth, c, Q, D, κ, A, nl⟩ := X
  obtain ⟨⟨hx, hb, hml, hown, hts⟩, hlk, hK, rfl, hA, rfl, rfl, rfl, rfl⟩ := E
  intro H locs ls hP hD hS hl
  exact lv_lneg hx hb hdg (by rw [zl_neg]; exact kk H locs ls hP hD hS hl)
theorem z_i2l (E : ZE X own cc nL rm l0 D0 κ0) {a : Int} (ha : -2147483648 ≤ a ∧ a ≤ 2147483647) (hdg : decode cc pc = .ok (.i2l, 1)) (kk : Zg X ws k n (pc + 1) lv (.long (zl a) :: st)) : Zg X ws k n pc lv (.int (zi a) :: st) := by
  obtain ⟨p, l, e, R, s, m, args, below, meth, c, Q, D, κ, A, nl⟩ := X
  obtain ⟨⟨hx, hb, hml, hown, hts⟩, hlk, hK, rfl, hA, rfl, rfl, rfl, rfl⟩ := E
  intro H locs ls hP hD hS hl
  exact lv_i2l hx hb hdg (zi_l ha) (kk H locs ls hP hD hS hl)
theorem z_l2i (E : ZE X own cc nL rm l0 D0 κ0) {a : Int} (hdg : decode cc pc = .ok (.l2i, 1)) (kk : Zg X ws k n (pc + 1) lv (.int (zi a) :: st)) : Zg X ws k n pc lv (.long (zl a) :: st) := by
  obtain ⟨p, l, e, R, s, m, args, below, meth, c, Q, D, κ, A, nl⟩ := X
  obtain ⟨⟨hx, hb, hml, hown, hts⟩, hlk, hK, rfl, hA, rfl, rfl, rfl, rfl⟩ := E
  intro H locs ls hP hD hS hl
  exact lv_l2i hx hb hdg (zl_i a) (kk H locs ls hP hD hS hl)
theorem z_i2c (E : ZE X own cc nL rm l0 D0 κ0) {a : Int} (ha : 0 ≤ a ∧ a < 65536) (hdg : decode cc pc = .ok (.i2c, 1)) (kk : Zg X ws k n (pc + 1) lv (.int (zi a) :: st)) : Zg X ws k n pc lv (.int (zi a) :: st) := by
  obtain ⟨p, l, e, R, s, m, args, below, meth, c, Q, D, κ, A, nl⟩ := X
  obtain ⟨⟨hx, hb, hml, hown, hts⟩, hlk, hK, rfl, hA, rfl, rfl, rfl, rfl⟩ := E
  intro H locs ls hP hD hS hl
  exact lv_i2c hx hb hdg (zi_char ha) (kk H locs ls hP hD hS hl)
theorem z_ldiv (E : ZE X own cc nL rm l0 D0 κ0) {a b : Int} (ha : -9223372036854775808 ≤ a ∧ a ≤ 9223372036854775807) (hbb : -9223372036854775808 ≤ b ∧ b ≤ 9223372036854775807) (h0 : b ≠ 0) (hdg : decode cc pc = .ok (.ldiv, 1)) (kk : Zg X ws k n (pc + 1) lv (.long (zl (a.tdiv b)) :: st)) : Zg X ws k n pc lv (.long (zl b) :: .long (zl a) :: st) := by
  obtain ⟨p, l, e, R, s, m, args, below, meth, c, Q, D, κ, A, nl⟩ := X
  obtain ⟨⟨hx, hb, hml, hown, hts⟩, hlk, hK, rfl, hA, rfl, rfl, rfl, rfl⟩ := E
  intro H locs ls hP hD hS hl
  exact lv_ldiv hx hb hdg (zl_ne0 hbb h0) (by rw [zl_div ha hbb]; exact kk H locs ls hP hD hS hl)
theorem z_lrem (E : ZE X own cc nL rm l0 D0 κ0) {a b : Int} (ha : -9223372036854775808 ≤ a ∧ a ≤ 9223372036854775807) (hbb : -9223372036854775808 ≤ b ∧ b ≤ 9223372036854775807) (h0 : b ≠ 0) (hdg : decode cc pc = .ok (.lrem, 1)) (kk : Zg X ws k n (pc + 1) lv (.long (zl (a.tmod b)) :: st)) : Zg X ws k n pc lv (.long (zl b) :: .long (zl a) :: st) := by
  obtain ⟨p, l, e, R, s, m, args, below, meth, c, Q, D, κ, A, nl⟩ := X
  obtain ⟨⟨hx, hb, hml, hown, hts⟩, hlk, hK, rfl, hA, rfl, rfl, rfl, rfl⟩ := E
  intro H locs ls hP hD hS hl
  exact lv_lrem hx hb hdg (zl_ne0 hbb h0) (by rw [zl_rem ha hbb]; exact kk H locs ls hP hD hS hl)
theorem z_irem2 (E : ZE X own cc nL rm l0 D0 κ0) {a : Int} (ha : -2147483648 ≤ a ∧ a ≤ 2147483647) (h0 : 0 ≤ a) (hdg : decode cc pc = .ok (.irem, 1)) (kk : Zg X ws k n (pc + 1) lv (.int (zi (a % 2)) :: st)) : Zg X ws k n pc lv (.int (zi 2) :: .int (zi a) :: st) := by
  obtain ⟨p, l, e, R, s, m, args, below, meth, c, Q, D, κ, A, nl⟩ := X
  obtain ⟨⟨hx, hb, hml, hown, hts⟩, hlk, hK, rfl, hA, rfl, rfl, rfl, rfl⟩ := E
  intro H locs ls hP hD hS hl
  exact lv_irem hx hb hdg (by decide) (by rw [zi_rem2 ha h0]; exact kk H locs ls hP hD hS hl)
theorem z_lshr1 (E : ZE X own cc nL rm l0 D0 κ0) {a : Int} (ha : 0 ≤ a ∧ a < 4611686018427387904) (hdg : decode cc pc = .ok (.lshr, 1)) (kk : Zg X ws k n (pc + 1) lv (.long (zl (a / 2)) :: st)) : Zg X ws k n pc lv (.int (zi 1) :: .long (zl a) :: st) := by
  obtain ⟨p, l, e, R, s, m, args, below, meth, c, Q, D, κ, A, nl⟩ := X
  obtain ⟨⟨hx, hb, hml, hown, hts⟩, hlk, hK, rfl, hA, rfl, rfl, rfl, rfl⟩ := E
  intro H locs ls hP hD hS hl
  exact lv_lshr hx hb hdg (zl_shr1 ha) (kk H locs ls hP hD hS hl)
theorem z_lxor (E : ZE X own cc nL rm l0 D0 κ0) {x y : Int64} (hdg : decode cc pc = .ok (.lxor, 1)) (kk : Zg X ws k n (pc + 1) lv (.long (x ^^^ y) :: st)) : Zg X ws k n pc lv (.long y :: .long x :: st) := by
  obtain ⟨p, l, e, R, s, m, args, below, meth, c, Q, D, κ, A, nl⟩ := X
  obtain ⟨⟨hx, hb, hml, hown, hts⟩, hlk, hK, rfl, hA, rfl, rfl, rfl, rfl⟩ := E
  intro H locs ls hP hD hS hl
  exact lv_lxor hx hb hdg (kk H locs ls hP hD hS hl)
theorem z_iand (E : ZE X own cc nL rm l0 D0 κ0) {x y : Int32} (hdg : decode cc pc = .ok (.iand, 1)) (kk : Zg X ws k n (pc + 1) lv (.int (x &&& y) :: st)) : Zg X ws k n pc lv (.int y :: .int x :: st) := by
  obtain ⟨p, l, e, R, s, m, args, below, meth, c, Q, D, κ, A, nl⟩ := X
  obtain ⟨⟨hx, hb, hml, hown, hts⟩, hlk, hK, rfl, hA, rfl, rfl, rfl, rfl⟩ := E
  intro H locs ls hP hD hS hl
  exact lv_iand hx hb hdg (kk H locs ls hP hD hS hl)
theorem z_dup (E : ZE X own cc nL rm l0 D0 κ0) {v : Value} (hv : v.category = 1) (hdg : decode cc pc = .ok (.dup, 1)) (kk : Zg X ws k n (pc + 1) lv (v :: v :: st)) : Zg X ws k n pc lv (v :: st) := by
  obtain ⟨p, l, e, R, s, m, args, below, meth, c, Q, D, κ, A, nl⟩ := X
  obtain ⟨⟨hx, hb, hml, hown, hts⟩, hlk, hK, rfl, hA, rfl, rfl, rfl, rfl⟩ := E
  intro H locs ls hP hD hS hl
  exact lv_dup hx hb hdg hv (kk H locs ls hP hD hS hl)
theorem z_pop (E : ZE X own cc nL rm l0 D0 κ0) {v : Value} (hv : v.category = 1) (hdg : decode cc pc = .ok (.pop, 1)) (kk : Zg X ws k n (pc + 1) lv st) : Zg X ws k n pc lv (v :: st) := by
  obtain ⟨p, l, e, R, s, m, args, below, meth, c, Q, D, κ, A, nl⟩ := X
  obtain ⟨⟨hx, hb, hml, hown, hts⟩, hlk, hK, rfl, hA, rfl, rfl, rfl, rfl⟩ := E
  intro H locs ls hP hD hS hl
  exact lv_pop hx hb hdg hv (kk H locs ls hP hD hS hl)
theorem z_dup2 (E : ZE X own cc nL rm l0 D0 κ0) {v u : Value} (hv : v.category = 1) (hu : u.category = 1) (hdg : decode cc pc = .ok (.dup2, 1)) (kk : Zg X ws k n (pc + 1) lv (v :: u :: v :: u :: st)) : Zg X ws k n pc lv (v :: u :: st) := by
  obtain ⟨p, l, e, R, s, m, args, below, meth, c, Q, D, κ, A, nl⟩ := X
  obtain ⟨⟨hx, hb, hml, hown, hts⟩, hlk, hK, rfl, hA, rfl, rfl, rfl, rfl⟩ := E
  intro H locs ls hP hD hS hl
  exact lv_dup2_11 hx hb hdg hv hu (kk H locs ls hP hD hS hl)
theorem z_goto (E : ZE X own cc nL rm l0 D0 κ0) {off : Int} {tgt : Nat} (hdg : decode cc pc = .ok (.goto off, 3)) (ht : (pc : Int) + off = (tgt : Int)) (kk : Zg X ws k n tgt lv st) : Zg X ws k n pc lv st := by
  obtain ⟨p, l, e, R, s, m, args, below, meth, c, Q, D, κ, A, nl⟩ := X
  obtain ⟨⟨hx, hb, hml, hown, hts⟩, hlk, hK, rfl, hA, rfl, rfl, rfl, rfl⟩ := E
  intro H locs ls hP hD hS hl
  exact lv_goto hx hb hdg ht (kk H locs ls hP hD hS hl)
theorem z_if_eq (E : ZE X own cc nL rm l0 D0 κ0) {a : Int} {off : Int} {tgt : Nat} (ha : -2147483648 ≤ a ∧ a ≤ 2147483647) (hdg : decode cc pc = .ok (.ifCond .eq off, 3)) (ht : (pc : Int) + off = (tgt : Int)) (kt : a = 0 → Zg X ws k n tgt lv st) (kf : ¬ a = 0 → Zg X ws k n (pc + 3) lv st) : Zg X ws k n pc lv (.int (zi a) :: st) := by
  obtain ⟨p, l, e, R, s, m, args, below, meth, c, Q, D, κ, A, nl⟩ := X
  obtain ⟨⟨hx, hb, hml, hown, hts⟩, hlk, hK, rfl, hA, rfl, rfl, rfl, rfl⟩ := E
  intro H locs ls hP hD hS hl
  exact lv_if_eq hx hb hdg ht (fun h => kt ((zi_eq ha z32_0).mp h) H locs ls hP hD hS hl) (fun h => kf (fun z => h ((zi_eq ha z32_0).mpr z)) H locs ls hP hD hS hl)
theorem z_ic_eq (E : ZE X own cc nL rm l0 D0 κ0) {a b : Int} {off : Int} {tgt : Nat} (ha : -2147483648 ≤ a ∧ a ≤ 2147483647) (hbb : -2147483648 ≤ b ∧ b ≤ 2147483647) (hdg : decode cc pc = .ok (.if_icmp .eq off, 3)) (ht : (pc : Int) + off = (tgt : Int)) (kt : a = b → Zg X ws k n tgt lv st) (kf : ¬ a = b → Zg X ws k n (pc + 3) lv st) : Zg X ws k n pc lv (.int (zi b) :: .int (zi a) :: st) := by
  obtain ⟨p, l, e, R, s, m, args, below, meth, c, Q, D, κ, A, nl⟩ := X
  obtain ⟨⟨hx, hb, hml, hown, hts⟩, hlk, hK, rfl, hA, rfl, rfl, rfl, rfl⟩ := E
  intro H locs ls hP hD hS hl
  exact lv_icmp_eq hx hb hdg ht (fun h => kt ((zi_eq ha hbb).mp h) H locs ls hP hD hS hl) (fun h => kf (fun z => h ((zi_eq ha hbb).mpr z)) H locs ls hP hD hS hl)
theorem z_if_ne (E : ZE X own cc nL rm l0 D0 κ0) {a : Int} {off : Int} {tgt : Nat} (ha : -2147483648 ≤ a ∧ a ≤ 2147483647) (hdg : decode cc pc = .ok (.ifCond .ne off, 3)) (ht : (pc : Int) + off = (tgt : Int)) (kt : ¬ a = 0 → Zg X ws k n tgt lv st) (kf : a = 0 → Zg X ws k n (pc + 3) lv st) : Zg X ws k n pc lv (.int (zi a) :: st) := by
  obtain ⟨p, l, e, R, s, m, args, below, meth, c, Q, D, κ, A, nl⟩ := X
  obtain ⟨⟨hx, hb, hml, hown, hts⟩, hlk, hK, rfl, hA, rfl, rfl, rfl, rfl⟩ := E
  intro H locs ls hP hD hS hl
  exact lv_if_ne hx hb hdg ht (fun h => kt (fun z => h ((zi_eq ha z32_0).mpr z)) H locs ls hP hD hS hl) (fun h => kf ((zi_eq ha z32_0).mp h) H locs ls hP hD hS hl)
theorem z_ic_ne (E : ZE X own cc nL rm l0 D0 κ0) {a b : Int} {off : Int} {tgt : Nat} (ha : -2147483648 ≤ a ∧ a ≤ 2147483647) (hbb : -2147483648 ≤ b ∧ b ≤ 2147483647) (hdg : decode cc pc = .ok (.if_icmp .ne off, 3)) (ht : (pc : Int) + off = (tgt : Int)) (kt : ¬ a = b → Zg X ws k n tgt lv st) (kf : a = b → Zg X ws k n (pc + 3) lv st) : Zg X ws k n pc lv (.int (zi b) :: .int (zi a) :: st) := by
  obtain ⟨p, l, e, R, s, m, args, below, meth, c, Q, D, κ, A, nl⟩ := X
  obtain ⟨⟨hx, hb, hml, hown, hts⟩, hlk, hK, rfl, hA, rfl, rfl, rfl, rfl⟩ := E
  intro H locs ls hP hD hS hl
  exact lv_icmp_ne hx hb hdg ht (fun h => kt (fun z => h ((zi_eq ha hbb).mpr z)) H locs ls hP hD hS hl) (fun h => kf ((zi_eq ha hbb).mp h) H locs ls hP hD hS hl)
theorem z_if_lt (E : ZE X own cc nL rm l0 D0 κ0) {a : Int} {off : Int} {tgt : Nat} (ha : -2147483648 ≤ a ∧ a ≤ 2147483647) (hdg : decode cc pc = .ok (.ifCond .lt off, 3)) (ht : (pc : Int) + off = (tgt : Int)) (kt : a < 0 → Zg X ws k n tgt lv st) (kf : 0 ≤ a → Zg X ws k n (pc + 3) lv st) : Zg X ws k n pc lv (.int (zi a) :: st) := by
  obtain ⟨p, l, e, R, s, m, args, below, meth, c, Q, D, κ, A, nl⟩ := X
  obtain ⟨⟨hx, hb, hml, hown, hts⟩, hlk, hK, rfl, hA, rfl, rfl, rfl, rfl⟩ := E
  intro H locs ls hP hD hS hl
  exact lv_if_lt hx hb hdg ht (fun h => kt ((zi_lt ha z32_0).mp h) H locs ls hP hD hS hl) (fun h => kf (Int.not_lt.mp (fun z => h ((zi_lt ha z32_0).mpr z))) H locs ls hP hD hS hl)
theorem z_ic_lt (E : ZE X own cc nL rm l0 D0 κ0) {a b : Int} {off : Int} {tgt : Nat} (ha : -2147483648 ≤ a ∧ a ≤ 2147483647) (hbb : -2147483648 ≤ b ∧ b ≤ 2147483647) (hdg : decode cc pc = .ok (.if_icmp .lt off, 3)) (ht : (pc : Int) + off = (tgt : Int)) (kt : a < b → Zg X ws k n tgt lv st) (kf : b ≤ a → Zg X ws k n (pc + 3) lv st) : Zg X ws k n pc lv (.int (zi b) :: .int (zi a) :: st) := by
  obtain ⟨p, l, e, R, s, m, args, below, meth, c, Q, D, κ, A, nl⟩ := X
  obtain ⟨⟨hx, hb, hml, hown, hts⟩, hlk, hK, rfl, hA, rfl, rfl, rfl, rfl⟩ := E
  intro H locs ls hP hD hS hl
  exact lv_icmp_lt hx hb hdg ht (fun h => kt ((zi_lt ha hbb).mp h) H locs ls hP hD hS hl) (fun h => kf (Int.not_lt.mp (fun z => h ((zi_lt ha hbb).mpr z))) H locs ls hP hD hS hl)
theorem z_if_ge (E : ZE X own cc nL rm l0 D0 κ0) {a : Int} {off : Int} {tgt : Nat} (ha : -2147483648 ≤ a ∧ a ≤ 2147483647) (hdg : decode cc pc = .ok (.ifCond .ge off, 3)) (ht : (pc : Int) + off = (tgt : Int)) (kt : 0 ≤ a → Zg X ws k n tgt lv st) (kf : a < 0 → Zg X ws k n (pc + 3) lv st) : Zg X ws k n pc lv (.int (zi a) :: st) := by
  obtain ⟨p, l, e, R, s, m, args, below, meth, c, Q, D, κ, A, nl⟩ := X
  obtain ⟨⟨hx, hb, hml, hown, hts⟩, hlk, hK, rfl, hA, rfl, rfl, rfl, rfl⟩ := E
  intro H locs ls hP hD hS hl
  exact lv_if_ge hx hb hdg ht (fun h => kt ((zi_le z32_0 ha).mp h) H locs ls hP hD hS hl) (fun h => kf (Int.not_le.mp (fun z => h ((zi_le z32_0 ha).mpr z))) H locs ls hP hD hS hl)
theorem z_ic_ge (E : ZE X own cc nL rm l0 D0 κ0) {a b : Int} {off : Int} {tgt : Nat} (ha : -2147483648 ≤ a ∧ a ≤ 2147483647) (hbb : -2147483648 ≤ b ∧ b ≤ 2147483647) (hdg : decode cc pc = .ok (.if_icmp .ge off, 3)) (ht : (pc : Int) + off = (tgt : Int)) (kt : b ≤ a → Zg X ws k n tgt lv st) (kf : a < b → Zg X ws k n (pc + 3) lv st) : Zg X ws k n pc lv (.int (zi b) :: .int (zi a) :: st) := by
  obtain ⟨p, l, e, R, s, m, args, below, meth, c, Q, D, κ, A, nl⟩ := X
  obtain ⟨⟨hx, hb, hml, hown, hts⟩, hlk, hK, rfl, hA, rfl, rfl, rfl, rfl⟩ := E
  intro H locs ls hP hD hS hl
  exact lv_icmp_ge hx hb hdg ht (fun h => kt ((zi_le hbb ha).mp h) H locs ls hP hD hS hl) (fun h => kf (Int.not_le.mp (fun z => h ((zi_le hbb ha).mpr z))) H locs ls hP hD hS hl)
theorem z_if_gt (E : ZE X own cc nL rm l0 D0 κ0) {a : Int} {off : Int} {tgt : Nat} (ha : -2147483648 ≤ a ∧ a ≤ 2147483647) (hdg : decode cc pc = .ok (.ifCond .gt off, 3)) (ht : (pc : Int) + off = (tgt : Int)) (kt : 0 < a → Zg X ws k n tgt lv st) (kf : a ≤ 0 → Zg X ws k n (pc + 3) lv st) : Zg X ws k n pc lv (.int (zi a) :: st) := by
  obtain ⟨p, l, e, R, s, m, args, below, meth, c, Q, D, κ, A, nl⟩ := X
  obtain ⟨⟨hx, hb, hml, hown, hts⟩, hlk, hK, rfl, hA, rfl, rfl, rfl, rfl⟩ := E
  intro H locs ls hP hD hS hl
  exact lv_if_gt hx hb hdg ht (fun h => kt ((zi_lt z32_0 ha).mp h) H locs ls hP hD hS hl) (fun h => kf (Int.not_lt.mp (fun z => h ((zi_lt z32_0 ha).mpr z))) H locs ls hP hD hS hl)
theorem z_ic_gt (E : ZE X own cc nL rm l0 D0 κ0) {a b : Int} {off : Int} {tgt : Nat} (ha : -2147483648 ≤ a ∧ a ≤ 2147483647) (hbb : -2147483648 ≤ b ∧ b ≤ 2147483647) (hdg : decode cc pc = .ok (.if_icmp .gt off, 3)) (ht : (pc : Int) + off = (tgt : Int)) (kt : b < a → Zg X ws k n tgt lv st) (kf : a ≤ b → Zg X ws k n (pc + 3) lv st) : Zg X ws k n pc lv (.int (zi b) :: .int (zi a) :: st) := by
  obtain ⟨p, l, e, R, s, m, args, below, meth, c, Q, D, κ, A, nl⟩ := X
  obtain ⟨⟨hx, hb, hml, hown, hts⟩, hlk, hK, rfl, hA, rfl, rfl, rfl, rfl⟩ := E
  intro H locs ls hP hD hS hl
  exact lv_icmp_gt hx hb hdg ht (fun h => kt ((zi_lt hbb ha).mp h) H locs ls hP hD hS hl) (fun h => kf (Int.not_lt.mp (fun z => h ((zi_lt hbb ha).mpr z))) H locs ls hP hD hS hl)
theorem z_if_le (E : ZE X own cc nL rm l0 D0 κ0) {a : Int} {off : Int} {tgt : Nat} (ha : -2147483648 ≤ a ∧ a ≤ 2147483647) (hdg : decode cc pc = .ok (.ifCond .le off, 3)) (ht : (pc : Int) + off = (tgt : Int)) (kt : a ≤ 0 → Zg X ws k n tgt lv st) (kf : 0 < a → Zg X ws k n (pc + 3) lv st) : Zg X ws k n pc lv (.int (zi a) :: st) := by
  obtain ⟨p, l, e, R, s, m, args, below, meth, c, Q, D, κ, A, nl⟩ := X
  obtain ⟨⟨hx, hb, hml, hown, hts⟩, hlk, hK, rfl, hA, rfl, rfl, rfl, rfl⟩ := E
  intro H locs ls hP hD hS hl
  exact lv_if_le hx hb hdg ht (fun h => kt ((zi_le ha z32_0).mp h) H locs ls hP hD hS hl) (fun h => kf (Int.not_le.mp (fun z => h ((zi_le ha z32_0).mpr z))) H locs ls hP hD hS hl)
theorem z_ic_le (E : ZE X own cc nL rm l0 D0 κ0) {a b : Int} {off : Int} {tgt : Nat} (ha : -2147483648 ≤ a ∧ a ≤ 2147483647) (hbb : -2147483648 ≤ b ∧ b ≤ 2147483647) (hdg : decode cc pc = .ok (.if_icmp .le off, 3)) (ht : (pc : Int) + off = (tgt : Int)) (kt : a ≤ b → Zg X ws k n tgt lv st) (kf : b < a → Zg X ws k n (pc + 3) lv st) : Zg X ws k n pc lv (.int (zi b) :: .int (zi a) :: st) := by
  obtain ⟨p, l, e, R, s, m, args, below, meth, c, Q, D, κ, A, nl⟩ := X
  obtain ⟨⟨hx, hb, hml, hown, hts⟩, hlk, hK, rfl, hA, rfl, rfl, rfl, rfl⟩ := E
  intro H locs ls hP hD hS hl
  exact lv_icmp_le hx hb hdg ht (fun h => kt ((zi_le ha hbb).mp h) H locs ls hP hD hS hl) (fun h => kf (Int.not_le.mp (fun z => h ((zi_le ha hbb).mpr z))) H locs ls hP hD hS hl)
theorem z_lc_eq (E : ZE X own cc nL rm l0 D0 κ0) {a b : Int} {off : Int} {tgt : Nat} (ha : -9223372036854775808 ≤ a ∧ a ≤ 9223372036854775807) (hbb : -9223372036854775808 ≤ b ∧ b ≤ 9223372036854775807) (hdg : decode cc pc = .ok (.lcmp, 1)) (hdg2 : decode cc (pc + 1) = .ok (.ifCond .eq off, 3)) (ht : ((pc + 1 : Nat) : Int) + off = (tgt : Int)) (kt : a = b → Zg X ws k n tgt lv st) (kf : ¬ a = b → Zg X ws k n (pc + 4) lv st) : Zg X ws k n pc lv (.long (zl b) :: .long (zl a) :: st) := by
  obtain ⟨p, l, e, R, s, m, args, below, meth, c, Q, D, κ, A, nl⟩ := X
  obtain ⟨⟨hx, hb, hml, hown, hts⟩, hlk, hK, rfl, hA, rfl, rfl, rfl, rfl⟩ := E
  intro H locs ls hP hD hS hl
  exact W.lcmp hx hb hdg (lv_if_eq hx hb hdg2 ht (fun h => kt (((lg_cmp_eq _ _).trans (zl_eq ha hbb)).mp h) H locs ls hP hD hS hl) (fun h => kf (fun z => h (((lg_cmp_eq _ _).trans (zl_eq ha hbb)).mpr z)) H locs ls hP hD hS hl))
theorem z_lc_ne (E : ZE X own cc nL rm l0 D0 κ0) {a b : Int} {off : Int} {tgt : Nat} (ha : -9223372036854775808 ≤ a ∧ a ≤ 9223372036854775807) (hbb : -9223372036854775808 ≤ b ∧ b ≤ 9223372036854775807) (hdg : decode cc pc = .ok (.lcmp, 1)) (hdg2 : decode cc (pc + 1) = .ok (.ifCond .ne off, 3)) (ht : ((pc + 1 : Nat) : Int) + off = (tgt : Int)) (kt : ¬ a = b → Zg X ws k n tgt lv st) (kf : a = b → Zg X ws k n (pc + 4) lv st) : Zg X ws k n pc lv (.long (zl b) :: .long (zl a) :: st) := by
  obtain ⟨p, l, e, R, s, m, args, below, meth, c, Q, D, κ, A, nl⟩ := X
  obtain ⟨⟨hx, hb, hml, hown, hts⟩, hlk, hK, rfl, hA, rfl, rfl, rfl, rfl⟩ := E
  intro H locs ls hP hD hS hl
  exact W.lcmp hx hb hdg (lv_if_ne hx hb hdg2 ht (fun h => kt (fun z => h (((lg_cmp_eq _ _).trans (zl_eq ha hbb)).mpr z)) H locs ls hP hD hS hl) (fun h => kf (((lg_cmp_eq _ _).trans (zl_eq ha hbb)).mp h) H locs ls hP hD hS hl))
theorem z_lc_lt (E : ZE X own cc nL rm l0 D0 κ0) {a b : Int} {off : Int} {tgt : Nat} (ha : -9223372036854775808 ≤ a ∧ a ≤ 9223372036854775807) (hbb : -9223372036854775808 ≤ b ∧ b ≤ 9223372036854775807) (hdg : decode cc pc = .ok (.lcmp, 1)) (hdg2 : decode cc (pc + 1) = .ok (.ifCond .lt off, 3)) (ht : ((pc + 1 : Nat) : Int) + off = (tgt : Int)) (kt : a < b → Zg X ws k n tgt lv st) (kf : b ≤ a → Zg X ws k n (pc + 4) lv st) : Zg X ws k n pc lv (.long (zl b) :: .long (zl a) :: st) := by
  obtain ⟨p, l, e, R, s, m, args, below, meth, c, Q, D, κ, A, nl⟩ := X
  obtain ⟨⟨hx, hb, hml, hown, hts⟩, hlk, hK, rfl, hA, rfl, rfl, rfl, rfl⟩ := E
  intro H locs ls hP hD hS hl
  exact W.lcmp hx hb hdg (lv_if_lt hx hb hdg2 ht (fun h => kt (((lg_cmp_lt _ _).trans (zl_lt ha hbb)).mp h) H locs ls hP hD hS hl) (fun h => kf (Int.not_lt.mp (fun z => h (((lg_cmp_lt _ _).trans (zl_lt ha hbb)).mpr z))) H locs ls hP hD hS hl))
theorem z_lc_ge (E : ZE X own cc nL rm l0 D0 κ0) {a b : Int} {off : Int} {tgt : Nat} (ha : -9223372036854775808 ≤ a ∧ a ≤ 9223372036854775807) (hbb : -9223372036854775808 ≤ b ∧ b ≤ 9223372036854775807) (hdg : decode cc pc = .ok (.lcmp, 1)) (hdg2 : decode cc (pc + 1) = .ok (.ifCond .ge off, 3)) (ht : ((pc + 1 : Nat) : Int) + off = (tgt : Int)) (kt : b ≤ a → Zg X ws k n tgt lv st) (kf : a < b → Zg X ws k n (pc + 4) lv st) : Zg X ws k n pc lv (.long (zl b) :: .long (zl a) :: st) := by
  obtain ⟨p, l, e, R, s, m, args, below, meth, c, Q, D, κ, A, nl⟩ := X
  obtain ⟨⟨hx, hb, hml, hown, hts⟩, hlk, hK, rfl, hA, rfl, rfl, rfl, rfl⟩ := E
  intro H locs ls hP hD hS hl
  exact W.lcmp hx hb hdg (lv_if_ge hx hb hdg2 ht (fun h => kt (((lg_cmp_ge _ _).trans (zl_le hbb ha)).mp h) H locs ls hP hD hS hl) (fun h => kf (Int.not_le.mp (fun z => h (((lg_cmp_ge _ _).trans (zl_le hbb ha)).mpr z))) H locs ls hP hD hS hl))
theorem z_lc_gt (E : ZE X own cc nL rm l0 D0 κ0) {a b : Int} {off : Int} {tgt : Nat} (ha : -9223372036854775808 ≤ a ∧ a ≤ 9223372036854775807) (hbb : -9223372036854775808 ≤ b ∧ b ≤ 9223372036854775807) (hdg : decode cc pc = .ok (.lcmp, 1)) (hdg2 : decode cc (pc + 1) = .ok (.ifCond .gt off, 3)) (ht : ((pc + 1 : Nat) : Int) + off = (tgt : Int)) (kt : b < a → Zg X ws k n tgt lv st) (kf : a ≤ b → Zg X ws k n (pc + 4) lv st) : Zg X ws k n pc lv (.long (zl b) :: .long (zl a) :: st) := by
  obtain ⟨p, l, e, R, s, m, args, below, meth, c, Q, D, κ, A, nl⟩ := X
  obtain ⟨⟨hx, hb, hml, hown, hts⟩, hlk, hK, rfl, hA, rfl, rfl, rfl, rfl⟩ := E
  intro H locs ls hP hD hS hl
  exact W.lcmp hx hb hdg (lv_if_gt hx hb hdg2 ht (fun h => kt (((lg_cmp_gt _ _).trans (zl_lt hbb ha)).mp h) H locs ls hP hD hS hl) (fun h => kf (Int.not_lt.mp (fun z => h (((lg_cmp_gt _ _).trans (zl_lt hbb ha)).mpr z))) H locs ls hP hD hS hl))
theorem z_lc_le (E : ZE X own cc nL rm l0 D0 κ0) {a b : Int} {off : Int} {tgt : Nat} (ha : -9223372036854775808 ≤ a ∧ a ≤ 9223372036854775807) (hbb : -9223372036854775808 ≤ b ∧ b ≤ 9223372036854775807) (hdg : decode cc pc = .ok (.lcmp, 1)) (hdg2 : decode cc (pc + 1) = .ok (.ifCond .le off, 3)) (ht : ((pc + 1 : Nat) : Int) + off = (tgt : Int)) (kt : a ≤ b → Zg X ws k n tgt lv st) (kf : b < a → Zg X ws k n (pc + 4) lv st) : Zg X ws k n pc lv (.long (zl b) :: .long (zl a) :: st) := by
  obtain ⟨p, l, e, R, s, m, args, below, meth, c, Q, D, κ, A, nl⟩ := X
  obtain ⟨⟨hx, hb, hml, hown, hts⟩, hlk, hK, rfl, hA, rfl, rfl, rfl, rfl⟩ := E
  intro H locs ls hP hD hS hl
  exact W.lcmp hx hb hdg (lv_if_le hx hb hdg2 ht (fun h => kt (((lg_cmp_le _ _).trans (zl_le ha hbb)).mp h) H locs ls hP hD hS hl) (fun h => kf (Int.not_le.mp (fun z => h (((lg_cmp_le _ _).trans (zl_le ha hbb)).mpr z))) H locs ls hP hD hS hl))
theorem z_ifnull (E : ZE X own cc nL rm l0 D0 κ0) {x : Nat} {off : Int} (hdg : decode cc pc = .ok (.ifnull off, 3)) (kk : Zg X ws k n (pc + 3) lv st) : Zg X ws k n pc lv (.ref x :: st) := by
  obtain ⟨p, l, e, R, s, m, args, below, meth, c, Q, D, κ, A, nl⟩ := X
  obtain ⟨⟨hx, hb, hml, hown, hts⟩, hlk, hK, rfl, hA, rfl, rfl, rfl, rfl⟩ := E
  intro H locs ls hP hD hS hl
  exact lv_ifnull hx hb hdg (kk H locs ls hP hD hS hl)
theorem z_tswIn (E : ZE X own cc nL rm l0 D0 κ0) {dflt lo hi : Int} {offs : Array Int} {len : Nat} {a off : Int} {tgt : Nat} (ha : -2147483648 ≤ a ∧ a ≤ 2147483647) (hdg : decode cc pc = .ok (.tableswitch dflt lo hi offs, len)) (h1 : ¬ a < lo) (h2 : ¬ hi < a) (ho : offs[(a - lo).toNat]? = some off) (ht : (pc : Int) + off = (tgt : Int)) (kk : Zg X ws k n tgt lv st) : Zg X ws k n pc lv (.int (zi a) :: st) := by
  obtain ⟨p, l, e, R, s, m, args, below, meth, c, Q, D, κ, A, nl⟩ := X
  obtain ⟨⟨hx, hb, hml, hown, hts⟩, hlk, hK, rfl, hA, rfl, rfl, rfl, rfl⟩ := E
  intro H locs ls hP hD hS hl
  exact lv_tableIn hx hb hdg (by rw [zi_toInt ha]; exact h1) (by rw [zi_toInt ha]; exact h2) (by rw [zi_toInt ha]; exact ho) ht (kk H locs ls hP hD hS hl)
theorem z_tswOut (E : ZE X own cc nL rm l0 D0 κ0) {dflt lo hi : Int} {offs : Array Int} {len : Nat} {a : Int} {tgt : Nat} (ha : -2147483648 ≤ a ∧ a ≤ 2147483647) (hdg : decode cc pc = .ok (.tableswitch dflt lo hi offs, len)) (h : a < lo ∨ hi < a) (ht : (pc : Int) + dflt = (tgt : Int)) (kk : Zg X ws k n tgt lv st) : Zg X ws k n pc lv (.int (zi a) :: st) := by
  obtain ⟨p, l, e, R, s, m, args, below, meth, c, Q, D, κ, A, nl⟩ := X
  obtain ⟨⟨hx, hb, hml, hown, hts⟩, hlk, hK, rfl, hA, rfl, rfl, rfl, rfl⟩ := E
  intro H locs ls hP hD hS hl
  exact lv_tableOut hx hb hdg (by rw [zi_toInt ha]; exact h) ht (kk H locs ls hP hD hS hl)
def zFL (own : String) (index ci k : Nat) : Prop := ∃ (C : String) (T : u_T) (N : Nat), vwCl[ci]? = some (C, T, N) ∧ k < N ∧ (∀ w ∈ u_ws C T N, w ∈ zB) ∧ Cond.fieldLink own index (T k).1 (T k).2.1 (T k).2.2.1 ∈ zB
def zTY (ci k : Nat) (ty : FieldType) (fin : Bool) : Prop := ∃ (C : String) (T : u_T) (N : Nat) (ty0 : Nat → FieldType), vwCl[ci]? = some (C, T, N) ∧ (∀ k, k < N → parseFieldDescriptor (T k).2.2.1 = some (ty0 k)) ∧ (∀ a, a < N → ∀ b, b < N → a ≠ b → (T a).2.1 ≠ (T b).2.1) ∧ (T k).2.2.2 = fin ∧ (T k).1 = C ∧ parseFieldDescriptor (T k).2.2.1 = some ty
theorem z_get (E : ZE X own cc nL rm l0 D0 κ0) {a ci i index : Nat} {fs : List Value} {v : Value} (hf : zFL own index ci i) (q0 : Nat) (he : ws[q0]? = some (a, .inr (ci, fs))) (hv : fs[i]? = some v) (hdg : decode cc pc = .ok (.getfield index, 3)) (kk : Zg X ws k n (pc + 3) lv (v :: st)) : Zg X ws k n pc lv (.ref a :: st) := by
  obtain ⟨p, l, e, R, s, m, args, below, meth, c, Q, D, κ, A, nl⟩ := X
  obtain ⟨⟨hx, hb, hml, hown, hts⟩, hlk, hK, rfl, hA, rfl, rfl, rfl, rfl⟩ := E
  intro H locs ls hP hD hS hl
  obtain ⟨C, T, N, h1, h2, h3, h4⟩ := hf
  exact va_get hx hb hts h3 hown hK.1 hP q0 he h1 i h2 (hts _ h4) (fun _ h9 => h9) hv hdg (kk H locs ls hP hD hS hl)
theorem z_put (E : ZE X own cc nL rm l0 D0 κ0) {a ci i index : Nat} {fs : List Value} {v : Value} {ty : FieldType} {ws' : va_W} (hf : zFL own index ci i) (hty : zTY ci i ty false) (q0 : Nat) (he : ws[q0]? = some (a, .inr (ci, fs))) (hn : narrow ty v = v) (hfit : fits ty v = true) (hl0 : i < fs.length) (hws : ws.set q0 (a, .inr (ci, fs.set i v)) = ws') (hdg : decode cc pc = .ok (.putfield index, 3)) (kk : Zg X ws' k n (pc + 3) lv st) : Zg X ws k n pc lv (v :: .ref a :: st) := by
  obtain ⟨p, l, e, R, s, m, args, below, meth, c, Q, D, κ, A, nl⟩ := X
  obtain ⟨⟨hx, hb, hml, hown, hts⟩, hlk, hK, rfl, hA, rfl, rfl, rfl, rfl⟩ := E
  intro H locs ls hP hD hS hl
  obtain ⟨C, T, N, h1, h2, h3, h4⟩ := hf
  obtain ⟨C', T', N', ty0, g1, g2, g3, g4, g5, g6⟩ := hty
  cases h1.symm.trans g1
  subst hws
  exact va_put hx hb hts h3 ty0 g2 g3 hown hK.1 hP hD hS q0 he h1 i h2 (hts _ h4) (fun _ h9 => h9) g4 g6 hn hfit hl0 hdg (fun H locs hP hD hS => kk H locs ls hP hD hS hl)
theorem z_putF (E : ZE X own cc nL rm l0 D0 κ0) {a ci i index : Nat} {fs : List Value} {v : Value} {ty : FieldType} {ws' : va_W} (hini : Zini X) (hf : zFL own index ci i) (hty : zTY ci i ty true) (howner : ∀ q, vwCl[ci]? = some q → q.1 = own) (q0 : Nat) (he : ws[q0]? = some (a, .inr (ci, fs))) (hn : narrow ty v = v) (hfit : fits ty v = true) (hl0 : i < fs.length) (hws : ws.set q0 (a, .inr (ci, fs.set i v)) = ws') (hdg : decode cc pc = .ok (.putfield index, 3)) (kk : Zg X ws' k n (pc + 3) lv st) : Zg X ws k n pc lv (v :: .ref a :: st) := by
  obtain ⟨p, l, e, R, s, m, args, below, meth, c, Q, D, κ, A, nl⟩ := X
  obtain ⟨⟨hx, hb, hml, hown, hts⟩, hlk, hK, rfl, hA, rfl, rfl, rfl, rfl⟩ := E
  intro H locs ls hP hD hS hl
  obtain ⟨C, T, N, h1, h2, h3, h4⟩ := hf
  obtain ⟨C', T', N', ty0, g1, g2, g3, g4, g5, g6⟩ := hty
  cases h1.symm.trans g1
  subst hws
  have ho := howner _ h1
  exact va_putF hx hb hts h3 ty0 g2 g3 hown hK.1 hP hD hS q0 he h1 i h2 (hts _ h4) (fun _ h9 => h9) g4 hini (g5.trans ho) g6 hn hfit hl0 hdg (fun H locs hP hD hS => kk H locs ls hP hD hS hl)
theorem z_iald (E : ZE X own cc nL rm l0 D0 κ0) {a N : Nat} {f : Int → Int} {i : Int} (q0 : Nat) (he : ws[q0]? = some (a, ai κ0 N f)) (hN : N ≤ 2147483647) (h0 : 0 ≤ i) (h1 : i < (N : Int)) (hdg : decode cc pc = .ok (.iaload, 1)) (kk : Zg X ws k n (pc + 1) lv (.int (zi (f i)) :: st)) : Zg X ws k n pc lv (.int (zi i) :: .ref a :: st) := by
  obtain ⟨p, l, e, R, s, m, args, below, meth, c, Q, D, κ, A, nl⟩ := X
  obtain ⟨⟨hx, hb, hml, hown, hts⟩, hlk, hK, rfl, hA, rfl, rfl, rfl, rfl⟩ := E
  intro H locs ls hP hD hS hl
  have hc := zi_clamp h0 (by omega)
  refine va_iald hx hb hK.1 hP q0 0 he rfl (zi_in h0 h1 hN) hdg ?_
  show W p l e R s m args below meth c H locs k n Q (F0 m (pc + 1) ls (.int (zi (f (((zi i).toNatClampNeg : Nat) : Int))) :: st))
  rw [hc]
  exact kk H locs ls hP hD hS hl
theorem z_cald (E : ZE X own cc nL rm l0 D0 κ0) {a N : Nat} {f : Int → Int} {i : Int} (q0 : Nat) (he : ws[q0]? = some (a, ac κ0 N f)) (hN : N ≤ 2147483647) (h0 : 0 ≤ i) (h1 : i < (N : Int)) (hdg : decode cc pc = .ok (.caload, 1)) (kk : Zg X ws k n (pc + 1) lv (.int (zi (f i)) :: st)) : Zg X ws k n pc lv (.int (zi i) :: .ref a :: st) := by
  obtain ⟨p, l, e, R, s, m, args, below, meth, c, Q, D, κ, A, nl⟩ := X
  obtain ⟨⟨hx, hb, hml, hown, hts⟩, hlk, hK, rfl, hA, rfl, rfl, rfl, rfl⟩ := E
  intro H locs ls hP hD hS hl
  have hc := zi_clamp h0 (by omega)
  refine va_cald hx hb hK.1 hP q0 2 he rfl (zi_in h0 h1 hN) hdg ?_
  show W p l e R s m args below meth c H locs k n Q (F0 m (pc + 1) ls (.int (zi (f (((zi i).toNatClampNeg : Nat) : Int))) :: st))
  rw [hc]
  exact kk H locs ls hP hD hS hl
theorem z_lald (E : ZE X own cc nL rm l0 D0 κ0) {a N : Nat} {f : Int → Int} {i : Int} (q0 : Nat) (he : ws[q0]? = some (a, al κ0 N f)) (hN : N ≤ 2147483647) (h0 : 0 ≤ i) (h1 : i < (N : Int)) (hdg : decode cc pc = .ok (.laload, 1)) (kk : Zg X ws k n (pc + 1) lv (.long (zl (f i)) :: st)) : Zg X ws k n pc lv (.int (zi i) :: .ref a :: st) := by
  obtain ⟨p, l, e, R, s, m, args, below, meth, c, Q, D, κ, A, nl⟩ := X
  obtain ⟨⟨hx, hb, hml, hown, hts⟩, hlk, hK, rfl, hA, rfl, rfl, rfl, rfl⟩ := E
  intro H locs ls hP hD hS hl
  have hc := zi_clamp h0 (by omega)
  refine va_lald hx hb hK.1 hP q0 1 he rfl (zi_in h0 h1 hN) hdg ?_
  show W p l e R s m args below meth c H locs k n Q (F0 m (pc + 1) ls (.long (zl (f (((zi i).toNatClampNeg : Nat) : Int))) :: st))
  rw [hc]
  exact kk H locs ls hP hD hS hl
theorem z_iast (E : ZE X own cc nL rm l0 D0 κ0) {a N : Nat} {f : Int → Int} {i v : Int} {ws' : va_W} (q0 : Nat) (he : ws[q0]? = some (a, ai κ0 N f)) (hN : N ≤ 2147483647) (h0 : 0 ≤ i) (h1 : i < (N : Int)) (hws : ws.set q0 (a, ai κ0 N (zu f i v)) = ws') (hdg : decode cc pc = .ok (.iastore, 1)) (kk : Zg X ws' k n (pc + 1) lv st) : Zg X ws k n pc lv (.int (zi v) :: .int (zi i) :: .ref a :: st) := by
  obtain ⟨p, l, e, R, s, m, args, below, meth, c, Q, D, κ, A, nl⟩ := X
  obtain ⟨⟨hx, hb, hml, hown, hts⟩, hlk, hK, rfl, hA, rfl, rfl, rfl, rfl⟩ := E
  intro H locs ls hP hD hS hl
  refine va_iast hx hb hK.1 hP hD hS q0 0 he rfl (zi_in h0 h1 hN) hdg (fun H locs hP hD hS => ?_)
  rw [zu_clampi h0 (by omega)] at hP hD
  subst hws
  exact kk H locs ls hP hD hS hl
theorem z_last (E : ZE X own cc nL rm l0 D0 κ0) {a N : Nat} {f : Int → Int} {i v : Int} {ws' : va_W} (q0 : Nat) (he : ws[q0]? = some (a, al κ0 N f)) (hN : N ≤ 2147483647) (h0 : 0 ≤ i) (h1 : i < (N : Int)) (hws : ws.set q0 (a, al κ0 N (zu f i v)) = ws') (hdg : decode cc pc = .ok (.lastore, 1)) (kk : Zg X ws' k n (pc + 1) lv st) : Zg X ws k n pc lv (.long (zl v) :: .int (zi i) :: .ref a :: st) := by
  obtain ⟨p, l, e, R, s, m, args, below, meth, c, Q, D, κ, A, nl⟩ := X
  obtain ⟨⟨hx, hb, hml, hown, hts⟩, hlk, hK, rfl, hA, rfl, rfl, rfl, rfl⟩ := E
  intro H locs ls hP hD hS hl
  refine va_last hx hb hK.1 hP hD hS q0 1 he rfl (zi_in h0 h1 hN) hdg (fun H locs hP hD hS => ?_)
  rw [zu_clampl h0 (by omega)] at hP hD
  subst hws
  exact kk H locs ls hP hD hS hl
theorem z_cast (E : ZE X own cc nL rm l0 D0 κ0) {a N : Nat} {f : Int → Int} {i v : Int} {ws' : va_W} (q0 : Nat) (he : ws[q0]? = some (a, ac κ0 N f)) (hN : N ≤ 2147483647) (h0 : 0 ≤ i) (h1 : i < (N : Int)) (hv : 0 ≤ v ∧ v < 65536) (hws : ws.set q0 (a, ac κ0 N (zu f i v)) = ws') (hdg : decode cc pc = .ok (.castore, 1)) (kk : Zg X ws' k n (pc + 1) lv st) : Zg X ws k n pc lv (.int (zi v) :: .int (zi i) :: .ref a :: st) := by
  obtain ⟨p, l, e, R, s, m, args, below, meth, c, Q, D, κ, A, nl⟩ := X
  obtain ⟨⟨hx, hb, hml, hown, hts⟩, hlk, hK, rfl, hA, rfl, rfl, rfl, rfl⟩ := E
  intro H locs ls hP hD hS hl
  refine va_cast hx hb hK.1 hP hD hS q0 2 he rfl (zi_in h0 h1 hN) hdg (fun H locs hP hD hS => ?_)
  rw [vp_nar_char, zi_char16 hv, zu_clampi h0 (by omega)] at hP hD
  subst hws
  exact kk H locs ls hP hD hS hl
theorem z_aald (E : ZE X own cc nL rm l0 D0 κ0) {a N : Nat} {f : Int → Option Nat} {i : Int} {v : Nat} (q0 : Nat) (he : ws[q0]? = some (a, ar κ0 N f)) (hN : N ≤ 2147483647) (h0 : 0 ≤ i) (h1 : i < (N : Int)) (hv : f i = some v) (hdg : decode cc pc = .ok (.aaload, 1)) (kk : Zg X ws k n (pc + 1) lv (.ref v :: st)) : Zg X ws k n pc lv (.int (zi i) :: .ref a :: st) := by
  obtain ⟨p, l, e, R, s, m, args, below, meth, c, Q, D, κ, A, nl⟩ := X
  obtain ⟨⟨hx, hb, hml, hown, hts⟩, hlk, hK, rfl, hA, rfl, rfl, rfl, rfl⟩ := E
  intro H locs ls hP hD hS hl
  have hc := zi_clamp h0 (by omega)
  refine va_aldq hx hb hK.1 hP q0 3 he rfl (zi_in h0 h1 hN) hdg ?_
  show W p l e R s m args below meth c H locs k n Q (F0 m (pc + 1) ls (va_rf (f (((zi i).toNatClampNeg : Nat) : Int)) :: st))
  rw [hc, hv]
  exact kk H locs ls hP hD hS hl
theorem z_aast (E : ZE X own cc nL rm l0 D0 κ0) {a N v : Nat} {f : Int → Option Nat} {i : Int} {vs : List Value} {ws' : va_W} (q0 qk : Nat) (he : ws[q0]? = some (a, ar κ0 N f)) (hk : ws[qk]? = some (v, .inr (6, vs))) (hN : N ≤ 2147483647) (h0 : 0 ≤ i) (h1 : i < (N : Int)) (hws : ws.set q0 (a, ar κ0 N (zu f i (some v))) = ws') (hdg : decode cc pc = .ok (.aastore, 1)) (kk : Zg X ws' k n (pc + 1) lv st) : Zg X ws k n pc lv (.ref v :: .int (zi i) :: .ref a :: st) := by
  obtain ⟨p, l, e, R, s, m, args, below, meth, c, Q, D, κ, A, nl⟩ := X
  obtain ⟨⟨hx, hb, hml, hown, hts⟩, hlk, hK, rfl, hA, rfl, rfl, rfl, rfl⟩ := E
  intro H locs ls hP hD hS hl
  refine va_astq hx hb hK.1 hP hD hS q0 3 qk 6 he rfl hk rfl (zi_in h0 h1 hN) hdg (fun H locs hP hD hS => ?_)
  rw [zu_clampr h0 (by omega)] at hP hD
  subst hws
  exact kk H locs ls hP hD hS hl
theorem z_alen_ai (E : ZE X own cc nL rm l0 D0 κ0) {a N : Nat} {f : Int → Int} (q0 : Nat) (he : ws[q0]? = some (a, ai κ0 N f)) (hdg : decode cc pc = .ok (.arraylength, 1)) (kk : Zg X ws k n (pc + 1) lv (.int (zi (N : Int)) :: st)) : Zg X ws k n pc lv (.ref a :: st) := by
  obtain ⟨p, l, e, R, s, m, args, below, meth, c, Q, D, κ, A, nl⟩ := X
  obtain ⟨⟨hx, hb, hml, hown, hts⟩, hlk, hK, rfl, hA, rfl, rfl, rfl, rfl⟩ := E
  intro H locs ls hP hD hS hl
  exact va_alen (ty := .int) hx hb hK.1 hP q0 0 he rfl (v := zi (N : Int)) (zi_nat N).symm hdg (kk H locs ls hP hD hS hl)
theorem z_alen_al (E : ZE X own cc nL rm l0 D0 κ0) {a N : Nat} {f : Int → Int} (q0 : Nat) (he : ws[q0]? = some (a, al κ0 N f)) (hdg : decode cc pc = .ok (.arraylength, 1)) (kk : Zg X ws k n (pc + 1) lv (.int (zi (N : Int)) :: st)) : Zg X ws k n pc lv (.ref a :: st) := by
  obtain ⟨p, l, e, R, s, m, args, below, meth, c, Q, D, κ, A, nl⟩ := X
  obtain ⟨⟨hx, hb, hml, hown, hts⟩, hlk, hK, rfl, hA, rfl, rfl, rfl, rfl⟩ := E
  intro H locs ls hP hD hS hl
  exact va_alen (ty := .long) hx hb hK.1 hP q0 1 he rfl (v := zi (N : Int)) (zi_nat N).symm hdg (kk H locs ls hP hD hS hl)
theorem z_alen_ac (E : ZE X own cc nL rm l0 D0 κ0) {a N : Nat} {f : Int → Int} (q0 : Nat) (he : ws[q0]? = some (a, ac κ0 N f)) (hdg : decode cc pc = .ok (.arraylength, 1)) (kk : Zg X ws k n (pc + 1) lv (.int (zi (N : Int)) :: st)) : Zg X ws k n pc lv (.ref a :: st) := by
  obtain ⟨p, l, e, R, s, m, args, below, meth, c, Q, D, κ, A, nl⟩ := X
  obtain ⟨⟨hx, hb, hml, hown, hts⟩, hlk, hK, rfl, hA, rfl, rfl, rfl, rfl⟩ := E
  intro H locs ls hP hD hS hl
  exact va_alen (ty := .char) hx hb hK.1 hP q0 2 he rfl (v := zi (N : Int)) (zi_nat N).symm hdg (kk H locs ls hP hD hS hl)
theorem z_alen_ar (E : ZE X own cc nL rm l0 D0 κ0) {a N : Nat} {f : Int → Option Nat} (q0 : Nat) (he : ws[q0]? = some (a, ar κ0 N f)) (hdg : decode cc pc = .ok (.arraylength, 1)) (kk : Zg X ws k n (pc + 1) lv (.int (zi (N : Int)) :: st)) : Zg X ws k n pc lv (.ref a :: st) := by
  obtain ⟨p, l, e, R, s, m, args, below, meth, c, Q, D, κ, A, nl⟩ := X
  obtain ⟨⟨hx, hb, hml, hown, hts⟩, hlk, hK, rfl, hA, rfl, rfl, rfl, rfl⟩ := E
  intro H locs ls hP hD hS hl
  exact va_alen (ty := .object RX6) hx hb hK.1 hP q0 3 he rfl (v := zi (N : Int)) (zi_nat N).symm hdg (kk H locs ls hP hD hS hl)
theorem z_newa_ai (E : ZE X own cc nL rm l0 D0 κ0) {N : Nat} (hN : N ≤ 65536) (har : Cond.arrayClass .int ∈ zB) (hc : k + 1 ≤ rm.cells) (hsl : n + N ≤ rm.slots) (hdg : decode cc pc = .ok (.newarray .int, 2)) (kk : ∀ q : Nat, Zg X (ws ++ [(q, ai κ0 N (fun _ => 0))]) (k + 1) (n + N) (pc + 2) lv (.ref q :: st)) : Zg X ws k n pc lv (.int (zi (N : Int)) :: st) := by
  obtain ⟨p, l, e, R, s, m, args, below, meth, c, Q, D, κ, A, nl⟩ := X
  obtain ⟨⟨hx, hb, hml, hown, hts⟩, hlk, hK, rfl, hA, rfl, rfl, rfl, rfl⟩ := E
  intro H locs ls hP hD hS hl
  refine va_newa (atype := .int) (ty := .int) (N' := N) (a0 := (N, .inl (fun _ => 0))) hx hb (hts _ har) rfl hK.1 hP hD hS hA (fun _ => rfl) (zi_nn (by omega) (by omega)) (zi_clampN (by omega)) (by simp only [componentBytes]; omega) hc hsl hdg (fun q cA H1 hK1 hP hD hS => ?_)
  have e1 := (hK1.2 4 (cA, .int) rfl).2
  have e2 := (hK.1.2 0 (κ 0, .int) rfl).2
  have e3 : cA = κ 0 := Option.some.inj (e1.symm.trans e2)
  subst e3
  exact kk q H1 locs ls hP hD hS hl
theorem z_newa_al (E : ZE X own cc nL rm l0 D0 κ0) {N : Nat} (hN : N ≤ 65536) (har : Cond.arrayClass .long ∈ zB) (hc : k + 1 ≤ rm.cells) (hsl : n + N ≤ rm.slots) (hdg : decode cc pc = .ok (.newarray .long, 2)) (kk : ∀ q : Nat, Zg X (ws ++ [(q, al κ0 N (fun _ => 0))]) (k + 1) (n + N) (pc + 2) lv (.ref q :: st)) : Zg X ws k n pc lv (.int (zi (N : Int)) :: st) := by
  obtain ⟨p, l, e, R, s, m, args, below, meth, c, Q, D, κ, A, nl⟩ := X
  obtain ⟨⟨hx, hb, hml, hown, hts⟩, hlk, hK, rfl, hA, rfl, rfl, rfl, rfl⟩ := E
  intro H locs ls hP hD hS hl
  refine va_newa (atype := .long) (ty := .long) (N' := N) (a0 := (N, .inr (.inl (fun _ => 0)))) hx hb (hts _ har) rfl hK.1 hP hD hS hA (fun _ => rfl) (zi_nn (by omega) (by omega)) (zi_clampN (by omega)) (by simp only [componentBytes]; omega) hc hsl hdg (fun q cA H1 hK1 hP hD hS => ?_)
  have e1 := (hK1.2 4 (cA, .long) rfl).2
  have e2 := (hK.1.2 1 (κ 1, .long) rfl).2
  have e3 : cA = κ 1 := Option.some.inj (e1.symm.trans e2)
  subst e3
  exact kk q H1 locs ls hP hD hS hl
theorem z_newa_ac (E : ZE X own cc nL rm l0 D0 κ0) {N : Nat} (hN : N ≤ 65536) (har : Cond.arrayClass .char ∈ zB) (hc : k + 1 ≤ rm.cells) (hsl : n + N ≤ rm.slots) (hdg : decode cc pc = .ok (.newarray .char, 2)) (kk : ∀ q : Nat, Zg X (ws ++ [(q, ac κ0 N (fun _ => 0))]) (k + 1) (n + N) (pc + 2) lv (.ref q :: st)) : Zg X ws k n pc lv (.int (zi (N : Int)) :: st) := by
  obtain ⟨p, l, e, R, s, m, args, below, meth, c, Q, D, κ, A, nl⟩ := X
  obtain ⟨⟨hx, hb, hml, hown, hts⟩, hlk, hK, rfl, hA, rfl, rfl, rfl, rfl⟩ := E
  intro H locs ls hP hD hS hl
  refine va_newa (atype := .char) (ty := .char) (N' := N) (a0 := (N, .inl (fun _ => 0))) hx hb (hts _ har) rfl hK.1 hP hD hS hA (fun _ => rfl) (zi_nn (by omega) (by omega)) (zi_clampN (by omega)) (by simp only [componentBytes]; omega) hc hsl hdg (fun q cA H1 hK1 hP hD hS => ?_)
  have e1 := (hK1.2 4 (cA, .char) rfl).2
  have e2 := (hK.1.2 2 (κ 2, .char) rfl).2
  have e3 : cA = κ 2 := Option.some.inj (e1.symm.trans e2)
  subst e3
  exact kk q H1 locs ls hP hD hS hl
theorem z_newq (E : ZE X own cc nL rm l0 D0 κ0) {N index : Nat} (hN : N ≤ 65536) (hcl : Cond.classLink own index RX6 ∈ zB) (hc : k + 1 ≤ rm.cells) (hsl : n + N ≤ rm.slots) (hdg : decode cc pc = .ok (.anewarray index, 3)) (kk : ∀ q : Nat, Zg X (ws ++ [(q, ar κ0 N (fun _ => none))]) (k + 1) (n + N) (pc + 3) lv (.ref q :: st)) : Zg X ws k n pc lv (.int (zi (N : Int)) :: st) := by
  obtain ⟨p, l, e, R, s, m, args, below, meth, c, Q, D, κ, A, nl⟩ := X
  obtain ⟨⟨hx, hb, hml, hown, hts⟩, hlk, hK, rfl, hA, rfl, rfl, rfl, rfl⟩ := E
  intro H locs ls hP hD hS hl
  refine va_newq (N' := N) hx hb hown (hts _ hcl) hK.2.2 hK.1 hP hD hS hA (zi_nn (by omega) (by omega)) (zi_clampN (by omega)) (by omega) hc hsl hdg (fun q cA H1 hK1 hP hD hS => ?_)
  obtain ⟨kA, comp, -, -, -, e1⟩ := (hK1.2 4 (cA, .object RX6) rfl).2
  obtain ⟨kB, comp', -, -, -, e2⟩ := (hK.1.2 3 (κ 3, .object RX6) rfl).2
  have e3 : cA = κ 3 := Option.some.inj (e1.symm.trans e2)
  subst e3
  exact kk q H1 locs ls hP hD hS hl
def zNW (own : String) (index ci : Nat) (fs : List Value) (N : Nat) : Prop := ∃ (C : String) (T : u_T) (ty : Nat → FieldType), vwCl[ci]? = some (C, T, N) ∧ (∀ w ∈ u_ws C T N, w ∈ zB) ∧ (∀ k, k < N → parseFieldDescriptor (T k).2.2.1 = some (ty k)) ∧ Cond.classLink own index C ∈ zB ∧ Cond.instantiable C N ∈ zB ∧ Cond.initialized C ∈ zB ∧ (∀ j, j < N → defaultValue (ty j) = vp_V fs j)
theorem z_new (E : ZE X own cc nL rm l0 D0 κ0) {ci index N : Nat} {fs : List Value} (hw : zNW own index ci fs N) (hc : k + 1 ≤ rm.cells) (hsl : n + N ≤ rm.slots) (hdg : decode cc pc = .ok (.new index, 3)) (kk : ∀ q : Nat, Zg X (ws ++ [(q, .inr (ci, fs))]) (k + 1) (n + N) (pc + 3) lv (.ref q :: st)) : Zg X ws k n pc lv st := by
  obtain ⟨p, l, e, R, s, m, args, below, meth, c, Q, D, κ, A, nl⟩ := X
  obtain ⟨⟨hx, hb, hml, hown, hts⟩, hlk, hK, rfl, hA, rfl, rfl, rfl, rfl⟩ := E
  intro H locs ls hP hD hS hl
  obtain ⟨C, T, ty, h1, h2, h3, h4, h5, h6, h7⟩ := hw
  exact va_new hx hb hts h2 ty h3 hown (hts _ h4) (hts _ h5) (hts _ h6) hK.1 hP hD hS hA h1 h7 hc hsl hdg (fun q H1 hP hD hS => kk q H1 locs ls hP hD hS hl)
theorem z_objInit (E : ZE X own cc nL rm l0 D0 κ0) {a index : Nat} (hm : Cond.methodLink own index objectInit ∈ zB) (hi : Cond.instanceMethod objectInit ∈ zB) (hco : Cond.code objectInit ⟨#[0xb1]⟩ 1 none ∈ zB) (hf : 1 ≤ rm.frames) (hlo : (st.map fun v => v.category).sum + 12 ≤ rm.locals) (hdg : decode cc pc = .ok (.invokespecial index, 3)) (kk : Zg X ws k n (pc + 3) lv st) : Zg X ws k n pc lv (.ref a :: st) := by
  obtain ⟨p, l, e, R, s, m, args, below, meth, c, Q, D, κ, A, nl⟩ := X
  obtain ⟨⟨hx, hb, hml, hown, hts⟩, hlk, hK, rfl, hA, rfl, rfl, rfl, rfl⟩ := E
  intro H locs ls hP hD hS hl
  exact W.objInit hx hb hown (hts _ hm) (hts _ hi) (hts _ hco) rfl (by rw [hml]; exact hl.1) rfl hdg hf (by show 2 * 0 + _ + 12 ≤ _; omega) (kk H locs ls hP hD hS hl)
theorem z_labs (E : ZE X own cc nL rm l0 D0 κ0) {a : Int} {index : Nat} (ha : -9223372036854775808 ≤ a ∧ a ≤ 9223372036854775807) (h1 : Cond.methodLink own index Lib.MathLoose.abs_long.x ∈ zB) (h2 : Cond.static Lib.MathLoose.abs_long.x ∈ zB) (h3 : Cond.initialized "java/lang/Math" ∈ zB) (h4 : Cond.code Lib.MathLoose.abs_long.x Lib.MathLoose.abs_long.code 2 (some .long) ∈ zB) (hf : 1 ≤ rm.frames) (hlo : (st.map fun v => v.category).sum + 13 ≤ rm.locals) (hc : k ≤ rm.cells) (hsl : n ≤ rm.slots) (hdg : decode cc pc = .ok (.invokestatic index, 3)) (kk : Zg X ws k n (pc + 3) lv (.long (zl (zabs a)) :: st)) : Zg X ws k n pc lv (.long (zl a) :: st) := by
  obtain ⟨p, l, e, R, s, m, args, below, meth, c, Q, D, κ, A, nl⟩ := X
  obtain ⟨⟨hx, hb, hml, hown, hts⟩, hlk, hK, rfl, hA, rfl, rfl, rfl, rfl⟩ := E
  intro H locs ls hP hD hS hl
  exact va_mabs_long hx hb (by rw [hml]; exact hl.1.symm) hown (hts _ h1) (hts _ h2) (hts _ h3) (hts _ h4) hf hlo hc hsl hdg (by rw [zl_abs ha]; exact kk H locs ls hP hD hS hl)
theorem z_imax (E : ZE X own cc nL rm l0 D0 κ0) {a b : Int} {index : Nat} (ha : -2147483648 ≤ a ∧ a ≤ 2147483647) (hbb : -2147483648 ≤ b ∧ b ≤ 2147483647) (h1 : Cond.methodLink own index Lib.Math.max.name ∈ zB) (h2 : Cond.static Lib.Math.max.name ∈ zB) (h3 : Cond.initialized "java/lang/Math" ∈ zB) (h4 : Cond.code Lib.Math.max.name Lib.Math.max.code 2 (some .int) ∈ zB) (hf : 1 ≤ rm.frames) (hlo : (st.map fun v => v.category).sum + 13 ≤ rm.locals) (hc : k ≤ rm.cells) (hsl : n ≤ rm.slots) (hdg : decode cc pc = .ok (.invokestatic index, 3)) (kk : Zg X ws k n (pc + 3) lv (.int (zi (if a < b then b else a)) :: st)) : Zg X ws k n pc lv (.int (zi b) :: .int (zi a) :: st) := by
  obtain ⟨p, l, e, R, s, m, args, below, meth, c, Q, D, κ, A, nl⟩ := X
  obtain ⟨⟨hx, hb, hml, hown, hts⟩, hlk, hK, rfl, hA, rfl, rfl, rfl, rfl⟩ := E
  intro H locs ls hP hD hS hl
  exact va_mmax hx hb (by rw [hml]; exact hl.1.symm) hown (hts _ h1) (hts _ h2) (hts _ h3) (hts _ h4) hf hlo hc hsl hdg (by rw [zi_max ha hbb]; exact kk H locs ls hP hD hS hl)
end ZROWS
