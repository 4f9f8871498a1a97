abbrev rm_X10_isWithin : Room := { frames := 0, cells := 0, slots := 0, locals := 0 }
set_option maxRecDepth 100000 in
theorem c_X10_isWithin (l : Launch) (D : va_G) (κ : Nat → ClassId) (x : Int) (lo : Int) (hi : Int) (hx : -2147483648 ≤ x ∧ x ≤ 2147483647) (hlo : -2147483648 ≤ lo ∧ lo ≤ 2147483647) (hhi : -2147483648 ≤ hi ∧ hi ≤ 2147483647) : ZI l yX10_isWithin cX10_isWithin 3 .boolean rm_X10_isWithin D κ [.int (zi x), .int (zi lo), .int (zi hi)] [] (fun z w => ((1 = z ∧ (lo ≤ x ∧ x ≤ hi)) ∨ (0 = z ∧ ¬ (lo ≤ x ∧ x ≤ hi))) ∧ [] = w) := by
  refine ZI.enter (own := RX10) rfl pn_X10_isWithin (Nat.le_of_ble_eq_true rfl) (fun X E fin => ?_)
  show Zg X [] 0 0 0 [(0, .int (zi x)), (1, .int (zi lo)), (2, .int (zi hi))] []
  refine z_iload_n E 0 rfl rfl dX10_isWithin_0 ?_
  refine z_iload_n E 1 rfl rfl dX10_isWithin_1 ?_
  refine z_ic_lt (tgt := 14) E (by omega) (by omega) dX10_isWithin_2 (by decide) (fun h_2 => ?_) (fun h_2 => ?_)
  · refine z_iconst E dX10_isWithin_14 ?_
    exact fin _ _ _ _ rfl (by first | exact ⟨Or.inr ⟨rfl, by omega⟩, rfl⟩ | omega) dX10_isWithin_15
  · refine z_iload_n E 0 rfl rfl dX10_isWithin_5 ?_
    refine z_iload_n E 2 rfl rfl dX10_isWithin_6 ?_
    refine z_ic_gt (tgt := 14) E (by omega) (by omega) dX10_isWithin_7 (by decide) (fun h_7 => ?_) (fun h_7 => ?_)
    · refine z_iconst E dX10_isWithin_14 ?_
      exact fin _ _ _ _ rfl (by first | exact ⟨Or.inr ⟨rfl, by omega⟩, rfl⟩ | omega) dX10_isWithin_15
    · refine z_iconst E dX10_isWithin_10 ?_
      refine z_goto (tgt := 15) E dX10_isWithin_11 (by decide) ?_
      exact fin _ _ _ _ rfl (by first | exact ⟨Or.inl ⟨rfl, by omega⟩, rfl⟩ | omega) dX10_isWithin_15
abbrev rm_X11_in : Room := { frames := 0, cells := 0, slots := 0, locals := 0 }
set_option maxRecDepth 100000 in
theorem c_X11_in (l : Launch) (D : va_G) (κ : Nat → ClassId) (x : Int) (lo : Int) (hi : Int) (hx : -9223372036854775808 ≤ x ∧ x ≤ 9223372036854775807) (hlo : -9223372036854775808 ≤ lo ∧ lo ≤ 9223372036854775807) (hhi : -9223372036854775808 ≤ hi ∧ hi ≤ 9223372036854775807) : ZI l yX11_in cX11_in 6 .boolean rm_X11_in D κ [.long (zl x), .long (zl lo), .long (zl hi)] [] (fun z w => ((1 = z ∧ (lo ≤ x ∧ x ≤ hi)) ∨ (0 = z ∧ ¬ (lo ≤ x ∧ x ≤ hi))) ∧ [] = w) := by
  refine ZI.enter (own := RX11) rfl pn_X11_in (Nat.le_of_ble_eq_true rfl) (fun X E fin => ?_)
  show Zg X [] 0 0 0 [(0, .long (zl x)), (2, .long (zl lo)), (4, .long (zl hi))] []
  refine z_lload_n E 0 rfl rfl dX11_in_0 ?_
  refine z_lload_n E 1 rfl rfl dX11_in_1 ?_
  refine z_lc_lt (tgt := 17) E (by omega) (by omega) dX11_in_2 dX11_in_3 (by decide) (fun h_2 => ?_) (fun h_2 => ?_)
  · refine z_iconst E dX11_in_17 ?_
    exact fin _ _ _ _ rfl (by first | exact ⟨Or.inr ⟨rfl, by omega⟩, rfl⟩ | omega) dX11_in_18
  · refine z_lload_n E 0 rfl rfl dX11_in_6 ?_
    refine z_lload E 2 rfl dX11_in_7 ?_
    refine z_lc_gt (tgt := 17) E (by omega) (by omega) dX11_in_9 dX11_in_10 (by decide) (fun h_9 => ?_) (fun h_9 => ?_)
    · refine z_iconst E dX11_in_17 ?_
      exact fin _ _ _ _ rfl (by first | exact ⟨Or.inr ⟨rfl, by omega⟩, rfl⟩ | omega) dX11_in_18
    · refine z_iconst E dX11_in_13 ?_
      refine z_goto (tgt := 18) E dX11_in_14 (by decide) ?_
      exact fin _ _ _ _ rfl (by first | exact ⟨Or.inl ⟨rfl, by omega⟩, rfl⟩ | omega) dX11_in_18
abbrev rm_X10_oneIf : Room := { frames := 0, cells := 0, slots := 0, locals := 0 }
set_option maxRecDepth 100000 in
theorem c_X10_oneIf (l : Launch) (D : va_G) (κ : Nat → ClassId) (x : Int) (hx : x = 0 ∨ x = 1) : ZI l yX10_oneIf cX10_oneIf 1 .int rm_X10_oneIf D κ [.int (zi x)] [] (fun z w => x = z ∧ [] = w) := by
  refine ZI.enter (own := RX10) rfl pn_X10_oneIf (Nat.le_of_ble_eq_true rfl) (fun X E fin => ?_)
  show Zg X [] 0 0 0 [(0, .int (zi x))] []
  refine z_iload_n E 0 rfl rfl dX10_oneIf_0 ?_
  refine z_if_eq (tgt := 8) E (by omega) dX10_oneIf_1 (by decide) (fun h_1 => ?_) (fun h_1 => ?_)
  · refine z_iconst E dX10_oneIf_8 ?_
    exact fin _ _ _ _ rfl (⟨by omega, rfl⟩) dX10_oneIf_9
  · refine z_iconst E dX10_oneIf_4 ?_
    refine z_goto (tgt := 9) E dX10_oneIf_5 (by decide) ?_
    exact fin _ _ _ _ rfl (⟨by omega, rfl⟩) dX10_oneIf_9
abbrev rm_X0_upperAt : Room := { frames := 0, cells := 0, slots := 0, locals := 0 }
set_option maxRecDepth 100000 in
theorem c_X0_upperAt (l : Launch) (D : va_G) (κ : Nat → ClassId) (h0 : Nat) (hu : Nat) (hl : Nat) (n : Int) (u : Int → Int) (i : Int) (hi : 0 ≤ i ∧ i < 8) : ZI l yX0_upperAt cX0_upperAt 2 .int rm_X0_upperAt D κ [.ref h0, .int (zi i)] [(h0, .inr (0, [.ref hu, .ref hl, .int (zi n)])), (hu, ai κ 8 u)] (fun z w => (u i) = z ∧ [(h0, .inr (0, [.ref hu, .ref hl, .int (zi n)])), (hu, ai κ 8 u)] = w) := by
  refine ZI.enter (own := RX0) rfl pn_X0_upperAt (Nat.le_of_ble_eq_true rfl) (fun X E fin => ?_)
  show Zg X [(h0, .inr (0, [.ref hu, .ref hl, .int (zi n)])), (hu, ai κ 8 u)] 0 0 0 [(0, .ref h0), (1, .int (zi i))] []
  refine z_iload_n E 1 rfl rfl dX0_upperAt_0 ?_
  refine z_if_lt (tgt := 22) E (by omega) dX0_upperAt_1 (by decide) (fun h_1 => ?_) (fun h_1 => ?_)
  · refine z_iconst E dX0_upperAt_22 ?_
    exact fin _ _ _ _ rfl (by first | exact ⟨rfl, rfl⟩ | omega) dX0_upperAt_23
  · refine z_iload_n E 1 rfl rfl dX0_upperAt_4 ?_
    refine z_aload_n E 0 rfl rfl dX0_upperAt_5 ?_
    refine z_get E f_X0_9 0 rfl rfl dX0_upperAt_6 ?_
    refine z_alen_ai E 1 rfl dX0_upperAt_9 ?_
    refine z_ic_ge (tgt := 22) E (by omega) (by omega) dX0_upperAt_10 (by decide) (fun h_10 => ?_) (fun h_10 => ?_)
    · refine z_iconst E dX0_upperAt_22 ?_
      exact fin _ _ _ _ rfl (by first | exact ⟨rfl, rfl⟩ | omega) dX0_upperAt_23
    · refine z_aload_n E 0 rfl rfl dX0_upperAt_13 ?_
      refine z_get E f_X0_9 0 rfl rfl dX0_upperAt_14 ?_
      refine z_iload_n E 1 rfl rfl dX0_upperAt_17 ?_
      refine z_iald E 1 rfl (Nat.le_of_ble_eq_true rfl) (by omega) (by omega) dX0_upperAt_18 ?_
      refine z_goto (tgt := 23) E dX0_upperAt_19 (by decide) ?_
      exact fin _ _ _ _ rfl (by first | exact ⟨rfl, rfl⟩ | omega) dX0_upperAt_23
abbrev rm_X0_lowerAt : Room := { frames := 0, cells := 0, slots := 0, locals := 0 }
set_option maxRecDepth 100000 in
theorem c_X0_lowerAt (l : Launch) (D : va_G) (κ : Nat → ClassId) (h0 : Nat) (hu : Nat) (hl : Nat) (n : Int) (u : Int → Int) (i : Int) (hi : 0 ≤ i ∧ i < 8) : ZI l yX0_lowerAt cX0_lowerAt 2 .int rm_X0_lowerAt D κ [.ref h0, .int (zi i)] [(h0, .inr (0, [.ref hu, .ref hl, .int (zi n)])), (hl, ai κ 8 u)] (fun z w => (u i) = z ∧ [(h0, .inr (0, [.ref hu, .ref hl, .int (zi n)])), (hl, ai κ 8 u)] = w) := by
  refine ZI.enter (own := RX0) rfl pn_X0_lowerAt (Nat.le_of_ble_eq_true rfl) (fun X E fin => ?_)
  show Zg X [(h0, .inr (0, [.ref hu, .ref hl, .int (zi n)])), (hl, ai κ 8 u)] 0 0 0 [(0, .ref h0), (1, .int (zi i))] []
  refine z_iload_n E 1 rfl rfl dX0_lowerAt_0 ?_
  refine z_if_lt (tgt := 22) E (by omega) dX0_lowerAt_1 (by decide) (fun h_1 => ?_) (fun h_1 => ?_)
  · refine z_iconst E dX0_lowerAt_22 ?_
    exact fin _ _ _ _ rfl (by first | exact ⟨rfl, rfl⟩ | omega) dX0_lowerAt_23
  · refine z_iload_n E 1 rfl rfl dX0_lowerAt_4 ?_
    refine z_aload_n E 0 rfl rfl dX0_lowerAt_5 ?_
    refine z_get E f_X0_15 0 rfl rfl dX0_lowerAt_6 ?_
    refine z_alen_ai E 1 rfl dX0_lowerAt_9 ?_
    refine z_ic_ge (tgt := 22) E (by omega) (by omega) dX0_lowerAt_10 (by decide) (fun h_10 => ?_) (fun h_10 => ?_)
    · refine z_iconst E dX0_lowerAt_22 ?_
      exact fin _ _ _ _ rfl (by first | exact ⟨rfl, rfl⟩ | omega) dX0_lowerAt_23
    · refine z_aload_n E 0 rfl rfl dX0_lowerAt_13 ?_
      refine z_get E f_X0_15 0 rfl rfl dX0_lowerAt_14 ?_
      refine z_iload_n E 1 rfl rfl dX0_lowerAt_17 ?_
      refine z_iald E 1 rfl (Nat.le_of_ble_eq_true rfl) (by omega) (by omega) dX0_lowerAt_18 ?_
      refine z_goto (tgt := 23) E dX0_lowerAt_19 (by decide) ?_
      exact fin _ _ _ _ rfl (by first | exact ⟨rfl, rfl⟩ | omega) dX0_lowerAt_23
abbrev rm_X0_put : Room := { frames := 0, cells := 0, slots := 0, locals := 0 }
set_option maxRecDepth 100000 in
theorem c_X0_put (l : Launch) (D : va_G) (κ : Nat → ClassId) (h0 : Nat) (hu : Nat) (hl : Nat) (n : Int) (u : Int → Int) (lo : Int → Int) (i : Int) (a : Int) (b : Int) (hi : 0 ≤ i ∧ i < 8) : ZV l yX0_put cX0_put 4 rm_X0_put D κ [.ref h0, .int (zi i), .int (zi a), .int (zi b)] [(h0, .inr (0, [.ref hu, .ref hl, .int (zi n)])), (hu, ai κ 8 u), (hl, ai κ 8 lo)] (fun w => [(h0, .inr (0, [.ref hu, .ref hl, .int (zi n)])), (hu, ai κ 8 (zu u i a)), (hl, ai κ 8 (zu lo i b))] = w) := by
  refine ZV.enter (own := RX0) rfl pn_X0_put (Nat.le_of_ble_eq_true rfl) (fun X E fin => ?_)
  show Zg X [(h0, .inr (0, [.ref hu, .ref hl, .int (zi n)])), (hu, ai κ 8 u), (hl, ai κ 8 lo)] 0 0 0 [(0, .ref h0), (1, .int (zi i)), (2, .int (zi a)), (3, .int (zi b))] []
  refine z_iload_n E 1 rfl rfl dX0_put_0 ?_
  refine z_if_lt (tgt := 36) E (by omega) dX0_put_1 (by decide) (fun h_1 => ?_) (fun h_1 => ?_)
  · exact fin _ _ _ (by first | exact rfl | omega) dX0_put_36
  · refine z_iload_n E 1 rfl rfl dX0_put_4 ?_
    refine z_aload_n E 0 rfl rfl dX0_put_5 ?_
    refine z_get E f_X0_9 0 rfl rfl dX0_put_6 ?_
    refine z_alen_ai E 1 rfl dX0_put_9 ?_
    refine z_ic_ge (tgt := 36) E (by omega) (by omega) dX0_put_10 (by decide) (fun h_10 => ?_) (fun h_10 => ?_)
    · exact fin _ _ _ (by first | exact rfl | omega) dX0_put_36
    · refine z_iload_n E 1 rfl rfl dX0_put_13 ?_
      refine z_aload_n E 0 rfl rfl dX0_put_14 ?_
      refine z_get E f_X0_15 0 rfl rfl dX0_put_15 ?_
      refine z_alen_ai E 2 rfl dX0_put_18 ?_
      refine z_ic_ge (tgt := 36) E (by omega) (by omega) dX0_put_19 (by decide) (fun h_19 => ?_) (fun h_19 => ?_)
      · exact fin _ _ _ (by first | exact rfl | omega) dX0_put_36
      · refine z_aload_n E 0 rfl rfl dX0_put_22 ?_
        refine z_get E f_X0_9 0 rfl rfl dX0_put_23 ?_
        refine z_iload_n E 1 rfl rfl dX0_put_26 ?_
        refine z_iload_n E 2 rfl rfl dX0_put_27 ?_
        refine z_iast (ws' := [(h0, .inr (0, [.ref hu, .ref hl, .int (zi n)])), (hu, ai κ 8 (zu u i a)), (hl, ai κ 8 lo)]) E 1 rfl (Nat.le_of_ble_eq_true rfl) (by omega) (by omega) rfl dX0_put_28 ?_
        refine z_aload_n E 0 rfl rfl dX0_put_29 ?_
        refine z_get E f_X0_15 0 rfl rfl dX0_put_30 ?_
        refine z_iload_n E 1 rfl rfl dX0_put_33 ?_
        refine z_iload_n E 3 rfl rfl dX0_put_34 ?_
        refine z_iast (ws' := [(h0, .inr (0, [.ref hu, .ref hl, .int (zi n)])), (hu, ai κ 8 (zu u i a)), (hl, ai κ 8 (zu lo i b))]) E 2 rfl (Nat.le_of_ble_eq_true rfl) (by omega) (by omega) rfl dX0_put_35 ?_
        exact fin _ _ _ (by first | exact rfl | omega) dX0_put_36
abbrev rm_X7_rootOf : Room := { frames := 0, cells := 0, slots := 0, locals := 0 }
set_option maxRecDepth 100000 in
theorem c_X7_rootOf (l : Launch) (D : va_G) (κ : Nat → ClassId) (n : Int) (hn : 0 ≤ n ∧ n < 4294967296) : ZL l yX7_rootOf cX7_rootOf 6 rm_X7_rootOf D κ [.long (zl n)] [] (fun z w => (rt n) = z ∧ [] = w) := by
  refine ZL.enter (own := RX7) rfl pn_X7_rootOf (Nat.le_of_ble_eq_true rfl) (fun X E fin => ?_)
  show Zg X [] 0 0 0 [(0, .long (zl n))] []
  refine z_lconst0 E dX7_rootOf_0 ?_
  refine z_lstore_n (lv' := [(2, .long (zl 0)), (0, .long (zl n))]) E dX7_rootOf_1 rfl (Nat.le_of_ble_eq_true rfl) rfl ?_
  refine z_ldc2 E k_X7_41 dX7_rootOf_2 ?_
  refine z_lstore (lv' := [(4, .long (zl 32768)), (2, .long (zl 0)), (0, .long (zl n))]) E dX7_rootOf_5 (Nat.le_of_ble_eq_true rfl) rfl ?_
  have lp_7 : ∀ (n_7 : Nat) (r : Int) (b : Int), (rtInv n r b) → (b) < (n_7 : Int) → Zg X [] 0 0 7 [(0, .long (zl n)), (2, .long (zl r)), (4, .long (zl b))] [] := by
    intro n_7
    induction n_7 with
    | zero =>
      intro r b i1 hmu
      exact absurd hmu (by have := rtInv_bd i1; omega)
    | succ n_7 ih_7 =>
      intro r b i1 hmu_7
      have hbd := rtInv_bd i1
      refine z_lload E 2 rfl dX7_rootOf_7 ?_
      refine z_lconst0 E dX7_rootOf_9 ?_
      refine z_lc_le (tgt := 42) E (by omega) (by omega) dX7_rootOf_10 dX7_rootOf_11 (by decide) (fun h_10 => ?_) (fun h_10 => ?_)
      · refine z_lload_n E 1 rfl rfl dX7_rootOf_42 ?_
        exact fin _ _ _ _ (⟨rtInv_end i1 (by omega), rfl⟩) dX7_rootOf_43
      · refine z_lload_n E 1 rfl rfl dX7_rootOf_14 ?_
        refine z_lload E 2 rfl dX7_rootOf_15 ?_
        refine z_ladd E dX7_rootOf_17 ?_
        refine z_lload_n E 1 rfl rfl dX7_rootOf_18 ?_
        refine z_lload E 2 rfl dX7_rootOf_19 ?_
        refine z_ladd E dX7_rootOf_21 ?_
        refine z_lmul E dX7_rootOf_22 ?_
        refine z_lload_n E 0 rfl rfl dX7_rootOf_23 ?_
        refine z_lc_gt (tgt := 33) E (by omega) (by omega) dX7_rootOf_24 dX7_rootOf_25 (by decide) (fun h_24 => ?_) (fun h_24 => ?_)
        · refine z_lload E 2 rfl dX7_rootOf_33 ?_
          refine z_iconst E dX7_rootOf_35 ?_
          refine z_lshr1 E (by omega) dX7_rootOf_36 ?_
          refine z_lstore (lv' := [(4, .long (zl (b / 2))), (0, .long (zl n)), (2, .long (zl r))]) E dX7_rootOf_37 (Nat.le_of_ble_eq_true rfl) rfl ?_
          refine z_goto (tgt := 7) E dX7_rootOf_39 (by decide) ?_
          refine Zg.sub (lv' := [(0, .long (zl n)), (2, .long (zl r)), (4, .long (zl (b / 2)))]) [1, 2, 0] rfl ?_
          exact ih_7 r (b / 2) (rtInv_dn i1 (by omega) (by omega)) (by omega)
        · refine z_lload_n E 1 rfl rfl dX7_rootOf_28 ?_
          refine z_lload E 2 rfl dX7_rootOf_29 ?_
          refine z_ladd E dX7_rootOf_31 ?_
          refine z_lstore_n (lv' := [(2, .long (zl (r + b))), (0, .long (zl n)), (4, .long (zl b))]) E dX7_rootOf_32 rfl (Nat.le_of_ble_eq_true rfl) rfl ?_
          refine z_lload E 2 rfl dX7_rootOf_33 ?_
          refine z_iconst E dX7_rootOf_35 ?_
          refine z_lshr1 E (by omega) dX7_rootOf_36 ?_
          refine z_lstore (lv' := [(4, .long (zl (b / 2))), (2, .long (zl (r + b))), (0, .long (zl n))]) E dX7_rootOf_37 (Nat.le_of_ble_eq_true rfl) rfl ?_
          refine z_goto (tgt := 7) E dX7_rootOf_39 (by decide) ?_
          refine Zg.sub (lv' := [(0, .long (zl n)), (2, .long (zl (r + b))), (4, .long (zl (b / 2)))]) [2, 1, 0] rfl ?_
          exact ih_7 (r + b) (b / 2) (rtInv_up i1 (by omega) (by omega)) (by omega)
  refine Zg.sub (lv' := [(0, .long (zl n)), (2, .long (zl 0)), (4, .long (zl 32768))]) [2, 1, 0] rfl ?_
  exact lp_7 ((32768 : Int).toNat + 1) 0 32768 (rtInv_0 hn.1 hn.2) (by omega)
abbrev rm_J9_floorDiv_f86c9 : Room := { frames := 0, cells := 0, slots := 0, locals := 0 }
set_option maxRecDepth 100000 in
theorem c_J9_floorDiv_f86c9 (l : Launch) (D : va_G) (κ : Nat → ClassId) (a : Int) (b : Int) (ha : -4611686018427387904 ≤ a ∧ a ≤ 4611686018427387904) (hb : 0 < b ∧ b ≤ 4611686018427387904) : ZL l yJ9_floorDiv_f86c9 cJ9_floorDiv_f86c9 6 rm_J9_floorDiv_f86c9 D κ [.long (zl a), .long (zl b)] [] (fun z w => (a / b) = z ∧ [] = w) := by
  refine ZL.enter (own := RJ9) rfl pn_J9_floorDiv_f86c9 (Nat.le_of_ble_eq_true rfl) (fun X E fin => ?_)
  show Zg X [] 0 0 0 [(0, .long (zl a)), (2, .long (zl b))] []
  have hq := tdiv_spec (a := a) (b := b) hb.1
  have hq2 := ediv_spec (a := a) (b := b) hb.1
  have hq3 := tdiv_bd (a := a) (b := b) hb.1
  have hq4 := zabs_or a
  refine z_lload_n E 0 rfl rfl dJ9_floorDiv_f86c9_0 ?_
  refine z_lload_n E 1 rfl rfl dJ9_floorDiv_f86c9_1 ?_
  refine z_ldiv E (by omega) (by omega) (by omega) dJ9_floorDiv_f86c9_2 ?_
  refine z_lstore (lv' := [(4, .long (zl (Int.tdiv a b))), (0, .long (zl a)), (2, .long (zl b))]) E dJ9_floorDiv_f86c9_3 (Nat.le_of_ble_eq_true rfl) rfl ?_
  refine z_lload_n E 1 rfl rfl dJ9_floorDiv_f86c9_5 ?_
  refine z_lload_n E 2 rfl rfl dJ9_floorDiv_f86c9_6 ?_
  obtain ⟨x_7, ex_7, rx_7, sx_7⟩ := zl_xor (a := a) (b := b) (by omega) (by omega)
  refine z_lxor E dJ9_floorDiv_f86c9_7 ?_
  rw [ex_7]
  refine z_lconst0 E dJ9_floorDiv_f86c9_8 ?_
  refine z_lc_ge (tgt := 27) E (by omega) (by omega) dJ9_floorDiv_f86c9_9 dJ9_floorDiv_f86c9_10 (by decide) (fun h_9 => ?_) (fun h_9 => ?_)
  · refine z_lload E 0 rfl dJ9_floorDiv_f86c9_27 ?_
    exact fin _ _ _ _ (⟨tdiv_floor hb.1 (by omega), rfl⟩) dJ9_floorDiv_f86c9_29
  · refine z_lload E 0 rfl dJ9_floorDiv_f86c9_13 ?_
    refine z_lload_n E 2 rfl rfl dJ9_floorDiv_f86c9_15 ?_
    refine z_lmul E dJ9_floorDiv_f86c9_16 ?_
    refine z_lload_n E 1 rfl rfl dJ9_floorDiv_f86c9_17 ?_
    refine z_lc_eq (tgt := 27) E (by omega) (by omega) dJ9_floorDiv_f86c9_18 dJ9_floorDiv_f86c9_19 (by decide) (fun h_18 => ?_) (fun h_18 => ?_)
    · refine z_lload E 0 rfl dJ9_floorDiv_f86c9_27 ?_
      exact fin _ _ _ _ (⟨tdiv_floor hb.1 (by omega), rfl⟩) dJ9_floorDiv_f86c9_29
    · refine z_lload E 0 rfl dJ9_floorDiv_f86c9_22 ?_
      refine z_lconst1 E dJ9_floorDiv_f86c9_24 ?_
      refine z_lsub E dJ9_floorDiv_f86c9_25 ?_
      exact fin _ _ _ _ (⟨(hq.2.2 (by omega) (by omega)).symm, rfl⟩) dJ9_floorDiv_f86c9_26
abbrev rm_X7_init : Room := { frames := 1, cells := 0, slots := 0, locals := 12 }
set_option maxRecDepth 100000 in
theorem c_X7_init (l : Launch) (D : va_G) (κ : Nat → ClassId) (h0 : Nat)  : ZV l yX7_init cX7_init 1 rm_X7_init D κ [.ref h0] [(h0, .inr (7, [.long (zl 0), .long (zl 0), .long (zl 0), .long (zl 0)]))] (fun w => [(h0, .inr (7, [.long (zl 0), .long (zl 0), .long (zl 0), .long (zl 0)]))] = w) := by
  refine ZV.enter0 (own := RX7) rfl pn_X7_init (Nat.le_of_ble_eq_true rfl) (fun X E hini fin => ?_)
  have hini := hini rfl
  show Zg X [(h0, .inr (7, [.long (zl 0), .long (zl 0), .long (zl 0), .long (zl 0)]))] 0 0 0 [(0, .ref h0)] []
  refine z_aload_n E 0 rfl rfl dX7_init_0 ?_
  refine z_objInit E m_X7_1 in_obj co_obj (Nat.le_of_ble_eq_true rfl) (Nat.le_of_ble_eq_true rfl) dX7_init_1 ?_
  exact fin _ _ _ (by first | exact rfl | omega) dX7_init_4
abbrev rm_X7_begin : Room := { frames := 1, cells := 0, slots := 0, locals := 25 }
set_option maxRecDepth 100000 in
theorem c_X7_begin (l : Launch) (D : va_G) (κ : Nat → ClassId) (h0 : Nat) (t : Int) (b : Int) (s : Int) (r : Int) (p : Int) (d : Int) (q : Int) (hq : -99 ≤ q ∧ q ≤ 99) (hs : 0 ≤ (d * (zabs q)) * (zabs q) ∧ (d * (zabs q)) * (zabs q) < 4294967296) : ZV l yX7_begin cX7_begin 9 rm_X7_begin D κ [.ref h0, .long (zl p), .long (zl d), .long (zl q)] [(h0, .inr (7, [.long (zl t), .long (zl b), .long (zl s), .long (zl r)]))] (fun w => [(h0, .inr (7, [.long (zl (p * (zabs q))), .long (zl (q * (zabs q))), .long (zl ((d * (zabs q)) * (zabs q))), .long (zl (rt ((d * (zabs q)) * (zabs q))))]))] = w) := by
  refine ZV.enter (own := RX7) rfl pn_X7_begin (Nat.le_of_ble_eq_true rfl) (fun X E fin => ?_)
  show Zg X [(h0, .inr (7, [.long (zl t), .long (zl b), .long (zl s), .long (zl r)]))] 0 0 0 [(0, .ref h0), (1, .long (zl p)), (3, .long (zl d)), (5, .long (zl q))] []
  refine z_lload E 3 rfl dX7_begin_0 ?_
  refine z_labs E (by omega) m_X7_7 st_abs i_Math co_abs (Nat.le_of_ble_eq_true rfl) (Nat.le_of_ble_eq_true rfl) (Nat.le_of_ble_eq_true rfl) (Nat.le_of_ble_eq_true rfl) dX7_begin_2 ?_
  refine z_lstore (lv' := [(7, .long (zl (zabs q))), (0, .ref h0), (1, .long (zl p)), (3, .long (zl d)), (5, .long (zl q))]) E dX7_begin_5 (Nat.le_of_ble_eq_true rfl) rfl ?_
  refine z_aload_n E 1 rfl rfl dX7_begin_7 ?_
  refine z_lload_n E 2 rfl rfl dX7_begin_8 ?_
  refine z_lload E 0 rfl dX7_begin_9 ?_
  refine z_lmul E dX7_begin_11 ?_
  refine z_put (ws' := [(h0, .inr (7, [.long (zl (p * (zabs q))), .long (zl b), .long (zl s), .long (zl r)]))]) E f_X7_13 t_X7_0 0 rfl rfl rfl (Nat.le_of_ble_eq_true rfl) rfl dX7_begin_12 ?_
  refine z_aload_n E 1 rfl rfl dX7_begin_15 ?_
  refine z_lload E 4 rfl dX7_begin_16 ?_
  refine z_lload E 0 rfl dX7_begin_18 ?_
  refine z_lmul E dX7_begin_20 ?_
  refine z_put (ws' := [(h0, .inr (7, [.long (zl (p * (zabs q))), .long (zl (q * (zabs q))), .long (zl s), .long (zl r)]))]) E f_X7_19 t_X7_1 0 rfl rfl rfl (Nat.le_of_ble_eq_true rfl) rfl dX7_begin_21 ?_
  refine z_aload_n E 1 rfl rfl dX7_begin_24 ?_
  refine z_lload_n E 3 rfl rfl dX7_begin_25 ?_
  refine z_lload E 0 rfl dX7_begin_26 ?_
  refine z_lmul E dX7_begin_28 ?_
  refine z_lload E 0 rfl dX7_begin_29 ?_
  refine z_lmul E dX7_begin_31 ?_
  refine z_put (ws' := [(h0, .inr (7, [.long (zl (p * (zabs q))), .long (zl (q * (zabs q))), .long (zl ((d * (zabs q)) * (zabs q))), .long (zl r)]))]) E f_X7_22 t_X7_2 0 rfl rfl rfl (Nat.le_of_ble_eq_true rfl) rfl dX7_begin_32 ?_
  refine z_aload_n E 1 rfl rfl dX7_begin_35 ?_
  refine z_aload_n E 1 rfl rfl dX7_begin_36 ?_
  refine z_get E f_X7_22 0 rfl rfl dX7_begin_37 ?_
  refine z_callSl (As := [.long (zl ((d * (zabs q)) * (zabs q)))]) (rest := [.ref h0]) (wr := [(h0, .inr (7, [.long (zl (p * (zabs q))), .long (zl (q * (zabs q))), .long (zl ((d * (zabs q)) * (zabs q))), .long (zl r)]))]) E (c_X7_rootOf l D κ ((d * (zabs q)) * (zabs q)) (by omega)) m_X7_25 ⟨Nat.le_of_ble_eq_true rfl, Nat.le_of_ble_eq_true rfl⟩ ⟨rfl, rfl⟩ [] [0] rfl rfl rfl rfl (by decide) rfl rfl (Nat.le_of_ble_eq_true rfl) dX7_begin_40 ⟨Nat.le_of_ble_eq_true rfl, Nat.le_of_ble_eq_true rfl⟩ (fun z40 w1 hq => ?_)
  obtain ⟨rfl, rfl⟩ := hq
  refine z_put (ws' := [(h0, .inr (7, [.long (zl (p * (zabs q))), .long (zl (q * (zabs q))), .long (zl ((d * (zabs q)) * (zabs q))), .long (zl (rt ((d * (zabs q)) * (zabs q))))]))]) E f_X7_28 t_X7_3 0 rfl rfl rfl (Nat.le_of_ble_eq_true rfl) rfl dX7_begin_43 ?_
  exact fin _ _ _ (by first | exact rfl | omega) dX7_begin_46
abbrev rm_X7_whole : Room := { frames := 1, cells := 0, slots := 0, locals := 25 }
set_option maxRecDepth 100000 in
theorem c_X7_whole (l : Launch) (D : va_G) (κ : Nat → ClassId) (h0 : Nat) (t : Int) (b : Int) (s : Int) (r : Int) (ht : -1000000 ≤ t ∧ t ≤ 1000000) (hb : -1000000 ≤ b ∧ b ≤ 1000000) (hr : -1000000 ≤ r ∧ r ≤ 1000000) : ZL l yX7_whole cX7_whole 1 rm_X7_whole D κ [.ref h0] [(h0, .inr (7, [.long (zl t), .long (zl b), .long (zl s), .long (zl r)]))] (fun z w => (wh r t b) = z ∧ [(h0, .inr (7, [.long (zl t), .long (zl b), .long (zl s), .long (zl r)]))] = w) := by
  refine ZL.enter (own := RX7) rfl pn_X7_whole (Nat.le_of_ble_eq_true rfl) (fun X E fin => ?_)
  show Zg X [(h0, .inr (7, [.long (zl t), .long (zl b), .long (zl s), .long (zl r)]))] 0 0 0 [(0, .ref h0)] []
  refine z_aload_n E 0 rfl rfl dX7_whole_0 ?_
  refine z_get E f_X7_19 0 rfl rfl dX7_whole_1 ?_
  refine z_lconst0 E dX7_whole_4 ?_
  refine z_lc_le (tgt := 26) E (by omega) (by omega) dX7_whole_5 dX7_whole_6 (by decide) (fun h_5 => ?_) (fun h_5 => ?_)
  · refine z_aload_n E 0 rfl rfl dX7_whole_26 ?_
    refine z_get E f_X7_19 0 rfl rfl dX7_whole_27 ?_
    refine z_lconst0 E dX7_whole_30 ?_
    refine z_lc_ge (tgt := 57) E (by omega) (by omega) dX7_whole_31 dX7_whole_32 (by decide) (fun h_31 => ?_) (fun h_31 => ?_)
    · refine z_lconst0 E dX7_whole_57 ?_
      exact fin _ _ _ _ (⟨wh_zero (by omega), rfl⟩) dX7_whole_58
    · refine z_ldc2 E k_X7_35 dX7_whole_35 ?_
      refine z_aload_n E 0 rfl rfl dX7_whole_38 ?_
      refine z_get E f_X7_13 0 rfl rfl dX7_whole_39 ?_
      refine z_aload_n E 0 rfl rfl dX7_whole_42 ?_
      refine z_get E f_X7_28 0 rfl rfl dX7_whole_43 ?_
      refine z_ladd E dX7_whole_46 ?_
      refine z_aload_n E 0 rfl rfl dX7_whole_47 ?_
      refine z_get E f_X7_19 0 rfl rfl dX7_whole_48 ?_
      refine z_lneg E dX7_whole_51 ?_
      refine z_callSl (As := [.long (zl (t + r)), .long (zl (-b))]) (rest := [.long (zl (-1))]) (wr := [(h0, .inr (7, [.long (zl t), .long (zl b), .long (zl s), .long (zl r)]))]) E (c_J9_floorDiv_f86c9 l D κ (t + r) (-b) (by omega) (by omega)) m_X7_31 ⟨Nat.le_of_ble_eq_true rfl, Nat.le_of_ble_eq_true rfl⟩ ⟨rfl, rfl⟩ [] [0] rfl rfl rfl rfl (by decide) rfl rfl (Nat.le_of_ble_eq_true rfl) dX7_whole_52 ⟨Nat.le_of_ble_eq_true rfl, Nat.le_of_ble_eq_true rfl⟩ (fun z52 w1 hq => ?_)
      obtain ⟨rfl, rfl⟩ := hq
      refine z_lsub E dX7_whole_55 ?_
      exact fin _ _ _ _ (⟨wh_neg (by omega), rfl⟩) dX7_whole_56
  · refine z_aload_n E 0 rfl rfl dX7_whole_9 ?_
    refine z_get E f_X7_13 0 rfl rfl dX7_whole_10 ?_
    refine z_aload_n E 0 rfl rfl dX7_whole_13 ?_
    refine z_get E f_X7_28 0 rfl rfl dX7_whole_14 ?_
    refine z_ladd E dX7_whole_17 ?_
    refine z_aload_n E 0 rfl rfl dX7_whole_18 ?_
    refine z_get E f_X7_19 0 rfl rfl dX7_whole_19 ?_
    refine z_callSl (As := [.long (zl (t + r)), .long (zl b)]) (rest := []) (wr := [(h0, .inr (7, [.long (zl t), .long (zl b), .long (zl s), .long (zl r)]))]) E (c_J9_floorDiv_f86c9 l D κ (t + r) b (by omega) (by omega)) m_X7_31 ⟨Nat.le_of_ble_eq_true rfl, Nat.le_of_ble_eq_true rfl⟩ ⟨rfl, rfl⟩ [] [0] rfl rfl rfl rfl (by decide) rfl rfl (Nat.le_of_ble_eq_true rfl) dX7_whole_22 ⟨Nat.le_of_ble_eq_true rfl, Nat.le_of_ble_eq_true rfl⟩ (fun z22 w1 hq => ?_)
    obtain ⟨rfl, rfl⟩ := hq
    exact fin _ _ _ _ (⟨wh_pos (by omega), rfl⟩) dX7_whole_25
abbrev rm_X7_advance : Room := { frames := 2, cells := 0, slots := 0, locals := 45 }
set_option maxRecDepth 100000 in
theorem c_X7_advance (l : Launch) (D : va_G) (κ : Nat → ClassId) (h0 : Nat) (t : Int) (b : Int) (s : Int) (r : Int) (ht : -1000000 ≤ t ∧ t ≤ 1000000) (hb : -1000000 ≤ b ∧ b ≤ 1000000) (hr : -1000000 ≤ r ∧ r ≤ 1000000) (h00 : b ≠ 0) (hT : -1000000 ≤ ((wh r t b) * b) - t ∧ ((wh r t b) * b) - t ≤ 1000000) (hs : -1000000000 ≤ s ∧ s ≤ 1000000000) : ZV l yX7_advance cX7_advance 1 rm_X7_advance D κ [.ref h0] [(h0, .inr (7, [.long (zl t), .long (zl b), .long (zl s), .long (zl r)]))] (fun w => [(h0, .inr (7, [.long (zl (((wh r t b) * b) - t)), .long (zl (Int.tdiv (s - ((((wh r t b) * b) - t) * (((wh r t b) * b) - t))) b)), .long (zl s), .long (zl r)]))] = w) := by
  refine ZV.enter (own := RX7) rfl pn_X7_advance (Nat.le_of_ble_eq_true rfl) (fun X E fin => ?_)
  show Zg X [(h0, .inr (7, [.long (zl t), .long (zl b), .long (zl s), .long (zl r)]))] 0 0 0 [(0, .ref h0)] []
  refine z_aload_n E 0 rfl rfl dX7_advance_0 ?_
  refine z_get E f_X7_19 0 rfl rfl dX7_advance_1 ?_
  refine z_lconst0 E dX7_advance_4 ?_
  refine z_lc_ne (tgt := 10) E (by omega) (by omega) dX7_advance_5 dX7_advance_6 (by decide) (fun h_5 => ?_) (fun h_5 => ?_)
  · refine z_aload_n E 0 rfl rfl dX7_advance_10 ?_
    refine z_aload_n E 0 rfl rfl dX7_advance_11 ?_
    refine z_callVl (As := []) (rest := [.ref h0]) (wr := []) E (c_X7_whole l D κ h0 t b s r (by omega) (by omega) (by omega)) m_X7_37 ⟨Nat.le_of_ble_eq_true rfl, Nat.le_of_ble_eq_true rfl⟩ ⟨rfl, rfl⟩ [0] [] rfl rfl rfl rfl (by decide) rfl rfl rfl rfl (Nat.le_of_ble_eq_true rfl) dX7_advance_12 ⟨Nat.le_of_ble_eq_true rfl, Nat.le_of_ble_eq_true rfl⟩ (fun z12 w1 hq => ?_)
    obtain ⟨rfl, rfl⟩ := hq
    refine z_aload_n E 0 rfl rfl dX7_advance_15 ?_
    refine z_get E f_X7_19 0 rfl rfl dX7_advance_16 ?_
    refine z_lmul E dX7_advance_19 ?_
    refine z_aload_n E 0 rfl rfl dX7_advance_20 ?_
    refine z_get E f_X7_13 0 rfl rfl dX7_advance_21 ?_
    refine z_lsub E dX7_advance_24 ?_
    refine z_put (ws' := [(h0, .inr (7, [.long (zl (((wh r t b) * b) - t)), .long (zl b), .long (zl s), .long (zl r)]))]) E f_X7_13 t_X7_0 0 rfl rfl rfl (Nat.le_of_ble_eq_true rfl) rfl dX7_advance_25 ?_
    refine z_aload_n E 0 rfl rfl dX7_advance_28 ?_
    refine z_aload_n E 0 rfl rfl dX7_advance_29 ?_
    refine z_get E f_X7_22 0 rfl rfl dX7_advance_30 ?_
    refine z_aload_n E 0 rfl rfl dX7_advance_33 ?_
    refine z_get E f_X7_13 0 rfl rfl dX7_advance_34 ?_
    refine z_aload_n E 0 rfl rfl dX7_advance_37 ?_
    refine z_get E f_X7_13 0 rfl rfl dX7_advance_38 ?_
    refine z_lmul E dX7_advance_41 ?_
    refine z_lsub E dX7_advance_42 ?_
    refine z_aload_n E 0 rfl rfl dX7_advance_43 ?_
    refine z_get E f_X7_19 0 rfl rfl dX7_advance_44 ?_
    have hT2 := sq_bd (a := ((wh r t b) * b) - t) (M := 1000000) hT
    refine z_ldiv E (by omega) (by omega) (by omega) dX7_advance_47 ?_
    refine z_put (ws' := [(h0, .inr (7, [.long (zl (((wh r t b) * b) - t)), .long (zl (Int.tdiv (s - ((((wh r t b) * b) - t) * (((wh r t b) * b) - t))) b)), .long (zl s), .long (zl r)]))]) E f_X7_19 t_X7_1 0 rfl rfl rfl (Nat.le_of_ble_eq_true rfl) rfl dX7_advance_48 ?_
    exact fin _ _ _ (by first | exact rfl | omega) dX7_advance_51
  · exact fin _ _ _ (by first | exact rfl | omega) dX7_advance_9
abbrev rm_X7_isReduced : Room := { frames := 0, cells := 0, slots := 0, locals := 0 }
set_option maxRecDepth 100000 in
theorem c_X7_isReduced (l : Launch) (D : va_G) (κ : Nat → ClassId) (h0 : Nat) (t : Int) (b : Int) (s : Int) (r : Int) (ht : -1000000 ≤ t ∧ t ≤ 1000000) (hb : -1000000 ≤ b ∧ b ≤ 1000000) (hr : -1000000 ≤ r ∧ r ≤ 1000000) : ZI l yX7_isReduced cX7_isReduced 1 .boolean rm_X7_isReduced D κ [.ref h0] [(h0, .inr (7, [.long (zl t), .long (zl b), .long (zl s), .long (zl r)]))] (fun z w => ((1 = z ∧ (0 < t ∧ t ≤ r ∧ r - t < b ∧ b ≤ r + t)) ∨ (0 = z ∧ ¬ (0 < t ∧ t ≤ r ∧ r - t < b ∧ b ≤ r + t))) ∧ [(h0, .inr (7, [.long (zl t), .long (zl b), .long (zl s), .long (zl r)]))] = w) := by
  refine ZI.enter (own := RX7) rfl pn_X7_isReduced (Nat.le_of_ble_eq_true rfl) (fun X E fin => ?_)
  show Zg X [(h0, .inr (7, [.long (zl t), .long (zl b), .long (zl s), .long (zl r)]))] 0 0 0 [(0, .ref h0)] []
  refine z_aload_n E 0 rfl rfl dX7_isReduced_0 ?_
  refine z_get E f_X7_13 0 rfl rfl dX7_isReduced_1 ?_
  refine z_lconst0 E dX7_isReduced_4 ?_
  refine z_lc_le (tgt := 59) E (by omega) (by omega) dX7_isReduced_5 dX7_isReduced_6 (by decide) (fun h_5 => ?_) (fun h_5 => ?_)
  · refine z_iconst E dX7_isReduced_59 ?_
    exact fin _ _ _ _ rfl (by first | exact ⟨Or.inr ⟨rfl, by omega⟩, rfl⟩ | omega) dX7_isReduced_60
  · refine z_aload_n E 0 rfl rfl dX7_isReduced_9 ?_
    refine z_get E f_X7_13 0 rfl rfl dX7_isReduced_10 ?_
    refine z_aload_n E 0 rfl rfl dX7_isReduced_13 ?_
    refine z_get E f_X7_28 0 rfl rfl dX7_isReduced_14 ?_
    refine z_lc_gt (tgt := 59) E (by omega) (by omega) dX7_isReduced_17 dX7_isReduced_18 (by decide) (fun h_17 => ?_) (fun h_17 => ?_)
    · refine z_iconst E dX7_isReduced_59 ?_
      exact fin _ _ _ _ rfl (by first | exact ⟨Or.inr ⟨rfl, by omega⟩, rfl⟩ | omega) dX7_isReduced_60
    · refine z_aload_n E 0 rfl rfl dX7_isReduced_21 ?_
      refine z_get E f_X7_19 0 rfl rfl dX7_isReduced_22 ?_
      refine z_aload_n E 0 rfl rfl dX7_isReduced_25 ?_
      refine z_get E f_X7_28 0 rfl rfl dX7_isReduced_26 ?_
      refine z_aload_n E 0 rfl rfl dX7_isReduced_29 ?_
      refine z_get E f_X7_13 0 rfl rfl dX7_isReduced_30 ?_
      refine z_lsub E dX7_isReduced_33 ?_
      refine z_lc_le (tgt := 59) E (by omega) (by omega) dX7_isReduced_34 dX7_isReduced_35 (by decide) (fun h_34 => ?_) (fun h_34 => ?_)
      · refine z_iconst E dX7_isReduced_59 ?_
        exact fin _ _ _ _ rfl (by first | exact ⟨Or.inr ⟨rfl, by omega⟩, rfl⟩ | omega) dX7_isReduced_60
      · refine z_aload_n E 0 rfl rfl dX7_isReduced_38 ?_
        refine z_get E f_X7_19 0 rfl rfl dX7_isReduced_39 ?_
        refine z_aload_n E 0 rfl rfl dX7_isReduced_42 ?_
        refine z_get E f_X7_28 0 rfl rfl dX7_isReduced_43 ?_
        refine z_aload_n E 0 rfl rfl dX7_isReduced_46 ?_
        refine z_get E f_X7_13 0 rfl rfl dX7_isReduced_47 ?_
        refine z_ladd E dX7_isReduced_50 ?_
        refine z_lc_gt (tgt := 59) E (by omega) (by omega) dX7_isReduced_51 dX7_isReduced_52 (by decide) (fun h_51 => ?_) (fun h_51 => ?_)
        · refine z_iconst E dX7_isReduced_59 ?_
          exact fin _ _ _ _ rfl (by first | exact ⟨Or.inr ⟨rfl, by omega⟩, rfl⟩ | omega) dX7_isReduced_60
        · refine z_iconst E dX7_isReduced_55 ?_
          refine z_goto (tgt := 60) E dX7_isReduced_56 (by decide) ?_
          exact fin _ _ _ _ rfl (by first | exact ⟨Or.inl ⟨rfl, by omega⟩, rfl⟩ | omega) dX7_isReduced_60
