abbrev rm_X2_init : Room := { frames := 2, cells := 5, slots := 1209, locals := 32 }
set_option maxRecDepth 100000 in
theorem c_X2_init (l : Launch) (D : va_G) (κ : Nat → ClassId) (h0 : Nat)  : ZV l yX2_init cX2_init 1 rm_X2_init D κ [.ref h0] [(h0, .inr (2, [.null, .null, .null, .null, .null, .long (zl 0), .long (zl 0), .int (zi 0), .int (zi 0), .int (zi 0)]))] (fun w => ∃ hT : Nat, ∃ hU : Nat, ∃ hL : Nat, ∃ hS : Nat, ∃ hH : Nat, [(h0, .inr (2, [.ref hT, .ref hU, .ref hL, .ref hS, .ref hH, .long (zl 0), .long (zl 0), .int (zi 0), .int (zi 0), .int (zi 0)])), (hT, ai κ 400 (fun _ => 0)), (hU, al κ 400 (fun _ => 0)), (hL, al κ 400 (fun _ => 0)), (hS, .inr (7, [.long (zl 0), .long (zl 0), .long (zl 0), .long (zl 0)])), (hH, .inr (1, [.long (zl 0), .long (zl 0), .int (zi 0), .long (zl 0), .long (zl 0)]))] = w) := by
  refine ZV.enter0 (own := RX2) rfl pn_X2_init (Nat.le_of_ble_eq_true rfl) (fun X E hini fin => ?_)
  have hini := hini rfl
  show Zg X [(h0, .inr (2, [.null, .null, .null, .null, .null, .long (zl 0), .long (zl 0), .int (zi 0), .int (zi 0), .int (zi 0)]))] 0 0 0 [(0, .ref h0)] []
  refine z_aload_n E 0 rfl rfl dX2_init_0 ?_
  refine z_objInit E m_X2_3 in_obj co_obj (Nat.le_of_ble_eq_true rfl) (Nat.le_of_ble_eq_true rfl) dX2_init_1 ?_
  refine z_aload_n E 0 rfl rfl dX2_init_4 ?_
  refine z_sipush E dX2_init_5 (by decide) ?_
  refine z_newa_ai (N := 400) E (Nat.le_of_ble_eq_true rfl) ac_int (Nat.le_of_ble_eq_true rfl) (Nat.le_of_ble_eq_true rfl) dX2_init_8 (fun q1 => ?_)
  show Zg X [(h0, .inr (2, [.null, .null, .null, .null, .null, .long (zl 0), .long (zl 0), .int (zi 0), .int (zi 0), .int (zi 0)])), (q1, ai κ 400 (fun _ => 0))] 1 400 10 [(0, .ref h0)] [.ref q1, .ref h0]
  refine z_putF (ws' := [(h0, .inr (2, [.ref q1, .null, .null, .null, .null, .long (zl 0), .long (zl 0), .int (zi 0), .int (zi 0), .int (zi 0)])), (q1, ai κ 400 (fun _ => 0))]) E hini f_X2_9 t_X2_0 (fun q h => by cases h; rfl) 0 rfl rfl rfl (Nat.le_of_ble_eq_true rfl) rfl dX2_init_10 ?_
  refine z_aload_n E 0 rfl rfl dX2_init_13 ?_
  refine z_sipush E dX2_init_14 (by decide) ?_
  refine z_newa_al (N := 400) E (Nat.le_of_ble_eq_true rfl) ac_long (Nat.le_of_ble_eq_true rfl) (Nat.le_of_ble_eq_true rfl) dX2_init_17 (fun q2 => ?_)
  show Zg X [(h0, .inr (2, [.ref q1, .null, .null, .null, .null, .long (zl 0), .long (zl 0), .int (zi 0), .int (zi 0), .int (zi 0)])), (q1, ai κ 400 (fun _ => 0)), (q2, al κ 400 (fun _ => 0))] 2 800 19 [(0, .ref h0)] [.ref q2, .ref h0]
  refine z_putF (ws' := [(h0, .inr (2, [.ref q1, .ref q2, .null, .null, .null, .long (zl 0), .long (zl 0), .int (zi 0), .int (zi 0), .int (zi 0)])), (q1, ai κ 400 (fun _ => 0)), (q2, al κ 400 (fun _ => 0))]) E hini f_X2_15 t_X2_1 (fun q h => by cases h; rfl) 0 rfl rfl rfl (Nat.le_of_ble_eq_true rfl) rfl dX2_init_19 ?_
  refine z_aload_n E 0 rfl rfl dX2_init_22 ?_
  refine z_sipush E dX2_init_23 (by decide) ?_
  refine z_newa_al (N := 400) E (Nat.le_of_ble_eq_true rfl) ac_long (Nat.le_of_ble_eq_true rfl) (Nat.le_of_ble_eq_true rfl) dX2_init_26 (fun q3 => ?_)
  show Zg X [(h0, .inr (2, [.ref q1, .ref q2, .null, .null, .null, .long (zl 0), .long (zl 0), .int (zi 0), .int (zi 0), .int (zi 0)])), (q1, ai κ 400 (fun _ => 0)), (q2, al κ 400 (fun _ => 0)), (q3, al κ 400 (fun _ => 0))] 3 1200 28 [(0, .ref h0)] [.ref q3, .ref h0]
  refine z_putF (ws' := [(h0, .inr (2, [.ref q1, .ref q2, .ref q3, .null, .null, .long (zl 0), .long (zl 0), .int (zi 0), .int (zi 0), .int (zi 0)])), (q1, ai κ 400 (fun _ => 0)), (q2, al κ 400 (fun _ => 0)), (q3, al κ 400 (fun _ => 0))]) E hini f_X2_19 t_X2_2 (fun q h => by cases h; rfl) 0 rfl rfl rfl (Nat.le_of_ble_eq_true rfl) rfl dX2_init_28 ?_
  refine z_aload_n E 0 rfl rfl dX2_init_31 ?_
  refine z_new E n_X2_22 (Nat.le_of_ble_eq_true rfl) (Nat.le_of_ble_eq_true rfl) dX2_init_32 (fun q4 => ?_)
  show Zg X [(h0, .inr (2, [.ref q1, .ref q2, .ref q3, .null, .null, .long (zl 0), .long (zl 0), .int (zi 0), .int (zi 0), .int (zi 0)])), (q1, ai κ 400 (fun _ => 0)), (q2, al κ 400 (fun _ => 0)), (q3, al κ 400 (fun _ => 0)), (q4, .inr (7, [.long (zl 0), .long (zl 0), .long (zl 0), .long (zl 0)]))] 4 1204 35 [(0, .ref h0)] [.ref q4, .ref h0]
  refine z_dup E rfl dX2_init_35 ?_
  refine z_callNv (k' := 4) (n' := 1204) (As := []) (rest := [.ref q4, .ref h0]) (wr := [(h0, .inr (2, [.ref q1, .ref q2, .ref q3, .null, .null, .long (zl 0), .long (zl 0), .int (zi 0), .int (zi 0), .int (zi 0)])), (q1, ai κ 400 (fun _ => 0)), (q2, al κ 400 (fun _ => 0)), (q3, al κ 400 (fun _ => 0))]) E (c_X7_init l D κ q4 ) m_X2_24 ⟨Nat.le_of_ble_eq_true rfl, Nat.le_of_ble_eq_true rfl⟩ [4] [0, 1, 2, 3] rfl rfl rfl rfl (by decide) rfl rfl (Nat.le_of_ble_eq_true rfl) dX2_init_36 ⟨Nat.le_of_ble_eq_true rfl, Nat.le_of_ble_eq_true rfl⟩ rfl rfl (fun  w1 hq => ?_)
  obtain rfl := hq
  refine z_putF (ws' := [(h0, .inr (2, [.ref q1, .ref q2, .ref q3, .ref q4, .null, .long (zl 0), .long (zl 0), .int (zi 0), .int (zi 0), .int (zi 0)])), (q1, ai κ 400 (fun _ => 0)), (q2, al κ 400 (fun _ => 0)), (q3, al κ 400 (fun _ => 0)), (q4, .inr (7, [.long (zl 0), .long (zl 0), .long (zl 0), .long (zl 0)]))]) E hini f_X2_25 t_X2_3 (fun q h => by cases h; rfl) 0 rfl rfl rfl (Nat.le_of_ble_eq_true rfl) rfl dX2_init_39 ?_
  refine z_aload_n E 0 rfl rfl dX2_init_42 ?_
  refine z_new E n_X2_29 (Nat.le_of_ble_eq_true rfl) (Nat.le_of_ble_eq_true rfl) dX2_init_43 (fun q5 => ?_)
  show Zg X [(h0, .inr (2, [.ref q1, .ref q2, .ref q3, .ref q4, .null, .long (zl 0), .long (zl 0), .int (zi 0), .int (zi 0), .int (zi 0)])), (q1, ai κ 400 (fun _ => 0)), (q2, al κ 400 (fun _ => 0)), (q3, al κ 400 (fun _ => 0)), (q4, .inr (7, [.long (zl 0), .long (zl 0), .long (zl 0), .long (zl 0)])), (q5, .inr (1, [.long (zl 0), .long (zl 0), .int (zi 0), .long (zl 0), .long (zl 0)]))] 5 1209 46 [(0, .ref h0)] [.ref q5, .ref h0]
  refine z_dup E rfl dX2_init_46 ?_
  refine z_callNv (k' := 5) (n' := 1209) (As := []) (rest := [.ref q5, .ref h0]) (wr := [(h0, .inr (2, [.ref q1, .ref q2, .ref q3, .ref q4, .null, .long (zl 0), .long (zl 0), .int (zi 0), .int (zi 0), .int (zi 0)])), (q1, ai κ 400 (fun _ => 0)), (q2, al κ 400 (fun _ => 0)), (q3, al κ 400 (fun _ => 0)), (q4, .inr (7, [.long (zl 0), .long (zl 0), .long (zl 0), .long (zl 0)]))]) E (c_X1_init l D κ q5 ) m_X2_31 ⟨Nat.le_of_ble_eq_true rfl, Nat.le_of_ble_eq_true rfl⟩ [5] [0, 1, 2, 3, 4] rfl rfl rfl rfl (by decide) rfl rfl (Nat.le_of_ble_eq_true rfl) dX2_init_47 ⟨Nat.le_of_ble_eq_true rfl, Nat.le_of_ble_eq_true rfl⟩ rfl rfl (fun  w1 hq => ?_)
  obtain rfl := hq
  refine z_putF (ws' := [(h0, .inr (2, [.ref q1, .ref q2, .ref q3, .ref q4, .ref q5, .long (zl 0), .long (zl 0), .int (zi 0), .int (zi 0), .int (zi 0)])), (q1, ai κ 400 (fun _ => 0)), (q2, al κ 400 (fun _ => 0)), (q3, al κ 400 (fun _ => 0)), (q4, .inr (7, [.long (zl 0), .long (zl 0), .long (zl 0), .long (zl 0)])), (q5, .inr (1, [.long (zl 0), .long (zl 0), .int (zi 0), .long (zl 0), .long (zl 0)]))]) E hini f_X2_32 t_X2_4 (fun q h => by cases h; rfl) 0 rfl rfl rfl (Nat.le_of_ble_eq_true rfl) rfl dX2_init_50 ?_
  exact fin _ _ _ (by first | exact ⟨_, _, _, _, _, rfl⟩ | omega) dX2_init_53
abbrev rm_X2_termAt : Room := { frames := 0, cells := 0, slots := 0, locals := 0 }
set_option maxRecDepth 100000 in
theorem c_X2_termAt (l : Launch) (D : va_G) (κ : Nat → ClassId) (h0 : Nat) (hT : Nat) (hU : Nat) (hL : Nat) (hS : Nat) (hH : Nat) (lt : Int) (lb : Int) (ld : Int) (pd : Int) (cv : Int) (f : Int → Int) (i : Int) (hi : 0 ≤ i ∧ i < 400) : ZI l yX2_termAt cX2_termAt 2 .int rm_X2_termAt D κ [.ref h0, .int (zi i)] [(h0, .inr (2, [.ref hT, .ref hU, .ref hL, .ref hS, .ref hH, .long (zl lt), .long (zl lb), .int (zi ld), .int (zi pd), .int (zi cv)])), (hT, ai κ 400 f)] (fun z w => (f i) = z ∧ [(h0, .inr (2, [.ref hT, .ref hU, .ref hL, .ref hS, .ref hH, .long (zl lt), .long (zl lb), .int (zi ld), .int (zi pd), .int (zi cv)])), (hT, ai κ 400 f)] = w) := by
  refine ZI.enter (own := RX2) rfl pn_X2_termAt (Nat.le_of_ble_eq_true rfl) (fun X E fin => ?_)
  show Zg X [(h0, .inr (2, [.ref hT, .ref hU, .ref hL, .ref hS, .ref hH, .long (zl lt), .long (zl lb), .int (zi ld), .int (zi pd), .int (zi cv)])), (hT, ai κ 400 f)] 0 0 0 [(0, .ref h0), (1, .int (zi i))] []
  refine z_iload_n E 1 rfl rfl dX2_termAt_0 ?_
  refine z_if_lt (tgt := 22) E (by omega) dX2_termAt_1 (by decide) (fun h_1 => ?_) (fun h_1 => ?_)
  · refine z_iconst E dX2_termAt_22 ?_
    exact fin _ _ _ _ rfl (by first | exact ⟨rfl, rfl⟩ | omega) dX2_termAt_23
  · refine z_iload_n E 1 rfl rfl dX2_termAt_4 ?_
    refine z_aload_n E 0 rfl rfl dX2_termAt_5 ?_
    refine z_get E f_X2_9 0 rfl rfl dX2_termAt_6 ?_
    refine z_alen_ai E 1 rfl dX2_termAt_9 ?_
    refine z_ic_ge (tgt := 22) E (by omega) (by omega) dX2_termAt_10 (by decide) (fun h_10 => ?_) (fun h_10 => ?_)
    · refine z_iconst E dX2_termAt_22 ?_
      exact fin _ _ _ _ rfl (by first | exact ⟨rfl, rfl⟩ | omega) dX2_termAt_23
    · refine z_aload_n E 0 rfl rfl dX2_termAt_13 ?_
      refine z_get E f_X2_9 0 rfl rfl dX2_termAt_14 ?_
      refine z_iload_n E 1 rfl rfl dX2_termAt_17 ?_
      refine z_iald E 1 rfl (Nat.le_of_ble_eq_true rfl) (by omega) (by omega) dX2_termAt_18 ?_
      refine z_goto (tgt := 23) E dX2_termAt_19 (by decide) ?_
      exact fin _ _ _ _ rfl (by first | exact ⟨rfl, rfl⟩ | omega) dX2_termAt_23
abbrev rm_X2_upperAt : Room := { frames := 0, cells := 0, slots := 0, locals := 0 }
set_option maxRecDepth 100000 in
theorem c_X2_upperAt (l : Launch) (D : va_G) (κ : Nat → ClassId) (h0 : Nat) (hT : Nat) (hU : Nat) (hL : Nat) (hS : Nat) (hH : Nat) (lt : Int) (lb : Int) (ld : Int) (pd : Int) (cv : Int) (f : Int → Int) (i : Int) (hi : 0 ≤ i ∧ i < 400) : ZL l yX2_upperAt cX2_upperAt 2 rm_X2_upperAt D κ [.ref h0, .int (zi i)] [(h0, .inr (2, [.ref hT, .ref hU, .ref hL, .ref hS, .ref hH, .long (zl lt), .long (zl lb), .int (zi ld), .int (zi pd), .int (zi cv)])), (hU, al κ 400 f)] (fun z w => (f i) = z ∧ [(h0, .inr (2, [.ref hT, .ref hU, .ref hL, .ref hS, .ref hH, .long (zl lt), .long (zl lb), .int (zi ld), .int (zi pd), .int (zi cv)])), (hU, al κ 400 f)] = w) := by
  refine ZL.enter (own := RX2) rfl pn_X2_upperAt (Nat.le_of_ble_eq_true rfl) (fun X E fin => ?_)
  show Zg X [(h0, .inr (2, [.ref hT, .ref hU, .ref hL, .ref hS, .ref hH, .long (zl lt), .long (zl lb), .int (zi ld), .int (zi pd), .int (zi cv)])), (hU, al κ 400 f)] 0 0 0 [(0, .ref h0), (1, .int (zi i))] []
  refine z_iload_n E 1 rfl rfl dX2_upperAt_0 ?_
  refine z_if_lt (tgt := 22) E (by omega) dX2_upperAt_1 (by decide) (fun h_1 => ?_) (fun h_1 => ?_)
  · refine z_lconst0 E dX2_upperAt_22 ?_
    exact fin _ _ _ _ (by first | exact ⟨rfl, rfl⟩ | omega) dX2_upperAt_23
  · refine z_iload_n E 1 rfl rfl dX2_upperAt_4 ?_
    refine z_aload_n E 0 rfl rfl dX2_upperAt_5 ?_
    refine z_get E f_X2_15 0 rfl rfl dX2_upperAt_6 ?_
    refine z_alen_al E 1 rfl dX2_upperAt_9 ?_
    refine z_ic_ge (tgt := 22) E (by omega) (by omega) dX2_upperAt_10 (by decide) (fun h_10 => ?_) (fun h_10 => ?_)
    · refine z_lconst0 E dX2_upperAt_22 ?_
      exact fin _ _ _ _ (by first | exact ⟨rfl, rfl⟩ | omega) dX2_upperAt_23
    · refine z_aload_n E 0 rfl rfl dX2_upperAt_13 ?_
      refine z_get E f_X2_15 0 rfl rfl dX2_upperAt_14 ?_
      refine z_iload_n E 1 rfl rfl dX2_upperAt_17 ?_
      refine z_lald E 1 rfl (Nat.le_of_ble_eq_true rfl) (by omega) (by omega) dX2_upperAt_18 ?_
      refine z_goto (tgt := 23) E dX2_upperAt_19 (by decide) ?_
      exact fin _ _ _ _ (by first | exact ⟨rfl, rfl⟩ | omega) dX2_upperAt_23
abbrev rm_X2_lowerAt : Room := { frames := 0, cells := 0, slots := 0, locals := 0 }
set_option maxRecDepth 100000 in
theorem c_X2_lowerAt (l : Launch) (D : va_G) (κ : Nat → ClassId) (h0 : Nat) (hT : Nat) (hU : Nat) (hL : Nat) (hS : Nat) (hH : Nat) (lt : Int) (lb : Int) (ld : Int) (pd : Int) (cv : Int) (f : Int → Int) (i : Int) (hi : 0 ≤ i ∧ i < 400) : ZL l yX2_lowerAt cX2_lowerAt 2 rm_X2_lowerAt D κ [.ref h0, .int (zi i)] [(h0, .inr (2, [.ref hT, .ref hU, .ref hL, .ref hS, .ref hH, .long (zl lt), .long (zl lb), .int (zi ld), .int (zi pd), .int (zi cv)])), (hL, al κ 400 f)] (fun z w => (f i) = z ∧ [(h0, .inr (2, [.ref hT, .ref hU, .ref hL, .ref hS, .ref hH, .long (zl lt), .long (zl lb), .int (zi ld), .int (zi pd), .int (zi cv)])), (hL, al κ 400 f)] = w) := by
  refine ZL.enter (own := RX2) rfl pn_X2_lowerAt (Nat.le_of_ble_eq_true rfl) (fun X E fin => ?_)
  show Zg X [(h0, .inr (2, [.ref hT, .ref hU, .ref hL, .ref hS, .ref hH, .long (zl lt), .long (zl lb), .int (zi ld), .int (zi pd), .int (zi cv)])), (hL, al κ 400 f)] 0 0 0 [(0, .ref h0), (1, .int (zi i))] []
  refine z_iload_n E 1 rfl rfl dX2_lowerAt_0 ?_
  refine z_if_lt (tgt := 22) E (by omega) dX2_lowerAt_1 (by decide) (fun h_1 => ?_) (fun h_1 => ?_)
  · refine z_lconst1 E dX2_lowerAt_22 ?_
    exact fin _ _ _ _ (by first | exact ⟨rfl, rfl⟩ | omega) dX2_lowerAt_23
  · refine z_iload_n E 1 rfl rfl dX2_lowerAt_4 ?_
    refine z_aload_n E 0 rfl rfl dX2_lowerAt_5 ?_
    refine z_get E f_X2_19 0 rfl rfl dX2_lowerAt_6 ?_
    refine z_alen_al E 1 rfl dX2_lowerAt_9 ?_
    refine z_ic_ge (tgt := 22) E (by omega) (by omega) dX2_lowerAt_10 (by decide) (fun h_10 => ?_) (fun h_10 => ?_)
    · refine z_lconst1 E dX2_lowerAt_22 ?_
      exact fin _ _ _ _ (by first | exact ⟨rfl, rfl⟩ | omega) dX2_lowerAt_23
    · refine z_aload_n E 0 rfl rfl dX2_lowerAt_13 ?_
      refine z_get E f_X2_19 0 rfl rfl dX2_lowerAt_14 ?_
      refine z_iload_n E 1 rfl rfl dX2_lowerAt_17 ?_
      refine z_lald E 1 rfl (Nat.le_of_ble_eq_true rfl) (by omega) (by omega) dX2_lowerAt_18 ?_
      refine z_goto (tgt := 23) E dX2_lowerAt_19 (by decide) ?_
      exact fin _ _ _ _ (by first | exact ⟨rfl, rfl⟩ | omega) dX2_lowerAt_23
abbrev rm_X2_comesAgain : Room := { frames := 0, cells := 0, slots := 0, locals := 0 }
set_option maxRecDepth 100000 in
theorem c_X2_comesAgain (l : Launch) (D : va_G) (κ : Nat → ClassId) (h0 : Nat) (hT : Nat) (hU : Nat) (hL : Nat) (hS : Nat) (hH : Nat) (lt : Int) (lb : Int) (ld : Int) (pd : Int) (cv : Int) (hp : 0 ≤ pd ∧ pd ≤ 400) : ZI l yX2_comesAgain cX2_comesAgain 1 .boolean rm_X2_comesAgain D κ [.ref h0] [(h0, .inr (2, [.ref hT, .ref hU, .ref hL, .ref hS, .ref hH, .long (zl lt), .long (zl lb), .int (zi ld), .int (zi pd), .int (zi cv)]))] (fun z w => ((1 = z ∧ (0 < pd)) ∨ (0 = z ∧ ¬ (0 < pd))) ∧ [(h0, .inr (2, [.ref hT, .ref hU, .ref hL, .ref hS, .ref hH, .long (zl lt), .long (zl lb), .int (zi ld), .int (zi pd), .int (zi cv)]))] = w) := by
  refine ZI.enter (own := RX2) rfl pn_X2_comesAgain (Nat.le_of_ble_eq_true rfl) (fun X E fin => ?_)
  show Zg X [(h0, .inr (2, [.ref hT, .ref hU, .ref hL, .ref hS, .ref hH, .long (zl lt), .long (zl lb), .int (zi ld), .int (zi pd), .int (zi cv)]))] 0 0 0 [(0, .ref h0)] []
  refine z_aload_n E 0 rfl rfl dX2_comesAgain_0 ?_
  refine z_get E f_X2_40 0 rfl rfl dX2_comesAgain_1 ?_
  refine z_if_le (tgt := 11) E (by omega) dX2_comesAgain_4 (by decide) (fun h_4 => ?_) (fun h_4 => ?_)
  · refine z_iconst E dX2_comesAgain_11 ?_
    exact fin _ _ _ _ rfl (by first | exact ⟨Or.inr ⟨rfl, by omega⟩, rfl⟩ | omega) dX2_comesAgain_12
  · refine z_iconst E dX2_comesAgain_7 ?_
    refine z_goto (tgt := 12) E dX2_comesAgain_8 (by decide) ?_
    exact fin _ _ _ _ rfl (by first | exact ⟨Or.inl ⟨rfl, by omega⟩, rfl⟩ | omega) dX2_comesAgain_12
abbrev rm_X2_lookForPeriod : Room := { frames := 1, cells := 0, slots := 0, locals := 20 }
set_option maxRecDepth 100000 in
theorem c_X2_lookForPeriod (l : Launch) (D : va_G) (κ : Nat → ClassId) (h0 : Nat) (hT : Nat) (hU : Nat) (hL : Nat) (hS : Nat) (hH : Nat) (lt : Int) (lb : Int) (ld : Int) (pd : Int) (cv : Int) (t : Int) (b : Int) (s : Int) (r : Int) (i : Int) (hld : -1 ≤ ld ∧ ld ≤ 400) (hpd : 0 ≤ pd ∧ pd ≤ 400) (ht : -1000000 ≤ t ∧ t ≤ 1000000) (hb : -1000000 ≤ b ∧ b ≤ 1000000) (hr : -1000000 ≤ r ∧ r ≤ 1000000) (hl : 0 ≤ ld → (-1000000 ≤ lt ∧ lt ≤ 1000000) ∧ (-1000000 ≤ lb ∧ lb ≤ 1000000)) : ZV l yX2_lookForPeriod cX2_lookForPeriod 2 rm_X2_lookForPeriod D κ [.ref h0, .int (zi i)] [(h0, .inr (2, [.ref hT, .ref hU, .ref hL, .ref hS, .ref hH, .long (zl lt), .long (zl lb), .int (zi ld), .int (zi pd), .int (zi cv)])), (hS, .inr (7, [.long (zl t), .long (zl b), .long (zl s), .long (zl r)]))] (fun w => ∃ lt' : Int, ∃ lb' : Int, ∃ ld' : Int, ∃ pd' : Int, (lkP t b r i lt lb ld pd lt' lb' ld' pd') ∧ [(h0, .inr (2, [.ref hT, .ref hU, .ref hL, .ref hS, .ref hH, .long (zl lt'), .long (zl lb'), .int (zi ld'), .int (zi pd'), .int (zi cv)])), (hS, .inr (7, [.long (zl t), .long (zl b), .long (zl s), .long (zl r)]))] = w) := by
  refine ZV.enter (own := RX2) rfl pn_X2_lookForPeriod (Nat.le_of_ble_eq_true rfl) (fun X E fin => ?_)
  show Zg X [(h0, .inr (2, [.ref hT, .ref hU, .ref hL, .ref hS, .ref hH, .long (zl lt), .long (zl lb), .int (zi ld), .int (zi pd), .int (zi cv)])), (hS, .inr (7, [.long (zl t), .long (zl b), .long (zl s), .long (zl r)]))] 0 0 0 [(0, .ref h0), (1, .int (zi i))] []
  refine z_aload_n E 0 rfl rfl dX2_lookForPeriod_0 ?_
  refine z_get E f_X2_36 0 rfl rfl dX2_lookForPeriod_1 ?_
  refine z_if_ge (tgt := 47) E (by omega) dX2_lookForPeriod_4 (by decide) (fun h_4 => ?_) (fun h_4 => ?_)
  · have hl2 := hl (by omega)
    refine z_aload_n E 0 rfl rfl dX2_lookForPeriod_47 ?_
    refine z_get E f_X2_40 0 rfl rfl dX2_lookForPeriod_48 ?_
    refine z_if_ne (tgt := 94) E (by omega) dX2_lookForPeriod_51 (by decide) (fun h_51 => ?_) (fun h_51 => ?_)
    · exact fin _ _ _ (⟨_, _, _, _, Or.inr (Or.inr (Or.inr ⟨by omega, by omega, rfl, rfl, rfl, rfl⟩)), rfl⟩) dX2_lookForPeriod_94
    · refine z_aload_n E 0 rfl rfl dX2_lookForPeriod_54 ?_
      refine z_get E f_X2_25 0 rfl rfl dX2_lookForPeriod_55 ?_
      refine z_get E f_X2_76 1 rfl rfl dX2_lookForPeriod_58 ?_
      refine z_aload_n E 0 rfl rfl dX2_lookForPeriod_61 ?_
      refine z_get E f_X2_80 0 rfl rfl dX2_lookForPeriod_62 ?_
      refine z_lc_ne (tgt := 94) E (by omega) (by omega) dX2_lookForPeriod_65 dX2_lookForPeriod_66 (by decide) (fun h_65 => ?_) (fun h_65 => ?_)
      · exact fin _ _ _ (⟨_, _, _, _, Or.inr (Or.inr (Or.inr ⟨by omega, by omega, rfl, rfl, rfl, rfl⟩)), rfl⟩) dX2_lookForPeriod_94
      · refine z_aload_n E 0 rfl rfl dX2_lookForPeriod_69 ?_
        refine z_get E f_X2_25 0 rfl rfl dX2_lookForPeriod_70 ?_
        refine z_get E f_X2_83 1 rfl rfl dX2_lookForPeriod_73 ?_
        refine z_aload_n E 0 rfl rfl dX2_lookForPeriod_76 ?_
        refine z_get E f_X2_86 0 rfl rfl dX2_lookForPeriod_77 ?_
        refine z_lc_ne (tgt := 94) E (by omega) (by omega) dX2_lookForPeriod_80 dX2_lookForPeriod_81 (by decide) (fun h_80 => ?_) (fun h_80 => ?_)
        · exact fin _ _ _ (⟨_, _, _, _, Or.inr (Or.inr (Or.inr ⟨by omega, by omega, rfl, rfl, rfl, rfl⟩)), rfl⟩) dX2_lookForPeriod_94
        · refine z_aload_n E 0 rfl rfl dX2_lookForPeriod_84 ?_
          refine z_iload_n E 1 rfl rfl dX2_lookForPeriod_85 ?_
          refine z_aload_n E 0 rfl rfl dX2_lookForPeriod_86 ?_
          refine z_get E f_X2_36 0 rfl rfl dX2_lookForPeriod_87 ?_
          refine z_isub E dX2_lookForPeriod_90 ?_
          refine z_put (ws' := [(h0, .inr (2, [.ref hT, .ref hU, .ref hL, .ref hS, .ref hH, .long (zl lt), .long (zl lb), .int (zi ld), .int (zi (i - ld)), .int (zi cv)])), (hS, .inr (7, [.long (zl t), .long (zl b), .long (zl s), .long (zl r)]))]) E f_X2_40 t_X2_8 0 rfl rfl rfl (Nat.le_of_ble_eq_true rfl) rfl dX2_lookForPeriod_91 ?_
          exact fin _ _ _ (⟨_, _, _, _, Or.inr (Or.inr (Or.inl ⟨by omega, by omega, by omega, by omega, rfl, rfl, rfl, rfl⟩)), rfl⟩) dX2_lookForPeriod_94
  · refine z_aload_n E 0 rfl rfl dX2_lookForPeriod_7 ?_
    refine z_get E f_X2_25 0 rfl rfl dX2_lookForPeriod_8 ?_
    refine z_callVi (As := []) (rest := []) (wr := [(h0, .inr (2, [.ref hT, .ref hU, .ref hL, .ref hS, .ref hH, .long (zl lt), .long (zl lb), .int (zi ld), .int (zi pd), .int (zi cv)]))]) E (c_X7_isReduced l D κ hS t b s r (by omega) (by omega) (by omega)) m_X2_72 ⟨Nat.le_of_ble_eq_true rfl, Nat.le_of_ble_eq_true rfl⟩ ⟨rfl, rfl⟩ [1] [0] rfl rfl rfl rfl (by decide) rfl rfl rfl rfl (Nat.le_of_ble_eq_true rfl) dX2_lookForPeriod_11 ⟨Nat.le_of_ble_eq_true rfl, Nat.le_of_ble_eq_true rfl⟩ (fun z11 w1 hq => ?_)
    obtain ⟨⟨rfl, hc_11⟩ | ⟨rfl, hc_11⟩, rfl⟩ := hq
    · refine z_if_eq (tgt := 94) E (by omega) dX2_lookForPeriod_14 (by decide) (fun h => absurd h (by decide)) (fun _ => ?_)
      refine z_aload_n E 0 rfl rfl dX2_lookForPeriod_17 ?_
      refine z_iload_n E 1 rfl rfl dX2_lookForPeriod_18 ?_
      refine z_put (ws' := [(h0, .inr (2, [.ref hT, .ref hU, .ref hL, .ref hS, .ref hH, .long (zl lt), .long (zl lb), .int (zi i), .int (zi pd), .int (zi cv)])), (hS, .inr (7, [.long (zl t), .long (zl b), .long (zl s), .long (zl r)]))]) E f_X2_36 t_X2_7 0 rfl rfl rfl (Nat.le_of_ble_eq_true rfl) rfl dX2_lookForPeriod_19 ?_
      refine z_aload_n E 0 rfl rfl dX2_lookForPeriod_22 ?_
      refine z_aload_n E 0 rfl rfl dX2_lookForPeriod_23 ?_
      refine z_get E f_X2_25 0 rfl rfl dX2_lookForPeriod_24 ?_
      refine z_get E f_X2_76 1 rfl rfl dX2_lookForPeriod_27 ?_
      refine z_put (ws' := [(h0, .inr (2, [.ref hT, .ref hU, .ref hL, .ref hS, .ref hH, .long (zl t), .long (zl lb), .int (zi i), .int (zi pd), .int (zi cv)])), (hS, .inr (7, [.long (zl t), .long (zl b), .long (zl s), .long (zl r)]))]) E f_X2_80 t_X2_5 0 rfl rfl rfl (Nat.le_of_ble_eq_true rfl) rfl dX2_lookForPeriod_30 ?_
      refine z_aload_n E 0 rfl rfl dX2_lookForPeriod_33 ?_
      refine z_aload_n E 0 rfl rfl dX2_lookForPeriod_34 ?_
      refine z_get E f_X2_25 0 rfl rfl dX2_lookForPeriod_35 ?_
      refine z_get E f_X2_83 1 rfl rfl dX2_lookForPeriod_38 ?_
      refine z_put (ws' := [(h0, .inr (2, [.ref hT, .ref hU, .ref hL, .ref hS, .ref hH, .long (zl t), .long (zl b), .int (zi i), .int (zi pd), .int (zi cv)])), (hS, .inr (7, [.long (zl t), .long (zl b), .long (zl s), .long (zl r)]))]) E f_X2_86 t_X2_6 0 rfl rfl rfl (Nat.le_of_ble_eq_true rfl) rfl dX2_lookForPeriod_41 ?_
      refine z_goto (tgt := 94) E dX2_lookForPeriod_44 (by decide) ?_
      exact fin _ _ _ (⟨_, _, _, _, Or.inl ⟨by omega, hc_11, rfl, rfl, rfl, rfl⟩, rfl⟩) dX2_lookForPeriod_94
    · refine z_if_eq (tgt := 94) E (by omega) dX2_lookForPeriod_14 (by decide) (fun _ => ?_) (fun h => absurd h (by decide))
      exact fin _ _ _ (⟨_, _, _, _, Or.inr (Or.inl ⟨by omega, hc_11, rfl, rfl, rfl, rfl⟩), rfl⟩) dX2_lookForPeriod_94
abbrev rm_X2_chainConvergents : Room := { frames := 3, cells := 0, slots := 0, locals := 70 }
set_option maxRecDepth 100000 in
theorem c_X2_chainConvergents (l : Launch) (D : va_G) (κ : Nat → ClassId) (h0 : Nat) (hT : Nat) (hU : Nat) (hL : Nat) (hS : Nat) (hH : Nat) (lt : Int) (lb : Int) (ld : Int) (pd : Int) (cv : Int) (f : Int → Int) (U : Int → Int) (L : Int → Int) (u : Int) (v : Int) (o : Int) (ua : Int) (va : Int) (hf : ∀ i : Int, 0 ≤ i → i < 400 → -100000 ≤ f i ∧ f i ≤ 100000) : ZV l yX2_chainConvergents cX2_chainConvergents 2 rm_X2_chainConvergents D κ [.ref h0] [(h0, .inr (2, [.ref hT, .ref hU, .ref hL, .ref hS, .ref hH, .long (zl lt), .long (zl lb), .int (zi ld), .int (zi pd), .int (zi cv)])), (hT, ai κ 400 f), (hU, al κ 400 U), (hL, al κ 400 L), (hH, .inr (1, [.long (zl u), .long (zl v), .int (zi o), .long (zl ua), .long (zl va)]))] (fun w => ∃ U' : Int → Int, ∃ L' : Int → Int, ∃ cv' : Int, ∃ u' : Int, ∃ v' : Int, ∃ o' : Int, ∃ ua' : Int, ∃ va' : Int, (0 ≤ cv' ∧ cv' ≤ 400 ∧ cvP f cv' U' L' ∧ (cv' < 400 → (chRun f (cv' + 1).toNat).2.2.1 = 1)) ∧ [(h0, .inr (2, [.ref hT, .ref hU, .ref hL, .ref hS, .ref hH, .long (zl lt), .long (zl lb), .int (zi ld), .int (zi pd), .int (zi cv')])), (hT, ai κ 400 f), (hU, al κ 400 U'), (hL, al κ 400 L'), (hH, .inr (1, [.long (zl u'), .long (zl v'), .int (zi o'), .long (zl ua'), .long (zl va')]))] = w) := by
  refine ZV.enter (own := RX2) rfl pn_X2_chainConvergents (Nat.le_of_ble_eq_true rfl) (fun X E fin => ?_)
  show Zg X [(h0, .inr (2, [.ref hT, .ref hU, .ref hL, .ref hS, .ref hH, .long (zl lt), .long (zl lb), .int (zi ld), .int (zi pd), .int (zi cv)])), (hT, ai κ 400 f), (hU, al κ 400 U), (hL, al κ 400 L), (hH, .inr (1, [.long (zl u), .long (zl v), .int (zi o), .long (zl ua), .long (zl va)]))] 0 0 0 [(0, .ref h0)] []
  refine z_aload_n E 0 rfl rfl dX2_chainConvergents_0 ?_
  refine z_iconst E dX2_chainConvergents_1 ?_
  refine z_put (ws' := [(h0, .inr (2, [.ref hT, .ref hU, .ref hL, .ref hS, .ref hH, .long (zl lt), .long (zl lb), .int (zi ld), .int (zi pd), .int (zi 0)])), (hT, ai κ 400 f), (hU, al κ 400 U), (hL, al κ 400 L), (hH, .inr (1, [.long (zl u), .long (zl v), .int (zi o), .long (zl ua), .long (zl va)]))]) E f_X2_89 t_X2_9 0 rfl rfl rfl (Nat.le_of_ble_eq_true rfl) rfl dX2_chainConvergents_2 ?_
  refine z_aload_n E 0 rfl rfl dX2_chainConvergents_5 ?_
  refine z_get E f_X2_32 0 rfl rfl dX2_chainConvergents_6 ?_
  refine z_callVv (As := []) (rest := []) (wr := [(h0, .inr (2, [.ref hT, .ref hU, .ref hL, .ref hS, .ref hH, .long (zl lt), .long (zl lb), .int (zi ld), .int (zi pd), .int (zi 0)])), (hT, ai κ 400 f), (hU, al κ 400 U), (hL, al κ 400 L)]) E (c_X1_begin l D κ hH u v o ua va ) m_X2_92 ⟨Nat.le_of_ble_eq_true rfl, Nat.le_of_ble_eq_true rfl⟩ ⟨rfl, rfl⟩ [4] [0, 1, 2, 3] rfl rfl rfl rfl (by decide) rfl rfl rfl rfl (Nat.le_of_ble_eq_true rfl) dX2_chainConvergents_9 ⟨Nat.le_of_ble_eq_true rfl, Nat.le_of_ble_eq_true rfl⟩ (fun  w1 hq => ?_)
  obtain rfl := hq
  refine z_iconst E dX2_chainConvergents_12 ?_
  refine z_istore_n (lv' := [(1, .int (zi 0)), (0, .ref h0)]) E dX2_chainConvergents_13 rfl (Nat.le_of_ble_eq_true rfl) rfl ?_
  have lp_14 : ∀ (n_14 : Nat) (i : Int) (V : Int → Int) (M : Int → Int) (a : Int) (b : Int) (e : Int) (g : Int) (k : Int), (0 ≤ i ∧ i ≤ 400) → (chRun f i.toNat = (a, b, e, g, k)) → (cvP f i V M) → (400 - i) < (n_14 : Int) → Zg X [(h0, .inr (2, [.ref hT, .ref hU, .ref hL, .ref hS, .ref hH, .long (zl lt), .long (zl lb), .int (zi ld), .int (zi pd), .int (zi i)])), (hH, .inr (1, [.long (zl a), .long (zl b), .int (zi e), .long (zl g), .long (zl k)])), (hL, al κ 400 M), (hT, ai κ 400 f), (hU, al κ 400 V)] 0 0 14 [(0, .ref h0), (1, .int (zi i))] [] := by
    intro n_14
    induction n_14 with
    | zero =>
      intro i V M a b e g k i1 i2 i3 hmu
      exact absurd hmu (by omega)
    | succ n_14 ih_14 =>
      intro i V M a b e g k i1 i2 i3 hmu_14
      refine z_iload_n E 1 rfl rfl dX2_chainConvergents_14 ?_
      refine z_sipush E dX2_chainConvergents_15 (by decide) ?_
      refine z_ic_ge (tgt := 105) E (by omega) (by omega) dX2_chainConvergents_18 (by decide) (fun h_18 => ?_) (fun h_18 => ?_)
      · refine Zg.perm (ws' := [(h0, .inr (2, [.ref hT, .ref hU, .ref hL, .ref hS, .ref hH, .long (zl lt), .long (zl lb), .int (zi ld), .int (zi pd), .int (zi i)])), (hT, ai κ 400 f), (hU, al κ 400 V), (hL, al κ 400 M), (hH, .inr (1, [.long (zl a), .long (zl b), .int (zi e), .long (zl g), .long (zl k)]))]) [0, 3, 4, 2, 1] rfl rfl ?_
        exact fin _ _ _ (⟨_, _, _, _, _, _, _, _, ⟨i1.1, i1.2, i3, fun z => absurd z (by omega)⟩, rfl⟩) dX2_chainConvergents_105
      · refine z_iload_n E 1 rfl rfl dX2_chainConvergents_21 ?_
        refine z_aload_n E 0 rfl rfl dX2_chainConvergents_22 ?_
        refine z_get E f_X2_15 0 rfl rfl dX2_chainConvergents_23 ?_
        refine z_alen_al E 4 rfl dX2_chainConvergents_26 ?_
        refine z_ic_ge (tgt := 105) E (by omega) (by omega) dX2_chainConvergents_27 (by decide) (fun h_27 => absurd h_27 (by omega)) (fun h_27 => ?_)
        refine z_iload_n E 1 rfl rfl dX2_chainConvergents_30 ?_
        refine z_aload_n E 0 rfl rfl dX2_chainConvergents_31 ?_
        refine z_get E f_X2_19 0 rfl rfl dX2_chainConvergents_32 ?_
        refine z_alen_al E 2 rfl dX2_chainConvergents_35 ?_
        refine z_ic_ge (tgt := 105) E (by omega) (by omega) dX2_chainConvergents_36 (by decide) (fun h_36 => absurd h_36 (by omega)) (fun h_36 => ?_)
        have hb := chRun_bd i2
        have hfi := hf i (by omega) (by omega)
        refine z_aload_n E 0 rfl rfl dX2_chainConvergents_39 ?_
        refine z_get E f_X2_32 0 rfl rfl dX2_chainConvergents_40 ?_
        refine z_aload_n E 0 rfl rfl dX2_chainConvergents_43 ?_
        refine z_iload_n E 1 rfl rfl dX2_chainConvergents_44 ?_
        refine z_callVi (As := [.int (zi i)]) (rest := [.ref hH]) (wr := [(hH, .inr (1, [.long (zl a), .long (zl b), .int (zi e), .long (zl g), .long (zl k)])), (hL, al κ 400 M), (hU, al κ 400 V)]) E (c_X2_termAt l D κ h0 hT hU hL hS hH lt lb ld pd i f i (by omega)) m_X2_94 ⟨Nat.le_of_ble_eq_true rfl, Nat.le_of_ble_eq_true rfl⟩ ⟨rfl, rfl⟩ [0, 3] [1, 2, 4] rfl rfl rfl rfl (by decide) rfl rfl rfl rfl (Nat.le_of_ble_eq_true rfl) dX2_chainConvergents_45 ⟨Nat.le_of_ble_eq_true rfl, Nat.le_of_ble_eq_true rfl⟩ (fun z45 w1 hq => ?_)
        obtain ⟨rfl, rfl⟩ := hq
        refine z_i2l E (by omega) dX2_chainConvergents_48 ?_
        refine z_callVv (As := [.long (zl (f i))]) (rest := []) (wr := [(hL, al κ 400 M), (hU, al κ 400 V), (h0, .inr (2, [.ref hT, .ref hU, .ref hL, .ref hS, .ref hH, .long (zl lt), .long (zl lb), .int (zi ld), .int (zi pd), .int (zi i)])), (hT, ai κ 400 f)]) E (c_X1_add l D κ hH a b e g k (f i) (by omega) (by omega) (by omega) (by omega) (by omega) (by omega)) m_X2_98 ⟨Nat.le_of_ble_eq_true rfl, Nat.le_of_ble_eq_true rfl⟩ ⟨rfl, rfl⟩ [0] [1, 2, 3, 4] rfl rfl rfl rfl (by decide) rfl rfl rfl rfl (Nat.le_of_ble_eq_true rfl) dX2_chainConvergents_49 ⟨Nat.le_of_ble_eq_true rfl, Nat.le_of_ble_eq_true rfl⟩ (fun  w1 hq => ?_)
        obtain ⟨u'_1, v'_2, o'_3, ua'_4, va'_5, hc_49, rfl⟩ := hq
        have hcn := chRun_s i1.1 i2 rfl hc_49
        have hb2 := chRun_bd hcn
        refine z_aload_n E 0 rfl rfl dX2_chainConvergents_52 ?_
        refine z_get E f_X2_32 2 rfl rfl dX2_chainConvergents_53 ?_
        refine z_get E f_X2_102 4 rfl rfl dX2_chainConvergents_56 ?_
        refine z_if_eq (tgt := 63) E (by omega) dX2_chainConvergents_59 (by decide) (fun h_59 => ?_) (fun h_59 => ?_)
        · have ho : o'_3 = 0 := by omega
          refine z_aload_n E 0 rfl rfl dX2_chainConvergents_63 ?_
          refine z_get E f_X2_15 2 rfl rfl dX2_chainConvergents_64 ?_
          refine z_iload_n E 1 rfl rfl dX2_chainConvergents_67 ?_
          refine z_aload_n E 0 rfl rfl dX2_chainConvergents_68 ?_
          refine z_get E f_X2_32 2 rfl rfl dX2_chainConvergents_69 ?_
          refine z_get E f_X2_106 4 rfl rfl dX2_chainConvergents_72 ?_
          refine z_last (ws' := [(hL, al κ 400 M), (hU, al κ 400 (zu V i u'_1)), (h0, .inr (2, [.ref hT, .ref hU, .ref hL, .ref hS, .ref hH, .long (zl lt), .long (zl lb), .int (zi ld), .int (zi pd), .int (zi i)])), (hT, ai κ 400 f), (hH, .inr (1, [.long (zl u'_1), .long (zl v'_2), .int (zi o'_3), .long (zl ua'_4), .long (zl va'_5)]))]) E 1 rfl (Nat.le_of_ble_eq_true rfl) (by omega) (by omega) rfl dX2_chainConvergents_75 ?_
          refine z_aload_n E 0 rfl rfl dX2_chainConvergents_76 ?_
          refine z_get E f_X2_19 2 rfl rfl dX2_chainConvergents_77 ?_
          refine z_iload_n E 1 rfl rfl dX2_chainConvergents_80 ?_
          refine z_aload_n E 0 rfl rfl dX2_chainConvergents_81 ?_
          refine z_get E f_X2_32 2 rfl rfl dX2_chainConvergents_82 ?_
          refine z_get E f_X2_109 4 rfl rfl dX2_chainConvergents_85 ?_
          refine z_last (ws' := [(hL, al κ 400 (zu M i v'_2)), (hU, al κ 400 (zu V i u'_1)), (h0, .inr (2, [.ref hT, .ref hU, .ref hL, .ref hS, .ref hH, .long (zl lt), .long (zl lb), .int (zi ld), .int (zi pd), .int (zi i)])), (hT, ai κ 400 f), (hH, .inr (1, [.long (zl u'_1), .long (zl v'_2), .int (zi o'_3), .long (zl ua'_4), .long (zl va'_5)]))]) E 0 rfl (Nat.le_of_ble_eq_true rfl) (by omega) (by omega) rfl dX2_chainConvergents_88 ?_
          refine z_aload_n E 0 rfl rfl dX2_chainConvergents_89 ?_
          refine z_dup E rfl dX2_chainConvergents_90 ?_
          refine z_get E f_X2_89 2 rfl rfl dX2_chainConvergents_91 ?_
          refine z_iconst E dX2_chainConvergents_94 ?_
          refine z_iadd E dX2_chainConvergents_95 ?_
          refine z_put (ws' := [(hL, al κ 400 (zu M i v'_2)), (hU, al κ 400 (zu V i u'_1)), (h0, .inr (2, [.ref hT, .ref hU, .ref hL, .ref hS, .ref hH, .long (zl lt), .long (zl lb), .int (zi ld), .int (zi pd), .int (zi (i + 1))])), (hT, ai κ 400 f), (hH, .inr (1, [.long (zl u'_1), .long (zl v'_2), .int (zi o'_3), .long (zl ua'_4), .long (zl va'_5)]))]) E f_X2_89 t_X2_9 2 rfl rfl rfl (Nat.le_of_ble_eq_true rfl) rfl dX2_chainConvergents_96 ?_
          refine z_iinc (lv' := [(1, .int (zi (i + 1))), (0, .ref h0)]) E 1 rfl dX2_chainConvergents_99 (Nat.le_of_ble_eq_true rfl) rfl ?_
          refine z_goto (tgt := 14) E dX2_chainConvergents_102 (by decide) ?_
          refine Zg.sub (lv' := [(0, .ref h0), (1, .int (zi (i + 1)))]) [1, 0] rfl ?_
          refine Zg.perm (ws' := [(h0, .inr (2, [.ref hT, .ref hU, .ref hL, .ref hS, .ref hH, .long (zl lt), .long (zl lb), .int (zi ld), .int (zi pd), .int (zi (i + 1))])), (hH, .inr (1, [.long (zl u'_1), .long (zl v'_2), .int (zi o'_3), .long (zl ua'_4), .long (zl va'_5)])), (hL, al κ 400 (zu M i v'_2)), (hT, ai κ 400 f), (hU, al κ 400 (zu V i u'_1))]) [2, 4, 0, 3, 1] rfl rfl ?_
          exact ih_14 (i + 1) (zu V i u'_1) (zu M i v'_2) u'_1 v'_2 o'_3 ua'_4 va'_5 (by omega) (hcn) (cvP_s i1.1 i3 (by rw [hcn, ho])) (by omega)
        · refine Zg.perm (ws' := [(h0, .inr (2, [.ref hT, .ref hU, .ref hL, .ref hS, .ref hH, .long (zl lt), .long (zl lb), .int (zi ld), .int (zi pd), .int (zi i)])), (hT, ai κ 400 f), (hU, al κ 400 V), (hL, al κ 400 M), (hH, .inr (1, [.long (zl u'_1), .long (zl v'_2), .int (zi o'_3), .long (zl ua'_4), .long (zl va'_5)]))]) [2, 3, 1, 0, 4] rfl rfl ?_
          exact fin _ _ _ (⟨_, _, _, _, _, _, _, _, ⟨i1.1, i1.2, i3, fun _ => by rw [hcn]; dsimp only; omega⟩, rfl⟩) dX2_chainConvergents_62
  refine Zg.sub (lv' := [(0, .ref h0), (1, .int (zi 0))]) [1, 0] rfl ?_
  refine Zg.perm (ws' := [(h0, .inr (2, [.ref hT, .ref hU, .ref hL, .ref hS, .ref hH, .long (zl lt), .long (zl lb), .int (zi ld), .int (zi pd), .int (zi 0)])), (hH, .inr (1, [.long (zl 1), .long (zl 0), .int (zi 0), .long (zl 0), .long (zl 1)])), (hL, al κ 400 L), (hT, ai κ 400 f), (hU, al κ 400 U)]) [0, 4, 3, 1, 2] rfl rfl ?_
  exact lp_14 ((400 - 0 : Int).toNat + 1) 0 U L 1 0 0 0 1 (by omega) (rfl) (fun k h1 h2 => absurd h2 (by omega)) (by omega)
abbrev rm_X2_greatestOfPeriod : Room := { frames := 1, cells := 0, slots := 0, locals := 21 }
set_option maxRecDepth 100000 in
theorem c_X2_greatestOfPeriod (l : Launch) (D : va_G) (κ : Nat → ClassId) (h0 : Nat) (hT : Nat) (hU : Nat) (hL : Nat) (hS : Nat) (hH : Nat) (lt : Int) (lb : Int) (ld : Int) (pd : Int) (cv : Int) (f : Int → Int) (hp : 0 ≤ ld ∧ 0 ≤ pd ∧ ld + pd ≤ 400) (hf : ∀ i : Int, 0 ≤ i → i < 400 → -100000 ≤ f i ∧ f i ≤ 100000) : ZI l yX2_greatestOfPeriod cX2_greatestOfPeriod 3 .int rm_X2_greatestOfPeriod D κ [.ref h0] [(h0, .inr (2, [.ref hT, .ref hU, .ref hL, .ref hS, .ref hH, .long (zl lt), .long (zl lb), .int (zi ld), .int (zi pd), .int (zi cv)])), (hT, ai κ 400 f)] (fun z w => (grP f ld pd.toNat) = z ∧ [(h0, .inr (2, [.ref hT, .ref hU, .ref hL, .ref hS, .ref hH, .long (zl lt), .long (zl lb), .int (zi ld), .int (zi pd), .int (zi cv)])), (hT, ai κ 400 f)] = w) := by
  refine ZI.enter (own := RX2) rfl pn_X2_greatestOfPeriod (Nat.le_of_ble_eq_true rfl) (fun X E fin => ?_)
  show Zg X [(h0, .inr (2, [.ref hT, .ref hU, .ref hL, .ref hS, .ref hH, .long (zl lt), .long (zl lb), .int (zi ld), .int (zi pd), .int (zi cv)])), (hT, ai κ 400 f)] 0 0 0 [(0, .ref h0)] []
  refine z_iconst E dX2_greatestOfPeriod_0 ?_
  refine z_istore_n (lv' := [(1, .int (zi 0)), (0, .ref h0)]) E dX2_greatestOfPeriod_1 rfl (Nat.le_of_ble_eq_true rfl) rfl ?_
  refine z_iconst E dX2_greatestOfPeriod_2 ?_
  refine z_istore_n (lv' := [(2, .int (zi 0)), (1, .int (zi 0)), (0, .ref h0)]) E dX2_greatestOfPeriod_3 rfl (Nat.le_of_ble_eq_true rfl) rfl ?_
  have lp_4 : ∀ (n_4 : Nat) (g : Int) (i : Int), (0 ≤ i ∧ i ≤ pd) → (g = grP f ld i.toNat) → (0 ≤ g ∧ g ≤ 100000) → (pd - i) < (n_4 : Int) → Zg X [(h0, .inr (2, [.ref hT, .ref hU, .ref hL, .ref hS, .ref hH, .long (zl lt), .long (zl lb), .int (zi ld), .int (zi pd), .int (zi cv)])), (hT, ai κ 400 f)] 0 0 4 [(0, .ref h0), (1, .int (zi g)), (2, .int (zi i))] [] := by
    intro n_4
    induction n_4 with
    | zero =>
      intro g i i1 i2 i3 hmu
      exact absurd hmu (by omega)
    | succ n_4 ih_4 =>
      intro g i i1 i2 i3 hmu_4
      refine z_iload_n E 2 rfl rfl dX2_greatestOfPeriod_4 ?_
      refine z_aload_n E 0 rfl rfl dX2_greatestOfPeriod_5 ?_
      refine z_get E f_X2_40 0 rfl rfl dX2_greatestOfPeriod_6 ?_
      refine z_ic_ge (tgt := 33) E (by omega) (by omega) dX2_greatestOfPeriod_9 (by decide) (fun h_9 => ?_) (fun h_9 => ?_)
      · refine z_iload_n E 1 rfl rfl dX2_greatestOfPeriod_33 ?_
        exact fin _ _ _ _ rfl (⟨by rw [i2, show i = pd by omega], rfl⟩) dX2_greatestOfPeriod_34
      · refine z_iload_n E 1 rfl rfl dX2_greatestOfPeriod_12 ?_
        refine z_aload_n E 0 rfl rfl dX2_greatestOfPeriod_13 ?_
        refine z_aload_n E 0 rfl rfl dX2_greatestOfPeriod_14 ?_
        refine z_get E f_X2_36 0 rfl rfl dX2_greatestOfPeriod_15 ?_
        refine z_iload_n E 2 rfl rfl dX2_greatestOfPeriod_18 ?_
        refine z_iadd E dX2_greatestOfPeriod_19 ?_
        refine z_callVi (As := [.int (zi (ld + i))]) (rest := [.int (zi g)]) (wr := []) E (c_X2_termAt l D κ h0 hT hU hL hS hH lt lb ld pd cv f (ld + i) (by omega)) m_X2_94 ⟨Nat.le_of_ble_eq_true rfl, Nat.le_of_ble_eq_true rfl⟩ ⟨rfl, rfl⟩ [0, 1] [] rfl rfl rfl rfl (by decide) rfl rfl rfl rfl (Nat.le_of_ble_eq_true rfl) dX2_greatestOfPeriod_20 ⟨Nat.le_of_ble_eq_true rfl, Nat.le_of_ble_eq_true rfl⟩ (fun z20 w1 hq => ?_)
        obtain ⟨rfl, rfl⟩ := hq
        have hfi := hf (ld + i) (by omega) (by omega)
        refine z_imax E (by omega) (by omega) m_X2_112 st_max i_Math co_max (Nat.le_of_ble_eq_true rfl) (Nat.le_of_ble_eq_true rfl) (Nat.le_of_ble_eq_true rfl) (Nat.le_of_ble_eq_true rfl) dX2_greatestOfPeriod_23 ?_
        refine z_istore_n (lv' := [(1, .int (zi (if g < (f (ld + i)) then (f (ld + i)) else g))), (0, .ref h0), (2, .int (zi i))]) E dX2_greatestOfPeriod_26 rfl (Nat.le_of_ble_eq_true rfl) rfl ?_
        refine z_iinc (lv' := [(2, .int (zi (i + 1))), (1, .int (zi (if g < (f (ld + i)) then (f (ld + i)) else g))), (0, .ref h0)]) E 2 rfl dX2_greatestOfPeriod_27 (Nat.le_of_ble_eq_true rfl) rfl ?_
        refine z_goto (tgt := 4) E dX2_greatestOfPeriod_30 (by decide) ?_
        refine Zg.sub (lv' := [(0, .ref h0), (1, .int (zi (if g < (f (ld + i)) then (f (ld + i)) else g))), (2, .int (zi (i + 1)))]) [2, 1, 0] rfl ?_
        exact ih_4 (if g < (f (ld + i)) then (f (ld + i)) else g) (i + 1) (by omega) (grP_s i1.1 i2) (by split <;> omega) (by omega)
  refine Zg.sub (lv' := [(0, .ref h0), (1, .int (zi 0)), (2, .int (zi 0))]) [2, 1, 0] rfl ?_
  exact lp_4 ((pd - 0 : Int).toNat + 1) 0 0 (by omega) (rfl) (by omega) (by omega)
abbrev rm_X2_isNewInPeriod : Room := { frames := 1, cells := 0, slots := 0, locals := 21 }
set_option maxRecDepth 100000 in
theorem c_X2_isNewInPeriod (l : Launch) (D : va_G) (κ : Nat → ClassId) (h0 : Nat) (hT : Nat) (hU : Nat) (hL : Nat) (hS : Nat) (hH : Nat) (lt : Int) (lb : Int) (ld : Int) (pd : Int) (cv : Int) (f : Int → Int) (o : Int) (hp : 0 ≤ ld ∧ 0 ≤ pd ∧ ld + pd ≤ 400) (hf : ∀ i : Int, 0 ≤ i → i < 400 → -100000 ≤ f i ∧ f i ≤ 100000) (ho : 0 ≤ o ∧ o < pd) : ZI l yX2_isNewInPeriod cX2_isNewInPeriod 3 .boolean rm_X2_isNewInPeriod D κ [.ref h0, .int (zi o)] [(h0, .inr (2, [.ref hT, .ref hU, .ref hL, .ref hS, .ref hH, .long (zl lt), .long (zl lb), .int (zi ld), .int (zi pd), .int (zi cv)])), (hT, ai κ 400 f)] (fun z w => ((1 = z ∧ (newB f ld o.toNat = true)) ∨ (0 = z ∧ ¬ (newB f ld o.toNat = true))) ∧ [(h0, .inr (2, [.ref hT, .ref hU, .ref hL, .ref hS, .ref hH, .long (zl lt), .long (zl lb), .int (zi ld), .int (zi pd), .int (zi cv)])), (hT, ai κ 400 f)] = w) := by
  refine ZI.enter (own := RX2) rfl pn_X2_isNewInPeriod (Nat.le_of_ble_eq_true rfl) (fun X E fin => ?_)
  show Zg X [(h0, .inr (2, [.ref hT, .ref hU, .ref hL, .ref hS, .ref hH, .long (zl lt), .long (zl lb), .int (zi ld), .int (zi pd), .int (zi cv)])), (hT, ai κ 400 f)] 0 0 0 [(0, .ref h0), (1, .int (zi o))] []
  refine z_iconst E dX2_isNewInPeriod_0 ?_
  refine z_istore_n (lv' := [(2, .int (zi 0)), (0, .ref h0), (1, .int (zi o))]) E dX2_isNewInPeriod_1 rfl (Nat.le_of_ble_eq_true rfl) rfl ?_
  have lp_2 : ∀ (n_2 : Nat) (i : Int), (0 ≤ i ∧ i ≤ o) → (∀ k : Int, 0 ≤ k → k < i → f (ld + k) ≠ f (ld + o)) → (o - i) < (n_2 : Int) → Zg X [(h0, .inr (2, [.ref hT, .ref hU, .ref hL, .ref hS, .ref hH, .long (zl lt), .long (zl lb), .int (zi ld), .int (zi pd), .int (zi cv)])), (hT, ai κ 400 f)] 0 0 2 [(0, .ref h0), (1, .int (zi o)), (2, .int (zi i))] [] := by
    intro n_2
    induction n_2 with
    | zero =>
      intro i i1 i2 hmu
      exact absurd hmu (by omega)
    | succ n_2 ih_2 =>
      intro i i1 i2 hmu_2
      refine z_iload_n E 2 rfl rfl dX2_isNewInPeriod_2 ?_
      refine z_iload_n E 1 rfl rfl dX2_isNewInPeriod_3 ?_
      refine z_ic_ge (tgt := 38) E (by omega) (by omega) dX2_isNewInPeriod_4 (by decide) (fun h_4 => ?_) (fun h_4 => ?_)
      · refine z_iconst E dX2_isNewInPeriod_38 ?_
        exact fin _ _ _ _ rfl (⟨Or.inl ⟨rfl, (newB_iff ho.1).mpr (fun k k1 k2 => i2 k k1 (by omega))⟩, rfl⟩) dX2_isNewInPeriod_39
      · refine z_aload_n E 0 rfl rfl dX2_isNewInPeriod_7 ?_
        refine z_aload_n E 0 rfl rfl dX2_isNewInPeriod_8 ?_
        refine z_get E f_X2_36 0 rfl rfl dX2_isNewInPeriod_9 ?_
        refine z_iload_n E 2 rfl rfl dX2_isNewInPeriod_12 ?_
        refine z_iadd E dX2_isNewInPeriod_13 ?_
        refine z_callVi (As := [.int (zi (ld + i))]) (rest := []) (wr := []) E (c_X2_termAt l D κ h0 hT hU hL hS hH lt lb ld pd cv f (ld + i) (by omega)) m_X2_94 ⟨Nat.le_of_ble_eq_true rfl, Nat.le_of_ble_eq_true rfl⟩ ⟨rfl, rfl⟩ [0, 1] [] rfl rfl rfl rfl (by decide) rfl rfl rfl rfl (Nat.le_of_ble_eq_true rfl) dX2_isNewInPeriod_14 ⟨Nat.le_of_ble_eq_true rfl, Nat.le_of_ble_eq_true rfl⟩ (fun z14 w1 hq => ?_)
        obtain ⟨rfl, rfl⟩ := hq
        refine z_aload_n E 0 rfl rfl dX2_isNewInPeriod_17 ?_
        refine z_aload_n E 0 rfl rfl dX2_isNewInPeriod_18 ?_
        refine z_get E f_X2_36 0 rfl rfl dX2_isNewInPeriod_19 ?_
        refine z_iload_n E 1 rfl rfl dX2_isNewInPeriod_22 ?_
        refine z_iadd E dX2_isNewInPeriod_23 ?_
        refine z_callVi (As := [.int (zi (ld + o))]) (rest := [.int (zi (f (ld + i)))]) (wr := []) E (c_X2_termAt l D κ h0 hT hU hL hS hH lt lb ld pd cv f (ld + o) (by omega)) m_X2_94 ⟨Nat.le_of_ble_eq_true rfl, Nat.le_of_ble_eq_true rfl⟩ ⟨rfl, rfl⟩ [0, 1] [] rfl rfl rfl rfl (by decide) rfl rfl rfl rfl (Nat.le_of_ble_eq_true rfl) dX2_isNewInPeriod_24 ⟨Nat.le_of_ble_eq_true rfl, Nat.le_of_ble_eq_true rfl⟩ (fun z24 w1 hq => ?_)
        obtain ⟨rfl, rfl⟩ := hq
        have f1 := hf (ld + i) (by omega) (by omega)
        have f2 := hf (ld + o) (by omega) (by omega)
        refine z_ic_ne (tgt := 32) E (by omega) (by omega) dX2_isNewInPeriod_27 (by decide) (fun h_27 => ?_) (fun h_27 => ?_)
        · refine z_iinc (lv' := [(2, .int (zi (i + 1))), (0, .ref h0), (1, .int (zi o))]) E 2 rfl dX2_isNewInPeriod_32 (Nat.le_of_ble_eq_true rfl) rfl ?_
          refine z_goto (tgt := 2) E dX2_isNewInPeriod_35 (by decide) ?_
          refine Zg.sub (lv' := [(0, .ref h0), (1, .int (zi o)), (2, .int (zi (i + 1)))]) [1, 2, 0] rfl ?_
          exact ih_2 (i + 1) (by omega) (lt_si i2 (by omega)) (by omega)
        · refine z_iconst E dX2_isNewInPeriod_30 ?_
          exact fin _ _ _ _ rfl (⟨Or.inr ⟨rfl, fun z => (newB_iff ho.1).mp z i i1.1 (by omega) (by omega)⟩, rfl⟩) dX2_isNewInPeriod_31
  refine Zg.sub (lv' := [(0, .ref h0), (1, .int (zi o)), (2, .int (zi 0))]) [1, 2, 0] rfl ?_
  exact lp_2 ((o - 0 : Int).toNat + 1) 0 (by omega) (fun k h1 h2 => absurd h2 (by omega)) (by omega)
abbrev rm_X2_unlikeOfPeriod : Room := { frames := 2, cells := 0, slots := 0, locals := 43 }
set_option maxRecDepth 100000 in
theorem c_X2_unlikeOfPeriod (l : Launch) (D : va_G) (κ : Nat → ClassId) (h0 : Nat) (hT : Nat) (hU : Nat) (hL : Nat) (hS : Nat) (hH : Nat) (lt : Int) (lb : Int) (ld : Int) (pd : Int) (cv : Int) (f : Int → Int) (hp : 0 ≤ ld ∧ 0 ≤ pd ∧ ld + pd ≤ 400) (hf : ∀ i : Int, 0 ≤ i → i < 400 → -100000 ≤ f i ∧ f i ≤ 100000) : ZI l yX2_unlikeOfPeriod cX2_unlikeOfPeriod 3 .int rm_X2_unlikeOfPeriod D κ [.ref h0] [(h0, .inr (2, [.ref hT, .ref hU, .ref hL, .ref hS, .ref hH, .long (zl lt), .long (zl lb), .int (zi ld), .int (zi pd), .int (zi cv)])), (hT, ai κ 400 f)] (fun z w => (unP f ld pd.toNat) = z ∧ [(h0, .inr (2, [.ref hT, .ref hU, .ref hL, .ref hS, .ref hH, .long (zl lt), .long (zl lb), .int (zi ld), .int (zi pd), .int (zi cv)])), (hT, ai κ 400 f)] = w) := by
  refine ZI.enter (own := RX2) rfl pn_X2_unlikeOfPeriod (Nat.le_of_ble_eq_true rfl) (fun X E fin => ?_)
  show Zg X [(h0, .inr (2, [.ref hT, .ref hU, .ref hL, .ref hS, .ref hH, .long (zl lt), .long (zl lb), .int (zi ld), .int (zi pd), .int (zi cv)])), (hT, ai κ 400 f)] 0 0 0 [(0, .ref h0)] []
  refine z_iconst E dX2_unlikeOfPeriod_0 ?_
  refine z_istore_n (lv' := [(1, .int (zi 0)), (0, .ref h0)]) E dX2_unlikeOfPeriod_1 rfl (Nat.le_of_ble_eq_true rfl) rfl ?_
  refine z_iconst E dX2_unlikeOfPeriod_2 ?_
  refine z_istore_n (lv' := [(2, .int (zi 0)), (1, .int (zi 0)), (0, .ref h0)]) E dX2_unlikeOfPeriod_3 rfl (Nat.le_of_ble_eq_true rfl) rfl ?_
  have lp_4 : ∀ (n_4 : Nat) (u : Int) (i : Int), (0 ≤ i ∧ i ≤ pd) → (u = unP f ld i.toNat) → (0 ≤ u ∧ u ≤ i) → (pd - i) < (n_4 : Int) → Zg X [(h0, .inr (2, [.ref hT, .ref hU, .ref hL, .ref hS, .ref hH, .long (zl lt), .long (zl lb), .int (zi ld), .int (zi pd), .int (zi cv)])), (hT, ai κ 400 f)] 0 0 4 [(0, .ref h0), (1, .int (zi u)), (2, .int (zi i))] [] := by
    intro n_4
    induction n_4 with
    | zero =>
      intro u i i1 i2 i3 hmu
      exact absurd hmu (by omega)
    | succ n_4 ih_4 =>
      intro u i i1 i2 i3 hmu_4
      refine z_iload_n E 2 rfl rfl dX2_unlikeOfPeriod_4 ?_
      refine z_aload_n E 0 rfl rfl dX2_unlikeOfPeriod_5 ?_
      refine z_get E f_X2_40 0 rfl rfl dX2_unlikeOfPeriod_6 ?_
      refine z_ic_ge (tgt := 29) E (by omega) (by omega) dX2_unlikeOfPeriod_9 (by decide) (fun h_9 => ?_) (fun h_9 => ?_)
      · refine z_iload_n E 1 rfl rfl dX2_unlikeOfPeriod_29 ?_
        exact fin _ _ _ _ rfl (⟨by rw [i2, show i = pd by omega], rfl⟩) dX2_unlikeOfPeriod_30
      · refine z_aload_n E 0 rfl rfl dX2_unlikeOfPeriod_12 ?_
        refine z_iload_n E 2 rfl rfl dX2_unlikeOfPeriod_13 ?_
        refine z_callVi (As := [.int (zi i)]) (rest := []) (wr := []) E (c_X2_isNewInPeriod l D κ h0 hT hU hL hS hH lt lb ld pd cv f i (by omega) (hf) (by omega)) m_X2_118 ⟨Nat.le_of_ble_eq_true rfl, Nat.le_of_ble_eq_true rfl⟩ ⟨rfl, rfl⟩ [0, 1] [] rfl rfl rfl rfl (by decide) rfl rfl rfl rfl (Nat.le_of_ble_eq_true rfl) dX2_unlikeOfPeriod_14 ⟨Nat.le_of_ble_eq_true rfl, Nat.le_of_ble_eq_true rfl⟩ (fun z14 w1 hq => ?_)
        obtain ⟨⟨rfl, hc_14⟩ | ⟨rfl, hc_14⟩, rfl⟩ := hq
        · refine z_if_eq (tgt := 23) E (by omega) dX2_unlikeOfPeriod_17 (by decide) (fun h => absurd h (by decide)) (fun _ => ?_)
          refine z_iinc (lv' := [(1, .int (zi (u + 1))), (0, .ref h0), (2, .int (zi i))]) E 1 rfl dX2_unlikeOfPeriod_20 (Nat.le_of_ble_eq_true rfl) rfl ?_
          refine z_iinc (lv' := [(2, .int (zi (i + 1))), (1, .int (zi (u + 1))), (0, .ref h0)]) E 2 rfl dX2_unlikeOfPeriod_23 (Nat.le_of_ble_eq_true rfl) rfl ?_
          refine z_goto (tgt := 4) E dX2_unlikeOfPeriod_26 (by decide) ?_
          refine Zg.sub (lv' := [(0, .ref h0), (1, .int (zi (u + 1))), (2, .int (zi (i + 1)))]) [2, 1, 0] rfl ?_
          exact ih_4 (u + 1) (i + 1) (by omega) (unP_t i1.1 i2 hc_14) (by omega) (by omega)
        · refine z_if_eq (tgt := 23) E (by omega) dX2_unlikeOfPeriod_17 (by decide) (fun _ => ?_) (fun h => absurd h (by decide))
          refine z_iinc (lv' := [(2, .int (zi (i + 1))), (0, .ref h0), (1, .int (zi u))]) E 2 rfl dX2_unlikeOfPeriod_23 (Nat.le_of_ble_eq_true rfl) rfl ?_
          refine z_goto (tgt := 4) E dX2_unlikeOfPeriod_26 (by decide) ?_
          refine Zg.sub (lv' := [(0, .ref h0), (1, .int (zi u)), (2, .int (zi (i + 1)))]) [1, 2, 0] rfl ?_
          exact ih_4 u (i + 1) (by omega) (unP_f i1.1 i2 hc_14) (by omega) (by omega)
  refine Zg.sub (lv' := [(0, .ref h0), (1, .int (zi 0)), (2, .int (zi 0))]) [2, 1, 0] rfl ?_
  exact lp_4 ((pd - 0 : Int).toNat + 1) 0 0 (by omega) (rfl) (by omega) (by omega)
abbrev rm_X2_isPeriodMirrored : Room := { frames := 1, cells := 0, slots := 0, locals := 21 }
set_option maxRecDepth 100000 in
theorem c_X2_isPeriodMirrored (l : Launch) (D : va_G) (κ : Nat → ClassId) (h0 : Nat) (hT : Nat) (hU : Nat) (hL : Nat) (hS : Nat) (hH : Nat) (lt : Int) (lb : Int) (ld : Int) (pd : Int) (cv : Int) (f : Int → Int) (hp : 0 ≤ ld ∧ 0 ≤ pd ∧ ld + pd ≤ 400) (hf : ∀ i : Int, 0 ≤ i → i < 400 → -100000 ≤ f i ∧ f i ≤ 100000) : ZI l yX2_isPeriodMirrored cX2_isPeriodMirrored 3 .boolean rm_X2_isPeriodMirrored D κ [.ref h0] [(h0, .inr (2, [.ref hT, .ref hU, .ref hL, .ref hS, .ref hH, .long (zl lt), .long (zl lb), .int (zi ld), .int (zi pd), .int (zi cv)])), (hT, ai κ 400 f)] (fun z w => ((1 = z ∧ (miP f ld pd)) ∨ (0 = z ∧ ¬ (miP f ld pd))) ∧ [(h0, .inr (2, [.ref hT, .ref hU, .ref hL, .ref hS, .ref hH, .long (zl lt), .long (zl lb), .int (zi ld), .int (zi pd), .int (zi cv)])), (hT, ai κ 400 f)] = w) := by
  refine ZI.enter (own := RX2) rfl pn_X2_isPeriodMirrored (Nat.le_of_ble_eq_true rfl) (fun X E fin => ?_)
  show Zg X [(h0, .inr (2, [.ref hT, .ref hU, .ref hL, .ref hS, .ref hH, .long (zl lt), .long (zl lb), .int (zi ld), .int (zi pd), .int (zi cv)])), (hT, ai κ 400 f)] 0 0 0 [(0, .ref h0)] []
  refine z_aload_n E 0 rfl rfl dX2_isPeriodMirrored_0 ?_
  refine z_get E f_X2_40 0 rfl rfl dX2_isPeriodMirrored_1 ?_
  refine z_iconst E dX2_isPeriodMirrored_4 ?_
  refine z_isub E dX2_isPeriodMirrored_5 ?_
  refine z_istore_n (lv' := [(1, .int (zi (pd - 2))), (0, .ref h0)]) E dX2_isPeriodMirrored_6 rfl (Nat.le_of_ble_eq_true rfl) rfl ?_
  refine z_iconst E dX2_isPeriodMirrored_7 ?_
  refine z_istore_n (lv' := [(2, .int (zi 0)), (1, .int (zi (pd - 2))), (0, .ref h0)]) E dX2_isPeriodMirrored_8 rfl (Nat.le_of_ble_eq_true rfl) rfl ?_
  have lp_9 : ∀ (n_9 : Nat) (i : Int), (0 ≤ i ∧ i ≤ 400 ∧ (i = 0 ∨ i ≤ pd - 1)) → (∀ k : Int, 0 ≤ k → k < i → f (ld + k) = f ((ld + (pd - 2)) - k)) → (500 - i) < (n_9 : Int) → Zg X [(h0, .inr (2, [.ref hT, .ref hU, .ref hL, .ref hS, .ref hH, .long (zl lt), .long (zl lb), .int (zi ld), .int (zi pd), .int (zi cv)])), (hT, ai κ 400 f)] 0 0 9 [(0, .ref h0), (1, .int (zi (pd - 2))), (2, .int (zi i))] [] := by
    intro n_9
    induction n_9 with
    | zero =>
      intro i i1 i2 hmu
      exact absurd hmu (by omega)
    | succ n_9 ih_9 =>
      intro i i1 i2 hmu_9
      refine z_iload_n E 2 rfl rfl dX2_isPeriodMirrored_9 ?_
      refine z_iload_n E 1 rfl rfl dX2_isPeriodMirrored_10 ?_
      refine z_iload_n E 2 rfl rfl dX2_isPeriodMirrored_11 ?_
      refine z_isub E dX2_isPeriodMirrored_12 ?_
      refine z_ic_ge (tgt := 49) E (by omega) (by omega) dX2_isPeriodMirrored_13 (by decide) (fun h_13 => ?_) (fun h_13 => ?_)
      · refine z_iconst E dX2_isPeriodMirrored_49 ?_
        exact fin _ _ _ _ rfl (⟨Or.inl ⟨rfl, miP_half i2 (by omega)⟩, rfl⟩) dX2_isPeriodMirrored_50
      · refine z_aload_n E 0 rfl rfl dX2_isPeriodMirrored_16 ?_
        refine z_aload_n E 0 rfl rfl dX2_isPeriodMirrored_17 ?_
        refine z_get E f_X2_36 0 rfl rfl dX2_isPeriodMirrored_18 ?_
        refine z_iload_n E 2 rfl rfl dX2_isPeriodMirrored_21 ?_
        refine z_iadd E dX2_isPeriodMirrored_22 ?_
        refine z_callVi (As := [.int (zi (ld + i))]) (rest := []) (wr := []) E (c_X2_termAt l D κ h0 hT hU hL hS hH lt lb ld pd cv f (ld + i) (by omega)) m_X2_94 ⟨Nat.le_of_ble_eq_true rfl, Nat.le_of_ble_eq_true rfl⟩ ⟨rfl, rfl⟩ [0, 1] [] rfl rfl rfl rfl (by decide) rfl rfl rfl rfl (Nat.le_of_ble_eq_true rfl) dX2_isPeriodMirrored_23 ⟨Nat.le_of_ble_eq_true rfl, Nat.le_of_ble_eq_true rfl⟩ (fun z23 w1 hq => ?_)
        obtain ⟨rfl, rfl⟩ := hq
        refine z_aload_n E 0 rfl rfl dX2_isPeriodMirrored_26 ?_
        refine z_aload_n E 0 rfl rfl dX2_isPeriodMirrored_27 ?_
        refine z_get E f_X2_36 0 rfl rfl dX2_isPeriodMirrored_28 ?_
        refine z_iload_n E 1 rfl rfl dX2_isPeriodMirrored_31 ?_
        refine z_iadd E dX2_isPeriodMirrored_32 ?_
        refine z_iload_n E 2 rfl rfl dX2_isPeriodMirrored_33 ?_
        refine z_isub E dX2_isPeriodMirrored_34 ?_
        refine z_callVi (As := [.int (zi ((ld + (pd - 2)) - i))]) (rest := [.int (zi (f (ld + i)))]) (wr := []) E (c_X2_termAt l D κ h0 hT hU hL hS hH lt lb ld pd cv f ((ld + (pd - 2)) - i) (by omega)) m_X2_94 ⟨Nat.le_of_ble_eq_true rfl, Nat.le_of_ble_eq_true rfl⟩ ⟨rfl, rfl⟩ [0, 1] [] rfl rfl rfl rfl (by decide) rfl rfl rfl rfl (Nat.le_of_ble_eq_true rfl) dX2_isPeriodMirrored_35 ⟨Nat.le_of_ble_eq_true rfl, Nat.le_of_ble_eq_true rfl⟩ (fun z35 w1 hq => ?_)
        obtain ⟨rfl, rfl⟩ := hq
        have f1 := hf (ld + i) (by omega) (by omega)
        have f2 := hf ((ld + (pd - 2)) - i) (by omega) (by omega)
        refine z_ic_eq (tgt := 43) E (by omega) (by omega) dX2_isPeriodMirrored_38 (by decide) (fun h_38 => ?_) (fun h_38 => ?_)
        · refine z_iinc (lv' := [(2, .int (zi (i + 1))), (0, .ref h0), (1, .int (zi (pd - 2)))]) E 2 rfl dX2_isPeriodMirrored_43 (Nat.le_of_ble_eq_true rfl) rfl ?_
          refine z_goto (tgt := 9) E dX2_isPeriodMirrored_46 (by decide) ?_
          refine Zg.sub (lv' := [(0, .ref h0), (1, .int (zi (pd - 2))), (2, .int (zi (i + 1)))]) [1, 2, 0] rfl ?_
          exact ih_9 (i + 1) (by omega) (lt_si i2 (by omega)) (by omega)
        · refine z_iconst E dX2_isPeriodMirrored_41 ?_
          exact fin _ _ _ _ rfl (⟨Or.inr ⟨rfl, miP_no i1.1 (by omega) (by omega)⟩, rfl⟩) dX2_isPeriodMirrored_42
  refine Zg.sub (lv' := [(0, .ref h0), (1, .int (zi (pd - 2))), (2, .int (zi 0))]) [2, 1, 0] rfl ?_
  exact lp_9 ((500 - 0 : Int).toNat + 1) 0 (by omega) (fun k h1 h2 => absurd h2 (by omega)) (by omega)
abbrev rm_X2_hasConvergent : Room := { frames := 1, cells := 0, slots := 0, locals := 21 }
set_option maxRecDepth 100000 in
theorem c_X2_hasConvergent (l : Launch) (D : va_G) (κ : Nat → ClassId) (h0 : Nat) (hT : Nat) (hU : Nat) (hL : Nat) (hS : Nat) (hH : Nat) (lt : Int) (lb : Int) (ld : Int) (pd : Int) (cv : Int) (U : Int → Int) (L : Int → Int) (a : Int) (b : Int) (hcv : 0 ≤ cv ∧ cv ≤ 400) (hUb : ∀ i : Int, 0 ≤ i → i < cv → (-9000000000000000 ≤ U i ∧ U i ≤ 9000000000000000) ∧ (-9000000000000000 ≤ L i ∧ L i ≤ 9000000000000000)) (ha : -9000000000000000 ≤ a ∧ a ≤ 9000000000000000) (hb : -9000000000000000 ≤ b ∧ b ≤ 9000000000000000) : ZI l yX2_hasConvergent cX2_hasConvergent 6 .boolean rm_X2_hasConvergent D κ [.ref h0, .long (zl a), .long (zl b)] [(h0, .inr (2, [.ref hT, .ref hU, .ref hL, .ref hS, .ref hH, .long (zl lt), .long (zl lb), .int (zi ld), .int (zi pd), .int (zi cv)])), (hU, al κ 400 U), (hL, al κ 400 L)] (fun z w => ((1 = z ∧ (∃ k : Int, 0 ≤ k ∧ k < cv ∧ U k = a ∧ L k = b)) ∨ (0 = z ∧ ¬ (∃ k : Int, 0 ≤ k ∧ k < cv ∧ U k = a ∧ L k = b))) ∧ [(h0, .inr (2, [.ref hT, .ref hU, .ref hL, .ref hS, .ref hH, .long (zl lt), .long (zl lb), .int (zi ld), .int (zi pd), .int (zi cv)])), (hU, al κ 400 U), (hL, al κ 400 L)] = w) := by
  refine ZI.enter (own := RX2) rfl pn_X2_hasConvergent (Nat.le_of_ble_eq_true rfl) (fun X E fin => ?_)
  show Zg X [(h0, .inr (2, [.ref hT, .ref hU, .ref hL, .ref hS, .ref hH, .long (zl lt), .long (zl lb), .int (zi ld), .int (zi pd), .int (zi cv)])), (hU, al κ 400 U), (hL, al κ 400 L)] 0 0 0 [(0, .ref h0), (1, .long (zl a)), (3, .long (zl b))] []
  refine z_iconst E dX2_hasConvergent_0 ?_
  refine z_istore (lv' := [(5, .int (zi 0)), (0, .ref h0), (1, .long (zl a)), (3, .long (zl b))]) E dX2_hasConvergent_1 (Nat.le_of_ble_eq_true rfl) rfl ?_
  have lp_3 : ∀ (n_3 : Nat) (i : Int), (0 ≤ i ∧ i ≤ cv) → (∀ k : Int, 0 ≤ k → k < i → ¬ (U k = a ∧ L k = b)) → (cv - i) < (n_3 : Int) → Zg X [(h0, .inr (2, [.ref hT, .ref hU, .ref hL, .ref hS, .ref hH, .long (zl lt), .long (zl lb), .int (zi ld), .int (zi pd), .int (zi cv)])), (hL, al κ 400 L), (hU, al κ 400 U)] 0 0 3 [(0, .ref h0), (1, .long (zl a)), (3, .long (zl b)), (5, .int (zi i))] [] := by
    intro n_3
    induction n_3 with
    | zero =>
      intro i i1 i2 hmu
      exact absurd hmu (by omega)
    | succ n_3 ih_3 =>
      intro i i1 i2 hmu_3
      refine z_iload E 3 rfl dX2_hasConvergent_3 ?_
      refine z_aload_n E 0 rfl rfl dX2_hasConvergent_5 ?_
      refine z_get E f_X2_89 0 rfl rfl dX2_hasConvergent_6 ?_
      refine z_ic_ge (tgt := 42) E (by omega) (by omega) dX2_hasConvergent_9 (by decide) (fun h_9 => ?_) (fun h_9 => ?_)
      · refine z_iconst E dX2_hasConvergent_42 ?_
        refine Zg.perm (ws' := [(h0, .inr (2, [.ref hT, .ref hU, .ref hL, .ref hS, .ref hH, .long (zl lt), .long (zl lb), .int (zi ld), .int (zi pd), .int (zi cv)])), (hU, al κ 400 U), (hL, al κ 400 L)]) [0, 2, 1] rfl rfl ?_
        exact fin _ _ _ _ rfl (⟨Or.inr ⟨rfl, fun ⟨k, k1, k2, k3, k4⟩ => i2 k k1 (by omega) ⟨k3, k4⟩⟩, rfl⟩) dX2_hasConvergent_43
      · have hk := hUb i (by omega) (by omega)
        refine z_aload_n E 0 rfl rfl dX2_hasConvergent_12 ?_
        refine z_iload E 3 rfl dX2_hasConvergent_13 ?_
        refine z_callVl (As := [.int (zi i)]) (rest := []) (wr := [(hL, al κ 400 L)]) E (c_X2_upperAt l D κ h0 hT hU hL hS hH lt lb ld pd cv U i (by omega)) m_X2_122 ⟨Nat.le_of_ble_eq_true rfl, Nat.le_of_ble_eq_true rfl⟩ ⟨rfl, rfl⟩ [0, 2] [1] rfl rfl rfl rfl (by decide) rfl rfl rfl rfl (Nat.le_of_ble_eq_true rfl) dX2_hasConvergent_15 ⟨Nat.le_of_ble_eq_true rfl, Nat.le_of_ble_eq_true rfl⟩ (fun z15 w1 hq => ?_)
        obtain ⟨rfl, rfl⟩ := hq
        refine z_lload_n E 1 rfl rfl dX2_hasConvergent_18 ?_
        refine z_lc_ne (tgt := 36) E (by omega) (by omega) dX2_hasConvergent_19 dX2_hasConvergent_20 (by decide) (fun h_19 => ?_) (fun h_19 => ?_)
        · refine z_iinc (lv' := [(5, .int (zi (i + 1))), (0, .ref h0), (1, .long (zl a)), (3, .long (zl b))]) E 3 rfl dX2_hasConvergent_36 (Nat.le_of_ble_eq_true rfl) rfl ?_
          refine z_goto (tgt := 3) E dX2_hasConvergent_39 (by decide) ?_
          refine Zg.sub (lv' := [(0, .ref h0), (1, .long (zl a)), (3, .long (zl b)), (5, .int (zi (i + 1)))]) [1, 2, 3, 0] rfl ?_
          refine Zg.perm (ws' := [(h0, .inr (2, [.ref hT, .ref hU, .ref hL, .ref hS, .ref hH, .long (zl lt), .long (zl lb), .int (zi ld), .int (zi pd), .int (zi cv)])), (hL, al κ 400 L), (hU, al κ 400 U)]) [1, 0, 2] rfl rfl ?_
          exact ih_3 (i + 1) (by omega) (lt_si i2 (by omega)) (by omega)
        · refine z_aload_n E 0 rfl rfl dX2_hasConvergent_23 ?_
          refine z_iload E 3 rfl dX2_hasConvergent_24 ?_
          refine z_callVl (As := [.int (zi i)]) (rest := []) (wr := [(hU, al κ 400 U)]) E (c_X2_lowerAt l D κ h0 hT hU hL hS hH lt lb ld pd cv L i (by omega)) m_X2_126 ⟨Nat.le_of_ble_eq_true rfl, Nat.le_of_ble_eq_true rfl⟩ ⟨rfl, rfl⟩ [1, 0] [2] rfl rfl rfl rfl (by decide) rfl rfl rfl rfl (Nat.le_of_ble_eq_true rfl) dX2_hasConvergent_26 ⟨Nat.le_of_ble_eq_true rfl, Nat.le_of_ble_eq_true rfl⟩ (fun z26 w1 hq => ?_)
          obtain ⟨rfl, rfl⟩ := hq
          refine z_lload_n E 2 rfl rfl dX2_hasConvergent_29 ?_
          refine z_lc_ne (tgt := 36) E (by omega) (by omega) dX2_hasConvergent_30 dX2_hasConvergent_31 (by decide) (fun h_30 => ?_) (fun h_30 => ?_)
          · refine z_iinc (lv' := [(5, .int (zi (i + 1))), (0, .ref h0), (1, .long (zl a)), (3, .long (zl b))]) E 3 rfl dX2_hasConvergent_36 (Nat.le_of_ble_eq_true rfl) rfl ?_
            refine z_goto (tgt := 3) E dX2_hasConvergent_39 (by decide) ?_
            refine Zg.sub (lv' := [(0, .ref h0), (1, .long (zl a)), (3, .long (zl b)), (5, .int (zi (i + 1)))]) [1, 2, 3, 0] rfl ?_
            refine Zg.perm (ws' := [(h0, .inr (2, [.ref hT, .ref hU, .ref hL, .ref hS, .ref hH, .long (zl lt), .long (zl lb), .int (zi ld), .int (zi pd), .int (zi cv)])), (hL, al κ 400 L), (hU, al κ 400 U)]) [1, 2, 0] rfl rfl ?_
            exact ih_3 (i + 1) (by omega) (lt_si i2 (by omega)) (by omega)
          · refine z_iconst E dX2_hasConvergent_34 ?_
            refine Zg.perm (ws' := [(h0, .inr (2, [.ref hT, .ref hU, .ref hL, .ref hS, .ref hH, .long (zl lt), .long (zl lb), .int (zi ld), .int (zi pd), .int (zi cv)])), (hU, al κ 400 U), (hL, al κ 400 L)]) [1, 0, 2] rfl rfl ?_
            exact fin _ _ _ _ rfl (⟨Or.inl ⟨rfl, ⟨i, by omega, by omega, by omega, by omega⟩⟩, rfl⟩) dX2_hasConvergent_35
  refine Zg.sub (lv' := [(0, .ref h0), (1, .long (zl a)), (3, .long (zl b)), (5, .int (zi 0))]) [1, 2, 3, 0] rfl ?_
  refine Zg.perm (ws' := [(h0, .inr (2, [.ref hT, .ref hU, .ref hL, .ref hS, .ref hH, .long (zl lt), .long (zl lb), .int (zi ld), .int (zi pd), .int (zi cv)])), (hL, al κ 400 L), (hU, al κ 400 U)]) [0, 2, 1] rfl rfl ?_
  exact lp_3 ((cv - 0 : Int).toNat + 1) 0 (by omega) (fun k h1 h2 => absurd h2 (by omega)) (by omega)
abbrev rm_X2_countShared : Room := { frames := 1, cells := 0, slots := 0, locals := 21 }
set_option maxRecDepth 100000 in
theorem c_X2_countShared (l : Launch) (D : va_G) (κ : Nat → ClassId) (h0 : Nat) (hT : Nat) (hU : Nat) (hL : Nat) (hS : Nat) (hH : Nat) (lt : Int) (lb : Int) (ld : Int) (pd : Int) (cv : Int) (f : Int → Int) (h1 : Nat) (hc : Nat) (ht : Nat) (n : Int) (tc : Int) (fp : Int) (fr : Int) (g : Int → Int) (hf : ∀ i : Int, 0 ≤ i → i < 400 → -100000 ≤ f i ∧ f i ≤ 100000) (htc : 0 ≤ tc ∧ tc ≤ 40) (hg : ∀ i : Int, 0 ≤ i → i < tc → -1000 ≤ g i ∧ g i ≤ 1000) : ZI l yX2_countShared cX2_countShared 3 .int rm_X2_countShared D κ [.ref h0, .ref h1] [(h0, .inr (2, [.ref hT, .ref hU, .ref hL, .ref hS, .ref hH, .long (zl lt), .long (zl lb), .int (zi ld), .int (zi pd), .int (zi cv)])), (hT, ai κ 400 f), (h1, .inr (9, [.ref hc, .ref ht, .int (zi n), .int (zi tc), .int (zi fp), .int (zi fr)])), (ht, ai κ 40 g)] (fun z w => ∃ r : Int, (shP g f tc r) ∧ r = z ∧ [(h0, .inr (2, [.ref hT, .ref hU, .ref hL, .ref hS, .ref hH, .long (zl lt), .long (zl lb), .int (zi ld), .int (zi pd), .int (zi cv)])), (hT, ai κ 400 f), (h1, .inr (9, [.ref hc, .ref ht, .int (zi n), .int (zi tc), .int (zi fp), .int (zi fr)])), (ht, ai κ 40 g)] = w) := by
  refine ZI.enter (own := RX2) rfl pn_X2_countShared (Nat.le_of_ble_eq_true rfl) (fun X E fin => ?_)
  show Zg X [(h0, .inr (2, [.ref hT, .ref hU, .ref hL, .ref hS, .ref hH, .long (zl lt), .long (zl lb), .int (zi ld), .int (zi pd), .int (zi cv)])), (hT, ai κ 400 f), (h1, .inr (9, [.ref hc, .ref ht, .int (zi n), .int (zi tc), .int (zi fp), .int (zi fr)])), (ht, ai κ 40 g)] 0 0 0 [(0, .ref h0), (1, .ref h1)] []
  refine z_iconst E dX2_countShared_0 ?_
  refine z_istore_n (lv' := [(2, .int (zi 0)), (0, .ref h0), (1, .ref h1)]) E dX2_countShared_1 rfl (Nat.le_of_ble_eq_true rfl) rfl ?_
  have lp_2 : ∀ (n_2 : Nat) (i : Int), (0 ≤ i ∧ i ≤ tc) → (∀ k : Int, 0 ≤ k → k < i → g k = f k) → (tc - i) < (n_2 : Int) → Zg X [(h0, .inr (2, [.ref hT, .ref hU, .ref hL, .ref hS, .ref hH, .long (zl lt), .long (zl lb), .int (zi ld), .int (zi pd), .int (zi cv)])), (h1, .inr (9, [.ref hc, .ref ht, .int (zi n), .int (zi tc), .int (zi fp), .int (zi fr)])), (hT, ai κ 400 f), (ht, ai κ 40 g)] 0 0 2 [(0, .ref h0), (1, .ref h1), (2, .int (zi i))] [] := by
    intro n_2
    induction n_2 with
    | zero =>
      intro i i1 i2 hmu
      exact absurd hmu (by omega)
    | succ n_2 ih_2 =>
      intro i i1 i2 hmu_2
      refine z_iload_n E 2 rfl rfl dX2_countShared_2 ?_
      refine z_aload_n E 1 rfl rfl dX2_countShared_3 ?_
      refine z_get E f_X2_129 1 rfl rfl dX2_countShared_4 ?_
      refine z_ic_ge (tgt := 29) E (by omega) (by omega) dX2_countShared_7 (by decide) (fun h_7 => ?_) (fun h_7 => ?_)
      · refine z_iload_n E 2 rfl rfl dX2_countShared_29 ?_
        refine Zg.perm (ws' := [(h0, .inr (2, [.ref hT, .ref hU, .ref hL, .ref hS, .ref hH, .long (zl lt), .long (zl lb), .int (zi ld), .int (zi pd), .int (zi cv)])), (hT, ai κ 400 f), (h1, .inr (9, [.ref hc, .ref ht, .int (zi n), .int (zi tc), .int (zi fp), .int (zi fr)])), (ht, ai κ 40 g)]) [0, 2, 1, 3] rfl rfl ?_
        exact fin _ _ _ _ rfl (⟨_, ⟨i1.1, i1.2, i2, fun _ => by omega⟩, rfl, rfl⟩) dX2_countShared_30
      · refine z_aload_n E 1 rfl rfl dX2_countShared_10 ?_
        refine z_iload_n E 2 rfl rfl dX2_countShared_11 ?_
        refine z_callVi (As := [.int (zi i)]) (rest := []) (wr := [(h0, .inr (2, [.ref hT, .ref hU, .ref hL, .ref hS, .ref hH, .long (zl lt), .long (zl lb), .int (zi ld), .int (zi pd), .int (zi cv)])), (hT, ai κ 400 f)]) E (c_X9_termAt l D κ h1 hc ht n tc fp fr g i (by omega)) m_X2_134 ⟨Nat.le_of_ble_eq_true rfl, Nat.le_of_ble_eq_true rfl⟩ ⟨rfl, rfl⟩ [1, 3] [0, 2] rfl rfl rfl rfl (by decide) rfl rfl rfl rfl (Nat.le_of_ble_eq_true rfl) dX2_countShared_12 ⟨Nat.le_of_ble_eq_true rfl, Nat.le_of_ble_eq_true rfl⟩ (fun z12 w1 hq => ?_)
        obtain ⟨rfl, rfl⟩ := hq
        refine z_aload_n E 0 rfl rfl dX2_countShared_15 ?_
        refine z_iload_n E 2 rfl rfl dX2_countShared_16 ?_
        refine z_callVi (As := [.int (zi i)]) (rest := [.int (zi (g i))]) (wr := [(h1, .inr (9, [.ref hc, .ref ht, .int (zi n), .int (zi tc), .int (zi fp), .int (zi fr)])), (ht, ai κ 40 g)]) E (c_X2_termAt l D κ h0 hT hU hL hS hH lt lb ld pd cv f i (by omega)) m_X2_94 ⟨Nat.le_of_ble_eq_true rfl, Nat.le_of_ble_eq_true rfl⟩ ⟨rfl, rfl⟩ [0, 1] [2, 3] rfl rfl rfl rfl (by decide) rfl rfl rfl rfl (Nat.le_of_ble_eq_true rfl) dX2_countShared_17 ⟨Nat.le_of_ble_eq_true rfl, Nat.le_of_ble_eq_true rfl⟩ (fun z17 w1 hq => ?_)
        obtain ⟨rfl, rfl⟩ := hq
        have f1 := hf i (by omega) (by omega)
        have f2 := hg i (by omega) (by omega)
        refine z_ic_ne (tgt := 29) E (by omega) (by omega) dX2_countShared_20 (by decide) (fun h_20 => ?_) (fun h_20 => ?_)
        · refine z_iload_n E 2 rfl rfl dX2_countShared_29 ?_
          refine Zg.perm (ws' := [(h0, .inr (2, [.ref hT, .ref hU, .ref hL, .ref hS, .ref hH, .long (zl lt), .long (zl lb), .int (zi ld), .int (zi pd), .int (zi cv)])), (hT, ai κ 400 f), (h1, .inr (9, [.ref hc, .ref ht, .int (zi n), .int (zi tc), .int (zi fp), .int (zi fr)])), (ht, ai κ 40 g)]) [2, 3, 0, 1] rfl rfl ?_
          exact fin _ _ _ _ rfl (⟨_, ⟨i1.1, i1.2, i2, fun _ => by omega⟩, rfl, rfl⟩) dX2_countShared_30
        · refine z_iinc (lv' := [(2, .int (zi (i + 1))), (0, .ref h0), (1, .ref h1)]) E 2 rfl dX2_countShared_23 (Nat.le_of_ble_eq_true rfl) rfl ?_
          refine z_goto (tgt := 2) E dX2_countShared_26 (by decide) ?_
          refine Zg.sub (lv' := [(0, .ref h0), (1, .ref h1), (2, .int (zi (i + 1)))]) [1, 2, 0] rfl ?_
          refine Zg.perm (ws' := [(h0, .inr (2, [.ref hT, .ref hU, .ref hL, .ref hS, .ref hH, .long (zl lt), .long (zl lb), .int (zi ld), .int (zi pd), .int (zi cv)])), (h1, .inr (9, [.ref hc, .ref ht, .int (zi n), .int (zi tc), .int (zi fp), .int (zi fr)])), (hT, ai κ 400 f), (ht, ai κ 40 g)]) [2, 0, 3, 1] rfl rfl ?_
          exact ih_2 (i + 1) (by omega) (lt_si i2 (by omega)) (by omega)
  refine Zg.sub (lv' := [(0, .ref h0), (1, .ref h1), (2, .int (zi 0))]) [1, 2, 0] rfl ?_
  refine Zg.perm (ws' := [(h0, .inr (2, [.ref hT, .ref hU, .ref hL, .ref hS, .ref hH, .long (zl lt), .long (zl lb), .int (zi ld), .int (zi pd), .int (zi cv)])), (h1, .inr (9, [.ref hc, .ref ht, .int (zi n), .int (zi tc), .int (zi fp), .int (zi fr)])), (hT, ai κ 400 f), (ht, ai κ 40 g)]) [0, 2, 1, 3] rfl rfl ?_
  exact lp_2 ((tc - 0 : Int).toNat + 1) 0 (by omega) (fun k h1 h2 => absurd h2 (by omega)) (by omega)
abbrev rm_X2_unfold : Room := { frames := 4, cells := 0, slots := 0, locals := 91 }
set_option maxHeartbeats 4000000 in
set_option maxRecDepth 100000 in
theorem c_X2_unfold (l : Launch) (D : va_G) (κ : Nat → ClassId) (h0 : Nat) (hT : Nat) (hU : Nat) (hL : Nat) (hS : Nat) (hH : Nat) (lt : Int) (lb : Int) (ld : Int) (pd : Int) (cv : Int) (f : Int → Int) (U : Int → Int) (L : Int → Int) (t : Int) (b : Int) (s : Int) (r : Int) (u : Int) (v : Int) (o : Int) (ua : Int) (va : Int) (h1 : Nat) (p : Int) (d : Int) (q : Int) (hv : vS p d q) : ZV l yX2_unfold cX2_unfold 3 rm_X2_unfold D κ [.ref h0, .ref h1] [(h0, .inr (2, [.ref hT, .ref hU, .ref hL, .ref hS, .ref hH, .long (zl lt), .long (zl lb), .int (zi ld), .int (zi pd), .int (zi cv)])), (hT, ai κ 400 f), (hU, al κ 400 U), (hL, al κ 400 L), (hS, .inr (7, [.long (zl t), .long (zl b), .long (zl s), .long (zl r)])), (hH, .inr (1, [.long (zl u), .long (zl v), .int (zi o), .long (zl ua), .long (zl va)])), (h1, .inr (8, [.int (zi p), .int (zi d), .int (zi q)]))] (fun w => ∃ lt' : Int, ∃ lb' : Int, ∃ ld' : Int, ∃ pd' : Int, ∃ cv' : Int, ∃ f' : Int → Int, ∃ U' : Int → Int, ∃ L' : Int → Int, ∃ t' : Int, ∃ b' : Int, ∃ s' : Int, ∃ r' : Int, ∃ u' : Int, ∃ v' : Int, ∃ o' : Int, ∃ ua' : Int, ∃ va' : Int, (pdI p d q 401 lt' lb' ld' pd') ∧ (∀ k : Int, 0 ≤ k → k < 400 → f' k = tm p d q k) ∧ (0 ≤ cv' ∧ cv' ≤ 400 ∧ cvP f' cv' U' L' ∧ (cv' < 400 → (chRun f' (cv' + 1).toNat).2.2.1 = 1)) ∧ [(h0, .inr (2, [.ref hT, .ref hU, .ref hL, .ref hS, .ref hH, .long (zl lt'), .long (zl lb'), .int (zi ld'), .int (zi pd'), .int (zi cv')])), (hT, ai κ 400 f'), (hU, al κ 400 U'), (hL, al κ 400 L'), (hS, .inr (7, [.long (zl t'), .long (zl b'), .long (zl s'), .long (zl r')])), (hH, .inr (1, [.long (zl u'), .long (zl v'), .int (zi o'), .long (zl ua'), .long (zl va')])), (h1, .inr (8, [.int (zi p), .int (zi d), .int (zi q)]))] = w) := by
  refine ZV.enter (own := RX2) rfl pn_X2_unfold (Nat.le_of_ble_eq_true rfl) (fun X E fin => ?_)
  show Zg X [(h0, .inr (2, [.ref hT, .ref hU, .ref hL, .ref hS, .ref hH, .long (zl lt), .long (zl lb), .int (zi ld), .int (zi pd), .int (zi cv)])), (hT, ai κ 400 f), (hU, al κ 400 U), (hL, al κ 400 L), (hS, .inr (7, [.long (zl t), .long (zl b), .long (zl s), .long (zl r)])), (hH, .inr (1, [.long (zl u), .long (zl v), .int (zi o), .long (zl ua), .long (zl va)])), (h1, .inr (8, [.int (zi p), .int (zi d), .int (zi q)]))] 0 0 0 [(0, .ref h0), (1, .ref h1)] []
  obtain ⟨hvp, hvd, hvq, hv0, hvn⟩ := id hv
  have hD := vS_D hv
  have hDd : Dd d q = (d * (zabs q)) * (zabs q) := rfl
  rw [hDd] at hD
  refine z_aload_n E 0 rfl rfl dX2_unfold_0 ?_
  refine z_iconst E dX2_unfold_1 ?_
  refine z_put (ws' := [(h0, .inr (2, [.ref hT, .ref hU, .ref hL, .ref hS, .ref hH, .long (zl lt), .long (zl lb), .int (zi (-1)), .int (zi pd), .int (zi cv)])), (hT, ai κ 400 f), (hU, al κ 400 U), (hL, al κ 400 L), (hS, .inr (7, [.long (zl t), .long (zl b), .long (zl s), .long (zl r)])), (hH, .inr (1, [.long (zl u), .long (zl v), .int (zi o), .long (zl ua), .long (zl va)])), (h1, .inr (8, [.int (zi p), .int (zi d), .int (zi q)]))]) E f_X2_36 t_X2_7 0 rfl rfl rfl (Nat.le_of_ble_eq_true rfl) rfl dX2_unfold_2 ?_
  refine z_aload_n E 0 rfl rfl dX2_unfold_5 ?_
  refine z_iconst E dX2_unfold_6 ?_
  refine z_put (ws' := [(h0, .inr (2, [.ref hT, .ref hU, .ref hL, .ref hS, .ref hH, .long (zl lt), .long (zl lb), .int (zi (-1)), .int (zi 0), .int (zi cv)])), (hT, ai κ 400 f), (hU, al κ 400 U), (hL, al κ 400 L), (hS, .inr (7, [.long (zl t), .long (zl b), .long (zl s), .long (zl r)])), (hH, .inr (1, [.long (zl u), .long (zl v), .int (zi o), .long (zl ua), .long (zl va)])), (h1, .inr (8, [.int (zi p), .int (zi d), .int (zi q)]))]) E f_X2_40 t_X2_8 0 rfl rfl rfl (Nat.le_of_ble_eq_true rfl) rfl dX2_unfold_7 ?_
  refine z_aload_n E 0 rfl rfl dX2_unfold_10 ?_
  refine z_get E f_X2_25 0 rfl rfl dX2_unfold_11 ?_
  refine z_aload_n E 1 rfl rfl dX2_unfold_14 ?_
  refine z_get E f_X2_43 6 rfl rfl dX2_unfold_15 ?_
  refine z_i2l E (by omega) dX2_unfold_18 ?_
  refine z_aload_n E 1 rfl rfl dX2_unfold_19 ?_
  refine z_get E f_X2_48 6 rfl rfl dX2_unfold_20 ?_
  refine z_i2l E (by omega) dX2_unfold_23 ?_
  refine z_aload_n E 1 rfl rfl dX2_unfold_24 ?_
  refine z_get E f_X2_51 6 rfl rfl dX2_unfold_25 ?_
  refine z_i2l E (by omega) dX2_unfold_28 ?_
  refine z_callVv (As := [.long (zl p), .long (zl d), .long (zl q)]) (rest := []) (wr := [(h0, .inr (2, [.ref hT, .ref hU, .ref hL, .ref hS, .ref hH, .long (zl lt), .long (zl lb), .int (zi (-1)), .int (zi 0), .int (zi cv)])), (hT, ai κ 400 f), (hU, al κ 400 U), (hL, al κ 400 L), (hH, .inr (1, [.long (zl u), .long (zl v), .int (zi o), .long (zl ua), .long (zl va)])), (h1, .inr (8, [.int (zi p), .int (zi d), .int (zi q)]))]) E (c_X7_begin l D κ hS t b s r p d q (by omega) (by omega)) m_X2_54 ⟨Nat.le_of_ble_eq_true rfl, Nat.le_of_ble_eq_true rfl⟩ ⟨rfl, rfl⟩ [4] [0, 1, 2, 3, 5, 6] rfl rfl rfl rfl (by decide) rfl rfl rfl rfl (Nat.le_of_ble_eq_true rfl) dX2_unfold_29 ⟨Nat.le_of_ble_eq_true rfl, Nat.le_of_ble_eq_true rfl⟩ (fun  w1 hq => ?_)
  obtain rfl := hq
  refine z_iconst E dX2_unfold_32 ?_
  refine z_istore_n (lv' := [(2, .int (zi 0)), (0, .ref h0), (1, .ref h1)]) E dX2_unfold_33 rfl (Nat.le_of_ble_eq_true rfl) rfl ?_
  have lp_34 : ∀ (n_34 : Nat) (x1 : Int) (x2 : Int) (x3 : Int) (x4 : Int) (g : Int → Int) (y1 : Int) (y2 : Int) (i : Int), (0 ≤ i ∧ i ≤ 400) → (pdI p d q i x1 x2 x3 x4) → (sS p d q i.toNat = (y1, y2)) → (∀ k : Int, 0 ≤ k → k < i → g k = tm p d q k) → (400 - i) < (n_34 : Int) → Zg X [(h0, .inr (2, [.ref hT, .ref hU, .ref hL, .ref hS, .ref hH, .long (zl x1), .long (zl x2), .int (zi x3), .int (zi x4), .int (zi cv)])), (h1, .inr (8, [.int (zi p), .int (zi d), .int (zi q)])), (hH, .inr (1, [.long (zl u), .long (zl v), .int (zi o), .long (zl ua), .long (zl va)])), (hL, al κ 400 L), (hS, .inr (7, [.long (zl y1), .long (zl y2), .long (zl ((d * (zabs q)) * (zabs q))), .long (zl (rt ((d * (zabs q)) * (zabs q))))])), (hT, ai κ 400 g), (hU, al κ 400 U)] 0 0 34 [(0, .ref h0), (1, .ref h1), (2, .int (zi i))] [] := by
    intro n_34
    induction n_34 with
    | zero =>
      intro x1 x2 x3 x4 g y1 y2 i i1 i2 i3 i4 hmu
      exact absurd hmu (by omega)
    | succ n_34 ih_34 =>
      intro x1 x2 x3 x4 g y1 y2 i i1 i2 i3 i4 hmu_34
      have hg := sS_get hv i1.1 i3
      rw [hDd] at hg
      have hpb := pdI_bd i1.1 i2
      refine z_iload_n E 2 rfl rfl dX2_unfold_34 ?_
      refine z_aload_n E 0 rfl rfl dX2_unfold_35 ?_
      refine z_get E f_X2_9 0 rfl rfl dX2_unfold_36 ?_
      refine z_alen_ai E 5 rfl dX2_unfold_39 ?_
      refine z_ic_ge (tgt := 75) E (by omega) (by omega) dX2_unfold_40 (by decide) (fun h_40 => ?_) (fun h_40 => ?_)
      · obtain rfl : i = 400 := by omega
        refine z_aload_n E 0 rfl rfl dX2_unfold_75 ?_
        refine z_aload_n E 0 rfl rfl dX2_unfold_76 ?_
        refine z_get E f_X2_9 0 rfl rfl dX2_unfold_77 ?_
        refine z_alen_ai E 5 rfl dX2_unfold_80 ?_
        refine z_callVv (As := [.int (zi 400)]) (rest := []) (wr := [(h1, .inr (8, [.int (zi p), .int (zi d), .int (zi q)])), (hH, .inr (1, [.long (zl u), .long (zl v), .int (zi o), .long (zl ua), .long (zl va)])), (hL, al κ 400 L), (hT, ai κ 400 g), (hU, al κ 400 U)]) E (c_X2_lookForPeriod l D κ h0 hT hU hL hS hH x1 x2 x3 x4 cv y1 y2 ((d * (zabs q)) * (zabs q)) (rt ((d * (zabs q)) * (zabs q))) 400 (by omega) (by omega) (by omega) (by omega) (by omega) (fun z => by have := pdI_lt hv i2 z; omega)) m_X2_58 ⟨Nat.le_of_ble_eq_true rfl, Nat.le_of_ble_eq_true rfl⟩ ⟨rfl, rfl⟩ [0, 4] [1, 2, 3, 5, 6] rfl rfl rfl rfl (by decide) rfl rfl rfl rfl (Nat.le_of_ble_eq_true rfl) dX2_unfold_81 ⟨Nat.le_of_ble_eq_true rfl, Nat.le_of_ble_eq_true rfl⟩ (fun  w1 hq => ?_)
        obtain ⟨lt'_1, lb'_2, ld'_3, pd'_4, hk_81, rfl⟩ := hq
        refine z_aload_n E 0 rfl rfl dX2_unfold_84 ?_
        refine z_callVv (As := []) (rest := []) (wr := [(h1, .inr (8, [.int (zi p), .int (zi d), .int (zi q)])), (hS, .inr (7, [.long (zl y1), .long (zl y2), .long (zl ((d * (zabs q)) * (zabs q))), .long (zl (rt ((d * (zabs q)) * (zabs q))))]))]) E (c_X2_chainConvergents l D κ h0 hT hU hL hS hH lt'_1 lb'_2 ld'_3 pd'_4 cv g U L u v o ua va (fun k k1 k2 => by rw [i4 k k1 k2]; have := tm_bd hv k; omega)) m_X2_69 ⟨Nat.le_of_ble_eq_true rfl, Nat.le_of_ble_eq_true rfl⟩ ⟨rfl, rfl⟩ [5, 3, 4, 2, 1] [0, 6] rfl rfl rfl rfl (by decide) rfl rfl rfl rfl (Nat.le_of_ble_eq_true rfl) dX2_unfold_85 ⟨Nat.le_of_ble_eq_true rfl, Nat.le_of_ble_eq_true rfl⟩ (fun  w1 hq => ?_)
        obtain ⟨U'_5, L'_6, cv'_7, u'_8, v'_9, o'_10, ua'_11, va'_12, hv_85, rfl⟩ := hq
        refine Zg.perm (ws' := [(h0, .inr (2, [.ref hT, .ref hU, .ref hL, .ref hS, .ref hH, .long (zl lt'_1), .long (zl lb'_2), .int (zi ld'_3), .int (zi pd'_4), .int (zi cv'_7)])), (hT, ai κ 400 g), (hU, al κ 400 U'_5), (hL, al κ 400 L'_6), (hS, .inr (7, [.long (zl y1), .long (zl y2), .long (zl ((d * (zabs q)) * (zabs q))), .long (zl (rt ((d * (zabs q)) * (zabs q))))])), (hH, .inr (1, [.long (zl u'_8), .long (zl v'_9), .int (zi o'_10), .long (zl ua'_11), .long (zl va'_12)])), (h1, .inr (8, [.int (zi p), .int (zi d), .int (zi q)]))]) [2, 3, 4, 5, 1, 6, 0] rfl rfl ?_
        exact fin _ _ _ (⟨_, _, _, _, _, _, _, _, _, _, _, _, _, _, _, _, _, pdI_s i1.1 i3 i2 hk_81, i4, hv_85, rfl⟩) dX2_unfold_88
      · refine z_aload_n E 0 rfl rfl dX2_unfold_43 ?_
        refine z_iload_n E 2 rfl rfl dX2_unfold_44 ?_
        refine z_callVv (As := [.int (zi i)]) (rest := []) (wr := [(h1, .inr (8, [.int (zi p), .int (zi d), .int (zi q)])), (hH, .inr (1, [.long (zl u), .long (zl v), .int (zi o), .long (zl ua), .long (zl va)])), (hL, al κ 400 L), (hT, ai κ 400 g), (hU, al κ 400 U)]) E (c_X2_lookForPeriod l D κ h0 hT hU hL hS hH x1 x2 x3 x4 cv y1 y2 ((d * (zabs q)) * (zabs q)) (rt ((d * (zabs q)) * (zabs q))) i (by omega) (by omega) (by omega) (by omega) (by omega) (fun z => by have := pdI_lt hv i2 z; omega)) m_X2_58 ⟨Nat.le_of_ble_eq_true rfl, Nat.le_of_ble_eq_true rfl⟩ ⟨rfl, rfl⟩ [0, 4] [1, 2, 3, 5, 6] rfl rfl rfl rfl (by decide) rfl rfl rfl rfl (Nat.le_of_ble_eq_true rfl) dX2_unfold_45 ⟨Nat.le_of_ble_eq_true rfl, Nat.le_of_ble_eq_true rfl⟩ (fun  w1 hq => ?_)
        obtain ⟨lt'_13, lb'_14, ld'_15, pd'_16, hk_45, rfl⟩ := hq
        refine z_aload_n E 0 rfl rfl dX2_unfold_48 ?_
        refine z_get E f_X2_9 5 rfl rfl dX2_unfold_49 ?_
        refine z_iload_n E 2 rfl rfl dX2_unfold_52 ?_
        refine z_aload_n E 0 rfl rfl dX2_unfold_53 ?_
        refine z_get E f_X2_25 5 rfl rfl dX2_unfold_54 ?_
        refine z_callVl (As := []) (rest := [.int (zi i), .ref hT]) (wr := [(h1, .inr (8, [.int (zi p), .int (zi d), .int (zi q)])), (hH, .inr (1, [.long (zl u), .long (zl v), .int (zi o), .long (zl ua), .long (zl va)])), (hL, al κ 400 L), (hT, ai κ 400 g), (hU, al κ 400 U), (h0, .inr (2, [.ref hT, .ref hU, .ref hL, .ref hS, .ref hH, .long (zl lt'_13), .long (zl lb'_14), .int (zi ld'_15), .int (zi pd'_16), .int (zi cv)]))]) E (c_X7_whole l D κ hS y1 y2 ((d * (zabs q)) * (zabs q)) (rt ((d * (zabs q)) * (zabs q))) (by omega) (by omega) (by omega)) m_X2_62 ⟨Nat.le_of_ble_eq_true rfl, Nat.le_of_ble_eq_true rfl⟩ ⟨rfl, rfl⟩ [6] [0, 1, 2, 3, 4, 5] rfl rfl rfl rfl (by decide) rfl rfl rfl rfl (Nat.le_of_ble_eq_true rfl) dX2_unfold_57 ⟨Nat.le_of_ble_eq_true rfl, Nat.le_of_ble_eq_true rfl⟩ (fun z57 w1 hq => ?_)
        obtain ⟨rfl, rfl⟩ := hq
        refine z_l2i E dX2_unfold_60 ?_
        refine z_iast (ws' := [(h1, .inr (8, [.int (zi p), .int (zi d), .int (zi q)])), (hH, .inr (1, [.long (zl u), .long (zl v), .int (zi o), .long (zl ua), .long (zl va)])), (hL, al κ 400 L), (hT, ai κ 400 (zu g i (wh (rt ((d * (zabs q)) * (zabs q))) y1 y2))), (hU, al κ 400 U), (h0, .inr (2, [.ref hT, .ref hU, .ref hL, .ref hS, .ref hH, .long (zl lt'_13), .long (zl lb'_14), .int (zi ld'_15), .int (zi pd'_16), .int (zi cv)])), (hS, .inr (7, [.long (zl y1), .long (zl y2), .long (zl ((d * (zabs q)) * (zabs q))), .long (zl (rt ((d * (zabs q)) * (zabs q))))]))]) E 3 rfl (Nat.le_of_ble_eq_true rfl) (by omega) (by omega) rfl dX2_unfold_61 ?_
        refine z_aload_n E 0 rfl rfl dX2_unfold_62 ?_
        refine z_get E f_X2_25 5 rfl rfl dX2_unfold_63 ?_
        refine z_callVv (As := []) (rest := []) (wr := [(h1, .inr (8, [.int (zi p), .int (zi d), .int (zi q)])), (hH, .inr (1, [.long (zl u), .long (zl v), .int (zi o), .long (zl ua), .long (zl va)])), (hL, al κ 400 L), (hT, ai κ 400 (zu g i (wh (rt ((d * (zabs q)) * (zabs q))) y1 y2))), (hU, al κ 400 U), (h0, .inr (2, [.ref hT, .ref hU, .ref hL, .ref hS, .ref hH, .long (zl lt'_13), .long (zl lb'_14), .int (zi ld'_15), .int (zi pd'_16), .int (zi cv)]))]) E (c_X7_advance l D κ hS y1 y2 ((d * (zabs q)) * (zabs q)) (rt ((d * (zabs q)) * (zabs q))) (by omega) (by omega) (by omega) (by omega) (by omega) (by omega)) m_X2_66 ⟨Nat.le_of_ble_eq_true rfl, Nat.le_of_ble_eq_true rfl⟩ ⟨rfl, rfl⟩ [6] [0, 1, 2, 3, 4, 5] rfl rfl rfl rfl (by decide) rfl rfl rfl rfl (Nat.le_of_ble_eq_true rfl) dX2_unfold_66 ⟨Nat.le_of_ble_eq_true rfl, Nat.le_of_ble_eq_true rfl⟩ (fun  w1 hq => ?_)
        obtain rfl := hq
        refine z_iinc (lv' := [(2, .int (zi (i + 1))), (0, .ref h0), (1, .ref h1)]) E 2 rfl dX2_unfold_69 (Nat.le_of_ble_eq_true rfl) rfl ?_
        refine z_goto (tgt := 34) E dX2_unfold_72 (by decide) ?_
        refine Zg.sub (lv' := [(0, .ref h0), (1, .ref h1), (2, .int (zi (i + 1)))]) [1, 2, 0] rfl ?_
        refine Zg.perm (ws' := [(h0, .inr (2, [.ref hT, .ref hU, .ref hL, .ref hS, .ref hH, .long (zl lt'_13), .long (zl lb'_14), .int (zi ld'_15), .int (zi pd'_16), .int (zi cv)])), (h1, .inr (8, [.int (zi p), .int (zi d), .int (zi q)])), (hH, .inr (1, [.long (zl u), .long (zl v), .int (zi o), .long (zl ua), .long (zl va)])), (hL, al κ 400 L), (hS, .inr (7, [.long (zl (((wh (rt ((d * (zabs q)) * (zabs q))) y1 y2) * y2) - y1)), .long (zl (Int.tdiv (((d * (zabs q)) * (zabs q)) - ((((wh (rt ((d * (zabs q)) * (zabs q))) y1 y2) * y2) - y1) * (((wh (rt ((d * (zabs q)) * (zabs q))) y1 y2) * y2) - y1))) y2)), .long (zl ((d * (zabs q)) * (zabs q))), .long (zl (rt ((d * (zabs q)) * (zabs q))))])), (hT, ai κ 400 (zu g i (wh (rt ((d * (zabs q)) * (zabs q))) y1 y2))), (hU, al κ 400 U)]) [5, 0, 1, 2, 6, 3, 4] rfl rfl ?_
        exact ih_34 lt'_13 lb'_14 ld'_15 pd'_16 (zu g i (wh (rt ((d * (zabs q)) * (zabs q))) y1 y2)) (((wh (rt ((d * (zabs q)) * (zabs q))) y1 y2) * y2) - y1) (Int.tdiv (((d * (zabs q)) * (zabs q)) - ((((wh (rt ((d * (zabs q)) * (zabs q))) y1 y2) * y2) - y1) * (((wh (rt ((d * (zabs q)) * (zabs q))) y1 y2) * y2) - y1))) y2) (i + 1) (by omega) (pdI_s i1.1 i3 i2 hk_45) (sS_s i1.1 i3) (zu_tm i4 _ (tm_of i3)) (by omega)
  refine Zg.sub (lv' := [(0, .ref h0), (1, .ref h1), (2, .int (zi 0))]) [1, 2, 0] rfl ?_
  refine Zg.perm (ws' := [(h0, .inr (2, [.ref hT, .ref hU, .ref hL, .ref hS, .ref hH, .long (zl lt), .long (zl lb), .int (zi (-1)), .int (zi 0), .int (zi cv)])), (h1, .inr (8, [.int (zi p), .int (zi d), .int (zi q)])), (hH, .inr (1, [.long (zl u), .long (zl v), .int (zi o), .long (zl ua), .long (zl va)])), (hL, al κ 400 L), (hS, .inr (7, [.long (zl (p * (zabs q))), .long (zl (q * (zabs q))), .long (zl ((d * (zabs q)) * (zabs q))), .long (zl (rt ((d * (zabs q)) * (zabs q))))])), (hT, ai κ 400 f), (hU, al κ 400 U)]) [0, 5, 4, 3, 6, 1, 2] rfl rfl ?_
  exact lp_34 ((400 - 0 : Int).toNat + 1) lt lb (-1) 0 f (p * (zabs q)) (q * (zabs q)) 0 (by omega) (pdI_0) (rfl) (fun k h1 h2 => absurd h2 (by omega)) (by omega)
