abbrev rm_X9_init : Room := { frames := 1, cells := 2, slots := 80, locals := 12 }
set_option maxRecDepth 100000 in
theorem c_X9_init (l : Launch) (D : va_G) (κ : Nat → ClassId) (h0 : Nat)  : ZV l yX9_init cX9_init 1 rm_X9_init D κ [.ref h0] [(h0, .inr (9, [.null, .null, .int (zi 0), .int (zi 0), .int (zi 0), .int (zi 0)]))] (fun w => ∃ hc : Nat, ∃ ht : Nat, [(h0, .inr (9, [.ref hc, .ref ht, .int (zi 0), .int (zi 0), .int (zi 0), .int (zi 0)])), (hc, ac κ 40 (fun _ => 0)), (ht, ai κ 40 (fun _ => 0))] = w) := by
  refine ZV.enter0 (own := RX9) rfl pn_X9_init (Nat.le_of_ble_eq_true rfl) (fun X E hini fin => ?_)
  have hini := hini rfl
  show Zg X [(h0, .inr (9, [.null, .null, .int (zi 0), .int (zi 0), .int (zi 0), .int (zi 0)]))] 0 0 0 [(0, .ref h0)] []
  refine z_aload_n E 0 rfl rfl dX9_init_0 ?_
  refine z_objInit E m_X9_3 in_obj co_obj (Nat.le_of_ble_eq_true rfl) (Nat.le_of_ble_eq_true rfl) dX9_init_1 ?_
  refine z_aload_n E 0 rfl rfl dX9_init_4 ?_
  refine z_bipush E dX9_init_5 (by decide) ?_
  refine z_newa_ac (N := 40) E (Nat.le_of_ble_eq_true rfl) ac_char (Nat.le_of_ble_eq_true rfl) (Nat.le_of_ble_eq_true rfl) dX9_init_7 (fun q1 => ?_)
  show Zg X [(h0, .inr (9, [.null, .null, .int (zi 0), .int (zi 0), .int (zi 0), .int (zi 0)])), (q1, ac κ 40 (fun _ => 0))] 1 40 9 [(0, .ref h0)] [.ref q1, .ref h0]
  refine z_putF (ws' := [(h0, .inr (9, [.ref q1, .null, .int (zi 0), .int (zi 0), .int (zi 0), .int (zi 0)])), (q1, ac κ 40 (fun _ => 0))]) E hini f_X9_9 t_X9_0 (fun q h => by cases h; rfl) 0 rfl rfl rfl (Nat.le_of_ble_eq_true rfl) rfl dX9_init_9 ?_
  refine z_aload_n E 0 rfl rfl dX9_init_12 ?_
  refine z_bipush E dX9_init_13 (by decide) ?_
  refine z_newa_ai (N := 40) E (Nat.le_of_ble_eq_true rfl) ac_int (Nat.le_of_ble_eq_true rfl) (Nat.le_of_ble_eq_true rfl) dX9_init_15 (fun q2 => ?_)
  show Zg X [(h0, .inr (9, [.ref q1, .null, .int (zi 0), .int (zi 0), .int (zi 0), .int (zi 0)])), (q1, ac κ 40 (fun _ => 0)), (q2, ai κ 40 (fun _ => 0))] 2 80 17 [(0, .ref h0)] [.ref q2, .ref h0]
  refine z_putF (ws' := [(h0, .inr (9, [.ref q1, .ref q2, .int (zi 0), .int (zi 0), .int (zi 0), .int (zi 0)])), (q1, ac κ 40 (fun _ => 0)), (q2, ai κ 40 (fun _ => 0))]) E hini f_X9_15 t_X9_1 (fun q h => by cases h; rfl) 0 rfl rfl rfl (Nat.le_of_ble_eq_true rfl) rfl dX9_init_17 ?_
  exact fin _ _ _ (by first | exact ⟨_, _, rfl⟩ | omega) dX9_init_20
abbrev rm_X9_append : Room := { frames := 0, cells := 0, slots := 0, locals := 0 }
set_option maxRecDepth 100000 in
theorem c_X9_append (l : Launch) (D : va_G) (κ : Nat → ClassId) (h0 : Nat) (hc : Nat) (ht : Nat) (n : Int) (tc : Int) (fp : Int) (fr : Int) (c : Int → Int) (x : Int) (hn : 0 ≤ n ∧ n < 40) (hx : 0 ≤ x ∧ x < 65536) : ZV l yX9_append cX9_append 2 rm_X9_append D κ [.ref h0, .int (zi x)] [(h0, .inr (9, [.ref hc, .ref ht, .int (zi n), .int (zi tc), .int (zi fp), .int (zi fr)])), (hc, ac κ 40 c)] (fun w => [(h0, .inr (9, [.ref hc, .ref ht, .int (zi (n + 1)), .int (zi tc), .int (zi fp), .int (zi fr)])), (hc, ac κ 40 (zu c n x))] = w) := by
  refine ZV.enter (own := RX9) rfl pn_X9_append (Nat.le_of_ble_eq_true rfl) (fun X E fin => ?_)
  show Zg X [(h0, .inr (9, [.ref hc, .ref ht, .int (zi n), .int (zi tc), .int (zi fp), .int (zi fr)])), (hc, ac κ 40 c)] 0 0 0 [(0, .ref h0), (1, .int (zi x))] []
  refine z_aload_n E 0 rfl rfl dX9_append_0 ?_
  refine z_get E f_X9_19 0 rfl rfl dX9_append_1 ?_
  refine z_if_lt (tgt := 39) E (by omega) dX9_append_4 (by decide) (fun h_4 => absurd h_4 (by omega)) (fun h_4 => ?_)
  refine z_aload_n E 0 rfl rfl dX9_append_7 ?_
  refine z_get E f_X9_19 0 rfl rfl dX9_append_8 ?_
  refine z_aload_n E 0 rfl rfl dX9_append_11 ?_
  refine z_get E f_X9_9 0 rfl rfl dX9_append_12 ?_
  refine z_alen_ac E 1 rfl dX9_append_15 ?_
  refine z_ic_ge (tgt := 39) E (by omega) (by omega) dX9_append_16 (by decide) (fun h_16 => absurd h_16 (by omega)) (fun h_16 => ?_)
  refine z_aload_n E 0 rfl rfl dX9_append_19 ?_
  refine z_get E f_X9_9 0 rfl rfl dX9_append_20 ?_
  refine z_aload_n E 0 rfl rfl dX9_append_23 ?_
  refine z_get E f_X9_19 0 rfl rfl dX9_append_24 ?_
  refine z_iload_n E 1 rfl rfl dX9_append_27 ?_
  refine z_cast (ws' := [(h0, .inr (9, [.ref hc, .ref ht, .int (zi n), .int (zi tc), .int (zi fp), .int (zi fr)])), (hc, ac κ 40 (zu c n x))]) E 1 rfl (Nat.le_of_ble_eq_true rfl) (by omega) (by omega) (by omega) rfl dX9_append_28 ?_
  refine z_aload_n E 0 rfl rfl dX9_append_29 ?_
  refine z_dup E rfl dX9_append_30 ?_
  refine z_get E f_X9_19 0 rfl rfl dX9_append_31 ?_
  refine z_iconst E dX9_append_34 ?_
  refine z_iadd E dX9_append_35 ?_
  refine z_put (ws' := [(h0, .inr (9, [.ref hc, .ref ht, .int (zi (n + 1)), .int (zi tc), .int (zi fp), .int (zi fr)])), (hc, ac κ 40 (zu c n x))]) E f_X9_19 t_X9_2 0 rfl rfl rfl (Nat.le_of_ble_eq_true rfl) rfl dX9_append_36 ?_
  exact fin _ _ _ (by first | exact rfl | omega) dX9_append_39
abbrev rm_X9_characterAt : Room := { frames := 0, cells := 0, slots := 0, locals := 0 }
set_option maxRecDepth 100000 in
theorem c_X9_characterAt (l : Launch) (D : va_G) (κ : Nat → ClassId) (h0 : Nat) (hc : Nat) (ht : Nat) (n : Int) (tc : Int) (fp : Int) (fr : Int) (c : Int → Int) (i : Int) (hn : 0 ≤ n ∧ n ≤ 40) (hC : ∀ i : Int, 0 ≤ i → i < n → 32 ≤ c i ∧ c i ≤ 126) (hi : -2147483648 ≤ i ∧ i ≤ 2147483647) : ZI l yX9_characterAt cX9_characterAt 2 .char rm_X9_characterAt D κ [.ref h0, .int (zi i)] [(h0, .inr (9, [.ref hc, .ref ht, .int (zi n), .int (zi tc), .int (zi fp), .int (zi fr)])), (hc, ac κ 40 c)] (fun z w => (chA c n i) = z ∧ [(h0, .inr (9, [.ref hc, .ref ht, .int (zi n), .int (zi tc), .int (zi fp), .int (zi fr)])), (hc, ac κ 40 c)] = w) := by
  refine ZI.enter (own := RX9) rfl pn_X9_characterAt (Nat.le_of_ble_eq_true rfl) (fun X E fin => ?_)
  show Zg X [(h0, .inr (9, [.ref hc, .ref ht, .int (zi n), .int (zi tc), .int (zi fp), .int (zi fr)])), (hc, ac κ 40 c)] 0 0 0 [(0, .ref h0), (1, .int (zi i))] []
  refine z_iload_n E 1 rfl rfl dX9_characterAt_0 ?_
  refine z_if_lt (tgt := 30) E (by omega) dX9_characterAt_1 (by decide) (fun h_1 => ?_) (fun h_1 => ?_)
  · refine z_iconst E dX9_characterAt_30 ?_
    exact fin _ _ _ _ (nar_char (by omega)) (⟨chA_out (by omega), rfl⟩) dX9_characterAt_31
  · refine z_iload_n E 1 rfl rfl dX9_characterAt_4 ?_
    refine z_aload_n E 0 rfl rfl dX9_characterAt_5 ?_
    refine z_get E f_X9_19 0 rfl rfl dX9_characterAt_6 ?_
    refine z_ic_ge (tgt := 30) E (by omega) (by omega) dX9_characterAt_9 (by decide) (fun h_9 => ?_) (fun h_9 => ?_)
    · refine z_iconst E dX9_characterAt_30 ?_
      exact fin _ _ _ _ (nar_char (by omega)) (⟨chA_out (by omega), rfl⟩) dX9_characterAt_31
    · refine z_iload_n E 1 rfl rfl dX9_characterAt_12 ?_
      refine z_aload_n E 0 rfl rfl dX9_characterAt_13 ?_
      refine z_get E f_X9_9 0 rfl rfl dX9_characterAt_14 ?_
      refine z_alen_ac E 1 rfl dX9_characterAt_17 ?_
      refine z_ic_ge (tgt := 30) E (by omega) (by omega) dX9_characterAt_18 (by decide) (fun h_18 => ?_) (fun h_18 => ?_)
      · refine z_iconst E dX9_characterAt_30 ?_
        exact fin _ _ _ _ (nar_char (by omega)) (⟨chA_out (by omega), rfl⟩) dX9_characterAt_31
      · have hk := hC i (by omega) (by omega)
        refine z_aload_n E 0 rfl rfl dX9_characterAt_21 ?_
        refine z_get E f_X9_9 0 rfl rfl dX9_characterAt_22 ?_
        refine z_iload_n E 1 rfl rfl dX9_characterAt_25 ?_
        refine z_cald E 1 rfl (Nat.le_of_ble_eq_true rfl) (by omega) (by omega) dX9_characterAt_26 ?_
        refine z_goto (tgt := 31) E dX9_characterAt_27 (by decide) ?_
        exact fin _ _ _ _ (nar_char (by omega)) (⟨chA_in (by omega), rfl⟩) dX9_characterAt_31
abbrev rm_X9_digitAt : Room := { frames := 1, cells := 0, slots := 0, locals := 21 }
set_option maxRecDepth 100000 in
theorem c_X9_digitAt (l : Launch) (D : va_G) (κ : Nat → ClassId) (h0 : Nat) (hc : Nat) (ht : Nat) (n : Int) (tc : Int) (fp : Int) (fr : Int) (c : Int → Int) (i : Int) (hn : 0 ≤ n ∧ n ≤ 40) (hC : ∀ i : Int, 0 ≤ i → i < n → 32 ≤ c i ∧ c i ≤ 126) (hi : -2147483648 ≤ i ∧ i ≤ 2147483647) : ZI l yX9_digitAt cX9_digitAt 3 .int rm_X9_digitAt D κ [.ref h0, .int (zi i)] [(h0, .inr (9, [.ref hc, .ref ht, .int (zi n), .int (zi tc), .int (zi fp), .int (zi fr)])), (hc, ac κ 40 c)] (fun z w => (dg c n i) = z ∧ [(h0, .inr (9, [.ref hc, .ref ht, .int (zi n), .int (zi tc), .int (zi fp), .int (zi fr)])), (hc, ac κ 40 c)] = w) := by
  refine ZI.enter (own := RX9) rfl pn_X9_digitAt (Nat.le_of_ble_eq_true rfl) (fun X E fin => ?_)
  show Zg X [(h0, .inr (9, [.ref hc, .ref ht, .int (zi n), .int (zi tc), .int (zi fp), .int (zi fr)])), (hc, ac κ 40 c)] 0 0 0 [(0, .ref h0), (1, .int (zi i))] []
  refine z_aload_n E 0 rfl rfl dX9_digitAt_0 ?_
  refine z_iload_n E 1 rfl rfl dX9_digitAt_1 ?_
  refine z_callVi (As := [.int (zi i)]) (rest := []) (wr := []) E (c_X9_characterAt l D κ h0 hc ht n tc fp fr c i (by omega) (by omega) (by omega)) m_X9_23 ⟨Nat.le_of_ble_eq_true rfl, Nat.le_of_ble_eq_true rfl⟩ ⟨rfl, rfl⟩ [0, 1] [] rfl rfl rfl rfl (by decide) rfl rfl rfl rfl (Nat.le_of_ble_eq_true rfl) dX9_digitAt_2 ⟨Nat.le_of_ble_eq_true rfl, Nat.le_of_ble_eq_true rfl⟩ (fun z2 w1 hq => ?_)
  obtain ⟨rfl, rfl⟩ := hq
  refine z_istore_n (lv' := [(2, .int (zi (chA c n i))), (0, .ref h0), (1, .int (zi i))]) E dX9_digitAt_5 rfl (Nat.le_of_ble_eq_true rfl) rfl ?_
  have hk := chA_bd hC i
  refine z_iload_n E 0 rfl rfl dX9_digitAt_6 ?_
  refine z_bipush E dX9_digitAt_7 (by decide) ?_
  refine z_ic_lt (tgt := 25) E (by omega) (by omega) dX9_digitAt_9 (by decide) (fun h_9 => ?_) (fun h_9 => ?_)
  · refine z_iconst E dX9_digitAt_25 ?_
    exact fin _ _ _ _ rfl (⟨dg_f (by omega), rfl⟩) dX9_digitAt_26
  · refine z_iload_n E 0 rfl rfl dX9_digitAt_12 ?_
    refine z_bipush E dX9_digitAt_13 (by decide) ?_
    refine z_ic_gt (tgt := 25) E (by omega) (by omega) dX9_digitAt_15 (by decide) (fun h_15 => ?_) (fun h_15 => ?_)
    · refine z_iconst E dX9_digitAt_25 ?_
      exact fin _ _ _ _ rfl (⟨dg_f (by omega), rfl⟩) dX9_digitAt_26
    · refine z_iload_n E 0 rfl rfl dX9_digitAt_18 ?_
      refine z_bipush E dX9_digitAt_19 (by decide) ?_
      refine z_isub E dX9_digitAt_21 ?_
      refine z_goto (tgt := 26) E dX9_digitAt_22 (by decide) ?_
      exact fin _ _ _ _ rfl (⟨dg_t (by omega), rfl⟩) dX9_digitAt_26
abbrev rm_X9_hasFault : Room := { frames := 0, cells := 0, slots := 0, locals := 0 }
set_option maxRecDepth 100000 in
theorem c_X9_hasFault (l : Launch) (D : va_G) (κ : Nat → ClassId) (h0 : Nat) (hc : Nat) (ht : Nat) (n : Int) (tc : Int) (fp : Int) (fr : Int) (hfr : 0 ≤ fr ∧ fr ≤ 2) : ZI l yX9_hasFault cX9_hasFault 1 .boolean rm_X9_hasFault D κ [.ref h0] [(h0, .inr (9, [.ref hc, .ref ht, .int (zi n), .int (zi tc), .int (zi fp), .int (zi fr)]))] (fun z w => ((1 = z ∧ (fr ≠ 0)) ∨ (0 = z ∧ ¬ (fr ≠ 0))) ∧ [(h0, .inr (9, [.ref hc, .ref ht, .int (zi n), .int (zi tc), .int (zi fp), .int (zi fr)]))] = w) := by
  refine ZI.enter (own := RX9) rfl pn_X9_hasFault (Nat.le_of_ble_eq_true rfl) (fun X E fin => ?_)
  show Zg X [(h0, .inr (9, [.ref hc, .ref ht, .int (zi n), .int (zi tc), .int (zi fp), .int (zi fr)]))] 0 0 0 [(0, .ref h0)] []
  refine z_aload_n E 0 rfl rfl dX9_hasFault_0 ?_
  refine z_get E f_X9_27 0 rfl rfl dX9_hasFault_1 ?_
  refine z_if_eq (tgt := 11) E (by omega) dX9_hasFault_4 (by decide) (fun h_4 => ?_) (fun h_4 => ?_)
  · refine z_iconst E dX9_hasFault_11 ?_
    exact fin _ _ _ _ rfl (by first | exact ⟨Or.inr ⟨rfl, by omega⟩, rfl⟩ | omega) dX9_hasFault_12
  · refine z_iconst E dX9_hasFault_7 ?_
    refine z_goto (tgt := 12) E dX9_hasFault_8 (by decide) ?_
    exact fin _ _ _ _ rfl (by first | exact ⟨Or.inl ⟨rfl, by omega⟩, rfl⟩ | omega) dX9_hasFault_12
abbrev rm_X9_termAt : Room := { frames := 0, cells := 0, slots := 0, locals := 0 }
set_option maxRecDepth 100000 in
theorem c_X9_termAt (l : Launch) (D : va_G) (κ : Nat → ClassId) (h0 : Nat) (hc : Nat) (ht : Nat) (n : Int) (tc : Int) (fp : Int) (fr : Int) (f : Int → Int) (i : Int) (hi : 0 ≤ i ∧ i < 40) : ZI l yX9_termAt cX9_termAt 2 .int rm_X9_termAt D κ [.ref h0, .int (zi i)] [(h0, .inr (9, [.ref hc, .ref ht, .int (zi n), .int (zi tc), .int (zi fp), .int (zi fr)])), (ht, ai κ 40 f)] (fun z w => (f i) = z ∧ [(h0, .inr (9, [.ref hc, .ref ht, .int (zi n), .int (zi tc), .int (zi fp), .int (zi fr)])), (ht, ai κ 40 f)] = w) := by
  refine ZI.enter (own := RX9) rfl pn_X9_termAt (Nat.le_of_ble_eq_true rfl) (fun X E fin => ?_)
  show Zg X [(h0, .inr (9, [.ref hc, .ref ht, .int (zi n), .int (zi tc), .int (zi fp), .int (zi fr)])), (ht, ai κ 40 f)] 0 0 0 [(0, .ref h0), (1, .int (zi i))] []
  refine z_iload_n E 1 rfl rfl dX9_termAt_0 ?_
  refine z_if_lt (tgt := 22) E (by omega) dX9_termAt_1 (by decide) (fun h_1 => ?_) (fun h_1 => ?_)
  · refine z_iconst E dX9_termAt_22 ?_
    exact fin _ _ _ _ rfl (by first | exact ⟨rfl, rfl⟩ | omega) dX9_termAt_23
  · refine z_iload_n E 1 rfl rfl dX9_termAt_4 ?_
    refine z_aload_n E 0 rfl rfl dX9_termAt_5 ?_
    refine z_get E f_X9_15 0 rfl rfl dX9_termAt_6 ?_
    refine z_alen_ai E 1 rfl dX9_termAt_9 ?_
    refine z_ic_ge (tgt := 22) E (by omega) (by omega) dX9_termAt_10 (by decide) (fun h_10 => ?_) (fun h_10 => ?_)
    · refine z_iconst E dX9_termAt_22 ?_
      exact fin _ _ _ _ rfl (by first | exact ⟨rfl, rfl⟩ | omega) dX9_termAt_23
    · refine z_aload_n E 0 rfl rfl dX9_termAt_13 ?_
      refine z_get E f_X9_15 0 rfl rfl dX9_termAt_14 ?_
      refine z_iload_n E 1 rfl rfl dX9_termAt_17 ?_
      refine z_iald E 1 rfl (Nat.le_of_ble_eq_true rfl) (by omega) (by omega) dX9_termAt_18 ?_
      refine z_goto (tgt := 23) E dX9_termAt_19 (by decide) ?_
      exact fin _ _ _ _ rfl (by first | exact ⟨rfl, rfl⟩ | omega) dX9_termAt_23
abbrev rm_X9_setFault : Room := { frames := 0, cells := 0, slots := 0, locals := 0 }
set_option maxRecDepth 100000 in
theorem c_X9_setFault (l : Launch) (D : va_G) (κ : Nat → ClassId) (h0 : Nat) (hc : Nat) (ht : Nat) (n : Int) (tc : Int) (fp : Int) (fr : Int) (a : Int) (b : Int)  : ZV l yX9_setFault cX9_setFault 3 rm_X9_setFault D κ [.ref h0, .int (zi a), .int (zi b)] [(h0, .inr (9, [.ref hc, .ref ht, .int (zi n), .int (zi tc), .int (zi fp), .int (zi fr)]))] (fun w => [(h0, .inr (9, [.ref hc, .ref ht, .int (zi n), .int (zi tc), .int (zi a), .int (zi b)]))] = w) := by
  refine ZV.enter (own := RX9) rfl pn_X9_setFault (Nat.le_of_ble_eq_true rfl) (fun X E fin => ?_)
  show Zg X [(h0, .inr (9, [.ref hc, .ref ht, .int (zi n), .int (zi tc), .int (zi fp), .int (zi fr)]))] 0 0 0 [(0, .ref h0), (1, .int (zi a)), (2, .int (zi b))] []
  refine z_aload_n E 0 rfl rfl dX9_setFault_0 ?_
  refine z_iload_n E 1 rfl rfl dX9_setFault_1 ?_
  refine z_put (ws' := [(h0, .inr (9, [.ref hc, .ref ht, .int (zi n), .int (zi tc), .int (zi a), .int (zi fr)]))]) E f_X9_33 t_X9_4 0 rfl rfl rfl (Nat.le_of_ble_eq_true rfl) rfl dX9_setFault_2 ?_
  refine z_aload_n E 0 rfl rfl dX9_setFault_5 ?_
  refine z_iload_n E 2 rfl rfl dX9_setFault_6 ?_
  refine z_put (ws' := [(h0, .inr (9, [.ref hc, .ref ht, .int (zi n), .int (zi tc), .int (zi a), .int (zi b)]))]) E f_X9_27 t_X9_5 0 rfl rfl rfl (Nat.le_of_ble_eq_true rfl) rfl dX9_setFault_7 ?_
  exact fin _ _ _ (by first | exact rfl | omega) dX9_setFault_10
abbrev rm_X9_addTerm : Room := { frames := 0, cells := 0, slots := 0, locals := 0 }
set_option maxRecDepth 100000 in
theorem c_X9_addTerm (l : Launch) (D : va_G) (κ : Nat → ClassId) (h0 : Nat) (hc : Nat) (ht : Nat) (n : Int) (tc : Int) (fp : Int) (fr : Int) (f : Int → Int) (x : Int) (htc : 0 ≤ tc ∧ tc < 40) : ZV l yX9_addTerm cX9_addTerm 2 rm_X9_addTerm D κ [.ref h0, .int (zi x)] [(h0, .inr (9, [.ref hc, .ref ht, .int (zi n), .int (zi tc), .int (zi fp), .int (zi fr)])), (ht, ai κ 40 f)] (fun w => [(h0, .inr (9, [.ref hc, .ref ht, .int (zi n), .int (zi (tc + 1)), .int (zi fp), .int (zi fr)])), (ht, ai κ 40 (zu f tc x))] = w) := by
  refine ZV.enter (own := RX9) rfl pn_X9_addTerm (Nat.le_of_ble_eq_true rfl) (fun X E fin => ?_)
  show Zg X [(h0, .inr (9, [.ref hc, .ref ht, .int (zi n), .int (zi tc), .int (zi fp), .int (zi fr)])), (ht, ai κ 40 f)] 0 0 0 [(0, .ref h0), (1, .int (zi x))] []
  refine z_aload_n E 0 rfl rfl dX9_addTerm_0 ?_
  refine z_get E f_X9_30 0 rfl rfl dX9_addTerm_1 ?_
  refine z_if_lt (tgt := 39) E (by omega) dX9_addTerm_4 (by decide) (fun h_4 => absurd h_4 (by omega)) (fun h_4 => ?_)
  refine z_aload_n E 0 rfl rfl dX9_addTerm_7 ?_
  refine z_get E f_X9_30 0 rfl rfl dX9_addTerm_8 ?_
  refine z_aload_n E 0 rfl rfl dX9_addTerm_11 ?_
  refine z_get E f_X9_15 0 rfl rfl dX9_addTerm_12 ?_
  refine z_alen_ai E 1 rfl dX9_addTerm_15 ?_
  refine z_ic_ge (tgt := 39) E (by omega) (by omega) dX9_addTerm_16 (by decide) (fun h_16 => absurd h_16 (by omega)) (fun h_16 => ?_)
  refine z_aload_n E 0 rfl rfl dX9_addTerm_19 ?_
  refine z_get E f_X9_15 0 rfl rfl dX9_addTerm_20 ?_
  refine z_aload_n E 0 rfl rfl dX9_addTerm_23 ?_
  refine z_get E f_X9_30 0 rfl rfl dX9_addTerm_24 ?_
  refine z_iload_n E 1 rfl rfl dX9_addTerm_27 ?_
  refine z_iast (ws' := [(h0, .inr (9, [.ref hc, .ref ht, .int (zi n), .int (zi tc), .int (zi fp), .int (zi fr)])), (ht, ai κ 40 (zu f tc x))]) E 1 rfl (Nat.le_of_ble_eq_true rfl) (by omega) (by omega) rfl dX9_addTerm_28 ?_
  refine z_aload_n E 0 rfl rfl dX9_addTerm_29 ?_
  refine z_dup E rfl dX9_addTerm_30 ?_
  refine z_get E f_X9_30 0 rfl rfl dX9_addTerm_31 ?_
  refine z_iconst E dX9_addTerm_34 ?_
  refine z_iadd E dX9_addTerm_35 ?_
  refine z_put (ws' := [(h0, .inr (9, [.ref hc, .ref ht, .int (zi n), .int (zi (tc + 1)), .int (zi fp), .int (zi fr)])), (ht, ai κ 40 (zu f tc x))]) E f_X9_30 t_X9_3 0 rfl rfl rfl (Nat.le_of_ble_eq_true rfl) rfl dX9_addTerm_36 ?_
  exact fin _ _ _ (by first | exact rfl | omega) dX9_addTerm_39
abbrev rm_X9_readNumber : Room := { frames := 2, cells := 0, slots := 0, locals := 43 }
set_option maxRecDepth 100000 in
theorem c_X9_readNumber (l : Launch) (D : va_G) (κ : Nat → ClassId) (h0 : Nat) (hc : Nat) (ht : Nat) (n : Int) (tc : Int) (fp : Int) (fr : Int) (c : Int → Int) (f : Int → Int) (s : Int) (ng : Int) (hn : 0 ≤ n ∧ n ≤ 40) (hC : ∀ i : Int, 0 ≤ i → i < n → 32 ≤ c i ∧ c i ≤ 126) (htc : 0 ≤ tc ∧ tc < 40) (hs : 0 ≤ s ∧ s ≤ 100) (hng : ng = 0 ∨ ng = 1) : ZI l yX9_readNumber cX9_readNumber 5 .int rm_X9_readNumber D κ [.ref h0, .int (zi s), .int (zi ng)] [(h0, .inr (9, [.ref hc, .ref ht, .int (zi n), .int (zi tc), .int (zi fp), .int (zi fr)])), (hc, ac κ 40 c), (ht, ai κ 40 f)] (fun z w => ∃ f' : Int → Int, ∃ tc' : Int, ∃ fp' : Int, ∃ fr' : Int, ∃ r : Int, (rdN c n s ng tc fp fr f tc' fp' fr' r f') ∧ r = z ∧ [(h0, .inr (9, [.ref hc, .ref ht, .int (zi n), .int (zi tc'), .int (zi fp'), .int (zi fr')])), (hc, ac κ 40 c), (ht, ai κ 40 f')] = w) := by
  refine ZI.enter (own := RX9) rfl pn_X9_readNumber (Nat.le_of_ble_eq_true rfl) (fun X E fin => ?_)
  show Zg X [(h0, .inr (9, [.ref hc, .ref ht, .int (zi n), .int (zi tc), .int (zi fp), .int (zi fr)])), (hc, ac κ 40 c), (ht, ai κ 40 f)] 0 0 0 [(0, .ref h0), (1, .int (zi s)), (2, .int (zi ng))] []
  refine z_aload_n E 0 rfl rfl dX9_readNumber_0 ?_
  refine z_iload_n E 1 rfl rfl dX9_readNumber_1 ?_
  refine z_callVi (As := [.int (zi s)]) (rest := []) (wr := [(ht, ai κ 40 f)]) E (c_X9_digitAt l D κ h0 hc ht n tc fp fr c s (by omega) (by omega) (by omega)) m_X9_44 ⟨Nat.le_of_ble_eq_true rfl, Nat.le_of_ble_eq_true rfl⟩ ⟨rfl, rfl⟩ [0, 1] [2] rfl rfl rfl rfl (by decide) rfl rfl rfl rfl (Nat.le_of_ble_eq_true rfl) dX9_readNumber_2 ⟨Nat.le_of_ble_eq_true rfl, Nat.le_of_ble_eq_true rfl⟩ (fun z2 w1 hq => ?_)
  obtain ⟨rfl, rfl⟩ := hq
  refine z_istore_n (lv' := [(3, .int (zi (dg c n s))), (0, .ref h0), (1, .int (zi s)), (2, .int (zi ng))]) E dX9_readNumber_5 rfl (Nat.le_of_ble_eq_true rfl) rfl ?_
  have b0 := dg_bd c n s
  have b1 := dg_bd c n (s + 1)
  have b2 := dg_bd c n (s + 1 + 1)
  have e12 : s + 2 = s + 1 + 1 := by omega
  refine z_iload_n E 2 rfl rfl dX9_readNumber_6 ?_
  refine z_iconst E dX9_readNumber_7 ?_
  refine z_iadd E dX9_readNumber_8 ?_
  refine z_istore (lv' := [(4, .int (zi (s + 1))), (3, .int (zi (dg c n s))), (0, .ref h0), (1, .int (zi s)), (2, .int (zi ng))]) E dX9_readNumber_9 (Nat.le_of_ble_eq_true rfl) rfl ?_
  refine z_iload_n E 1 rfl rfl dX9_readNumber_11 ?_
  refine z_if_ge (tgt := 24) E (by omega) dX9_readNumber_12 (by decide) (fun h_12 => ?_) (fun h_12 => ?_)
  · refine z_iload_n E 1 rfl rfl dX9_readNumber_24 ?_
    refine z_if_ne (tgt := 44) E (by omega) dX9_readNumber_25 (by decide) (fun h_25 => ?_) (fun h_25 => ?_)
    · refine z_iload_n E 1 rfl rfl dX9_readNumber_44 ?_
      refine z_if_le (tgt := 83) E (by omega) dX9_readNumber_45 (by decide) (fun h_45 => absurd h_45 (by omega)) (fun h_45 => ?_)
      refine z_iload E 0 rfl dX9_readNumber_48 ?_
      refine z_iload_n E 3 rfl rfl dX9_readNumber_50 ?_
      refine z_iconst E dX9_readNumber_51 ?_
      refine z_iadd E dX9_readNumber_52 ?_
      refine z_ic_ge (tgt := 83) E (by omega) (by omega) dX9_readNumber_53 (by decide) (fun h_53 => absurd h_53 (by omega)) (fun h_53 => ?_)
      refine z_aload_n E 2 rfl rfl dX9_readNumber_56 ?_
      refine z_iload E 0 rfl dX9_readNumber_57 ?_
      refine z_callVi (As := [.int (zi (s + 1))]) (rest := []) (wr := [(ht, ai κ 40 f)]) E (c_X9_digitAt l D κ h0 hc ht n tc fp fr c (s + 1) (by omega) (by omega) (by omega)) m_X9_44 ⟨Nat.le_of_ble_eq_true rfl, Nat.le_of_ble_eq_true rfl⟩ ⟨rfl, rfl⟩ [1, 2] [0] rfl rfl rfl rfl (by decide) rfl rfl rfl rfl (Nat.le_of_ble_eq_true rfl) dX9_readNumber_59 ⟨Nat.le_of_ble_eq_true rfl, Nat.le_of_ble_eq_true rfl⟩ (fun z59 w1 hq => ?_)
      obtain ⟨rfl, rfl⟩ := hq
      refine z_if_lt (tgt := 83) E (by omega) dX9_readNumber_62 (by decide) (fun h_62 => ?_) (fun h_62 => ?_)
      · refine z_aload_n E 2 rfl rfl dX9_readNumber_83 ?_
        refine z_iload_n E 4 rfl rfl dX9_readNumber_84 ?_
        refine z_if_eq (tgt := 93) E (by omega) dX9_readNumber_85 (by decide) (fun h_85 => ?_) (fun h_85 => ?_)
        · refine z_iload_n E 1 rfl rfl dX9_readNumber_93 ?_
          refine z_callVv (As := [.int (zi (dg c n s))]) (rest := []) (wr := [(hc, ac κ 40 c)]) E (c_X9_addTerm l D κ h0 hc ht n tc fp fr f (dg c n s) (by omega)) m_X9_48 ⟨Nat.le_of_ble_eq_true rfl, Nat.le_of_ble_eq_true rfl⟩ ⟨rfl, rfl⟩ [1, 0] [2] rfl rfl rfl rfl (by decide) rfl rfl rfl rfl (Nat.le_of_ble_eq_true rfl) dX9_readNumber_94 ⟨Nat.le_of_ble_eq_true rfl, Nat.le_of_ble_eq_true rfl⟩ (fun  w1 hq => ?_)
          obtain rfl := hq
          refine z_iload E 0 rfl dX9_readNumber_97 ?_
          refine Zg.perm (ws' := [(h0, .inr (9, [.ref hc, .ref ht, .int (zi n), .int (zi (tc + 1)), .int (zi fp), .int (zi fr)])), (hc, ac κ 40 c), (ht, ai κ 40 (zu f tc (dg c n s)))]) [1, 0, 2] rfl rfl ?_
          exact fin _ _ _ _ rfl (⟨_, _, _, _, _, Or.inr (Or.inr ⟨by omega, by omega, rfl, rfl, rfl, by unfold nVal; rw [if_pos (by omega : ng = 0), if_neg (by omega : ¬ dg c n s = 0), if_pos (by omega : dg c n (s + 1) < 0)], by unfold nEnd; rw [if_neg (by omega : ¬ dg c n s = 0), if_pos (by omega : dg c n (s + 1) < 0)]⟩), rfl, rfl⟩) dX9_readNumber_99
        · refine z_iload_n E 1 rfl rfl dX9_readNumber_88 ?_
          refine z_ineg E dX9_readNumber_89 ?_
          refine z_goto (tgt := 94) E dX9_readNumber_90 (by decide) ?_
          refine z_callVv (As := [.int (zi (-(dg c n s)))]) (rest := []) (wr := [(hc, ac κ 40 c)]) E (c_X9_addTerm l D κ h0 hc ht n tc fp fr f (-(dg c n s)) (by omega)) m_X9_48 ⟨Nat.le_of_ble_eq_true rfl, Nat.le_of_ble_eq_true rfl⟩ ⟨rfl, rfl⟩ [1, 0] [2] rfl rfl rfl rfl (by decide) rfl rfl rfl rfl (Nat.le_of_ble_eq_true rfl) dX9_readNumber_94 ⟨Nat.le_of_ble_eq_true rfl, Nat.le_of_ble_eq_true rfl⟩ (fun  w1 hq => ?_)
          obtain rfl := hq
          refine z_iload E 0 rfl dX9_readNumber_97 ?_
          refine Zg.perm (ws' := [(h0, .inr (9, [.ref hc, .ref ht, .int (zi n), .int (zi (tc + 1)), .int (zi fp), .int (zi fr)])), (hc, ac κ 40 c), (ht, ai κ 40 (zu f tc (-(dg c n s))))]) [1, 0, 2] rfl rfl ?_
          exact fin _ _ _ _ rfl (⟨_, _, _, _, _, Or.inr (Or.inr ⟨by omega, by omega, rfl, rfl, rfl, by unfold nVal; rw [if_neg (by omega : ¬ ng = 0), if_neg (by omega : ¬ dg c n s = 0), if_pos (by omega : dg c n (s + 1) < 0)], by unfold nEnd; rw [if_neg (by omega : ¬ dg c n s = 0), if_pos (by omega : dg c n (s + 1) < 0)]⟩), rfl, rfl⟩) dX9_readNumber_99
      · refine z_bipush E dX9_readNumber_65 (by decide) ?_
        refine z_iload_n E 1 rfl rfl dX9_readNumber_67 ?_
        refine z_imul E dX9_readNumber_68 ?_
        refine z_aload_n E 2 rfl rfl dX9_readNumber_69 ?_
        refine z_iload E 0 rfl dX9_readNumber_70 ?_
        refine z_callVi (As := [.int (zi (s + 1))]) (rest := [.int (zi (10 * (dg c n s)))]) (wr := [(ht, ai κ 40 f)]) E (c_X9_digitAt l D κ h0 hc ht n tc fp fr c (s + 1) (by omega) (by omega) (by omega)) m_X9_44 ⟨Nat.le_of_ble_eq_true rfl, Nat.le_of_ble_eq_true rfl⟩ ⟨rfl, rfl⟩ [1, 2] [0] rfl rfl rfl rfl (by decide) rfl rfl rfl rfl (Nat.le_of_ble_eq_true rfl) dX9_readNumber_72 ⟨Nat.le_of_ble_eq_true rfl, Nat.le_of_ble_eq_true rfl⟩ (fun z72 w1 hq => ?_)
        obtain ⟨rfl, rfl⟩ := hq
        refine z_iadd E dX9_readNumber_75 ?_
        refine z_istore_n (lv' := [(3, .int (zi ((10 * (dg c n s)) + (dg c n (s + 1))))), (4, .int (zi (s + 1))), (0, .ref h0), (1, .int (zi s)), (2, .int (zi ng))]) E dX9_readNumber_76 rfl (Nat.le_of_ble_eq_true rfl) rfl ?_
        refine z_iinc (lv' := [(4, .int (zi ((s + 1) + 1))), (3, .int (zi ((10 * (dg c n s)) + (dg c n (s + 1))))), (0, .ref h0), (1, .int (zi s)), (2, .int (zi ng))]) E 1 rfl dX9_readNumber_77 (Nat.le_of_ble_eq_true rfl) rfl ?_
        refine z_goto (tgt := 44) E dX9_readNumber_80 (by decide) ?_
        refine z_iload_n E 1 rfl rfl dX9_readNumber_44 ?_
        refine z_if_le (tgt := 83) E (by omega) dX9_readNumber_45 (by decide) (fun h_45 => absurd h_45 (by omega)) (fun h_45 => ?_)
        refine z_iload E 0 rfl dX9_readNumber_48 ?_
        refine z_iload_n E 3 rfl rfl dX9_readNumber_50 ?_
        refine z_iconst E dX9_readNumber_51 ?_
        refine z_iadd E dX9_readNumber_52 ?_
        refine z_ic_ge (tgt := 83) E (by omega) (by omega) dX9_readNumber_53 (by decide) (fun h_53 => absurd h_53 (by omega)) (fun h_53 => ?_)
        refine z_aload_n E 2 rfl rfl dX9_readNumber_56 ?_
        refine z_iload E 0 rfl dX9_readNumber_57 ?_
        refine z_callVi (As := [.int (zi ((s + 1) + 1))]) (rest := []) (wr := [(ht, ai κ 40 f)]) E (c_X9_digitAt l D κ h0 hc ht n tc fp fr c ((s + 1) + 1) (by omega) (by omega) (by omega)) m_X9_44 ⟨Nat.le_of_ble_eq_true rfl, Nat.le_of_ble_eq_true rfl⟩ ⟨rfl, rfl⟩ [1, 2] [0] rfl rfl rfl rfl (by decide) rfl rfl rfl rfl (Nat.le_of_ble_eq_true rfl) dX9_readNumber_59 ⟨Nat.le_of_ble_eq_true rfl, Nat.le_of_ble_eq_true rfl⟩ (fun z59 w1 hq => ?_)
        obtain ⟨rfl, rfl⟩ := hq
        refine z_if_lt (tgt := 83) E (by omega) dX9_readNumber_62 (by decide) (fun h_62 => ?_) (fun h_62 => ?_)
        · refine z_aload_n E 2 rfl rfl dX9_readNumber_83 ?_
          refine z_iload_n E 4 rfl rfl dX9_readNumber_84 ?_
          refine z_if_eq (tgt := 93) E (by omega) dX9_readNumber_85 (by decide) (fun h_85 => ?_) (fun h_85 => ?_)
          · refine z_iload_n E 1 rfl rfl dX9_readNumber_93 ?_
            refine z_callVv (As := [.int (zi ((10 * (dg c n s)) + (dg c n (s + 1))))]) (rest := []) (wr := [(hc, ac κ 40 c)]) E (c_X9_addTerm l D κ h0 hc ht n tc fp fr f ((10 * (dg c n s)) + (dg c n (s + 1))) (by omega)) m_X9_48 ⟨Nat.le_of_ble_eq_true rfl, Nat.le_of_ble_eq_true rfl⟩ ⟨rfl, rfl⟩ [1, 0] [2] rfl rfl rfl rfl (by decide) rfl rfl rfl rfl (Nat.le_of_ble_eq_true rfl) dX9_readNumber_94 ⟨Nat.le_of_ble_eq_true rfl, Nat.le_of_ble_eq_true rfl⟩ (fun  w1 hq => ?_)
            obtain rfl := hq
            refine z_iload E 0 rfl dX9_readNumber_97 ?_
            refine Zg.perm (ws' := [(h0, .inr (9, [.ref hc, .ref ht, .int (zi n), .int (zi (tc + 1)), .int (zi fp), .int (zi fr)])), (hc, ac κ 40 c), (ht, ai κ 40 (zu f tc ((10 * (dg c n s)) + (dg c n (s + 1)))))]) [1, 0, 2] rfl rfl ?_
            exact fin _ _ _ _ rfl (⟨_, _, _, _, _, Or.inr (Or.inr ⟨by omega, by omega, rfl, rfl, rfl, by unfold nVal; rw [if_pos (by omega : ng = 0), if_neg (by omega : ¬ dg c n s = 0), if_neg (by omega : ¬ dg c n (s + 1) < 0), if_pos (by rw [e12]; omega : dg c n (s + 2) < 0)], by unfold nEnd; rw [if_neg (by omega : ¬ dg c n s = 0), if_neg (by omega : ¬ dg c n (s + 1) < 0), if_pos (by rw [e12]; omega : dg c n (s + 2) < 0)]; omega⟩), rfl, rfl⟩) dX9_readNumber_99
          · refine z_iload_n E 1 rfl rfl dX9_readNumber_88 ?_
            refine z_ineg E dX9_readNumber_89 ?_
            refine z_goto (tgt := 94) E dX9_readNumber_90 (by decide) ?_
            refine z_callVv (As := [.int (zi (-((10 * (dg c n s)) + (dg c n (s + 1)))))]) (rest := []) (wr := [(hc, ac κ 40 c)]) E (c_X9_addTerm l D κ h0 hc ht n tc fp fr f (-((10 * (dg c n s)) + (dg c n (s + 1)))) (by omega)) m_X9_48 ⟨Nat.le_of_ble_eq_true rfl, Nat.le_of_ble_eq_true rfl⟩ ⟨rfl, rfl⟩ [1, 0] [2] rfl rfl rfl rfl (by decide) rfl rfl rfl rfl (Nat.le_of_ble_eq_true rfl) dX9_readNumber_94 ⟨Nat.le_of_ble_eq_true rfl, Nat.le_of_ble_eq_true rfl⟩ (fun  w1 hq => ?_)
            obtain rfl := hq
            refine z_iload E 0 rfl dX9_readNumber_97 ?_
            refine Zg.perm (ws' := [(h0, .inr (9, [.ref hc, .ref ht, .int (zi n), .int (zi (tc + 1)), .int (zi fp), .int (zi fr)])), (hc, ac κ 40 c), (ht, ai κ 40 (zu f tc (-((10 * (dg c n s)) + (dg c n (s + 1))))))]) [1, 0, 2] rfl rfl ?_
            exact fin _ _ _ _ rfl (⟨_, _, _, _, _, Or.inr (Or.inr ⟨by omega, by omega, rfl, rfl, rfl, by unfold nVal; rw [if_neg (by omega : ¬ ng = 0), if_neg (by omega : ¬ dg c n s = 0), if_neg (by omega : ¬ dg c n (s + 1) < 0), if_pos (by rw [e12]; omega : dg c n (s + 2) < 0)], by unfold nEnd; rw [if_neg (by omega : ¬ dg c n s = 0), if_neg (by omega : ¬ dg c n (s + 1) < 0), if_pos (by rw [e12]; omega : dg c n (s + 2) < 0)]; omega⟩), rfl, rfl⟩) dX9_readNumber_99
        · refine z_bipush E dX9_readNumber_65 (by decide) ?_
          refine z_iload_n E 1 rfl rfl dX9_readNumber_67 ?_
          refine z_imul E dX9_readNumber_68 ?_
          refine z_aload_n E 2 rfl rfl dX9_readNumber_69 ?_
          refine z_iload E 0 rfl dX9_readNumber_70 ?_
          refine z_callVi (As := [.int (zi ((s + 1) + 1))]) (rest := [.int (zi (10 * ((10 * (dg c n s)) + (dg c n (s + 1)))))]) (wr := [(ht, ai κ 40 f)]) E (c_X9_digitAt l D κ h0 hc ht n tc fp fr c ((s + 1) + 1) (by omega) (by omega) (by omega)) m_X9_44 ⟨Nat.le_of_ble_eq_true rfl, Nat.le_of_ble_eq_true rfl⟩ ⟨rfl, rfl⟩ [1, 2] [0] rfl rfl rfl rfl (by decide) rfl rfl rfl rfl (Nat.le_of_ble_eq_true rfl) dX9_readNumber_72 ⟨Nat.le_of_ble_eq_true rfl, Nat.le_of_ble_eq_true rfl⟩ (fun z72 w1 hq => ?_)
          obtain ⟨rfl, rfl⟩ := hq
          refine z_iadd E dX9_readNumber_75 ?_
          refine z_istore_n (lv' := [(3, .int (zi ((10 * ((10 * (dg c n s)) + (dg c n (s + 1)))) + (dg c n ((s + 1) + 1))))), (4, .int (zi ((s + 1) + 1))), (0, .ref h0), (1, .int (zi s)), (2, .int (zi ng))]) E dX9_readNumber_76 rfl (Nat.le_of_ble_eq_true rfl) rfl ?_
          refine z_iinc (lv' := [(4, .int (zi (((s + 1) + 1) + 1))), (3, .int (zi ((10 * ((10 * (dg c n s)) + (dg c n (s + 1)))) + (dg c n ((s + 1) + 1))))), (0, .ref h0), (1, .int (zi s)), (2, .int (zi ng))]) E 1 rfl dX9_readNumber_77 (Nat.le_of_ble_eq_true rfl) rfl ?_
          refine z_goto (tgt := 44) E dX9_readNumber_80 (by decide) ?_
          refine z_iload_n E 1 rfl rfl dX9_readNumber_44 ?_
          refine z_if_le (tgt := 83) E (by omega) dX9_readNumber_45 (by decide) (fun h_45 => absurd h_45 (by omega)) (fun h_45 => ?_)
          refine z_iload E 0 rfl dX9_readNumber_48 ?_
          refine z_iload_n E 3 rfl rfl dX9_readNumber_50 ?_
          refine z_iconst E dX9_readNumber_51 ?_
          refine z_iadd E dX9_readNumber_52 ?_
          refine z_ic_ge (tgt := 83) E (by omega) (by omega) dX9_readNumber_53 (by decide) (fun h_53 => ?_) (fun h_53 => absurd h_53 (by omega))
          refine z_aload_n E 2 rfl rfl dX9_readNumber_83 ?_
          refine z_iload_n E 4 rfl rfl dX9_readNumber_84 ?_
          refine z_if_eq (tgt := 93) E (by omega) dX9_readNumber_85 (by decide) (fun h_85 => ?_) (fun h_85 => ?_)
          · refine z_iload_n E 1 rfl rfl dX9_readNumber_93 ?_
            refine z_callVv (As := [.int (zi ((10 * ((10 * (dg c n s)) + (dg c n (s + 1)))) + (dg c n ((s + 1) + 1))))]) (rest := []) (wr := [(hc, ac κ 40 c)]) E (c_X9_addTerm l D κ h0 hc ht n tc fp fr f ((10 * ((10 * (dg c n s)) + (dg c n (s + 1)))) + (dg c n ((s + 1) + 1))) (by omega)) m_X9_48 ⟨Nat.le_of_ble_eq_true rfl, Nat.le_of_ble_eq_true rfl⟩ ⟨rfl, rfl⟩ [1, 0] [2] rfl rfl rfl rfl (by decide) rfl rfl rfl rfl (Nat.le_of_ble_eq_true rfl) dX9_readNumber_94 ⟨Nat.le_of_ble_eq_true rfl, Nat.le_of_ble_eq_true rfl⟩ (fun  w1 hq => ?_)
            obtain rfl := hq
            refine z_iload E 0 rfl dX9_readNumber_97 ?_
            refine Zg.perm (ws' := [(h0, .inr (9, [.ref hc, .ref ht, .int (zi n), .int (zi (tc + 1)), .int (zi fp), .int (zi fr)])), (hc, ac κ 40 c), (ht, ai κ 40 (zu f tc ((10 * ((10 * (dg c n s)) + (dg c n (s + 1)))) + (dg c n ((s + 1) + 1)))))]) [1, 0, 2] rfl rfl ?_
            exact fin _ _ _ _ rfl (⟨_, _, _, _, _, Or.inr (Or.inr ⟨by omega, by omega, rfl, rfl, rfl, by unfold nVal; rw [if_pos (by omega : ng = 0), if_neg (by omega : ¬ dg c n s = 0), if_neg (by omega : ¬ dg c n (s + 1) < 0), if_neg (by rw [e12]; omega : ¬ dg c n (s + 2) < 0), e12], by unfold nEnd; rw [if_neg (by omega : ¬ dg c n s = 0), if_neg (by omega : ¬ dg c n (s + 1) < 0), if_neg (by rw [e12]; omega : ¬ dg c n (s + 2) < 0)]; omega⟩), rfl, rfl⟩) dX9_readNumber_99
          · refine z_iload_n E 1 rfl rfl dX9_readNumber_88 ?_
            refine z_ineg E dX9_readNumber_89 ?_
            refine z_goto (tgt := 94) E dX9_readNumber_90 (by decide) ?_
            refine z_callVv (As := [.int (zi (-((10 * ((10 * (dg c n s)) + (dg c n (s + 1)))) + (dg c n ((s + 1) + 1)))))]) (rest := []) (wr := [(hc, ac κ 40 c)]) E (c_X9_addTerm l D κ h0 hc ht n tc fp fr f (-((10 * ((10 * (dg c n s)) + (dg c n (s + 1)))) + (dg c n ((s + 1) + 1)))) (by omega)) m_X9_48 ⟨Nat.le_of_ble_eq_true rfl, Nat.le_of_ble_eq_true rfl⟩ ⟨rfl, rfl⟩ [1, 0] [2] rfl rfl rfl rfl (by decide) rfl rfl rfl rfl (Nat.le_of_ble_eq_true rfl) dX9_readNumber_94 ⟨Nat.le_of_ble_eq_true rfl, Nat.le_of_ble_eq_true rfl⟩ (fun  w1 hq => ?_)
            obtain rfl := hq
            refine z_iload E 0 rfl dX9_readNumber_97 ?_
            refine Zg.perm (ws' := [(h0, .inr (9, [.ref hc, .ref ht, .int (zi n), .int (zi (tc + 1)), .int (zi fp), .int (zi fr)])), (hc, ac κ 40 c), (ht, ai κ 40 (zu f tc (-((10 * ((10 * (dg c n s)) + (dg c n (s + 1)))) + (dg c n ((s + 1) + 1))))))]) [1, 0, 2] rfl rfl ?_
            exact fin _ _ _ _ rfl (⟨_, _, _, _, _, Or.inr (Or.inr ⟨by omega, by omega, rfl, rfl, rfl, by unfold nVal; rw [if_neg (by omega : ¬ ng = 0), if_neg (by omega : ¬ dg c n s = 0), if_neg (by omega : ¬ dg c n (s + 1) < 0), if_neg (by rw [e12]; omega : ¬ dg c n (s + 2) < 0), e12], by unfold nEnd; rw [if_neg (by omega : ¬ dg c n s = 0), if_neg (by omega : ¬ dg c n (s + 1) < 0), if_neg (by rw [e12]; omega : ¬ dg c n (s + 2) < 0)]; omega⟩), rfl, rfl⟩) dX9_readNumber_99
    · refine z_aload_n E 2 rfl rfl dX9_readNumber_28 ?_
      refine z_get E f_X9_30 1 rfl rfl dX9_readNumber_29 ?_
      refine z_if_le (tgt := 44) E (by omega) dX9_readNumber_32 (by decide) (fun h_32 => ?_) (fun h_32 => ?_)
      · refine z_iload_n E 1 rfl rfl dX9_readNumber_44 ?_
        refine z_if_le (tgt := 83) E (by omega) dX9_readNumber_45 (by decide) (fun h_45 => ?_) (fun h_45 => absurd h_45 (by omega))
        refine z_aload_n E 2 rfl rfl dX9_readNumber_83 ?_
        refine z_iload_n E 4 rfl rfl dX9_readNumber_84 ?_
        refine z_if_eq (tgt := 93) E (by omega) dX9_readNumber_85 (by decide) (fun h_85 => ?_) (fun h_85 => ?_)
        · refine z_iload_n E 1 rfl rfl dX9_readNumber_93 ?_
          refine z_callVv (As := [.int (zi (dg c n s))]) (rest := []) (wr := [(hc, ac κ 40 c)]) E (c_X9_addTerm l D κ h0 hc ht n tc fp fr f (dg c n s) (by omega)) m_X9_48 ⟨Nat.le_of_ble_eq_true rfl, Nat.le_of_ble_eq_true rfl⟩ ⟨rfl, rfl⟩ [1, 0] [2] rfl rfl rfl rfl (by decide) rfl rfl rfl rfl (Nat.le_of_ble_eq_true rfl) dX9_readNumber_94 ⟨Nat.le_of_ble_eq_true rfl, Nat.le_of_ble_eq_true rfl⟩ (fun  w1 hq => ?_)
          obtain rfl := hq
          refine z_iload E 0 rfl dX9_readNumber_97 ?_
          refine Zg.perm (ws' := [(h0, .inr (9, [.ref hc, .ref ht, .int (zi n), .int (zi (tc + 1)), .int (zi fp), .int (zi fr)])), (hc, ac κ 40 c), (ht, ai κ 40 (zu f tc (dg c n s)))]) [1, 0, 2] rfl rfl ?_
          exact fin _ _ _ _ rfl (⟨_, _, _, _, _, Or.inr (Or.inr ⟨by omega, by omega, rfl, rfl, rfl, by unfold nVal; rw [if_pos (by omega : ng = 0), if_pos (by omega : dg c n s = 0), (by omega : dg c n s = 0)], by unfold nEnd; rw [if_pos (by omega : dg c n s = 0)]⟩), rfl, rfl⟩) dX9_readNumber_99
        · refine z_iload_n E 1 rfl rfl dX9_readNumber_88 ?_
          refine z_ineg E dX9_readNumber_89 ?_
          refine z_goto (tgt := 94) E dX9_readNumber_90 (by decide) ?_
          refine z_callVv (As := [.int (zi (-(dg c n s)))]) (rest := []) (wr := [(hc, ac κ 40 c)]) E (c_X9_addTerm l D κ h0 hc ht n tc fp fr f (-(dg c n s)) (by omega)) m_X9_48 ⟨Nat.le_of_ble_eq_true rfl, Nat.le_of_ble_eq_true rfl⟩ ⟨rfl, rfl⟩ [1, 0] [2] rfl rfl rfl rfl (by decide) rfl rfl rfl rfl (Nat.le_of_ble_eq_true rfl) dX9_readNumber_94 ⟨Nat.le_of_ble_eq_true rfl, Nat.le_of_ble_eq_true rfl⟩ (fun  w1 hq => ?_)
          obtain rfl := hq
          refine z_iload E 0 rfl dX9_readNumber_97 ?_
          refine Zg.perm (ws' := [(h0, .inr (9, [.ref hc, .ref ht, .int (zi n), .int (zi (tc + 1)), .int (zi fp), .int (zi fr)])), (hc, ac κ 40 c), (ht, ai κ 40 (zu f tc (-(dg c n s))))]) [1, 0, 2] rfl rfl ?_
          exact fin _ _ _ _ rfl (⟨_, _, _, _, _, Or.inr (Or.inr ⟨by omega, by omega, rfl, rfl, rfl, by unfold nVal; rw [if_neg (by omega : ¬ ng = 0), if_pos (by omega : dg c n s = 0), (by omega : dg c n s = 0)], by unfold nEnd; rw [if_pos (by omega : dg c n s = 0)]⟩), rfl, rfl⟩) dX9_readNumber_99
      · refine z_aload_n E 2 rfl rfl dX9_readNumber_35 ?_
        refine z_iload_n E 3 rfl rfl dX9_readNumber_36 ?_
        refine z_iconst E dX9_readNumber_37 ?_
        refine z_callVv (As := [.int (zi s), .int (zi 2)]) (rest := []) (wr := [(ht, ai κ 40 f), (hc, ac κ 40 c)]) E (c_X9_setFault l D κ h0 hc ht n tc fp fr s 2 ) m_X9_40 ⟨Nat.le_of_ble_eq_true rfl, Nat.le_of_ble_eq_true rfl⟩ ⟨rfl, rfl⟩ [1] [0, 2] rfl rfl rfl rfl (by decide) rfl rfl rfl rfl (Nat.le_of_ble_eq_true rfl) dX9_readNumber_38 ⟨Nat.le_of_ble_eq_true rfl, Nat.le_of_ble_eq_true rfl⟩ (fun  w1 hq => ?_)
        obtain rfl := hq
        refine z_iload E 0 rfl dX9_readNumber_41 ?_
        refine Zg.perm (ws' := [(h0, .inr (9, [.ref hc, .ref ht, .int (zi n), .int (zi tc), .int (zi s), .int (zi 2)])), (hc, ac κ 40 c), (ht, ai κ 40 f)]) [2, 1, 0] rfl rfl ?_
        exact fin _ _ _ _ rfl (⟨_, _, _, _, _, Or.inr (Or.inl ⟨by omega, by omega, rfl, rfl, rfl, rfl, rfl⟩), rfl, rfl⟩) dX9_readNumber_43
  · refine z_aload_n E 2 rfl rfl dX9_readNumber_15 ?_
    refine z_iload_n E 3 rfl rfl dX9_readNumber_16 ?_
    refine z_iconst E dX9_readNumber_17 ?_
    refine z_callVv (As := [.int (zi s), .int (zi 1)]) (rest := []) (wr := [(ht, ai κ 40 f), (hc, ac κ 40 c)]) E (c_X9_setFault l D κ h0 hc ht n tc fp fr s 1 ) m_X9_40 ⟨Nat.le_of_ble_eq_true rfl, Nat.le_of_ble_eq_true rfl⟩ ⟨rfl, rfl⟩ [1] [0, 2] rfl rfl rfl rfl (by decide) rfl rfl rfl rfl (Nat.le_of_ble_eq_true rfl) dX9_readNumber_18 ⟨Nat.le_of_ble_eq_true rfl, Nat.le_of_ble_eq_true rfl⟩ (fun  w1 hq => ?_)
    obtain rfl := hq
    refine z_iload E 0 rfl dX9_readNumber_21 ?_
    refine Zg.perm (ws' := [(h0, .inr (9, [.ref hc, .ref ht, .int (zi n), .int (zi tc), .int (zi s), .int (zi 1)])), (hc, ac κ 40 c), (ht, ai κ 40 f)]) [2, 1, 0] rfl rfl ?_
    exact fin _ _ _ _ rfl (⟨_, _, _, _, _, Or.inl ⟨by omega, rfl, rfl, rfl, rfl, rfl⟩, rfl, rfl⟩) dX9_readNumber_23
abbrev rm_X9_read : Room := { frames := 3, cells := 0, slots := 0, locals := 67 }
set_option maxRecDepth 100000 in
theorem c_X9_read (l : Launch) (D : va_G) (κ : Nat → ClassId) (h0 : Nat) (hc : Nat) (ht : Nat) (n : Int) (tc : Int) (fp : Int) (fr : Int) (c : Int → Int) (f : Int → Int) (hn : 0 ≤ n ∧ n ≤ 40) (hC : ∀ i : Int, 0 ≤ i → i < n → 32 ≤ c i ∧ c i ≤ 126) : ZV l yX9_read cX9_read 5 rm_X9_read D κ [.ref h0] [(h0, .inr (9, [.ref hc, .ref ht, .int (zi n), .int (zi tc), .int (zi fp), .int (zi fr)])), (hc, ac κ 40 c), (ht, ai κ 40 f)] (fun w => ∃ f' : Int → Int, ∃ tc' : Int, ∃ fp' : Int, ∃ fr' : Int, (rdE c n tc' fp' fr' f') ∧ [(h0, .inr (9, [.ref hc, .ref ht, .int (zi n), .int (zi tc'), .int (zi fp'), .int (zi fr')])), (hc, ac κ 40 c), (ht, ai κ 40 f')] = w) := by
  refine ZV.enter (own := RX9) rfl pn_X9_read (Nat.le_of_ble_eq_true rfl) (fun X E fin => ?_)
  show Zg X [(h0, .inr (9, [.ref hc, .ref ht, .int (zi n), .int (zi tc), .int (zi fp), .int (zi fr)])), (hc, ac κ 40 c), (ht, ai κ 40 f)] 0 0 0 [(0, .ref h0)] []
  refine z_aload_n E 0 rfl rfl dX9_read_0 ?_
  refine z_iconst E dX9_read_1 ?_
  refine z_put (ws' := [(h0, .inr (9, [.ref hc, .ref ht, .int (zi n), .int (zi 0), .int (zi fp), .int (zi fr)])), (hc, ac κ 40 c), (ht, ai κ 40 f)]) E f_X9_30 t_X9_3 0 rfl rfl rfl (Nat.le_of_ble_eq_true rfl) rfl dX9_read_2 ?_
  refine z_aload_n E 0 rfl rfl dX9_read_5 ?_
  refine z_iconst E dX9_read_6 ?_
  refine z_put (ws' := [(h0, .inr (9, [.ref hc, .ref ht, .int (zi n), .int (zi 0), .int (zi 0), .int (zi fr)])), (hc, ac κ 40 c), (ht, ai κ 40 f)]) E f_X9_33 t_X9_4 0 rfl rfl rfl (Nat.le_of_ble_eq_true rfl) rfl dX9_read_7 ?_
  refine z_aload_n E 0 rfl rfl dX9_read_10 ?_
  refine z_iconst E dX9_read_11 ?_
  refine z_put (ws' := [(h0, .inr (9, [.ref hc, .ref ht, .int (zi n), .int (zi 0), .int (zi 0), .int (zi 0)])), (hc, ac κ 40 c), (ht, ai κ 40 f)]) E f_X9_27 t_X9_5 0 rfl rfl rfl (Nat.le_of_ble_eq_true rfl) rfl dX9_read_12 ?_
  refine z_aload_n E 0 rfl rfl dX9_read_15 ?_
  refine z_iconst E dX9_read_16 ?_
  refine z_callVi (As := [.int (zi 0)]) (rest := []) (wr := [(ht, ai κ 40 f)]) E (c_X9_characterAt l D κ h0 hc ht n 0 0 0 c 0 (by omega) (by omega) (by omega)) m_X9_23 ⟨Nat.le_of_ble_eq_true rfl, Nat.le_of_ble_eq_true rfl⟩ ⟨rfl, rfl⟩ [0, 1] [2] rfl rfl rfl rfl (by decide) rfl rfl rfl rfl (Nat.le_of_ble_eq_true rfl) dX9_read_17 ⟨Nat.le_of_ble_eq_true rfl, Nat.le_of_ble_eq_true rfl⟩ (fun z17 w1 hq => ?_)
  obtain ⟨rfl, rfl⟩ := hq
  have hk := chA_bd hC 0
  refine z_bipush E dX9_read_20 (by decide) ?_
  refine z_ic_ne (tgt := 29) E (by omega) (by omega) dX9_read_22 (by decide) (fun h_22 => ?_) (fun h_22 => ?_)
  · refine z_iconst E dX9_read_29 ?_
    refine z_istore_n (lv' := [(1, .int (zi 0)), (0, .ref h0)]) E dX9_read_30 rfl (Nat.le_of_ble_eq_true rfl) rfl ?_
    have hng : (chA c n 0 = 45 ∧ (0 : Int) = 1) ∨ (chA c n 0 ≠ 45 ∧ (0 : Int) = 0) := by omega
    refine z_aload_n E 1 rfl rfl dX9_read_31 ?_
    refine z_iload_n E 0 rfl rfl dX9_read_32 ?_
    refine z_if_eq (tgt := 40) E (by omega) dX9_read_33 (by decide) (fun _ => ?_) (fun h => absurd h (by decide))
    refine z_iconst E dX9_read_40 ?_
    refine z_iload_n E 0 rfl rfl dX9_read_41 ?_
    refine z_callVi (As := [.int (zi 0), .int (zi 0)]) (rest := []) (wr := []) E (c_X9_readNumber l D κ h0 hc ht n 0 0 0 c f 0 0 (by omega) (by omega) (by omega) (by omega) (by omega)) m_X9_36 ⟨Nat.le_of_ble_eq_true rfl, Nat.le_of_ble_eq_true rfl⟩ ⟨rfl, rfl⟩ [1, 2, 0] [] rfl rfl rfl rfl (by decide) rfl rfl rfl rfl (Nat.le_of_ble_eq_true rfl) dX9_read_42 ⟨Nat.le_of_ble_eq_true rfl, Nat.le_of_ble_eq_true rfl⟩ (fun z42 w1 hq => ?_)
    obtain ⟨f'_1, tc'_2, fp'_3, fr'_4, r_5, hr_42, rfl, rfl⟩ := hq
    refine z_istore_n (lv' := [(2, .int (zi r_5)), (1, .int (zi 0)), (0, .ref h0)]) E dX9_read_45 rfl (Nat.le_of_ble_eq_true rfl) rfl ?_
    refine z_iconst E dX9_read_46 ?_
    refine z_istore_n (lv' := [(3, .int (zi 0)), (2, .int (zi r_5)), (1, .int (zi 0)), (0, .ref h0)]) E dX9_read_47 rfl (Nat.le_of_ble_eq_true rfl) rfl ?_
    have lp_48 : ∀ (n_48 : Nat) (g : Int → Int) (a : Int) (b : Int) (e : Int) (pl : Int) (k : Int), (0 ≤ k ∧ k ≤ 40) → (rdI c n pl a b e k g) → (0 ≤ e ∧ e ≤ 2 ∧ 0 ≤ pl ∧ pl ≤ 42) → (40 - k) < (n_48 : Int) → Zg X [(h0, .inr (9, [.ref hc, .ref ht, .int (zi n), .int (zi a), .int (zi b), .int (zi e)])), (hc, ac κ 40 c), (ht, ai κ 40 g)] 0 0 48 [(0, .ref h0), (2, .int (zi pl)), (3, .int (zi k))] [] := by
      intro n_48
      induction n_48 with
      | zero =>
        intro g a b e pl k i1 i2 i3 hmu
        exact absurd hmu (by omega)
      | succ n_48 ih_48 =>
        intro g a b e pl k i1 i2 i3 hmu_48
        refine z_iload_n E 2 rfl rfl dX9_read_48 ?_
        refine z_bipush E dX9_read_49 (by decide) ?_
        refine z_ic_ge (tgt := 120) E (by omega) (by omega) dX9_read_51 (by decide) (fun h_51 => ?_) (fun h_51 => ?_)
        · exact fin _ _ _ (⟨_, _, _, _, rdE_of i1.1 i2 (rd_out i1.1 i2 (by omega)), rfl⟩) dX9_read_120
        · refine z_aload_n E 0 rfl rfl dX9_read_54 ?_
          refine z_get E f_X9_27 0 rfl rfl dX9_read_55 ?_
          refine z_if_ne (tgt := 120) E (by omega) dX9_read_58 (by decide) (fun h_58 => ?_) (fun h_58 => ?_)
          · exact fin _ _ _ (⟨_, _, _, _, rdE_of i1.1 i2 (by omega), rfl⟩) dX9_read_120
          · refine z_iload_n E 1 rfl rfl dX9_read_61 ?_
            refine z_aload_n E 0 rfl rfl dX9_read_62 ?_
            refine z_get E f_X9_19 0 rfl rfl dX9_read_63 ?_
            refine z_ic_ge (tgt := 120) E (by omega) (by omega) dX9_read_66 (by decide) (fun h_66 => ?_) (fun h_66 => ?_)
            · exact fin _ _ _ (⟨_, _, _, _, rdE_of i1.1 i2 (by omega), rfl⟩) dX9_read_120
            · have hb := rdI_bd i1.1 i2 (by omega)
              refine z_aload_n E 0 rfl rfl dX9_read_69 ?_
              refine z_get E f_X9_30 0 rfl rfl dX9_read_70 ?_
              refine z_iconst E dX9_read_73 ?_
              refine z_ic_ne (tgt := 82) E (by omega) (by omega) dX9_read_74 (by decide) (fun h_74 => ?_) (fun h_74 => ?_)
              · refine z_bipush E dX9_read_82 (by decide) ?_
                refine z_istore (lv' := [(4, .int (zi 44)), (0, .ref h0), (2, .int (zi pl)), (3, .int (zi k))]) E dX9_read_84 (Nat.le_of_ble_eq_true rfl) rfl ?_
                refine z_aload_n E 1 rfl rfl dX9_read_86 ?_
                refine z_iload_n E 2 rfl rfl dX9_read_87 ?_
                refine z_callVi (As := [.int (zi pl)]) (rest := []) (wr := [(ht, ai κ 40 g)]) E (c_X9_characterAt l D κ h0 hc ht n a b e c pl (by omega) (by omega) (by omega)) m_X9_23 ⟨Nat.le_of_ble_eq_true rfl, Nat.le_of_ble_eq_true rfl⟩ ⟨rfl, rfl⟩ [0, 1] [2] rfl rfl rfl rfl (by decide) rfl rfl rfl rfl (Nat.le_of_ble_eq_true rfl) dX9_read_88 ⟨Nat.le_of_ble_eq_true rfl, Nat.le_of_ble_eq_true rfl⟩ (fun z88 w1 hq => ?_)
                obtain ⟨rfl, rfl⟩ := hq
                have hk2 := chA_bd hC pl
                refine z_iload E 0 rfl dX9_read_91 ?_
                refine z_ic_ne (tgt := 108) E (by omega) (by omega) dX9_read_93 (by decide) (fun h_93 => ?_) (fun h_93 => ?_)
                · refine z_aload_n E 1 rfl rfl dX9_read_108 ?_
                  refine z_iload_n E 2 rfl rfl dX9_read_109 ?_
                  refine z_iconst E dX9_read_110 ?_
                  refine z_callVv (As := [.int (zi pl), .int (zi 1)]) (rest := []) (wr := [(ht, ai κ 40 g), (hc, ac κ 40 c)]) E (c_X9_setFault l D κ h0 hc ht n a b e pl 1 ) m_X9_40 ⟨Nat.le_of_ble_eq_true rfl, Nat.le_of_ble_eq_true rfl⟩ ⟨rfl, rfl⟩ [1] [0, 2] rfl rfl rfl rfl (by decide) rfl rfl rfl rfl (Nat.le_of_ble_eq_true rfl) dX9_read_111 ⟨Nat.le_of_ble_eq_true rfl, Nat.le_of_ble_eq_true rfl⟩ (fun  w1 hq => ?_)
                  obtain rfl := hq
                  refine z_iinc (lv' := [(3, .int (zi (k + 1))), (4, .int (zi 44)), (0, .ref h0), (2, .int (zi pl))]) E 3 rfl dX9_read_114 (Nat.le_of_ble_eq_true rfl) rfl ?_
                  refine z_goto (tgt := 48) E dX9_read_117 (by decide) ?_
                  refine Zg.sub (lv' := [(0, .ref h0), (2, .int (zi pl)), (3, .int (zi (k + 1)))]) [2, 3, 0] rfl ?_
                  refine Zg.perm (ws' := [(h0, .inr (9, [.ref hc, .ref ht, .int (zi n), .int (zi a), .int (zi pl), .int (zi 1)])), (hc, ac κ 40 c), (ht, ai κ 40 g)]) [2, 1, 0] rfl rfl ?_
                  exact ih_48 g a pl 1 pl (k + 1) (by omega) (rdI_f i1.1 i2 (by omega) (by omega) (by rw [if_neg (by omega)]; omega)) (by omega) (by omega)
                · refine z_aload_n E 1 rfl rfl dX9_read_96 ?_
                  refine z_iload_n E 2 rfl rfl dX9_read_97 ?_
                  refine z_iconst E dX9_read_98 ?_
                  refine z_iadd E dX9_read_99 ?_
                  refine z_iconst E dX9_read_100 ?_
                  refine z_callVi (As := [.int (zi (pl + 1)), .int (zi 0)]) (rest := []) (wr := []) E (c_X9_readNumber l D κ h0 hc ht n a b e c g (pl + 1) 0 (by omega) (by omega) (by omega) (by omega) (by omega)) m_X9_36 ⟨Nat.le_of_ble_eq_true rfl, Nat.le_of_ble_eq_true rfl⟩ ⟨rfl, rfl⟩ [1, 2, 0] [] rfl rfl rfl rfl (by decide) rfl rfl rfl rfl (Nat.le_of_ble_eq_true rfl) dX9_read_101 ⟨Nat.le_of_ble_eq_true rfl, Nat.le_of_ble_eq_true rfl⟩ (fun z101 w1 hq => ?_)
                  obtain ⟨f'_6, tc'_7, fp'_8, fr'_9, r_10, hr_101, rfl, rfl⟩ := hq
                  refine z_istore_n (lv' := [(2, .int (zi r_10)), (4, .int (zi 44)), (0, .ref h0), (3, .int (zi k))]) E dX9_read_104 rfl (Nat.le_of_ble_eq_true rfl) rfl ?_
                  refine z_goto (tgt := 114) E dX9_read_105 (by decide) ?_
                  refine z_iinc (lv' := [(3, .int (zi (k + 1))), (2, .int (zi r_10)), (4, .int (zi 44)), (0, .ref h0)]) E 3 rfl dX9_read_114 (Nat.le_of_ble_eq_true rfl) rfl ?_
                  refine z_goto (tgt := 48) E dX9_read_117 (by decide) ?_
                  refine Zg.sub (lv' := [(0, .ref h0), (2, .int (zi r_10)), (3, .int (zi (k + 1)))]) [3, 1, 0] rfl ?_
                  exact ih_48 f'_6 tc'_7 fp'_8 fr'_9 r_10 (k + 1) (by omega) (rdI_s i1.1 i2 (by omega) (by omega) (by rw [if_neg (by omega)]; omega) hr_101) (rdN_bd hr_101 (by omega) (by omega)) (by omega)
              · refine z_bipush E dX9_read_77 (by decide) ?_
                refine z_goto (tgt := 84) E dX9_read_79 (by decide) ?_
                refine z_istore (lv' := [(4, .int (zi 59)), (0, .ref h0), (2, .int (zi pl)), (3, .int (zi k))]) E dX9_read_84 (Nat.le_of_ble_eq_true rfl) rfl ?_
                refine z_aload_n E 1 rfl rfl dX9_read_86 ?_
                refine z_iload_n E 2 rfl rfl dX9_read_87 ?_
                refine z_callVi (As := [.int (zi pl)]) (rest := []) (wr := [(ht, ai κ 40 g)]) E (c_X9_characterAt l D κ h0 hc ht n a b e c pl (by omega) (by omega) (by omega)) m_X9_23 ⟨Nat.le_of_ble_eq_true rfl, Nat.le_of_ble_eq_true rfl⟩ ⟨rfl, rfl⟩ [0, 1] [2] rfl rfl rfl rfl (by decide) rfl rfl rfl rfl (Nat.le_of_ble_eq_true rfl) dX9_read_88 ⟨Nat.le_of_ble_eq_true rfl, Nat.le_of_ble_eq_true rfl⟩ (fun z88 w1 hq => ?_)
                obtain ⟨rfl, rfl⟩ := hq
                have hk2 := chA_bd hC pl
                refine z_iload E 0 rfl dX9_read_91 ?_
                refine z_ic_ne (tgt := 108) E (by omega) (by omega) dX9_read_93 (by decide) (fun h_93 => ?_) (fun h_93 => ?_)
                · refine z_aload_n E 1 rfl rfl dX9_read_108 ?_
                  refine z_iload_n E 2 rfl rfl dX9_read_109 ?_
                  refine z_iconst E dX9_read_110 ?_
                  refine z_callVv (As := [.int (zi pl), .int (zi 1)]) (rest := []) (wr := [(ht, ai κ 40 g), (hc, ac κ 40 c)]) E (c_X9_setFault l D κ h0 hc ht n a b e pl 1 ) m_X9_40 ⟨Nat.le_of_ble_eq_true rfl, Nat.le_of_ble_eq_true rfl⟩ ⟨rfl, rfl⟩ [1] [0, 2] rfl rfl rfl rfl (by decide) rfl rfl rfl rfl (Nat.le_of_ble_eq_true rfl) dX9_read_111 ⟨Nat.le_of_ble_eq_true rfl, Nat.le_of_ble_eq_true rfl⟩ (fun  w1 hq => ?_)
                  obtain rfl := hq
                  refine z_iinc (lv' := [(3, .int (zi (k + 1))), (4, .int (zi 59)), (0, .ref h0), (2, .int (zi pl))]) E 3 rfl dX9_read_114 (Nat.le_of_ble_eq_true rfl) rfl ?_
                  refine z_goto (tgt := 48) E dX9_read_117 (by decide) ?_
                  refine Zg.sub (lv' := [(0, .ref h0), (2, .int (zi pl)), (3, .int (zi (k + 1)))]) [2, 3, 0] rfl ?_
                  refine Zg.perm (ws' := [(h0, .inr (9, [.ref hc, .ref ht, .int (zi n), .int (zi a), .int (zi pl), .int (zi 1)])), (hc, ac κ 40 c), (ht, ai κ 40 g)]) [2, 1, 0] rfl rfl ?_
                  exact ih_48 g a pl 1 pl (k + 1) (by omega) (rdI_f i1.1 i2 (by omega) (by omega) (by rw [if_pos (by omega)]; omega)) (by omega) (by omega)
                · refine z_aload_n E 1 rfl rfl dX9_read_96 ?_
                  refine z_iload_n E 2 rfl rfl dX9_read_97 ?_
                  refine z_iconst E dX9_read_98 ?_
                  refine z_iadd E dX9_read_99 ?_
                  refine z_iconst E dX9_read_100 ?_
                  refine z_callVi (As := [.int (zi (pl + 1)), .int (zi 0)]) (rest := []) (wr := []) E (c_X9_readNumber l D κ h0 hc ht n a b e c g (pl + 1) 0 (by omega) (by omega) (by omega) (by omega) (by omega)) m_X9_36 ⟨Nat.le_of_ble_eq_true rfl, Nat.le_of_ble_eq_true rfl⟩ ⟨rfl, rfl⟩ [1, 2, 0] [] rfl rfl rfl rfl (by decide) rfl rfl rfl rfl (Nat.le_of_ble_eq_true rfl) dX9_read_101 ⟨Nat.le_of_ble_eq_true rfl, Nat.le_of_ble_eq_true rfl⟩ (fun z101 w1 hq => ?_)
                  obtain ⟨f'_11, tc'_12, fp'_13, fr'_14, r_15, hr_101, rfl, rfl⟩ := hq
                  refine z_istore_n (lv' := [(2, .int (zi r_15)), (4, .int (zi 59)), (0, .ref h0), (3, .int (zi k))]) E dX9_read_104 rfl (Nat.le_of_ble_eq_true rfl) rfl ?_
                  refine z_goto (tgt := 114) E dX9_read_105 (by decide) ?_
                  refine z_iinc (lv' := [(3, .int (zi (k + 1))), (2, .int (zi r_15)), (4, .int (zi 59)), (0, .ref h0)]) E 3 rfl dX9_read_114 (Nat.le_of_ble_eq_true rfl) rfl ?_
                  refine z_goto (tgt := 48) E dX9_read_117 (by decide) ?_
                  refine Zg.sub (lv' := [(0, .ref h0), (2, .int (zi r_15)), (3, .int (zi (k + 1)))]) [3, 1, 0] rfl ?_
                  exact ih_48 f'_11 tc'_12 fp'_13 fr'_14 r_15 (k + 1) (by omega) (rdI_s i1.1 i2 (by omega) (by omega) (by rw [if_pos (by omega)]; omega) hr_101) (rdN_bd hr_101 (by omega) (by omega)) (by omega)
    refine Zg.sub (lv' := [(0, .ref h0), (2, .int (zi r_5)), (3, .int (zi 0))]) [3, 1, 0] rfl ?_
    exact lp_48 ((40 - 0 : Int).toNat + 1) f'_1 tc'_2 fp'_3 fr'_4 r_5 0 (by omega) (rdI_0 hng hr_42) (rdN_bd hr_42 (by omega) (by omega)) (by omega)
  · refine z_iconst E dX9_read_25 ?_
    refine z_goto (tgt := 30) E dX9_read_26 (by decide) ?_
    refine z_istore_n (lv' := [(1, .int (zi 1)), (0, .ref h0)]) E dX9_read_30 rfl (Nat.le_of_ble_eq_true rfl) rfl ?_
    have hng : (chA c n 0 = 45 ∧ (1 : Int) = 1) ∨ (chA c n 0 ≠ 45 ∧ (1 : Int) = 0) := by omega
    refine z_aload_n E 1 rfl rfl dX9_read_31 ?_
    refine z_iload_n E 0 rfl rfl dX9_read_32 ?_
    refine z_if_eq (tgt := 40) E (by omega) dX9_read_33 (by decide) (fun h => absurd h (by decide)) (fun _ => ?_)
    refine z_iconst E dX9_read_36 ?_
    refine z_goto (tgt := 41) E dX9_read_37 (by decide) ?_
    refine z_iload_n E 0 rfl rfl dX9_read_41 ?_
    refine z_callVi (As := [.int (zi 1), .int (zi 1)]) (rest := []) (wr := []) E (c_X9_readNumber l D κ h0 hc ht n 0 0 0 c f 1 1 (by omega) (by omega) (by omega) (by omega) (by omega)) m_X9_36 ⟨Nat.le_of_ble_eq_true rfl, Nat.le_of_ble_eq_true rfl⟩ ⟨rfl, rfl⟩ [1, 2, 0] [] rfl rfl rfl rfl (by decide) rfl rfl rfl rfl (Nat.le_of_ble_eq_true rfl) dX9_read_42 ⟨Nat.le_of_ble_eq_true rfl, Nat.le_of_ble_eq_true rfl⟩ (fun z42 w1 hq => ?_)
    obtain ⟨f'_16, tc'_17, fp'_18, fr'_19, r_20, hr_42, rfl, rfl⟩ := hq
    refine z_istore_n (lv' := [(2, .int (zi r_20)), (1, .int (zi 1)), (0, .ref h0)]) E dX9_read_45 rfl (Nat.le_of_ble_eq_true rfl) rfl ?_
    refine z_iconst E dX9_read_46 ?_
    refine z_istore_n (lv' := [(3, .int (zi 0)), (2, .int (zi r_20)), (1, .int (zi 1)), (0, .ref h0)]) E dX9_read_47 rfl (Nat.le_of_ble_eq_true rfl) rfl ?_
    have lp_48 : ∀ (n_48 : Nat) (g : Int → Int) (a : Int) (b : Int) (e : Int) (pl : Int) (k : Int), (0 ≤ k ∧ k ≤ 40) → (rdI c n pl a b e k g) → (0 ≤ e ∧ e ≤ 2 ∧ 0 ≤ pl ∧ pl ≤ 42) → (40 - k) < (n_48 : Int) → Zg X [(h0, .inr (9, [.ref hc, .ref ht, .int (zi n), .int (zi a), .int (zi b), .int (zi e)])), (hc, ac κ 40 c), (ht, ai κ 40 g)] 0 0 48 [(0, .ref h0), (2, .int (zi pl)), (3, .int (zi k))] [] := by
      intro n_48
      induction n_48 with
      | zero =>
        intro g a b e pl k i1 i2 i3 hmu
        exact absurd hmu (by omega)
      | succ n_48 ih_48 =>
        intro g a b e pl k i1 i2 i3 hmu_48
        refine z_iload_n E 2 rfl rfl dX9_read_48 ?_
        refine z_bipush E dX9_read_49 (by decide) ?_
        refine z_ic_ge (tgt := 120) E (by omega) (by omega) dX9_read_51 (by decide) (fun h_51 => ?_) (fun h_51 => ?_)
        · exact fin _ _ _ (⟨_, _, _, _, rdE_of i1.1 i2 (rd_out i1.1 i2 (by omega)), rfl⟩) dX9_read_120
        · refine z_aload_n E 0 rfl rfl dX9_read_54 ?_
          refine z_get E f_X9_27 0 rfl rfl dX9_read_55 ?_
          refine z_if_ne (tgt := 120) E (by omega) dX9_read_58 (by decide) (fun h_58 => ?_) (fun h_58 => ?_)
          · exact fin _ _ _ (⟨_, _, _, _, rdE_of i1.1 i2 (by omega), rfl⟩) dX9_read_120
          · refine z_iload_n E 1 rfl rfl dX9_read_61 ?_
            refine z_aload_n E 0 rfl rfl dX9_read_62 ?_
            refine z_get E f_X9_19 0 rfl rfl dX9_read_63 ?_
            refine z_ic_ge (tgt := 120) E (by omega) (by omega) dX9_read_66 (by decide) (fun h_66 => ?_) (fun h_66 => ?_)
            · exact fin _ _ _ (⟨_, _, _, _, rdE_of i1.1 i2 (by omega), rfl⟩) dX9_read_120
            · have hb := rdI_bd i1.1 i2 (by omega)
              refine z_aload_n E 0 rfl rfl dX9_read_69 ?_
              refine z_get E f_X9_30 0 rfl rfl dX9_read_70 ?_
              refine z_iconst E dX9_read_73 ?_
              refine z_ic_ne (tgt := 82) E (by omega) (by omega) dX9_read_74 (by decide) (fun h_74 => ?_) (fun h_74 => ?_)
              · refine z_bipush E dX9_read_82 (by decide) ?_
                refine z_istore (lv' := [(4, .int (zi 44)), (0, .ref h0), (2, .int (zi pl)), (3, .int (zi k))]) E dX9_read_84 (Nat.le_of_ble_eq_true rfl) rfl ?_
                refine z_aload_n E 1 rfl rfl dX9_read_86 ?_
                refine z_iload_n E 2 rfl rfl dX9_read_87 ?_
                refine z_callVi (As := [.int (zi pl)]) (rest := []) (wr := [(ht, ai κ 40 g)]) E (c_X9_characterAt l D κ h0 hc ht n a b e c pl (by omega) (by omega) (by omega)) m_X9_23 ⟨Nat.le_of_ble_eq_true rfl, Nat.le_of_ble_eq_true rfl⟩ ⟨rfl, rfl⟩ [0, 1] [2] rfl rfl rfl rfl (by decide) rfl rfl rfl rfl (Nat.le_of_ble_eq_true rfl) dX9_read_88 ⟨Nat.le_of_ble_eq_true rfl, Nat.le_of_ble_eq_true rfl⟩ (fun z88 w1 hq => ?_)
                obtain ⟨rfl, rfl⟩ := hq
                have hk2 := chA_bd hC pl
                refine z_iload E 0 rfl dX9_read_91 ?_
                refine z_ic_ne (tgt := 108) E (by omega) (by omega) dX9_read_93 (by decide) (fun h_93 => ?_) (fun h_93 => ?_)
                · refine z_aload_n E 1 rfl rfl dX9_read_108 ?_
                  refine z_iload_n E 2 rfl rfl dX9_read_109 ?_
                  refine z_iconst E dX9_read_110 ?_
                  refine z_callVv (As := [.int (zi pl), .int (zi 1)]) (rest := []) (wr := [(ht, ai κ 40 g), (hc, ac κ 40 c)]) E (c_X9_setFault l D κ h0 hc ht n a b e pl 1 ) m_X9_40 ⟨Nat.le_of_ble_eq_true rfl, Nat.le_of_ble_eq_true rfl⟩ ⟨rfl, rfl⟩ [1] [0, 2] rfl rfl rfl rfl (by decide) rfl rfl rfl rfl (Nat.le_of_ble_eq_true rfl) dX9_read_111 ⟨Nat.le_of_ble_eq_true rfl, Nat.le_of_ble_eq_true rfl⟩ (fun  w1 hq => ?_)
                  obtain rfl := hq
                  refine z_iinc (lv' := [(3, .int (zi (k + 1))), (4, .int (zi 44)), (0, .ref h0), (2, .int (zi pl))]) E 3 rfl dX9_read_114 (Nat.le_of_ble_eq_true rfl) rfl ?_
                  refine z_goto (tgt := 48) E dX9_read_117 (by decide) ?_
                  refine Zg.sub (lv' := [(0, .ref h0), (2, .int (zi pl)), (3, .int (zi (k + 1)))]) [2, 3, 0] rfl ?_
                  refine Zg.perm (ws' := [(h0, .inr (9, [.ref hc, .ref ht, .int (zi n), .int (zi a), .int (zi pl), .int (zi 1)])), (hc, ac κ 40 c), (ht, ai κ 40 g)]) [2, 1, 0] rfl rfl ?_
                  exact ih_48 g a pl 1 pl (k + 1) (by omega) (rdI_f i1.1 i2 (by omega) (by omega) (by rw [if_neg (by omega)]; omega)) (by omega) (by omega)
                · refine z_aload_n E 1 rfl rfl dX9_read_96 ?_
                  refine z_iload_n E 2 rfl rfl dX9_read_97 ?_
                  refine z_iconst E dX9_read_98 ?_
                  refine z_iadd E dX9_read_99 ?_
                  refine z_iconst E dX9_read_100 ?_
                  refine z_callVi (As := [.int (zi (pl + 1)), .int (zi 0)]) (rest := []) (wr := []) E (c_X9_readNumber l D κ h0 hc ht n a b e c g (pl + 1) 0 (by omega) (by omega) (by omega) (by omega) (by omega)) m_X9_36 ⟨Nat.le_of_ble_eq_true rfl, Nat.le_of_ble_eq_true rfl⟩ ⟨rfl, rfl⟩ [1, 2, 0] [] rfl rfl rfl rfl (by decide) rfl rfl rfl rfl (Nat.le_of_ble_eq_true rfl) dX9_read_101 ⟨Nat.le_of_ble_eq_true rfl, Nat.le_of_ble_eq_true rfl⟩ (fun z101 w1 hq => ?_)
                  obtain ⟨f'_21, tc'_22, fp'_23, fr'_24, r_25, hr_101, rfl, rfl⟩ := hq
                  refine z_istore_n (lv' := [(2, .int (zi r_25)), (4, .int (zi 44)), (0, .ref h0), (3, .int (zi k))]) E dX9_read_104 rfl (Nat.le_of_ble_eq_true rfl) rfl ?_
                  refine z_goto (tgt := 114) E dX9_read_105 (by decide) ?_
                  refine z_iinc (lv' := [(3, .int (zi (k + 1))), (2, .int (zi r_25)), (4, .int (zi 44)), (0, .ref h0)]) E 3 rfl dX9_read_114 (Nat.le_of_ble_eq_true rfl) rfl ?_
                  refine z_goto (tgt := 48) E dX9_read_117 (by decide) ?_
                  refine Zg.sub (lv' := [(0, .ref h0), (2, .int (zi r_25)), (3, .int (zi (k + 1)))]) [3, 1, 0] rfl ?_
                  exact ih_48 f'_21 tc'_22 fp'_23 fr'_24 r_25 (k + 1) (by omega) (rdI_s i1.1 i2 (by omega) (by omega) (by rw [if_neg (by omega)]; omega) hr_101) (rdN_bd hr_101 (by omega) (by omega)) (by omega)
              · refine z_bipush E dX9_read_77 (by decide) ?_
                refine z_goto (tgt := 84) E dX9_read_79 (by decide) ?_
                refine z_istore (lv' := [(4, .int (zi 59)), (0, .ref h0), (2, .int (zi pl)), (3, .int (zi k))]) E dX9_read_84 (Nat.le_of_ble_eq_true rfl) rfl ?_
                refine z_aload_n E 1 rfl rfl dX9_read_86 ?_
                refine z_iload_n E 2 rfl rfl dX9_read_87 ?_
                refine z_callVi (As := [.int (zi pl)]) (rest := []) (wr := [(ht, ai κ 40 g)]) E (c_X9_characterAt l D κ h0 hc ht n a b e c pl (by omega) (by omega) (by omega)) m_X9_23 ⟨Nat.le_of_ble_eq_true rfl, Nat.le_of_ble_eq_true rfl⟩ ⟨rfl, rfl⟩ [0, 1] [2] rfl rfl rfl rfl (by decide) rfl rfl rfl rfl (Nat.le_of_ble_eq_true rfl) dX9_read_88 ⟨Nat.le_of_ble_eq_true rfl, Nat.le_of_ble_eq_true rfl⟩ (fun z88 w1 hq => ?_)
                obtain ⟨rfl, rfl⟩ := hq
                have hk2 := chA_bd hC pl
                refine z_iload E 0 rfl dX9_read_91 ?_
                refine z_ic_ne (tgt := 108) E (by omega) (by omega) dX9_read_93 (by decide) (fun h_93 => ?_) (fun h_93 => ?_)
                · refine z_aload_n E 1 rfl rfl dX9_read_108 ?_
                  refine z_iload_n E 2 rfl rfl dX9_read_109 ?_
                  refine z_iconst E dX9_read_110 ?_
                  refine z_callVv (As := [.int (zi pl), .int (zi 1)]) (rest := []) (wr := [(ht, ai κ 40 g), (hc, ac κ 40 c)]) E (c_X9_setFault l D κ h0 hc ht n a b e pl 1 ) m_X9_40 ⟨Nat.le_of_ble_eq_true rfl, Nat.le_of_ble_eq_true rfl⟩ ⟨rfl, rfl⟩ [1] [0, 2] rfl rfl rfl rfl (by decide) rfl rfl rfl rfl (Nat.le_of_ble_eq_true rfl) dX9_read_111 ⟨Nat.le_of_ble_eq_true rfl, Nat.le_of_ble_eq_true rfl⟩ (fun  w1 hq => ?_)
                  obtain rfl := hq
                  refine z_iinc (lv' := [(3, .int (zi (k + 1))), (4, .int (zi 59)), (0, .ref h0), (2, .int (zi pl))]) E 3 rfl dX9_read_114 (Nat.le_of_ble_eq_true rfl) rfl ?_
                  refine z_goto (tgt := 48) E dX9_read_117 (by decide) ?_
                  refine Zg.sub (lv' := [(0, .ref h0), (2, .int (zi pl)), (3, .int (zi (k + 1)))]) [2, 3, 0] rfl ?_
                  refine Zg.perm (ws' := [(h0, .inr (9, [.ref hc, .ref ht, .int (zi n), .int (zi a), .int (zi pl), .int (zi 1)])), (hc, ac κ 40 c), (ht, ai κ 40 g)]) [2, 1, 0] rfl rfl ?_
                  exact ih_48 g a pl 1 pl (k + 1) (by omega) (rdI_f i1.1 i2 (by omega) (by omega) (by rw [if_pos (by omega)]; omega)) (by omega) (by omega)
                · refine z_aload_n E 1 rfl rfl dX9_read_96 ?_
                  refine z_iload_n E 2 rfl rfl dX9_read_97 ?_
                  refine z_iconst E dX9_read_98 ?_
                  refine z_iadd E dX9_read_99 ?_
                  refine z_iconst E dX9_read_100 ?_
                  refine z_callVi (As := [.int (zi (pl + 1)), .int (zi 0)]) (rest := []) (wr := []) E (c_X9_readNumber l D κ h0 hc ht n a b e c g (pl + 1) 0 (by omega) (by omega) (by omega) (by omega) (by omega)) m_X9_36 ⟨Nat.le_of_ble_eq_true rfl, Nat.le_of_ble_eq_true rfl⟩ ⟨rfl, rfl⟩ [1, 2, 0] [] rfl rfl rfl rfl (by decide) rfl rfl rfl rfl (Nat.le_of_ble_eq_true rfl) dX9_read_101 ⟨Nat.le_of_ble_eq_true rfl, Nat.le_of_ble_eq_true rfl⟩ (fun z101 w1 hq => ?_)
                  obtain ⟨f'_26, tc'_27, fp'_28, fr'_29, r_30, hr_101, rfl, rfl⟩ := hq
                  refine z_istore_n (lv' := [(2, .int (zi r_30)), (4, .int (zi 59)), (0, .ref h0), (3, .int (zi k))]) E dX9_read_104 rfl (Nat.le_of_ble_eq_true rfl) rfl ?_
                  refine z_goto (tgt := 114) E dX9_read_105 (by decide) ?_
                  refine z_iinc (lv' := [(3, .int (zi (k + 1))), (2, .int (zi r_30)), (4, .int (zi 59)), (0, .ref h0)]) E 3 rfl dX9_read_114 (Nat.le_of_ble_eq_true rfl) rfl ?_
                  refine z_goto (tgt := 48) E dX9_read_117 (by decide) ?_
                  refine Zg.sub (lv' := [(0, .ref h0), (2, .int (zi r_30)), (3, .int (zi (k + 1)))]) [3, 1, 0] rfl ?_
                  exact ih_48 f'_26 tc'_27 fp'_28 fr'_29 r_30 (k + 1) (by omega) (rdI_s i1.1 i2 (by omega) (by omega) (by rw [if_pos (by omega)]; omega) hr_101) (rdN_bd hr_101 (by omega) (by omega)) (by omega)
    refine Zg.sub (lv' := [(0, .ref h0), (2, .int (zi r_20)), (3, .int (zi 0))]) [3, 1, 0] rfl ?_
    exact lp_48 ((40 - 0 : Int).toNat + 1) f'_16 tc'_17 fp'_18 fr'_19 r_20 0 (by omega) (rdI_0 hng hr_42) (rdN_bd hr_42 (by omega) (by omega)) (by omega)
abbrev rm_X9_chainTerms : Room := { frames := 3, cells := 0, slots := 0, locals := 70 }
set_option maxRecDepth 100000 in
theorem c_X9_chainTerms (l : Launch) (D : va_G) (κ : Nat → ClassId) (h0 : Nat) (hc : Nat) (ht : Nat) (n : Int) (tc : Int) (fp : Int) (fr : Int) (f : Int → Int) (h1 : Nat) (u : Int) (v : Int) (o : Int) (ua : Int) (va : Int) (htc : 0 ≤ tc ∧ tc ≤ 40) (hf : ∀ i : Int, 0 ≤ i → i < tc → -1000 ≤ f i ∧ f i ≤ 1000) : ZV l yX9_chainTerms cX9_chainTerms 3 rm_X9_chainTerms D κ [.ref h0, .ref h1] [(h0, .inr (9, [.ref hc, .ref ht, .int (zi n), .int (zi tc), .int (zi fp), .int (zi fr)])), (ht, ai κ 40 f), (h1, .inr (1, [.long (zl u), .long (zl v), .int (zi o), .long (zl ua), .long (zl va)]))] (fun w => ∃ u' : Int, ∃ v' : Int, ∃ o' : Int, ∃ ua' : Int, ∃ va' : Int, (chRun f tc.toNat = (u', v', o', ua', va')) ∧ [(h0, .inr (9, [.ref hc, .ref ht, .int (zi n), .int (zi tc), .int (zi fp), .int (zi fr)])), (ht, ai κ 40 f), (h1, .inr (1, [.long (zl u'), .long (zl v'), .int (zi o'), .long (zl ua'), .long (zl va')]))] = w) := by
  refine ZV.enter (own := RX9) rfl pn_X9_chainTerms (Nat.le_of_ble_eq_true rfl) (fun X E fin => ?_)
  show Zg X [(h0, .inr (9, [.ref hc, .ref ht, .int (zi n), .int (zi tc), .int (zi fp), .int (zi fr)])), (ht, ai κ 40 f), (h1, .inr (1, [.long (zl u), .long (zl v), .int (zi o), .long (zl ua), .long (zl va)]))] 0 0 0 [(0, .ref h0), (1, .ref h1)] []
  refine z_aload_n E 1 rfl rfl dX9_chainTerms_0 ?_
  refine z_callVv (As := []) (rest := []) (wr := [(h0, .inr (9, [.ref hc, .ref ht, .int (zi n), .int (zi tc), .int (zi fp), .int (zi fr)])), (ht, ai κ 40 f)]) E (c_X1_begin l D κ h1 u v o ua va ) m_X9_52 ⟨Nat.le_of_ble_eq_true rfl, Nat.le_of_ble_eq_true rfl⟩ ⟨rfl, rfl⟩ [2] [0, 1] rfl rfl rfl rfl (by decide) rfl rfl rfl rfl (Nat.le_of_ble_eq_true rfl) dX9_chainTerms_1 ⟨Nat.le_of_ble_eq_true rfl, Nat.le_of_ble_eq_true rfl⟩ (fun  w1 hq => ?_)
  obtain rfl := hq
  refine z_iconst E dX9_chainTerms_4 ?_
  refine z_istore_n (lv' := [(2, .int (zi 0)), (0, .ref h0), (1, .ref h1)]) E dX9_chainTerms_5 rfl (Nat.le_of_ble_eq_true rfl) rfl ?_
  have lp_6 : ∀ (n_6 : Nat) (i : Int) (a : Int) (b : Int) (e : Int) (g : Int) (k : Int), (0 ≤ i ∧ i ≤ tc) → (chRun f i.toNat = (a, b, e, g, k)) → (tc - i) < (n_6 : Int) → Zg X [(h0, .inr (9, [.ref hc, .ref ht, .int (zi n), .int (zi tc), .int (zi fp), .int (zi fr)])), (h1, .inr (1, [.long (zl a), .long (zl b), .int (zi e), .long (zl g), .long (zl k)])), (ht, ai κ 40 f)] 0 0 6 [(0, .ref h0), (1, .ref h1), (2, .int (zi i))] [] := by
    intro n_6
    induction n_6 with
    | zero =>
      intro i a b e g k i1 i2 hmu
      exact absurd hmu (by omega)
    | succ n_6 ih_6 =>
      intro i a b e g k i1 i2 hmu_6
      refine z_iload_n E 2 rfl rfl dX9_chainTerms_6 ?_
      refine z_aload_n E 0 rfl rfl dX9_chainTerms_7 ?_
      refine z_get E f_X9_30 0 rfl rfl dX9_chainTerms_8 ?_
      refine z_ic_ge (tgt := 30) E (by omega) (by omega) dX9_chainTerms_11 (by decide) (fun h_11 => ?_) (fun h_11 => ?_)
      · refine Zg.perm (ws' := [(h0, .inr (9, [.ref hc, .ref ht, .int (zi n), .int (zi tc), .int (zi fp), .int (zi fr)])), (ht, ai κ 40 f), (h1, .inr (1, [.long (zl a), .long (zl b), .int (zi e), .long (zl g), .long (zl k)]))]) [0, 2, 1] rfl rfl ?_
        exact fin _ _ _ (⟨_, _, _, _, _, by rw [show tc = i by omega]; exact i2, rfl⟩) dX9_chainTerms_30
      · have hb := chRun_bd i2
        have hfi := hf i (by omega) (by omega)
        refine z_aload_n E 1 rfl rfl dX9_chainTerms_14 ?_
        refine z_aload_n E 0 rfl rfl dX9_chainTerms_15 ?_
        refine z_iload_n E 2 rfl rfl dX9_chainTerms_16 ?_
        refine z_callVi (As := [.int (zi i)]) (rest := [.ref h1]) (wr := [(h1, .inr (1, [.long (zl a), .long (zl b), .int (zi e), .long (zl g), .long (zl k)]))]) E (c_X9_termAt l D κ h0 hc ht n tc fp fr f i (by omega)) m_X9_57 ⟨Nat.le_of_ble_eq_true rfl, Nat.le_of_ble_eq_true rfl⟩ ⟨rfl, rfl⟩ [0, 2] [1] rfl rfl rfl rfl (by decide) rfl rfl rfl rfl (Nat.le_of_ble_eq_true rfl) dX9_chainTerms_17 ⟨Nat.le_of_ble_eq_true rfl, Nat.le_of_ble_eq_true rfl⟩ (fun z17 w1 hq => ?_)
        obtain ⟨rfl, rfl⟩ := hq
        refine z_i2l E (by omega) dX9_chainTerms_20 ?_
        refine z_callVv (As := [.long (zl (f i))]) (rest := []) (wr := [(h0, .inr (9, [.ref hc, .ref ht, .int (zi n), .int (zi tc), .int (zi fp), .int (zi fr)])), (ht, ai κ 40 f)]) E (c_X1_add l D κ h1 a b e g k (f i) (by omega) (by omega) (by omega) (by omega) (by omega) (by omega)) m_X9_60 ⟨Nat.le_of_ble_eq_true rfl, Nat.le_of_ble_eq_true rfl⟩ ⟨rfl, rfl⟩ [0] [1, 2] rfl rfl rfl rfl (by decide) rfl rfl rfl rfl (Nat.le_of_ble_eq_true rfl) dX9_chainTerms_21 ⟨Nat.le_of_ble_eq_true rfl, Nat.le_of_ble_eq_true rfl⟩ (fun  w1 hq => ?_)
        obtain ⟨u'_1, v'_2, o'_3, ua'_4, va'_5, hc_21, rfl⟩ := hq
        refine z_iinc (lv' := [(2, .int (zi (i + 1))), (0, .ref h0), (1, .ref h1)]) E 2 rfl dX9_chainTerms_24 (Nat.le_of_ble_eq_true rfl) rfl ?_
        refine z_goto (tgt := 6) E dX9_chainTerms_27 (by decide) ?_
        refine Zg.sub (lv' := [(0, .ref h0), (1, .ref h1), (2, .int (zi (i + 1)))]) [1, 2, 0] rfl ?_
        refine Zg.perm (ws' := [(h0, .inr (9, [.ref hc, .ref ht, .int (zi n), .int (zi tc), .int (zi fp), .int (zi fr)])), (h1, .inr (1, [.long (zl u'_1), .long (zl v'_2), .int (zi o'_3), .long (zl ua'_4), .long (zl va'_5)])), (ht, ai κ 40 f)]) [0, 2, 1] rfl rfl ?_
        exact ih_6 (i + 1) u'_1 v'_2 o'_3 ua'_4 va'_5 (by omega) (chRun_s i1.1 i2 rfl hc_21) (by omega)
  refine Zg.sub (lv' := [(0, .ref h0), (1, .ref h1), (2, .int (zi 0))]) [1, 2, 0] rfl ?_
  refine Zg.perm (ws' := [(h0, .inr (9, [.ref hc, .ref ht, .int (zi n), .int (zi tc), .int (zi fp), .int (zi fr)])), (h1, .inr (1, [.long (zl 1), .long (zl 0), .int (zi 0), .long (zl 0), .long (zl 1)])), (ht, ai κ 40 f)]) [0, 2, 1] rfl rfl ?_
  exact lp_6 ((tc - 0 : Int).toNat + 1) 0 1 0 0 0 1 (by omega) (rfl) (by omega)
