abbrev rm_X1_init : Room := { frames := 1, cells := 0, slots := 0, locals := 12 }
set_option maxRecDepth 100000 in
theorem c_X1_init (l : Launch) (D : va_G) (κ : Nat → ClassId) (h0 : Nat)  : ZV l yX1_init cX1_init 1 rm_X1_init D κ [.ref h0] [(h0, .inr (1, [.long (zl 0), .long (zl 0), .int (zi 0), .long (zl 0), .long (zl 0)]))] (fun w => [(h0, .inr (1, [.long (zl 0), .long (zl 0), .int (zi 0), .long (zl 0), .long (zl 0)]))] = w) := by
  refine ZV.enter0 (own := RX1) rfl pn_X1_init (Nat.le_of_ble_eq_true rfl) (fun X E hini fin => ?_)
  have hini := hini rfl
  show Zg X [(h0, .inr (1, [.long (zl 0), .long (zl 0), .int (zi 0), .long (zl 0), .long (zl 0)]))] 0 0 0 [(0, .ref h0)] []
  refine z_aload_n E 0 rfl rfl dX1_init_0 ?_
  refine z_objInit E m_X1_3 in_obj co_obj (Nat.le_of_ble_eq_true rfl) (Nat.le_of_ble_eq_true rfl) dX1_init_1 ?_
  exact fin _ _ _ (by first | exact rfl | omega) dX1_init_4
abbrev rm_X1_begin : Room := { frames := 0, cells := 0, slots := 0, locals := 0 }
set_option maxRecDepth 100000 in
theorem c_X1_begin (l : Launch) (D : va_G) (κ : Nat → ClassId) (h0 : Nat) (u : Int) (v : Int) (o : Int) (ua : Int) (va : Int)  : ZV l yX1_begin cX1_begin 1 rm_X1_begin D κ [.ref h0] [(h0, .inr (1, [.long (zl u), .long (zl v), .int (zi o), .long (zl ua), .long (zl va)]))] (fun w => [(h0, .inr (1, [.long (zl 1), .long (zl 0), .int (zi 0), .long (zl 0), .long (zl 1)]))] = w) := by
  refine ZV.enter (own := RX1) rfl pn_X1_begin (Nat.le_of_ble_eq_true rfl) (fun X E fin => ?_)
  show Zg X [(h0, .inr (1, [.long (zl u), .long (zl v), .int (zi o), .long (zl ua), .long (zl va)]))] 0 0 0 [(0, .ref h0)] []
  refine z_aload_n E 0 rfl rfl dX1_begin_0 ?_
  refine z_lconst1 E dX1_begin_1 ?_
  refine z_put (ws' := [(h0, .inr (1, [.long (zl 1), .long (zl v), .int (zi o), .long (zl ua), .long (zl va)]))]) E f_X1_9 t_X1_0 0 rfl rfl rfl (Nat.le_of_ble_eq_true rfl) rfl dX1_begin_2 ?_
  refine z_aload_n E 0 rfl rfl dX1_begin_5 ?_
  refine z_lconst0 E dX1_begin_6 ?_
  refine z_put (ws' := [(h0, .inr (1, [.long (zl 1), .long (zl 0), .int (zi o), .long (zl ua), .long (zl va)]))]) E f_X1_15 t_X1_1 0 rfl rfl rfl (Nat.le_of_ble_eq_true rfl) rfl dX1_begin_7 ?_
  refine z_aload_n E 0 rfl rfl dX1_begin_10 ?_
  refine z_lconst0 E dX1_begin_11 ?_
  refine z_put (ws' := [(h0, .inr (1, [.long (zl 1), .long (zl 0), .int (zi o), .long (zl 0), .long (zl va)]))]) E f_X1_18 t_X1_3 0 rfl rfl rfl (Nat.le_of_ble_eq_true rfl) rfl dX1_begin_12 ?_
  refine z_aload_n E 0 rfl rfl dX1_begin_15 ?_
  refine z_lconst1 E dX1_begin_16 ?_
  refine z_put (ws' := [(h0, .inr (1, [.long (zl 1), .long (zl 0), .int (zi o), .long (zl 0), .long (zl 1)]))]) E f_X1_21 t_X1_4 0 rfl rfl rfl (Nat.le_of_ble_eq_true rfl) rfl dX1_begin_17 ?_
  refine z_aload_n E 0 rfl rfl dX1_begin_20 ?_
  refine z_iconst E dX1_begin_21 ?_
  refine z_put (ws' := [(h0, .inr (1, [.long (zl 1), .long (zl 0), .int (zi 0), .long (zl 0), .long (zl 1)]))]) E f_X1_24 t_X1_2 0 rfl rfl rfl (Nat.le_of_ble_eq_true rfl) rfl dX1_begin_22 ?_
  exact fin _ _ _ (by first | exact rfl | omega) dX1_begin_25
abbrev rm_X1_isTooGreat : Room := { frames := 1, cells := 0, slots := 0, locals := 17 }
set_option maxRecDepth 100000 in
theorem c_X1_isTooGreat (l : Launch) (D : va_G) (κ : Nat → ClassId) (t : Int) (p : Int) (a : Int) (ht : -1000000 ≤ t ∧ t ≤ 1000000) (hp : -9000000000000000 ≤ p ∧ p ≤ 9000000000000000) (ha : -9000000000000000 ≤ a ∧ a ≤ 9000000000000000) : ZI l yX1_isTooGreat cX1_isTooGreat 8 .boolean rm_X1_isTooGreat D κ [.long (zl t), .long (zl p), .long (zl a)] [] (fun z w => ((1 = z ∧ (9000000000000000 < zabs ((t * p) + a))) ∨ (0 = z ∧ ¬ (9000000000000000 < zabs ((t * p) + a)))) ∧ [] = w) := by
  refine ZI.enter (own := RX1) rfl pn_X1_isTooGreat (Nat.le_of_ble_eq_true rfl) (fun X E fin => ?_)
  show Zg X [] 0 0 0 [(0, .long (zl t)), (2, .long (zl p)), (4, .long (zl a))] []
  have z1 := zabs_or t
  have z2 := zabs_or p
  have z3 := zabs_or a
  refine z_lload_n E 0 rfl rfl dX1_isTooGreat_0 ?_
  refine z_labs E (by omega) m_X1_32 st_abs i_Math co_abs (Nat.le_of_ble_eq_true rfl) (Nat.le_of_ble_eq_true rfl) (Nat.le_of_ble_eq_true rfl) (Nat.le_of_ble_eq_true rfl) dX1_isTooGreat_1 ?_
  refine z_lstore (lv' := [(6, .long (zl (zabs t))), (0, .long (zl t)), (2, .long (zl p)), (4, .long (zl a))]) E dX1_isTooGreat_4 (Nat.le_of_ble_eq_true rfl) rfl ?_
  refine z_lload E 0 rfl dX1_isTooGreat_6 ?_
  refine z_lconst0 E dX1_isTooGreat_8 ?_
  refine z_lc_le (tgt := 35) E (by omega) (by omega) dX1_isTooGreat_9 dX1_isTooGreat_10 (by decide) (fun h_9 => ?_) (fun h_9 => ?_)
  · have z6 := tg_bd (t := t) (p := p) (a := a) (Or.inl (by omega))
    have z7 := zabs_or ((t * p) + a)
    refine z_lload_n E 1 rfl rfl dX1_isTooGreat_35 ?_
    refine z_lload_n E 2 rfl rfl dX1_isTooGreat_36 ?_
    refine z_lmul E dX1_isTooGreat_37 ?_
    refine z_lload E 3 rfl dX1_isTooGreat_38 ?_
    refine z_ladd E dX1_isTooGreat_40 ?_
    refine z_labs E (by omega) m_X1_32 st_abs i_Math co_abs (Nat.le_of_ble_eq_true rfl) (Nat.le_of_ble_eq_true rfl) (Nat.le_of_ble_eq_true rfl) (Nat.le_of_ble_eq_true rfl) dX1_isTooGreat_41 ?_
    refine z_ldc2 E k_X1_38 dX1_isTooGreat_44 ?_
    refine z_lc_le (tgt := 55) E (by omega) (by omega) dX1_isTooGreat_47 dX1_isTooGreat_48 (by decide) (fun h_47 => ?_) (fun h_47 => ?_)
    · refine z_iconst E dX1_isTooGreat_55 ?_
      exact fin _ _ _ _ rfl (by first | exact ⟨Or.inr ⟨rfl, by omega⟩, rfl⟩ | omega) dX1_isTooGreat_56
    · refine z_iconst E dX1_isTooGreat_51 ?_
      refine z_goto (tgt := 56) E dX1_isTooGreat_52 (by decide) ?_
      exact fin _ _ _ _ rfl (by first | exact ⟨Or.inl ⟨rfl, by omega⟩, rfl⟩ | omega) dX1_isTooGreat_56
  · refine z_lload_n E 2 rfl rfl dX1_isTooGreat_13 ?_
    refine z_labs E (by omega) m_X1_32 st_abs i_Math co_abs (Nat.le_of_ble_eq_true rfl) (Nat.le_of_ble_eq_true rfl) (Nat.le_of_ble_eq_true rfl) (Nat.le_of_ble_eq_true rfl) dX1_isTooGreat_14 ?_
    refine z_ldc2 E k_X1_38 dX1_isTooGreat_17 ?_
    refine z_lload E 3 rfl dX1_isTooGreat_20 ?_
    refine z_labs E (by omega) m_X1_32 st_abs i_Math co_abs (Nat.le_of_ble_eq_true rfl) (Nat.le_of_ble_eq_true rfl) (Nat.le_of_ble_eq_true rfl) (Nat.le_of_ble_eq_true rfl) dX1_isTooGreat_22 ?_
    refine z_ladd E dX1_isTooGreat_25 ?_
    refine z_lload E 0 rfl dX1_isTooGreat_26 ?_
    have z4 := tdiv_bd (a := 9000000000000000 + (zabs a)) (b := zabs t) (by omega)
    have z5 := zabs_or (9000000000000000 + (zabs a))
    refine z_ldiv E (by omega) (by omega) (by omega) dX1_isTooGreat_28 ?_
    refine z_lc_le (tgt := 35) E (by omega) (by omega) dX1_isTooGreat_29 dX1_isTooGreat_30 (by decide) (fun h_29 => ?_) (fun h_29 => ?_)
    · have z6 := tg_bd (t := t) (p := p) (a := a) (Or.inr ⟨by omega, by omega⟩)
      have z7 := zabs_or ((t * p) + a)
      refine z_lload_n E 1 rfl rfl dX1_isTooGreat_35 ?_
      refine z_lload_n E 2 rfl rfl dX1_isTooGreat_36 ?_
      refine z_lmul E dX1_isTooGreat_37 ?_
      refine z_lload E 3 rfl dX1_isTooGreat_38 ?_
      refine z_ladd E dX1_isTooGreat_40 ?_
      refine z_labs E (by omega) m_X1_32 st_abs i_Math co_abs (Nat.le_of_ble_eq_true rfl) (Nat.le_of_ble_eq_true rfl) (Nat.le_of_ble_eq_true rfl) (Nat.le_of_ble_eq_true rfl) dX1_isTooGreat_41 ?_
      refine z_ldc2 E k_X1_38 dX1_isTooGreat_44 ?_
      refine z_lc_le (tgt := 55) E (by omega) (by omega) dX1_isTooGreat_47 dX1_isTooGreat_48 (by decide) (fun h_47 => ?_) (fun h_47 => ?_)
      · refine z_iconst E dX1_isTooGreat_55 ?_
        exact fin _ _ _ _ rfl (by first | exact ⟨Or.inr ⟨rfl, by omega⟩, rfl⟩ | omega) dX1_isTooGreat_56
      · refine z_iconst E dX1_isTooGreat_51 ?_
        refine z_goto (tgt := 56) E dX1_isTooGreat_52 (by decide) ?_
        exact fin _ _ _ _ rfl (by first | exact ⟨Or.inl ⟨rfl, by omega⟩, rfl⟩ | omega) dX1_isTooGreat_56
    · refine z_iconst E dX1_isTooGreat_33 ?_
      exact fin _ _ _ _ rfl (⟨Or.inl ⟨rfl, tg_big (by omega) (by omega)⟩, rfl⟩) dX1_isTooGreat_34
abbrev rm_X1_add : Room := { frames := 2, cells := 0, slots := 0, locals := 44 }
set_option maxRecDepth 100000 in
theorem c_X1_add (l : Launch) (D : va_G) (κ : Nat → ClassId) (h0 : Nat) (u : Int) (v : Int) (o : Int) (ua : Int) (va : Int) (t : Int) (ho : o = 0 ∨ o = 1) (ht : -1000000 ≤ t ∧ t ≤ 1000000) (hu : -9000000000000000 ≤ u ∧ u ≤ 9000000000000000) (hv : -9000000000000000 ≤ v ∧ v ≤ 9000000000000000) (hua : -9000000000000000 ≤ ua ∧ ua ≤ 9000000000000000) (hva : -9000000000000000 ≤ va ∧ va ≤ 9000000000000000) : ZV l yX1_add cX1_add 7 rm_X1_add D κ [.ref h0, .long (zl t)] [(h0, .inr (1, [.long (zl u), .long (zl v), .int (zi o), .long (zl ua), .long (zl va)]))] (fun w => ∃ u' : Int, ∃ v' : Int, ∃ o' : Int, ∃ ua' : Int, ∃ va' : Int, (chAdd t (u, v, o, ua, va) = (u', v', o', ua', va')) ∧ [(h0, .inr (1, [.long (zl u'), .long (zl v'), .int (zi o'), .long (zl ua'), .long (zl va')]))] = w) := by
  refine ZV.enter (own := RX1) rfl pn_X1_add (Nat.le_of_ble_eq_true rfl) (fun X E fin => ?_)
  show Zg X [(h0, .inr (1, [.long (zl u), .long (zl v), .int (zi o), .long (zl ua), .long (zl va)]))] 0 0 0 [(0, .ref h0), (1, .long (zl t))] []
  refine z_aload_n E 0 rfl rfl dX1_add_0 ?_
  refine z_get E f_X1_24 0 rfl rfl dX1_add_1 ?_
  refine z_if_ne (tgt := 37) E (by omega) dX1_add_4 (by decide) (fun h_4 => ?_) (fun h_4 => ?_)
  · refine z_aload_n E 0 rfl rfl dX1_add_37 ?_
    refine z_iconst E dX1_add_38 ?_
    refine z_put (ws' := [(h0, .inr (1, [.long (zl u), .long (zl v), .int (zi 1), .long (zl ua), .long (zl va)]))]) E f_X1_24 t_X1_2 0 rfl rfl rfl (Nat.le_of_ble_eq_true rfl) rfl dX1_add_39 ?_
    exact fin _ _ _ (⟨_, _, _, _, _, chAdd_over (by omega), rfl⟩) dX1_add_42
  · refine z_lload_n E 1 rfl rfl dX1_add_7 ?_
    refine z_aload_n E 0 rfl rfl dX1_add_8 ?_
    refine z_get E f_X1_9 0 rfl rfl dX1_add_9 ?_
    refine z_aload_n E 0 rfl rfl dX1_add_12 ?_
    refine z_get E f_X1_18 0 rfl rfl dX1_add_13 ?_
    refine z_callSi (As := [.long (zl t), .long (zl u), .long (zl ua)]) (rest := []) (wr := [(h0, .inr (1, [.long (zl u), .long (zl v), .int (zi o), .long (zl ua), .long (zl va)]))]) E (c_X1_isTooGreat l D κ t u ua (by omega) (by omega) (by omega)) m_X1_28 ⟨Nat.le_of_ble_eq_true rfl, Nat.le_of_ble_eq_true rfl⟩ ⟨rfl, rfl⟩ [] [0] rfl rfl rfl rfl (by decide) rfl rfl (Nat.le_of_ble_eq_true rfl) dX1_add_16 ⟨Nat.le_of_ble_eq_true rfl, Nat.le_of_ble_eq_true rfl⟩ (fun z16 w1 hq => ?_)
    obtain ⟨⟨rfl, hc_16⟩ | ⟨rfl, hc_16⟩, rfl⟩ := hq
    · refine z_if_ne (tgt := 37) E (by omega) dX1_add_19 (by decide) (fun _ => ?_) (fun h => absurd h (by decide))
      refine z_aload_n E 0 rfl rfl dX1_add_37 ?_
      refine z_iconst E dX1_add_38 ?_
      refine z_put (ws' := [(h0, .inr (1, [.long (zl u), .long (zl v), .int (zi 1), .long (zl ua), .long (zl va)]))]) E f_X1_24 t_X1_2 0 rfl rfl rfl (Nat.le_of_ble_eq_true rfl) rfl dX1_add_39 ?_
      exact fin _ _ _ (⟨_, _, _, _, _, chAdd_over (by omega), rfl⟩) dX1_add_42
    · refine z_if_ne (tgt := 37) E (by omega) dX1_add_19 (by decide) (fun h => absurd h (by decide)) (fun _ => ?_)
      refine z_lload_n E 1 rfl rfl dX1_add_22 ?_
      refine z_aload_n E 0 rfl rfl dX1_add_23 ?_
      refine z_get E f_X1_15 0 rfl rfl dX1_add_24 ?_
      refine z_aload_n E 0 rfl rfl dX1_add_27 ?_
      refine z_get E f_X1_21 0 rfl rfl dX1_add_28 ?_
      refine z_callSi (As := [.long (zl t), .long (zl v), .long (zl va)]) (rest := []) (wr := [(h0, .inr (1, [.long (zl u), .long (zl v), .int (zi o), .long (zl ua), .long (zl va)]))]) E (c_X1_isTooGreat l D κ t v va (by omega) (by omega) (by omega)) m_X1_28 ⟨Nat.le_of_ble_eq_true rfl, Nat.le_of_ble_eq_true rfl⟩ ⟨rfl, rfl⟩ [] [0] rfl rfl rfl rfl (by decide) rfl rfl (Nat.le_of_ble_eq_true rfl) dX1_add_31 ⟨Nat.le_of_ble_eq_true rfl, Nat.le_of_ble_eq_true rfl⟩ (fun z31 w1 hq => ?_)
      obtain ⟨⟨rfl, hc_31⟩ | ⟨rfl, hc_31⟩, rfl⟩ := hq
      · refine z_if_eq (tgt := 43) E (by omega) dX1_add_34 (by decide) (fun h => absurd h (by decide)) (fun _ => ?_)
        refine z_aload_n E 0 rfl rfl dX1_add_37 ?_
        refine z_iconst E dX1_add_38 ?_
        refine z_put (ws' := [(h0, .inr (1, [.long (zl u), .long (zl v), .int (zi 1), .long (zl ua), .long (zl va)]))]) E f_X1_24 t_X1_2 0 rfl rfl rfl (Nat.le_of_ble_eq_true rfl) rfl dX1_add_39 ?_
        exact fin _ _ _ (⟨_, _, _, _, _, chAdd_over (by omega), rfl⟩) dX1_add_42
      · refine z_if_eq (tgt := 43) E (by omega) dX1_add_34 (by decide) (fun _ => ?_) (fun h => absurd h (by decide))
        have ho0 : o = 0 := by omega
        subst ho0
        refine z_lload_n E 1 rfl rfl dX1_add_43 ?_
        refine z_aload_n E 0 rfl rfl dX1_add_44 ?_
        refine z_get E f_X1_9 0 rfl rfl dX1_add_45 ?_
        refine z_lmul E dX1_add_48 ?_
        refine z_aload_n E 0 rfl rfl dX1_add_49 ?_
        refine z_get E f_X1_18 0 rfl rfl dX1_add_50 ?_
        refine z_ladd E dX1_add_53 ?_
        refine z_lstore_n (lv' := [(3, .long (zl ((t * u) + ua))), (0, .ref h0), (1, .long (zl t))]) E dX1_add_54 rfl (Nat.le_of_ble_eq_true rfl) rfl ?_
        refine z_lload_n E 2 rfl rfl dX1_add_55 ?_
        refine z_aload_n E 1 rfl rfl dX1_add_56 ?_
        refine z_get E f_X1_15 0 rfl rfl dX1_add_57 ?_
        refine z_lmul E dX1_add_60 ?_
        refine z_aload_n E 1 rfl rfl dX1_add_61 ?_
        refine z_get E f_X1_21 0 rfl rfl dX1_add_62 ?_
        refine z_ladd E dX1_add_65 ?_
        refine z_lstore (lv' := [(5, .long (zl ((t * v) + va))), (3, .long (zl ((t * u) + ua))), (0, .ref h0), (1, .long (zl t))]) E dX1_add_66 (Nat.le_of_ble_eq_true rfl) rfl ?_
        refine z_aload_n E 2 rfl rfl dX1_add_68 ?_
        refine z_aload_n E 2 rfl rfl dX1_add_69 ?_
        refine z_get E f_X1_9 0 rfl rfl dX1_add_70 ?_
        refine z_put (ws' := [(h0, .inr (1, [.long (zl u), .long (zl v), .int (zi 0), .long (zl u), .long (zl va)]))]) E f_X1_18 t_X1_3 0 rfl rfl rfl (Nat.le_of_ble_eq_true rfl) rfl dX1_add_73 ?_
        refine z_aload_n E 2 rfl rfl dX1_add_76 ?_
        refine z_aload_n E 2 rfl rfl dX1_add_77 ?_
        refine z_get E f_X1_15 0 rfl rfl dX1_add_78 ?_
        refine z_put (ws' := [(h0, .inr (1, [.long (zl u), .long (zl v), .int (zi 0), .long (zl u), .long (zl v)]))]) E f_X1_21 t_X1_4 0 rfl rfl rfl (Nat.le_of_ble_eq_true rfl) rfl dX1_add_81 ?_
        refine z_aload_n E 2 rfl rfl dX1_add_84 ?_
        refine z_lload_n E 1 rfl rfl dX1_add_85 ?_
        refine z_put (ws' := [(h0, .inr (1, [.long (zl ((t * u) + ua)), .long (zl v), .int (zi 0), .long (zl u), .long (zl v)]))]) E f_X1_9 t_X1_0 0 rfl rfl rfl (Nat.le_of_ble_eq_true rfl) rfl dX1_add_86 ?_
        refine z_aload_n E 2 rfl rfl dX1_add_89 ?_
        refine z_lload E 0 rfl dX1_add_90 ?_
        refine z_put (ws' := [(h0, .inr (1, [.long (zl ((t * u) + ua)), .long (zl ((t * v) + va)), .int (zi 0), .long (zl u), .long (zl v)]))]) E f_X1_15 t_X1_1 0 rfl rfl rfl (Nat.le_of_ble_eq_true rfl) rfl dX1_add_92 ?_
        exact fin _ _ _ (⟨_, _, _, _, _, chAdd_go (by omega), rfl⟩) dX1_add_95
abbrev rm_X8_init : Room := { frames := 1, cells := 0, slots := 0, locals := 12 }
set_option maxRecDepth 100000 in
theorem c_X8_init (l : Launch) (D : va_G) (κ : Nat → ClassId) (h0 : Nat)  : ZV l yX8_init cX8_init 1 rm_X8_init D κ [.ref h0] [(h0, .inr (8, [.int (zi 0), .int (zi 0), .int (zi 0)]))] (fun w => [(h0, .inr (8, [.int (zi 0), .int (zi 2), .int (zi 1)]))] = w) := by
  refine ZV.enter0 (own := RX8) rfl pn_X8_init (Nat.le_of_ble_eq_true rfl) (fun X E hini fin => ?_)
  have hini := hini rfl
  show Zg X [(h0, .inr (8, [.int (zi 0), .int (zi 0), .int (zi 0)]))] 0 0 0 [(0, .ref h0)] []
  refine z_aload_n E 0 rfl rfl dX8_init_0 ?_
  refine z_objInit E m_X8_1 in_obj co_obj (Nat.le_of_ble_eq_true rfl) (Nat.le_of_ble_eq_true rfl) dX8_init_1 ?_
  refine z_aload_n E 0 rfl rfl dX8_init_4 ?_
  refine z_iconst E dX8_init_5 ?_
  refine z_put (ws' := [(h0, .inr (8, [.int (zi 0), .int (zi 2), .int (zi 0)]))]) E f_X8_7 t_X8_1 0 rfl rfl rfl (Nat.le_of_ble_eq_true rfl) rfl dX8_init_6 ?_
  refine z_aload_n E 0 rfl rfl dX8_init_9 ?_
  refine z_iconst E dX8_init_10 ?_
  refine z_put (ws' := [(h0, .inr (8, [.int (zi 0), .int (zi 2), .int (zi 1)]))]) E f_X8_13 t_X8_2 0 rfl rfl rfl (Nat.le_of_ble_eq_true rfl) rfl dX8_init_11 ?_
  exact fin _ _ _ (by first | exact rfl | omega) dX8_init_14
abbrev rm_X8_set : Room := { frames := 0, cells := 0, slots := 0, locals := 0 }
set_option maxRecDepth 100000 in
theorem c_X8_set (l : Launch) (D : va_G) (κ : Nat → ClassId) (h0 : Nat) (p : Int) (d : Int) (q : Int) (a : Int) (b : Int) (c : Int)  : ZV l yX8_set cX8_set 4 rm_X8_set D κ [.ref h0, .int (zi a), .int (zi b), .int (zi c)] [(h0, .inr (8, [.int (zi p), .int (zi d), .int (zi q)]))] (fun w => [(h0, .inr (8, [.int (zi a), .int (zi b), .int (zi c)]))] = w) := by
  refine ZV.enter (own := RX8) rfl pn_X8_set (Nat.le_of_ble_eq_true rfl) (fun X E fin => ?_)
  show Zg X [(h0, .inr (8, [.int (zi p), .int (zi d), .int (zi q)]))] 0 0 0 [(0, .ref h0), (1, .int (zi a)), (2, .int (zi b)), (3, .int (zi c))] []
  refine z_aload_n E 0 rfl rfl dX8_set_0 ?_
  refine z_iload_n E 1 rfl rfl dX8_set_1 ?_
  refine z_put (ws' := [(h0, .inr (8, [.int (zi a), .int (zi d), .int (zi q)]))]) E f_X8_16 t_X8_0 0 rfl rfl rfl (Nat.le_of_ble_eq_true rfl) rfl dX8_set_2 ?_
  refine z_aload_n E 0 rfl rfl dX8_set_5 ?_
  refine z_iload_n E 2 rfl rfl dX8_set_6 ?_
  refine z_put (ws' := [(h0, .inr (8, [.int (zi a), .int (zi b), .int (zi q)]))]) E f_X8_7 t_X8_1 0 rfl rfl rfl (Nat.le_of_ble_eq_true rfl) rfl dX8_set_7 ?_
  refine z_aload_n E 0 rfl rfl dX8_set_10 ?_
  refine z_iload_n E 3 rfl rfl dX8_set_11 ?_
  refine z_put (ws' := [(h0, .inr (8, [.int (zi a), .int (zi b), .int (zi c)]))]) E f_X8_13 t_X8_2 0 rfl rfl rfl (Nat.le_of_ble_eq_true rfl) rfl dX8_set_12 ?_
  exact fin _ _ _ (by first | exact rfl | omega) dX8_set_15
abbrev rm_X8_isPassedBy : Room := { frames := 0, cells := 0, slots := 0, locals := 0 }
set_option maxRecDepth 100000 in
theorem c_X8_isPassedBy (l : Launch) (D : va_G) (κ : Nat → ClassId) (h0 : Nat) (p : Int) (d : Int) (q : Int) (n : Int) (m : Int) (hp : -99 ≤ p ∧ p ≤ 99) (hd : 2 ≤ d ∧ d ≤ 999) (hq : -99 ≤ q ∧ q ≤ 99) (hn : -12500000 ≤ n ∧ n ≤ 12500000) (hm : 1 ≤ m ∧ m ≤ 80000) : ZI l yX8_isPassedBy cX8_isPassedBy 8 .boolean rm_X8_isPassedBy D κ [.ref h0, .long (zl n), .long (zl m)] [(h0, .inr (8, [.int (zi p), .int (zi d), .int (zi q)]))] (fun z w => ((1 = z ∧ (abv p d q n m = true)) ∨ (0 = z ∧ ¬ (abv p d q n m = true))) ∧ [(h0, .inr (8, [.int (zi p), .int (zi d), .int (zi q)]))] = w) := by
  refine ZI.enter (own := RX8) rfl pn_X8_isPassedBy (Nat.le_of_ble_eq_true rfl) (fun X E fin => ?_)
  show Zg X [(h0, .inr (8, [.int (zi p), .int (zi d), .int (zi q)]))] 0 0 0 [(0, .ref h0), (1, .long (zl n)), (3, .long (zl m))] []
  have b1 := mul_bd (a := q) (b := n) (M := 99) (N := 12500000) hq hn
  have b2 := mul_bd (a := p) (b := m) (M := 99) (N := 80000) hp (by omega)
  have b3 := sq_bd (a := (q * n) - (p * m)) (M := 1245420000) (by omega)
  have b4 := sq_bd (a := m) (M := 80000) (by omega)
  have b5 := mul_bd (a := m * m) (b := d) (M := 6400000000) (N := 999) (by omega) (by omega)
  refine z_aload_n E 0 rfl rfl dX8_isPassedBy_0 ?_
  refine z_get E f_X8_13 0 rfl rfl dX8_isPassedBy_1 ?_
  refine z_i2l E (by omega) dX8_isPassedBy_4 ?_
  refine z_lload_n E 1 rfl rfl dX8_isPassedBy_5 ?_
  refine z_lmul E dX8_isPassedBy_6 ?_
  refine z_aload_n E 0 rfl rfl dX8_isPassedBy_7 ?_
  refine z_get E f_X8_16 0 rfl rfl dX8_isPassedBy_8 ?_
  refine z_i2l E (by omega) dX8_isPassedBy_11 ?_
  refine z_lload_n E 2 rfl rfl dX8_isPassedBy_12 ?_
  refine z_lmul E dX8_isPassedBy_13 ?_
  refine z_lsub E dX8_isPassedBy_14 ?_
  refine z_lstore (lv' := [(5, .long (zl ((q * n) - (p * m)))), (0, .ref h0), (1, .long (zl n)), (3, .long (zl m))]) E dX8_isPassedBy_15 (Nat.le_of_ble_eq_true rfl) rfl ?_
  refine z_lload E 0 rfl dX8_isPassedBy_17 ?_
  refine z_lconst0 E dX8_isPassedBy_19 ?_
  refine z_lc_le (tgt := 46) E (by omega) (by omega) dX8_isPassedBy_20 dX8_isPassedBy_21 (by decide) (fun h_20 => ?_) (fun h_20 => ?_)
  · refine z_iconst E dX8_isPassedBy_46 ?_
    refine z_istore (lv' := [(7, .int (zi 0)), (5, .long (zl ((q * n) - (p * m)))), (0, .ref h0), (1, .long (zl n)), (3, .long (zl m))]) E dX8_isPassedBy_47 (Nat.le_of_ble_eq_true rfl) rfl ?_
    refine z_iload E 0 rfl dX8_isPassedBy_49 ?_
    refine z_aload_n E 2 rfl rfl dX8_isPassedBy_51 ?_
    refine z_get E f_X8_13 0 rfl rfl dX8_isPassedBy_52 ?_
    refine z_if_le (tgt := 62) E (by omega) dX8_isPassedBy_55 (by decide) (fun h_55 => ?_) (fun h_55 => ?_)
    · refine z_iconst E dX8_isPassedBy_62 ?_
      refine z_ic_ne (tgt := 70) E (by omega) (by omega) dX8_isPassedBy_63 (by decide) (fun h => absurd h (by decide)) (fun _ => ?_)
      refine z_iconst E dX8_isPassedBy_66 ?_
      refine z_goto (tgt := 71) E dX8_isPassedBy_67 (by decide) ?_
      exact fin _ _ _ _ rfl (⟨Or.inl ⟨rfl, by rw [abv_iff]; omega⟩, rfl⟩) dX8_isPassedBy_71
    · refine z_iconst E dX8_isPassedBy_58 ?_
      refine z_goto (tgt := 63) E dX8_isPassedBy_59 (by decide) ?_
      refine z_ic_ne (tgt := 70) E (by omega) (by omega) dX8_isPassedBy_63 (by decide) (fun _ => ?_) (fun h => absurd h (by decide))
      refine z_iconst E dX8_isPassedBy_70 ?_
      exact fin _ _ _ _ rfl (⟨Or.inr ⟨rfl, by rw [abv_iff]; omega⟩, rfl⟩) dX8_isPassedBy_71
  · refine z_lload E 0 rfl dX8_isPassedBy_24 ?_
    refine z_lload E 0 rfl dX8_isPassedBy_26 ?_
    refine z_lmul E dX8_isPassedBy_28 ?_
    refine z_lload_n E 3 rfl rfl dX8_isPassedBy_29 ?_
    refine z_lload_n E 3 rfl rfl dX8_isPassedBy_30 ?_
    refine z_lmul E dX8_isPassedBy_31 ?_
    refine z_aload_n E 1 rfl rfl dX8_isPassedBy_32 ?_
    refine z_get E f_X8_7 0 rfl rfl dX8_isPassedBy_33 ?_
    refine z_i2l E (by omega) dX8_isPassedBy_36 ?_
    refine z_lmul E dX8_isPassedBy_37 ?_
    refine z_lc_le (tgt := 46) E (by omega) (by omega) dX8_isPassedBy_38 dX8_isPassedBy_39 (by decide) (fun h_38 => ?_) (fun h_38 => ?_)
    · refine z_iconst E dX8_isPassedBy_46 ?_
      refine z_istore (lv' := [(7, .int (zi 0)), (5, .long (zl ((q * n) - (p * m)))), (0, .ref h0), (1, .long (zl n)), (3, .long (zl m))]) E dX8_isPassedBy_47 (Nat.le_of_ble_eq_true rfl) rfl ?_
      refine z_iload E 0 rfl dX8_isPassedBy_49 ?_
      refine z_aload_n E 2 rfl rfl dX8_isPassedBy_51 ?_
      refine z_get E f_X8_13 0 rfl rfl dX8_isPassedBy_52 ?_
      refine z_if_le (tgt := 62) E (by omega) dX8_isPassedBy_55 (by decide) (fun h_55 => ?_) (fun h_55 => ?_)
      · refine z_iconst E dX8_isPassedBy_62 ?_
        refine z_ic_ne (tgt := 70) E (by omega) (by omega) dX8_isPassedBy_63 (by decide) (fun h => absurd h (by decide)) (fun _ => ?_)
        refine z_iconst E dX8_isPassedBy_66 ?_
        refine z_goto (tgt := 71) E dX8_isPassedBy_67 (by decide) ?_
        exact fin _ _ _ _ rfl (⟨Or.inl ⟨rfl, by rw [abv_iff]; omega⟩, rfl⟩) dX8_isPassedBy_71
      · refine z_iconst E dX8_isPassedBy_58 ?_
        refine z_goto (tgt := 63) E dX8_isPassedBy_59 (by decide) ?_
        refine z_ic_ne (tgt := 70) E (by omega) (by omega) dX8_isPassedBy_63 (by decide) (fun _ => ?_) (fun h => absurd h (by decide))
        refine z_iconst E dX8_isPassedBy_70 ?_
        exact fin _ _ _ _ rfl (⟨Or.inr ⟨rfl, by rw [abv_iff]; omega⟩, rfl⟩) dX8_isPassedBy_71
    · refine z_iconst E dX8_isPassedBy_42 ?_
      refine z_goto (tgt := 47) E dX8_isPassedBy_43 (by decide) ?_
      refine z_istore (lv' := [(7, .int (zi 1)), (5, .long (zl ((q * n) - (p * m)))), (0, .ref h0), (1, .long (zl n)), (3, .long (zl m))]) E dX8_isPassedBy_47 (Nat.le_of_ble_eq_true rfl) rfl ?_
      refine z_iload E 0 rfl dX8_isPassedBy_49 ?_
      refine z_aload_n E 2 rfl rfl dX8_isPassedBy_51 ?_
      refine z_get E f_X8_13 0 rfl rfl dX8_isPassedBy_52 ?_
      refine z_if_le (tgt := 62) E (by omega) dX8_isPassedBy_55 (by decide) (fun h_55 => ?_) (fun h_55 => ?_)
      · refine z_iconst E dX8_isPassedBy_62 ?_
        refine z_ic_ne (tgt := 70) E (by omega) (by omega) dX8_isPassedBy_63 (by decide) (fun _ => ?_) (fun h => absurd h (by decide))
        refine z_iconst E dX8_isPassedBy_70 ?_
        exact fin _ _ _ _ rfl (⟨Or.inr ⟨rfl, by rw [abv_iff]; omega⟩, rfl⟩) dX8_isPassedBy_71
      · refine z_iconst E dX8_isPassedBy_58 ?_
        refine z_goto (tgt := 63) E dX8_isPassedBy_59 (by decide) ?_
        refine z_ic_ne (tgt := 70) E (by omega) (by omega) dX8_isPassedBy_63 (by decide) (fun h => absurd h (by decide)) (fun _ => ?_)
        refine z_iconst E dX8_isPassedBy_66 ?_
        refine z_goto (tgt := 71) E dX8_isPassedBy_67 (by decide) ?_
        exact fin _ _ _ _ rfl (⟨Or.inl ⟨rfl, by rw [abv_iff]; omega⟩, rfl⟩) dX8_isPassedBy_71
abbrev rm_X8_isNearer : Room := { frames := 1, cells := 0, slots := 0, locals := 27 }
set_option maxRecDepth 100000 in
theorem c_X8_isNearer (l : Launch) (D : va_G) (κ : Nat → ClassId) (h0 : Nat) (p : Int) (d : Int) (q : Int) (a : Int) (b : Int) (c : Int) (e : Int) (hp : -99 ≤ p ∧ p ≤ 99) (hd : 2 ≤ d ∧ d ≤ 999) (hq : -99 ≤ q ∧ q ≤ 99) (h1 : okF a b) (h2 : okF c e) : ZI l yX8_isNearer cX8_isNearer 14 .boolean rm_X8_isNearer D κ [.ref h0, .long (zl a), .long (zl b), .long (zl c), .long (zl e)] [(h0, .inr (8, [.int (zi p), .int (zi d), .int (zi q)]))] (fun z w => ((1 = z ∧ (nrr p d q a b c e = true)) ∨ (0 = z ∧ ¬ (nrr p d q a b c e = true))) ∧ [(h0, .inr (8, [.int (zi p), .int (zi d), .int (zi q)]))] = w) := by
  refine ZI.enter (own := RX8) rfl pn_X8_isNearer (Nat.le_of_ble_eq_true rfl) (fun X E fin => ?_)
  show Zg X [(h0, .inr (8, [.int (zi p), .int (zi d), .int (zi q)]))] 0 0 0 [(0, .ref h0), (1, .long (zl a)), (3, .long (zl b)), (5, .long (zl c)), (7, .long (zl e))] []
  have b1 := okF_mul h1 h2
  unfold okF at h1 h2
  refine z_aload_n E 0 rfl rfl dX8_isNearer_0 ?_
  refine z_lload_n E 1 rfl rfl dX8_isNearer_1 ?_
  refine z_lload_n E 2 rfl rfl dX8_isNearer_2 ?_
  refine z_callVi (As := [.long (zl a), .long (zl b)]) (rest := []) (wr := []) E (c_X8_isPassedBy l D κ h0 p d q a b (by omega) (by omega) (by omega) (by omega) (by omega)) m_X8_19 ⟨Nat.le_of_ble_eq_true rfl, Nat.le_of_ble_eq_true rfl⟩ ⟨rfl, rfl⟩ [0] [] rfl rfl rfl rfl (by decide) rfl rfl rfl rfl (Nat.le_of_ble_eq_true rfl) dX8_isNearer_3 ⟨Nat.le_of_ble_eq_true rfl, Nat.le_of_ble_eq_true rfl⟩ (fun z3 w1 hq => ?_)
  obtain ⟨⟨rfl, hc_3⟩ | ⟨rfl, hc_3⟩, rfl⟩ := hq
  · refine z_istore (lv' := [(9, .int (zi 1)), (0, .ref h0), (1, .long (zl a)), (3, .long (zl b)), (5, .long (zl c)), (7, .long (zl e))]) E dX8_isNearer_6 (Nat.le_of_ble_eq_true rfl) rfl ?_
    refine z_lload_n E 2 rfl rfl dX8_isNearer_8 ?_
    refine z_lload E 5 rfl dX8_isNearer_9 ?_
    refine z_lmul E dX8_isNearer_11 ?_
    refine z_lstore (lv' := [(10, .long (zl (a * e))), (9, .int (zi 1)), (0, .ref h0), (1, .long (zl a)), (3, .long (zl b)), (5, .long (zl c)), (7, .long (zl e))]) E dX8_isNearer_12 (Nat.le_of_ble_eq_true rfl) rfl ?_
    refine z_lload E 5 rfl dX8_isNearer_14 ?_
    refine z_lload_n E 4 rfl rfl dX8_isNearer_16 ?_
    refine z_lmul E dX8_isNearer_17 ?_
    refine z_lstore (lv' := [(12, .long (zl (c * b))), (10, .long (zl (a * e))), (9, .int (zi 1)), (0, .ref h0), (1, .long (zl a)), (3, .long (zl b)), (5, .long (zl c)), (7, .long (zl e))]) E dX8_isNearer_18 (Nat.le_of_ble_eq_true rfl) rfl ?_
    refine z_iload E 2 rfl dX8_isNearer_20 ?_
    refine z_aload_n E 3 rfl rfl dX8_isNearer_22 ?_
    refine z_lload E 6 rfl dX8_isNearer_23 ?_
    refine z_lload E 7 rfl dX8_isNearer_25 ?_
    refine z_callVi (As := [.long (zl c), .long (zl e)]) (rest := [.int (zi 1)]) (wr := []) E (c_X8_isPassedBy l D κ h0 p d q c e (by omega) (by omega) (by omega) (by omega) (by omega)) m_X8_19 ⟨Nat.le_of_ble_eq_true rfl, Nat.le_of_ble_eq_true rfl⟩ ⟨rfl, rfl⟩ [0] [] rfl rfl rfl rfl (by decide) rfl rfl rfl rfl (Nat.le_of_ble_eq_true rfl) dX8_isNearer_27 ⟨Nat.le_of_ble_eq_true rfl, Nat.le_of_ble_eq_true rfl⟩ (fun z27 w1 hq => ?_)
    obtain ⟨⟨rfl, hc_27⟩ | ⟨rfl, hc_27⟩, rfl⟩ := hq
    · refine z_ic_ne (tgt := 68) E (by omega) (by omega) dX8_isNearer_30 (by decide) (fun h => absurd h (by decide)) (fun _ => ?_)
      refine z_iload E 2 rfl dX8_isNearer_33 ?_
      refine z_if_eq (tgt := 54) E (by omega) dX8_isNearer_35 (by decide) (fun h => absurd h (by decide)) (fun _ => ?_)
      refine z_lload E 1 rfl dX8_isNearer_38 ?_
      refine z_lload E 0 rfl dX8_isNearer_40 ?_
      refine z_lc_ge (tgt := 50) E (by omega) (by omega) dX8_isNearer_42 dX8_isNearer_43 (by decide) (fun h_42 => ?_) (fun h_42 => ?_)
      · refine z_iconst E dX8_isNearer_50 ?_
        refine z_goto (tgt := 67) E dX8_isNearer_51 (by decide) ?_
        exact fin _ _ _ _ rfl (⟨Or.inr ⟨rfl, by rw [nrr_tt hc_3 hc_27]; omega⟩, rfl⟩) dX8_isNearer_67
      · refine z_iconst E dX8_isNearer_46 ?_
        refine z_goto (tgt := 67) E dX8_isNearer_47 (by decide) ?_
        exact fin _ _ _ _ rfl (⟨Or.inl ⟨rfl, by rw [nrr_tt hc_3 hc_27]; omega⟩, rfl⟩) dX8_isNearer_67
    · refine z_ic_ne (tgt := 68) E (by omega) (by omega) dX8_isNearer_30 (by decide) (fun _ => ?_) (fun h => absurd h (by decide))
      refine z_iload E 2 rfl dX8_isNearer_68 ?_
      refine z_aload_n E 3 rfl rfl dX8_isNearer_70 ?_
      refine z_lload E 1 rfl dX8_isNearer_71 ?_
      refine z_lload E 0 rfl dX8_isNearer_73 ?_
      refine z_ladd E dX8_isNearer_75 ?_
      refine z_ldc2 E k_X8_23 dX8_isNearer_76 ?_
      refine z_lload_n E 5 rfl rfl dX8_isNearer_79 ?_
      refine z_lmul E dX8_isNearer_80 ?_
      refine z_lload E 7 rfl dX8_isNearer_81 ?_
      refine z_lmul E dX8_isNearer_83 ?_
      refine z_callVi (As := [.long (zl ((a * e) + (c * b))), .long (zl ((2 * b) * e))]) (rest := [.int (zi 1)]) (wr := []) E (c_X8_isPassedBy l D κ h0 p d q ((a * e) + (c * b)) ((2 * b) * e) (by omega) (by omega) (by omega) (by omega) (by omega)) m_X8_19 ⟨Nat.le_of_ble_eq_true rfl, Nat.le_of_ble_eq_true rfl⟩ ⟨rfl, rfl⟩ [0] [] rfl rfl rfl rfl (by decide) rfl rfl rfl rfl (Nat.le_of_ble_eq_true rfl) dX8_isNearer_84 ⟨Nat.le_of_ble_eq_true rfl, Nat.le_of_ble_eq_true rfl⟩ (fun z84 w1 hq => ?_)
      obtain ⟨⟨rfl, hc_84⟩ | ⟨rfl, hc_84⟩, rfl⟩ := hq
      · refine z_ic_eq (tgt := 94) E (by omega) (by omega) dX8_isNearer_87 (by decide) (fun _ => ?_) (fun h => absurd h (by decide))
        refine z_iconst E dX8_isNearer_94 ?_
        exact fin _ _ _ _ rfl (⟨Or.inr ⟨rfl, by rw [nrr_tf hc_3 hc_27]; simpa using hc_84⟩, rfl⟩) dX8_isNearer_95
      · refine z_ic_eq (tgt := 94) E (by omega) (by omega) dX8_isNearer_87 (by decide) (fun h => absurd h (by decide)) (fun _ => ?_)
        refine z_iconst E dX8_isNearer_90 ?_
        refine z_goto (tgt := 95) E dX8_isNearer_91 (by decide) ?_
        exact fin _ _ _ _ rfl (⟨Or.inl ⟨rfl, by rw [nrr_tf hc_3 hc_27]; simpa using hc_84⟩, rfl⟩) dX8_isNearer_95
  · refine z_istore (lv' := [(9, .int (zi 0)), (0, .ref h0), (1, .long (zl a)), (3, .long (zl b)), (5, .long (zl c)), (7, .long (zl e))]) E dX8_isNearer_6 (Nat.le_of_ble_eq_true rfl) rfl ?_
    refine z_lload_n E 2 rfl rfl dX8_isNearer_8 ?_
    refine z_lload E 5 rfl dX8_isNearer_9 ?_
    refine z_lmul E dX8_isNearer_11 ?_
    refine z_lstore (lv' := [(10, .long (zl (a * e))), (9, .int (zi 0)), (0, .ref h0), (1, .long (zl a)), (3, .long (zl b)), (5, .long (zl c)), (7, .long (zl e))]) E dX8_isNearer_12 (Nat.le_of_ble_eq_true rfl) rfl ?_
    refine z_lload E 5 rfl dX8_isNearer_14 ?_
    refine z_lload_n E 4 rfl rfl dX8_isNearer_16 ?_
    refine z_lmul E dX8_isNearer_17 ?_
    refine z_lstore (lv' := [(12, .long (zl (c * b))), (10, .long (zl (a * e))), (9, .int (zi 0)), (0, .ref h0), (1, .long (zl a)), (3, .long (zl b)), (5, .long (zl c)), (7, .long (zl e))]) E dX8_isNearer_18 (Nat.le_of_ble_eq_true rfl) rfl ?_
    refine z_iload E 2 rfl dX8_isNearer_20 ?_
    refine z_aload_n E 3 rfl rfl dX8_isNearer_22 ?_
    refine z_lload E 6 rfl dX8_isNearer_23 ?_
    refine z_lload E 7 rfl dX8_isNearer_25 ?_
    refine z_callVi (As := [.long (zl c), .long (zl e)]) (rest := [.int (zi 0)]) (wr := []) E (c_X8_isPassedBy l D κ h0 p d q c e (by omega) (by omega) (by omega) (by omega) (by omega)) m_X8_19 ⟨Nat.le_of_ble_eq_true rfl, Nat.le_of_ble_eq_true rfl⟩ ⟨rfl, rfl⟩ [0] [] rfl rfl rfl rfl (by decide) rfl rfl rfl rfl (Nat.le_of_ble_eq_true rfl) dX8_isNearer_27 ⟨Nat.le_of_ble_eq_true rfl, Nat.le_of_ble_eq_true rfl⟩ (fun z27 w1 hq => ?_)
    obtain ⟨⟨rfl, hc_27⟩ | ⟨rfl, hc_27⟩, rfl⟩ := hq
    · refine z_ic_ne (tgt := 68) E (by omega) (by omega) dX8_isNearer_30 (by decide) (fun _ => ?_) (fun h => absurd h (by decide))
      refine z_iload E 2 rfl dX8_isNearer_68 ?_
      refine z_aload_n E 3 rfl rfl dX8_isNearer_70 ?_
      refine z_lload E 1 rfl dX8_isNearer_71 ?_
      refine z_lload E 0 rfl dX8_isNearer_73 ?_
      refine z_ladd E dX8_isNearer_75 ?_
      refine z_ldc2 E k_X8_23 dX8_isNearer_76 ?_
      refine z_lload_n E 5 rfl rfl dX8_isNearer_79 ?_
      refine z_lmul E dX8_isNearer_80 ?_
      refine z_lload E 7 rfl dX8_isNearer_81 ?_
      refine z_lmul E dX8_isNearer_83 ?_
      refine z_callVi (As := [.long (zl ((a * e) + (c * b))), .long (zl ((2 * b) * e))]) (rest := [.int (zi 0)]) (wr := []) E (c_X8_isPassedBy l D κ h0 p d q ((a * e) + (c * b)) ((2 * b) * e) (by omega) (by omega) (by omega) (by omega) (by omega)) m_X8_19 ⟨Nat.le_of_ble_eq_true rfl, Nat.le_of_ble_eq_true rfl⟩ ⟨rfl, rfl⟩ [0] [] rfl rfl rfl rfl (by decide) rfl rfl rfl rfl (Nat.le_of_ble_eq_true rfl) dX8_isNearer_84 ⟨Nat.le_of_ble_eq_true rfl, Nat.le_of_ble_eq_true rfl⟩ (fun z84 w1 hq => ?_)
      obtain ⟨⟨rfl, hc_84⟩ | ⟨rfl, hc_84⟩, rfl⟩ := hq
      · refine z_ic_eq (tgt := 94) E (by omega) (by omega) dX8_isNearer_87 (by decide) (fun h => absurd h (by decide)) (fun _ => ?_)
        refine z_iconst E dX8_isNearer_90 ?_
        refine z_goto (tgt := 95) E dX8_isNearer_91 (by decide) ?_
        exact fin _ _ _ _ rfl (⟨Or.inl ⟨rfl, by rw [nrr_ft hc_3 hc_27]; simpa using hc_84⟩, rfl⟩) dX8_isNearer_95
      · refine z_ic_eq (tgt := 94) E (by omega) (by omega) dX8_isNearer_87 (by decide) (fun _ => ?_) (fun h => absurd h (by decide))
        refine z_iconst E dX8_isNearer_94 ?_
        exact fin _ _ _ _ rfl (⟨Or.inr ⟨rfl, by rw [nrr_ft hc_3 hc_27]; simpa using hc_84⟩, rfl⟩) dX8_isNearer_95
    · refine z_ic_ne (tgt := 68) E (by omega) (by omega) dX8_isNearer_30 (by decide) (fun h => absurd h (by decide)) (fun _ => ?_)
      refine z_iload E 2 rfl dX8_isNearer_33 ?_
      refine z_if_eq (tgt := 54) E (by omega) dX8_isNearer_35 (by decide) (fun _ => ?_) (fun h => absurd h (by decide))
      refine z_lload E 1 rfl dX8_isNearer_54 ?_
      refine z_lload E 0 rfl dX8_isNearer_56 ?_
      refine z_lc_le (tgt := 66) E (by omega) (by omega) dX8_isNearer_58 dX8_isNearer_59 (by decide) (fun h_58 => ?_) (fun h_58 => ?_)
      · refine z_iconst E dX8_isNearer_66 ?_
        exact fin _ _ _ _ rfl (⟨Or.inr ⟨rfl, by rw [nrr_ff hc_3 hc_27]; omega⟩, rfl⟩) dX8_isNearer_67
      · refine z_iconst E dX8_isNearer_62 ?_
        refine z_goto (tgt := 67) E dX8_isNearer_63 (by decide) ?_
        exact fin _ _ _ _ rfl (⟨Or.inl ⟨rfl, by rw [nrr_ff hc_3 hc_27]; omega⟩, rfl⟩) dX8_isNearer_67
abbrev rm_X0_init : Room := { frames := 1, cells := 2, slots := 16, locals := 12 }
set_option maxRecDepth 100000 in
theorem c_X0_init (l : Launch) (D : va_G) (κ : Nat → ClassId) (h0 : Nat)  : ZV l yX0_init cX0_init 1 rm_X0_init D κ [.ref h0] [(h0, .inr (0, [.null, .null, .int (zi 0)]))] (fun w => ∃ hu : Nat, ∃ hl : Nat, [(h0, .inr (0, [.ref hu, .ref hl, .int (zi 0)])), (hu, ai κ 8 (fun _ => 0)), (hl, ai κ 8 (fun _ => 0))] = w) := by
  refine ZV.enter0 (own := RX0) rfl pn_X0_init (Nat.le_of_ble_eq_true rfl) (fun X E hini fin => ?_)
  have hini := hini rfl
  show Zg X [(h0, .inr (0, [.null, .null, .int (zi 0)]))] 0 0 0 [(0, .ref h0)] []
  refine z_aload_n E 0 rfl rfl dX0_init_0 ?_
  refine z_objInit E m_X0_3 in_obj co_obj (Nat.le_of_ble_eq_true rfl) (Nat.le_of_ble_eq_true rfl) dX0_init_1 ?_
  refine z_aload_n E 0 rfl rfl dX0_init_4 ?_
  refine z_bipush E dX0_init_5 (by decide) ?_
  refine z_newa_ai (N := 8) E (Nat.le_of_ble_eq_true rfl) ac_int (Nat.le_of_ble_eq_true rfl) (Nat.le_of_ble_eq_true rfl) dX0_init_7 (fun q1 => ?_)
  show Zg X [(h0, .inr (0, [.null, .null, .int (zi 0)])), (q1, ai κ 8 (fun _ => 0))] 1 8 9 [(0, .ref h0)] [.ref q1, .ref h0]
  refine z_putF (ws' := [(h0, .inr (0, [.ref q1, .null, .int (zi 0)])), (q1, ai κ 8 (fun _ => 0))]) E hini f_X0_9 t_X0_0 (fun q h => by cases h; rfl) 0 rfl rfl rfl (Nat.le_of_ble_eq_true rfl) rfl dX0_init_9 ?_
  refine z_aload_n E 0 rfl rfl dX0_init_12 ?_
  refine z_bipush E dX0_init_13 (by decide) ?_
  refine z_newa_ai (N := 8) E (Nat.le_of_ble_eq_true rfl) ac_int (Nat.le_of_ble_eq_true rfl) (Nat.le_of_ble_eq_true rfl) dX0_init_15 (fun q2 => ?_)
  show Zg X [(h0, .inr (0, [.ref q1, .null, .int (zi 0)])), (q1, ai κ 8 (fun _ => 0)), (q2, ai κ 8 (fun _ => 0))] 2 16 17 [(0, .ref h0)] [.ref q2, .ref h0]
  refine z_putF (ws' := [(h0, .inr (0, [.ref q1, .ref q2, .int (zi 0)])), (q1, ai κ 8 (fun _ => 0)), (q2, ai κ 8 (fun _ => 0))]) E hini f_X0_15 t_X0_1 (fun q h => by cases h; rfl) 0 rfl rfl rfl (Nat.le_of_ble_eq_true rfl) rfl dX0_init_17 ?_
  exact fin _ _ _ (by first | exact ⟨_, _, rfl⟩ | omega) dX0_init_20
abbrev rm_X0_has : Room := { frames := 1, cells := 0, slots := 0, locals := 21 }
set_option maxRecDepth 100000 in
theorem c_X0_has (l : Launch) (D : va_G) (κ : Nat → ClassId) (h0 : Nat) (hu : Nat) (hl : Nat) (n : Int) (u : Int → Int) (lo : Int → Int) (a : Int) (b : Int) (hn : 0 ≤ n ∧ n ≤ 8) (hB : ∀ i : Int, 0 ≤ i → i < n → okF (u i) (lo i)) (ha : -9000000000000000 ≤ a ∧ a ≤ 9000000000000000) (hb : -9000000000000000 ≤ b ∧ b ≤ 9000000000000000) : ZI l yX0_has cX0_has 6 .boolean rm_X0_has D κ [.ref h0, .long (zl a), .long (zl b)] [(h0, .inr (0, [.ref hu, .ref hl, .int (zi n)])), (hu, ai κ 8 u), (hl, ai κ 8 lo)] (fun z w => ((1 = z ∧ (∃ i : Int, 0 ≤ i ∧ i < n ∧ u i = a ∧ lo i = b)) ∨ (0 = z ∧ ¬ (∃ i : Int, 0 ≤ i ∧ i < n ∧ u i = a ∧ lo i = b))) ∧ [(h0, .inr (0, [.ref hu, .ref hl, .int (zi n)])), (hu, ai κ 8 u), (hl, ai κ 8 lo)] = w) := by
  refine ZI.enter (own := RX0) rfl pn_X0_has (Nat.le_of_ble_eq_true rfl) (fun X E fin => ?_)
  show Zg X [(h0, .inr (0, [.ref hu, .ref hl, .int (zi n)])), (hu, ai κ 8 u), (hl, ai κ 8 lo)] 0 0 0 [(0, .ref h0), (1, .long (zl a)), (3, .long (zl b))] []
  refine z_iconst E dX0_has_0 ?_
  refine z_istore (lv' := [(5, .int (zi 0)), (0, .ref h0), (1, .long (zl a)), (3, .long (zl b))]) E dX0_has_1 (Nat.le_of_ble_eq_true rfl) rfl ?_
  have lp_3 : ∀ (n_3 : Nat) (i : Int), (0 ≤ i ∧ i ≤ n) → (∀ k : Int, 0 ≤ k → k < i → ¬ (u k = a ∧ lo k = b)) → (n - i) < (n_3 : Int) → Zg X [(h0, .inr (0, [.ref hu, .ref hl, .int (zi n)])), (hl, ai κ 8 lo), (hu, ai κ 8 u)] 0 0 3 [(0, .ref h0), (1, .long (zl a)), (3, .long (zl b)), (5, .int (zi i))] [] := by
    intro n_3
    induction n_3 with
    | zero =>
      intro i i1 i2 hmu
      exact absurd hmu (by omega)
    | succ n_3 ih_3 =>
      intro i i1 i2 hmu_3
      refine z_iload E 3 rfl dX0_has_3 ?_
      refine z_aload_n E 0 rfl rfl dX0_has_5 ?_
      refine z_get E f_X0_18 0 rfl rfl dX0_has_6 ?_
      refine z_ic_ge (tgt := 44) E (by omega) (by omega) dX0_has_9 (by decide) (fun h_9 => ?_) (fun h_9 => ?_)
      · refine z_iconst E dX0_has_44 ?_
        refine Zg.perm (ws' := [(h0, .inr (0, [.ref hu, .ref hl, .int (zi n)])), (hu, ai κ 8 u), (hl, ai κ 8 lo)]) [0, 2, 1] rfl rfl ?_
        exact fin _ _ _ _ rfl (⟨Or.inr ⟨rfl, fun ⟨k, k1, k2, k3, k4⟩ => i2 k k1 (by omega) ⟨k3, k4⟩⟩, rfl⟩) dX0_has_45
      · have hk := hB i (by omega) (by omega)
        unfold okF at hk
        refine z_aload_n E 0 rfl rfl dX0_has_12 ?_
        refine z_iload E 3 rfl dX0_has_13 ?_
        refine z_callVi (As := [.int (zi i)]) (rest := []) (wr := [(hl, ai κ 8 lo)]) E (c_X0_upperAt l D κ h0 hu hl n u i (by omega)) m_X0_22 ⟨Nat.le_of_ble_eq_true rfl, Nat.le_of_ble_eq_true rfl⟩ ⟨rfl, rfl⟩ [0, 2] [1] rfl rfl rfl rfl (by decide) rfl rfl rfl rfl (Nat.le_of_ble_eq_true rfl) dX0_has_15 ⟨Nat.le_of_ble_eq_true rfl, Nat.le_of_ble_eq_true rfl⟩ (fun z15 w1 hq => ?_)
        obtain ⟨rfl, rfl⟩ := hq
        refine z_i2l E (by omega) dX0_has_18 ?_
        refine z_lload_n E 1 rfl rfl dX0_has_19 ?_
        refine z_lc_ne (tgt := 38) E (by omega) (by omega) dX0_has_20 dX0_has_21 (by decide) (fun h_20 => ?_) (fun h_20 => ?_)
        · refine z_iinc (lv' := [(5, .int (zi (i + 1))), (0, .ref h0), (1, .long (zl a)), (3, .long (zl b))]) E 3 rfl dX0_has_38 (Nat.le_of_ble_eq_true rfl) rfl ?_
          refine z_goto (tgt := 3) E dX0_has_41 (by decide) ?_
          refine Zg.sub (lv' := [(0, .ref h0), (1, .long (zl a)), (3, .long (zl b)), (5, .int (zi (i + 1)))]) [1, 2, 3, 0] rfl ?_
          refine Zg.perm (ws' := [(h0, .inr (0, [.ref hu, .ref hl, .int (zi n)])), (hl, ai κ 8 lo), (hu, ai κ 8 u)]) [1, 0, 2] rfl rfl ?_
          exact ih_3 (i + 1) (by omega) (lt_si i2 (by omega)) (by omega)
        · refine z_aload_n E 0 rfl rfl dX0_has_24 ?_
          refine z_iload E 3 rfl dX0_has_25 ?_
          refine z_callVi (As := [.int (zi i)]) (rest := []) (wr := [(hu, ai κ 8 u)]) E (c_X0_lowerAt l D κ h0 hu hl n lo i (by omega)) m_X0_26 ⟨Nat.le_of_ble_eq_true rfl, Nat.le_of_ble_eq_true rfl⟩ ⟨rfl, rfl⟩ [1, 0] [2] rfl rfl rfl rfl (by decide) rfl rfl rfl rfl (Nat.le_of_ble_eq_true rfl) dX0_has_27 ⟨Nat.le_of_ble_eq_true rfl, Nat.le_of_ble_eq_true rfl⟩ (fun z27 w1 hq => ?_)
          obtain ⟨rfl, rfl⟩ := hq
          refine z_i2l E (by omega) dX0_has_30 ?_
          refine z_lload_n E 2 rfl rfl dX0_has_31 ?_
          refine z_lc_ne (tgt := 38) E (by omega) (by omega) dX0_has_32 dX0_has_33 (by decide) (fun h_32 => ?_) (fun h_32 => ?_)
          · refine z_iinc (lv' := [(5, .int (zi (i + 1))), (0, .ref h0), (1, .long (zl a)), (3, .long (zl b))]) E 3 rfl dX0_has_38 (Nat.le_of_ble_eq_true rfl) rfl ?_
            refine z_goto (tgt := 3) E dX0_has_41 (by decide) ?_
            refine Zg.sub (lv' := [(0, .ref h0), (1, .long (zl a)), (3, .long (zl b)), (5, .int (zi (i + 1)))]) [1, 2, 3, 0] rfl ?_
            refine Zg.perm (ws' := [(h0, .inr (0, [.ref hu, .ref hl, .int (zi n)])), (hl, ai κ 8 lo), (hu, ai κ 8 u)]) [1, 2, 0] rfl rfl ?_
            exact ih_3 (i + 1) (by omega) (lt_si i2 (by omega)) (by omega)
          · refine z_iconst E dX0_has_36 ?_
            refine Zg.perm (ws' := [(h0, .inr (0, [.ref hu, .ref hl, .int (zi n)])), (hu, ai κ 8 u), (hl, ai κ 8 lo)]) [1, 0, 2] rfl rfl ?_
            exact fin _ _ _ _ rfl (⟨Or.inl ⟨rfl, ⟨i, by omega, by omega, by omega, by omega⟩⟩, rfl⟩) dX0_has_37
  refine Zg.sub (lv' := [(0, .ref h0), (1, .long (zl a)), (3, .long (zl b)), (5, .int (zi 0))]) [1, 2, 3, 0] rfl ?_
  refine Zg.perm (ws' := [(h0, .inr (0, [.ref hu, .ref hl, .int (zi n)])), (hl, ai κ 8 lo), (hu, ai κ 8 u)]) [0, 2, 1] rfl rfl ?_
  exact lp_3 ((n - 0 : Int).toNat + 1) 0 (by omega) (fun k h1 h2 => absurd h2 (by omega)) (by omega)
abbrev rm_X0_add : Room := { frames := 2, cells := 0, slots := 0, locals := 60 }
set_option maxRecDepth 100000 in
theorem c_X0_add (l : Launch) (D : va_G) (κ : Nat → ClassId) (h0 : Nat) (hu : Nat) (hl : Nat) (n : Int) (u : Int → Int) (lo : Int → Int) (h1 : Nat) (p : Int) (d : Int) (q : Int) (a : Int) (b : Int) (hn : 0 ≤ n ∧ n ≤ 7) (hB : ∀ i : Int, 0 ≤ i → i < n → okF (u i) (lo i)) (hp : -99 ≤ p ∧ p ≤ 99) (hd : 2 ≤ d ∧ d ≤ 999) (hq : -99 ≤ q ∧ q ≤ 99) (hab : okF a b) : ZI l yX0_add cX0_add 5 .int rm_X0_add D κ [.ref h0, .ref h1, .int (zi a), .int (zi b)] [(h0, .inr (0, [.ref hu, .ref hl, .int (zi n)])), (hu, ai κ 8 u), (hl, ai κ 8 lo), (h1, .inr (8, [.int (zi p), .int (zi d), .int (zi q)]))] (fun z w => ∃ u' : Int → Int, ∃ lo' : Int → Int, ∃ j : Int, (insP p d q a b n u lo u' lo' j) ∧ j = z ∧ [(h0, .inr (0, [.ref hu, .ref hl, .int (zi (n + 1))])), (hu, ai κ 8 u'), (hl, ai κ 8 lo'), (h1, .inr (8, [.int (zi p), .int (zi d), .int (zi q)]))] = w) := by
  refine ZI.enter (own := RX0) rfl pn_X0_add (Nat.le_of_ble_eq_true rfl) (fun X E fin => ?_)
  show Zg X [(h0, .inr (0, [.ref hu, .ref hl, .int (zi n)])), (hu, ai κ 8 u), (hl, ai κ 8 lo), (h1, .inr (8, [.int (zi p), .int (zi d), .int (zi q)]))] 0 0 0 [(0, .ref h0), (1, .ref h1), (2, .int (zi a)), (3, .int (zi b))] []
  refine z_aload_n E 0 rfl rfl dX0_add_0 ?_
  refine z_get E f_X0_18 0 rfl rfl dX0_add_1 ?_
  refine z_istore (lv' := [(4, .int (zi n)), (0, .ref h0), (1, .ref h1), (2, .int (zi a)), (3, .int (zi b))]) E dX0_add_4 (Nat.le_of_ble_eq_true rfl) rfl ?_
  have lp_6 : ∀ (n_6 : Nat) (j : Int) (v : Int → Int) (w : Int → Int), (insQ p d q a b n u lo v w j) → (j) < (n_6 : Int) → Zg X [(h0, .inr (0, [.ref hu, .ref hl, .int (zi n)])), (h1, .inr (8, [.int (zi p), .int (zi d), .int (zi q)])), (hl, ai κ 8 w), (hu, ai κ 8 v)] 0 0 6 [(0, .ref h0), (1, .ref h1), (2, .int (zi a)), (3, .int (zi b)), (4, .int (zi j))] [] := by
    intro n_6
    induction n_6 with
    | zero =>
      intro j v w i1 hmu
      exact absurd hmu (by have := i1.1; omega)
    | succ n_6 ih_6 =>
      intro j v w i1 hmu_6
      have hj1 := i1.1
      have hj2 := i1.2.1
      refine z_iload E 4 rfl dX0_add_6 ?_
      refine z_if_le (tgt := 68) E (by omega) dX0_add_8 (by decide) (fun h_8 => ?_) (fun h_8 => ?_)
      · refine z_aload_n E 0 rfl rfl dX0_add_68 ?_
        refine z_iload E 4 rfl dX0_add_69 ?_
        refine z_iload_n E 2 rfl rfl dX0_add_71 ?_
        refine z_iload_n E 3 rfl rfl dX0_add_72 ?_
        refine z_callVv (As := [.int (zi j), .int (zi a), .int (zi b)]) (rest := []) (wr := [(h1, .inr (8, [.int (zi p), .int (zi d), .int (zi q)]))]) E (c_X0_put l D κ h0 hu hl n v w j a b (by omega)) m_X0_35 ⟨Nat.le_of_ble_eq_true rfl, Nat.le_of_ble_eq_true rfl⟩ ⟨rfl, rfl⟩ [0, 3, 2] [1] rfl rfl rfl rfl (by decide) rfl rfl rfl rfl (Nat.le_of_ble_eq_true rfl) dX0_add_73 ⟨Nat.le_of_ble_eq_true rfl, Nat.le_of_ble_eq_true rfl⟩ (fun  w1 hq => ?_)
        obtain rfl := hq
        refine z_aload_n E 0 rfl rfl dX0_add_76 ?_
        refine z_dup E rfl dX0_add_77 ?_
        refine z_get E f_X0_18 1 rfl rfl dX0_add_78 ?_
        refine z_iconst E dX0_add_81 ?_
        refine z_iadd E dX0_add_82 ?_
        refine z_put (ws' := [(h1, .inr (8, [.int (zi p), .int (zi d), .int (zi q)])), (h0, .inr (0, [.ref hu, .ref hl, .int (zi (n + 1))])), (hu, ai κ 8 (zu v j a)), (hl, ai κ 8 (zu w j b))]) E f_X0_18 t_X0_2 1 rfl rfl rfl (Nat.le_of_ble_eq_true rfl) rfl dX0_add_83 ?_
        refine z_iload E 4 rfl dX0_add_86 ?_
        refine Zg.perm (ws' := [(h0, .inr (0, [.ref hu, .ref hl, .int (zi (n + 1))])), (hu, ai κ 8 (zu v j a)), (hl, ai κ 8 (zu w j b)), (h1, .inr (8, [.int (zi p), .int (zi d), .int (zi q)]))]) [1, 2, 3, 0] rfl rfl ?_
        exact fin _ _ _ _ rfl (⟨_, _, _, insQ_end i1 (Or.inl (by omega)), rfl, rfl⟩) dX0_add_88
      · have hk := i1.2.2.1 (j - 1) (by omega) (by omega)
        have hok := hB (j - 1) (by omega) (by omega)
        rw [← hk.1, ← hk.2] at hok
        have hok2 := hok
        unfold okF at hok
        have hab2 := hab
        unfold okF at hab2
        refine z_aload_n E 1 rfl rfl dX0_add_11 ?_
        refine z_iload_n E 2 rfl rfl dX0_add_12 ?_
        refine z_i2l E (by omega) dX0_add_13 ?_
        refine z_iload_n E 3 rfl rfl dX0_add_14 ?_
        refine z_i2l E (by omega) dX0_add_15 ?_
        refine z_aload_n E 0 rfl rfl dX0_add_16 ?_
        refine z_iload E 4 rfl dX0_add_17 ?_
        refine z_iconst E dX0_add_19 ?_
        refine z_isub E dX0_add_20 ?_
        refine z_callVi (As := [.int (zi (j - 1))]) (rest := [.long (zl b), .long (zl a), .ref h1]) (wr := [(h1, .inr (8, [.int (zi p), .int (zi d), .int (zi q)])), (hl, ai κ 8 w)]) E (c_X0_upperAt l D κ h0 hu hl n v (j - 1) (by omega)) m_X0_22 ⟨Nat.le_of_ble_eq_true rfl, Nat.le_of_ble_eq_true rfl⟩ ⟨rfl, rfl⟩ [0, 3] [1, 2] rfl rfl rfl rfl (by decide) rfl rfl rfl rfl (Nat.le_of_ble_eq_true rfl) dX0_add_21 ⟨Nat.le_of_ble_eq_true rfl, Nat.le_of_ble_eq_true rfl⟩ (fun z21 w1 hq => ?_)
        obtain ⟨rfl, rfl⟩ := hq
        refine z_i2l E (by omega) dX0_add_24 ?_
        refine z_aload_n E 0 rfl rfl dX0_add_25 ?_
        refine z_iload E 4 rfl dX0_add_26 ?_
        refine z_iconst E dX0_add_28 ?_
        refine z_isub E dX0_add_29 ?_
        refine z_callVi (As := [.int (zi (j - 1))]) (rest := [.long (zl (v (j - 1))), .long (zl b), .long (zl a), .ref h1]) (wr := [(h1, .inr (8, [.int (zi p), .int (zi d), .int (zi q)])), (hu, ai κ 8 v)]) E (c_X0_lowerAt l D κ h0 hu hl n w (j - 1) (by omega)) m_X0_26 ⟨Nat.le_of_ble_eq_true rfl, Nat.le_of_ble_eq_true rfl⟩ ⟨rfl, rfl⟩ [2, 1] [0, 3] rfl rfl rfl rfl (by decide) rfl rfl rfl rfl (Nat.le_of_ble_eq_true rfl) dX0_add_30 ⟨Nat.le_of_ble_eq_true rfl, Nat.le_of_ble_eq_true rfl⟩ (fun z30 w1 hq => ?_)
        obtain ⟨rfl, rfl⟩ := hq
        refine z_i2l E (by omega) dX0_add_33 ?_
        refine z_callVi (As := [.long (zl a), .long (zl b), .long (zl (v (j - 1))), .long (zl (w (j - 1)))]) (rest := []) (wr := [(hu, ai κ 8 v), (h0, .inr (0, [.ref hu, .ref hl, .int (zi n)])), (hl, ai κ 8 w)]) E (c_X8_isNearer l D κ h1 p d q a b (v (j - 1)) (w (j - 1)) (by omega) (by omega) (by omega) (hab) (hok2)) m_X0_29 ⟨Nat.le_of_ble_eq_true rfl, Nat.le_of_ble_eq_true rfl⟩ ⟨rfl, rfl⟩ [0] [1, 2, 3] rfl rfl rfl rfl (by decide) rfl rfl rfl rfl (Nat.le_of_ble_eq_true rfl) dX0_add_34 ⟨Nat.le_of_ble_eq_true rfl, Nat.le_of_ble_eq_true rfl⟩ (fun z34 w1 hq => ?_)
        obtain ⟨⟨rfl, hc_34⟩ | ⟨rfl, hc_34⟩, rfl⟩ := hq
        · refine z_if_eq (tgt := 68) E (by omega) dX0_add_37 (by decide) (fun h => absurd h (by decide)) (fun _ => ?_)
          refine z_aload_n E 0 rfl rfl dX0_add_40 ?_
          refine z_iload E 4 rfl dX0_add_41 ?_
          refine z_aload_n E 0 rfl rfl dX0_add_43 ?_
          refine z_iload E 4 rfl dX0_add_44 ?_
          refine z_iconst E dX0_add_46 ?_
          refine z_isub E dX0_add_47 ?_
          refine z_callVi (As := [.int (zi (j - 1))]) (rest := [.int (zi j), .ref h0]) (wr := [(hl, ai κ 8 w), (h1, .inr (8, [.int (zi p), .int (zi d), .int (zi q)]))]) E (c_X0_upperAt l D κ h0 hu hl n v (j - 1) (by omega)) m_X0_22 ⟨Nat.le_of_ble_eq_true rfl, Nat.le_of_ble_eq_true rfl⟩ ⟨rfl, rfl⟩ [1, 0] [2, 3] rfl rfl rfl rfl (by decide) rfl rfl rfl rfl (Nat.le_of_ble_eq_true rfl) dX0_add_48 ⟨Nat.le_of_ble_eq_true rfl, Nat.le_of_ble_eq_true rfl⟩ (fun z48 w1 hq => ?_)
          obtain ⟨rfl, rfl⟩ := hq
          refine z_aload_n E 0 rfl rfl dX0_add_51 ?_
          refine z_iload E 4 rfl dX0_add_52 ?_
          refine z_iconst E dX0_add_54 ?_
          refine z_isub E dX0_add_55 ?_
          refine z_callVi (As := [.int (zi (j - 1))]) (rest := [.int (zi (v (j - 1))), .int (zi j), .ref h0]) (wr := [(h1, .inr (8, [.int (zi p), .int (zi d), .int (zi q)])), (hu, ai κ 8 v)]) E (c_X0_lowerAt l D κ h0 hu hl n w (j - 1) (by omega)) m_X0_26 ⟨Nat.le_of_ble_eq_true rfl, Nat.le_of_ble_eq_true rfl⟩ ⟨rfl, rfl⟩ [2, 0] [1, 3] rfl rfl rfl rfl (by decide) rfl rfl rfl rfl (Nat.le_of_ble_eq_true rfl) dX0_add_56 ⟨Nat.le_of_ble_eq_true rfl, Nat.le_of_ble_eq_true rfl⟩ (fun z56 w1 hq => ?_)
          obtain ⟨rfl, rfl⟩ := hq
          refine z_callVv (As := [.int (zi j), .int (zi (v (j - 1))), .int (zi (w (j - 1)))]) (rest := []) (wr := [(h1, .inr (8, [.int (zi p), .int (zi d), .int (zi q)]))]) E (c_X0_put l D κ h0 hu hl n v w j (v (j - 1)) (w (j - 1)) (by omega)) m_X0_35 ⟨Nat.le_of_ble_eq_true rfl, Nat.le_of_ble_eq_true rfl⟩ ⟨rfl, rfl⟩ [2, 1, 3] [0] rfl rfl rfl rfl (by decide) rfl rfl rfl rfl (Nat.le_of_ble_eq_true rfl) dX0_add_59 ⟨Nat.le_of_ble_eq_true rfl, Nat.le_of_ble_eq_true rfl⟩ (fun  w1 hq => ?_)
          obtain rfl := hq
          refine z_iinc (lv' := [(4, .int (zi (j + (-1)))), (0, .ref h0), (1, .ref h1), (2, .int (zi a)), (3, .int (zi b))]) E 4 rfl dX0_add_62 (Nat.le_of_ble_eq_true rfl) rfl ?_
          refine z_goto (tgt := 6) E dX0_add_65 (by decide) ?_
          refine Zg.sub (lv' := [(0, .ref h0), (1, .ref h1), (2, .int (zi a)), (3, .int (zi b)), (4, .int (zi (j + (-1))))]) [1, 2, 3, 4, 0] rfl ?_
          refine Zg.perm (ws' := [(h0, .inr (0, [.ref hu, .ref hl, .int (zi n)])), (h1, .inr (8, [.int (zi p), .int (zi d), .int (zi q)])), (hl, ai κ 8 (zu w j (w (j - 1)))), (hu, ai κ 8 (zu v j (v (j - 1))))]) [1, 0, 3, 2] rfl rfl ?_
          exact ih_6 (j + (-1)) (zu v j (v (j - 1))) (zu w j (w (j - 1))) (insQ_s i1 (by omega) hc_34) (by omega)
        · refine z_if_eq (tgt := 68) E (by omega) dX0_add_37 (by decide) (fun _ => ?_) (fun h => absurd h (by decide))
          refine z_aload_n E 0 rfl rfl dX0_add_68 ?_
          refine z_iload E 4 rfl dX0_add_69 ?_
          refine z_iload_n E 2 rfl rfl dX0_add_71 ?_
          refine z_iload_n E 3 rfl rfl dX0_add_72 ?_
          refine z_callVv (As := [.int (zi j), .int (zi a), .int (zi b)]) (rest := []) (wr := [(h1, .inr (8, [.int (zi p), .int (zi d), .int (zi q)]))]) E (c_X0_put l D κ h0 hu hl n v w j a b (by omega)) m_X0_35 ⟨Nat.le_of_ble_eq_true rfl, Nat.le_of_ble_eq_true rfl⟩ ⟨rfl, rfl⟩ [1, 0, 2] [3] rfl rfl rfl rfl (by decide) rfl rfl rfl rfl (Nat.le_of_ble_eq_true rfl) dX0_add_73 ⟨Nat.le_of_ble_eq_true rfl, Nat.le_of_ble_eq_true rfl⟩ (fun  w1 hq => ?_)
          obtain rfl := hq
          refine z_aload_n E 0 rfl rfl dX0_add_76 ?_
          refine z_dup E rfl dX0_add_77 ?_
          refine z_get E f_X0_18 1 rfl rfl dX0_add_78 ?_
          refine z_iconst E dX0_add_81 ?_
          refine z_iadd E dX0_add_82 ?_
          refine z_put (ws' := [(h1, .inr (8, [.int (zi p), .int (zi d), .int (zi q)])), (h0, .inr (0, [.ref hu, .ref hl, .int (zi (n + 1))])), (hu, ai κ 8 (zu v j a)), (hl, ai κ 8 (zu w j b))]) E f_X0_18 t_X0_2 1 rfl rfl rfl (Nat.le_of_ble_eq_true rfl) rfl dX0_add_83 ?_
          refine z_iload E 4 rfl dX0_add_86 ?_
          refine Zg.perm (ws' := [(h0, .inr (0, [.ref hu, .ref hl, .int (zi (n + 1))])), (hu, ai κ 8 (zu v j a)), (hl, ai κ 8 (zu w j b)), (h1, .inr (8, [.int (zi p), .int (zi d), .int (zi q)]))]) [1, 2, 3, 0] rfl rfl ?_
          exact fin _ _ _ _ rfl (⟨_, _, _, insQ_end i1 (Or.inr hc_34), rfl, rfl⟩) dX0_add_88
  refine Zg.sub (lv' := [(0, .ref h0), (1, .ref h1), (2, .int (zi a)), (3, .int (zi b)), (4, .int (zi n))]) [1, 2, 3, 4, 0] rfl ?_
  refine Zg.perm (ws' := [(h0, .inr (0, [.ref hu, .ref hl, .int (zi n)])), (h1, .inr (8, [.int (zi p), .int (zi d), .int (zi q)])), (hl, ai κ 8 lo), (hu, ai κ 8 u)]) [0, 3, 2, 1] rfl rfl ?_
  exact lp_6 ((n : Int).toNat + 1) n u lo (insQ_0 hn.1) (by omega)
abbrev rm_X0_remove : Room := { frames := 1, cells := 0, slots := 0, locals := 23 }
set_option maxRecDepth 100000 in
theorem c_X0_remove (l : Launch) (D : va_G) (κ : Nat → ClassId) (h0 : Nat) (hu : Nat) (hl : Nat) (n : Int) (u : Int → Int) (lo : Int → Int) (k : Int) (hn : 0 ≤ n ∧ n ≤ 8) (hk : 0 ≤ k ∧ k < n) : ZV l yX0_remove cX0_remove 3 rm_X0_remove D κ [.ref h0, .int (zi k)] [(h0, .inr (0, [.ref hu, .ref hl, .int (zi n)])), (hu, ai κ 8 u), (hl, ai κ 8 lo)] (fun w => ∃ u' : Int → Int, ∃ lo' : Int → Int, (∀ i : Int, (i < k → u' i = u i ∧ lo' i = lo i) ∧ (k ≤ i → i < n - 1 → u' i = u (i + 1) ∧ lo' i = lo (i + 1))) ∧ [(h0, .inr (0, [.ref hu, .ref hl, .int (zi (n - 1))])), (hu, ai κ 8 u'), (hl, ai κ 8 lo')] = w) := by
  refine ZV.enter (own := RX0) rfl pn_X0_remove (Nat.le_of_ble_eq_true rfl) (fun X E fin => ?_)
  show Zg X [(h0, .inr (0, [.ref hu, .ref hl, .int (zi n)])), (hu, ai κ 8 u), (hl, ai κ 8 lo)] 0 0 0 [(0, .ref h0), (1, .int (zi k))] []
  refine z_aload_n E 0 rfl rfl dX0_remove_0 ?_
  refine z_dup E rfl dX0_remove_1 ?_
  refine z_get E f_X0_18 0 rfl rfl dX0_remove_2 ?_
  refine z_iconst E dX0_remove_5 ?_
  refine z_isub E dX0_remove_6 ?_
  refine z_put (ws' := [(h0, .inr (0, [.ref hu, .ref hl, .int (zi (n - 1))])), (hu, ai κ 8 u), (hl, ai κ 8 lo)]) E f_X0_18 t_X0_2 0 rfl rfl rfl (Nat.le_of_ble_eq_true rfl) rfl dX0_remove_7 ?_
  refine z_iload_n E 1 rfl rfl dX0_remove_10 ?_
  refine z_istore_n (lv' := [(2, .int (zi k)), (0, .ref h0), (1, .int (zi k))]) E dX0_remove_11 rfl (Nat.le_of_ble_eq_true rfl) rfl ?_
  have lp_12 : ∀ (n_12 : Nat) (i : Int) (v : Int → Int) (w : Int → Int), (k ≤ i ∧ i ≤ n - 1) → (remQ k i u lo v w) → (n - i) < (n_12 : Int) → Zg X [(h0, .inr (0, [.ref hu, .ref hl, .int (zi (n - 1))])), (hl, ai κ 8 w), (hu, ai κ 8 v)] 0 0 12 [(0, .ref h0), (1, .int (zi k)), (2, .int (zi i))] [] := by
    intro n_12
    induction n_12 with
    | zero =>
      intro i v w i1 i2 hmu
      exact absurd hmu (by omega)
    | succ n_12 ih_12 =>
      intro i v w i1 i2 hmu_12
      refine z_iload_n E 2 rfl rfl dX0_remove_12 ?_
      refine z_aload_n E 0 rfl rfl dX0_remove_13 ?_
      refine z_get E f_X0_18 0 rfl rfl dX0_remove_14 ?_
      refine z_ic_ge (tgt := 45) E (by omega) (by omega) dX0_remove_17 (by decide) (fun h_17 => ?_) (fun h_17 => ?_)
      · refine Zg.perm (ws' := [(h0, .inr (0, [.ref hu, .ref hl, .int (zi (n - 1))])), (hu, ai κ 8 v), (hl, ai κ 8 w)]) [0, 2, 1] rfl rfl ?_
        exact fin _ _ _ (⟨_, _, fun j => ⟨fun h => i2.1 j h, fun h1 h2 => i2.2.1 j h1 (by omega)⟩, rfl⟩) dX0_remove_45
      · refine z_aload_n E 0 rfl rfl dX0_remove_20 ?_
        refine z_iload_n E 2 rfl rfl dX0_remove_21 ?_
        refine z_aload_n E 0 rfl rfl dX0_remove_22 ?_
        refine z_iload_n E 2 rfl rfl dX0_remove_23 ?_
        refine z_iconst E dX0_remove_24 ?_
        refine z_iadd E dX0_remove_25 ?_
        refine z_callVi (As := [.int (zi (i + 1))]) (rest := [.int (zi i), .ref h0]) (wr := [(hl, ai κ 8 w)]) E (c_X0_upperAt l D κ h0 hu hl (n - 1) v (i + 1) (by omega)) m_X0_22 ⟨Nat.le_of_ble_eq_true rfl, Nat.le_of_ble_eq_true rfl⟩ ⟨rfl, rfl⟩ [0, 2] [1] rfl rfl rfl rfl (by decide) rfl rfl rfl rfl (Nat.le_of_ble_eq_true rfl) dX0_remove_26 ⟨Nat.le_of_ble_eq_true rfl, Nat.le_of_ble_eq_true rfl⟩ (fun z26 w1 hq => ?_)
        obtain ⟨rfl, rfl⟩ := hq
        refine z_aload_n E 0 rfl rfl dX0_remove_29 ?_
        refine z_iload_n E 2 rfl rfl dX0_remove_30 ?_
        refine z_iconst E dX0_remove_31 ?_
        refine z_iadd E dX0_remove_32 ?_
        refine z_callVi (As := [.int (zi (i + 1))]) (rest := [.int (zi (v (i + 1))), .int (zi i), .ref h0]) (wr := [(hu, ai κ 8 v)]) E (c_X0_lowerAt l D κ h0 hu hl (n - 1) w (i + 1) (by omega)) m_X0_26 ⟨Nat.le_of_ble_eq_true rfl, Nat.le_of_ble_eq_true rfl⟩ ⟨rfl, rfl⟩ [1, 0] [2] rfl rfl rfl rfl (by decide) rfl rfl rfl rfl (Nat.le_of_ble_eq_true rfl) dX0_remove_33 ⟨Nat.le_of_ble_eq_true rfl, Nat.le_of_ble_eq_true rfl⟩ (fun z33 w1 hq => ?_)
        obtain ⟨rfl, rfl⟩ := hq
        refine z_callVv (As := [.int (zi i), .int (zi (v (i + 1))), .int (zi (w (i + 1)))]) (rest := []) (wr := []) E (c_X0_put l D κ h0 hu hl (n - 1) v w i (v (i + 1)) (w (i + 1)) (by omega)) m_X0_35 ⟨Nat.le_of_ble_eq_true rfl, Nat.le_of_ble_eq_true rfl⟩ ⟨rfl, rfl⟩ [1, 0, 2] [] rfl rfl rfl rfl (by decide) rfl rfl rfl rfl (Nat.le_of_ble_eq_true rfl) dX0_remove_36 ⟨Nat.le_of_ble_eq_true rfl, Nat.le_of_ble_eq_true rfl⟩ (fun  w1 hq => ?_)
        obtain rfl := hq
        refine z_iinc (lv' := [(2, .int (zi (i + 1))), (0, .ref h0), (1, .int (zi k))]) E 2 rfl dX0_remove_39 (Nat.le_of_ble_eq_true rfl) rfl ?_
        refine z_goto (tgt := 12) E dX0_remove_42 (by decide) ?_
        refine Zg.sub (lv' := [(0, .ref h0), (1, .int (zi k)), (2, .int (zi (i + 1)))]) [1, 2, 0] rfl ?_
        refine Zg.perm (ws' := [(h0, .inr (0, [.ref hu, .ref hl, .int (zi (n - 1))])), (hl, ai κ 8 (zu w i (w (i + 1)))), (hu, ai κ 8 (zu v i (v (i + 1))))]) [0, 2, 1] rfl rfl ?_
        exact ih_12 (i + 1) (zu v i (v (i + 1))) (zu w i (w (i + 1))) (by omega) (remQ_s i2 (by omega)) (by omega)
  refine Zg.sub (lv' := [(0, .ref h0), (1, .int (zi k)), (2, .int (zi k))]) [1, 2, 0] rfl ?_
  refine Zg.perm (ws' := [(h0, .inr (0, [.ref hu, .ref hl, .int (zi (n - 1))])), (hl, ai κ 8 lo), (hu, ai κ 8 u)]) [0, 2, 1] rfl rfl ?_
  exact lp_12 ((n - k : Int).toNat + 1) k u lo (by omega) (remQ_0) (by omega)
abbrev rm_X0_countAbove : Room := { frames := 1, cells := 0, slots := 0, locals := 27 }
set_option maxRecDepth 100000 in
theorem c_X0_countAbove (l : Launch) (D : va_G) (κ : Nat → ClassId) (h0 : Nat) (hu : Nat) (hl : Nat) (n : Int) (u : Int → Int) (lo : Int → Int) (h1 : Nat) (p : Int) (d : Int) (q : Int) (hn : 0 ≤ n ∧ n ≤ 8) (hB : ∀ i : Int, 0 ≤ i → i < n → okF (u i) (lo i)) (hp : -99 ≤ p ∧ p ≤ 99) (hd : 2 ≤ d ∧ d ≤ 999) (hq : -99 ≤ q ∧ q ≤ 99) : ZI l yX0_countAbove cX0_countAbove 4 .int rm_X0_countAbove D κ [.ref h0, .ref h1] [(h0, .inr (0, [.ref hu, .ref hl, .int (zi n)])), (hu, ai κ 8 u), (hl, ai κ 8 lo), (h1, .inr (8, [.int (zi p), .int (zi d), .int (zi q)]))] (fun z w => (cntA p d q u lo n.toNat) = z ∧ [(h0, .inr (0, [.ref hu, .ref hl, .int (zi n)])), (hu, ai κ 8 u), (hl, ai κ 8 lo), (h1, .inr (8, [.int (zi p), .int (zi d), .int (zi q)]))] = w) := by
  refine ZI.enter (own := RX0) rfl pn_X0_countAbove (Nat.le_of_ble_eq_true rfl) (fun X E fin => ?_)
  show Zg X [(h0, .inr (0, [.ref hu, .ref hl, .int (zi n)])), (hu, ai κ 8 u), (hl, ai κ 8 lo), (h1, .inr (8, [.int (zi p), .int (zi d), .int (zi q)]))] 0 0 0 [(0, .ref h0), (1, .ref h1)] []
  refine z_iconst E dX0_countAbove_0 ?_
  refine z_istore_n (lv' := [(2, .int (zi 0)), (0, .ref h0), (1, .ref h1)]) E dX0_countAbove_1 rfl (Nat.le_of_ble_eq_true rfl) rfl ?_
  refine z_iconst E dX0_countAbove_2 ?_
  refine z_istore_n (lv' := [(3, .int (zi 0)), (2, .int (zi 0)), (0, .ref h0), (1, .ref h1)]) E dX0_countAbove_3 rfl (Nat.le_of_ble_eq_true rfl) rfl ?_
  have lp_4 : ∀ (n_4 : Nat) (c : Int) (i : Int), (0 ≤ i ∧ i ≤ n) → (c = cntA p d q u lo i.toNat) → (0 ≤ c ∧ c ≤ i) → (n - i) < (n_4 : Int) → Zg X [(h0, .inr (0, [.ref hu, .ref hl, .int (zi n)])), (h1, .inr (8, [.int (zi p), .int (zi d), .int (zi q)])), (hl, ai κ 8 lo), (hu, ai κ 8 u)] 0 0 4 [(0, .ref h0), (1, .ref h1), (2, .int (zi c)), (3, .int (zi i))] [] := by
    intro n_4
    induction n_4 with
    | zero =>
      intro c i i1 i2 i3 hmu
      exact absurd hmu (by omega)
    | succ n_4 ih_4 =>
      intro c i i1 i2 i3 hmu_4
      refine z_iload_n E 3 rfl rfl dX0_countAbove_4 ?_
      refine z_aload_n E 0 rfl rfl dX0_countAbove_5 ?_
      refine z_get E f_X0_18 0 rfl rfl dX0_countAbove_6 ?_
      refine z_ic_ge (tgt := 40) E (by omega) (by omega) dX0_countAbove_9 (by decide) (fun h_9 => ?_) (fun h_9 => ?_)
      · refine z_iload_n E 2 rfl rfl dX0_countAbove_40 ?_
        refine Zg.perm (ws' := [(h0, .inr (0, [.ref hu, .ref hl, .int (zi n)])), (hu, ai κ 8 u), (hl, ai κ 8 lo), (h1, .inr (8, [.int (zi p), .int (zi d), .int (zi q)]))]) [0, 3, 2, 1] rfl rfl ?_
        exact fin _ _ _ _ rfl (⟨by rw [i2, show i = n by omega], rfl⟩) dX0_countAbove_41
      · have hk := hB i (by omega) (by omega)
        unfold okF at hk
        refine z_aload_n E 1 rfl rfl dX0_countAbove_12 ?_
        refine z_aload_n E 0 rfl rfl dX0_countAbove_13 ?_
        refine z_iload_n E 3 rfl rfl dX0_countAbove_14 ?_
        refine z_callVi (As := [.int (zi i)]) (rest := [.ref h1]) (wr := [(h1, .inr (8, [.int (zi p), .int (zi d), .int (zi q)])), (hl, ai κ 8 lo)]) E (c_X0_upperAt l D κ h0 hu hl n u i (by omega)) m_X0_22 ⟨Nat.le_of_ble_eq_true rfl, Nat.le_of_ble_eq_true rfl⟩ ⟨rfl, rfl⟩ [0, 3] [1, 2] rfl rfl rfl rfl (by decide) rfl rfl rfl rfl (Nat.le_of_ble_eq_true rfl) dX0_countAbove_15 ⟨Nat.le_of_ble_eq_true rfl, Nat.le_of_ble_eq_true rfl⟩ (fun z15 w1 hq => ?_)
        obtain ⟨rfl, rfl⟩ := hq
        refine z_i2l E (by omega) dX0_countAbove_18 ?_
        refine z_aload_n E 0 rfl rfl dX0_countAbove_19 ?_
        refine z_iload_n E 3 rfl rfl dX0_countAbove_20 ?_
        refine z_callVi (As := [.int (zi i)]) (rest := [.long (zl (u i)), .ref h1]) (wr := [(h1, .inr (8, [.int (zi p), .int (zi d), .int (zi q)])), (hu, ai κ 8 u)]) E (c_X0_lowerAt l D κ h0 hu hl n lo i (by omega)) m_X0_26 ⟨Nat.le_of_ble_eq_true rfl, Nat.le_of_ble_eq_true rfl⟩ ⟨rfl, rfl⟩ [2, 1] [0, 3] rfl rfl rfl rfl (by decide) rfl rfl rfl rfl (Nat.le_of_ble_eq_true rfl) dX0_countAbove_21 ⟨Nat.le_of_ble_eq_true rfl, Nat.le_of_ble_eq_true rfl⟩ (fun z21 w1 hq => ?_)
        obtain ⟨rfl, rfl⟩ := hq
        refine z_i2l E (by omega) dX0_countAbove_24 ?_
        refine z_callVi (As := [.long (zl (u i)), .long (zl (lo i))]) (rest := []) (wr := [(hu, ai κ 8 u), (h0, .inr (0, [.ref hu, .ref hl, .int (zi n)])), (hl, ai κ 8 lo)]) E (c_X8_isPassedBy l D κ h1 p d q (u i) (lo i) (by omega) (by omega) (by omega) (by omega) (by omega)) m_X0_43 ⟨Nat.le_of_ble_eq_true rfl, Nat.le_of_ble_eq_true rfl⟩ ⟨rfl, rfl⟩ [0] [1, 2, 3] rfl rfl rfl rfl (by decide) rfl rfl rfl rfl (Nat.le_of_ble_eq_true rfl) dX0_countAbove_25 ⟨Nat.le_of_ble_eq_true rfl, Nat.le_of_ble_eq_true rfl⟩ (fun z25 w1 hq => ?_)
        obtain ⟨⟨rfl, hc_25⟩ | ⟨rfl, hc_25⟩, rfl⟩ := hq
        · refine z_if_eq (tgt := 34) E (by omega) dX0_countAbove_28 (by decide) (fun h => absurd h (by decide)) (fun _ => ?_)
          refine z_iinc (lv' := [(2, .int (zi (c + 1))), (0, .ref h0), (1, .ref h1), (3, .int (zi i))]) E 2 rfl dX0_countAbove_31 (Nat.le_of_ble_eq_true rfl) rfl ?_
          refine z_iinc (lv' := [(3, .int (zi (i + 1))), (2, .int (zi (c + 1))), (0, .ref h0), (1, .ref h1)]) E 3 rfl dX0_countAbove_34 (Nat.le_of_ble_eq_true rfl) rfl ?_
          refine z_goto (tgt := 4) E dX0_countAbove_37 (by decide) ?_
          refine Zg.sub (lv' := [(0, .ref h0), (1, .ref h1), (2, .int (zi (c + 1))), (3, .int (zi (i + 1)))]) [2, 3, 1, 0] rfl ?_
          refine Zg.perm (ws' := [(h0, .inr (0, [.ref hu, .ref hl, .int (zi n)])), (h1, .inr (8, [.int (zi p), .int (zi d), .int (zi q)])), (hl, ai κ 8 lo), (hu, ai κ 8 u)]) [1, 3, 2, 0] rfl rfl ?_
          exact ih_4 (c + 1) (i + 1) (by omega) (cntA_t (by omega) i2 hc_25) (by omega) (by omega)
        · refine z_if_eq (tgt := 34) E (by omega) dX0_countAbove_28 (by decide) (fun _ => ?_) (fun h => absurd h (by decide))
          refine z_iinc (lv' := [(3, .int (zi (i + 1))), (0, .ref h0), (1, .ref h1), (2, .int (zi c))]) E 3 rfl dX0_countAbove_34 (Nat.le_of_ble_eq_true rfl) rfl ?_
          refine z_goto (tgt := 4) E dX0_countAbove_37 (by decide) ?_
          refine Zg.sub (lv' := [(0, .ref h0), (1, .ref h1), (2, .int (zi c)), (3, .int (zi (i + 1)))]) [1, 2, 3, 0] rfl ?_
          refine Zg.perm (ws' := [(h0, .inr (0, [.ref hu, .ref hl, .int (zi n)])), (h1, .inr (8, [.int (zi p), .int (zi d), .int (zi q)])), (hl, ai κ 8 lo), (hu, ai κ 8 u)]) [1, 3, 2, 0] rfl rfl ?_
          exact ih_4 c (i + 1) (by omega) (cntA_f (by omega) i2 hc_25) (by omega) (by omega)
  refine Zg.sub (lv' := [(0, .ref h0), (1, .ref h1), (2, .int (zi 0)), (3, .int (zi 0))]) [2, 3, 1, 0] rfl ?_
  refine Zg.perm (ws' := [(h0, .inr (0, [.ref hu, .ref hl, .int (zi n)])), (h1, .inr (8, [.int (zi p), .int (zi d), .int (zi q)])), (hl, ai κ 8 lo), (hu, ai κ 8 u)]) [0, 3, 2, 1] rfl rfl ?_
  exact lp_4 ((n - 0 : Int).toNat + 1) 0 0 (by omega) (rfl) (by omega) (by omega)
abbrev rm_X0_copyFrom : Room := { frames := 1, cells := 0, slots := 0, locals := 23 }
set_option maxRecDepth 100000 in
theorem c_X0_copyFrom (l : Launch) (D : va_G) (κ : Nat → ClassId) (h0 : Nat) (hu : Nat) (hl : Nat) (n : Int) (u : Int → Int) (lo : Int → Int) (h1 : Nat) (gu : Nat) (gl : Nat) (n2 : Int) (u2 : Int → Int) (lo2 : Int → Int) (hn : 0 ≤ n2 ∧ n2 ≤ 8) : ZV l yX0_copyFrom cX0_copyFrom 3 rm_X0_copyFrom D κ [.ref h0, .ref h1] [(h0, .inr (0, [.ref hu, .ref hl, .int (zi n)])), (hu, ai κ 8 u), (hl, ai κ 8 lo), (h1, .inr (0, [.ref gu, .ref gl, .int (zi n2)])), (gu, ai κ 8 u2), (gl, ai κ 8 lo2)] (fun w => ∃ u' : Int → Int, ∃ lo' : Int → Int, (∀ i : Int, 0 ≤ i → i < n2 → u' i = u2 i ∧ lo' i = lo2 i) ∧ [(h0, .inr (0, [.ref hu, .ref hl, .int (zi n2)])), (hu, ai κ 8 u'), (hl, ai κ 8 lo'), (h1, .inr (0, [.ref gu, .ref gl, .int (zi n2)])), (gu, ai κ 8 u2), (gl, ai κ 8 lo2)] = w) := by
  refine ZV.enter (own := RX0) rfl pn_X0_copyFrom (Nat.le_of_ble_eq_true rfl) (fun X E fin => ?_)
  show Zg X [(h0, .inr (0, [.ref hu, .ref hl, .int (zi n)])), (hu, ai κ 8 u), (hl, ai κ 8 lo), (h1, .inr (0, [.ref gu, .ref gl, .int (zi n2)])), (gu, ai κ 8 u2), (gl, ai κ 8 lo2)] 0 0 0 [(0, .ref h0), (1, .ref h1)] []
  refine z_aload_n E 0 rfl rfl dX0_copyFrom_0 ?_
  refine z_aload_n E 1 rfl rfl dX0_copyFrom_1 ?_
  refine z_get E f_X0_18 3 rfl rfl dX0_copyFrom_2 ?_
  refine z_put (ws' := [(h0, .inr (0, [.ref hu, .ref hl, .int (zi n2)])), (hu, ai κ 8 u), (hl, ai κ 8 lo), (h1, .inr (0, [.ref gu, .ref gl, .int (zi n2)])), (gu, ai κ 8 u2), (gl, ai κ 8 lo2)]) E f_X0_18 t_X0_2 0 rfl rfl rfl (Nat.le_of_ble_eq_true rfl) rfl dX0_copyFrom_5 ?_
  refine z_iconst E dX0_copyFrom_8 ?_
  refine z_istore_n (lv' := [(2, .int (zi 0)), (0, .ref h0), (1, .ref h1)]) E dX0_copyFrom_9 rfl (Nat.le_of_ble_eq_true rfl) rfl ?_
  have lp_10 : ∀ (n_10 : Nat) (i : Int) (v : Int → Int) (w : Int → Int), (0 ≤ i ∧ i ≤ n2) → (∀ k : Int, 0 ≤ k → k < i → v k = u2 k ∧ w k = lo2 k) → (n2 - i) < (n_10 : Int) → Zg X [(gl, ai κ 8 lo2), (gu, ai κ 8 u2), (h0, .inr (0, [.ref hu, .ref hl, .int (zi n2)])), (h1, .inr (0, [.ref gu, .ref gl, .int (zi n2)])), (hl, ai κ 8 w), (hu, ai κ 8 v)] 0 0 10 [(0, .ref h0), (1, .ref h1), (2, .int (zi i))] [] := by
    intro n_10
    induction n_10 with
    | zero =>
      intro i v w i1 i2 hmu
      exact absurd hmu (by omega)
    | succ n_10 ih_10 =>
      intro i v w i1 i2 hmu_10
      refine z_iload_n E 2 rfl rfl dX0_copyFrom_10 ?_
      refine z_aload_n E 0 rfl rfl dX0_copyFrom_11 ?_
      refine z_get E f_X0_18 2 rfl rfl dX0_copyFrom_12 ?_
      refine z_ic_ge (tgt := 39) E (by omega) (by omega) dX0_copyFrom_15 (by decide) (fun h_15 => ?_) (fun h_15 => ?_)
      · refine Zg.perm (ws' := [(h0, .inr (0, [.ref hu, .ref hl, .int (zi n2)])), (hu, ai κ 8 v), (hl, ai κ 8 w), (h1, .inr (0, [.ref gu, .ref gl, .int (zi n2)])), (gu, ai κ 8 u2), (gl, ai κ 8 lo2)]) [2, 5, 4, 3, 1, 0] rfl rfl ?_
        exact fin _ _ _ (⟨_, _, fun j h1 h2 => i2 j h1 (by omega), rfl⟩) dX0_copyFrom_39
      · refine z_aload_n E 0 rfl rfl dX0_copyFrom_18 ?_
        refine z_iload_n E 2 rfl rfl dX0_copyFrom_19 ?_
        refine z_aload_n E 1 rfl rfl dX0_copyFrom_20 ?_
        refine z_iload_n E 2 rfl rfl dX0_copyFrom_21 ?_
        refine z_callVi (As := [.int (zi i)]) (rest := [.int (zi i), .ref h0]) (wr := [(gl, ai κ 8 lo2), (h0, .inr (0, [.ref hu, .ref hl, .int (zi n2)])), (hl, ai κ 8 w), (hu, ai κ 8 v)]) E (c_X0_upperAt l D κ h1 gu gl n2 u2 i (by omega)) m_X0_22 ⟨Nat.le_of_ble_eq_true rfl, Nat.le_of_ble_eq_true rfl⟩ ⟨rfl, rfl⟩ [3, 1] [0, 2, 4, 5] rfl rfl rfl rfl (by decide) rfl rfl rfl rfl (Nat.le_of_ble_eq_true rfl) dX0_copyFrom_22 ⟨Nat.le_of_ble_eq_true rfl, Nat.le_of_ble_eq_true rfl⟩ (fun z22 w1 hq => ?_)
        obtain ⟨rfl, rfl⟩ := hq
        refine z_aload_n E 1 rfl rfl dX0_copyFrom_25 ?_
        refine z_iload_n E 2 rfl rfl dX0_copyFrom_26 ?_
        refine z_callVi (As := [.int (zi i)]) (rest := [.int (zi (u2 i)), .int (zi i), .ref h0]) (wr := [(h0, .inr (0, [.ref hu, .ref hl, .int (zi n2)])), (hl, ai κ 8 w), (hu, ai κ 8 v), (gu, ai κ 8 u2)]) E (c_X0_lowerAt l D κ h1 gu gl n2 lo2 i (by omega)) m_X0_26 ⟨Nat.le_of_ble_eq_true rfl, Nat.le_of_ble_eq_true rfl⟩ ⟨rfl, rfl⟩ [4, 0] [1, 2, 3, 5] rfl rfl rfl rfl (by decide) rfl rfl rfl rfl (Nat.le_of_ble_eq_true rfl) dX0_copyFrom_27 ⟨Nat.le_of_ble_eq_true rfl, Nat.le_of_ble_eq_true rfl⟩ (fun z27 w1 hq => ?_)
        obtain ⟨rfl, rfl⟩ := hq
        refine z_callVv (As := [.int (zi i), .int (zi (u2 i)), .int (zi (lo2 i))]) (rest := []) (wr := [(gu, ai κ 8 u2), (h1, .inr (0, [.ref gu, .ref gl, .int (zi n2)])), (gl, ai κ 8 lo2)]) E (c_X0_put l D κ h0 hu hl n2 v w i (u2 i) (lo2 i) (by omega)) m_X0_35 ⟨Nat.le_of_ble_eq_true rfl, Nat.le_of_ble_eq_true rfl⟩ ⟨rfl, rfl⟩ [0, 2, 1] [3, 4, 5] rfl rfl rfl rfl (by decide) rfl rfl rfl rfl (Nat.le_of_ble_eq_true rfl) dX0_copyFrom_30 ⟨Nat.le_of_ble_eq_true rfl, Nat.le_of_ble_eq_true rfl⟩ (fun  w1 hq => ?_)
        obtain rfl := hq
        refine z_iinc (lv' := [(2, .int (zi (i + 1))), (0, .ref h0), (1, .ref h1)]) E 2 rfl dX0_copyFrom_33 (Nat.le_of_ble_eq_true rfl) rfl ?_
        refine z_goto (tgt := 10) E dX0_copyFrom_36 (by decide) ?_
        refine Zg.sub (lv' := [(0, .ref h0), (1, .ref h1), (2, .int (zi (i + 1)))]) [1, 2, 0] rfl ?_
        refine Zg.perm (ws' := [(gl, ai κ 8 lo2), (gu, ai κ 8 u2), (h0, .inr (0, [.ref hu, .ref hl, .int (zi n2)])), (h1, .inr (0, [.ref gu, .ref gl, .int (zi n2)])), (hl, ai κ 8 (zu w i (lo2 i))), (hu, ai κ 8 (zu v i (u2 i)))]) [2, 0, 3, 1, 5, 4] rfl rfl ?_
        exact ih_10 (i + 1) (zu v i (u2 i)) (zu w i (lo2 i)) (by omega) (cpQ_s i2) (by omega)
  refine Zg.sub (lv' := [(0, .ref h0), (1, .ref h1), (2, .int (zi 0))]) [1, 2, 0] rfl ?_
  refine Zg.perm (ws' := [(gl, ai κ 8 lo2), (gu, ai κ 8 u2), (h0, .inr (0, [.ref hu, .ref hl, .int (zi n2)])), (h1, .inr (0, [.ref gu, .ref gl, .int (zi n2)])), (hl, ai κ 8 lo), (hu, ai κ 8 u)]) [5, 4, 0, 3, 2, 1] rfl rfl ?_
  exact lp_10 ((n2 - 0 : Int).toNat + 1) 0 u lo (by omega) (fun k h1 h2 => absurd h2 (by omega)) (by omega)
