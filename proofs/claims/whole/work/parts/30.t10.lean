abbrev rm_X11_size : Room := { frames := 0, cells := 0, slots := 0, locals := 0 }
set_option maxRecDepth 100000 in
theorem c_X11_size (l : Launch) (D : va_G) (κ : Nat → ClassId) (x : Int) (hv : -9000000000000000000 ≤ x ∧ x ≤ 9000000000000000000) : ZL l yX11_size cX11_size 2 rm_X11_size D κ [.long (zl x)] [] (fun z w => (zabs x) = z ∧ [] = w) := by
  refine ZL.enter (own := RX11) rfl pn_X11_size (Nat.le_of_ble_eq_true rfl) (fun X E fin => ?_)
  show Zg X [] 0 0 0 [(0, .long (zl x))] []
  refine z_lload_n E 0 rfl rfl dX11_size_0 ?_
  refine z_lconst0 E dX11_size_1 ?_
  refine z_lc_ge (tgt := 11) E (by omega) (by omega) dX11_size_2 dX11_size_3 (by decide) (fun h_2 => ?_) (fun h_2 => ?_)
  · refine z_lload_n E 0 rfl rfl dX11_size_11 ?_
    exact fin _ _ _ _ (⟨by have := zabs_or x; omega, rfl⟩) dX11_size_12
  · refine z_lload_n E 0 rfl rfl dX11_size_6 ?_
    refine z_lneg E dX11_size_7 ?_
    refine z_goto (tgt := 12) E dX11_size_8 (by decide) ?_
    exact fin _ _ _ _ (⟨by have := zabs_or x; omega, rfl⟩) dX11_size_12
abbrev rm_X11_begins : Room := { frames := 0, cells := 0, slots := 0, locals := 0 }
set_option maxRecDepth 100000 in
theorem c_X11_begins (l : Launch) (D : va_G) (κ : Nat → ClassId) (m0 : Nat) (ms : Nat) (mp : Nat) (pn : Int) (mt : Nat) (tyd : Int) (mT : Nat) (mO : Nat) (mU : Nat) (ld : Int) (up : Int) (lw : Int) (ua : Int) (la : Int) (bU : Int) (bL : Int) (sv : Int) (xn : Int) (yn : Int) (sp : Int) (rs : Int) (pt : Int) (mr : Nat)  : ZV l yX11_begins cX11_begins 1 rm_X11_begins D κ [.ref m0] [(m0, .inr (11, [.ref ms, .ref mp, .int (zi pn), .ref mt, .int (zi tyd), .ref mT, .ref mO, .ref mU, .int (zi ld), .long (zl up), .long (zl lw), .long (zl ua), .long (zl la), .long (zl bU), .int (zi bL), .int (zi sv), .int (zi xn), .int (zi yn), .int (zi sp), .int (zi rs), .int (zi pt), .ref mr]))] (fun w => [(m0, .inr (11, [.ref ms, .ref mp, .int (zi pn), .ref mt, .int (zi tyd), .ref mT, .ref mO, .ref mU, .int (zi ld), .long (zl 1), .long (zl 0), .long (zl 0), .long (zl 1), .long (zl bU), .int (zi bL), .int (zi sv), .int (zi xn), .int (zi yn), .int (zi sp), .int (zi rs), .int (zi pt), .ref mr]))] = w) := by
  refine ZV.enter (own := RX11) rfl pn_X11_begins (Nat.le_of_ble_eq_true rfl) (fun X E fin => ?_)
  show Zg X [(m0, .inr (11, [.ref ms, .ref mp, .int (zi pn), .ref mt, .int (zi tyd), .ref mT, .ref mO, .ref mU, .int (zi ld), .long (zl up), .long (zl lw), .long (zl ua), .long (zl la), .long (zl bU), .int (zi bL), .int (zi sv), .int (zi xn), .int (zi yn), .int (zi sp), .int (zi rs), .int (zi pt), .ref mr]))] 0 0 0 [(0, .ref m0)] []
  refine z_aload_n E 0 rfl rfl dX11_begins_0 ?_
  refine z_lconst1 E dX11_begins_1 ?_
  refine z_put (ws' := [(m0, .inr (11, [.ref ms, .ref mp, .int (zi pn), .ref mt, .int (zi tyd), .ref mT, .ref mO, .ref mU, .int (zi ld), .long (zl 1), .long (zl lw), .long (zl ua), .long (zl la), .long (zl bU), .int (zi bL), .int (zi sv), .int (zi xn), .int (zi yn), .int (zi sp), .int (zi rs), .int (zi pt), .ref mr]))]) E f_X11_93 t_X11_9 0 rfl rfl rfl (Nat.le_of_ble_eq_true rfl) rfl dX11_begins_2 ?_
  refine z_aload_n E 0 rfl rfl dX11_begins_5 ?_
  refine z_lconst0 E dX11_begins_6 ?_
  refine z_put (ws' := [(m0, .inr (11, [.ref ms, .ref mp, .int (zi pn), .ref mt, .int (zi tyd), .ref mT, .ref mO, .ref mU, .int (zi ld), .long (zl 1), .long (zl 0), .long (zl ua), .long (zl la), .long (zl bU), .int (zi bL), .int (zi sv), .int (zi xn), .int (zi yn), .int (zi sp), .int (zi rs), .int (zi pt), .ref mr]))]) E f_X11_97 t_X11_10 0 rfl rfl rfl (Nat.le_of_ble_eq_true rfl) rfl dX11_begins_7 ?_
  refine z_aload_n E 0 rfl rfl dX11_begins_10 ?_
  refine z_lconst0 E dX11_begins_11 ?_
  refine z_put (ws' := [(m0, .inr (11, [.ref ms, .ref mp, .int (zi pn), .ref mt, .int (zi tyd), .ref mT, .ref mO, .ref mU, .int (zi ld), .long (zl 1), .long (zl 0), .long (zl 0), .long (zl la), .long (zl bU), .int (zi bL), .int (zi sv), .int (zi xn), .int (zi yn), .int (zi sp), .int (zi rs), .int (zi pt), .ref mr]))]) E f_X11_100 t_X11_11 0 rfl rfl rfl (Nat.le_of_ble_eq_true rfl) rfl dX11_begins_12 ?_
  refine z_aload_n E 0 rfl rfl dX11_begins_15 ?_
  refine z_lconst1 E dX11_begins_16 ?_
  refine z_put (ws' := [(m0, .inr (11, [.ref ms, .ref mp, .int (zi pn), .ref mt, .int (zi tyd), .ref mT, .ref mO, .ref mU, .int (zi ld), .long (zl 1), .long (zl 0), .long (zl 0), .long (zl 1), .long (zl bU), .int (zi bL), .int (zi sv), .int (zi xn), .int (zi yn), .int (zi sp), .int (zi rs), .int (zi pt), .ref mr]))]) E f_X11_103 t_X11_12 0 rfl rfl rfl (Nat.le_of_ble_eq_true rfl) rfl dX11_begins_17 ?_
  exact fin _ _ _ (by first | exact rfl | omega) dX11_begins_20
abbrev rm_X11_goesOn : Room := { frames := 1, cells := 0, slots := 0, locals := 21 }
set_option maxRecDepth 100000 in
theorem c_X11_goesOn (l : Launch) (D : va_G) (κ : Nat → ClassId) (m0 : Nat) (ms : Nat) (mp : Nat) (pn : Int) (mt : Nat) (tyd : Int) (mT : Nat) (mO : Nat) (mU : Nat) (ld : Int) (up : Int) (lw : Int) (ua : Int) (la : Int) (bU : Int) (bL : Int) (sv : Int) (xn : Int) (yn : Int) (sp : Int) (rs : Int) (pt : Int) (mr : Nat) (t : Int) (ht : -1000000 ≤ t ∧ t ≤ 1000000) (hup : -9000000000000000 ≤ up ∧ up ≤ 9000000000000000) (hlw : 0 ≤ lw ∧ lw ≤ 9000000000000000) (hua : -9000000000000000 ≤ ua ∧ ua ≤ 9000000000000000) (hla : 0 ≤ la ∧ la ≤ 9000000000000000) (hnn : 0 ≤ t ∨ lw = 0) : ZI l yX11_goesOn cX11_goesOn 9 .boolean rm_X11_goesOn D κ [.ref m0, .long (zl t)] [(m0, .inr (11, [.ref ms, .ref mp, .int (zi pn), .ref mt, .int (zi tyd), .ref mT, .ref mO, .ref mU, .int (zi ld), .long (zl up), .long (zl lw), .long (zl ua), .long (zl la), .long (zl bU), .int (zi bL), .int (zi sv), .int (zi xn), .int (zi yn), .int (zi sp), .int (zi rs), .int (zi pt), .ref mr]))] (fun z w => ∃ up' : Int, ∃ lw' : Int, ∃ ua' : Int, ∃ la' : Int, ∃ o' : Int, ((1 = z ∧ (o' = 0)) ∨ (0 = z ∧ ¬ (o' = 0))) ∧ (chAdd t (up, lw, 0, ua, la) = (up', lw', o', ua', la')) ∧ [(m0, .inr (11, [.ref ms, .ref mp, .int (zi pn), .ref mt, .int (zi tyd), .ref mT, .ref mO, .ref mU, .int (zi ld), .long (zl up'), .long (zl lw'), .long (zl ua'), .long (zl la'), .long (zl bU), .int (zi bL), .int (zi sv), .int (zi xn), .int (zi yn), .int (zi sp), .int (zi rs), .int (zi pt), .ref mr]))] = w) := by
  refine ZI.enter (own := RX11) rfl pn_X11_goesOn (Nat.le_of_ble_eq_true rfl) (fun X E fin => ?_)
  show Zg X [(m0, .inr (11, [.ref ms, .ref mp, .int (zi pn), .ref mt, .int (zi tyd), .ref mT, .ref mO, .ref mU, .int (zi ld), .long (zl up), .long (zl lw), .long (zl ua), .long (zl la), .long (zl bU), .int (zi bL), .int (zi sv), .int (zi xn), .int (zi yn), .int (zi sp), .int (zi rs), .int (zi pt), .ref mr]))] 0 0 0 [(0, .ref m0), (1, .long (zl t))] []
  have zt := zabs_or t
  have zu2 := zabs_or up
  have zlw := zabs_or lw
  refine z_lload_n E 1 rfl rfl dX11_goesOn_0 ?_
  refine z_callSl (As := [.long (zl t)]) (rest := []) (wr := [(m0, .inr (11, [.ref ms, .ref mp, .int (zi pn), .ref mt, .int (zi tyd), .ref mT, .ref mO, .ref mU, .int (zi ld), .long (zl up), .long (zl lw), .long (zl ua), .long (zl la), .long (zl bU), .int (zi bL), .int (zi sv), .int (zi xn), .int (zi yn), .int (zi sp), .int (zi rs), .int (zi pt), .ref mr]))]) E (c_X11_size l D κ t (by omega)) m_X11_106 ⟨Nat.le_of_ble_eq_true rfl, Nat.le_of_ble_eq_true rfl⟩ ⟨rfl, rfl⟩ [] [0] rfl rfl rfl rfl (by decide) rfl rfl (Nat.le_of_ble_eq_true rfl) dX11_goesOn_1 ⟨Nat.le_of_ble_eq_true rfl, Nat.le_of_ble_eq_true rfl⟩ (fun z1 w1 hq => ?_)
  obtain ⟨rfl, rfl⟩ := hq
  refine z_lconst1 E dX11_goesOn_4 ?_
  refine z_ladd E dX11_goesOn_5 ?_
  refine z_lstore_n (lv' := [(3, .long (zl ((zabs t) + 1))), (0, .ref m0), (1, .long (zl t))]) E dX11_goesOn_6 rfl (Nat.le_of_ble_eq_true rfl) rfl ?_
  refine z_aload_n E 1 rfl rfl dX11_goesOn_7 ?_
  refine z_get E f_X11_93 0 rfl rfl dX11_goesOn_8 ?_
  refine z_callSl (As := [.long (zl up)]) (rest := []) (wr := [(m0, .inr (11, [.ref ms, .ref mp, .int (zi pn), .ref mt, .int (zi tyd), .ref mT, .ref mO, .ref mU, .int (zi ld), .long (zl up), .long (zl lw), .long (zl ua), .long (zl la), .long (zl bU), .int (zi bL), .int (zi sv), .int (zi xn), .int (zi yn), .int (zi sp), .int (zi rs), .int (zi pt), .ref mr]))]) E (c_X11_size l D κ up (by omega)) m_X11_106 ⟨Nat.le_of_ble_eq_true rfl, Nat.le_of_ble_eq_true rfl⟩ ⟨rfl, rfl⟩ [] [0] rfl rfl rfl rfl (by decide) rfl rfl (Nat.le_of_ble_eq_true rfl) dX11_goesOn_11 ⟨Nat.le_of_ble_eq_true rfl, Nat.le_of_ble_eq_true rfl⟩ (fun z11 w1 hq => ?_)
  obtain ⟨rfl, rfl⟩ := hq
  refine z_ldc2 E k_X11_109 dX11_goesOn_14 ?_
  refine z_lload_n E 0 rfl rfl dX11_goesOn_17 ?_
  have hq1 := (tdiv_spec (a := 36000000000000000) (b := (zabs t) + 1) (by omega)).1 (by omega)
  have hq2 := tdiv_bd (a := 36000000000000000) (b := (zabs t) + 1) (by omega)
  have hq3 : zabs 36000000000000000 = 36000000000000000 := zabs_pos (by omega)
  refine z_ldiv E (by omega) (by omega) (by omega) dX11_goesOn_18 ?_
  refine z_lc_gt (tgt := 36) E (by omega) (by omega) dX11_goesOn_19 dX11_goesOn_20 (by decide) (fun h_19 => ?_) (fun h_19 => ?_)
  · refine z_iconst E dX11_goesOn_36 ?_
    exact fin _ _ _ _ rfl (⟨_, _, _, _, _, Or.inr ⟨rfl, (by exact fun z => absurd z (by decide))⟩, (chAdd_over (Or.inr (Or.inl (go_big (by omega) hup hua)))), rfl⟩) dX11_goesOn_37
  · refine z_aload_n E 1 rfl rfl dX11_goesOn_23 ?_
    refine z_get E f_X11_97 0 rfl rfl dX11_goesOn_24 ?_
    refine z_ldc2 E k_X11_109 dX11_goesOn_27 ?_
    refine z_lload_n E 0 rfl rfl dX11_goesOn_30 ?_
    refine z_ldiv E (by omega) (by omega) (by omega) dX11_goesOn_31 ?_
    refine z_lc_le (tgt := 38) E (by omega) (by omega) dX11_goesOn_32 dX11_goesOn_33 (by decide) (fun h_32 => ?_) (fun h_32 => ?_)
    · have b1 := go_bd (t := t) (u := up) (by omega)
      have b2 := go_bd (t := t) (u := lw) (by omega)
      have b3 := go_nn hnn hlw.1 hla.1
      have z5 := zabs_or ((t * up) + ua)
      have z6 := zabs_or ((t * lw) + la)
      refine z_lload_n E 2 rfl rfl dX11_goesOn_38 ?_
      refine z_aload_n E 1 rfl rfl dX11_goesOn_39 ?_
      refine z_get E f_X11_93 0 rfl rfl dX11_goesOn_40 ?_
      refine z_lmul E dX11_goesOn_43 ?_
      refine z_aload_n E 1 rfl rfl dX11_goesOn_44 ?_
      refine z_get E f_X11_100 0 rfl rfl dX11_goesOn_45 ?_
      refine z_ladd E dX11_goesOn_48 ?_
      refine z_lstore (lv' := [(5, .long (zl ((t * up) + ua))), (3, .long (zl ((zabs t) + 1))), (0, .ref m0), (1, .long (zl t))]) E dX11_goesOn_49 (Nat.le_of_ble_eq_true rfl) rfl ?_
      refine z_lload_n E 3 rfl rfl dX11_goesOn_51 ?_
      refine z_aload_n E 2 rfl rfl dX11_goesOn_52 ?_
      refine z_get E f_X11_97 0 rfl rfl dX11_goesOn_53 ?_
      refine z_lmul E dX11_goesOn_56 ?_
      refine z_aload_n E 2 rfl rfl dX11_goesOn_57 ?_
      refine z_get E f_X11_103 0 rfl rfl dX11_goesOn_58 ?_
      refine z_ladd E dX11_goesOn_61 ?_
      refine z_lstore (lv' := [(7, .long (zl ((t * lw) + la))), (5, .long (zl ((t * up) + ua))), (3, .long (zl ((zabs t) + 1))), (0, .ref m0), (1, .long (zl t))]) E dX11_goesOn_62 (Nat.le_of_ble_eq_true rfl) rfl ?_
      refine z_lload E 1 rfl dX11_goesOn_64 ?_
      refine z_callSl (As := [.long (zl ((t * up) + ua))]) (rest := []) (wr := [(m0, .inr (11, [.ref ms, .ref mp, .int (zi pn), .ref mt, .int (zi tyd), .ref mT, .ref mO, .ref mU, .int (zi ld), .long (zl up), .long (zl lw), .long (zl ua), .long (zl la), .long (zl bU), .int (zi bL), .int (zi sv), .int (zi xn), .int (zi yn), .int (zi sp), .int (zi rs), .int (zi pt), .ref mr]))]) E (c_X11_size l D κ ((t * up) + ua) (by omega)) m_X11_106 ⟨Nat.le_of_ble_eq_true rfl, Nat.le_of_ble_eq_true rfl⟩ ⟨rfl, rfl⟩ [] [0] rfl rfl rfl rfl (by decide) rfl rfl (Nat.le_of_ble_eq_true rfl) dX11_goesOn_66 ⟨Nat.le_of_ble_eq_true rfl, Nat.le_of_ble_eq_true rfl⟩ (fun z66 w1 hq => ?_)
      obtain ⟨rfl, rfl⟩ := hq
      refine z_ldc2 E k_X11_111 dX11_goesOn_69 ?_
      refine z_lc_gt (tgt := 85) E (by omega) (by omega) dX11_goesOn_72 dX11_goesOn_73 (by decide) (fun h_72 => ?_) (fun h_72 => ?_)
      · refine z_iconst E dX11_goesOn_85 ?_
        exact fin _ _ _ _ rfl (⟨_, _, _, _, _, Or.inr ⟨rfl, (by exact fun z => absurd z (by decide))⟩, (chAdd_over (Or.inr (Or.inl (by omega)))), rfl⟩) dX11_goesOn_86
      · refine z_lload E 0 rfl dX11_goesOn_76 ?_
        refine z_ldc2 E k_X11_111 dX11_goesOn_78 ?_
        refine z_lc_le (tgt := 87) E (by omega) (by omega) dX11_goesOn_81 dX11_goesOn_82 (by decide) (fun h_81 => ?_) (fun h_81 => ?_)
        · refine z_aload_n E 3 rfl rfl dX11_goesOn_87 ?_
          refine z_aload_n E 3 rfl rfl dX11_goesOn_88 ?_
          refine z_get E f_X11_93 0 rfl rfl dX11_goesOn_89 ?_
          refine z_put (ws' := [(m0, .inr (11, [.ref ms, .ref mp, .int (zi pn), .ref mt, .int (zi tyd), .ref mT, .ref mO, .ref mU, .int (zi ld), .long (zl up), .long (zl lw), .long (zl up), .long (zl la), .long (zl bU), .int (zi bL), .int (zi sv), .int (zi xn), .int (zi yn), .int (zi sp), .int (zi rs), .int (zi pt), .ref mr]))]) E f_X11_100 t_X11_11 0 rfl rfl rfl (Nat.le_of_ble_eq_true rfl) rfl dX11_goesOn_92 ?_
          refine z_aload_n E 3 rfl rfl dX11_goesOn_95 ?_
          refine z_aload_n E 3 rfl rfl dX11_goesOn_96 ?_
          refine z_get E f_X11_97 0 rfl rfl dX11_goesOn_97 ?_
          refine z_put (ws' := [(m0, .inr (11, [.ref ms, .ref mp, .int (zi pn), .ref mt, .int (zi tyd), .ref mT, .ref mO, .ref mU, .int (zi ld), .long (zl up), .long (zl lw), .long (zl up), .long (zl lw), .long (zl bU), .int (zi bL), .int (zi sv), .int (zi xn), .int (zi yn), .int (zi sp), .int (zi rs), .int (zi pt), .ref mr]))]) E f_X11_103 t_X11_12 0 rfl rfl rfl (Nat.le_of_ble_eq_true rfl) rfl dX11_goesOn_100 ?_
          refine z_aload_n E 3 rfl rfl dX11_goesOn_103 ?_
          refine z_lload E 1 rfl dX11_goesOn_104 ?_
          refine z_put (ws' := [(m0, .inr (11, [.ref ms, .ref mp, .int (zi pn), .ref mt, .int (zi tyd), .ref mT, .ref mO, .ref mU, .int (zi ld), .long (zl ((t * up) + ua)), .long (zl lw), .long (zl up), .long (zl lw), .long (zl bU), .int (zi bL), .int (zi sv), .int (zi xn), .int (zi yn), .int (zi sp), .int (zi rs), .int (zi pt), .ref mr]))]) E f_X11_93 t_X11_9 0 rfl rfl rfl (Nat.le_of_ble_eq_true rfl) rfl dX11_goesOn_106 ?_
          refine z_aload_n E 3 rfl rfl dX11_goesOn_109 ?_
          refine z_lload E 0 rfl dX11_goesOn_110 ?_
          refine z_put (ws' := [(m0, .inr (11, [.ref ms, .ref mp, .int (zi pn), .ref mt, .int (zi tyd), .ref mT, .ref mO, .ref mU, .int (zi ld), .long (zl ((t * up) + ua)), .long (zl ((t * lw) + la)), .long (zl up), .long (zl lw), .long (zl bU), .int (zi bL), .int (zi sv), .int (zi xn), .int (zi yn), .int (zi sp), .int (zi rs), .int (zi pt), .ref mr]))]) E f_X11_97 t_X11_10 0 rfl rfl rfl (Nat.le_of_ble_eq_true rfl) rfl dX11_goesOn_112 ?_
          refine z_iconst E dX11_goesOn_115 ?_
          exact fin _ _ _ _ rfl (⟨_, _, _, _, _, Or.inl ⟨rfl, (by exact rfl)⟩, (chAdd_go (by omega)), rfl⟩) dX11_goesOn_116
        · refine z_iconst E dX11_goesOn_85 ?_
          exact fin _ _ _ _ rfl (⟨_, _, _, _, _, Or.inr ⟨rfl, (by exact fun z => absurd z (by decide))⟩, (chAdd_over (Or.inr (Or.inr (by omega)))), rfl⟩) dX11_goesOn_86
    · refine z_iconst E dX11_goesOn_36 ?_
      exact fin _ _ _ _ rfl (⟨_, _, _, _, _, Or.inr ⟨rfl, (by exact fun z => absurd z (by decide))⟩, (chAdd_over (Or.inr (Or.inr (go_big (u := lw) (by omega) (by omega) (by omega))))), rfl⟩) dX11_goesOn_37
abbrev rm_X11_goesTo : Room := { frames := 3, cells := 0, slots := 0, locals := 85 }
set_option maxRecDepth 100000 in
theorem c_X11_goesTo (l : Launch) (D : va_G) (κ : Nat → ClassId) (m0 : Nat) (ms : Nat) (mp : Nat) (pn : Int) (mt : Nat) (tyd : Int) (mT : Nat) (mO : Nat) (mU : Nat) (ld : Int) (up : Int) (lw : Int) (ua : Int) (la : Int) (bU : Int) (bL : Int) (sv : Int) (xn : Int) (yn : Int) (sp : Int) (rs : Int) (pt : Int) (mr : Nat) (S : Int → Int) (T : Int → Int) (OV : Int → Int) (UN : Int → Int) (i : Int) (hi : 0 ≤ i ∧ i ≤ 399) (hv : vS (S 0) (S 1) (S 2)) : ZI l yX11_goesTo cX11_goesTo 4 .boolean rm_X11_goesTo D κ [.ref m0, .int (zi i)] [(m0, .inr (11, [.ref ms, .ref mp, .int (zi pn), .ref mt, .int (zi tyd), .ref mT, .ref mO, .ref mU, .int (zi ld), .long (zl up), .long (zl lw), .long (zl ua), .long (zl la), .long (zl bU), .int (zi bL), .int (zi sv), .int (zi xn), .int (zi yn), .int (zi sp), .int (zi rs), .int (zi pt), .ref mr])), (ms, ai κ 20 S), (mT, ai κ 401 T), (mO, al κ 402 OV), (mU, al κ 402 UN)] (fun z w => ∃ up' : Int, ∃ lw' : Int, ∃ ua' : Int, ∃ la' : Int, ∃ T' : Int → Int, ∃ OV' : Int → Int, ∃ UN' : Int → Int, ((1 = z ∧ ((chRun (tm (S 0) (S 1) (S 2)) (i + 1).toNat).2.2.1 = 0)) ∨ (0 = z ∧ ¬ ((chRun (tm (S 0) (S 1) (S 2)) (i + 1).toNat).2.2.1 = 0))) ∧ ((chRun (tm (S 0) (S 1) (S 2)) (i + 1).toNat).2.2.1 = 0 → chRun (tm (S 0) (S 1) (S 2)) (i + 1).toNat = (up', lw', 0, ua', la')) ∧ (∀ k : Int, 0 ≤ k → k ≤ 400 → T' k = tm (S 0) (S 1) (S 2) k) ∧ (lyP (S 0) (S 1) (S 2) 401 OV' UN') ∧ [(m0, .inr (11, [.ref ms, .ref mp, .int (zi pn), .ref mt, .int (zi tyd), .ref mT, .ref mO, .ref mU, .int (zi ld), .long (zl up'), .long (zl lw'), .long (zl ua'), .long (zl la'), .long (zl bU), .int (zi bL), .int (zi sv), .int (zi xn), .int (zi yn), .int (zi sp), .int (zi rs), .int (zi pt), .ref mr])), (ms, ai κ 20 S), (mT, ai κ 401 T'), (mO, al κ 402 OV'), (mU, al κ 402 UN')] = w) := by
  refine ZI.enter (own := RX11) rfl pn_X11_goesTo (Nat.le_of_ble_eq_true rfl) (fun X E fin => ?_)
  show Zg X [(m0, .inr (11, [.ref ms, .ref mp, .int (zi pn), .ref mt, .int (zi tyd), .ref mT, .ref mO, .ref mU, .int (zi ld), .long (zl up), .long (zl lw), .long (zl ua), .long (zl la), .long (zl bU), .int (zi bL), .int (zi sv), .int (zi xn), .int (zi yn), .int (zi sp), .int (zi rs), .int (zi pt), .ref mr])), (ms, ai κ 20 S), (mT, ai κ 401 T), (mO, al κ 402 OV), (mU, al κ 402 UN)] 0 0 0 [(0, .ref m0), (1, .int (zi i))] []
  refine z_aload_n E 0 rfl rfl dX11_goesTo_0 ?_
  refine z_callVv (As := []) (rest := []) (wr := []) E (c_X11_lays l D κ m0 ms mp pn mt tyd mT mO mU ld up lw ua la bU bL sv xn yn sp rs pt mr S T OV UN (hv)) m_X11_69 ⟨Nat.le_of_ble_eq_true rfl, Nat.le_of_ble_eq_true rfl⟩ ⟨rfl, rfl⟩ [0, 1, 2, 3, 4] [] rfl rfl rfl rfl (by decide) rfl rfl rfl rfl (Nat.le_of_ble_eq_true rfl) dX11_goesTo_1 ⟨Nat.le_of_ble_eq_true rfl, Nat.le_of_ble_eq_true rfl⟩ (fun  w1 hq => ?_)
  obtain ⟨T'_1, OV'_2, UN'_3, hT_1, hO_1, rfl⟩ := hq
  refine z_aload_n E 0 rfl rfl dX11_goesTo_4 ?_
  refine z_callVv (As := []) (rest := []) (wr := [(ms, ai κ 20 S), (mT, ai κ 401 T'_1), (mO, al κ 402 OV'_2), (mU, al κ 402 UN'_3)]) E (c_X11_begins l D κ m0 ms mp pn mt tyd mT mO mU ld up lw ua la bU bL sv xn yn sp rs pt mr ) m_X11_113 ⟨Nat.le_of_ble_eq_true rfl, Nat.le_of_ble_eq_true rfl⟩ ⟨rfl, rfl⟩ [0] [1, 2, 3, 4] rfl rfl rfl rfl (by decide) rfl rfl rfl rfl (Nat.le_of_ble_eq_true rfl) dX11_goesTo_5 ⟨Nat.le_of_ble_eq_true rfl, Nat.le_of_ble_eq_true rfl⟩ (fun  w1 hq => ?_)
  obtain rfl := hq
  refine z_iconst E dX11_goesTo_8 ?_
  refine z_istore_n (lv' := [(2, .int (zi 1)), (0, .ref m0), (1, .int (zi i))]) E dX11_goesTo_9 rfl (Nat.le_of_ble_eq_true rfl) rfl ?_
  refine z_iconst E dX11_goesTo_10 ?_
  refine z_istore_n (lv' := [(3, .int (zi 0)), (2, .int (zi 1)), (0, .ref m0), (1, .int (zi i))]) E dX11_goesTo_11 rfl (Nat.le_of_ble_eq_true rfl) rfl ?_
  have lp_12 : ∀ (n_12 : Nat) (is : Int) (k : Int) (a : Int) (b : Int) (e : Int) (g : Int), (0 ≤ k ∧ k ≤ i + 1) → (goI (tm (S 0) (S 1) (S 2)) k is a b e g) → ((i + 1) - k) < (n_12 : Int) → Zg X [(m0, .inr (11, [.ref ms, .ref mp, .int (zi pn), .ref mt, .int (zi tyd), .ref mT, .ref mO, .ref mU, .int (zi ld), .long (zl a), .long (zl b), .long (zl e), .long (zl g), .long (zl bU), .int (zi bL), .int (zi sv), .int (zi xn), .int (zi yn), .int (zi sp), .int (zi rs), .int (zi pt), .ref mr])), (mO, al κ 402 OV'_2), (mT, ai κ 401 T'_1), (mU, al κ 402 UN'_3), (ms, ai κ 20 S)] 0 0 12 [(0, .ref m0), (1, .int (zi i)), (2, .int (zi is)), (3, .int (zi k))] [] := by
    intro n_12
    induction n_12 with
    | zero =>
      intro is k a b e g i0 i1 hmu
      exact absurd hmu (by omega)
    | succ n_12 ih_12 =>
      intro is k a b e g i0 i1 hmu_12
      refine z_iload_n E 3 rfl rfl dX11_goesTo_12 ?_
      refine z_iload_n E 1 rfl rfl dX11_goesTo_13 ?_
      refine z_ic_gt (tgt := 39) E (by omega) (by omega) dX11_goesTo_14 (by decide) (fun h_14 => ?_) (fun h_14 => ?_)
      · have hib2 := goI_b i1
        refine z_iload_n E 2 rfl rfl dX11_goesTo_39 ?_
        refine Zg.perm (ws' := [(m0, .inr (11, [.ref ms, .ref mp, .int (zi pn), .ref mt, .int (zi tyd), .ref mT, .ref mO, .ref mU, .int (zi ld), .long (zl a), .long (zl b), .long (zl e), .long (zl g), .long (zl bU), .int (zi bL), .int (zi sv), .int (zi xn), .int (zi yn), .int (zi sp), .int (zi rs), .int (zi pt), .ref mr])), (ms, ai κ 20 S), (mT, ai κ 401 T'_1), (mO, al κ 402 OV'_2), (mU, al κ 402 UN'_3)]) [0, 4, 2, 1, 3] rfl rfl ?_
        exact fin _ _ _ _ (nar_bool (by omega)) (⟨_, _, _, _, _, _, _, (goI_end i1 (by omega) (by omega)).1, (goI_end i1 (by omega) (by omega)).2, hT_1, hO_1, rfl⟩) dX11_goesTo_40
      · have hib := goI_b i1
        refine z_iload_n E 2 rfl rfl dX11_goesTo_17 ?_
        refine z_if_eq (tgt := 39) E (by omega) dX11_goesTo_18 (by decide) (fun h_18 => ?_) (fun h_18 => ?_)
        · have hib2 := goI_b i1
          refine z_iload_n E 2 rfl rfl dX11_goesTo_39 ?_
          refine Zg.perm (ws' := [(m0, .inr (11, [.ref ms, .ref mp, .int (zi pn), .ref mt, .int (zi tyd), .ref mT, .ref mO, .ref mU, .int (zi ld), .long (zl a), .long (zl b), .long (zl e), .long (zl g), .long (zl bU), .int (zi bL), .int (zi sv), .int (zi xn), .int (zi yn), .int (zi sp), .int (zi rs), .int (zi pt), .ref mr])), (ms, ai κ 20 S), (mT, ai κ 401 T'_1), (mO, al κ 402 OV'_2), (mU, al κ 402 UN'_3)]) [0, 4, 2, 1, 3] rfl rfl ?_
          exact fin _ _ _ _ (nar_bool (by omega)) (⟨_, _, _, _, _, _, _, (goI_end i1 (by omega) (by omega)).1, (goI_end i1 (by omega) (by omega)).2, hT_1, hO_1, rfl⟩) dX11_goesTo_40
        · have hgr := goI_get i1 (by omega)
          have hgb := chRun_nn (tm_fP hv 401) i0.1 (by omega) hgr
          rw [← hT_1 k (by omega) (by omega)] at hgb
          refine z_aload_n E 0 rfl rfl dX11_goesTo_21 ?_
          refine z_aload_n E 0 rfl rfl dX11_goesTo_22 ?_
          refine z_get E f_X11_19 0 rfl rfl dX11_goesTo_23 ?_
          refine z_iload_n E 3 rfl rfl dX11_goesTo_26 ?_
          refine z_iald E 2 rfl (Nat.le_of_ble_eq_true rfl) (by omega) (by omega) dX11_goesTo_27 ?_
          refine z_i2l E (by omega) dX11_goesTo_28 ?_
          refine z_callVi (As := [.long (zl (T'_1 k))]) (rest := []) (wr := [(mO, al κ 402 OV'_2), (mT, ai κ 401 T'_1), (mU, al κ 402 UN'_3), (ms, ai κ 20 S)]) E (c_X11_goesOn l D κ m0 ms mp pn mt tyd mT mO mU ld a b e g bU bL sv xn yn sp rs pt mr (T'_1 k) (hgb.2.2.2.2.2.1) (hgb.1) (hgb.2.1) (hgb.2.2.1) (hgb.2.2.2.1) (hgb.2.2.2.2.1)) m_X11_116 ⟨Nat.le_of_ble_eq_true rfl, Nat.le_of_ble_eq_true rfl⟩ ⟨rfl, rfl⟩ [0] [1, 2, 3, 4] rfl rfl rfl rfl (by decide) rfl rfl rfl rfl (Nat.le_of_ble_eq_true rfl) dX11_goesTo_29 ⟨Nat.le_of_ble_eq_true rfl, Nat.le_of_ble_eq_true rfl⟩ (fun z29 w1 hq => ?_)
          obtain ⟨up'_4, lw'_5, ua'_6, la'_7, o'_8, ⟨rfl, hc_29⟩ | ⟨rfl, hc_29⟩, hh_29, rfl⟩ := hq
          · refine z_istore_n (lv' := [(2, .int (zi 1)), (0, .ref m0), (1, .int (zi i)), (3, .int (zi k))]) E dX11_goesTo_32 rfl (Nat.le_of_ble_eq_true rfl) rfl ?_
            refine z_iinc (lv' := [(3, .int (zi (k + 1))), (2, .int (zi 1)), (0, .ref m0), (1, .int (zi i))]) E 3 rfl dX11_goesTo_33 (Nat.le_of_ble_eq_true rfl) rfl ?_
            refine z_goto (tgt := 12) E dX11_goesTo_36 (by decide) ?_
            refine Zg.sub (lv' := [(0, .ref m0), (1, .int (zi i)), (2, .int (zi 1)), (3, .int (zi (k + 1)))]) [2, 3, 1, 0] rfl ?_
            refine Zg.perm (ws' := [(m0, .inr (11, [.ref ms, .ref mp, .int (zi pn), .ref mt, .int (zi tyd), .ref mT, .ref mO, .ref mU, .int (zi ld), .long (zl up'_4), .long (zl lw'_5), .long (zl ua'_6), .long (zl la'_7), .long (zl bU), .int (zi bL), .int (zi sv), .int (zi xn), .int (zi yn), .int (zi sp), .int (zi rs), .int (zi pt), .ref mr])), (mO, al κ 402 OV'_2), (mT, ai κ 401 T'_1), (mU, al κ 402 UN'_3), (ms, ai κ 20 S)]) [4, 0, 1, 2, 3] rfl rfl ?_
            exact ih_12 1 (k + 1) up'_4 lw'_5 ua'_6 la'_7 (by omega) ((goI_s i0.1 hgr (hT_1 k (by omega) (by omega)) hh_29).1 hc_29) (by omega)
          · refine z_istore_n (lv' := [(2, .int (zi 0)), (0, .ref m0), (1, .int (zi i)), (3, .int (zi k))]) E dX11_goesTo_32 rfl (Nat.le_of_ble_eq_true rfl) rfl ?_
            refine z_iinc (lv' := [(3, .int (zi (k + 1))), (2, .int (zi 0)), (0, .ref m0), (1, .int (zi i))]) E 3 rfl dX11_goesTo_33 (Nat.le_of_ble_eq_true rfl) rfl ?_
            refine z_goto (tgt := 12) E dX11_goesTo_36 (by decide) ?_
            refine Zg.sub (lv' := [(0, .ref m0), (1, .int (zi i)), (2, .int (zi 0)), (3, .int (zi (k + 1)))]) [2, 3, 1, 0] rfl ?_
            refine Zg.perm (ws' := [(m0, .inr (11, [.ref ms, .ref mp, .int (zi pn), .ref mt, .int (zi tyd), .ref mT, .ref mO, .ref mU, .int (zi ld), .long (zl up'_4), .long (zl lw'_5), .long (zl ua'_6), .long (zl la'_7), .long (zl bU), .int (zi bL), .int (zi sv), .int (zi xn), .int (zi yn), .int (zi sp), .int (zi rs), .int (zi pt), .ref mr])), (mO, al κ 402 OV'_2), (mT, ai κ 401 T'_1), (mU, al κ 402 UN'_3), (ms, ai κ 20 S)]) [4, 0, 1, 2, 3] rfl rfl ?_
            exact ih_12 0 (k + 1) up'_4 lw'_5 ua'_6 la'_7 (by omega) ((goI_s i0.1 hgr (hT_1 k (by omega) (by omega)) hh_29).2 hc_29) (by omega)
  refine Zg.sub (lv' := [(0, .ref m0), (1, .int (zi i)), (2, .int (zi 1)), (3, .int (zi 0))]) [2, 3, 1, 0] rfl ?_
  refine Zg.perm (ws' := [(m0, .inr (11, [.ref ms, .ref mp, .int (zi pn), .ref mt, .int (zi tyd), .ref mT, .ref mO, .ref mU, .int (zi ld), .long (zl 1), .long (zl 0), .long (zl 0), .long (zl 1), .long (zl bU), .int (zi bL), .int (zi sv), .int (zi xn), .int (zi yn), .int (zi sp), .int (zi rs), .int (zi pt), .ref mr])), (mO, al κ 402 OV'_2), (mT, ai κ 401 T'_1), (mU, al κ 402 UN'_3), (ms, ai κ 20 S)]) [4, 2, 1, 3, 0] rfl rfl ?_
  exact lp_12 (((i + 1) - 0 : Int).toNat + 1) 1 0 1 0 0 1 (by omega) (goI_0) (by omega)
abbrev rm_X11_convergent : Room := { frames := 4, cells := 0, slots := 0, locals := 108 }
set_option maxRecDepth 100000 in
theorem c_X11_convergent (l : Launch) (D : va_G) (κ : Nat → ClassId) (m0 : Nat) (ms : Nat) (mp : Nat) (pn : Int) (mt : Nat) (tyd : Int) (mT : Nat) (mO : Nat) (mU : Nat) (ld : Int) (up : Int) (lw : Int) (ua : Int) (la : Int) (bU : Int) (bL : Int) (sv : Int) (xn : Int) (yn : Int) (sp : Int) (rs : Int) (pt : Int) (mr : Nat) (S : Int → Int) (T : Int → Int) (OV : Int → Int) (UN : Int → Int) (i : Int) (pt_ : Int) (hr0 : -2147483648 ≤ i ∧ i ≤ 2147483647) (hr1 : -2147483648 ≤ pt_ ∧ pt_ ≤ 2147483647) (hv : vS (S 0) (S 1) (S 2)) : ZL l yX11_convergent cX11_convergent 3 rm_X11_convergent D κ [.ref m0, .int (zi i), .int (zi pt_)] [(m0, .inr (11, [.ref ms, .ref mp, .int (zi pn), .ref mt, .int (zi tyd), .ref mT, .ref mO, .ref mU, .int (zi ld), .long (zl up), .long (zl lw), .long (zl ua), .long (zl la), .long (zl bU), .int (zi bL), .int (zi sv), .int (zi xn), .int (zi yn), .int (zi sp), .int (zi rs), .int (zi pt), .ref mr])), (ms, ai κ 20 S), (mT, ai κ 401 T), (mO, al κ 402 OV), (mU, al κ 402 UN)] (fun z w => ∃ r : Int, ∃ up' : Int, ∃ lw' : Int, ∃ ua' : Int, ∃ la' : Int, ∃ T' : Int → Int, ∃ OV' : Int → Int, ∃ UN' : Int → Int, (cvM (S 0) (S 1) (S 2) i pt_ r) ∧ r = z ∧ [(m0, .inr (11, [.ref ms, .ref mp, .int (zi pn), .ref mt, .int (zi tyd), .ref mT, .ref mO, .ref mU, .int (zi ld), .long (zl up'), .long (zl lw'), .long (zl ua'), .long (zl la'), .long (zl bU), .int (zi bL), .int (zi sv), .int (zi xn), .int (zi yn), .int (zi sp), .int (zi rs), .int (zi pt), .ref mr])), (ms, ai κ 20 S), (mT, ai κ 401 T'), (mO, al κ 402 OV'), (mU, al κ 402 UN')] = w) := by
  refine ZL.enter (own := RX11) rfl pn_X11_convergent (Nat.le_of_ble_eq_true rfl) (fun X E fin => ?_)
  show Zg X [(m0, .inr (11, [.ref ms, .ref mp, .int (zi pn), .ref mt, .int (zi tyd), .ref mT, .ref mO, .ref mU, .int (zi ld), .long (zl up), .long (zl lw), .long (zl ua), .long (zl la), .long (zl bU), .int (zi bL), .int (zi sv), .int (zi xn), .int (zi yn), .int (zi sp), .int (zi rs), .int (zi pt), .ref mr])), (ms, ai κ 20 S), (mT, ai κ 401 T), (mO, al κ 402 OV), (mU, al κ 402 UN)] 0 0 0 [(0, .ref m0), (1, .int (zi i)), (2, .int (zi pt_))] []
  refine z_iload_n E 1 rfl rfl dX11_convergent_0 ?_
  refine z_i2l E (by omega) dX11_convergent_1 ?_
  refine z_lconst0 E dX11_convergent_2 ?_
  refine z_ldc2 E k_X11_67 dX11_convergent_3 ?_
  refine z_callSi (As := [.long (zl i), .long (zl 0), .long (zl 399)]) (rest := []) (wr := [(m0, .inr (11, [.ref ms, .ref mp, .int (zi pn), .ref mt, .int (zi tyd), .ref mT, .ref mO, .ref mU, .int (zi ld), .long (zl up), .long (zl lw), .long (zl ua), .long (zl la), .long (zl bU), .int (zi bL), .int (zi sv), .int (zi xn), .int (zi yn), .int (zi sp), .int (zi rs), .int (zi pt), .ref mr])), (ms, ai κ 20 S), (mT, ai κ 401 T), (mO, al κ 402 OV), (mU, al κ 402 UN)]) E (c_X11_in l D κ i 0 399 (by omega) (by omega) (by omega)) m_X11_44 ⟨Nat.le_of_ble_eq_true rfl, Nat.le_of_ble_eq_true rfl⟩ ⟨rfl, rfl⟩ [] [0, 1, 2, 3, 4] rfl rfl rfl rfl (by decide) rfl rfl (Nat.le_of_ble_eq_true rfl) dX11_convergent_6 ⟨Nat.le_of_ble_eq_true rfl, Nat.le_of_ble_eq_true rfl⟩ (fun z6 w1 hq => ?_)
  obtain ⟨⟨rfl, hc_6⟩ | ⟨rfl, hc_6⟩, rfl⟩ := hq
  · refine z_if_eq (tgt := 22) E (by omega) dX11_convergent_9 (by decide) (fun h => absurd h (by decide)) (fun _ => ?_)
    refine z_iload_n E 2 rfl rfl dX11_convergent_12 ?_
    refine z_i2l E (by omega) dX11_convergent_13 ?_
    refine z_lconst0 E dX11_convergent_14 ?_
    refine z_lconst1 E dX11_convergent_15 ?_
    refine z_callSi (As := [.long (zl pt_), .long (zl 0), .long (zl 1)]) (rest := []) (wr := [(m0, .inr (11, [.ref ms, .ref mp, .int (zi pn), .ref mt, .int (zi tyd), .ref mT, .ref mO, .ref mU, .int (zi ld), .long (zl up), .long (zl lw), .long (zl ua), .long (zl la), .long (zl bU), .int (zi bL), .int (zi sv), .int (zi xn), .int (zi yn), .int (zi sp), .int (zi rs), .int (zi pt), .ref mr])), (ms, ai κ 20 S), (mT, ai κ 401 T), (mO, al κ 402 OV), (mU, al κ 402 UN)]) E (c_X11_in l D κ pt_ 0 1 (by omega) (by omega) (by omega)) m_X11_44 ⟨Nat.le_of_ble_eq_true rfl, Nat.le_of_ble_eq_true rfl⟩ ⟨rfl, rfl⟩ [] [0, 1, 2, 3, 4] rfl rfl rfl rfl (by decide) rfl rfl (Nat.le_of_ble_eq_true rfl) dX11_convergent_16 ⟨Nat.le_of_ble_eq_true rfl, Nat.le_of_ble_eq_true rfl⟩ (fun z16 w1 hq => ?_)
    obtain ⟨⟨rfl, hc_16⟩ | ⟨rfl, hc_16⟩, rfl⟩ := hq
    · refine z_if_ne (tgt := 26) E (by omega) dX11_convergent_19 (by decide) (fun _ => ?_) (fun h => absurd h (by decide))
      refine z_aload_n E 0 rfl rfl dX11_convergent_26 ?_
      refine z_iload_n E 1 rfl rfl dX11_convergent_27 ?_
      refine z_callVi (As := [.int (zi i)]) (rest := []) (wr := []) E (c_X11_goesTo l D κ m0 ms mp pn mt tyd mT mO mU ld up lw ua la bU bL sv xn yn sp rs pt mr S T OV UN i (by omega) (hv)) m_X11_122 ⟨Nat.le_of_ble_eq_true rfl, Nat.le_of_ble_eq_true rfl⟩ ⟨rfl, rfl⟩ [0, 1, 2, 3, 4] [] rfl rfl rfl rfl (by decide) rfl rfl rfl rfl (Nat.le_of_ble_eq_true rfl) dX11_convergent_28 ⟨Nat.le_of_ble_eq_true rfl, Nat.le_of_ble_eq_true rfl⟩ (fun z28 w1 hq => ?_)
      obtain ⟨up'_1, lw'_2, ua'_3, la'_4, T'_5, OV'_6, UN'_7, ⟨rfl, hc_28⟩ | ⟨rfl, hc_28⟩, hr_28, hT_28, hO_28, rfl⟩ := hq
      · refine z_if_ne (tgt := 40) E (by omega) dX11_convergent_31 (by decide) (fun _ => ?_) (fun h => absurd h (by decide))
        refine z_iload_n E 2 rfl rfl dX11_convergent_40 ?_
        refine z_if_ne (tgt := 55) E (by omega) dX11_convergent_41 (by decide) (fun h_41 => ?_) (fun h_41 => ?_)
        · refine z_aload_n E 0 rfl rfl dX11_convergent_55 ?_
          refine z_get E f_X11_97 0 rfl rfl dX11_convergent_56 ?_
          exact fin _ _ _ _ (⟨_, _, _, _, _, _, _, _, (by exact Or.inr (Or.inr ⟨⟨hc_6, hc_16⟩, hc_28, by rw [hr_28 hc_28]; exact Or.inr ⟨by omega, rfl⟩⟩)), rfl, rfl⟩) dX11_convergent_59
        · refine z_aload_n E 0 rfl rfl dX11_convergent_44 ?_
          refine z_get E f_X11_93 0 rfl rfl dX11_convergent_45 ?_
          refine z_ldc2 E k_X11_111 dX11_convergent_48 ?_
          refine z_ladd E dX11_convergent_51 ?_
          refine z_goto (tgt := 59) E dX11_convergent_52 (by decide) ?_
          exact fin _ _ _ _ (⟨_, _, _, _, _, _, _, _, (by exact Or.inr (Or.inr ⟨⟨hc_6, hc_16⟩, hc_28, by rw [hr_28 hc_28]; exact Or.inl ⟨by omega, rfl⟩⟩)), rfl, rfl⟩) dX11_convergent_59
      · refine z_if_ne (tgt := 40) E (by omega) dX11_convergent_31 (by decide) (fun h => absurd h (by decide)) (fun _ => ?_)
        refine z_ldc2 E k_X11_125 dX11_convergent_34 ?_
        refine z_goto (tgt := 59) E dX11_convergent_37 (by decide) ?_
        exact fin _ _ _ _ (⟨_, _, _, _, _, _, _, _, (by exact Or.inr (Or.inl ⟨⟨hc_6, hc_16⟩, hc_28, rfl⟩)), rfl, rfl⟩) dX11_convergent_59
    · refine z_if_ne (tgt := 26) E (by omega) dX11_convergent_19 (by decide) (fun h => absurd h (by decide)) (fun _ => ?_)
      refine z_ldc2 E k_X11_120 dX11_convergent_22 ?_
      exact fin _ _ _ _ (⟨_, _, _, _, _, _, _, _, (by exact Or.inl ⟨fun z => hc_16 z.2, rfl⟩), rfl, rfl⟩) dX11_convergent_25
  · refine z_if_eq (tgt := 22) E (by omega) dX11_convergent_9 (by decide) (fun _ => ?_) (fun h => absurd h (by decide))
    refine z_ldc2 E k_X11_120 dX11_convergent_22 ?_
    exact fin _ _ _ _ (⟨_, _, _, _, _, _, _, _, (by exact Or.inl ⟨fun z => hc_6 z.1, rfl⟩), rfl, rfl⟩) dX11_convergent_25
abbrev rm_X11_between : Room := { frames := 4, cells := 0, slots := 0, locals := 108 }
set_option maxRecDepth 100000 in
theorem c_X11_between (l : Launch) (D : va_G) (κ : Nat → ClassId) (m0 : Nat) (ms : Nat) (mp : Nat) (pn : Int) (mt : Nat) (tyd : Int) (mT : Nat) (mO : Nat) (mU : Nat) (ld : Int) (up : Int) (lw : Int) (ua : Int) (la : Int) (bU : Int) (bL : Int) (sv : Int) (xn : Int) (yn : Int) (sp : Int) (rs : Int) (pt : Int) (mr : Nat) (S : Int → Int) (T : Int → Int) (OV : Int → Int) (UN : Int → Int) (i : Int) (by_ : Int) (pt_ : Int) (hr0 : -2147483648 ≤ i ∧ i ≤ 2147483647) (hr1 : -2147483648 ≤ by_ ∧ by_ ≤ 2147483647) (hr2 : -2147483648 ≤ pt_ ∧ pt_ ≤ 2147483647) (hv : vS (S 0) (S 1) (S 2)) : ZL l yX11_between cX11_between 6 rm_X11_between D κ [.ref m0, .int (zi i), .int (zi by_), .int (zi pt_)] [(m0, .inr (11, [.ref ms, .ref mp, .int (zi pn), .ref mt, .int (zi tyd), .ref mT, .ref mO, .ref mU, .int (zi ld), .long (zl up), .long (zl lw), .long (zl ua), .long (zl la), .long (zl bU), .int (zi bL), .int (zi sv), .int (zi xn), .int (zi yn), .int (zi sp), .int (zi rs), .int (zi pt), .ref mr])), (ms, ai κ 20 S), (mT, ai κ 401 T), (mO, al κ 402 OV), (mU, al κ 402 UN)] (fun z w => ∃ r : Int, ∃ up' : Int, ∃ lw' : Int, ∃ ua' : Int, ∃ la' : Int, ∃ T' : Int → Int, ∃ OV' : Int → Int, ∃ UN' : Int → Int, (btM (S 0) (S 1) (S 2) i by_ pt_ r) ∧ r = z ∧ [(m0, .inr (11, [.ref ms, .ref mp, .int (zi pn), .ref mt, .int (zi tyd), .ref mT, .ref mO, .ref mU, .int (zi ld), .long (zl up'), .long (zl lw'), .long (zl ua'), .long (zl la'), .long (zl bU), .int (zi bL), .int (zi sv), .int (zi xn), .int (zi yn), .int (zi sp), .int (zi rs), .int (zi pt), .ref mr])), (ms, ai κ 20 S), (mT, ai κ 401 T'), (mO, al κ 402 OV'), (mU, al κ 402 UN')] = w) := by
  refine ZL.enter (own := RX11) rfl pn_X11_between (Nat.le_of_ble_eq_true rfl) (fun X E fin => ?_)
  show Zg X [(m0, .inr (11, [.ref ms, .ref mp, .int (zi pn), .ref mt, .int (zi tyd), .ref mT, .ref mO, .ref mU, .int (zi ld), .long (zl up), .long (zl lw), .long (zl ua), .long (zl la), .long (zl bU), .int (zi bL), .int (zi sv), .int (zi xn), .int (zi yn), .int (zi sp), .int (zi rs), .int (zi pt), .ref mr])), (ms, ai κ 20 S), (mT, ai κ 401 T), (mO, al κ 402 OV), (mU, al κ 402 UN)] 0 0 0 [(0, .ref m0), (1, .int (zi i)), (2, .int (zi by_)), (3, .int (zi pt_))] []
  refine z_iload_n E 1 rfl rfl dX11_between_0 ?_
  refine z_i2l E (by omega) dX11_between_1 ?_
  refine z_ldc2 E k_X11_38 dX11_between_2 ?_
  refine z_ldc2 E k_X11_67 dX11_between_5 ?_
  refine z_callSi (As := [.long (zl i), .long (zl 2), .long (zl 399)]) (rest := []) (wr := [(m0, .inr (11, [.ref ms, .ref mp, .int (zi pn), .ref mt, .int (zi tyd), .ref mT, .ref mO, .ref mU, .int (zi ld), .long (zl up), .long (zl lw), .long (zl ua), .long (zl la), .long (zl bU), .int (zi bL), .int (zi sv), .int (zi xn), .int (zi yn), .int (zi sp), .int (zi rs), .int (zi pt), .ref mr])), (ms, ai κ 20 S), (mT, ai κ 401 T), (mO, al κ 402 OV), (mU, al κ 402 UN)]) E (c_X11_in l D κ i 2 399 (by omega) (by omega) (by omega)) m_X11_44 ⟨Nat.le_of_ble_eq_true rfl, Nat.le_of_ble_eq_true rfl⟩ ⟨rfl, rfl⟩ [] [0, 1, 2, 3, 4] rfl rfl rfl rfl (by decide) rfl rfl (Nat.le_of_ble_eq_true rfl) dX11_between_8 ⟨Nat.le_of_ble_eq_true rfl, Nat.le_of_ble_eq_true rfl⟩ (fun z8 w1 hq => ?_)
  obtain ⟨⟨rfl, hc_8⟩ | ⟨rfl, hc_8⟩, rfl⟩ := hq
  · refine z_if_eq (tgt := 29) E (by omega) dX11_between_11 (by decide) (fun h => absurd h (by decide)) (fun _ => ?_)
    refine z_iload_n E 2 rfl rfl dX11_between_14 ?_
    refine z_iconst E dX11_between_15 ?_
    refine z_ic_lt (tgt := 29) E (by omega) (by omega) dX11_between_16 (by decide) (fun h_16 => ?_) (fun h_16 => ?_)
    · refine z_ldc2 E k_X11_120 dX11_between_29 ?_
      exact fin _ _ _ _ (⟨_, _, _, _, _, _, _, _, (by exact Or.inl ⟨fun z => by have := z.2.2; omega, rfl⟩), rfl, rfl⟩) dX11_between_32
    · refine z_iload_n E 3 rfl rfl dX11_between_19 ?_
      refine z_i2l E (by omega) dX11_between_20 ?_
      refine z_lconst0 E dX11_between_21 ?_
      refine z_lconst1 E dX11_between_22 ?_
      refine z_callSi (As := [.long (zl pt_), .long (zl 0), .long (zl 1)]) (rest := []) (wr := [(m0, .inr (11, [.ref ms, .ref mp, .int (zi pn), .ref mt, .int (zi tyd), .ref mT, .ref mO, .ref mU, .int (zi ld), .long (zl up), .long (zl lw), .long (zl ua), .long (zl la), .long (zl bU), .int (zi bL), .int (zi sv), .int (zi xn), .int (zi yn), .int (zi sp), .int (zi rs), .int (zi pt), .ref mr])), (ms, ai κ 20 S), (mT, ai κ 401 T), (mO, al κ 402 OV), (mU, al κ 402 UN)]) E (c_X11_in l D κ pt_ 0 1 (by omega) (by omega) (by omega)) m_X11_44 ⟨Nat.le_of_ble_eq_true rfl, Nat.le_of_ble_eq_true rfl⟩ ⟨rfl, rfl⟩ [] [0, 1, 2, 3, 4] rfl rfl rfl rfl (by decide) rfl rfl (Nat.le_of_ble_eq_true rfl) dX11_between_23 ⟨Nat.le_of_ble_eq_true rfl, Nat.le_of_ble_eq_true rfl⟩ (fun z23 w1 hq => ?_)
      obtain ⟨⟨rfl, hc_23⟩ | ⟨rfl, hc_23⟩, rfl⟩ := hq
      · refine z_if_ne (tgt := 33) E (by omega) dX11_between_26 (by decide) (fun _ => ?_) (fun h => absurd h (by decide))
        refine z_aload_n E 0 rfl rfl dX11_between_33 ?_
        refine z_callVv (As := []) (rest := []) (wr := []) E (c_X11_lays l D κ m0 ms mp pn mt tyd mT mO mU ld up lw ua la bU bL sv xn yn sp rs pt mr S T OV UN (hv)) m_X11_69 ⟨Nat.le_of_ble_eq_true rfl, Nat.le_of_ble_eq_true rfl⟩ ⟨rfl, rfl⟩ [0, 1, 2, 3, 4] [] rfl rfl rfl rfl (by decide) rfl rfl rfl rfl (Nat.le_of_ble_eq_true rfl) dX11_between_34 ⟨Nat.le_of_ble_eq_true rfl, Nat.le_of_ble_eq_true rfl⟩ (fun  w1 hq => ?_)
        obtain ⟨T'_1, OV'_2, UN'_3, hT_34, hO_34, rfl⟩ := hq
        refine z_iload_n E 2 rfl rfl dX11_between_37 ?_
        refine z_aload_n E 0 rfl rfl dX11_between_38 ?_
        refine z_get E f_X11_19 0 rfl rfl dX11_between_39 ?_
        refine z_iload_n E 1 rfl rfl dX11_between_42 ?_
        refine z_iald E 2 rfl (Nat.le_of_ble_eq_true rfl) (by omega) (by omega) dX11_between_43 ?_
        have hti := hT_34 i (by omega) (by omega)
        have htb := tm_bd hv i
        refine z_ic_lt (tgt := 51) E (by omega) (by omega) dX11_between_44 (by decide) (fun h_44 => ?_) (fun h_44 => ?_)
        · refine z_aload_n E 0 rfl rfl dX11_between_51 ?_
          refine z_iload_n E 1 rfl rfl dX11_between_52 ?_
          refine z_callVi (As := [.int (zi i)]) (rest := []) (wr := []) E (c_X11_goesTo l D κ m0 ms mp pn mt tyd mT mO mU ld up lw ua la bU bL sv xn yn sp rs pt mr S T'_1 OV'_2 UN'_3 i (by omega) (hv)) m_X11_122 ⟨Nat.le_of_ble_eq_true rfl, Nat.le_of_ble_eq_true rfl⟩ ⟨rfl, rfl⟩ [0, 1, 2, 3, 4] [] rfl rfl rfl rfl (by decide) rfl rfl rfl rfl (Nat.le_of_ble_eq_true rfl) dX11_between_53 ⟨Nat.le_of_ble_eq_true rfl, Nat.le_of_ble_eq_true rfl⟩ (fun z53 w1 hq => ?_)
          obtain ⟨up'_4, lw'_5, ua'_6, la'_7, T'_8, OV'_9, UN'_10, ⟨rfl, hc_53⟩ | ⟨rfl, hc_53⟩, hr_53, hT_53, hO_53, rfl⟩ := hq
          · refine z_if_ne (tgt := 63) E (by omega) dX11_between_56 (by decide) (fun _ => ?_) (fun h => absurd h (by decide))
            have hti2 := hT_53 i (by omega) (by omega)
            have hpv := chRun_prev (by omega) (hr_53 hc_53)
            refine z_aload_n E 0 rfl rfl dX11_between_63 ?_
            refine z_get E f_X11_19 0 rfl rfl dX11_between_64 ?_
            refine z_iload_n E 1 rfl rfl dX11_between_67 ?_
            refine z_iald E 2 rfl (Nat.le_of_ble_eq_true rfl) (by omega) (by omega) dX11_between_68 ?_
            refine z_iload_n E 2 rfl rfl dX11_between_69 ?_
            refine z_isub E dX11_between_70 ?_
            refine z_i2l E (by omega) dX11_between_71 ?_
            refine z_lstore (lv' := [(4, .long (zl ((T'_8 i) - by_))), (0, .ref m0), (1, .int (zi i)), (2, .int (zi by_)), (3, .int (zi pt_))]) E dX11_between_72 (Nat.le_of_ble_eq_true rfl) rfl ?_
            refine z_iload_n E 4 rfl rfl dX11_between_74 ?_
            refine z_if_ne (tgt := 97) E (by omega) dX11_between_75 (by decide) (fun h_75 => ?_) (fun h_75 => ?_)
            · refine z_aload_n E 1 rfl rfl dX11_between_97 ?_
              refine z_get E f_X11_97 0 rfl rfl dX11_between_98 ?_
              refine z_lload E 0 rfl dX11_between_101 ?_
              refine z_aload_n E 1 rfl rfl dX11_between_103 ?_
              refine z_get E f_X11_103 0 rfl rfl dX11_between_104 ?_
              refine z_lmul E dX11_between_107 ?_
              refine z_lsub E dX11_between_108 ?_
              exact fin _ _ _ _ (⟨_, _, _, _, _, _, _, _, (by exact Or.inr (Or.inr ⟨⟨hc_8, hc_23, by omega⟩, hc_53, Or.inr ⟨by omega, by rw [hti2, bt_id hpv.2.1 hpv.2.2.2.1]⟩⟩)), rfl, rfl⟩) dX11_between_109
            · refine z_aload_n E 1 rfl rfl dX11_between_78 ?_
              refine z_get E f_X11_93 0 rfl rfl dX11_between_79 ?_
              refine z_lload E 0 rfl dX11_between_82 ?_
              refine z_aload_n E 1 rfl rfl dX11_between_84 ?_
              refine z_get E f_X11_100 0 rfl rfl dX11_between_85 ?_
              refine z_lmul E dX11_between_88 ?_
              refine z_lsub E dX11_between_89 ?_
              refine z_ldc2 E k_X11_111 dX11_between_90 ?_
              refine z_ladd E dX11_between_93 ?_
              refine z_goto (tgt := 109) E dX11_between_94 (by decide) ?_
              exact fin _ _ _ _ (⟨_, _, _, _, _, _, _, _, (by exact Or.inr (Or.inr ⟨⟨hc_8, hc_23, by omega⟩, hc_53, Or.inl ⟨by omega, by rw [hti2, bt_id hpv.1 hpv.2.2.1]⟩⟩)), rfl, rfl⟩) dX11_between_109
          · refine z_if_ne (tgt := 63) E (by omega) dX11_between_56 (by decide) (fun h => absurd h (by decide)) (fun _ => ?_)
            refine z_ldc2 E k_X11_125 dX11_between_59 ?_
            exact fin _ _ _ _ (⟨_, _, _, _, _, _, _, _, (by exact Or.inr (Or.inl ⟨⟨hc_8, hc_23, by omega⟩, hc_53, rfl⟩)), rfl, rfl⟩) dX11_between_62
        · refine z_ldc2 E k_X11_120 dX11_between_47 ?_
          exact fin _ _ _ _ (⟨_, _, _, _, _, _, _, _, (by exact Or.inl ⟨fun z => by have := z.2.2; have e := hT_34 i (by omega) (by omega); omega, rfl⟩), rfl, rfl⟩) dX11_between_50
      · refine z_if_ne (tgt := 33) E (by omega) dX11_between_26 (by decide) (fun h => absurd h (by decide)) (fun _ => ?_)
        refine z_ldc2 E k_X11_120 dX11_between_29 ?_
        exact fin _ _ _ _ (⟨_, _, _, _, _, _, _, _, (by exact Or.inl ⟨fun z => hc_23 z.2.1, rfl⟩), rfl, rfl⟩) dX11_between_32
  · refine z_if_eq (tgt := 29) E (by omega) dX11_between_11 (by decide) (fun _ => ?_) (fun h => absurd h (by decide))
    refine z_ldc2 E k_X11_120 dX11_between_29 ?_
    exact fin _ _ _ _ (⟨_, _, _, _, _, _, _, _, (by exact Or.inl ⟨fun z => hc_8 z.1, rfl⟩), rfl, rfl⟩) dX11_between_32
abbrev rm_X11_isAbove : Room := { frames := 0, cells := 0, slots := 0, locals := 0 }
set_option maxRecDepth 100000 in
theorem c_X11_isAbove (l : Launch) (D : va_G) (κ : Nat → ClassId) (m0 : Nat) (ms : Nat) (mp : Nat) (pn : Int) (mt : Nat) (tyd : Int) (mT : Nat) (mO : Nat) (mU : Nat) (ld : Int) (up : Int) (lw : Int) (ua : Int) (la : Int) (bU : Int) (bL : Int) (sv : Int) (xn : Int) (yn : Int) (sp : Int) (rs : Int) (pt : Int) (mr : Nat) (S : Int → Int) (n : Int) (m : Int) (hv : vS (S 0) (S 1) (S 2)) (hn : -12500000 ≤ n ∧ n ≤ 12500000) (hm : 1 ≤ m ∧ m ≤ 80000) : ZI l yX11_isAbove cX11_isAbove 8 .boolean rm_X11_isAbove D κ [.ref m0, .long (zl n), .long (zl m)] [(m0, .inr (11, [.ref ms, .ref mp, .int (zi pn), .ref mt, .int (zi tyd), .ref mT, .ref mO, .ref mU, .int (zi ld), .long (zl up), .long (zl lw), .long (zl ua), .long (zl la), .long (zl bU), .int (zi bL), .int (zi sv), .int (zi xn), .int (zi yn), .int (zi sp), .int (zi rs), .int (zi pt), .ref mr])), (ms, ai κ 20 S)] (fun z w => ((1 = z ∧ (¬ abv (S 0) (S 1) (S 2) n m = true)) ∨ (0 = z ∧ ¬ (¬ abv (S 0) (S 1) (S 2) n m = true))) ∧ [(m0, .inr (11, [.ref ms, .ref mp, .int (zi pn), .ref mt, .int (zi tyd), .ref mT, .ref mO, .ref mU, .int (zi ld), .long (zl up), .long (zl lw), .long (zl ua), .long (zl la), .long (zl bU), .int (zi bL), .int (zi sv), .int (zi xn), .int (zi yn), .int (zi sp), .int (zi rs), .int (zi pt), .ref mr])), (ms, ai κ 20 S)] = w) := by
  refine ZI.enter (own := RX11) rfl pn_X11_isAbove (Nat.le_of_ble_eq_true rfl) (fun X E fin => ?_)
  show Zg X [(m0, .inr (11, [.ref ms, .ref mp, .int (zi pn), .ref mt, .int (zi tyd), .ref mT, .ref mO, .ref mU, .int (zi ld), .long (zl up), .long (zl lw), .long (zl ua), .long (zl la), .long (zl bU), .int (zi bL), .int (zi sv), .int (zi xn), .int (zi yn), .int (zi sp), .int (zi rs), .int (zi pt), .ref mr])), (ms, ai κ 20 S)] 0 0 0 [(0, .ref m0), (1, .long (zl n)), (3, .long (zl m))] []
  obtain ⟨v1, v2, v3, v4, v5⟩ := id hv
  have b1 := mul_bd (a := n) (b := S 2) (M := 12500000) (N := 99) hn v3
  have b2 := mul_bd (a := S 0) (b := m) (M := 99) (N := 80000) v1 (by omega)
  have b3 := sq_bd (a := (n * S 2) - (S 0 * m)) (M := 1245420000) (by omega)
  have b4 := sq_bd (a := m) (M := 80000) (by omega)
  have b5 := mul_bd (a := m * m) (b := S 1) (M := 6400000000) (N := 999) (by omega) (by omega)
  have b6 : 0 < (m * m) * S 1 := Int.mul_pos (Int.mul_pos (by omega) (by omega)) (by omega)
  have hcm : n * S 2 = S 2 * n := Int.mul_comm _ _
  have hne := v5 ((n * S 2) - (S 0 * m)) m (by omega)
  have hsq : ((S 2 * n) - (S 0 * m)) * ((S 2 * n) - (S 0 * m)) = ((n * S 2) - (S 0 * m)) * ((n * S 2) - (S 0 * m)) := by rw [hcm]
  have hz0 : (n * S 2) - (S 0 * m) = 0 → ((n * S 2) - (S 0 * m)) * ((n * S 2) - (S 0 * m)) = 0 := fun z => by rw [z]; rfl
  refine z_lload_n E 1 rfl rfl dX11_isAbove_0 ?_
  refine z_aload_n E 0 rfl rfl dX11_isAbove_1 ?_
  refine z_get E f_X11_7 0 rfl rfl dX11_isAbove_2 ?_
  refine z_iconst E dX11_isAbove_5 ?_
  refine z_iald E 1 rfl (Nat.le_of_ble_eq_true rfl) (by omega) (by omega) dX11_isAbove_6 ?_
  refine z_i2l E (by omega) dX11_isAbove_7 ?_
  refine z_lmul E dX11_isAbove_8 ?_
  refine z_aload_n E 0 rfl rfl dX11_isAbove_9 ?_
  refine z_get E f_X11_7 0 rfl rfl dX11_isAbove_10 ?_
  refine z_iconst E dX11_isAbove_13 ?_
  refine z_iald E 1 rfl (Nat.le_of_ble_eq_true rfl) (by omega) (by omega) dX11_isAbove_14 ?_
  refine z_i2l E (by omega) dX11_isAbove_15 ?_
  refine z_lload_n E 2 rfl rfl dX11_isAbove_16 ?_
  refine z_lmul E dX11_isAbove_17 ?_
  refine z_lsub E dX11_isAbove_18 ?_
  refine z_lstore (lv' := [(5, .long (zl ((n * (S 2)) - ((S 0) * m)))), (0, .ref m0), (1, .long (zl n)), (3, .long (zl m))]) E dX11_isAbove_19 (Nat.le_of_ble_eq_true rfl) rfl ?_
  refine z_lload E 0 rfl dX11_isAbove_21 ?_
  refine z_lconst0 E dX11_isAbove_23 ?_
  refine z_lc_lt (tgt := 48) E (by omega) (by omega) dX11_isAbove_24 dX11_isAbove_25 (by decide) (fun h_24 => ?_) (fun h_24 => ?_)
  · refine z_iconst E dX11_isAbove_48 ?_
    refine z_goto (tgt := 53) E dX11_isAbove_49 (by decide) ?_
    refine z_istore (lv' := [(7, .int (zi 1)), (5, .long (zl ((n * (S 2)) - ((S 0) * m)))), (0, .ref m0), (1, .long (zl n)), (3, .long (zl m))]) E dX11_isAbove_53 (Nat.le_of_ble_eq_true rfl) rfl ?_
    refine z_aload_n E 2 rfl rfl dX11_isAbove_55 ?_
    refine z_get E f_X11_7 0 rfl rfl dX11_isAbove_56 ?_
    refine z_iconst E dX11_isAbove_59 ?_
    refine z_iald E 1 rfl (Nat.le_of_ble_eq_true rfl) (by omega) (by omega) dX11_isAbove_60 ?_
    refine z_if_le (tgt := 69) E (by omega) dX11_isAbove_61 (by decide) (fun h_61 => ?_) (fun h_61 => ?_)
    · refine z_iload E 0 rfl dX11_isAbove_69 ?_
      refine z_if_ne (tgt := 78) E (by omega) dX11_isAbove_71 (by decide) (fun _ => ?_) (fun h => absurd h (by decide))
      refine z_iconst E dX11_isAbove_78 ?_
      exact fin _ _ _ _ rfl (⟨Or.inr ⟨rfl, by rw [abv_iff]; omega⟩, rfl⟩) dX11_isAbove_79
    · refine z_iload E 0 rfl dX11_isAbove_64 ?_
      refine z_goto (tgt := 79) E dX11_isAbove_66 (by decide) ?_
      exact fin _ _ _ _ rfl (⟨Or.inl ⟨rfl, by rw [abv_iff]; omega⟩, rfl⟩) dX11_isAbove_79
  · refine z_lload_n E 3 rfl rfl dX11_isAbove_28 ?_
    refine z_lload_n E 3 rfl rfl dX11_isAbove_29 ?_
    refine z_lmul E dX11_isAbove_30 ?_
    refine z_aload_n E 1 rfl rfl dX11_isAbove_31 ?_
    refine z_get E f_X11_7 0 rfl rfl dX11_isAbove_32 ?_
    refine z_iconst E dX11_isAbove_35 ?_
    refine z_iald E 1 rfl (Nat.le_of_ble_eq_true rfl) (by omega) (by omega) dX11_isAbove_36 ?_
    refine z_i2l E (by omega) dX11_isAbove_37 ?_
    refine z_lmul E dX11_isAbove_38 ?_
    refine z_lload E 0 rfl dX11_isAbove_39 ?_
    refine z_lload E 0 rfl dX11_isAbove_41 ?_
    refine z_lmul E dX11_isAbove_43 ?_
    refine z_lc_le (tgt := 52) E (by omega) (by omega) dX11_isAbove_44 dX11_isAbove_45 (by decide) (fun h_44 => ?_) (fun h_44 => ?_)
    · refine z_iconst E dX11_isAbove_52 ?_
      refine z_istore (lv' := [(7, .int (zi 0)), (5, .long (zl ((n * (S 2)) - ((S 0) * m)))), (0, .ref m0), (1, .long (zl n)), (3, .long (zl m))]) E dX11_isAbove_53 (Nat.le_of_ble_eq_true rfl) rfl ?_
      refine z_aload_n E 2 rfl rfl dX11_isAbove_55 ?_
      refine z_get E f_X11_7 0 rfl rfl dX11_isAbove_56 ?_
      refine z_iconst E dX11_isAbove_59 ?_
      refine z_iald E 1 rfl (Nat.le_of_ble_eq_true rfl) (by omega) (by omega) dX11_isAbove_60 ?_
      refine z_if_le (tgt := 69) E (by omega) dX11_isAbove_61 (by decide) (fun h_61 => ?_) (fun h_61 => ?_)
      · refine z_iload E 0 rfl dX11_isAbove_69 ?_
        refine z_if_ne (tgt := 78) E (by omega) dX11_isAbove_71 (by decide) (fun h => absurd h (by decide)) (fun _ => ?_)
        refine z_iconst E dX11_isAbove_74 ?_
        refine z_goto (tgt := 79) E dX11_isAbove_75 (by decide) ?_
        exact fin _ _ _ _ rfl (⟨Or.inl ⟨rfl, by rw [abv_iff]; omega⟩, rfl⟩) dX11_isAbove_79
      · refine z_iload E 0 rfl dX11_isAbove_64 ?_
        refine z_goto (tgt := 79) E dX11_isAbove_66 (by decide) ?_
        exact fin _ _ _ _ rfl (⟨Or.inr ⟨rfl, by rw [abv_iff]; omega⟩, rfl⟩) dX11_isAbove_79
    · refine z_iconst E dX11_isAbove_48 ?_
      refine z_goto (tgt := 53) E dX11_isAbove_49 (by decide) ?_
      refine z_istore (lv' := [(7, .int (zi 1)), (5, .long (zl ((n * (S 2)) - ((S 0) * m)))), (0, .ref m0), (1, .long (zl n)), (3, .long (zl m))]) E dX11_isAbove_53 (Nat.le_of_ble_eq_true rfl) rfl ?_
      refine z_aload_n E 2 rfl rfl dX11_isAbove_55 ?_
      refine z_get E f_X11_7 0 rfl rfl dX11_isAbove_56 ?_
      refine z_iconst E dX11_isAbove_59 ?_
      refine z_iald E 1 rfl (Nat.le_of_ble_eq_true rfl) (by omega) (by omega) dX11_isAbove_60 ?_
      refine z_if_le (tgt := 69) E (by omega) dX11_isAbove_61 (by decide) (fun h_61 => ?_) (fun h_61 => ?_)
      · refine z_iload E 0 rfl dX11_isAbove_69 ?_
        refine z_if_ne (tgt := 78) E (by omega) dX11_isAbove_71 (by decide) (fun _ => ?_) (fun h => absurd h (by decide))
        refine z_iconst E dX11_isAbove_78 ?_
        exact fin _ _ _ _ rfl (⟨Or.inr ⟨rfl, by rw [abv_iff]; omega⟩, rfl⟩) dX11_isAbove_79
      · refine z_iload E 0 rfl dX11_isAbove_64 ?_
        refine z_goto (tgt := 79) E dX11_isAbove_66 (by decide) ?_
        exact fin _ _ _ _ rfl (⟨Or.inl ⟨rfl, by rw [abv_iff]; omega⟩, rfl⟩) dX11_isAbove_79
abbrev rm_X11_isNearer : Room := { frames := 1, cells := 0, slots := 0, locals := 27 }
set_option maxRecDepth 100000 in
theorem c_X11_isNearer (l : Launch) (D : va_G) (κ : Nat → ClassId) (m0 : Nat) (ms : Nat) (mp : Nat) (pn : Int) (mt : Nat) (tyd : Int) (mT : Nat) (mO : Nat) (mU : Nat) (ld : Int) (up : Int) (lw : Int) (ua : Int) (la : Int) (bU : Int) (bL : Int) (sv : Int) (xn : Int) (yn : Int) (sp : Int) (rs : Int) (pt : Int) (mr : Nat) (S : Int → Int) (a : Int) (b : Int) (c : Int) (e : Int) (hv : vS (S 0) (S 1) (S 2)) (h1 : okF a b) (h2 : okF c e) : ZI l yX11_isNearer cX11_isNearer 12 .boolean rm_X11_isNearer D κ [.ref m0, .long (zl a), .long (zl b), .long (zl c), .long (zl e)] [(m0, .inr (11, [.ref ms, .ref mp, .int (zi pn), .ref mt, .int (zi tyd), .ref mT, .ref mO, .ref mU, .int (zi ld), .long (zl up), .long (zl lw), .long (zl ua), .long (zl la), .long (zl bU), .int (zi bL), .int (zi sv), .int (zi xn), .int (zi yn), .int (zi sp), .int (zi rs), .int (zi pt), .ref mr])), (ms, ai κ 20 S)] (fun z w => ((1 = z ∧ (nrr (S 0) (S 1) (S 2) a b c e = true)) ∨ (0 = z ∧ ¬ (nrr (S 0) (S 1) (S 2) a b c e = true))) ∧ [(m0, .inr (11, [.ref ms, .ref mp, .int (zi pn), .ref mt, .int (zi tyd), .ref mT, .ref mO, .ref mU, .int (zi ld), .long (zl up), .long (zl lw), .long (zl ua), .long (zl la), .long (zl bU), .int (zi bL), .int (zi sv), .int (zi xn), .int (zi yn), .int (zi sp), .int (zi rs), .int (zi pt), .ref mr])), (ms, ai κ 20 S)] = w) := by
  refine ZI.enter (own := RX11) rfl pn_X11_isNearer (Nat.le_of_ble_eq_true rfl) (fun X E fin => ?_)
  show Zg X [(m0, .inr (11, [.ref ms, .ref mp, .int (zi pn), .ref mt, .int (zi tyd), .ref mT, .ref mO, .ref mU, .int (zi ld), .long (zl up), .long (zl lw), .long (zl ua), .long (zl la), .long (zl bU), .int (zi bL), .int (zi sv), .int (zi xn), .int (zi yn), .int (zi sp), .int (zi rs), .int (zi pt), .ref mr])), (ms, ai κ 20 S)] 0 0 0 [(0, .ref m0), (1, .long (zl a)), (3, .long (zl b)), (5, .long (zl c)), (7, .long (zl e))] []
  have b1 := okF_mul h1 h2
  unfold okF at h1 h2
  refine z_aload_n E 0 rfl rfl dX11_isNearer_0 ?_
  refine z_lload_n E 1 rfl rfl dX11_isNearer_1 ?_
  refine z_lload_n E 2 rfl rfl dX11_isNearer_2 ?_
  refine z_callVi (As := [.long (zl a), .long (zl b)]) (rest := []) (wr := []) E (c_X11_isAbove l D κ m0 ms mp pn mt tyd mT mO mU ld up lw ua la bU bL sv xn yn sp rs pt mr S a b (hv) (by omega) (by omega)) m_X11_127 ⟨Nat.le_of_ble_eq_true rfl, Nat.le_of_ble_eq_true rfl⟩ ⟨rfl, rfl⟩ [0, 1] [] rfl rfl rfl rfl (by decide) rfl rfl rfl rfl (Nat.le_of_ble_eq_true rfl) dX11_isNearer_3 ⟨Nat.le_of_ble_eq_true rfl, Nat.le_of_ble_eq_true rfl⟩ (fun z3 w1 hq => ?_)
  obtain ⟨⟨rfl, hc_3⟩ | ⟨rfl, hc_3⟩, rfl⟩ := hq
  · refine z_istore (lv' := [(9, .int (zi 1)), (0, .ref m0), (1, .long (zl a)), (3, .long (zl b)), (5, .long (zl c)), (7, .long (zl e))]) E dX11_isNearer_6 (Nat.le_of_ble_eq_true rfl) rfl ?_
    refine z_aload_n E 1 rfl rfl dX11_isNearer_8 ?_
    refine z_lload E 4 rfl dX11_isNearer_9 ?_
    refine z_lload E 5 rfl dX11_isNearer_11 ?_
    refine z_callVi (As := [.long (zl c), .long (zl e)]) (rest := []) (wr := []) E (c_X11_isAbove l D κ m0 ms mp pn mt tyd mT mO mU ld up lw ua la bU bL sv xn yn sp rs pt mr S c e (hv) (by omega) (by omega)) m_X11_127 ⟨Nat.le_of_ble_eq_true rfl, Nat.le_of_ble_eq_true rfl⟩ ⟨rfl, rfl⟩ [0, 1] [] rfl rfl rfl rfl (by decide) rfl rfl rfl rfl (Nat.le_of_ble_eq_true rfl) dX11_isNearer_13 ⟨Nat.le_of_ble_eq_true rfl, Nat.le_of_ble_eq_true rfl⟩ (fun z13 w1 hq => ?_)
    obtain ⟨⟨rfl, hc_13⟩ | ⟨rfl, hc_13⟩, rfl⟩ := hq
    · refine z_istore (lv' := [(10, .int (zi 1)), (9, .int (zi 1)), (0, .ref m0), (1, .long (zl a)), (3, .long (zl b)), (5, .long (zl c)), (7, .long (zl e))]) E dX11_isNearer_16 (Nat.le_of_ble_eq_true rfl) rfl ?_
      have a1 : ¬ abv (S 0) (S 1) (S 2) a b = true := hc_3
      have a2 : ¬ abv (S 0) (S 1) (S 2) c e = true := hc_13
      refine z_iload E 1 rfl dX11_isNearer_18 ?_
      refine z_iload E 0 rfl dX11_isNearer_20 ?_
      refine z_ic_ne (tgt := 68) E (by omega) (by omega) dX11_isNearer_22 (by decide) (fun h => absurd h (by decide)) (fun _ => ?_)
      refine z_iload E 1 rfl dX11_isNearer_25 ?_
      refine z_if_eq (tgt := 50) E (by omega) dX11_isNearer_27 (by decide) (fun h => absurd h (by decide)) (fun _ => ?_)
      refine z_lload_n E 3 rfl rfl dX11_isNearer_30 ?_
      refine z_lload E 6 rfl dX11_isNearer_31 ?_
      refine z_lmul E dX11_isNearer_33 ?_
      refine z_lload E 5 rfl dX11_isNearer_34 ?_
      refine z_lload_n E 4 rfl rfl dX11_isNearer_36 ?_
      refine z_lmul E dX11_isNearer_37 ?_
      refine z_lc_le (tgt := 46) E (by omega) (by omega) dX11_isNearer_38 dX11_isNearer_39 (by decide) (fun h_38 => ?_) (fun h_38 => ?_)
      · refine z_iconst E dX11_isNearer_46 ?_
        refine z_goto (tgt := 67) E dX11_isNearer_47 (by decide) ?_
        exact fin _ _ _ _ rfl (⟨Or.inr ⟨rfl, by rw [nrr_ff a1 a2]; omega⟩, rfl⟩) dX11_isNearer_67
      · refine z_iconst E dX11_isNearer_42 ?_
        refine z_goto (tgt := 67) E dX11_isNearer_43 (by decide) ?_
        exact fin _ _ _ _ rfl (⟨Or.inl ⟨rfl, by rw [nrr_ff a1 a2]; omega⟩, rfl⟩) dX11_isNearer_67
    · refine z_istore (lv' := [(10, .int (zi 0)), (9, .int (zi 1)), (0, .ref m0), (1, .long (zl a)), (3, .long (zl b)), (5, .long (zl c)), (7, .long (zl e))]) E dX11_isNearer_16 (Nat.le_of_ble_eq_true rfl) rfl ?_
      have a1 : ¬ abv (S 0) (S 1) (S 2) a b = true := hc_3
      have a2 : abv (S 0) (S 1) (S 2) c e = true := Decidable.not_not.mp hc_13
      refine z_iload E 1 rfl dX11_isNearer_18 ?_
      refine z_iload E 0 rfl dX11_isNearer_20 ?_
      refine z_ic_ne (tgt := 68) E (by omega) (by omega) dX11_isNearer_22 (by decide) (fun _ => ?_) (fun h => absurd h (by decide))
      refine z_aload_n E 2 rfl rfl dX11_isNearer_68 ?_
      refine z_lload_n E 3 rfl rfl dX11_isNearer_69 ?_
      refine z_lload E 6 rfl dX11_isNearer_70 ?_
      refine z_lmul E dX11_isNearer_72 ?_
      refine z_lload E 5 rfl dX11_isNearer_73 ?_
      refine z_lload_n E 4 rfl rfl dX11_isNearer_75 ?_
      refine z_lmul E dX11_isNearer_76 ?_
      refine z_ladd E dX11_isNearer_77 ?_
      refine z_ldc2 E k_X11_38 dX11_isNearer_78 ?_
      refine z_lload_n E 4 rfl rfl dX11_isNearer_81 ?_
      refine z_lmul E dX11_isNearer_82 ?_
      refine z_lload E 6 rfl dX11_isNearer_83 ?_
      refine z_lmul E dX11_isNearer_85 ?_
      refine z_callVi (As := [.long (zl ((a * e) + (c * b))), .long (zl ((2 * b) * e))]) (rest := []) (wr := []) E (c_X11_isAbove l D κ m0 ms mp pn mt tyd mT mO mU ld up lw ua la bU bL sv xn yn sp rs pt mr S ((a * e) + (c * b)) ((2 * b) * e) (hv) (by omega) (by omega)) m_X11_127 ⟨Nat.le_of_ble_eq_true rfl, Nat.le_of_ble_eq_true rfl⟩ ⟨rfl, rfl⟩ [0, 1] [] rfl rfl rfl rfl (by decide) rfl rfl rfl rfl (Nat.le_of_ble_eq_true rfl) dX11_isNearer_86 ⟨Nat.le_of_ble_eq_true rfl, Nat.le_of_ble_eq_true rfl⟩ (fun z86 w1 hq => ?_)
      obtain ⟨⟨rfl, hc_86⟩ | ⟨rfl, hc_86⟩, rfl⟩ := hq
      · refine z_istore (lv' := [(11, .int (zi 1)), (10, .int (zi 0)), (9, .int (zi 1)), (0, .ref m0), (1, .long (zl a)), (3, .long (zl b)), (5, .long (zl c)), (7, .long (zl e))]) E dX11_isNearer_89 (Nat.le_of_ble_eq_true rfl) rfl ?_
        refine z_iload E 2 rfl dX11_isNearer_91 ?_
        refine z_if_eq (tgt := 109) E (by omega) dX11_isNearer_93 (by decide) (fun h => absurd h (by decide)) (fun _ => ?_)
        refine z_iload E 0 rfl dX11_isNearer_96 ?_
        refine z_if_ne (tgt := 105) E (by omega) dX11_isNearer_98 (by decide) (fun _ => ?_) (fun h => absurd h (by decide))
        refine z_iconst E dX11_isNearer_105 ?_
        refine z_goto (tgt := 111) E dX11_isNearer_106 (by decide) ?_
        exact fin _ _ _ _ rfl (⟨Or.inr ⟨rfl, by rw [nrr_ft a1 a2]; exact hc_86⟩, rfl⟩) dX11_isNearer_111
      · refine z_istore (lv' := [(11, .int (zi 0)), (10, .int (zi 0)), (9, .int (zi 1)), (0, .ref m0), (1, .long (zl a)), (3, .long (zl b)), (5, .long (zl c)), (7, .long (zl e))]) E dX11_isNearer_89 (Nat.le_of_ble_eq_true rfl) rfl ?_
        refine z_iload E 2 rfl dX11_isNearer_91 ?_
        refine z_if_eq (tgt := 109) E (by omega) dX11_isNearer_93 (by decide) (fun h => absurd h (by decide)) (fun _ => ?_)
        refine z_iload E 0 rfl dX11_isNearer_96 ?_
        refine z_if_ne (tgt := 105) E (by omega) dX11_isNearer_98 (by decide) (fun h => absurd h (by decide)) (fun _ => ?_)
        refine z_iconst E dX11_isNearer_101 ?_
        refine z_goto (tgt := 111) E dX11_isNearer_102 (by decide) ?_
        exact fin _ _ _ _ rfl (⟨Or.inl ⟨rfl, by rw [nrr_ft a1 a2]; exact Decidable.not_not.mp hc_86⟩, rfl⟩) dX11_isNearer_111
  · refine z_istore (lv' := [(9, .int (zi 0)), (0, .ref m0), (1, .long (zl a)), (3, .long (zl b)), (5, .long (zl c)), (7, .long (zl e))]) E dX11_isNearer_6 (Nat.le_of_ble_eq_true rfl) rfl ?_
    refine z_aload_n E 1 rfl rfl dX11_isNearer_8 ?_
    refine z_lload E 4 rfl dX11_isNearer_9 ?_
    refine z_lload E 5 rfl dX11_isNearer_11 ?_
    refine z_callVi (As := [.long (zl c), .long (zl e)]) (rest := []) (wr := []) E (c_X11_isAbove l D κ m0 ms mp pn mt tyd mT mO mU ld up lw ua la bU bL sv xn yn sp rs pt mr S c e (hv) (by omega) (by omega)) m_X11_127 ⟨Nat.le_of_ble_eq_true rfl, Nat.le_of_ble_eq_true rfl⟩ ⟨rfl, rfl⟩ [0, 1] [] rfl rfl rfl rfl (by decide) rfl rfl rfl rfl (Nat.le_of_ble_eq_true rfl) dX11_isNearer_13 ⟨Nat.le_of_ble_eq_true rfl, Nat.le_of_ble_eq_true rfl⟩ (fun z13 w1 hq => ?_)
    obtain ⟨⟨rfl, hc_13⟩ | ⟨rfl, hc_13⟩, rfl⟩ := hq
    · refine z_istore (lv' := [(10, .int (zi 1)), (9, .int (zi 0)), (0, .ref m0), (1, .long (zl a)), (3, .long (zl b)), (5, .long (zl c)), (7, .long (zl e))]) E dX11_isNearer_16 (Nat.le_of_ble_eq_true rfl) rfl ?_
      have a1 : abv (S 0) (S 1) (S 2) a b = true := Decidable.not_not.mp hc_3
      have a2 : ¬ abv (S 0) (S 1) (S 2) c e = true := hc_13
      refine z_iload E 1 rfl dX11_isNearer_18 ?_
      refine z_iload E 0 rfl dX11_isNearer_20 ?_
      refine z_ic_ne (tgt := 68) E (by omega) (by omega) dX11_isNearer_22 (by decide) (fun _ => ?_) (fun h => absurd h (by decide))
      refine z_aload_n E 2 rfl rfl dX11_isNearer_68 ?_
      refine z_lload_n E 3 rfl rfl dX11_isNearer_69 ?_
      refine z_lload E 6 rfl dX11_isNearer_70 ?_
      refine z_lmul E dX11_isNearer_72 ?_
      refine z_lload E 5 rfl dX11_isNearer_73 ?_
      refine z_lload_n E 4 rfl rfl dX11_isNearer_75 ?_
      refine z_lmul E dX11_isNearer_76 ?_
      refine z_ladd E dX11_isNearer_77 ?_
      refine z_ldc2 E k_X11_38 dX11_isNearer_78 ?_
      refine z_lload_n E 4 rfl rfl dX11_isNearer_81 ?_
      refine z_lmul E dX11_isNearer_82 ?_
      refine z_lload E 6 rfl dX11_isNearer_83 ?_
      refine z_lmul E dX11_isNearer_85 ?_
      refine z_callVi (As := [.long (zl ((a * e) + (c * b))), .long (zl ((2 * b) * e))]) (rest := []) (wr := []) E (c_X11_isAbove l D κ m0 ms mp pn mt tyd mT mO mU ld up lw ua la bU bL sv xn yn sp rs pt mr S ((a * e) + (c * b)) ((2 * b) * e) (hv) (by omega) (by omega)) m_X11_127 ⟨Nat.le_of_ble_eq_true rfl, Nat.le_of_ble_eq_true rfl⟩ ⟨rfl, rfl⟩ [0, 1] [] rfl rfl rfl rfl (by decide) rfl rfl rfl rfl (Nat.le_of_ble_eq_true rfl) dX11_isNearer_86 ⟨Nat.le_of_ble_eq_true rfl, Nat.le_of_ble_eq_true rfl⟩ (fun z86 w1 hq => ?_)
      obtain ⟨⟨rfl, hc_86⟩ | ⟨rfl, hc_86⟩, rfl⟩ := hq
      · refine z_istore (lv' := [(11, .int (zi 1)), (10, .int (zi 1)), (9, .int (zi 0)), (0, .ref m0), (1, .long (zl a)), (3, .long (zl b)), (5, .long (zl c)), (7, .long (zl e))]) E dX11_isNearer_89 (Nat.le_of_ble_eq_true rfl) rfl ?_
        refine z_iload E 2 rfl dX11_isNearer_91 ?_
        refine z_if_eq (tgt := 109) E (by omega) dX11_isNearer_93 (by decide) (fun _ => ?_) (fun h => absurd h (by decide))
        refine z_iload E 0 rfl dX11_isNearer_109 ?_
        exact fin _ _ _ _ rfl (⟨Or.inl ⟨rfl, by rw [nrr_tf a1 a2]; exact hc_86⟩, rfl⟩) dX11_isNearer_111
      · refine z_istore (lv' := [(11, .int (zi 0)), (10, .int (zi 1)), (9, .int (zi 0)), (0, .ref m0), (1, .long (zl a)), (3, .long (zl b)), (5, .long (zl c)), (7, .long (zl e))]) E dX11_isNearer_89 (Nat.le_of_ble_eq_true rfl) rfl ?_
        refine z_iload E 2 rfl dX11_isNearer_91 ?_
        refine z_if_eq (tgt := 109) E (by omega) dX11_isNearer_93 (by decide) (fun _ => ?_) (fun h => absurd h (by decide))
        refine z_iload E 0 rfl dX11_isNearer_109 ?_
        exact fin _ _ _ _ rfl (⟨Or.inr ⟨rfl, by rw [nrr_tf a1 a2]; exact hc_86⟩, rfl⟩) dX11_isNearer_111
    · refine z_istore (lv' := [(10, .int (zi 0)), (9, .int (zi 0)), (0, .ref m0), (1, .long (zl a)), (3, .long (zl b)), (5, .long (zl c)), (7, .long (zl e))]) E dX11_isNearer_16 (Nat.le_of_ble_eq_true rfl) rfl ?_
      have a1 : abv (S 0) (S 1) (S 2) a b = true := Decidable.not_not.mp hc_3
      have a2 : abv (S 0) (S 1) (S 2) c e = true := Decidable.not_not.mp hc_13
      refine z_iload E 1 rfl dX11_isNearer_18 ?_
      refine z_iload E 0 rfl dX11_isNearer_20 ?_
      refine z_ic_ne (tgt := 68) E (by omega) (by omega) dX11_isNearer_22 (by decide) (fun h => absurd h (by decide)) (fun _ => ?_)
      refine z_iload E 1 rfl dX11_isNearer_25 ?_
      refine z_if_eq (tgt := 50) E (by omega) dX11_isNearer_27 (by decide) (fun _ => ?_) (fun h => absurd h (by decide))
      refine z_lload_n E 3 rfl rfl dX11_isNearer_50 ?_
      refine z_lload E 6 rfl dX11_isNearer_51 ?_
      refine z_lmul E dX11_isNearer_53 ?_
      refine z_lload E 5 rfl dX11_isNearer_54 ?_
      refine z_lload_n E 4 rfl rfl dX11_isNearer_56 ?_
      refine z_lmul E dX11_isNearer_57 ?_
      refine z_lc_ge (tgt := 66) E (by omega) (by omega) dX11_isNearer_58 dX11_isNearer_59 (by decide) (fun h_58 => ?_) (fun h_58 => ?_)
      · refine z_iconst E dX11_isNearer_66 ?_
        exact fin _ _ _ _ rfl (⟨Or.inr ⟨rfl, by rw [nrr_tt a1 a2]; omega⟩, rfl⟩) dX11_isNearer_67
      · refine z_iconst E dX11_isNearer_62 ?_
        refine z_goto (tgt := 67) E dX11_isNearer_63 (by decide) ?_
        exact fin _ _ _ _ rfl (⟨Or.inl ⟨rfl, by rw [nrr_tt a1 a2]; omega⟩, rfl⟩) dX11_isNearer_67
abbrev rm_X11_floorOf : Room := { frames := 1, cells := 0, slots := 0, locals := 28 }
set_option maxRecDepth 100000 in
theorem c_X11_floorOf (l : Launch) (D : va_G) (κ : Nat → ClassId) (m0 : Nat) (ms : Nat) (mp : Nat) (pn : Int) (mt : Nat) (tyd : Int) (mT : Nat) (mO : Nat) (mU : Nat) (ld : Int) (up : Int) (lw : Int) (ua : Int) (la : Int) (bU : Int) (bL : Int) (sv : Int) (xn : Int) (yn : Int) (sp : Int) (rs : Int) (pt : Int) (mr : Nat) (S : Int → Int) (v : Int) (hv : vS (S 0) (S 1) (S 2)) (hvv : 1 ≤ v ∧ v ≤ 200) : ZL l yX11_floorOf cX11_floorOf 4 rm_X11_floorOf D κ [.ref m0, .int (zi v)] [(m0, .inr (11, [.ref ms, .ref mp, .int (zi pn), .ref mt, .int (zi tyd), .ref mT, .ref mO, .ref mU, .int (zi ld), .long (zl up), .long (zl lw), .long (zl ua), .long (zl la), .long (zl bU), .int (zi bL), .int (zi sv), .int (zi xn), .int (zi yn), .int (zi sp), .int (zi rs), .int (zi pt), .ref mr])), (ms, ai κ 20 S)] (fun z w => (flV (S 0) (S 1) (S 2) v) = z ∧ [(m0, .inr (11, [.ref ms, .ref mp, .int (zi pn), .ref mt, .int (zi tyd), .ref mT, .ref mO, .ref mU, .int (zi ld), .long (zl up), .long (zl lw), .long (zl ua), .long (zl la), .long (zl bU), .int (zi bL), .int (zi sv), .int (zi xn), .int (zi yn), .int (zi sp), .int (zi rs), .int (zi pt), .ref mr])), (ms, ai κ 20 S)] = w) := by
  refine ZL.enter (own := RX11) rfl pn_X11_floorOf (Nat.le_of_ble_eq_true rfl) (fun X E fin => ?_)
  show Zg X [(m0, .inr (11, [.ref ms, .ref mp, .int (zi pn), .ref mt, .int (zi tyd), .ref mT, .ref mO, .ref mU, .int (zi ld), .long (zl up), .long (zl lw), .long (zl ua), .long (zl la), .long (zl bU), .int (zi bL), .int (zi sv), .int (zi xn), .int (zi yn), .int (zi sp), .int (zi rs), .int (zi pt), .ref mr])), (ms, ai κ 20 S)] 0 0 0 [(0, .ref m0), (1, .int (zi v))] []
  have hb := vvd_bd hv hvv
  obtain ⟨v1, v2, v3, v4, v5⟩ := id hv
  refine z_iload_n E 1 rfl rfl dX11_floorOf_0 ?_
  refine z_i2l E (by omega) dX11_floorOf_1 ?_
  refine z_iload_n E 1 rfl rfl dX11_floorOf_2 ?_
  refine z_i2l E (by omega) dX11_floorOf_3 ?_
  refine z_lmul E dX11_floorOf_4 ?_
  refine z_aload_n E 0 rfl rfl dX11_floorOf_5 ?_
  refine z_get E f_X11_7 0 rfl rfl dX11_floorOf_6 ?_
  refine z_iconst E dX11_floorOf_9 ?_
  refine z_iald E 1 rfl (Nat.le_of_ble_eq_true rfl) (by omega) (by omega) dX11_floorOf_10 ?_
  refine z_i2l E (by omega) dX11_floorOf_11 ?_
  refine z_lmul E dX11_floorOf_12 ?_
  refine z_callSl (As := [.long (zl ((v * v) * (S 1)))]) (rest := []) (wr := [(m0, .inr (11, [.ref ms, .ref mp, .int (zi pn), .ref mt, .int (zi tyd), .ref mT, .ref mO, .ref mU, .int (zi ld), .long (zl up), .long (zl lw), .long (zl ua), .long (zl la), .long (zl bU), .int (zi bL), .int (zi sv), .int (zi xn), .int (zi yn), .int (zi sp), .int (zi rs), .int (zi pt), .ref mr])), (ms, ai κ 20 S)]) E (c_X11_root l D κ ((v * v) * (S 1)) (by omega)) m_X11_51 ⟨Nat.le_of_ble_eq_true rfl, Nat.le_of_ble_eq_true rfl⟩ ⟨rfl, rfl⟩ [] [0, 1] rfl rfl rfl rfl (by decide) rfl rfl (Nat.le_of_ble_eq_true rfl) dX11_floorOf_13 ⟨Nat.le_of_ble_eq_true rfl, Nat.le_of_ble_eq_true rfl⟩ (fun z13 w1 hq => ?_)
  obtain ⟨rfl, rfl⟩ := hq
  refine z_iload_n E 1 rfl rfl dX11_floorOf_16 ?_
  refine z_i2l E (by omega) dX11_floorOf_17 ?_
  refine z_aload_n E 0 rfl rfl dX11_floorOf_18 ?_
  refine z_get E f_X11_7 0 rfl rfl dX11_floorOf_19 ?_
  refine z_iconst E dX11_floorOf_22 ?_
  refine z_iald E 1 rfl (Nat.le_of_ble_eq_true rfl) (by omega) (by omega) dX11_floorOf_23 ?_
  refine z_i2l E (by omega) dX11_floorOf_24 ?_
  refine z_lmul E dX11_floorOf_25 ?_
  refine z_ladd E dX11_floorOf_26 ?_
  refine z_lstore_n (lv' := [(2, .long (zl ((rt ((v * v) * (S 1))) + (v * (S 0))))), (0, .ref m0), (1, .int (zi v))]) E dX11_floorOf_27 rfl (Nat.le_of_ble_eq_true rfl) rfl ?_
  refine z_aload_n E 1 rfl rfl dX11_floorOf_28 ?_
  refine z_get E f_X11_7 0 rfl rfl dX11_floorOf_29 ?_
  refine z_iconst E dX11_floorOf_32 ?_
  refine z_iald E 1 rfl (Nat.le_of_ble_eq_true rfl) (by omega) (by omega) dX11_floorOf_33 ?_
  refine z_if_le (tgt := 51) E (by omega) dX11_floorOf_34 (by decide) (fun h_34 => ?_) (fun h_34 => ?_)
  · refine z_lload_n E 0 rfl rfl dX11_floorOf_51 ?_
    refine z_aload_n E 1 rfl rfl dX11_floorOf_52 ?_
    refine z_get E f_X11_7 0 rfl rfl dX11_floorOf_53 ?_
    refine z_iconst E dX11_floorOf_56 ?_
    refine z_iald E 1 rfl (Nat.le_of_ble_eq_true rfl) (by omega) (by omega) dX11_floorOf_57 ?_
    refine z_ineg E dX11_floorOf_58 ?_
    refine z_i2l E (by omega) dX11_floorOf_59 ?_
    refine z_callSl (As := [.long (zl ((rt ((v * v) * (S 1))) + (v * (S 0)))), .long (zl (-(S 2)))]) (rest := []) (wr := [(m0, .inr (11, [.ref ms, .ref mp, .int (zi pn), .ref mt, .int (zi tyd), .ref mT, .ref mO, .ref mU, .int (zi ld), .long (zl up), .long (zl lw), .long (zl ua), .long (zl la), .long (zl bU), .int (zi bL), .int (zi sv), .int (zi xn), .int (zi yn), .int (zi sp), .int (zi rs), .int (zi pt), .ref mr])), (ms, ai κ 20 S)]) E (c_X11_down l D κ ((rt ((v * v) * (S 1))) + (v * (S 0))) (-(S 2)) (by omega) (by omega)) m_X11_59 ⟨Nat.le_of_ble_eq_true rfl, Nat.le_of_ble_eq_true rfl⟩ ⟨rfl, rfl⟩ [] [0, 1] rfl rfl rfl rfl (by decide) rfl rfl (Nat.le_of_ble_eq_true rfl) dX11_floorOf_60 ⟨Nat.le_of_ble_eq_true rfl, Nat.le_of_ble_eq_true rfl⟩ (fun z60 w1 hq => ?_)
    obtain ⟨rfl, rfl⟩ := hq
    refine z_lneg E dX11_floorOf_63 ?_
    refine z_lconst1 E dX11_floorOf_64 ?_
    refine z_lsub E dX11_floorOf_65 ?_
    exact fin _ _ _ _ (⟨by unfold flV; rw [wh_neg (by omega), Int.add_comm]; omega, rfl⟩) dX11_floorOf_66
  · refine z_lload_n E 0 rfl rfl dX11_floorOf_37 ?_
    refine z_aload_n E 1 rfl rfl dX11_floorOf_38 ?_
    refine z_get E f_X11_7 0 rfl rfl dX11_floorOf_39 ?_
    refine z_iconst E dX11_floorOf_42 ?_
    refine z_iald E 1 rfl (Nat.le_of_ble_eq_true rfl) (by omega) (by omega) dX11_floorOf_43 ?_
    refine z_i2l E (by omega) dX11_floorOf_44 ?_
    refine z_callSl (As := [.long (zl ((rt ((v * v) * (S 1))) + (v * (S 0)))), .long (zl (S 2))]) (rest := []) (wr := [(m0, .inr (11, [.ref ms, .ref mp, .int (zi pn), .ref mt, .int (zi tyd), .ref mT, .ref mO, .ref mU, .int (zi ld), .long (zl up), .long (zl lw), .long (zl ua), .long (zl la), .long (zl bU), .int (zi bL), .int (zi sv), .int (zi xn), .int (zi yn), .int (zi sp), .int (zi rs), .int (zi pt), .ref mr])), (ms, ai κ 20 S)]) E (c_X11_down l D κ ((rt ((v * v) * (S 1))) + (v * (S 0))) (S 2) (by omega) (by omega)) m_X11_59 ⟨Nat.le_of_ble_eq_true rfl, Nat.le_of_ble_eq_true rfl⟩ ⟨rfl, rfl⟩ [] [0, 1] rfl rfl rfl rfl (by decide) rfl rfl (Nat.le_of_ble_eq_true rfl) dX11_floorOf_45 ⟨Nat.le_of_ble_eq_true rfl, Nat.le_of_ble_eq_true rfl⟩ (fun z45 w1 hq => ?_)
    obtain ⟨rfl, rfl⟩ := hq
    refine z_goto (tgt := 66) E dX11_floorOf_48 (by decide) ?_
    exact fin _ _ _ _ (⟨by unfold flV; rw [wh_pos (by omega), Int.add_comm], rfl⟩) dX11_floorOf_66
abbrev rm_X11_seeks : Room := { frames := 2, cells := 0, slots := 0, locals := 58 }
set_option maxRecDepth 100000 in
theorem c_X11_seeks (l : Launch) (D : va_G) (κ : Nat → ClassId) (m0 : Nat) (ms : Nat) (mp : Nat) (pn : Int) (mt : Nat) (tyd : Int) (mT : Nat) (mO : Nat) (mU : Nat) (ld : Int) (up : Int) (lw : Int) (ua : Int) (la : Int) (bU : Int) (bL : Int) (sv : Int) (xn : Int) (yn : Int) (sp : Int) (rs : Int) (pt : Int) (mr : Nat) (S : Int → Int) (bd : Int) (hv : vS (S 0) (S 1) (S 2)) (hbd : 1 ≤ bd ∧ bd ≤ 200) : ZI l yX11_seeks cX11_seeks 6 .int rm_X11_seeks D κ [.ref m0, .int (zi bd)] [(m0, .inr (11, [.ref ms, .ref mp, .int (zi pn), .ref mt, .int (zi tyd), .ref mT, .ref mO, .ref mU, .int (zi ld), .long (zl up), .long (zl lw), .long (zl ua), .long (zl la), .long (zl bU), .int (zi bL), .int (zi sv), .int (zi xn), .int (zi yn), .int (zi sp), .int (zi rs), .int (zi pt), .ref mr])), (ms, ai κ 20 S)] (fun z w => ∃ bU' : Int, ∃ bL' : Int, ∃ r : Int, (skN (S 0) (S 1) (S 2) 0 0 bd.toNat = (bU', bL', r) ∧ okF bU' bL' ∧ 0 ≤ r ∧ r ≤ 200) ∧ r = z ∧ [(m0, .inr (11, [.ref ms, .ref mp, .int (zi pn), .ref mt, .int (zi tyd), .ref mT, .ref mO, .ref mU, .int (zi ld), .long (zl up), .long (zl lw), .long (zl ua), .long (zl la), .long (zl bU'), .int (zi bL'), .int (zi sv), .int (zi xn), .int (zi yn), .int (zi sp), .int (zi rs), .int (zi pt), .ref mr])), (ms, ai κ 20 S)] = w) := by
  refine ZI.enter (own := RX11) rfl pn_X11_seeks (Nat.le_of_ble_eq_true rfl) (fun X E fin => ?_)
  show Zg X [(m0, .inr (11, [.ref ms, .ref mp, .int (zi pn), .ref mt, .int (zi tyd), .ref mT, .ref mO, .ref mU, .int (zi ld), .long (zl up), .long (zl lw), .long (zl ua), .long (zl la), .long (zl bU), .int (zi bL), .int (zi sv), .int (zi xn), .int (zi yn), .int (zi sp), .int (zi rs), .int (zi pt), .ref mr])), (ms, ai κ 20 S)] 0 0 0 [(0, .ref m0), (1, .int (zi bd))] []
  refine z_iconst E dX11_seeks_0 ?_
  refine z_istore_n (lv' := [(2, .int (zi 0)), (0, .ref m0), (1, .int (zi bd))]) E dX11_seeks_1 rfl (Nat.le_of_ble_eq_true rfl) rfl ?_
  refine z_iconst E dX11_seeks_2 ?_
  refine z_istore_n (lv' := [(3, .int (zi 1)), (2, .int (zi 0)), (0, .ref m0), (1, .int (zi bd))]) E dX11_seeks_3 rfl (Nat.le_of_ble_eq_true rfl) rfl ?_
  have lp_4 : ∀ (n_4 : Nat) (n : Int) (v : Int) (x : Int) (y : Int), (1 ≤ v ∧ v ≤ bd + 1) → (skI (S 0) (S 1) (S 2) bU bL v x y n) → ((bd + 1) - v) < (n_4 : Int) → Zg X [(m0, .inr (11, [.ref ms, .ref mp, .int (zi pn), .ref mt, .int (zi tyd), .ref mT, .ref mO, .ref mU, .int (zi ld), .long (zl up), .long (zl lw), .long (zl ua), .long (zl la), .long (zl x), .int (zi y), .int (zi sv), .int (zi xn), .int (zi yn), .int (zi sp), .int (zi rs), .int (zi pt), .ref mr])), (ms, ai κ 20 S)] 0 0 4 [(0, .ref m0), (1, .int (zi bd)), (2, .int (zi n)), (3, .int (zi v))] [] := by
    intro n_4
    induction n_4 with
    | zero =>
      intro n v x y i0 i1 hmu
      exact absurd hmu (by omega)
    | succ n_4 ih_4 =>
      intro n v x y i0 i1 hmu_4
      refine z_iload_n E 3 rfl rfl dX11_seeks_4 ?_
      refine z_iload_n E 1 rfl rfl dX11_seeks_5 ?_
      refine z_ic_gt (tgt := 89) E (by omega) (by omega) dX11_seeks_6 (by decide) (fun h_6 => ?_) (fun h_6 => ?_)
      · refine z_iload_n E 2 rfl rfl dX11_seeks_89 ?_
        exact fin _ _ _ _ rfl (⟨_, _, n, (by exact ⟨(skI_end (bd := bd) i1 (by omega) (by omega)).1, (skI_end (bd := bd) i1 (by omega) (by omega)).2, by have := i1.2.2; omega, by have := i1.2.2; omega⟩), rfl, rfl⟩) dX11_seeks_90
      · have hfb := flV_bd hv (v := v) (by omega)
        have hin := i1.2.2
        refine z_aload_n E 0 rfl rfl dX11_seeks_9 ?_
        refine z_iload_n E 3 rfl rfl dX11_seeks_10 ?_
        refine z_callVl (As := [.int (zi v)]) (rest := []) (wr := []) E (c_X11_floorOf l D κ m0 ms mp pn mt tyd mT mO mU ld up lw ua la x y sv xn yn sp rs pt mr S v (hv) (by omega)) m_X11_131 ⟨Nat.le_of_ble_eq_true rfl, Nat.le_of_ble_eq_true rfl⟩ ⟨rfl, rfl⟩ [0, 1] [] rfl rfl rfl rfl (by decide) rfl rfl rfl rfl (Nat.le_of_ble_eq_true rfl) dX11_seeks_11 ⟨Nat.le_of_ble_eq_true rfl, Nat.le_of_ble_eq_true rfl⟩ (fun z11 w1 hq => ?_)
        obtain ⟨rfl, rfl⟩ := hq
        refine z_lstore (lv' := [(4, .long (zl (flV (S 0) (S 1) (S 2) v))), (0, .ref m0), (1, .int (zi bd)), (2, .int (zi n)), (3, .int (zi v))]) E dX11_seeks_14 (Nat.le_of_ble_eq_true rfl) rfl ?_
        refine z_aload_n E 1 rfl rfl dX11_seeks_16 ?_
        refine z_lload E 0 rfl dX11_seeks_17 ?_
        refine z_lconst1 E dX11_seeks_19 ?_
        refine z_ladd E dX11_seeks_20 ?_
        refine z_iload_n E 4 rfl rfl dX11_seeks_21 ?_
        refine z_i2l E (by omega) dX11_seeks_22 ?_
        refine z_lload E 0 rfl dX11_seeks_23 ?_
        refine z_iload_n E 4 rfl rfl dX11_seeks_25 ?_
        refine z_i2l E (by omega) dX11_seeks_26 ?_
        refine z_callVi (As := [.long (zl ((flV (S 0) (S 1) (S 2) v) + 1)), .long (zl v), .long (zl (flV (S 0) (S 1) (S 2) v)), .long (zl v)]) (rest := []) (wr := []) E (c_X11_isNearer l D κ m0 ms mp pn mt tyd mT mO mU ld up lw ua la x y sv xn yn sp rs pt mr S ((flV (S 0) (S 1) (S 2) v) + 1) v (flV (S 0) (S 1) (S 2) v) v (hv) (by unfold okF; omega) (by unfold okF; omega)) m_X11_135 ⟨Nat.le_of_ble_eq_true rfl, Nat.le_of_ble_eq_true rfl⟩ ⟨rfl, rfl⟩ [0, 1] [] rfl rfl rfl rfl (by decide) rfl rfl rfl rfl (Nat.le_of_ble_eq_true rfl) dX11_seeks_27 ⟨Nat.le_of_ble_eq_true rfl, Nat.le_of_ble_eq_true rfl⟩ (fun z27 w1 hq => ?_)
        obtain ⟨⟨rfl, hc_27⟩ | ⟨rfl, hc_27⟩, rfl⟩ := hq
        · refine z_if_eq (tgt := 40) E (by omega) dX11_seeks_30 (by decide) (fun h => absurd h (by decide)) (fun _ => ?_)
          refine z_lload E 0 rfl dX11_seeks_33 ?_
          refine z_lconst1 E dX11_seeks_35 ?_
          refine z_ladd E dX11_seeks_36 ?_
          refine z_goto (tgt := 42) E dX11_seeks_37 (by decide) ?_
          refine z_lstore (lv' := [(4, .long (zl ((flV (S 0) (S 1) (S 2) v) + 1))), (0, .ref m0), (1, .int (zi bd)), (2, .int (zi n)), (3, .int (zi v))]) E dX11_seeks_42 (Nat.le_of_ble_eq_true rfl) rfl ?_
          have hsk : (flV (S 0) (S 1) (S 2) v) + 1 = skU (S 0) (S 1) (S 2) v := by unfold skU; rw [if_pos hc_27]
          rw [hsk]
          refine z_iload_n E 4 rfl rfl dX11_seeks_44 ?_
          refine z_iconst E dX11_seeks_45 ?_
          refine z_ic_eq (tgt := 69) E (by omega) (by omega) dX11_seeks_46 (by decide) (fun h_46 => ?_) (fun h_46 => ?_)
          · refine z_aload_n E 1 rfl rfl dX11_seeks_69 ?_
            refine z_lload E 0 rfl dX11_seeks_70 ?_
            refine z_put (ws' := [(m0, .inr (11, [.ref ms, .ref mp, .int (zi pn), .ref mt, .int (zi tyd), .ref mT, .ref mO, .ref mU, .int (zi ld), .long (zl up), .long (zl lw), .long (zl ua), .long (zl la), .long (zl (skU (S 0) (S 1) (S 2) v)), .int (zi y), .int (zi sv), .int (zi xn), .int (zi yn), .int (zi sp), .int (zi rs), .int (zi pt), .ref mr])), (ms, ai κ 20 S)]) E f_X11_139 t_X11_13 0 rfl rfl rfl (Nat.le_of_ble_eq_true rfl) rfl dX11_seeks_72 ?_
            refine z_aload_n E 1 rfl rfl dX11_seeks_75 ?_
            refine z_iload_n E 4 rfl rfl dX11_seeks_76 ?_
            refine z_put (ws' := [(m0, .inr (11, [.ref ms, .ref mp, .int (zi pn), .ref mt, .int (zi tyd), .ref mT, .ref mO, .ref mU, .int (zi ld), .long (zl up), .long (zl lw), .long (zl ua), .long (zl la), .long (zl (skU (S 0) (S 1) (S 2) v)), .int (zi v), .int (zi sv), .int (zi xn), .int (zi yn), .int (zi sp), .int (zi rs), .int (zi pt), .ref mr])), (ms, ai κ 20 S)]) E f_X11_142 t_X11_14 0 rfl rfl rfl (Nat.le_of_ble_eq_true rfl) rfl dX11_seeks_77 ?_
            refine z_iinc (lv' := [(2, .int (zi (n + 1))), (4, .long (zl (skU (S 0) (S 1) (S 2) v))), (0, .ref m0), (1, .int (zi bd)), (3, .int (zi v))]) E 3 rfl dX11_seeks_80 (Nat.le_of_ble_eq_true rfl) rfl ?_
            refine z_iinc (lv' := [(3, .int (zi (v + 1))), (2, .int (zi (n + 1))), (4, .long (zl (skU (S 0) (S 1) (S 2) v))), (0, .ref m0), (1, .int (zi bd))]) E 4 rfl dX11_seeks_83 (Nat.le_of_ble_eq_true rfl) rfl ?_
            refine z_goto (tgt := 4) E dX11_seeks_86 (by decide) ?_
            refine Zg.sub (lv' := [(0, .ref m0), (1, .int (zi bd)), (2, .int (zi (n + 1))), (3, .int (zi (v + 1)))]) [3, 4, 1, 0] rfl ?_
            exact ih_4 (n + 1) (v + 1) (skU (S 0) (S 1) (S 2) v) v (by omega) ((skI_s hv (by omega) i1 rfl).1 (Or.inl (by omega))) (by omega)
          · have hk1 := skU_bd hv (v := v) (by omega)
            have hk2 := i1.2.1 (by omega)
            refine z_aload_n E 1 rfl rfl dX11_seeks_49 ?_
            refine z_lload E 0 rfl dX11_seeks_50 ?_
            refine z_iload_n E 4 rfl rfl dX11_seeks_52 ?_
            have hk2b := hk2
            refine z_i2l E (by omega) dX11_seeks_53 ?_
            refine z_aload_n E 1 rfl rfl dX11_seeks_54 ?_
            refine z_get E f_X11_139 0 rfl rfl dX11_seeks_55 ?_
            refine z_aload_n E 1 rfl rfl dX11_seeks_58 ?_
            refine z_get E f_X11_142 0 rfl rfl dX11_seeks_59 ?_
            refine z_i2l E (by unfold okF at hk2; omega) dX11_seeks_62 ?_
            refine z_callVi (As := [.long (zl (skU (S 0) (S 1) (S 2) v)), .long (zl v), .long (zl x), .long (zl y)]) (rest := []) (wr := []) E (c_X11_isNearer l D κ m0 ms mp pn mt tyd mT mO mU ld up lw ua la x y sv xn yn sp rs pt mr S (skU (S 0) (S 1) (S 2) v) v x y (hv) (hk1) (hk2)) m_X11_135 ⟨Nat.le_of_ble_eq_true rfl, Nat.le_of_ble_eq_true rfl⟩ ⟨rfl, rfl⟩ [0, 1] [] rfl rfl rfl rfl (by decide) rfl rfl rfl rfl (Nat.le_of_ble_eq_true rfl) dX11_seeks_63 ⟨Nat.le_of_ble_eq_true rfl, Nat.le_of_ble_eq_true rfl⟩ (fun z63 w1 hq => ?_)
            obtain ⟨⟨rfl, hc_63⟩ | ⟨rfl, hc_63⟩, rfl⟩ := hq
            · refine z_if_eq (tgt := 83) E (by omega) dX11_seeks_66 (by decide) (fun h => absurd h (by decide)) (fun _ => ?_)
              refine z_aload_n E 1 rfl rfl dX11_seeks_69 ?_
              refine z_lload E 0 rfl dX11_seeks_70 ?_
              refine z_put (ws' := [(m0, .inr (11, [.ref ms, .ref mp, .int (zi pn), .ref mt, .int (zi tyd), .ref mT, .ref mO, .ref mU, .int (zi ld), .long (zl up), .long (zl lw), .long (zl ua), .long (zl la), .long (zl (skU (S 0) (S 1) (S 2) v)), .int (zi y), .int (zi sv), .int (zi xn), .int (zi yn), .int (zi sp), .int (zi rs), .int (zi pt), .ref mr])), (ms, ai κ 20 S)]) E f_X11_139 t_X11_13 0 rfl rfl rfl (Nat.le_of_ble_eq_true rfl) rfl dX11_seeks_72 ?_
              refine z_aload_n E 1 rfl rfl dX11_seeks_75 ?_
              refine z_iload_n E 4 rfl rfl dX11_seeks_76 ?_
              refine z_put (ws' := [(m0, .inr (11, [.ref ms, .ref mp, .int (zi pn), .ref mt, .int (zi tyd), .ref mT, .ref mO, .ref mU, .int (zi ld), .long (zl up), .long (zl lw), .long (zl ua), .long (zl la), .long (zl (skU (S 0) (S 1) (S 2) v)), .int (zi v), .int (zi sv), .int (zi xn), .int (zi yn), .int (zi sp), .int (zi rs), .int (zi pt), .ref mr])), (ms, ai κ 20 S)]) E f_X11_142 t_X11_14 0 rfl rfl rfl (Nat.le_of_ble_eq_true rfl) rfl dX11_seeks_77 ?_
              refine z_iinc (lv' := [(2, .int (zi (n + 1))), (4, .long (zl (skU (S 0) (S 1) (S 2) v))), (0, .ref m0), (1, .int (zi bd)), (3, .int (zi v))]) E 3 rfl dX11_seeks_80 (Nat.le_of_ble_eq_true rfl) rfl ?_
              refine z_iinc (lv' := [(3, .int (zi (v + 1))), (2, .int (zi (n + 1))), (4, .long (zl (skU (S 0) (S 1) (S 2) v))), (0, .ref m0), (1, .int (zi bd))]) E 4 rfl dX11_seeks_83 (Nat.le_of_ble_eq_true rfl) rfl ?_
              refine z_goto (tgt := 4) E dX11_seeks_86 (by decide) ?_
              refine Zg.sub (lv' := [(0, .ref m0), (1, .int (zi bd)), (2, .int (zi (n + 1))), (3, .int (zi (v + 1)))]) [3, 4, 1, 0] rfl ?_
              exact ih_4 (n + 1) (v + 1) (skU (S 0) (S 1) (S 2) v) v (by omega) ((skI_s hv (by omega) i1 rfl).1 (Or.inr hc_63)) (by omega)
            · refine z_if_eq (tgt := 83) E (by omega) dX11_seeks_66 (by decide) (fun _ => ?_) (fun h => absurd h (by decide))
              refine z_iinc (lv' := [(3, .int (zi (v + 1))), (4, .long (zl (skU (S 0) (S 1) (S 2) v))), (0, .ref m0), (1, .int (zi bd)), (2, .int (zi n))]) E 4 rfl dX11_seeks_83 (Nat.le_of_ble_eq_true rfl) rfl ?_
              refine z_goto (tgt := 4) E dX11_seeks_86 (by decide) ?_
              refine Zg.sub (lv' := [(0, .ref m0), (1, .int (zi bd)), (2, .int (zi n)), (3, .int (zi (v + 1)))]) [2, 3, 4, 0] rfl ?_
              exact ih_4 n (v + 1) x y (by omega) ((skI_s hv (by omega) i1 rfl).2 (fun z => by rcases z with z | z; exact absurd z h_46; exact hc_63 z)) (by omega)
        · refine z_if_eq (tgt := 40) E (by omega) dX11_seeks_30 (by decide) (fun _ => ?_) (fun h => absurd h (by decide))
          refine z_lload E 0 rfl dX11_seeks_40 ?_
          refine z_lstore (lv' := [(4, .long (zl (flV (S 0) (S 1) (S 2) v))), (0, .ref m0), (1, .int (zi bd)), (2, .int (zi n)), (3, .int (zi v))]) E dX11_seeks_42 (Nat.le_of_ble_eq_true rfl) rfl ?_
          have hsk : flV (S 0) (S 1) (S 2) v = skU (S 0) (S 1) (S 2) v := by unfold skU; rw [if_neg hc_27]
          rw [hsk]
          refine z_iload_n E 4 rfl rfl dX11_seeks_44 ?_
          refine z_iconst E dX11_seeks_45 ?_
          refine z_ic_eq (tgt := 69) E (by omega) (by omega) dX11_seeks_46 (by decide) (fun h_46 => ?_) (fun h_46 => ?_)
          · refine z_aload_n E 1 rfl rfl dX11_seeks_69 ?_
            refine z_lload E 0 rfl dX11_seeks_70 ?_
            refine z_put (ws' := [(m0, .inr (11, [.ref ms, .ref mp, .int (zi pn), .ref mt, .int (zi tyd), .ref mT, .ref mO, .ref mU, .int (zi ld), .long (zl up), .long (zl lw), .long (zl ua), .long (zl la), .long (zl (skU (S 0) (S 1) (S 2) v)), .int (zi y), .int (zi sv), .int (zi xn), .int (zi yn), .int (zi sp), .int (zi rs), .int (zi pt), .ref mr])), (ms, ai κ 20 S)]) E f_X11_139 t_X11_13 0 rfl rfl rfl (Nat.le_of_ble_eq_true rfl) rfl dX11_seeks_72 ?_
            refine z_aload_n E 1 rfl rfl dX11_seeks_75 ?_
            refine z_iload_n E 4 rfl rfl dX11_seeks_76 ?_
            refine z_put (ws' := [(m0, .inr (11, [.ref ms, .ref mp, .int (zi pn), .ref mt, .int (zi tyd), .ref mT, .ref mO, .ref mU, .int (zi ld), .long (zl up), .long (zl lw), .long (zl ua), .long (zl la), .long (zl (skU (S 0) (S 1) (S 2) v)), .int (zi v), .int (zi sv), .int (zi xn), .int (zi yn), .int (zi sp), .int (zi rs), .int (zi pt), .ref mr])), (ms, ai κ 20 S)]) E f_X11_142 t_X11_14 0 rfl rfl rfl (Nat.le_of_ble_eq_true rfl) rfl dX11_seeks_77 ?_
            refine z_iinc (lv' := [(2, .int (zi (n + 1))), (4, .long (zl (skU (S 0) (S 1) (S 2) v))), (0, .ref m0), (1, .int (zi bd)), (3, .int (zi v))]) E 3 rfl dX11_seeks_80 (Nat.le_of_ble_eq_true rfl) rfl ?_
            refine z_iinc (lv' := [(3, .int (zi (v + 1))), (2, .int (zi (n + 1))), (4, .long (zl (skU (S 0) (S 1) (S 2) v))), (0, .ref m0), (1, .int (zi bd))]) E 4 rfl dX11_seeks_83 (Nat.le_of_ble_eq_true rfl) rfl ?_
            refine z_goto (tgt := 4) E dX11_seeks_86 (by decide) ?_
            refine Zg.sub (lv' := [(0, .ref m0), (1, .int (zi bd)), (2, .int (zi (n + 1))), (3, .int (zi (v + 1)))]) [3, 4, 1, 0] rfl ?_
            exact ih_4 (n + 1) (v + 1) (skU (S 0) (S 1) (S 2) v) v (by omega) ((skI_s hv (by omega) i1 rfl).1 (Or.inl (by omega))) (by omega)
          · have hk1 := skU_bd hv (v := v) (by omega)
            have hk2 := i1.2.1 (by omega)
            refine z_aload_n E 1 rfl rfl dX11_seeks_49 ?_
            refine z_lload E 0 rfl dX11_seeks_50 ?_
            refine z_iload_n E 4 rfl rfl dX11_seeks_52 ?_
            have hk2b := hk2
            refine z_i2l E (by omega) dX11_seeks_53 ?_
            refine z_aload_n E 1 rfl rfl dX11_seeks_54 ?_
            refine z_get E f_X11_139 0 rfl rfl dX11_seeks_55 ?_
            refine z_aload_n E 1 rfl rfl dX11_seeks_58 ?_
            refine z_get E f_X11_142 0 rfl rfl dX11_seeks_59 ?_
            refine z_i2l E (by unfold okF at hk2; omega) dX11_seeks_62 ?_
            refine z_callVi (As := [.long (zl (skU (S 0) (S 1) (S 2) v)), .long (zl v), .long (zl x), .long (zl y)]) (rest := []) (wr := []) E (c_X11_isNearer l D κ m0 ms mp pn mt tyd mT mO mU ld up lw ua la x y sv xn yn sp rs pt mr S (skU (S 0) (S 1) (S 2) v) v x y (hv) (hk1) (hk2)) m_X11_135 ⟨Nat.le_of_ble_eq_true rfl, Nat.le_of_ble_eq_true rfl⟩ ⟨rfl, rfl⟩ [0, 1] [] rfl rfl rfl rfl (by decide) rfl rfl rfl rfl (Nat.le_of_ble_eq_true rfl) dX11_seeks_63 ⟨Nat.le_of_ble_eq_true rfl, Nat.le_of_ble_eq_true rfl⟩ (fun z63 w1 hq => ?_)
            obtain ⟨⟨rfl, hc_63⟩ | ⟨rfl, hc_63⟩, rfl⟩ := hq
            · refine z_if_eq (tgt := 83) E (by omega) dX11_seeks_66 (by decide) (fun h => absurd h (by decide)) (fun _ => ?_)
              refine z_aload_n E 1 rfl rfl dX11_seeks_69 ?_
              refine z_lload E 0 rfl dX11_seeks_70 ?_
              refine z_put (ws' := [(m0, .inr (11, [.ref ms, .ref mp, .int (zi pn), .ref mt, .int (zi tyd), .ref mT, .ref mO, .ref mU, .int (zi ld), .long (zl up), .long (zl lw), .long (zl ua), .long (zl la), .long (zl (skU (S 0) (S 1) (S 2) v)), .int (zi y), .int (zi sv), .int (zi xn), .int (zi yn), .int (zi sp), .int (zi rs), .int (zi pt), .ref mr])), (ms, ai κ 20 S)]) E f_X11_139 t_X11_13 0 rfl rfl rfl (Nat.le_of_ble_eq_true rfl) rfl dX11_seeks_72 ?_
              refine z_aload_n E 1 rfl rfl dX11_seeks_75 ?_
              refine z_iload_n E 4 rfl rfl dX11_seeks_76 ?_
              refine z_put (ws' := [(m0, .inr (11, [.ref ms, .ref mp, .int (zi pn), .ref mt, .int (zi tyd), .ref mT, .ref mO, .ref mU, .int (zi ld), .long (zl up), .long (zl lw), .long (zl ua), .long (zl la), .long (zl (skU (S 0) (S 1) (S 2) v)), .int (zi v), .int (zi sv), .int (zi xn), .int (zi yn), .int (zi sp), .int (zi rs), .int (zi pt), .ref mr])), (ms, ai κ 20 S)]) E f_X11_142 t_X11_14 0 rfl rfl rfl (Nat.le_of_ble_eq_true rfl) rfl dX11_seeks_77 ?_
              refine z_iinc (lv' := [(2, .int (zi (n + 1))), (4, .long (zl (skU (S 0) (S 1) (S 2) v))), (0, .ref m0), (1, .int (zi bd)), (3, .int (zi v))]) E 3 rfl dX11_seeks_80 (Nat.le_of_ble_eq_true rfl) rfl ?_
              refine z_iinc (lv' := [(3, .int (zi (v + 1))), (2, .int (zi (n + 1))), (4, .long (zl (skU (S 0) (S 1) (S 2) v))), (0, .ref m0), (1, .int (zi bd))]) E 4 rfl dX11_seeks_83 (Nat.le_of_ble_eq_true rfl) rfl ?_
              refine z_goto (tgt := 4) E dX11_seeks_86 (by decide) ?_
              refine Zg.sub (lv' := [(0, .ref m0), (1, .int (zi bd)), (2, .int (zi (n + 1))), (3, .int (zi (v + 1)))]) [3, 4, 1, 0] rfl ?_
              exact ih_4 (n + 1) (v + 1) (skU (S 0) (S 1) (S 2) v) v (by omega) ((skI_s hv (by omega) i1 rfl).1 (Or.inr hc_63)) (by omega)
            · refine z_if_eq (tgt := 83) E (by omega) dX11_seeks_66 (by decide) (fun _ => ?_) (fun h => absurd h (by decide))
              refine z_iinc (lv' := [(3, .int (zi (v + 1))), (4, .long (zl (skU (S 0) (S 1) (S 2) v))), (0, .ref m0), (1, .int (zi bd)), (2, .int (zi n))]) E 4 rfl dX11_seeks_83 (Nat.le_of_ble_eq_true rfl) rfl ?_
              refine z_goto (tgt := 4) E dX11_seeks_86 (by decide) ?_
              refine Zg.sub (lv' := [(0, .ref m0), (1, .int (zi bd)), (2, .int (zi n)), (3, .int (zi (v + 1)))]) [2, 3, 4, 0] rfl ?_
              exact ih_4 n (v + 1) x y (by omega) ((skI_s hv (by omega) i1 rfl).2 (fun z => by rcases z with z | z; exact absurd z h_46; exact hc_63 z)) (by omega)
  refine Zg.sub (lv' := [(0, .ref m0), (1, .int (zi bd)), (2, .int (zi 0)), (3, .int (zi 1))]) [2, 3, 1, 0] rfl ?_
  exact lp_4 (((bd + 1) - 1 : Int).toNat + 1) 0 1 bU bL (by omega) (skI_0) (by omega)
abbrev rm_X11_best : Room := { frames := 0, cells := 0, slots := 0, locals := 0 }
set_option maxRecDepth 100000 in
theorem c_X11_best (l : Launch) (D : va_G) (κ : Nat → ClassId) (m0 : Nat) (ms : Nat) (mp : Nat) (pn : Int) (mt : Nat) (tyd : Int) (mT : Nat) (mO : Nat) (mU : Nat) (ld : Int) (up : Int) (lw : Int) (ua : Int) (la : Int) (bU : Int) (bL : Int) (sv : Int) (xn : Int) (yn : Int) (sp : Int) (rs : Int) (pt : Int) (mr : Nat) (part : Int) (hpart : part = 0 ∨ part = 1) : ZI l yX11_best cX11_best 2 .int rm_X11_best D κ [.ref m0, .int (zi part)] [(m0, .inr (11, [.ref ms, .ref mp, .int (zi pn), .ref mt, .int (zi tyd), .ref mT, .ref mO, .ref mU, .int (zi ld), .long (zl up), .long (zl lw), .long (zl ua), .long (zl la), .long (zl bU), .int (zi bL), .int (zi sv), .int (zi xn), .int (zi yn), .int (zi sp), .int (zi rs), .int (zi pt), .ref mr]))] (fun z w => (if part = 0 then bU + 1000000 else bL) = z ∧ [(m0, .inr (11, [.ref ms, .ref mp, .int (zi pn), .ref mt, .int (zi tyd), .ref mT, .ref mO, .ref mU, .int (zi ld), .long (zl up), .long (zl lw), .long (zl ua), .long (zl la), .long (zl bU), .int (zi bL), .int (zi sv), .int (zi xn), .int (zi yn), .int (zi sp), .int (zi rs), .int (zi pt), .ref mr]))] = w) := by
  refine ZI.enter (own := RX11) rfl pn_X11_best (Nat.le_of_ble_eq_true rfl) (fun X E fin => ?_)
  show Zg X [(m0, .inr (11, [.ref ms, .ref mp, .int (zi pn), .ref mt, .int (zi tyd), .ref mT, .ref mO, .ref mU, .int (zi ld), .long (zl up), .long (zl lw), .long (zl ua), .long (zl la), .long (zl bU), .int (zi bL), .int (zi sv), .int (zi xn), .int (zi yn), .int (zi sp), .int (zi rs), .int (zi pt), .ref mr]))] 0 0 0 [(0, .ref m0), (1, .int (zi part))] []
  refine z_iload_n E 1 rfl rfl dX11_best_0 ?_
  refine z_if_ne (tgt := 15) E (by omega) dX11_best_1 (by decide) (fun h_1 => ?_) (fun h_1 => ?_)
  · refine z_aload_n E 0 rfl rfl dX11_best_15 ?_
    refine z_get E f_X11_142 0 rfl rfl dX11_best_16 ?_
    exact fin _ _ _ _ rfl (⟨if_neg (by omega), rfl⟩) dX11_best_19
  · refine z_aload_n E 0 rfl rfl dX11_best_4 ?_
    refine z_get E f_X11_139 0 rfl rfl dX11_best_5 ?_
    refine z_l2i E dX11_best_8 ?_
    refine z_ldc E k_X11_145 dX11_best_9 ?_
    refine z_iadd E dX11_best_11 ?_
    refine z_goto (tgt := 19) E dX11_best_12 (by decide) ?_
    exact fin _ _ _ _ rfl (⟨if_pos (by omega), rfl⟩) dX11_best_19
abbrev rm_X11_nearest : Room := { frames := 3, cells := 0, slots := 0, locals := 83 }
set_option maxRecDepth 100000 in
theorem c_X11_nearest (l : Launch) (D : va_G) (κ : Nat → ClassId) (m0 : Nat) (ms : Nat) (mp : Nat) (pn : Int) (mt : Nat) (tyd : Int) (mT : Nat) (mO : Nat) (mU : Nat) (ld : Int) (up : Int) (lw : Int) (ua : Int) (la : Int) (bU : Int) (bL : Int) (sv : Int) (xn : Int) (yn : Int) (sp : Int) (rs : Int) (pt : Int) (mr : Nat) (S : Int → Int) (bd : Int) (part : Int) (hr0 : -2147483648 ≤ bd ∧ bd ≤ 2147483647) (hr1 : -2147483648 ≤ part ∧ part ≤ 2147483647) (hv : vS (S 0) (S 1) (S 2)) (hbL : -2147483648 ≤ bL ∧ bL ≤ 2147483647) : ZI l yX11_nearest cX11_nearest 3 .int rm_X11_nearest D κ [.ref m0, .int (zi bd), .int (zi part)] [(m0, .inr (11, [.ref ms, .ref mp, .int (zi pn), .ref mt, .int (zi tyd), .ref mT, .ref mO, .ref mU, .int (zi ld), .long (zl up), .long (zl lw), .long (zl ua), .long (zl la), .long (zl bU), .int (zi bL), .int (zi sv), .int (zi xn), .int (zi yn), .int (zi sp), .int (zi rs), .int (zi pt), .ref mr])), (ms, ai κ 20 S)] (fun z w => ∃ r : Int, ∃ bU' : Int, ∃ bL' : Int, (neM (S 0) (S 1) (S 2) bd part r) ∧ (-2147483648 ≤ bL' ∧ bL' ≤ 2147483647) ∧ r = z ∧ [(m0, .inr (11, [.ref ms, .ref mp, .int (zi pn), .ref mt, .int (zi tyd), .ref mT, .ref mO, .ref mU, .int (zi ld), .long (zl up), .long (zl lw), .long (zl ua), .long (zl la), .long (zl bU'), .int (zi bL'), .int (zi sv), .int (zi xn), .int (zi yn), .int (zi sp), .int (zi rs), .int (zi pt), .ref mr])), (ms, ai κ 20 S)] = w) := by
  refine ZI.enter (own := RX11) rfl pn_X11_nearest (Nat.le_of_ble_eq_true rfl) (fun X E fin => ?_)
  show Zg X [(m0, .inr (11, [.ref ms, .ref mp, .int (zi pn), .ref mt, .int (zi tyd), .ref mT, .ref mO, .ref mU, .int (zi ld), .long (zl up), .long (zl lw), .long (zl ua), .long (zl la), .long (zl bU), .int (zi bL), .int (zi sv), .int (zi xn), .int (zi yn), .int (zi sp), .int (zi rs), .int (zi pt), .ref mr])), (ms, ai κ 20 S)] 0 0 0 [(0, .ref m0), (1, .int (zi bd)), (2, .int (zi part))] []
  refine z_iload_n E 1 rfl rfl dX11_nearest_0 ?_
  refine z_i2l E (by omega) dX11_nearest_1 ?_
  refine z_lconst1 E dX11_nearest_2 ?_
  refine z_ldc2 E k_X11_146 dX11_nearest_3 ?_
  refine z_callSi (As := [.long (zl bd), .long (zl 1), .long (zl 200)]) (rest := []) (wr := [(m0, .inr (11, [.ref ms, .ref mp, .int (zi pn), .ref mt, .int (zi tyd), .ref mT, .ref mO, .ref mU, .int (zi ld), .long (zl up), .long (zl lw), .long (zl ua), .long (zl la), .long (zl bU), .int (zi bL), .int (zi sv), .int (zi xn), .int (zi yn), .int (zi sp), .int (zi rs), .int (zi pt), .ref mr])), (ms, ai κ 20 S)]) E (c_X11_in l D κ bd 1 200 (by omega) (by omega) (by omega)) m_X11_44 ⟨Nat.le_of_ble_eq_true rfl, Nat.le_of_ble_eq_true rfl⟩ ⟨rfl, rfl⟩ [] [0, 1] rfl rfl rfl rfl (by decide) rfl rfl (Nat.le_of_ble_eq_true rfl) dX11_nearest_6 ⟨Nat.le_of_ble_eq_true rfl, Nat.le_of_ble_eq_true rfl⟩ (fun z6 w1 hq => ?_)
  obtain ⟨⟨rfl, hc_6⟩ | ⟨rfl, hc_6⟩, rfl⟩ := hq
  · refine z_if_eq (tgt := 22) E (by omega) dX11_nearest_9 (by decide) (fun h => absurd h (by decide)) (fun _ => ?_)
    refine z_iload_n E 2 rfl rfl dX11_nearest_12 ?_
    refine z_i2l E (by omega) dX11_nearest_13 ?_
    refine z_lconst0 E dX11_nearest_14 ?_
    refine z_lconst1 E dX11_nearest_15 ?_
    refine z_callSi (As := [.long (zl part), .long (zl 0), .long (zl 1)]) (rest := []) (wr := [(m0, .inr (11, [.ref ms, .ref mp, .int (zi pn), .ref mt, .int (zi tyd), .ref mT, .ref mO, .ref mU, .int (zi ld), .long (zl up), .long (zl lw), .long (zl ua), .long (zl la), .long (zl bU), .int (zi bL), .int (zi sv), .int (zi xn), .int (zi yn), .int (zi sp), .int (zi rs), .int (zi pt), .ref mr])), (ms, ai κ 20 S)]) E (c_X11_in l D κ part 0 1 (by omega) (by omega) (by omega)) m_X11_44 ⟨Nat.le_of_ble_eq_true rfl, Nat.le_of_ble_eq_true rfl⟩ ⟨rfl, rfl⟩ [] [0, 1] rfl rfl rfl rfl (by decide) rfl rfl (Nat.le_of_ble_eq_true rfl) dX11_nearest_16 ⟨Nat.le_of_ble_eq_true rfl, Nat.le_of_ble_eq_true rfl⟩ (fun z16 w1 hq => ?_)
    obtain ⟨⟨rfl, hc_16⟩ | ⟨rfl, hc_16⟩, rfl⟩ := hq
    · refine z_if_ne (tgt := 25) E (by omega) dX11_nearest_19 (by decide) (fun _ => ?_) (fun h => absurd h (by decide))
      refine z_aload_n E 0 rfl rfl dX11_nearest_25 ?_
      refine z_iload_n E 1 rfl rfl dX11_nearest_26 ?_
      refine z_callVi (As := [.int (zi bd)]) (rest := []) (wr := []) E (c_X11_seeks l D κ m0 ms mp pn mt tyd mT mO mU ld up lw ua la bU bL sv xn yn sp rs pt mr S bd (hv) (by omega)) m_X11_148 ⟨Nat.le_of_ble_eq_true rfl, Nat.le_of_ble_eq_true rfl⟩ ⟨rfl, rfl⟩ [0, 1] [] rfl rfl rfl rfl (by decide) rfl rfl rfl rfl (Nat.le_of_ble_eq_true rfl) dX11_nearest_27 ⟨Nat.le_of_ble_eq_true rfl, Nat.le_of_ble_eq_true rfl⟩ (fun z27 w1 hq => ?_)
      obtain ⟨bU'_1, bL'_2, r_3, hk_27, rfl, rfl⟩ := hq
      refine z_pop E rfl dX11_nearest_30 ?_
      refine z_aload_n E 0 rfl rfl dX11_nearest_31 ?_
      refine z_iload_n E 2 rfl rfl dX11_nearest_32 ?_
      refine z_callVi (As := [.int (zi part)]) (rest := []) (wr := [(ms, ai κ 20 S)]) E (c_X11_best l D κ m0 ms mp pn mt tyd mT mO mU ld up lw ua la bU'_1 bL'_2 sv xn yn sp rs pt mr part (by omega)) m_X11_151 ⟨Nat.le_of_ble_eq_true rfl, Nat.le_of_ble_eq_true rfl⟩ ⟨rfl, rfl⟩ [0] [1] rfl rfl rfl rfl (by decide) rfl rfl rfl rfl (Nat.le_of_ble_eq_true rfl) dX11_nearest_33 ⟨Nat.le_of_ble_eq_true rfl, Nat.le_of_ble_eq_true rfl⟩ (fun z33 w1 hq => ?_)
      obtain ⟨rfl, rfl⟩ := hq
      refine Zg.perm (ws' := [(m0, .inr (11, [.ref ms, .ref mp, .int (zi pn), .ref mt, .int (zi tyd), .ref mT, .ref mO, .ref mU, .int (zi ld), .long (zl up), .long (zl lw), .long (zl ua), .long (zl la), .long (zl bU'_1), .int (zi bL'_2), .int (zi sv), .int (zi xn), .int (zi yn), .int (zi sp), .int (zi rs), .int (zi pt), .ref mr])), (ms, ai κ 20 S)]) [1, 0] rfl rfl ?_
      exact fin _ _ _ _ rfl (⟨_, _, _, (by exact Or.inr ⟨⟨hc_6, hc_16⟩, by rw [hk_27.1]; rcases (show part = 0 ∨ part = 1 by omega) with rfl | rfl; exact Or.inl ⟨rfl, rfl⟩; exact Or.inr ⟨rfl, rfl⟩⟩), (by have := hk_27.2.1; unfold okF at this; omega), rfl, rfl⟩) dX11_nearest_36
    · refine z_if_ne (tgt := 25) E (by omega) dX11_nearest_19 (by decide) (fun h => absurd h (by decide)) (fun _ => ?_)
      refine z_ldc E k_X11_50 dX11_nearest_22 ?_
      exact fin _ _ _ _ rfl (⟨_, _, _, (by exact Or.inl ⟨fun z => hc_16 z.2, rfl⟩), (by exact hbL), rfl, rfl⟩) dX11_nearest_24
  · refine z_if_eq (tgt := 22) E (by omega) dX11_nearest_9 (by decide) (fun _ => ?_) (fun h => absurd h (by decide))
    refine z_ldc E k_X11_50 dX11_nearest_22 ?_
    exact fin _ _ _ _ rfl (⟨_, _, _, (by exact Or.inl ⟨fun z => hc_6 z.1, rfl⟩), (by exact hbL), rfl, rfl⟩) dX11_nearest_24
abbrev rm_X11_beside : Room := { frames := 2, cells := 0, slots := 0, locals := 51 }
set_option maxRecDepth 100000 in
theorem c_X11_beside (l : Launch) (D : va_G) (κ : Nat → ClassId) (m0 : Nat) (ms : Nat) (mp : Nat) (pn : Int) (mt : Nat) (tyd : Int) (mT : Nat) (mO : Nat) (mU : Nat) (ld : Int) (up : Int) (lw : Int) (ua : Int) (la : Int) (bU : Int) (bL : Int) (sv : Int) (xn : Int) (yn : Int) (sp : Int) (rs : Int) (pt : Int) (mr : Nat) (S : Int → Int) (bd : Int) (ab : Int) (part : Int) (hr0 : -2147483648 ≤ bd ∧ bd ≤ 2147483647) (hr1 : -2147483648 ≤ ab ∧ ab ≤ 2147483647) (hr2 : -2147483648 ≤ part ∧ part ≤ 2147483647) (hv : vS (S 0) (S 1) (S 2)) (hbL : -2147483648 ≤ bL ∧ bL ≤ 2147483647) : ZI l yX11_beside cX11_beside 9 .int rm_X11_beside D κ [.ref m0, .int (zi bd), .int (zi ab), .int (zi part)] [(m0, .inr (11, [.ref ms, .ref mp, .int (zi pn), .ref mt, .int (zi tyd), .ref mT, .ref mO, .ref mU, .int (zi ld), .long (zl up), .long (zl lw), .long (zl ua), .long (zl la), .long (zl bU), .int (zi bL), .int (zi sv), .int (zi xn), .int (zi yn), .int (zi sp), .int (zi rs), .int (zi pt), .ref mr])), (ms, ai κ 20 S)] (fun z w => ∃ r : Int, ∃ bU' : Int, ∃ bL' : Int, (beM (S 0) (S 1) (S 2) bd ab part r) ∧ (-2147483648 ≤ bL' ∧ bL' ≤ 2147483647) ∧ r = z ∧ [(m0, .inr (11, [.ref ms, .ref mp, .int (zi pn), .ref mt, .int (zi tyd), .ref mT, .ref mO, .ref mU, .int (zi ld), .long (zl up), .long (zl lw), .long (zl ua), .long (zl la), .long (zl bU'), .int (zi bL'), .int (zi sv), .int (zi xn), .int (zi yn), .int (zi sp), .int (zi rs), .int (zi pt), .ref mr])), (ms, ai κ 20 S)] = w) := by
  refine ZI.enter (own := RX11) rfl pn_X11_beside (Nat.le_of_ble_eq_true rfl) (fun X E fin => ?_)
  show Zg X [(m0, .inr (11, [.ref ms, .ref mp, .int (zi pn), .ref mt, .int (zi tyd), .ref mT, .ref mO, .ref mU, .int (zi ld), .long (zl up), .long (zl lw), .long (zl ua), .long (zl la), .long (zl bU), .int (zi bL), .int (zi sv), .int (zi xn), .int (zi yn), .int (zi sp), .int (zi rs), .int (zi pt), .ref mr])), (ms, ai κ 20 S)] 0 0 0 [(0, .ref m0), (1, .int (zi bd)), (2, .int (zi ab)), (3, .int (zi part))] []
  refine z_iload_n E 1 rfl rfl dX11_beside_0 ?_
  refine z_i2l E (by omega) dX11_beside_1 ?_
  refine z_lconst1 E dX11_beside_2 ?_
  refine z_ldc2 E k_X11_146 dX11_beside_3 ?_
  refine z_callSi (As := [.long (zl bd), .long (zl 1), .long (zl 200)]) (rest := []) (wr := [(m0, .inr (11, [.ref ms, .ref mp, .int (zi pn), .ref mt, .int (zi tyd), .ref mT, .ref mO, .ref mU, .int (zi ld), .long (zl up), .long (zl lw), .long (zl ua), .long (zl la), .long (zl bU), .int (zi bL), .int (zi sv), .int (zi xn), .int (zi yn), .int (zi sp), .int (zi rs), .int (zi pt), .ref mr])), (ms, ai κ 20 S)]) E (c_X11_in l D κ bd 1 200 (by omega) (by omega) (by omega)) m_X11_44 ⟨Nat.le_of_ble_eq_true rfl, Nat.le_of_ble_eq_true rfl⟩ ⟨rfl, rfl⟩ [] [0, 1] rfl rfl rfl rfl (by decide) rfl rfl (Nat.le_of_ble_eq_true rfl) dX11_beside_6 ⟨Nat.le_of_ble_eq_true rfl, Nat.le_of_ble_eq_true rfl⟩ (fun z6 w1 hq => ?_)
  obtain ⟨⟨rfl, hc_6⟩ | ⟨rfl, hc_6⟩, rfl⟩ := hq
  · refine z_if_eq (tgt := 32) E (by omega) dX11_beside_9 (by decide) (fun h => absurd h (by decide)) (fun _ => ?_)
    refine z_iload_n E 2 rfl rfl dX11_beside_12 ?_
    refine z_i2l E (by omega) dX11_beside_13 ?_
    refine z_lconst0 E dX11_beside_14 ?_
    refine z_lconst1 E dX11_beside_15 ?_
    refine z_callSi (As := [.long (zl ab), .long (zl 0), .long (zl 1)]) (rest := []) (wr := [(m0, .inr (11, [.ref ms, .ref mp, .int (zi pn), .ref mt, .int (zi tyd), .ref mT, .ref mO, .ref mU, .int (zi ld), .long (zl up), .long (zl lw), .long (zl ua), .long (zl la), .long (zl bU), .int (zi bL), .int (zi sv), .int (zi xn), .int (zi yn), .int (zi sp), .int (zi rs), .int (zi pt), .ref mr])), (ms, ai κ 20 S)]) E (c_X11_in l D κ ab 0 1 (by omega) (by omega) (by omega)) m_X11_44 ⟨Nat.le_of_ble_eq_true rfl, Nat.le_of_ble_eq_true rfl⟩ ⟨rfl, rfl⟩ [] [0, 1] rfl rfl rfl rfl (by decide) rfl rfl (Nat.le_of_ble_eq_true rfl) dX11_beside_16 ⟨Nat.le_of_ble_eq_true rfl, Nat.le_of_ble_eq_true rfl⟩ (fun z16 w1 hq => ?_)
    obtain ⟨⟨rfl, hc_16⟩ | ⟨rfl, hc_16⟩, rfl⟩ := hq
    · refine z_if_eq (tgt := 32) E (by omega) dX11_beside_19 (by decide) (fun h => absurd h (by decide)) (fun _ => ?_)
      refine z_iload_n E 3 rfl rfl dX11_beside_22 ?_
      refine z_i2l E (by omega) dX11_beside_23 ?_
      refine z_lconst0 E dX11_beside_24 ?_
      refine z_lconst1 E dX11_beside_25 ?_
      refine z_callSi (As := [.long (zl part), .long (zl 0), .long (zl 1)]) (rest := []) (wr := [(m0, .inr (11, [.ref ms, .ref mp, .int (zi pn), .ref mt, .int (zi tyd), .ref mT, .ref mO, .ref mU, .int (zi ld), .long (zl up), .long (zl lw), .long (zl ua), .long (zl la), .long (zl bU), .int (zi bL), .int (zi sv), .int (zi xn), .int (zi yn), .int (zi sp), .int (zi rs), .int (zi pt), .ref mr])), (ms, ai κ 20 S)]) E (c_X11_in l D κ part 0 1 (by omega) (by omega) (by omega)) m_X11_44 ⟨Nat.le_of_ble_eq_true rfl, Nat.le_of_ble_eq_true rfl⟩ ⟨rfl, rfl⟩ [] [0, 1] rfl rfl rfl rfl (by decide) rfl rfl (Nat.le_of_ble_eq_true rfl) dX11_beside_26 ⟨Nat.le_of_ble_eq_true rfl, Nat.le_of_ble_eq_true rfl⟩ (fun z26 w1 hq => ?_)
      obtain ⟨⟨rfl, hc_26⟩ | ⟨rfl, hc_26⟩, rfl⟩ := hq
      · refine z_if_ne (tgt := 35) E (by omega) dX11_beside_29 (by decide) (fun _ => ?_) (fun h => absurd h (by decide))
        refine z_iconst E dX11_beside_35 ?_
        refine z_istore (lv' := [(4, .int (zi 1)), (0, .ref m0), (1, .int (zi bd)), (2, .int (zi ab)), (3, .int (zi part))]) E dX11_beside_36 (Nat.le_of_ble_eq_true rfl) rfl ?_
        have lp_38 : ∀ (n_38 : Nat) (v : Int) (x : Int) (y : Int), (1 ≤ v ∧ v ≤ bd + 1) → (bsI (S 0) (S 1) (S 2) ab bU bL v x y) → (-2147483648 ≤ y ∧ y ≤ 2147483647) → ((bd + 1) - v) < (n_38 : Int) → Zg X [(m0, .inr (11, [.ref ms, .ref mp, .int (zi pn), .ref mt, .int (zi tyd), .ref mT, .ref mO, .ref mU, .int (zi ld), .long (zl up), .long (zl lw), .long (zl ua), .long (zl la), .long (zl x), .int (zi y), .int (zi sv), .int (zi xn), .int (zi yn), .int (zi sp), .int (zi rs), .int (zi pt), .ref mr])), (ms, ai κ 20 S)] 0 0 38 [(0, .ref m0), (1, .int (zi bd)), (2, .int (zi ab)), (3, .int (zi part)), (4, .int (zi v))] [] := by
          intro n_38
          induction n_38 with
          | zero =>
            intro v x y i0 i1 i2 hmu
            exact absurd hmu (by omega)
          | succ n_38 ih_38 =>
            intro v x y i0 i1 i2 hmu_38
            refine z_iload E 4 rfl dX11_beside_38 ?_
            refine z_iload_n E 1 rfl rfl dX11_beside_40 ?_
            refine z_ic_gt (tgt := 119) E (by omega) (by omega) dX11_beside_41 (by decide) (fun h_41 => ?_) (fun h_41 => ?_)
            · refine z_aload_n E 0 rfl rfl dX11_beside_119 ?_
              refine z_iload_n E 3 rfl rfl dX11_beside_120 ?_
              refine z_callVi (As := [.int (zi part)]) (rest := []) (wr := [(ms, ai κ 20 S)]) E (c_X11_best l D κ m0 ms mp pn mt tyd mT mO mU ld up lw ua la x y sv xn yn sp rs pt mr part (by omega)) m_X11_151 ⟨Nat.le_of_ble_eq_true rfl, Nat.le_of_ble_eq_true rfl⟩ ⟨rfl, rfl⟩ [0] [1] rfl rfl rfl rfl (by decide) rfl rfl rfl rfl (Nat.le_of_ble_eq_true rfl) dX11_beside_121 ⟨Nat.le_of_ble_eq_true rfl, Nat.le_of_ble_eq_true rfl⟩ (fun z121 w1 hq => ?_)
              obtain ⟨rfl, rfl⟩ := hq
              refine Zg.perm (ws' := [(m0, .inr (11, [.ref ms, .ref mp, .int (zi pn), .ref mt, .int (zi tyd), .ref mT, .ref mO, .ref mU, .int (zi ld), .long (zl up), .long (zl lw), .long (zl ua), .long (zl la), .long (zl x), .int (zi y), .int (zi sv), .int (zi xn), .int (zi yn), .int (zi sp), .int (zi rs), .int (zi pt), .ref mr])), (ms, ai κ 20 S)]) [1, 0] rfl rfl ?_
              exact fin _ _ _ _ rfl (⟨_, _, _, (by exact Or.inr ⟨⟨hc_6, hc_16, hc_26⟩, by rw [(bsI_end (bd := bd) i1 (by omega) (by omega)).1]; rcases (show part = 0 ∨ part = 1 by omega) with rfl | rfl; exact Or.inl ⟨rfl, rfl⟩; exact Or.inr ⟨rfl, rfl⟩⟩), (by exact i2), rfl, rfl⟩) dX11_beside_124
            · refine z_aload_n E 0 rfl rfl dX11_beside_44 ?_
              refine z_iload E 4 rfl dX11_beside_45 ?_
              refine z_callVl (As := [.int (zi v)]) (rest := []) (wr := []) E (c_X11_floorOf l D κ m0 ms mp pn mt tyd mT mO mU ld up lw ua la x y sv xn yn sp rs pt mr S v (hv) (by omega)) m_X11_131 ⟨Nat.le_of_ble_eq_true rfl, Nat.le_of_ble_eq_true rfl⟩ ⟨rfl, rfl⟩ [0, 1] [] rfl rfl rfl rfl (by decide) rfl rfl rfl rfl (Nat.le_of_ble_eq_true rfl) dX11_beside_47 ⟨Nat.le_of_ble_eq_true rfl, Nat.le_of_ble_eq_true rfl⟩ (fun z47 w1 hq => ?_)
              obtain ⟨rfl, rfl⟩ := hq
              refine z_iload_n E 2 rfl rfl dX11_beside_50 ?_
              refine z_i2l E (by omega) dX11_beside_51 ?_
              refine z_ladd E dX11_beside_52 ?_
              refine z_lstore (lv' := [(5, .long (zl ((flV (S 0) (S 1) (S 2) v) + ab))), (0, .ref m0), (1, .int (zi bd)), (2, .int (zi ab)), (3, .int (zi part)), (4, .int (zi v))]) E dX11_beside_53 (Nat.le_of_ble_eq_true rfl) rfl ?_
              refine z_lload E 0 rfl dX11_beside_55 ?_
              refine z_aload_n E 1 rfl rfl dX11_beside_57 ?_
              refine z_get E f_X11_142 0 rfl rfl dX11_beside_58 ?_
              refine z_i2l E (by omega) dX11_beside_61 ?_
              refine z_lmul E dX11_beside_62 ?_
              refine z_aload_n E 1 rfl rfl dX11_beside_63 ?_
              refine z_get E f_X11_139 0 rfl rfl dX11_beside_64 ?_
              refine z_iload E 5 rfl dX11_beside_67 ?_
              refine z_i2l E (by omega) dX11_beside_69 ?_
              refine z_lmul E dX11_beside_70 ?_
              refine z_lsub E dX11_beside_71 ?_
              refine z_lstore (lv' := [(7, .long (zl ((((flV (S 0) (S 1) (S 2) v) + ab) * y) - (x * v)))), (5, .long (zl ((flV (S 0) (S 1) (S 2) v) + ab))), (0, .ref m0), (1, .int (zi bd)), (2, .int (zi ab)), (3, .int (zi part)), (4, .int (zi v))]) E dX11_beside_72 (Nat.le_of_ble_eq_true rfl) rfl ?_
              refine z_iload E 6 rfl dX11_beside_74 ?_
              refine z_iconst E dX11_beside_76 ?_
              refine z_ic_eq (tgt := 101) E (by omega) (by omega) dX11_beside_77 (by decide) (fun h_77 => ?_) (fun h_77 => ?_)
              · refine z_aload_n E 2 rfl rfl dX11_beside_101 ?_
                refine z_lload E 1 rfl dX11_beside_102 ?_
                refine z_put (ws' := [(m0, .inr (11, [.ref ms, .ref mp, .int (zi pn), .ref mt, .int (zi tyd), .ref mT, .ref mO, .ref mU, .int (zi ld), .long (zl up), .long (zl lw), .long (zl ua), .long (zl la), .long (zl ((flV (S 0) (S 1) (S 2) v) + ab)), .int (zi y), .int (zi sv), .int (zi xn), .int (zi yn), .int (zi sp), .int (zi rs), .int (zi pt), .ref mr])), (ms, ai κ 20 S)]) E f_X11_139 t_X11_13 0 rfl rfl rfl (Nat.le_of_ble_eq_true rfl) rfl dX11_beside_104 ?_
                refine z_aload_n E 2 rfl rfl dX11_beside_107 ?_
                refine z_iload E 6 rfl dX11_beside_108 ?_
                refine z_put (ws' := [(m0, .inr (11, [.ref ms, .ref mp, .int (zi pn), .ref mt, .int (zi tyd), .ref mT, .ref mO, .ref mU, .int (zi ld), .long (zl up), .long (zl lw), .long (zl ua), .long (zl la), .long (zl ((flV (S 0) (S 1) (S 2) v) + ab)), .int (zi v), .int (zi sv), .int (zi xn), .int (zi yn), .int (zi sp), .int (zi rs), .int (zi pt), .ref mr])), (ms, ai κ 20 S)]) E f_X11_142 t_X11_14 0 rfl rfl rfl (Nat.le_of_ble_eq_true rfl) rfl dX11_beside_110 ?_
                refine z_iinc (lv' := [(4, .int (zi (v + 1))), (7, .long (zl ((((flV (S 0) (S 1) (S 2) v) + ab) * y) - (x * v)))), (5, .long (zl ((flV (S 0) (S 1) (S 2) v) + ab))), (0, .ref m0), (1, .int (zi bd)), (2, .int (zi ab)), (3, .int (zi part))]) E 6 rfl dX11_beside_113 (Nat.le_of_ble_eq_true rfl) rfl ?_
                refine z_goto (tgt := 38) E dX11_beside_116 (by decide) ?_
                refine Zg.sub (lv' := [(0, .ref m0), (1, .int (zi bd)), (2, .int (zi ab)), (3, .int (zi part)), (4, .int (zi (v + 1)))]) [3, 4, 5, 6, 0] rfl ?_
                exact ih_38 (v + 1) ((flV (S 0) (S 1) (S 2) v) + ab) v (by omega) ((bsI_s hv (by omega) (by omega) i1).1 (Or.inl (by omega))) (by omega) (by omega)
              · have hfb := flV_bd hv (v := v) (by omega)
                have hk2 := i1.2 (by omega)
                unfold okF at hk2
                have hm1 := mul_bd (a := flV (S 0) (S 1) (S 2) v + ab) (b := y) (M := 30000) (N := 200) (by omega) (by omega)
                have hm2 := mul_bd (a := x) (b := v) (M := 30000) (N := 200) (by omega) (by omega)
                refine z_iload_n E 4 rfl rfl dX11_beside_80 ?_
                refine z_if_ne (tgt := 94) E (by omega) dX11_beside_81 (by decide) (fun h_81 => ?_) (fun h_81 => ?_)
                · refine z_lload E 0 rfl dX11_beside_94 ?_
                  refine z_lconst0 E dX11_beside_96 ?_
                  refine z_lc_ge (tgt := 113) E (by omega) (by omega) dX11_beside_97 dX11_beside_98 (by decide) (fun h_97 => ?_) (fun h_97 => ?_)
                  · refine z_iinc (lv' := [(4, .int (zi (v + 1))), (7, .long (zl ((((flV (S 0) (S 1) (S 2) v) + ab) * y) - (x * v)))), (5, .long (zl ((flV (S 0) (S 1) (S 2) v) + ab))), (0, .ref m0), (1, .int (zi bd)), (2, .int (zi ab)), (3, .int (zi part))]) E 6 rfl dX11_beside_113 (Nat.le_of_ble_eq_true rfl) rfl ?_
                    refine z_goto (tgt := 38) E dX11_beside_116 (by decide) ?_
                    refine Zg.sub (lv' := [(0, .ref m0), (1, .int (zi bd)), (2, .int (zi ab)), (3, .int (zi part)), (4, .int (zi (v + 1)))]) [3, 4, 5, 6, 0] rfl ?_
                    exact ih_38 (v + 1) x y (by omega) ((bsI_s hv (by omega) (by omega) i1).2 (fun z => by omega)) (by omega) (by omega)
                  · refine z_aload_n E 2 rfl rfl dX11_beside_101 ?_
                    refine z_lload E 1 rfl dX11_beside_102 ?_
                    refine z_put (ws' := [(m0, .inr (11, [.ref ms, .ref mp, .int (zi pn), .ref mt, .int (zi tyd), .ref mT, .ref mO, .ref mU, .int (zi ld), .long (zl up), .long (zl lw), .long (zl ua), .long (zl la), .long (zl ((flV (S 0) (S 1) (S 2) v) + ab)), .int (zi y), .int (zi sv), .int (zi xn), .int (zi yn), .int (zi sp), .int (zi rs), .int (zi pt), .ref mr])), (ms, ai κ 20 S)]) E f_X11_139 t_X11_13 0 rfl rfl rfl (Nat.le_of_ble_eq_true rfl) rfl dX11_beside_104 ?_
                    refine z_aload_n E 2 rfl rfl dX11_beside_107 ?_
                    refine z_iload E 6 rfl dX11_beside_108 ?_
                    refine z_put (ws' := [(m0, .inr (11, [.ref ms, .ref mp, .int (zi pn), .ref mt, .int (zi tyd), .ref mT, .ref mO, .ref mU, .int (zi ld), .long (zl up), .long (zl lw), .long (zl ua), .long (zl la), .long (zl ((flV (S 0) (S 1) (S 2) v) + ab)), .int (zi v), .int (zi sv), .int (zi xn), .int (zi yn), .int (zi sp), .int (zi rs), .int (zi pt), .ref mr])), (ms, ai κ 20 S)]) E f_X11_142 t_X11_14 0 rfl rfl rfl (Nat.le_of_ble_eq_true rfl) rfl dX11_beside_110 ?_
                    refine z_iinc (lv' := [(4, .int (zi (v + 1))), (7, .long (zl ((((flV (S 0) (S 1) (S 2) v) + ab) * y) - (x * v)))), (5, .long (zl ((flV (S 0) (S 1) (S 2) v) + ab))), (0, .ref m0), (1, .int (zi bd)), (2, .int (zi ab)), (3, .int (zi part))]) E 6 rfl dX11_beside_113 (Nat.le_of_ble_eq_true rfl) rfl ?_
                    refine z_goto (tgt := 38) E dX11_beside_116 (by decide) ?_
                    refine Zg.sub (lv' := [(0, .ref m0), (1, .int (zi bd)), (2, .int (zi ab)), (3, .int (zi part)), (4, .int (zi (v + 1)))]) [3, 4, 5, 6, 0] rfl ?_
                    exact ih_38 (v + 1) ((flV (S 0) (S 1) (S 2) v) + ab) v (by omega) ((bsI_s hv (by omega) (by omega) i1).1 (Or.inr (Or.inr ⟨by omega, by omega⟩))) (by omega) (by omega)
                · refine z_lload E 0 rfl dX11_beside_84 ?_
                  refine z_lconst0 E dX11_beside_86 ?_
                  refine z_lc_le (tgt := 113) E (by omega) (by omega) dX11_beside_87 dX11_beside_88 (by decide) (fun h_87 => ?_) (fun h_87 => ?_)
                  · refine z_iinc (lv' := [(4, .int (zi (v + 1))), (7, .long (zl ((((flV (S 0) (S 1) (S 2) v) + ab) * y) - (x * v)))), (5, .long (zl ((flV (S 0) (S 1) (S 2) v) + ab))), (0, .ref m0), (1, .int (zi bd)), (2, .int (zi ab)), (3, .int (zi part))]) E 6 rfl dX11_beside_113 (Nat.le_of_ble_eq_true rfl) rfl ?_
                    refine z_goto (tgt := 38) E dX11_beside_116 (by decide) ?_
                    refine Zg.sub (lv' := [(0, .ref m0), (1, .int (zi bd)), (2, .int (zi ab)), (3, .int (zi part)), (4, .int (zi (v + 1)))]) [3, 4, 5, 6, 0] rfl ?_
                    exact ih_38 (v + 1) x y (by omega) ((bsI_s hv (by omega) (by omega) i1).2 (fun z => by omega)) (by omega) (by omega)
                  · refine z_goto (tgt := 101) E dX11_beside_91 (by decide) ?_
                    refine z_aload_n E 2 rfl rfl dX11_beside_101 ?_
                    refine z_lload E 1 rfl dX11_beside_102 ?_
                    refine z_put (ws' := [(m0, .inr (11, [.ref ms, .ref mp, .int (zi pn), .ref mt, .int (zi tyd), .ref mT, .ref mO, .ref mU, .int (zi ld), .long (zl up), .long (zl lw), .long (zl ua), .long (zl la), .long (zl ((flV (S 0) (S 1) (S 2) v) + ab)), .int (zi y), .int (zi sv), .int (zi xn), .int (zi yn), .int (zi sp), .int (zi rs), .int (zi pt), .ref mr])), (ms, ai κ 20 S)]) E f_X11_139 t_X11_13 0 rfl rfl rfl (Nat.le_of_ble_eq_true rfl) rfl dX11_beside_104 ?_
                    refine z_aload_n E 2 rfl rfl dX11_beside_107 ?_
                    refine z_iload E 6 rfl dX11_beside_108 ?_
                    refine z_put (ws' := [(m0, .inr (11, [.ref ms, .ref mp, .int (zi pn), .ref mt, .int (zi tyd), .ref mT, .ref mO, .ref mU, .int (zi ld), .long (zl up), .long (zl lw), .long (zl ua), .long (zl la), .long (zl ((flV (S 0) (S 1) (S 2) v) + ab)), .int (zi v), .int (zi sv), .int (zi xn), .int (zi yn), .int (zi sp), .int (zi rs), .int (zi pt), .ref mr])), (ms, ai κ 20 S)]) E f_X11_142 t_X11_14 0 rfl rfl rfl (Nat.le_of_ble_eq_true rfl) rfl dX11_beside_110 ?_
                    refine z_iinc (lv' := [(4, .int (zi (v + 1))), (7, .long (zl ((((flV (S 0) (S 1) (S 2) v) + ab) * y) - (x * v)))), (5, .long (zl ((flV (S 0) (S 1) (S 2) v) + ab))), (0, .ref m0), (1, .int (zi bd)), (2, .int (zi ab)), (3, .int (zi part))]) E 6 rfl dX11_beside_113 (Nat.le_of_ble_eq_true rfl) rfl ?_
                    refine z_goto (tgt := 38) E dX11_beside_116 (by decide) ?_
                    refine Zg.sub (lv' := [(0, .ref m0), (1, .int (zi bd)), (2, .int (zi ab)), (3, .int (zi part)), (4, .int (zi (v + 1)))]) [3, 4, 5, 6, 0] rfl ?_
                    exact ih_38 (v + 1) ((flV (S 0) (S 1) (S 2) v) + ab) v (by omega) ((bsI_s hv (by omega) (by omega) i1).1 (Or.inr (Or.inl ⟨by omega, by omega⟩))) (by omega) (by omega)
        refine Zg.sub (lv' := [(0, .ref m0), (1, .int (zi bd)), (2, .int (zi ab)), (3, .int (zi part)), (4, .int (zi 1))]) [1, 2, 3, 4, 0] rfl ?_
        exact lp_38 (((bd + 1) - 1 : Int).toNat + 1) 1 bU bL (by omega) (bsI_0) (by omega) (by omega)
      · refine z_if_ne (tgt := 35) E (by omega) dX11_beside_29 (by decide) (fun h => absurd h (by decide)) (fun _ => ?_)
        refine z_ldc E k_X11_50 dX11_beside_32 ?_
        exact fin _ _ _ _ rfl (⟨_, _, _, (by exact Or.inl ⟨fun z => hc_26 z.2.2, rfl⟩), (by exact hbL), rfl, rfl⟩) dX11_beside_34
    · refine z_if_eq (tgt := 32) E (by omega) dX11_beside_19 (by decide) (fun _ => ?_) (fun h => absurd h (by decide))
      refine z_ldc E k_X11_50 dX11_beside_32 ?_
      exact fin _ _ _ _ rfl (⟨_, _, _, (by exact Or.inl ⟨fun z => hc_16 z.2.1, rfl⟩), (by exact hbL), rfl, rfl⟩) dX11_beside_34
  · refine z_if_eq (tgt := 32) E (by omega) dX11_beside_9 (by decide) (fun _ => ?_) (fun h => absurd h (by decide))
    refine z_ldc E k_X11_50 dX11_beside_32 ?_
    exact fin _ _ _ _ rfl (⟨_, _, _, (by exact Or.inl ⟨fun z => hc_6 z.1, rfl⟩), (by exact hbL), rfl, rfl⟩) dX11_beside_34
abbrev rm_X11_records : Room := { frames := 3, cells := 0, slots := 0, locals := 83 }
set_option maxRecDepth 100000 in
theorem c_X11_records (l : Launch) (D : va_G) (κ : Nat → ClassId) (m0 : Nat) (ms : Nat) (mp : Nat) (pn : Int) (mt : Nat) (tyd : Int) (mT : Nat) (mO : Nat) (mU : Nat) (ld : Int) (up : Int) (lw : Int) (ua : Int) (la : Int) (bU : Int) (bL : Int) (sv : Int) (xn : Int) (yn : Int) (sp : Int) (rs : Int) (pt : Int) (mr : Nat) (S : Int → Int) (bd : Int) (hr0 : -2147483648 ≤ bd ∧ bd ≤ 2147483647) (hv : vS (S 0) (S 1) (S 2)) (hbL : -2147483648 ≤ bL ∧ bL ≤ 2147483647) : ZI l yX11_records cX11_records 2 .int rm_X11_records D κ [.ref m0, .int (zi bd)] [(m0, .inr (11, [.ref ms, .ref mp, .int (zi pn), .ref mt, .int (zi tyd), .ref mT, .ref mO, .ref mU, .int (zi ld), .long (zl up), .long (zl lw), .long (zl ua), .long (zl la), .long (zl bU), .int (zi bL), .int (zi sv), .int (zi xn), .int (zi yn), .int (zi sp), .int (zi rs), .int (zi pt), .ref mr])), (ms, ai κ 20 S)] (fun z w => ∃ r : Int, ∃ bU' : Int, ∃ bL' : Int, (reM (S 0) (S 1) (S 2) bd r) ∧ (-2147483648 ≤ bL' ∧ bL' ≤ 2147483647) ∧ r = z ∧ [(m0, .inr (11, [.ref ms, .ref mp, .int (zi pn), .ref mt, .int (zi tyd), .ref mT, .ref mO, .ref mU, .int (zi ld), .long (zl up), .long (zl lw), .long (zl ua), .long (zl la), .long (zl bU'), .int (zi bL'), .int (zi sv), .int (zi xn), .int (zi yn), .int (zi sp), .int (zi rs), .int (zi pt), .ref mr])), (ms, ai κ 20 S)] = w) := by
  refine ZI.enter (own := RX11) rfl pn_X11_records (Nat.le_of_ble_eq_true rfl) (fun X E fin => ?_)
  show Zg X [(m0, .inr (11, [.ref ms, .ref mp, .int (zi pn), .ref mt, .int (zi tyd), .ref mT, .ref mO, .ref mU, .int (zi ld), .long (zl up), .long (zl lw), .long (zl ua), .long (zl la), .long (zl bU), .int (zi bL), .int (zi sv), .int (zi xn), .int (zi yn), .int (zi sp), .int (zi rs), .int (zi pt), .ref mr])), (ms, ai κ 20 S)] 0 0 0 [(0, .ref m0), (1, .int (zi bd))] []
  refine z_iload_n E 1 rfl rfl dX11_records_0 ?_
  refine z_i2l E (by omega) dX11_records_1 ?_
  refine z_lconst1 E dX11_records_2 ?_
  refine z_ldc2 E k_X11_146 dX11_records_3 ?_
  refine z_callSi (As := [.long (zl bd), .long (zl 1), .long (zl 200)]) (rest := []) (wr := [(m0, .inr (11, [.ref ms, .ref mp, .int (zi pn), .ref mt, .int (zi tyd), .ref mT, .ref mO, .ref mU, .int (zi ld), .long (zl up), .long (zl lw), .long (zl ua), .long (zl la), .long (zl bU), .int (zi bL), .int (zi sv), .int (zi xn), .int (zi yn), .int (zi sp), .int (zi rs), .int (zi pt), .ref mr])), (ms, ai κ 20 S)]) E (c_X11_in l D κ bd 1 200 (by omega) (by omega) (by omega)) m_X11_44 ⟨Nat.le_of_ble_eq_true rfl, Nat.le_of_ble_eq_true rfl⟩ ⟨rfl, rfl⟩ [] [0, 1] rfl rfl rfl rfl (by decide) rfl rfl (Nat.le_of_ble_eq_true rfl) dX11_records_6 ⟨Nat.le_of_ble_eq_true rfl, Nat.le_of_ble_eq_true rfl⟩ (fun z6 w1 hq => ?_)
  obtain ⟨⟨rfl, hc_6⟩ | ⟨rfl, hc_6⟩, rfl⟩ := hq
  · refine z_if_eq (tgt := 20) E (by omega) dX11_records_9 (by decide) (fun h => absurd h (by decide)) (fun _ => ?_)
    refine z_aload_n E 0 rfl rfl dX11_records_12 ?_
    refine z_iload_n E 1 rfl rfl dX11_records_13 ?_
    refine z_callVi (As := [.int (zi bd)]) (rest := []) (wr := []) E (c_X11_seeks l D κ m0 ms mp pn mt tyd mT mO mU ld up lw ua la bU bL sv xn yn sp rs pt mr S bd (hv) (by omega)) m_X11_148 ⟨Nat.le_of_ble_eq_true rfl, Nat.le_of_ble_eq_true rfl⟩ ⟨rfl, rfl⟩ [0, 1] [] rfl rfl rfl rfl (by decide) rfl rfl rfl rfl (Nat.le_of_ble_eq_true rfl) dX11_records_14 ⟨Nat.le_of_ble_eq_true rfl, Nat.le_of_ble_eq_true rfl⟩ (fun z14 w1 hq => ?_)
    obtain ⟨bU'_1, bL'_2, r_3, hk_14, rfl, rfl⟩ := hq
    refine z_goto (tgt := 22) E dX11_records_17 (by decide) ?_
    exact fin _ _ _ _ rfl (⟨_, _, _, (by exact Or.inr ⟨hc_6, by rw [hk_14.1]⟩), (by have := hk_14.2.1; unfold okF at this; omega), rfl, rfl⟩) dX11_records_22
  · refine z_if_eq (tgt := 20) E (by omega) dX11_records_9 (by decide) (fun _ => ?_) (fun h => absurd h (by decide))
    refine z_ldc E k_X11_50 dX11_records_20 ?_
    exact fin _ _ _ _ rfl (⟨_, _, _, (by exact Or.inl ⟨hc_6, rfl⟩), (by exact hbL), rfl, rfl⟩) dX11_records_22
abbrev rm_X11_solves : Room := { frames := 1, cells := 0, slots := 0, locals := 28 }
set_option maxRecDepth 100000 in
theorem c_X11_solves (l : Launch) (D : va_G) (κ : Nat → ClassId) (m0 : Nat) (ms : Nat) (mp : Nat) (pn : Int) (mt : Nat) (tyd : Int) (mT : Nat) (mO : Nat) (mU : Nat) (ld : Int) (up : Int) (lw : Int) (ua : Int) (la : Int) (bU : Int) (bL : Int) (sv : Int) (xn : Int) (yn : Int) (sp : Int) (rs : Int) (pt : Int) (mr : Nat) (S : Int → Int) (n : Int) (idx : Int) (hv : vS (S 0) (S 1) (S 2)) (hn : -60 ≤ n ∧ n ≤ 60) (hr0 : -2147483648 ≤ idx ∧ idx ≤ 2147483647) : ZV l yX11_solves cX11_solves 8 rm_X11_solves D κ [.ref m0, .int (zi n), .int (zi idx)] [(m0, .inr (11, [.ref ms, .ref mp, .int (zi pn), .ref mt, .int (zi tyd), .ref mT, .ref mO, .ref mU, .int (zi ld), .long (zl up), .long (zl lw), .long (zl ua), .long (zl la), .long (zl bU), .int (zi bL), .int (zi sv), .int (zi xn), .int (zi yn), .int (zi sp), .int (zi rs), .int (zi pt), .ref mr])), (ms, ai κ 20 S)] (fun w => ∃ sv' : Int, ∃ xn' : Int, ∃ yn' : Int, (slI (S 1) n idx 5001 sv' xn' yn') ∧ [(m0, .inr (11, [.ref ms, .ref mp, .int (zi pn), .ref mt, .int (zi tyd), .ref mT, .ref mO, .ref mU, .int (zi ld), .long (zl up), .long (zl lw), .long (zl ua), .long (zl la), .long (zl bU), .int (zi bL), .int (zi sv'), .int (zi xn'), .int (zi yn'), .int (zi sp), .int (zi rs), .int (zi pt), .ref mr])), (ms, ai κ 20 S)] = w) := by
  refine ZV.enter (own := RX11) rfl pn_X11_solves (Nat.le_of_ble_eq_true rfl) (fun X E fin => ?_)
  show Zg X [(m0, .inr (11, [.ref ms, .ref mp, .int (zi pn), .ref mt, .int (zi tyd), .ref mT, .ref mO, .ref mU, .int (zi ld), .long (zl up), .long (zl lw), .long (zl ua), .long (zl la), .long (zl bU), .int (zi bL), .int (zi sv), .int (zi xn), .int (zi yn), .int (zi sp), .int (zi rs), .int (zi pt), .ref mr])), (ms, ai κ 20 S)] 0 0 0 [(0, .ref m0), (1, .int (zi n)), (2, .int (zi idx))] []
  obtain ⟨v1, v2, v3, v4, v5⟩ := id hv
  refine z_aload_n E 0 rfl rfl dX11_solves_0 ?_
  refine z_iconst E dX11_solves_1 ?_
  refine z_put (ws' := [(m0, .inr (11, [.ref ms, .ref mp, .int (zi pn), .ref mt, .int (zi tyd), .ref mT, .ref mO, .ref mU, .int (zi ld), .long (zl up), .long (zl lw), .long (zl ua), .long (zl la), .long (zl bU), .int (zi bL), .int (zi 0), .int (zi xn), .int (zi yn), .int (zi sp), .int (zi rs), .int (zi pt), .ref mr])), (ms, ai κ 20 S)]) E f_X11_154 t_X11_15 0 rfl rfl rfl (Nat.le_of_ble_eq_true rfl) rfl dX11_solves_2 ?_
  refine z_iconst E dX11_solves_5 ?_
  refine z_istore_n (lv' := [(3, .int (zi 0)), (0, .ref m0), (1, .int (zi n)), (2, .int (zi idx))]) E dX11_solves_6 rfl (Nat.le_of_ble_eq_true rfl) rfl ?_
  have lp_7 : ∀ (n_7 : Nat) (y : Int) (c : Int) (x1 : Int) (y1 : Int), (0 ≤ y ∧ y ≤ 5001) → (slI (S 1) n idx y c x1 y1) → (0 ≤ c ∧ c ≤ y) → (5001 - y) < (n_7 : Int) → Zg X [(m0, .inr (11, [.ref ms, .ref mp, .int (zi pn), .ref mt, .int (zi tyd), .ref mT, .ref mO, .ref mU, .int (zi ld), .long (zl up), .long (zl lw), .long (zl ua), .long (zl la), .long (zl bU), .int (zi bL), .int (zi c), .int (zi x1), .int (zi y1), .int (zi sp), .int (zi rs), .int (zi pt), .ref mr])), (ms, ai κ 20 S)] 0 0 7 [(0, .ref m0), (1, .int (zi n)), (2, .int (zi idx)), (3, .int (zi y))] [] := by
    intro n_7
    induction n_7 with
    | zero =>
      intro y c x1 y1 i0 i1 i2 hmu
      exact absurd hmu (by omega)
    | succ n_7 ih_7 =>
      intro y c x1 y1 i0 i1 i2 hmu_7
      refine z_iload_n E 3 rfl rfl dX11_solves_7 ?_
      refine z_sipush E dX11_solves_8 (by decide) ?_
      refine z_ic_gt (tgt := 128) E (by omega) (by omega) dX11_solves_11 (by decide) (fun h_11 => ?_) (fun h_11 => ?_)
      · exact fin _ _ _ (⟨_, _, _, ⟨by rw [i1.1]; congr 1; omega, fun j j1 j2 => i1.2 j j1 (by omega)⟩, rfl⟩) dX11_solves_128
      · have hdb := dyy_bd v2 hn i0
        refine z_iload_n E 1 rfl rfl dX11_solves_14 ?_
        refine z_i2l E (by omega) dX11_solves_15 ?_
        refine z_aload_n E 0 rfl rfl dX11_solves_16 ?_
        refine z_get E f_X11_7 0 rfl rfl dX11_solves_17 ?_
        refine z_iconst E dX11_solves_20 ?_
        refine z_iald E 1 rfl (Nat.le_of_ble_eq_true rfl) (by omega) (by omega) dX11_solves_21 ?_
        refine z_i2l E (by omega) dX11_solves_22 ?_
        refine z_iload_n E 3 rfl rfl dX11_solves_23 ?_
        refine z_i2l E (by omega) dX11_solves_24 ?_
        refine z_lmul E dX11_solves_25 ?_
        refine z_iload_n E 3 rfl rfl dX11_solves_26 ?_
        refine z_i2l E (by omega) dX11_solves_27 ?_
        refine z_lmul E dX11_solves_28 ?_
        refine z_ladd E dX11_solves_29 ?_
        refine z_lstore (lv' := [(4, .long (zl (n + (((S 1) * y) * y)))), (0, .ref m0), (1, .int (zi n)), (2, .int (zi idx)), (3, .int (zi y))]) E dX11_solves_30 (Nat.le_of_ble_eq_true rfl) rfl ?_
        refine z_lload E 0 rfl dX11_solves_32 ?_
        refine z_lconst0 E dX11_solves_34 ?_
        refine z_lc_ge (tgt := 45) E (by omega) (by omega) dX11_solves_35 dX11_solves_36 (by decide) (fun h_35 => ?_) (fun h_35 => ?_)
        · have hrv : rt (n + ((S 1 * y) * y)) = rt (((S 1 * y) * y) + n) := by rw [Int.add_comm]
          have hrb := sq_bd (a := rt (n + ((S 1 * y) * y))) (M := 158100) (by omega)
          refine z_lload E 0 rfl dX11_solves_45 ?_
          refine z_callSl (As := [.long (zl (n + (((S 1) * y) * y)))]) (rest := []) (wr := [(m0, .inr (11, [.ref ms, .ref mp, .int (zi pn), .ref mt, .int (zi tyd), .ref mT, .ref mO, .ref mU, .int (zi ld), .long (zl up), .long (zl lw), .long (zl ua), .long (zl la), .long (zl bU), .int (zi bL), .int (zi c), .int (zi x1), .int (zi y1), .int (zi sp), .int (zi rs), .int (zi pt), .ref mr])), (ms, ai κ 20 S)]) E (c_X11_root l D κ (n + (((S 1) * y) * y)) (by omega)) m_X11_51 ⟨Nat.le_of_ble_eq_true rfl, Nat.le_of_ble_eq_true rfl⟩ ⟨rfl, rfl⟩ [] [0, 1] rfl rfl rfl rfl (by decide) rfl rfl (Nat.le_of_ble_eq_true rfl) dX11_solves_47 ⟨Nat.le_of_ble_eq_true rfl, Nat.le_of_ble_eq_true rfl⟩ (fun z47 w1 hq => ?_)
          obtain ⟨rfl, rfl⟩ := hq
          refine z_lstore (lv' := [(6, .long (zl (rt (n + (((S 1) * y) * y))))), (4, .long (zl (n + (((S 1) * y) * y)))), (0, .ref m0), (1, .int (zi n)), (2, .int (zi idx)), (3, .int (zi y))]) E dX11_solves_50 (Nat.le_of_ble_eq_true rfl) rfl ?_
          refine z_lload E 0 rfl dX11_solves_52 ?_
          refine z_lconst0 E dX11_solves_54 ?_
          refine z_lc_lt (tgt := 122) E (by omega) (by omega) dX11_solves_55 dX11_solves_56 (by decide) (fun h_55 => absurd h_55 (by omega)) (fun h_55 => ?_)
          refine z_lload E 0 rfl dX11_solves_59 ?_
          refine z_lload E 0 rfl dX11_solves_61 ?_
          refine z_lmul E dX11_solves_63 ?_
          refine z_lload E 1 rfl dX11_solves_64 ?_
          refine z_lc_ne (tgt := 122) E (by omega) (by omega) dX11_solves_66 dX11_solves_67 (by decide) (fun h_66 => ?_) (fun h_66 => ?_)
          · refine z_iinc (lv' := [(3, .int (zi (y + 1))), (6, .long (zl (rt (n + (((S 1) * y) * y))))), (4, .long (zl (n + (((S 1) * y) * y)))), (0, .ref m0), (1, .int (zi n)), (2, .int (zi idx))]) E 5 rfl dX11_solves_122 (Nat.le_of_ble_eq_true rfl) rfl ?_
            refine z_goto (tgt := 7) E dX11_solves_125 (by decide) ?_
            refine Zg.sub (lv' := [(0, .ref m0), (1, .int (zi n)), (2, .int (zi idx)), (3, .int (zi (y + 1)))]) [3, 4, 5, 0] rfl ?_
            exact ih_7 (y + 1) c x1 y1 (by omega) (slI_f i1 i0.1 (fun z => h_66 (by have := (isSq_iff hrv).mp z; omega))) (by omega) (by omega)
          · refine z_aload_n E 2 rfl rfl dX11_solves_70 ?_
            refine z_aload_n E 2 rfl rfl dX11_solves_71 ?_
            refine z_get E f_X11_154 0 rfl rfl dX11_solves_72 ?_
            refine z_iload_n E 4 rfl rfl dX11_solves_75 ?_
            refine z_ic_ne (tgt := 85) E (by omega) (by omega) dX11_solves_76 (by decide) (fun h_76 => ?_) (fun h_76 => ?_)
            · refine z_aload_n E 2 rfl rfl dX11_solves_85 ?_
              refine z_get E f_X11_159 0 rfl rfl dX11_solves_86 ?_
              refine z_put (ws' := [(m0, .inr (11, [.ref ms, .ref mp, .int (zi pn), .ref mt, .int (zi tyd), .ref mT, .ref mO, .ref mU, .int (zi ld), .long (zl up), .long (zl lw), .long (zl ua), .long (zl la), .long (zl bU), .int (zi bL), .int (zi c), .int (zi x1), .int (zi y1), .int (zi sp), .int (zi rs), .int (zi pt), .ref mr])), (ms, ai κ 20 S)]) E f_X11_159 t_X11_16 0 rfl rfl rfl (Nat.le_of_ble_eq_true rfl) rfl dX11_solves_89 ?_
              refine z_aload_n E 2 rfl rfl dX11_solves_92 ?_
              refine z_aload_n E 2 rfl rfl dX11_solves_93 ?_
              refine z_get E f_X11_154 0 rfl rfl dX11_solves_94 ?_
              refine z_iload_n E 4 rfl rfl dX11_solves_97 ?_
              refine z_ic_ne (tgt := 105) E (by omega) (by omega) dX11_solves_98 (by decide) (fun h_98 => ?_) (fun h_98 => absurd h_98 (by omega))
              refine z_aload_n E 2 rfl rfl dX11_solves_105 ?_
              refine z_get E f_X11_162 0 rfl rfl dX11_solves_106 ?_
              refine z_put (ws' := [(m0, .inr (11, [.ref ms, .ref mp, .int (zi pn), .ref mt, .int (zi tyd), .ref mT, .ref mO, .ref mU, .int (zi ld), .long (zl up), .long (zl lw), .long (zl ua), .long (zl la), .long (zl bU), .int (zi bL), .int (zi c), .int (zi x1), .int (zi y1), .int (zi sp), .int (zi rs), .int (zi pt), .ref mr])), (ms, ai κ 20 S)]) E f_X11_162 t_X11_17 0 rfl rfl rfl (Nat.le_of_ble_eq_true rfl) rfl dX11_solves_109 ?_
              refine z_aload_n E 2 rfl rfl dX11_solves_112 ?_
              refine z_dup E rfl dX11_solves_113 ?_
              refine z_get E f_X11_154 0 rfl rfl dX11_solves_114 ?_
              refine z_iconst E dX11_solves_117 ?_
              refine z_iadd E dX11_solves_118 ?_
              refine z_put (ws' := [(m0, .inr (11, [.ref ms, .ref mp, .int (zi pn), .ref mt, .int (zi tyd), .ref mT, .ref mO, .ref mU, .int (zi ld), .long (zl up), .long (zl lw), .long (zl ua), .long (zl la), .long (zl bU), .int (zi bL), .int (zi (c + 1)), .int (zi x1), .int (zi y1), .int (zi sp), .int (zi rs), .int (zi pt), .ref mr])), (ms, ai κ 20 S)]) E f_X11_154 t_X11_15 0 rfl rfl rfl (Nat.le_of_ble_eq_true rfl) rfl dX11_solves_119 ?_
              refine z_iinc (lv' := [(3, .int (zi (y + 1))), (6, .long (zl (rt (n + (((S 1) * y) * y))))), (4, .long (zl (n + (((S 1) * y) * y)))), (0, .ref m0), (1, .int (zi n)), (2, .int (zi idx))]) E 5 rfl dX11_solves_122 (Nat.le_of_ble_eq_true rfl) rfl ?_
              refine z_goto (tgt := 7) E dX11_solves_125 (by decide) ?_
              refine Zg.sub (lv' := [(0, .ref m0), (1, .int (zi n)), (2, .int (zi idx)), (3, .int (zi (y + 1)))]) [3, 4, 5, 0] rfl ?_
              exact ih_7 (y + 1) (c + 1) x1 y1 (by omega) (slI_o i1 i0.1 ((isSq_iff hrv).mpr (by omega)) (by omega)) (by omega) (by omega)
            · refine z_lload E 0 rfl dX11_solves_79 ?_
              refine z_l2i E dX11_solves_81 ?_
              refine z_goto (tgt := 89) E dX11_solves_82 (by decide) ?_
              refine z_put (ws' := [(m0, .inr (11, [.ref ms, .ref mp, .int (zi pn), .ref mt, .int (zi tyd), .ref mT, .ref mO, .ref mU, .int (zi ld), .long (zl up), .long (zl lw), .long (zl ua), .long (zl la), .long (zl bU), .int (zi bL), .int (zi c), .int (zi (rt (n + (((S 1) * y) * y)))), .int (zi y1), .int (zi sp), .int (zi rs), .int (zi pt), .ref mr])), (ms, ai κ 20 S)]) E f_X11_159 t_X11_16 0 rfl rfl rfl (Nat.le_of_ble_eq_true rfl) rfl dX11_solves_89 ?_
              refine z_aload_n E 2 rfl rfl dX11_solves_92 ?_
              refine z_aload_n E 2 rfl rfl dX11_solves_93 ?_
              refine z_get E f_X11_154 0 rfl rfl dX11_solves_94 ?_
              refine z_iload_n E 4 rfl rfl dX11_solves_97 ?_
              refine z_ic_ne (tgt := 105) E (by omega) (by omega) dX11_solves_98 (by decide) (fun h_98 => absurd h_98 (by omega)) (fun h_98 => ?_)
              refine z_iload_n E 5 rfl rfl dX11_solves_101 ?_
              refine z_goto (tgt := 109) E dX11_solves_102 (by decide) ?_
              refine z_put (ws' := [(m0, .inr (11, [.ref ms, .ref mp, .int (zi pn), .ref mt, .int (zi tyd), .ref mT, .ref mO, .ref mU, .int (zi ld), .long (zl up), .long (zl lw), .long (zl ua), .long (zl la), .long (zl bU), .int (zi bL), .int (zi c), .int (zi (rt (n + (((S 1) * y) * y)))), .int (zi y), .int (zi sp), .int (zi rs), .int (zi pt), .ref mr])), (ms, ai κ 20 S)]) E f_X11_162 t_X11_17 0 rfl rfl rfl (Nat.le_of_ble_eq_true rfl) rfl dX11_solves_109 ?_
              refine z_aload_n E 2 rfl rfl dX11_solves_112 ?_
              refine z_dup E rfl dX11_solves_113 ?_
              refine z_get E f_X11_154 0 rfl rfl dX11_solves_114 ?_
              refine z_iconst E dX11_solves_117 ?_
              refine z_iadd E dX11_solves_118 ?_
              refine z_put (ws' := [(m0, .inr (11, [.ref ms, .ref mp, .int (zi pn), .ref mt, .int (zi tyd), .ref mT, .ref mO, .ref mU, .int (zi ld), .long (zl up), .long (zl lw), .long (zl ua), .long (zl la), .long (zl bU), .int (zi bL), .int (zi (c + 1)), .int (zi (rt (n + (((S 1) * y) * y)))), .int (zi y), .int (zi sp), .int (zi rs), .int (zi pt), .ref mr])), (ms, ai κ 20 S)]) E f_X11_154 t_X11_15 0 rfl rfl rfl (Nat.le_of_ble_eq_true rfl) rfl dX11_solves_119 ?_
              refine z_iinc (lv' := [(3, .int (zi (y + 1))), (6, .long (zl (rt (n + (((S 1) * y) * y))))), (4, .long (zl (n + (((S 1) * y) * y)))), (0, .ref m0), (1, .int (zi n)), (2, .int (zi idx))]) E 5 rfl dX11_solves_122 (Nat.le_of_ble_eq_true rfl) rfl ?_
              refine z_goto (tgt := 7) E dX11_solves_125 (by decide) ?_
              refine Zg.sub (lv' := [(0, .ref m0), (1, .int (zi n)), (2, .int (zi idx)), (3, .int (zi (y + 1)))]) [3, 4, 5, 0] rfl ?_
              exact ih_7 (y + 1) (c + 1) (rt (n + (((S 1) * y) * y))) y (by omega) (slI_t i1 i0.1 ((isSq_iff hrv).mpr (by omega)) (by omega) hrv) (by omega) (by omega)
        · refine z_ldc2 E k_X11_157 dX11_solves_39 ?_
          refine z_goto (tgt := 50) E dX11_solves_42 (by decide) ?_
          refine z_lstore (lv' := [(6, .long (zl (-1))), (4, .long (zl (n + (((S 1) * y) * y)))), (0, .ref m0), (1, .int (zi n)), (2, .int (zi idx)), (3, .int (zi y))]) E dX11_solves_50 (Nat.le_of_ble_eq_true rfl) rfl ?_
          refine z_lload E 0 rfl dX11_solves_52 ?_
          refine z_lconst0 E dX11_solves_54 ?_
          refine z_lc_lt (tgt := 122) E (by omega) (by omega) dX11_solves_55 dX11_solves_56 (by decide) (fun _ => ?_) (fun h => absurd h (by decide))
          refine z_iinc (lv' := [(3, .int (zi (y + 1))), (6, .long (zl (-1))), (4, .long (zl (n + (((S 1) * y) * y)))), (0, .ref m0), (1, .int (zi n)), (2, .int (zi idx))]) E 5 rfl dX11_solves_122 (Nat.le_of_ble_eq_true rfl) rfl ?_
          refine z_goto (tgt := 7) E dX11_solves_125 (by decide) ?_
          refine Zg.sub (lv' := [(0, .ref m0), (1, .int (zi n)), (2, .int (zi idx)), (3, .int (zi (y + 1)))]) [3, 4, 5, 0] rfl ?_
          exact ih_7 (y + 1) c x1 y1 (by omega) (slI_f i1 i0.1 (isSq_neg (by omega))) (by omega) (by omega)
  refine Zg.sub (lv' := [(0, .ref m0), (1, .int (zi n)), (2, .int (zi idx)), (3, .int (zi 0))]) [1, 2, 3, 0] rfl ?_
  exact lp_7 ((5001 - 0 : Int).toNat + 1) 0 0 xn yn (by omega) (slI_0) (by omega) (by omega)
abbrev rm_X11_isN : Room := { frames := 1, cells := 0, slots := 0, locals := 25 }
set_option maxRecDepth 100000 in
theorem c_X11_isN (l : Launch) (D : va_G) (κ : Nat → ClassId) (n : Int) (hr0 : -2147483648 ≤ n ∧ n ≤ 2147483647) : ZI l yX11_isN cX11_isN 1 .boolean rm_X11_isN D κ [.int (zi n)] [] (fun z w => ((1 = z ∧ (rsP n)) ∨ (0 = z ∧ ¬ (rsP n))) ∧ [] = w) := by
  refine ZI.enter (own := RX11) rfl pn_X11_isN (Nat.le_of_ble_eq_true rfl) (fun X E fin => ?_)
  show Zg X [] 0 0 0 [(0, .int (zi n))] []
  refine z_iload_n E 0 rfl rfl dX11_isN_0 ?_
  refine z_i2l E (by omega) dX11_isN_1 ?_
  refine z_ldc2 E k_X11_165 dX11_isN_2 ?_
  refine z_ldc2 E k_X11_167 dX11_isN_5 ?_
  refine z_callSi (As := [.long (zl n), .long (zl (-60)), .long (zl 60)]) (rest := []) (wr := []) E (c_X11_in l D κ n (-60) 60 (by omega) (by omega) (by omega)) m_X11_44 ⟨Nat.le_of_ble_eq_true rfl, Nat.le_of_ble_eq_true rfl⟩ ⟨rfl, rfl⟩ [] [] rfl rfl rfl rfl (by decide) rfl rfl (Nat.le_of_ble_eq_true rfl) dX11_isN_8 ⟨Nat.le_of_ble_eq_true rfl, Nat.le_of_ble_eq_true rfl⟩ (fun z8 w1 hq => ?_)
  obtain ⟨⟨rfl, hc_8⟩ | ⟨rfl, hc_8⟩, rfl⟩ := hq
  · refine z_if_eq (tgt := 22) E (by omega) dX11_isN_11 (by decide) (fun h => absurd h (by decide)) (fun _ => ?_)
    refine z_iload_n E 0 rfl rfl dX11_isN_14 ?_
    refine z_if_eq (tgt := 22) E (by omega) dX11_isN_15 (by decide) (fun h_15 => ?_) (fun h_15 => ?_)
    · refine z_iconst E dX11_isN_22 ?_
      exact fin _ _ _ _ rfl (⟨Or.inr ⟨rfl, by unfold rsP; omega⟩, rfl⟩) dX11_isN_23
    · refine z_iconst E dX11_isN_18 ?_
      refine z_goto (tgt := 23) E dX11_isN_19 (by decide) ?_
      exact fin _ _ _ _ rfl (⟨Or.inl ⟨rfl, by unfold rsP; omega⟩, rfl⟩) dX11_isN_23
  · refine z_if_eq (tgt := 22) E (by omega) dX11_isN_11 (by decide) (fun _ => ?_) (fun h => absurd h (by decide))
    refine z_iconst E dX11_isN_22 ?_
    exact fin _ _ _ _ rfl (⟨Or.inr ⟨rfl, by unfold rsP; omega⟩, rfl⟩) dX11_isN_23
abbrev rm_X11_solution : Room := { frames := 2, cells := 0, slots := 0, locals := 55 }
set_option maxRecDepth 100000 in
theorem c_X11_solution (l : Launch) (D : va_G) (κ : Nat → ClassId) (m0 : Nat) (ms : Nat) (mp : Nat) (pn : Int) (mt : Nat) (tyd : Int) (mT : Nat) (mO : Nat) (mU : Nat) (ld : Int) (up : Int) (lw : Int) (ua : Int) (la : Int) (bU : Int) (bL : Int) (sv : Int) (xn : Int) (yn : Int) (sp : Int) (rs : Int) (pt : Int) (mr : Nat) (S : Int → Int) (n : Int) (ix : Int) (part : Int) (hr0 : -2147483648 ≤ n ∧ n ≤ 2147483647) (hr1 : -2147483648 ≤ ix ∧ ix ≤ 2147483647) (hr2 : -2147483648 ≤ part ∧ part ≤ 2147483647) (hv : vS (S 0) (S 1) (S 2)) : ZI l yX11_solution cX11_solution 4 .int rm_X11_solution D κ [.ref m0, .int (zi n), .int (zi ix), .int (zi part)] [(m0, .inr (11, [.ref ms, .ref mp, .int (zi pn), .ref mt, .int (zi tyd), .ref mT, .ref mO, .ref mU, .int (zi ld), .long (zl up), .long (zl lw), .long (zl ua), .long (zl la), .long (zl bU), .int (zi bL), .int (zi sv), .int (zi xn), .int (zi yn), .int (zi sp), .int (zi rs), .int (zi pt), .ref mr])), (ms, ai κ 20 S)] (fun z w => ∃ r : Int, ∃ sv' : Int, ∃ xn' : Int, ∃ yn' : Int, (slC (S 1) n ix part r) ∧ r = z ∧ [(m0, .inr (11, [.ref ms, .ref mp, .int (zi pn), .ref mt, .int (zi tyd), .ref mT, .ref mO, .ref mU, .int (zi ld), .long (zl up), .long (zl lw), .long (zl ua), .long (zl la), .long (zl bU), .int (zi bL), .int (zi sv'), .int (zi xn'), .int (zi yn'), .int (zi sp), .int (zi rs), .int (zi pt), .ref mr])), (ms, ai κ 20 S)] = w) := by
  refine ZI.enter (own := RX11) rfl pn_X11_solution (Nat.le_of_ble_eq_true rfl) (fun X E fin => ?_)
  show Zg X [(m0, .inr (11, [.ref ms, .ref mp, .int (zi pn), .ref mt, .int (zi tyd), .ref mT, .ref mO, .ref mU, .int (zi ld), .long (zl up), .long (zl lw), .long (zl ua), .long (zl la), .long (zl bU), .int (zi bL), .int (zi sv), .int (zi xn), .int (zi yn), .int (zi sp), .int (zi rs), .int (zi pt), .ref mr])), (ms, ai κ 20 S)] 0 0 0 [(0, .ref m0), (1, .int (zi n)), (2, .int (zi ix)), (3, .int (zi part))] []
  refine z_iload_n E 1 rfl rfl dX11_solution_0 ?_
  refine z_callSi (As := [.int (zi n)]) (rest := []) (wr := [(m0, .inr (11, [.ref ms, .ref mp, .int (zi pn), .ref mt, .int (zi tyd), .ref mT, .ref mO, .ref mU, .int (zi ld), .long (zl up), .long (zl lw), .long (zl ua), .long (zl la), .long (zl bU), .int (zi bL), .int (zi sv), .int (zi xn), .int (zi yn), .int (zi sp), .int (zi rs), .int (zi pt), .ref mr])), (ms, ai κ 20 S)]) E (c_X11_isN l D κ n (by omega)) m_X11_169 ⟨Nat.le_of_ble_eq_true rfl, Nat.le_of_ble_eq_true rfl⟩ ⟨rfl, rfl⟩ [] [0, 1] rfl rfl rfl rfl (by decide) rfl rfl (Nat.le_of_ble_eq_true rfl) dX11_solution_1 ⟨Nat.le_of_ble_eq_true rfl, Nat.le_of_ble_eq_true rfl⟩ (fun z1 w1 hq => ?_)
  obtain ⟨⟨rfl, hc_1⟩ | ⟨rfl, hc_1⟩, rfl⟩ := hq
  · refine z_if_eq (tgt := 21) E (by omega) dX11_solution_4 (by decide) (fun h => absurd h (by decide)) (fun _ => ?_)
    refine z_iload_n E 2 rfl rfl dX11_solution_7 ?_
    refine z_if_lt (tgt := 21) E (by omega) dX11_solution_8 (by decide) (fun h_8 => ?_) (fun h_8 => ?_)
    · refine z_ldc E k_X11_50 dX11_solution_21 ?_
      exact fin _ _ _ _ rfl (⟨_, _, _, _, (by exact Or.inl ⟨fun z => by have := z.2.1; omega, rfl⟩), rfl, rfl⟩) dX11_solution_23
    · refine z_iload_n E 3 rfl rfl dX11_solution_11 ?_
      refine z_i2l E (by omega) dX11_solution_12 ?_
      refine z_lconst0 E dX11_solution_13 ?_
      refine z_lconst1 E dX11_solution_14 ?_
      refine z_callSi (As := [.long (zl part), .long (zl 0), .long (zl 1)]) (rest := []) (wr := [(m0, .inr (11, [.ref ms, .ref mp, .int (zi pn), .ref mt, .int (zi tyd), .ref mT, .ref mO, .ref mU, .int (zi ld), .long (zl up), .long (zl lw), .long (zl ua), .long (zl la), .long (zl bU), .int (zi bL), .int (zi sv), .int (zi xn), .int (zi yn), .int (zi sp), .int (zi rs), .int (zi pt), .ref mr])), (ms, ai κ 20 S)]) E (c_X11_in l D κ part 0 1 (by omega) (by omega) (by omega)) m_X11_44 ⟨Nat.le_of_ble_eq_true rfl, Nat.le_of_ble_eq_true rfl⟩ ⟨rfl, rfl⟩ [] [0, 1] rfl rfl rfl rfl (by decide) rfl rfl (Nat.le_of_ble_eq_true rfl) dX11_solution_15 ⟨Nat.le_of_ble_eq_true rfl, Nat.le_of_ble_eq_true rfl⟩ (fun z15 w1 hq => ?_)
      obtain ⟨⟨rfl, hc_15⟩ | ⟨rfl, hc_15⟩, rfl⟩ := hq
      · refine z_if_ne (tgt := 24) E (by omega) dX11_solution_18 (by decide) (fun _ => ?_) (fun h => absurd h (by decide))
        have hc1b := hc_1
        unfold rsP at hc1b
        refine z_aload_n E 0 rfl rfl dX11_solution_24 ?_
        refine z_iload_n E 1 rfl rfl dX11_solution_25 ?_
        refine z_iload_n E 2 rfl rfl dX11_solution_26 ?_
        refine z_callVv (As := [.int (zi n), .int (zi ix)]) (rest := []) (wr := []) E (c_X11_solves l D κ m0 ms mp pn mt tyd mT mO mU ld up lw ua la bU bL sv xn yn sp rs pt mr S n ix (hv) (by omega) (by omega)) m_X11_172 ⟨Nat.le_of_ble_eq_true rfl, Nat.le_of_ble_eq_true rfl⟩ ⟨rfl, rfl⟩ [0, 1] [] rfl rfl rfl rfl (by decide) rfl rfl rfl rfl (Nat.le_of_ble_eq_true rfl) dX11_solution_27 ⟨Nat.le_of_ble_eq_true rfl, Nat.le_of_ble_eq_true rfl⟩ (fun  w1 hq => ?_)
        obtain ⟨sv'_1, xn'_2, yn'_3, hz_27, rfl⟩ := hq
        have hcs := cntS_nn (S 1) n 5001
        have hcs2 := hz_27.1
        have hcs3 : cntS (S 1) n (5001 : Int).toNat = cntS (S 1) n 5001 := rfl
        refine z_iload_n E 2 rfl rfl dX11_solution_30 ?_
        refine z_aload_n E 0 rfl rfl dX11_solution_31 ?_
        refine z_get E f_X11_154 0 rfl rfl dX11_solution_32 ?_
        refine z_ic_lt (tgt := 43) E (by omega) (by omega) dX11_solution_35 (by decide) (fun h_35 => ?_) (fun h_35 => ?_)
        · obtain ⟨y, hy1, hy2, hy3, hy4⟩ := cntS_ivt (d := S 1) (n := n) (k := 5001) (idx := ix) (by omega) (by omega)
          have hyy := hz_27.2 y hy1 (by omega) hy3 hy4
          refine z_iload_n E 3 rfl rfl dX11_solution_43 ?_
          refine z_if_ne (tgt := 54) E (by omega) dX11_solution_44 (by decide) (fun h_44 => ?_) (fun h_44 => ?_)
          · refine z_aload_n E 0 rfl rfl dX11_solution_54 ?_
            refine z_get E f_X11_162 0 rfl rfl dX11_solution_55 ?_
            exact fin _ _ _ _ rfl (⟨_, _, _, _, (by exact Or.inr (Or.inr ⟨⟨hc_1, by omega, hc_15⟩, y, hy1, by omega, hy3, hy4, Or.inr ⟨by omega, hyy.2⟩⟩)), rfl, rfl⟩) dX11_solution_58
          · refine z_aload_n E 0 rfl rfl dX11_solution_47 ?_
            refine z_get E f_X11_159 0 rfl rfl dX11_solution_48 ?_
            refine z_goto (tgt := 58) E dX11_solution_51 (by decide) ?_
            exact fin _ _ _ _ rfl (⟨_, _, _, _, (by exact Or.inr (Or.inr ⟨⟨hc_1, by omega, hc_15⟩, y, hy1, by omega, hy3, hy4, Or.inl ⟨by omega, hyy.1⟩⟩)), rfl, rfl⟩) dX11_solution_58
        · refine z_ldc E k_X11_176 dX11_solution_38 ?_
          refine z_goto (tgt := 58) E dX11_solution_40 (by decide) ?_
          exact fin _ _ _ _ rfl (⟨_, _, _, _, (by exact Or.inr (Or.inl ⟨⟨hc_1, by omega, hc_15⟩, FS_no (by have := hz_27.1; omega), rfl⟩)), rfl, rfl⟩) dX11_solution_58
      · refine z_if_ne (tgt := 24) E (by omega) dX11_solution_18 (by decide) (fun h => absurd h (by decide)) (fun _ => ?_)
        refine z_ldc E k_X11_50 dX11_solution_21 ?_
        exact fin _ _ _ _ rfl (⟨_, _, _, _, (by exact Or.inl ⟨fun z => hc_15 z.2.2, rfl⟩), rfl, rfl⟩) dX11_solution_23
  · refine z_if_eq (tgt := 21) E (by omega) dX11_solution_4 (by decide) (fun _ => ?_) (fun h => absurd h (by decide))
    refine z_ldc E k_X11_50 dX11_solution_21 ?_
    exact fin _ _ _ _ rfl (⟨_, _, _, _, (by exact Or.inl ⟨fun z => hc_1 z.1, rfl⟩), rfl, rfl⟩) dX11_solution_23
abbrev rm_X11_solutions : Room := { frames := 2, cells := 0, slots := 0, locals := 55 }
set_option maxRecDepth 100000 in
theorem c_X11_solutions (l : Launch) (D : va_G) (κ : Nat → ClassId) (m0 : Nat) (ms : Nat) (mp : Nat) (pn : Int) (mt : Nat) (tyd : Int) (mT : Nat) (mO : Nat) (mU : Nat) (ld : Int) (up : Int) (lw : Int) (ua : Int) (la : Int) (bU : Int) (bL : Int) (sv : Int) (xn : Int) (yn : Int) (sp : Int) (rs : Int) (pt : Int) (mr : Nat) (S : Int → Int) (n : Int) (hr0 : -2147483648 ≤ n ∧ n ≤ 2147483647) (hv : vS (S 0) (S 1) (S 2)) : ZI l yX11_solutions cX11_solutions 2 .int rm_X11_solutions D κ [.ref m0, .int (zi n)] [(m0, .inr (11, [.ref ms, .ref mp, .int (zi pn), .ref mt, .int (zi tyd), .ref mT, .ref mO, .ref mU, .int (zi ld), .long (zl up), .long (zl lw), .long (zl ua), .long (zl la), .long (zl bU), .int (zi bL), .int (zi sv), .int (zi xn), .int (zi yn), .int (zi sp), .int (zi rs), .int (zi pt), .ref mr])), (ms, ai κ 20 S)] (fun z w => ∃ r : Int, ∃ sv' : Int, ∃ xn' : Int, ∃ yn' : Int, (snC (S 1) n r) ∧ r = z ∧ [(m0, .inr (11, [.ref ms, .ref mp, .int (zi pn), .ref mt, .int (zi tyd), .ref mT, .ref mO, .ref mU, .int (zi ld), .long (zl up), .long (zl lw), .long (zl ua), .long (zl la), .long (zl bU), .int (zi bL), .int (zi sv'), .int (zi xn'), .int (zi yn'), .int (zi sp), .int (zi rs), .int (zi pt), .ref mr])), (ms, ai κ 20 S)] = w) := by
  refine ZI.enter (own := RX11) rfl pn_X11_solutions (Nat.le_of_ble_eq_true rfl) (fun X E fin => ?_)
  show Zg X [(m0, .inr (11, [.ref ms, .ref mp, .int (zi pn), .ref mt, .int (zi tyd), .ref mT, .ref mO, .ref mU, .int (zi ld), .long (zl up), .long (zl lw), .long (zl ua), .long (zl la), .long (zl bU), .int (zi bL), .int (zi sv), .int (zi xn), .int (zi yn), .int (zi sp), .int (zi rs), .int (zi pt), .ref mr])), (ms, ai κ 20 S)] 0 0 0 [(0, .ref m0), (1, .int (zi n))] []
  refine z_iload_n E 1 rfl rfl dX11_solutions_0 ?_
  refine z_callSi (As := [.int (zi n)]) (rest := []) (wr := [(m0, .inr (11, [.ref ms, .ref mp, .int (zi pn), .ref mt, .int (zi tyd), .ref mT, .ref mO, .ref mU, .int (zi ld), .long (zl up), .long (zl lw), .long (zl ua), .long (zl la), .long (zl bU), .int (zi bL), .int (zi sv), .int (zi xn), .int (zi yn), .int (zi sp), .int (zi rs), .int (zi pt), .ref mr])), (ms, ai κ 20 S)]) E (c_X11_isN l D κ n (by omega)) m_X11_169 ⟨Nat.le_of_ble_eq_true rfl, Nat.le_of_ble_eq_true rfl⟩ ⟨rfl, rfl⟩ [] [0, 1] rfl rfl rfl rfl (by decide) rfl rfl (Nat.le_of_ble_eq_true rfl) dX11_solutions_1 ⟨Nat.le_of_ble_eq_true rfl, Nat.le_of_ble_eq_true rfl⟩ (fun z1 w1 hq => ?_)
  obtain ⟨⟨rfl, hc_1⟩ | ⟨rfl, hc_1⟩, rfl⟩ := hq
  · refine z_if_ne (tgt := 10) E (by omega) dX11_solutions_4 (by decide) (fun _ => ?_) (fun h => absurd h (by decide))
    have hc1b := hc_1
    unfold rsP at hc1b
    refine z_aload_n E 0 rfl rfl dX11_solutions_10 ?_
    refine z_iload_n E 1 rfl rfl dX11_solutions_11 ?_
    refine z_ldc E k_X11_176 dX11_solutions_12 ?_
    refine z_callVv (As := [.int (zi n), .int (zi (-1000004))]) (rest := []) (wr := []) E (c_X11_solves l D κ m0 ms mp pn mt tyd mT mO mU ld up lw ua la bU bL sv xn yn sp rs pt mr S n (-1000004) (hv) (by omega) (by omega)) m_X11_172 ⟨Nat.le_of_ble_eq_true rfl, Nat.le_of_ble_eq_true rfl⟩ ⟨rfl, rfl⟩ [0, 1] [] rfl rfl rfl rfl (by decide) rfl rfl rfl rfl (Nat.le_of_ble_eq_true rfl) dX11_solutions_14 ⟨Nat.le_of_ble_eq_true rfl, Nat.le_of_ble_eq_true rfl⟩ (fun  w1 hq => ?_)
    obtain ⟨sv'_1, xn'_2, yn'_3, hz_14, rfl⟩ := hq
    refine z_aload_n E 0 rfl rfl dX11_solutions_17 ?_
    refine z_get E f_X11_154 0 rfl rfl dX11_solutions_18 ?_
    exact fin _ _ _ _ rfl (⟨_, _, _, _, (by exact Or.inr ⟨hc_1, hz_14.1⟩), rfl, rfl⟩) dX11_solutions_21
  · refine z_if_ne (tgt := 10) E (by omega) dX11_solutions_4 (by decide) (fun h => absurd h (by decide)) (fun _ => ?_)
    refine z_ldc E k_X11_50 dX11_solutions_7 ?_
    exact fin _ _ _ _ rfl (⟨_, _, _, _, (by exact Or.inl ⟨hc_1, rfl⟩), rfl, rfl⟩) dX11_solutions_9
abbrev rm_X11_leastSolution : Room := { frames := 2, cells := 0, slots := 0, locals := 63 }
set_option maxRecDepth 100000 in
theorem c_X11_leastSolution (l : Launch) (D : va_G) (κ : Nat → ClassId) (m0 : Nat) (ms : Nat) (mp : Nat) (pn : Int) (mt : Nat) (tyd : Int) (mT : Nat) (mO : Nat) (mU : Nat) (ld : Int) (up : Int) (lw : Int) (ua : Int) (la : Int) (bU : Int) (bL : Int) (sv : Int) (xn : Int) (yn : Int) (sp : Int) (rs : Int) (pt : Int) (mr : Nat) (S : Int → Int) (T : Int → Int) (OV : Int → Int) (UN : Int → Int) (part : Int) (hr0 : -2147483648 ≤ part ∧ part ≤ 2147483647) (hv : vS (S 0) (S 1) (S 2)) : ZL l yX11_leastSolution cX11_leastSolution 3 rm_X11_leastSolution D κ [.ref m0, .int (zi part)] [(m0, .inr (11, [.ref ms, .ref mp, .int (zi pn), .ref mt, .int (zi tyd), .ref mT, .ref mO, .ref mU, .int (zi ld), .long (zl up), .long (zl lw), .long (zl ua), .long (zl la), .long (zl bU), .int (zi bL), .int (zi sv), .int (zi xn), .int (zi yn), .int (zi sp), .int (zi rs), .int (zi pt), .ref mr])), (ms, ai κ 20 S), (mT, ai κ 401 T), (mO, al κ 402 OV), (mU, al κ 402 UN)] (fun z w => ∃ r : Int, ∃ up' : Int, ∃ lw' : Int, ∃ ua' : Int, ∃ la' : Int, ∃ T' : Int → Int, ∃ OV' : Int → Int, ∃ UN' : Int → Int, (lsD (S 1) part r) ∧ r = z ∧ [(m0, .inr (11, [.ref ms, .ref mp, .int (zi pn), .ref mt, .int (zi tyd), .ref mT, .ref mO, .ref mU, .int (zi ld), .long (zl up'), .long (zl lw'), .long (zl ua'), .long (zl la'), .long (zl bU), .int (zi bL), .int (zi sv), .int (zi xn), .int (zi yn), .int (zi sp), .int (zi rs), .int (zi pt), .ref mr])), (ms, ai κ 20 S), (mT, ai κ 401 T'), (mO, al κ 402 OV'), (mU, al κ 402 UN')] = w) := by
  refine ZL.enter (own := RX11) rfl pn_X11_leastSolution (Nat.le_of_ble_eq_true rfl) (fun X E fin => ?_)
  show Zg X [(m0, .inr (11, [.ref ms, .ref mp, .int (zi pn), .ref mt, .int (zi tyd), .ref mT, .ref mO, .ref mU, .int (zi ld), .long (zl up), .long (zl lw), .long (zl ua), .long (zl la), .long (zl bU), .int (zi bL), .int (zi sv), .int (zi xn), .int (zi yn), .int (zi sp), .int (zi rs), .int (zi pt), .ref mr])), (ms, ai κ 20 S), (mT, ai κ 401 T), (mO, al κ 402 OV), (mU, al κ 402 UN)] 0 0 0 [(0, .ref m0), (1, .int (zi part))] []
  refine z_iload_n E 1 rfl rfl dX11_leastSolution_0 ?_
  refine z_i2l E (by omega) dX11_leastSolution_1 ?_
  refine z_lconst0 E dX11_leastSolution_2 ?_
  refine z_lconst1 E dX11_leastSolution_3 ?_
  refine z_callSi (As := [.long (zl part), .long (zl 0), .long (zl 1)]) (rest := []) (wr := [(m0, .inr (11, [.ref ms, .ref mp, .int (zi pn), .ref mt, .int (zi tyd), .ref mT, .ref mO, .ref mU, .int (zi ld), .long (zl up), .long (zl lw), .long (zl ua), .long (zl la), .long (zl bU), .int (zi bL), .int (zi sv), .int (zi xn), .int (zi yn), .int (zi sp), .int (zi rs), .int (zi pt), .ref mr])), (ms, ai κ 20 S), (mT, ai κ 401 T), (mO, al κ 402 OV), (mU, al κ 402 UN)]) E (c_X11_in l D κ part 0 1 (by omega) (by omega) (by omega)) m_X11_44 ⟨Nat.le_of_ble_eq_true rfl, Nat.le_of_ble_eq_true rfl⟩ ⟨rfl, rfl⟩ [] [0, 1, 2, 3, 4] rfl rfl rfl rfl (by decide) rfl rfl (Nat.le_of_ble_eq_true rfl) dX11_leastSolution_4 ⟨Nat.le_of_ble_eq_true rfl, Nat.le_of_ble_eq_true rfl⟩ (fun z4 w1 hq => ?_)
  obtain ⟨⟨rfl, hc_4⟩ | ⟨rfl, hc_4⟩, rfl⟩ := hq
  · refine z_if_ne (tgt := 14) E (by omega) dX11_leastSolution_7 (by decide) (fun _ => ?_) (fun h => absurd h (by decide))
    have hv1 := vS_d1 hv
    obtain ⟨v1, v2, v3, v4, v5⟩ := id hv
    refine z_aload_n E 0 rfl rfl dX11_leastSolution_14 ?_
    refine z_lconst0 E dX11_leastSolution_15 ?_
    refine z_aload_n E 0 rfl rfl dX11_leastSolution_16 ?_
    refine z_get E f_X11_7 0 rfl rfl dX11_leastSolution_17 ?_
    refine z_iconst E dX11_leastSolution_20 ?_
    refine z_iald E 1 rfl (Nat.le_of_ble_eq_true rfl) (by omega) (by omega) dX11_leastSolution_21 ?_
    refine z_i2l E (by omega) dX11_leastSolution_22 ?_
    refine z_lconst1 E dX11_leastSolution_23 ?_
    refine z_callVv (As := [.long (zl 0), .long (zl (S 1)), .long (zl 1)]) (rest := []) (wr := [(ms, ai κ 20 S)]) E (c_X11_laysOf l D κ m0 ms mp pn mt tyd mT mO mU ld up lw ua la bU bL sv xn yn sp rs pt mr T OV UN 0 (S 1) 1 0 (S 1) 1 (hv1) (by unfold Dd; rw [show zabs 1 = 1 from rfl]; omega) (rfl)) m_X11_63 ⟨Nat.le_of_ble_eq_true rfl, Nat.le_of_ble_eq_true rfl⟩ ⟨rfl, rfl⟩ [0, 2, 3, 4] [1] rfl rfl rfl rfl (by decide) rfl rfl rfl rfl (Nat.le_of_ble_eq_true rfl) dX11_leastSolution_24 ⟨Nat.le_of_ble_eq_true rfl, Nat.le_of_ble_eq_true rfl⟩ (fun  w1 hq => ?_)
    obtain ⟨T'_1, OV'_2, UN'_3, hT_24, hO_24, rfl⟩ := hq
    refine z_aload_n E 0 rfl rfl dX11_leastSolution_27 ?_
    refine z_callVv (As := []) (rest := []) (wr := [(ms, ai κ 20 S), (mT, ai κ 401 T'_1), (mO, al κ 402 OV'_2), (mU, al κ 402 UN'_3)]) E (c_X11_begins l D κ m0 ms mp pn mt tyd mT mO mU ld up lw ua la bU bL sv xn yn sp rs pt mr ) m_X11_113 ⟨Nat.le_of_ble_eq_true rfl, Nat.le_of_ble_eq_true rfl⟩ ⟨rfl, rfl⟩ [1] [0, 2, 3, 4] rfl rfl rfl rfl (by decide) rfl rfl rfl rfl (Nat.le_of_ble_eq_true rfl) dX11_leastSolution_28 ⟨Nat.le_of_ble_eq_true rfl, Nat.le_of_ble_eq_true rfl⟩ (fun  w1 hq => ?_)
    obtain rfl := hq
    refine z_iconst E dX11_leastSolution_31 ?_
    refine z_istore_n (lv' := [(2, .int (zi 0)), (0, .ref m0), (1, .int (zi part))]) E dX11_leastSolution_32 rfl (Nat.le_of_ble_eq_true rfl) rfl ?_
    have lp_33 : ∀ (n_33 : Nat) (k : Int) (a : Int) (b : Int) (e : Int) (g : Int), (0 ≤ k ∧ k ≤ 400) → (chRun (tm 0 (S 1) 1) k.toNat = (a, b, 0, e, g)) → (lsK (S 1) k) → (400 - k) < (n_33 : Int) → Zg X [(m0, .inr (11, [.ref ms, .ref mp, .int (zi pn), .ref mt, .int (zi tyd), .ref mT, .ref mO, .ref mU, .int (zi ld), .long (zl a), .long (zl b), .long (zl e), .long (zl g), .long (zl bU), .int (zi bL), .int (zi sv), .int (zi xn), .int (zi yn), .int (zi sp), .int (zi rs), .int (zi pt), .ref mr])), (mO, al κ 402 OV'_2), (mT, ai κ 401 T'_1), (mU, al κ 402 UN'_3), (ms, ai κ 20 S)] 0 0 33 [(0, .ref m0), (1, .int (zi part)), (2, .int (zi k))] [] := by
      intro n_33
      induction n_33 with
      | zero =>
        intro k a b e g i0 i1 i2 hmu
        exact absurd hmu (by omega)
      | succ n_33 ih_33 =>
        intro k a b e g i0 i1 i2 hmu_33
        refine z_iload_n E 2 rfl rfl dX11_leastSolution_33 ?_
        refine z_sipush E dX11_leastSolution_34 (by decide) ?_
        refine z_ic_ge (tgt := 100) E (by omega) (by omega) dX11_leastSolution_37 (by decide) (fun h_37 => ?_) (fun h_37 => ?_)
        · refine z_ldc2 E k_X11_125 dX11_leastSolution_100 ?_
          refine Zg.perm (ws' := [(m0, .inr (11, [.ref ms, .ref mp, .int (zi pn), .ref mt, .int (zi tyd), .ref mT, .ref mO, .ref mU, .int (zi ld), .long (zl a), .long (zl b), .long (zl e), .long (zl g), .long (zl bU), .int (zi bL), .int (zi sv), .int (zi xn), .int (zi yn), .int (zi sp), .int (zi rs), .int (zi pt), .ref mr])), (ms, ai κ 20 S), (mT, ai κ 401 T'_1), (mO, al κ 402 OV'_2), (mU, al κ 402 UN'_3)]) [0, 4, 2, 1, 3] rfl rfl ?_
          exact fin _ _ _ _ (⟨_, _, _, _, _, _, _, _, (by exact Or.inr (Or.inl ⟨hc_4, lsK_end i2 (by omega), rfl⟩)), rfl, rfl⟩) dX11_leastSolution_103
        · have hgb := chRun_nn (tm_fP hv1 401) i0.1 (by omega) i1
          rw [← hT_24 k (by omega) (by omega)] at hgb
          refine z_aload_n E 0 rfl rfl dX11_leastSolution_40 ?_
          refine z_aload_n E 0 rfl rfl dX11_leastSolution_41 ?_
          refine z_get E f_X11_19 0 rfl rfl dX11_leastSolution_42 ?_
          refine z_iload_n E 2 rfl rfl dX11_leastSolution_45 ?_
          refine z_iald E 2 rfl (Nat.le_of_ble_eq_true rfl) (by omega) (by omega) dX11_leastSolution_46 ?_
          refine z_i2l E (by omega) dX11_leastSolution_47 ?_
          refine z_callVi (As := [.long (zl (T'_1 k))]) (rest := []) (wr := [(mO, al κ 402 OV'_2), (mT, ai κ 401 T'_1), (mU, al κ 402 UN'_3), (ms, ai κ 20 S)]) E (c_X11_goesOn l D κ m0 ms mp pn mt tyd mT mO mU ld a b e g bU bL sv xn yn sp rs pt mr (T'_1 k) (hgb.2.2.2.2.2.1) (hgb.1) (hgb.2.1) (hgb.2.2.1) (hgb.2.2.2.1) (hgb.2.2.2.2.1)) m_X11_116 ⟨Nat.le_of_ble_eq_true rfl, Nat.le_of_ble_eq_true rfl⟩ ⟨rfl, rfl⟩ [0] [1, 2, 3, 4] rfl rfl rfl rfl (by decide) rfl rfl rfl rfl (Nat.le_of_ble_eq_true rfl) dX11_leastSolution_48 ⟨Nat.le_of_ble_eq_true rfl, Nat.le_of_ble_eq_true rfl⟩ (fun z48 w1 hq => ?_)
          obtain ⟨up'_4, lw'_5, ua'_6, la'_7, o'_8, ⟨rfl, hc_48⟩ | ⟨rfl, hc_48⟩, hh_48, rfl⟩ := hq
          · refine z_if_ne (tgt := 58) E (by omega) dX11_leastSolution_51 (by decide) (fun _ => ?_) (fun h => absurd h (by decide))
            have hcr := chRun_s i0.1 i1 (hT_24 k (by omega) (by omega)) hh_48
            rw [hc_48] at hcr
            have hou := sS_ab hv1 (i := k + 1) (by omega) (hO_24 (k + 1) (by omega) (by omega))
            refine z_iload_n E 2 rfl rfl dX11_leastSolution_58 ?_
            refine z_iconst E dX11_leastSolution_59 ?_
            refine z_irem2 E (by omega) (by omega) dX11_leastSolution_60 ?_
            refine z_iconst E dX11_leastSolution_61 ?_
            refine z_ic_ne (tgt := 94) E (by omega) (by omega) dX11_leastSolution_62 (by decide) (fun h_62 => ?_) (fun h_62 => ?_)
            · refine z_iinc (lv' := [(2, .int (zi (k + 1))), (0, .ref m0), (1, .int (zi part))]) E 2 rfl dX11_leastSolution_94 (Nat.le_of_ble_eq_true rfl) rfl ?_
              refine z_goto (tgt := 33) E dX11_leastSolution_97 (by decide) ?_
              refine Zg.sub (lv' := [(0, .ref m0), (1, .int (zi part)), (2, .int (zi (k + 1)))]) [1, 2, 0] rfl ?_
              refine Zg.perm (ws' := [(m0, .inr (11, [.ref ms, .ref mp, .int (zi pn), .ref mt, .int (zi tyd), .ref mT, .ref mO, .ref mU, .int (zi ld), .long (zl up'_4), .long (zl lw'_5), .long (zl ua'_6), .long (zl la'_7), .long (zl bU), .int (zi bL), .int (zi sv), .int (zi xn), .int (zi yn), .int (zi sp), .int (zi rs), .int (zi pt), .ref mr])), (mO, al κ 402 OV'_2), (mT, ai κ 401 T'_1), (mU, al κ 402 UN'_3), (ms, ai κ 20 S)]) [4, 0, 1, 2, 3] rfl rfl ?_
              exact ih_33 (k + 1) up'_4 lw'_5 ua'_6 la'_7 (by omega) (hcr) (lsK_s i2 (fun z => by have := z.2; omega)) (by omega)
            · refine z_aload_n E 0 rfl rfl dX11_leastSolution_65 ?_
              refine z_get E f_X11_26 4 rfl rfl dX11_leastSolution_66 ?_
              refine z_iload_n E 2 rfl rfl dX11_leastSolution_69 ?_
              refine z_iconst E dX11_leastSolution_70 ?_
              refine z_iadd E dX11_leastSolution_71 ?_
              refine z_lald E 2 rfl (Nat.le_of_ble_eq_true rfl) (by omega) (by omega) dX11_leastSolution_72 ?_
              refine z_lconst1 E dX11_leastSolution_73 ?_
              refine z_lc_ne (tgt := 94) E (by omega) (by omega) dX11_leastSolution_74 dX11_leastSolution_75 (by decide) (fun h_74 => ?_) (fun h_74 => ?_)
              · refine z_iinc (lv' := [(2, .int (zi (k + 1))), (0, .ref m0), (1, .int (zi part))]) E 2 rfl dX11_leastSolution_94 (Nat.le_of_ble_eq_true rfl) rfl ?_
                refine z_goto (tgt := 33) E dX11_leastSolution_97 (by decide) ?_
                refine Zg.sub (lv' := [(0, .ref m0), (1, .int (zi part)), (2, .int (zi (k + 1)))]) [1, 2, 0] rfl ?_
                refine Zg.perm (ws' := [(m0, .inr (11, [.ref ms, .ref mp, .int (zi pn), .ref mt, .int (zi tyd), .ref mT, .ref mO, .ref mU, .int (zi ld), .long (zl up'_4), .long (zl lw'_5), .long (zl ua'_6), .long (zl la'_7), .long (zl bU), .int (zi bL), .int (zi sv), .int (zi xn), .int (zi yn), .int (zi sp), .int (zi rs), .int (zi pt), .ref mr])), (mO, al κ 402 OV'_2), (mT, ai κ 401 T'_1), (mU, al κ 402 UN'_3), (ms, ai κ 20 S)]) [4, 0, 1, 2, 3] rfl rfl ?_
                exact ih_33 (k + 1) up'_4 lw'_5 ua'_6 la'_7 (by omega) (hcr) (lsK_s i2 (fun z => by have := z.1; rw [hO_24 (k + 1) (by omega) (by omega)] at this; dsimp only at this; omega)) (by omega)
              · have hsu : (sS 0 (S 1) 1 (k + 1).toNat).2 = 1 := by rw [hO_24 (k + 1) (by omega) (by omega)]; dsimp only; omega
                refine z_iload_n E 1 rfl rfl dX11_leastSolution_78 ?_
                refine z_if_ne (tgt := 89) E (by omega) dX11_leastSolution_79 (by decide) (fun h_79 => ?_) (fun h_79 => ?_)
                · refine z_aload_n E 0 rfl rfl dX11_leastSolution_89 ?_
                  refine z_get E f_X11_97 4 rfl rfl dX11_leastSolution_90 ?_
                  refine Zg.perm (ws' := [(m0, .inr (11, [.ref ms, .ref mp, .int (zi pn), .ref mt, .int (zi tyd), .ref mT, .ref mO, .ref mU, .int (zi ld), .long (zl up'_4), .long (zl lw'_5), .long (zl ua'_6), .long (zl la'_7), .long (zl bU), .int (zi bL), .int (zi sv), .int (zi xn), .int (zi yn), .int (zi sp), .int (zi rs), .int (zi pt), .ref mr])), (ms, ai κ 20 S), (mT, ai κ 401 T'_1), (mO, al κ 402 OV'_2), (mU, al κ 402 UN'_3)]) [4, 3, 1, 0, 2] rfl rfl ?_
                  exact fin _ _ _ _ (⟨_, _, _, _, _, _, _, _, (by exact Or.inr (Or.inr ⟨hc_4, k + 1, by omega, by omega, ⟨by rw [hcr], hsu, by omega, fun j j1 j2 => i2 j j1 (by omega)⟩, by rw [hcr]; exact Or.inr ⟨by omega, rfl⟩⟩)), rfl, rfl⟩) dX11_leastSolution_93
                · refine z_aload_n E 0 rfl rfl dX11_leastSolution_82 ?_
                  refine z_get E f_X11_93 4 rfl rfl dX11_leastSolution_83 ?_
                  refine z_goto (tgt := 93) E dX11_leastSolution_86 (by decide) ?_
                  refine Zg.perm (ws' := [(m0, .inr (11, [.ref ms, .ref mp, .int (zi pn), .ref mt, .int (zi tyd), .ref mT, .ref mO, .ref mU, .int (zi ld), .long (zl up'_4), .long (zl lw'_5), .long (zl ua'_6), .long (zl la'_7), .long (zl bU), .int (zi bL), .int (zi sv), .int (zi xn), .int (zi yn), .int (zi sp), .int (zi rs), .int (zi pt), .ref mr])), (ms, ai κ 20 S), (mT, ai κ 401 T'_1), (mO, al κ 402 OV'_2), (mU, al κ 402 UN'_3)]) [4, 3, 1, 0, 2] rfl rfl ?_
                  exact fin _ _ _ _ (⟨_, _, _, _, _, _, _, _, (by exact Or.inr (Or.inr ⟨hc_4, k + 1, by omega, by omega, ⟨by rw [hcr], hsu, by omega, fun j j1 j2 => i2 j j1 (by omega)⟩, by rw [hcr]; exact Or.inl ⟨by omega, rfl⟩⟩)), rfl, rfl⟩) dX11_leastSolution_93
          · refine z_if_ne (tgt := 58) E (by omega) dX11_leastSolution_51 (by decide) (fun h => absurd h (by decide)) (fun _ => ?_)
            refine z_ldc2 E k_X11_125 dX11_leastSolution_54 ?_
            refine Zg.perm (ws' := [(m0, .inr (11, [.ref ms, .ref mp, .int (zi pn), .ref mt, .int (zi tyd), .ref mT, .ref mO, .ref mU, .int (zi ld), .long (zl up'_4), .long (zl lw'_5), .long (zl ua'_6), .long (zl la'_7), .long (zl bU), .int (zi bL), .int (zi sv), .int (zi xn), .int (zi yn), .int (zi sp), .int (zi rs), .int (zi pt), .ref mr])), (ms, ai κ 20 S), (mT, ai κ 401 T'_1), (mO, al κ 402 OV'_2), (mU, al κ 402 UN'_3)]) [4, 3, 1, 0, 2] rfl rfl ?_
            exact fin _ _ _ _ (⟨_, _, _, _, _, _, _, _, (by exact Or.inr (Or.inl ⟨hc_4, lsK_over i2 (by have hcr := chRun_s i0.1 i1 (hT_24 k (by omega) (by omega)) hh_48; have hcb := chRun_bd hcr; rw [hcr]; dsimp only; omega), rfl⟩)), rfl, rfl⟩) dX11_leastSolution_57
    refine Zg.sub (lv' := [(0, .ref m0), (1, .int (zi part)), (2, .int (zi 0))]) [1, 2, 0] rfl ?_
    refine Zg.perm (ws' := [(m0, .inr (11, [.ref ms, .ref mp, .int (zi pn), .ref mt, .int (zi tyd), .ref mT, .ref mO, .ref mU, .int (zi ld), .long (zl 1), .long (zl 0), .long (zl 0), .long (zl 1), .long (zl bU), .int (zi bL), .int (zi sv), .int (zi xn), .int (zi yn), .int (zi sp), .int (zi rs), .int (zi pt), .ref mr])), (mO, al κ 402 OV'_2), (mT, ai κ 401 T'_1), (mU, al κ 402 UN'_3), (ms, ai κ 20 S)]) [4, 2, 1, 3, 0] rfl rfl ?_
    exact lp_33 ((400 - 0 : Int).toNat + 1) 0 1 0 0 1 (by omega) (rfl) (fun j j1 j2 => absurd j1 (by omega)) (by omega)
  · refine z_if_ne (tgt := 14) E (by omega) dX11_leastSolution_7 (by decide) (fun h => absurd h (by decide)) (fun _ => ?_)
    refine z_ldc2 E k_X11_120 dX11_leastSolution_10 ?_
    exact fin _ _ _ _ (⟨_, _, _, _, _, _, _, _, (by exact Or.inl ⟨hc_4, rfl⟩), rfl, rfl⟩) dX11_leastSolution_13
