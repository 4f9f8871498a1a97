abbrev rm_X11_note : Room := { frames := 5, cells := 0, slots := 0, locals := 112 }
set_option maxRecDepth 100000 in
theorem c_X11_note (l : Launch) (D : va_G) (κ : Nat → ClassId) (m0 : Nat) (ms : Nat) (mp : Nat) (pn : Int) (mt : Nat) (tyd : Int) (mT : Nat) (mO : Nat) (mU : Nat) (ld : Int) (up : Int) (lw : Int) (ua : Int) (la : Int) (bU : Int) (bL : Int) (sv : Int) (xn : Int) (yn : Int) (sp : Int) (rs : Int) (pt : Int) (mr : Nat) (TX : Int → Int) (RW : Int → Int) (S : Int → Int) (PA : Int → Int) (hty : 0 ≤ tyd ∧ tyd ≤ 40) (hC : ∀ i : Int, 0 ≤ i → i < tyd → 32 ≤ TX i ∧ TX i ≤ 126) (hv : vS (S 0) (S 1) (S 2)) (hok : okS S) (hpn : 0 ≤ pn ∧ pn ≤ 4) : ZI l yX11_note cX11_note 1 .int rm_X11_note D κ [.ref m0] [(m0, .inr (11, [.ref ms, .ref mp, .int (zi pn), .ref mt, .int (zi tyd), .ref mT, .ref mO, .ref mU, .int (zi ld), .long (zl up), .long (zl lw), .long (zl ua), .long (zl la), .long (zl bU), .int (zi bL), .int (zi sv), .int (zi xn), .int (zi yn), .int (zi sp), .int (zi rs), .int (zi pt), .ref mr])), (mt, ai κ 40 TX), (mr, ai κ 21 RW), (ms, ai κ 20 S), (mp, ai κ 80 PA)] (fun z w => ∃ r : Int, ∃ sp' : Int, ∃ rs' : Int, ∃ pt' : Int, ∃ RW' : Int → Int, ∃ up' : Int, ∃ lw' : Int, ∃ ua' : Int, ∃ la' : Int, ∃ S' : Int → Int, ∃ PA' : Int → Int, ∃ pn' : Int, (ntM S PA TX pn tyd r S' PA' pn') ∧ r = z ∧ [(m0, .inr (11, [.ref ms, .ref mp, .int (zi pn'), .ref mt, .int (zi tyd), .ref mT, .ref mO, .ref mU, .int (zi ld), .long (zl up'), .long (zl lw'), .long (zl ua'), .long (zl la'), .long (zl bU), .int (zi bL), .int (zi sv), .int (zi xn), .int (zi yn), .int (zi sp'), .int (zi rs'), .int (zi pt'), .ref mr])), (mt, ai κ 40 TX), (mr, ai κ 21 RW'), (ms, ai κ 20 S'), (mp, ai κ 80 PA')] = w) := by
  refine ZI.enter (own := RX11) rfl pn_X11_note (Nat.le_of_ble_eq_true rfl) (fun X E fin => ?_)
  show Zg X [(m0, .inr (11, [.ref ms, .ref mp, .int (zi pn), .ref mt, .int (zi tyd), .ref mT, .ref mO, .ref mU, .int (zi ld), .long (zl up), .long (zl lw), .long (zl ua), .long (zl la), .long (zl bU), .int (zi bL), .int (zi sv), .int (zi xn), .int (zi yn), .int (zi sp), .int (zi rs), .int (zi pt), .ref mr])), (mt, ai κ 40 TX), (mr, ai κ 21 RW), (ms, ai κ 20 S), (mp, ai κ 80 PA)] 0 0 0 [(0, .ref m0)] []
  have hb2 := hok.1
  refine z_aload_n E 0 rfl rfl dX11_note_0 ?_
  refine z_callVi (As := []) (rest := []) (wr := [(ms, ai κ 20 S), (mp, ai κ 80 PA)]) E (c_X11_reads l D κ m0 ms mp pn mt tyd mT mO mU ld up lw ua la bU bL sv xn yn sp rs pt mr TX RW (by omega) (hC)) m_X11_203 ⟨Nat.le_of_ble_eq_true rfl, Nat.le_of_ble_eq_true rfl⟩ ⟨rfl, rfl⟩ [0, 1, 2] [3, 4] rfl rfl rfl rfl (by decide) rfl rfl rfl rfl (Nat.le_of_ble_eq_true rfl) dX11_note_1 ⟨Nat.le_of_ble_eq_true rfl, Nat.le_of_ble_eq_true rfl⟩ (fun z1 w1 hq => ?_)
  obtain ⟨sp'_1, rs'_2, pt'_3, RW'_4, ⟨rfl, hc_1⟩ | ⟨rfl, hc_1⟩, hd_1, rfl⟩ := hq
  · refine z_if_eq (tgt := 36) E (by omega) dX11_note_4 (by decide) (fun h => absurd h (by decide)) (fun _ => ?_)
    obtain ⟨k, hk1, hk2, hk3, hk4, hk5, hk6⟩ := rdF_fine hd_1 hc_1
    refine z_aload_n E 0 rfl rfl dX11_note_7 ?_
    refine z_callVi (As := []) (rest := []) (wr := [(ms, ai κ 20 S), (mp, ai κ 80 PA), (mt, ai κ 40 TX)]) E (c_X11_tells l D κ m0 ms mp pn mt tyd mT mO mU ld up lw ua la bU bL sv xn yn sp'_1 rs'_2 pt'_3 mr RW'_4 (by omega) (hk4)) m_X11_215 ⟨Nat.le_of_ble_eq_true rfl, Nat.le_of_ble_eq_true rfl⟩ ⟨rfl, rfl⟩ [2, 4] [0, 1, 3] rfl rfl rfl rfl (by decide) rfl rfl rfl rfl (Nat.le_of_ble_eq_true rfl) dX11_note_8 ⟨Nat.le_of_ble_eq_true rfl, Nat.le_of_ble_eq_true rfl⟩ (fun z8 w1 hq => ?_)
    obtain ⟨up'_5, lw'_6, ua'_7, la'_8, ⟨rfl, hc_8⟩ | ⟨rfl, hc_8⟩, hr_8, rfl⟩ := hq
    · have hcR : chRun (RW'_4) (pt'_3 : Int).toNat = tCh TX tyd k := by rw [show (pt'_3 : Int).toNat = k + 1 by omega]; exact tCh_of hk3
      have hch := hcR.symm.trans (hr_8 hc_8)
      have hbd := chRun_bd (hr_8 hc_8)
      have hps := tCh_pos hk6
      rw [hch] at hps
      dsimp only at hps
      have hntf := ntF_iff (S := S) hch hps
      refine z_if_eq (tgt := 36) E (by omega) dX11_note_11 (by decide) (fun h => absurd h (by decide)) (fun _ => ?_)
      refine z_aload_n E 0 rfl rfl dX11_note_14 ?_
      refine z_callVi (As := []) (rest := []) (wr := [(ms, ai κ 20 S), (mp, ai κ 80 PA), (mt, ai κ 40 TX), (mr, ai κ 21 RW'_4)]) E (c_X11_fits l D κ m0 ms mp pn mt tyd mT mO mU ld up'_5 lw'_6 ua'_7 la'_8 bU bL sv xn yn sp'_1 rs'_2 pt'_3 mr (by omega) (by omega)) m_X11_218 ⟨Nat.le_of_ble_eq_true rfl, Nat.le_of_ble_eq_true rfl⟩ ⟨rfl, rfl⟩ [3] [0, 1, 2, 4] rfl rfl rfl rfl (by decide) rfl rfl rfl rfl (Nat.le_of_ble_eq_true rfl) dX11_note_15 ⟨Nat.le_of_ble_eq_true rfl, Nat.le_of_ble_eq_true rfl⟩ (fun z15 w1 hq => ?_)
      obtain ⟨⟨rfl, hc_15⟩ | ⟨rfl, hc_15⟩, rfl⟩ := hq
      · refine z_if_eq (tgt := 36) E (by omega) dX11_note_18 (by decide) (fun h => absurd h (by decide)) (fun _ => ?_)
        refine z_aload_n E 0 rfl rfl dX11_note_21 ?_
        refine z_aload_n E 0 rfl rfl dX11_note_22 ?_
        refine z_get E f_X11_93 4 rfl rfl dX11_note_23 ?_
        refine z_aload_n E 0 rfl rfl dX11_note_26 ?_
        refine z_get E f_X11_97 4 rfl rfl dX11_note_27 ?_
        refine z_callVi (As := [.long (zl up'_5), .long (zl lw'_6)]) (rest := []) (wr := [(mp, ai κ 80 PA), (mt, ai κ 40 TX), (mr, ai κ 21 RW'_4)]) E (c_X11_isNoted l D κ m0 ms mp pn mt tyd mT mO mU ld up'_5 lw'_6 ua'_7 la'_8 bU bL sv xn yn sp'_1 rs'_2 pt'_3 mr S up'_5 lw'_6 (hok) (by omega) (by omega)) m_X11_230 ⟨Nat.le_of_ble_eq_true rfl, Nat.le_of_ble_eq_true rfl⟩ ⟨rfl, rfl⟩ [4, 0] [1, 2, 3] rfl rfl rfl rfl (by decide) rfl rfl rfl rfl (Nat.le_of_ble_eq_true rfl) dX11_note_30 ⟨Nat.le_of_ble_eq_true rfl, Nat.le_of_ble_eq_true rfl⟩ (fun z30 w1 hq => ?_)
        obtain ⟨⟨rfl, hc_30⟩ | ⟨rfl, hc_30⟩, rfl⟩ := hq
        · refine z_if_eq (tgt := 39) E (by omega) dX11_note_33 (by decide) (fun h => absurd h (by decide)) (fun _ => ?_)
          refine z_ldc E k_X11_55 dX11_note_36 ?_
          refine Zg.perm (ws' := [(m0, .inr (11, [.ref ms, .ref mp, .int (zi pn), .ref mt, .int (zi tyd), .ref mT, .ref mO, .ref mU, .int (zi ld), .long (zl up'_5), .long (zl lw'_6), .long (zl ua'_7), .long (zl la'_8), .long (zl bU), .int (zi bL), .int (zi sv), .int (zi xn), .int (zi yn), .int (zi sp'_1), .int (zi rs'_2), .int (zi pt'_3), .ref mr])), (mt, ai κ 40 TX), (mr, ai κ 21 RW'_4), (ms, ai κ 20 S), (mp, ai κ 80 PA)]) [3, 1, 2, 4, 0] rfl rfl ?_
          exact fin _ _ _ _ rfl (⟨_, _, _, _, _, _, _, _, _, _, _, _, (by exact Or.inr ⟨k, hk1, Or.inl ⟨fun z => (hntf.mp z).2 hc_30, rfl, rfl, rfl, rfl⟩⟩), rfl, rfl⟩) dX11_note_38
        · refine z_if_eq (tgt := 39) E (by omega) dX11_note_33 (by decide) (fun _ => ?_) (fun h => absurd h (by decide))
          refine z_aload_n E 0 rfl rfl dX11_note_39 ?_
          refine z_get E f_X11_7 3 rfl rfl dX11_note_40 ?_
          refine z_iconst E dX11_note_43 ?_
          refine z_iald E 4 rfl (Nat.le_of_ble_eq_true rfl) (by omega) (by omega) dX11_note_44 ?_
          refine z_bipush E dX11_note_45 (by decide) ?_
          refine z_ic_ne (tgt := 53) E (by omega) (by omega) dX11_note_47 (by decide) (fun h_47 => ?_) (fun h_47 => ?_)
          · refine z_aload_n E 0 rfl rfl dX11_note_53 ?_
            refine z_callVv (As := []) (rest := []) (wr := [(mt, ai κ 40 TX), (mr, ai κ 21 RW'_4)]) E (c_X11_changes l D κ m0 ms mp pn mt tyd mT mO mU ld up'_5 lw'_6 ua'_7 la'_8 bU bL sv xn yn sp'_1 rs'_2 pt'_3 mr S PA (by omega)) m_X11_56 ⟨Nat.le_of_ble_eq_true rfl, Nat.le_of_ble_eq_true rfl⟩ ⟨rfl, rfl⟩ [3, 4, 0] [1, 2] rfl rfl rfl rfl (by decide) rfl rfl rfl rfl (Nat.le_of_ble_eq_true rfl) dX11_note_54 ⟨Nat.le_of_ble_eq_true rfl, Nat.le_of_ble_eq_true rfl⟩ (fun  w1 hq => ?_)
            obtain ⟨pn'_9, PA'_10, hc_54, rfl⟩ := hq
            refine z_aload_n E 0 rfl rfl dX11_note_57 ?_
            refine z_get E f_X11_7 2 rfl rfl dX11_note_58 ?_
            refine z_iconst E dX11_note_61 ?_
            refine z_iconst E dX11_note_62 ?_
            refine z_aload_n E 0 rfl rfl dX11_note_63 ?_
            refine z_get E f_X11_7 2 rfl rfl dX11_note_64 ?_
            refine z_iconst E dX11_note_67 ?_
            refine z_iald E 3 rfl (Nat.le_of_ble_eq_true rfl) (by omega) (by omega) dX11_note_68 ?_
            refine z_imul E dX11_note_69 ?_
            refine z_iadd E dX11_note_70 ?_
            refine z_aload_n E 0 rfl rfl dX11_note_71 ?_
            refine z_get E f_X11_93 2 rfl rfl dX11_note_72 ?_
            refine z_l2i E dX11_note_75 ?_
            refine z_iast (ws' := [(mt, ai κ 40 TX), (mr, ai κ 21 RW'_4), (m0, .inr (11, [.ref ms, .ref mp, .int (zi pn'_9), .ref mt, .int (zi tyd), .ref mT, .ref mO, .ref mU, .int (zi ld), .long (zl up'_5), .long (zl lw'_6), .long (zl ua'_7), .long (zl la'_8), .long (zl bU), .int (zi bL), .int (zi sv), .int (zi xn), .int (zi yn), .int (zi sp'_1), .int (zi rs'_2), .int (zi pt'_3), .ref mr])), (ms, ai κ 20 (zu S (4 + (2 * (S 3))) up'_5)), (mp, ai κ 80 PA'_10)]) E 3 rfl (Nat.le_of_ble_eq_true rfl) (by omega) (by omega) rfl dX11_note_76 ?_
            refine z_aload_n E 0 rfl rfl dX11_note_77 ?_
            refine z_get E f_X11_7 2 rfl rfl dX11_note_78 ?_
            refine z_iconst E dX11_note_81 ?_
            refine z_iconst E dX11_note_82 ?_
            refine z_aload_n E 0 rfl rfl dX11_note_83 ?_
            refine z_get E f_X11_7 2 rfl rfl dX11_note_84 ?_
            refine z_iconst E dX11_note_87 ?_
            refine z_iald E 3 rfl (Nat.le_of_ble_eq_true rfl) (by omega) (by omega) dX11_note_88 ?_
            rw [zu_n _ _ (by omega : (3 : Int) ≠ 4 + 2 * S 3)]
            refine z_imul E dX11_note_89 ?_
            refine z_iadd E dX11_note_90 ?_
            refine z_iconst E dX11_note_91 ?_
            refine z_iadd E dX11_note_92 ?_
            refine z_aload_n E 0 rfl rfl dX11_note_93 ?_
            refine z_get E f_X11_97 2 rfl rfl dX11_note_94 ?_
            refine z_l2i E dX11_note_97 ?_
            refine z_iast (ws' := [(mt, ai κ 40 TX), (mr, ai κ 21 RW'_4), (m0, .inr (11, [.ref ms, .ref mp, .int (zi pn'_9), .ref mt, .int (zi tyd), .ref mT, .ref mO, .ref mU, .int (zi ld), .long (zl up'_5), .long (zl lw'_6), .long (zl ua'_7), .long (zl la'_8), .long (zl bU), .int (zi bL), .int (zi sv), .int (zi xn), .int (zi yn), .int (zi sp'_1), .int (zi rs'_2), .int (zi pt'_3), .ref mr])), (ms, ai κ 20 (zu (zu S (4 + (2 * (S 3))) up'_5) ((4 + (2 * (S 3))) + 1) lw'_6)), (mp, ai κ 80 PA'_10)]) E 3 rfl (Nat.le_of_ble_eq_true rfl) (by omega) (by omega) rfl dX11_note_98 ?_
            refine z_aload_n E 0 rfl rfl dX11_note_99 ?_
            refine z_get E f_X11_7 2 rfl rfl dX11_note_100 ?_
            refine z_iconst E dX11_note_103 ?_
            refine z_dup2 E rfl rfl dX11_note_104 ?_
            refine z_iald E 3 rfl (Nat.le_of_ble_eq_true rfl) (by omega) (by omega) dX11_note_105 ?_
            rw [zu_n _ _ (by omega : (3 : Int) ≠ 4 + 2 * S 3 + 1), zu_n _ _ (by omega : (3 : Int) ≠ 4 + 2 * S 3)]
            refine z_iconst E dX11_note_106 ?_
            refine z_iadd E dX11_note_107 ?_
            refine z_iast (ws' := [(mt, ai κ 40 TX), (mr, ai κ 21 RW'_4), (m0, .inr (11, [.ref ms, .ref mp, .int (zi pn'_9), .ref mt, .int (zi tyd), .ref mT, .ref mO, .ref mU, .int (zi ld), .long (zl up'_5), .long (zl lw'_6), .long (zl ua'_7), .long (zl la'_8), .long (zl bU), .int (zi bL), .int (zi sv), .int (zi xn), .int (zi yn), .int (zi sp'_1), .int (zi rs'_2), .int (zi pt'_3), .ref mr])), (ms, ai κ 20 (zu (zu (zu S (4 + (2 * (S 3))) up'_5) ((4 + (2 * (S 3))) + 1) lw'_6) 3 ((S 3) + 1))), (mp, ai κ 80 PA'_10)]) E 3 rfl (Nat.le_of_ble_eq_true rfl) (by omega) (by omega) rfl dX11_note_108 ?_
            have hr2 := nt_row (S := S) (u := up'_5) (v := lw'_6) (by omega)
            obtain ⟨S2, hS2⟩ : ∃ S2 : Int → Int, S2 = zu (zu (zu S (4 + (2 * (S 3))) up'_5) ((4 + (2 * (S 3))) + 1) lw'_6) 3 ((S 3) + 1) := ⟨_, rfl⟩
            rw [← hS2]
            rw [← hS2] at hr2
            have hfo : okF up'_5 lw'_6 := ⟨hc_15.1.1, hc_15.1.2, hc_15.2.1, hc_15.2.2⟩
            have hok2 := nt_ok hok (by omega) hr2 hfo
            have hv2 : vS (S2 0) (S2 1) (S2 2) := by rw [hr2.2.2.2 0 (by omega) (by omega), hr2.2.2.2 1 (by omega) (by omega), hr2.2.2.2 2 (by omega) (by omega)]; exact hv
            have hr3 := hr2.1
            refine z_aload_n E 0 rfl rfl dX11_note_109 ?_
            refine z_aload_n E 0 rfl rfl dX11_note_110 ?_
            refine z_get E f_X11_7 2 rfl rfl dX11_note_111 ?_
            refine z_iconst E dX11_note_114 ?_
            refine z_iald E 3 rfl (Nat.le_of_ble_eq_true rfl) (by omega) (by omega) dX11_note_115 ?_
            refine z_iconst E dX11_note_116 ?_
            refine z_isub E dX11_note_117 ?_
            refine z_callVi (As := [.int (zi ((S2 3) - 1))]) (rest := []) (wr := [(mt, ai κ 40 TX), (mr, ai κ 21 RW'_4), (mp, ai κ 80 PA'_10)]) E (c_X11_placeOf l D κ m0 ms mp pn'_9 mt tyd mT mO mU ld up'_5 lw'_6 ua'_7 la'_8 bU bL sv xn yn sp'_1 rs'_2 pt'_3 mr S2 ((S2 3) - 1) (hv2) (hok2) (by omega)) m_X11_227 ⟨Nat.le_of_ble_eq_true rfl, Nat.le_of_ble_eq_true rfl⟩ ⟨rfl, rfl⟩ [2, 3] [0, 1, 4] rfl rfl rfl rfl (by decide) rfl rfl rfl rfl (Nat.le_of_ble_eq_true rfl) dX11_note_118 ⟨Nat.le_of_ble_eq_true rfl, Nat.le_of_ble_eq_true rfl⟩ (fun z118 w1 hq => ?_)
            obtain ⟨rfl, rfl⟩ := hq
            refine Zg.perm (ws' := [(m0, .inr (11, [.ref ms, .ref mp, .int (zi pn'_9), .ref mt, .int (zi tyd), .ref mT, .ref mO, .ref mU, .int (zi ld), .long (zl up'_5), .long (zl lw'_6), .long (zl ua'_7), .long (zl la'_8), .long (zl bU), .int (zi bL), .int (zi sv), .int (zi xn), .int (zi yn), .int (zi sp'_1), .int (zi rs'_2), .int (zi pt'_3), .ref mr])), (mt, ai κ 40 TX), (mr, ai κ 21 RW'_4), (ms, ai κ 20 S2), (mp, ai κ 80 PA'_10)]) [3, 0, 1, 4, 2] rfl rfl ?_
            exact fin _ _ _ _ rfl (⟨_, _, _, _, _, _, _, _, _, _, _, _, (by exact Or.inr ⟨k, hk1, Or.inr (Or.inr ⟨hntf.mpr ⟨hc_15, hc_30⟩, by omega, hc_54, (by rw [hch]; exact hr2), (by rw [hr3, show S 3 + 1 - 1 = S 3 by omega])⟩)⟩), rfl, rfl⟩) dX11_note_121
          · refine z_ldc E k_X11_81 dX11_note_50 ?_
            refine Zg.perm (ws' := [(m0, .inr (11, [.ref ms, .ref mp, .int (zi pn), .ref mt, .int (zi tyd), .ref mT, .ref mO, .ref mU, .int (zi ld), .long (zl up'_5), .long (zl lw'_6), .long (zl ua'_7), .long (zl la'_8), .long (zl bU), .int (zi bL), .int (zi sv), .int (zi xn), .int (zi yn), .int (zi sp'_1), .int (zi rs'_2), .int (zi pt'_3), .ref mr])), (mt, ai κ 40 TX), (mr, ai κ 21 RW'_4), (ms, ai κ 20 S), (mp, ai κ 80 PA)]) [3, 1, 2, 4, 0] rfl rfl ?_
            exact fin _ _ _ _ rfl (⟨_, _, _, _, _, _, _, _, _, _, _, _, (by exact Or.inr ⟨k, hk1, Or.inr (Or.inl ⟨hntf.mpr ⟨hc_15, hc_30⟩, by omega, rfl, rfl, rfl, rfl⟩)⟩), rfl, rfl⟩) dX11_note_52
      · refine z_if_eq (tgt := 36) E (by omega) dX11_note_18 (by decide) (fun _ => ?_) (fun h => absurd h (by decide))
        refine z_ldc E k_X11_55 dX11_note_36 ?_
        refine Zg.perm (ws' := [(m0, .inr (11, [.ref ms, .ref mp, .int (zi pn), .ref mt, .int (zi tyd), .ref mT, .ref mO, .ref mU, .int (zi ld), .long (zl up'_5), .long (zl lw'_6), .long (zl ua'_7), .long (zl la'_8), .long (zl bU), .int (zi bL), .int (zi sv), .int (zi xn), .int (zi yn), .int (zi sp'_1), .int (zi rs'_2), .int (zi pt'_3), .ref mr])), (mt, ai κ 40 TX), (mr, ai κ 21 RW'_4), (ms, ai κ 20 S), (mp, ai κ 80 PA)]) [4, 2, 3, 0, 1] rfl rfl ?_
        exact fin _ _ _ _ rfl (⟨_, _, _, _, _, _, _, _, _, _, _, _, (by exact Or.inr ⟨k, hk1, Or.inl ⟨fun z => hc_15 (hntf.mp z).1, rfl, rfl, rfl, rfl⟩⟩), rfl, rfl⟩) dX11_note_38
    · have hcR : chRun (RW'_4) (pt'_3 : Int).toNat = tCh TX tyd k := by rw [show (pt'_3 : Int).toNat = k + 1 by omega]; exact tCh_of hk3
      have hov : ¬ (tCh TX tyd k).2.2.1 = 0 := by rw [← hcR]; exact hc_8
      refine z_if_eq (tgt := 36) E (by omega) dX11_note_11 (by decide) (fun _ => ?_) (fun h => absurd h (by decide))
      refine z_ldc E k_X11_55 dX11_note_36 ?_
      refine Zg.perm (ws' := [(m0, .inr (11, [.ref ms, .ref mp, .int (zi pn), .ref mt, .int (zi tyd), .ref mT, .ref mO, .ref mU, .int (zi ld), .long (zl up'_5), .long (zl lw'_6), .long (zl ua'_7), .long (zl la'_8), .long (zl bU), .int (zi bL), .int (zi sv), .int (zi xn), .int (zi yn), .int (zi sp'_1), .int (zi rs'_2), .int (zi pt'_3), .ref mr])), (mt, ai κ 40 TX), (mr, ai κ 21 RW'_4), (ms, ai κ 20 S), (mp, ai κ 80 PA)]) [3, 2, 4, 0, 1] rfl rfl ?_
      exact fin _ _ _ _ rfl (⟨_, _, _, _, _, _, _, _, _, _, _, _, (by exact Or.inr ⟨k, hk1, Or.inl ⟨ntF_over hov, rfl, rfl, rfl, rfl⟩⟩), rfl, rfl⟩) dX11_note_38
  · refine z_if_eq (tgt := 36) E (by omega) dX11_note_4 (by decide) (fun _ => ?_) (fun h => absurd h (by decide))
    refine z_ldc E k_X11_55 dX11_note_36 ?_
    refine Zg.perm (ws' := [(m0, .inr (11, [.ref ms, .ref mp, .int (zi pn), .ref mt, .int (zi tyd), .ref mT, .ref mO, .ref mU, .int (zi ld), .long (zl up), .long (zl lw), .long (zl ua), .long (zl la), .long (zl bU), .int (zi bL), .int (zi sv), .int (zi xn), .int (zi yn), .int (zi sp'_1), .int (zi rs'_2), .int (zi pt'_3), .ref mr])), (mt, ai κ 40 TX), (mr, ai κ 21 RW'_4), (ms, ai κ 20 S), (mp, ai κ 80 PA)]) [2, 3, 4, 0, 1] rfl rfl ?_
    exact fin _ _ _ _ rfl (⟨_, _, _, _, _, _, _, _, _, _, _, _, (by exact Or.inl ⟨⟨_, _, rdF_bad hd_1 hc_1⟩, rfl, rfl, rfl, rfl⟩), rfl, rfl⟩) dX11_note_38
abbrev rm_X11_strike : Room := { frames := 4, cells := 0, slots := 0, locals := 104 }
set_option maxRecDepth 100000 in
theorem c_X11_strike (l : Launch) (D : va_G) (κ : Nat → ClassId) (m0 : Nat) (ms : Nat) (mp : Nat) (pn : Int) (mt : Nat) (tyd : Int) (mT : Nat) (mO : Nat) (mU : Nat) (ld : Int) (up : Int) (lw : Int) (ua : Int) (la : Int) (bU : Int) (bL : Int) (sv : Int) (xn : Int) (yn : Int) (sp : Int) (rs : Int) (pt : Int) (mr : Nat) (S : Int → Int) (PA : Int → Int) (pl : Int) (hr0 : -2147483648 ≤ pl ∧ pl ≤ 2147483647) (hv : vS (S 0) (S 1) (S 2)) (hok : okS S) (hpn : 0 ≤ pn ∧ pn ≤ 4) : ZI l yX11_strike cX11_strike 4 .int rm_X11_strike D κ [.ref m0, .int (zi pl)] [(m0, .inr (11, [.ref ms, .ref mp, .int (zi pn), .ref mt, .int (zi tyd), .ref mT, .ref mO, .ref mU, .int (zi ld), .long (zl up), .long (zl lw), .long (zl ua), .long (zl la), .long (zl bU), .int (zi bL), .int (zi sv), .int (zi xn), .int (zi yn), .int (zi sp), .int (zi rs), .int (zi pt), .ref mr])), (ms, ai κ 20 S), (mp, ai κ 80 PA)] (fun z w => ∃ r : Int, ∃ S' : Int → Int, ∃ PA' : Int → Int, ∃ pn' : Int, (stM S PA pn pl r S' PA' pn') ∧ r = z ∧ [(m0, .inr (11, [.ref ms, .ref mp, .int (zi pn'), .ref mt, .int (zi tyd), .ref mT, .ref mO, .ref mU, .int (zi ld), .long (zl up), .long (zl lw), .long (zl ua), .long (zl la), .long (zl bU), .int (zi bL), .int (zi sv), .int (zi xn), .int (zi yn), .int (zi sp), .int (zi rs), .int (zi pt), .ref mr])), (ms, ai κ 20 S'), (mp, ai κ 80 PA')] = w) := by
  refine ZI.enter (own := RX11) rfl pn_X11_strike (Nat.le_of_ble_eq_true rfl) (fun X E fin => ?_)
  show Zg X [(m0, .inr (11, [.ref ms, .ref mp, .int (zi pn), .ref mt, .int (zi tyd), .ref mT, .ref mO, .ref mU, .int (zi ld), .long (zl up), .long (zl lw), .long (zl ua), .long (zl la), .long (zl bU), .int (zi bL), .int (zi sv), .int (zi xn), .int (zi yn), .int (zi sp), .int (zi rs), .int (zi pt), .ref mr])), (ms, ai κ 20 S), (mp, ai κ 80 PA)] 0 0 0 [(0, .ref m0), (1, .int (zi pl))] []
  have hb2 := hok.1
  refine z_iload_n E 1 rfl rfl dX11_strike_0 ?_
  refine z_if_ge (tgt := 7) E (by omega) dX11_strike_1 (by decide) (fun h_1 => ?_) (fun h_1 => ?_)
  · refine z_aload_n E 0 rfl rfl dX11_strike_7 ?_
    refine z_iload_n E 1 rfl rfl dX11_strike_8 ?_
    refine z_callVi (As := [.int (zi pl)]) (rest := []) (wr := [(mp, ai κ 80 PA)]) E (c_X11_at l D κ m0 ms mp pn mt tyd mT mO mU ld up lw ua la bU bL sv xn yn sp rs pt mr S pl (by omega) (hv) (hok)) m_X11_233 ⟨Nat.le_of_ble_eq_true rfl, Nat.le_of_ble_eq_true rfl⟩ ⟨rfl, rfl⟩ [0, 1] [2] rfl rfl rfl rfl (by decide) rfl rfl rfl rfl (Nat.le_of_ble_eq_true rfl) dX11_strike_9 ⟨Nat.le_of_ble_eq_true rfl, Nat.le_of_ble_eq_true rfl⟩ (fun z9 w1 hq => ?_)
    obtain ⟨r_1, ha_9, rfl, rfl⟩ := hq
    refine z_istore_n (lv' := [(2, .int (zi r_1)), (0, .ref m0), (1, .int (zi pl))]) E dX11_strike_12 rfl (Nat.le_of_ble_eq_true rfl) rfl ?_
    have hab := atP_bd ha_9 (by omega)
    refine z_iload_n E 0 rfl rfl dX11_strike_13 ?_
    refine z_if_ge (tgt := 20) E (by omega) dX11_strike_14 (by decide) (fun h_14 => ?_) (fun h_14 => ?_)
    · have hat := atP_yes ha_9 (by omega)
      refine z_aload_n E 1 rfl rfl dX11_strike_20 ?_
      refine z_callVv (As := []) (rest := []) (wr := []) E (c_X11_changes l D κ m0 ms mp pn mt tyd mT mO mU ld up lw ua la bU bL sv xn yn sp rs pt mr S PA (by omega)) m_X11_56 ⟨Nat.le_of_ble_eq_true rfl, Nat.le_of_ble_eq_true rfl⟩ ⟨rfl, rfl⟩ [1, 2, 0] [] rfl rfl rfl rfl (by decide) rfl rfl rfl rfl (Nat.le_of_ble_eq_true rfl) dX11_strike_21 ⟨Nat.le_of_ble_eq_true rfl, Nat.le_of_ble_eq_true rfl⟩ (fun  w1 hq => ?_)
      obtain ⟨pn'_2, PA'_3, hc_21, rfl⟩ := hq
      refine z_aload_n E 1 rfl rfl dX11_strike_24 ?_
      refine z_get E f_X11_7 0 rfl rfl dX11_strike_25 ?_
      refine z_iconst E dX11_strike_28 ?_
      refine z_dup2 E rfl rfl dX11_strike_29 ?_
      refine z_iald E 1 rfl (Nat.le_of_ble_eq_true rfl) (by omega) (by omega) dX11_strike_30 ?_
      refine z_iconst E dX11_strike_31 ?_
      refine z_isub E dX11_strike_32 ?_
      refine z_iast (ws' := [(m0, .inr (11, [.ref ms, .ref mp, .int (zi pn'_2), .ref mt, .int (zi tyd), .ref mT, .ref mO, .ref mU, .int (zi ld), .long (zl up), .long (zl lw), .long (zl ua), .long (zl la), .long (zl bU), .int (zi bL), .int (zi sv), .int (zi xn), .int (zi yn), .int (zi sp), .int (zi rs), .int (zi pt), .ref mr])), (ms, ai κ 20 (zu S 3 ((S 3) - 1))), (mp, ai κ 80 PA'_3)]) E 1 rfl (Nat.le_of_ble_eq_true rfl) (by omega) (by omega) rfl dX11_strike_33 ?_
      refine z_iconst E dX11_strike_34 ?_
      refine z_iconst E dX11_strike_35 ?_
      refine z_iload_n E 0 rfl rfl dX11_strike_36 ?_
      refine z_imul E dX11_strike_37 ?_
      refine z_iadd E dX11_strike_38 ?_
      refine z_istore_n (lv' := [(3, .int (zi (4 + (2 * r_1)))), (2, .int (zi r_1)), (0, .ref m0), (1, .int (zi pl))]) E dX11_strike_39 rfl (Nat.le_of_ble_eq_true rfl) rfl ?_
      have lp_40 : ∀ (n_40 : Nat) (j : Int) (P : Int → Int), (4 + 2 * r_1 ≤ j ∧ j ≤ 4 + 2 * (S 3 - 1)) → (stI S r_1 j P) → ((4 + 2 * (S 3 - 1)) - j) < (n_40 : Int) → Zg X [(m0, .inr (11, [.ref ms, .ref mp, .int (zi pn'_2), .ref mt, .int (zi tyd), .ref mT, .ref mO, .ref mU, .int (zi ld), .long (zl up), .long (zl lw), .long (zl ua), .long (zl la), .long (zl bU), .int (zi bL), .int (zi sv), .int (zi xn), .int (zi yn), .int (zi sp), .int (zi rs), .int (zi pt), .ref mr])), (mp, ai κ 80 PA'_3), (ms, ai κ 20 P)] 0 0 40 [(0, .ref m0), (1, .int (zi pl)), (2, .int (zi r_1)), (3, .int (zi j))] [] := by
        intro n_40
        induction n_40 with
        | zero =>
          intro j P i0 i1 hmu
          exact absurd hmu (by omega)
        | succ n_40 ih_40 =>
          intro j P i0 i1 hmu_40
          have h3 := i1.2.2.2.1
          refine z_iload_n E 3 rfl rfl dX11_strike_40 ?_
          refine z_iconst E dX11_strike_41 ?_
          refine z_iconst E dX11_strike_42 ?_
          refine z_aload_n E 0 rfl rfl dX11_strike_43 ?_
          refine z_get E f_X11_7 0 rfl rfl dX11_strike_44 ?_
          refine z_iconst E dX11_strike_47 ?_
          refine z_iald E 2 rfl (Nat.le_of_ble_eq_true rfl) (by omega) (by omega) dX11_strike_48 ?_
          refine z_imul E dX11_strike_49 ?_
          refine z_iadd E dX11_strike_50 ?_
          refine z_ic_ge (tgt := 74) E (by omega) (by omega) dX11_strike_51 (by decide) (fun h_51 => ?_) (fun h_51 => ?_)
          · refine z_aload_n E 0 rfl rfl dX11_strike_74 ?_
            refine z_get E f_X11_7 0 rfl rfl dX11_strike_75 ?_
            refine z_iconst E dX11_strike_78 ?_
            refine z_iald E 2 rfl (Nat.le_of_ble_eq_true rfl) (by omega) (by omega) dX11_strike_79 ?_
            refine Zg.perm (ws' := [(m0, .inr (11, [.ref ms, .ref mp, .int (zi pn'_2), .ref mt, .int (zi tyd), .ref mT, .ref mO, .ref mU, .int (zi ld), .long (zl up), .long (zl lw), .long (zl ua), .long (zl la), .long (zl bU), .int (zi bL), .int (zi sv), .int (zi xn), .int (zi yn), .int (zi sp), .int (zi rs), .int (zi pt), .ref mr])), (ms, ai κ 20 P), (mp, ai κ 80 PA'_3)]) [0, 2, 1] rfl rfl ?_
            exact fin _ _ _ _ rfl (⟨_, _, _, _, (by exact Or.inr (Or.inr ⟨by omega, ⟨_, hat.1, hat.2, stI_end i1 (by omega)⟩, by omega, hc_21⟩)), rfl, rfl⟩) dX11_strike_80
          · refine z_aload_n E 0 rfl rfl dX11_strike_54 ?_
            refine z_get E f_X11_7 0 rfl rfl dX11_strike_55 ?_
            refine z_iload_n E 3 rfl rfl dX11_strike_58 ?_
            refine z_aload_n E 0 rfl rfl dX11_strike_59 ?_
            refine z_get E f_X11_7 0 rfl rfl dX11_strike_60 ?_
            refine z_iload_n E 3 rfl rfl dX11_strike_63 ?_
            refine z_iconst E dX11_strike_64 ?_
            refine z_iadd E dX11_strike_65 ?_
            refine z_iald E 2 rfl (Nat.le_of_ble_eq_true rfl) (by omega) (by omega) dX11_strike_66 ?_
            refine z_iast (ws' := [(m0, .inr (11, [.ref ms, .ref mp, .int (zi pn'_2), .ref mt, .int (zi tyd), .ref mT, .ref mO, .ref mU, .int (zi ld), .long (zl up), .long (zl lw), .long (zl ua), .long (zl la), .long (zl bU), .int (zi bL), .int (zi sv), .int (zi xn), .int (zi yn), .int (zi sp), .int (zi rs), .int (zi pt), .ref mr])), (mp, ai κ 80 PA'_3), (ms, ai κ 20 (zu P j (P (j + 2))))]) E 2 rfl (Nat.le_of_ble_eq_true rfl) (by omega) (by omega) rfl dX11_strike_67 ?_
            refine z_iinc (lv' := [(3, .int (zi (j + 1))), (0, .ref m0), (1, .int (zi pl)), (2, .int (zi r_1))]) E 3 rfl dX11_strike_68 (Nat.le_of_ble_eq_true rfl) rfl ?_
            refine z_goto (tgt := 40) E dX11_strike_71 (by decide) ?_
            refine Zg.sub (lv' := [(0, .ref m0), (1, .int (zi pl)), (2, .int (zi r_1)), (3, .int (zi (j + 1)))]) [1, 2, 3, 0] rfl ?_
            exact ih_40 (j + 1) (zu P j (P (j + 2))) (by omega) (stI_s i1 (by omega) i0.1) (by omega)
      refine Zg.sub (lv' := [(0, .ref m0), (1, .int (zi pl)), (2, .int (zi r_1)), (3, .int (zi (4 + (2 * r_1))))]) [2, 3, 1, 0] rfl ?_
      refine Zg.perm (ws' := [(m0, .inr (11, [.ref ms, .ref mp, .int (zi pn'_2), .ref mt, .int (zi tyd), .ref mT, .ref mO, .ref mU, .int (zi ld), .long (zl up), .long (zl lw), .long (zl ua), .long (zl la), .long (zl bU), .int (zi bL), .int (zi sv), .int (zi xn), .int (zi yn), .int (zi sp), .int (zi rs), .int (zi pt), .ref mr])), (mp, ai κ 80 PA'_3), (ms, ai κ 20 (zu S 3 ((S 3) - 1)))]) [0, 2, 1] rfl rfl ?_
      exact lp_40 (((4 + 2 * (S 3 - 1)) - (4 + (2 * r_1)) : Int).toNat + 1) (4 + (2 * r_1)) (zu S 3 ((S 3) - 1)) (by omega) (stI_0) (by omega)
    · refine z_ldc E k_X11_55 dX11_strike_17 ?_
      refine Zg.perm (ws' := [(m0, .inr (11, [.ref ms, .ref mp, .int (zi pn), .ref mt, .int (zi tyd), .ref mT, .ref mO, .ref mU, .int (zi ld), .long (zl up), .long (zl lw), .long (zl ua), .long (zl la), .long (zl bU), .int (zi bL), .int (zi sv), .int (zi xn), .int (zi yn), .int (zi sp), .int (zi rs), .int (zi pt), .ref mr])), (ms, ai κ 20 S), (mp, ai κ 80 PA)]) [1, 2, 0] rfl rfl ?_
      exact fin _ _ _ _ rfl (⟨_, _, _, _, (by exact Or.inr (Or.inl ⟨by omega, atP_no ha_9 (by omega), rfl, rfl, rfl, rfl⟩)), rfl, rfl⟩) dX11_strike_19
  · refine z_ldc E k_X11_50 dX11_strike_4 ?_
    exact fin _ _ _ _ rfl (⟨_, _, _, _, (by exact Or.inl ⟨h_1, rfl, rfl, rfl, rfl⟩), rfl, rfl⟩) dX11_strike_6
abbrev rm_X11_strikeAll : Room := { frames := 1, cells := 0, slots := 0, locals := 21 }
set_option maxRecDepth 100000 in
theorem c_X11_strikeAll (l : Launch) (D : va_G) (κ : Nat → ClassId) (m0 : Nat) (ms : Nat) (mp : Nat) (pn : Int) (mt : Nat) (tyd : Int) (mT : Nat) (mO : Nat) (mU : Nat) (ld : Int) (up : Int) (lw : Int) (ua : Int) (la : Int) (bU : Int) (bL : Int) (sv : Int) (xn : Int) (yn : Int) (sp : Int) (rs : Int) (pt : Int) (mr : Nat) (S : Int → Int) (PA : Int → Int) (hok : okS S) (hpn : 0 ≤ pn ∧ pn ≤ 4) : ZI l yX11_strikeAll cX11_strikeAll 2 .int rm_X11_strikeAll D κ [.ref m0] [(m0, .inr (11, [.ref ms, .ref mp, .int (zi pn), .ref mt, .int (zi tyd), .ref mT, .ref mO, .ref mU, .int (zi ld), .long (zl up), .long (zl lw), .long (zl ua), .long (zl la), .long (zl bU), .int (zi bL), .int (zi sv), .int (zi xn), .int (zi yn), .int (zi sp), .int (zi rs), .int (zi pt), .ref mr])), (ms, ai κ 20 S), (mp, ai κ 80 PA)] (fun z w => ∃ r : Int, ∃ PA' : Int → Int, ∃ pn' : Int, (r = S 3 ∧ chgP pn S PA pn' PA') ∧ r = z ∧ [(m0, .inr (11, [.ref ms, .ref mp, .int (zi pn'), .ref mt, .int (zi tyd), .ref mT, .ref mO, .ref mU, .int (zi ld), .long (zl up), .long (zl lw), .long (zl ua), .long (zl la), .long (zl bU), .int (zi bL), .int (zi sv), .int (zi xn), .int (zi yn), .int (zi sp), .int (zi rs), .int (zi pt), .ref mr])), (ms, ai κ 20 (zu S 3 0)), (mp, ai κ 80 PA')] = w) := by
  refine ZI.enter (own := RX11) rfl pn_X11_strikeAll (Nat.le_of_ble_eq_true rfl) (fun X E fin => ?_)
  show Zg X [(m0, .inr (11, [.ref ms, .ref mp, .int (zi pn), .ref mt, .int (zi tyd), .ref mT, .ref mO, .ref mU, .int (zi ld), .long (zl up), .long (zl lw), .long (zl ua), .long (zl la), .long (zl bU), .int (zi bL), .int (zi sv), .int (zi xn), .int (zi yn), .int (zi sp), .int (zi rs), .int (zi pt), .ref mr])), (ms, ai κ 20 S), (mp, ai κ 80 PA)] 0 0 0 [(0, .ref m0)] []
  refine z_aload_n E 0 rfl rfl dX11_strikeAll_0 ?_
  refine z_callVv (As := []) (rest := []) (wr := []) E (c_X11_changes l D κ m0 ms mp pn mt tyd mT mO mU ld up lw ua la bU bL sv xn yn sp rs pt mr S PA (by omega)) m_X11_56 ⟨Nat.le_of_ble_eq_true rfl, Nat.le_of_ble_eq_true rfl⟩ ⟨rfl, rfl⟩ [0, 1, 2] [] rfl rfl rfl rfl (by decide) rfl rfl rfl rfl (Nat.le_of_ble_eq_true rfl) dX11_strikeAll_1 ⟨Nat.le_of_ble_eq_true rfl, Nat.le_of_ble_eq_true rfl⟩ (fun  w1 hq => ?_)
  obtain ⟨pn'_1, PA'_2, hc_1, rfl⟩ := hq
  refine z_aload_n E 0 rfl rfl dX11_strikeAll_4 ?_
  refine z_get E f_X11_7 0 rfl rfl dX11_strikeAll_5 ?_
  refine z_iconst E dX11_strikeAll_8 ?_
  refine z_iald E 1 rfl (Nat.le_of_ble_eq_true rfl) (by omega) (by omega) dX11_strikeAll_9 ?_
  refine z_istore_n (lv' := [(1, .int (zi (S 3))), (0, .ref m0)]) E dX11_strikeAll_10 rfl (Nat.le_of_ble_eq_true rfl) rfl ?_
  refine z_aload_n E 1 rfl rfl dX11_strikeAll_11 ?_
  refine z_get E f_X11_7 0 rfl rfl dX11_strikeAll_12 ?_
  refine z_iconst E dX11_strikeAll_15 ?_
  refine z_iconst E dX11_strikeAll_16 ?_
  refine z_iast (ws' := [(m0, .inr (11, [.ref ms, .ref mp, .int (zi pn'_1), .ref mt, .int (zi tyd), .ref mT, .ref mO, .ref mU, .int (zi ld), .long (zl up), .long (zl lw), .long (zl ua), .long (zl la), .long (zl bU), .int (zi bL), .int (zi sv), .int (zi xn), .int (zi yn), .int (zi sp), .int (zi rs), .int (zi pt), .ref mr])), (ms, ai κ 20 (zu S 3 0)), (mp, ai κ 80 PA'_2)]) E 1 rfl (Nat.le_of_ble_eq_true rfl) (by omega) (by omega) rfl dX11_strikeAll_17 ?_
  refine z_iload_n E 0 rfl rfl dX11_strikeAll_18 ?_
  exact fin _ _ _ _ rfl (⟨_, _, _, (by exact ⟨rfl, hc_1⟩), rfl, rfl⟩) dX11_strikeAll_19
abbrev rm_X11_isConvergent : Room := { frames := 3, cells := 0, slots := 0, locals := 85 }
set_option maxRecDepth 100000 in
theorem c_X11_isConvergent (l : Launch) (D : va_G) (κ : Nat → ClassId) (m0 : Nat) (ms : Nat) (mp : Nat) (pn : Int) (mt : Nat) (tyd : Int) (mT : Nat) (mO : Nat) (mU : Nat) (ld : Int) (up : Int) (lw : Int) (ua : Int) (la : Int) (bU : Int) (bL : Int) (sv : Int) (xn : Int) (yn : Int) (sp : Int) (rs : Int) (pt : Int) (mr : Nat) (S : Int → Int) (T : Int → Int) (OV : Int → Int) (UN : Int → Int) (a : Int) (b : Int) (hv : vS (S 0) (S 1) (S 2)) (hab : okF a b) : ZI l yX11_isConvergent cX11_isConvergent 6 .boolean rm_X11_isConvergent D κ [.ref m0, .int (zi a), .int (zi b)] [(m0, .inr (11, [.ref ms, .ref mp, .int (zi pn), .ref mt, .int (zi tyd), .ref mT, .ref mO, .ref mU, .int (zi ld), .long (zl up), .long (zl lw), .long (zl ua), .long (zl la), .long (zl bU), .int (zi bL), .int (zi sv), .int (zi xn), .int (zi yn), .int (zi sp), .int (zi rs), .int (zi pt), .ref mr])), (ms, ai κ 20 S), (mT, ai κ 401 T), (mO, al κ 402 OV), (mU, al κ 402 UN)] (fun z w => ∃ up' : Int, ∃ lw' : Int, ∃ ua' : Int, ∃ la' : Int, ∃ T' : Int → Int, ∃ OV' : Int → Int, ∃ UN' : Int → Int, ((1 = z ∧ (icP (tm (S 0) (S 1) (S 2)) a b 30)) ∨ (0 = z ∧ ¬ (icP (tm (S 0) (S 1) (S 2)) a b 30))) ∧ [(m0, .inr (11, [.ref ms, .ref mp, .int (zi pn), .ref mt, .int (zi tyd), .ref mT, .ref mO, .ref mU, .int (zi ld), .long (zl up'), .long (zl lw'), .long (zl ua'), .long (zl la'), .long (zl bU), .int (zi bL), .int (zi sv), .int (zi xn), .int (zi yn), .int (zi sp), .int (zi rs), .int (zi pt), .ref mr])), (ms, ai κ 20 S), (mT, ai κ 401 T'), (mO, al κ 402 OV'), (mU, al κ 402 UN')] = w) := by
  refine ZI.enter (own := RX11) rfl pn_X11_isConvergent (Nat.le_of_ble_eq_true rfl) (fun X E fin => ?_)
  show Zg X [(m0, .inr (11, [.ref ms, .ref mp, .int (zi pn), .ref mt, .int (zi tyd), .ref mT, .ref mO, .ref mU, .int (zi ld), .long (zl up), .long (zl lw), .long (zl ua), .long (zl la), .long (zl bU), .int (zi bL), .int (zi sv), .int (zi xn), .int (zi yn), .int (zi sp), .int (zi rs), .int (zi pt), .ref mr])), (ms, ai κ 20 S), (mT, ai κ 401 T), (mO, al κ 402 OV), (mU, al κ 402 UN)] 0 0 0 [(0, .ref m0), (1, .int (zi a)), (2, .int (zi b))] []
  have hab2 := hab
  unfold okF at hab2
  have hfP := tm_fP hv 401
  refine z_aload_n E 0 rfl rfl dX11_isConvergent_0 ?_
  refine z_callVv (As := []) (rest := []) (wr := []) E (c_X11_lays l D κ m0 ms mp pn mt tyd mT mO mU ld up lw ua la bU bL sv xn yn sp rs pt mr S T OV UN (hv)) m_X11_69 ⟨Nat.le_of_ble_eq_true rfl, Nat.le_of_ble_eq_true rfl⟩ ⟨rfl, rfl⟩ [0, 1, 2, 3, 4] [] rfl rfl rfl rfl (by decide) rfl rfl rfl rfl (Nat.le_of_ble_eq_true rfl) dX11_isConvergent_1 ⟨Nat.le_of_ble_eq_true rfl, Nat.le_of_ble_eq_true rfl⟩ (fun  w1 hq => ?_)
  obtain ⟨T'_1, OV'_2, UN'_3, hT_1, hO_1, rfl⟩ := hq
  refine z_aload_n E 0 rfl rfl dX11_isConvergent_4 ?_
  refine z_callVv (As := []) (rest := []) (wr := [(ms, ai κ 20 S), (mT, ai κ 401 T'_1), (mO, al κ 402 OV'_2), (mU, al κ 402 UN'_3)]) E (c_X11_begins l D κ m0 ms mp pn mt tyd mT mO mU ld up lw ua la bU bL sv xn yn sp rs pt mr ) m_X11_113 ⟨Nat.le_of_ble_eq_true rfl, Nat.le_of_ble_eq_true rfl⟩ ⟨rfl, rfl⟩ [0] [1, 2, 3, 4] rfl rfl rfl rfl (by decide) rfl rfl rfl rfl (Nat.le_of_ble_eq_true rfl) dX11_isConvergent_5 ⟨Nat.le_of_ble_eq_true rfl, Nat.le_of_ble_eq_true rfl⟩ (fun  w1 hq => ?_)
  obtain rfl := hq
  refine z_iconst E dX11_isConvergent_8 ?_
  refine z_istore_n (lv' := [(3, .int (zi 0)), (0, .ref m0), (1, .int (zi a)), (2, .int (zi b))]) E dX11_isConvergent_9 rfl (Nat.le_of_ble_eq_true rfl) rfl ?_
  refine z_iconst E dX11_isConvergent_10 ?_
  refine z_istore (lv' := [(4, .int (zi 0)), (3, .int (zi 0)), (0, .ref m0), (1, .int (zi a)), (2, .int (zi b))]) E dX11_isConvergent_11 (Nat.le_of_ble_eq_true rfl) rfl ?_
  have lp_13 : ∀ (n_13 : Nat) (is : Int) (k : Int) (x : Int) (y : Int) (e : Int) (g : Int), (0 ≤ k ∧ k ≤ 30) → (icI (tm (S 0) (S 1) (S 2)) a b k is x y e g) → (30 - k) < (n_13 : Int) → Zg X [(m0, .inr (11, [.ref ms, .ref mp, .int (zi pn), .ref mt, .int (zi tyd), .ref mT, .ref mO, .ref mU, .int (zi ld), .long (zl x), .long (zl y), .long (zl e), .long (zl g), .long (zl bU), .int (zi bL), .int (zi sv), .int (zi xn), .int (zi yn), .int (zi sp), .int (zi rs), .int (zi pt), .ref mr])), (mO, al κ 402 OV'_2), (mT, ai κ 401 T'_1), (mU, al κ 402 UN'_3), (ms, ai κ 20 S)] 0 0 13 [(0, .ref m0), (1, .int (zi a)), (2, .int (zi b)), (3, .int (zi is)), (4, .int (zi k))] [] := by
    intro n_13
    induction n_13 with
    | zero =>
      intro is k x y e g i0 i1 hmu
      exact absurd hmu (by omega)
    | succ n_13 ih_13 =>
      intro is k x y e g i0 i1 hmu_13
      refine z_iload E 4 rfl dX11_isConvergent_13 ?_
      refine z_bipush E dX11_isConvergent_15 (by decide) ?_
      refine z_ic_ge (tgt := 93) E (by omega) (by omega) dX11_isConvergent_17 (by decide) (fun h_17 => ?_) (fun h_17 => ?_)
      · have hib2 := icI_bd i1
        refine z_iload_n E 3 rfl rfl dX11_isConvergent_93 ?_
        refine Zg.perm (ws' := [(m0, .inr (11, [.ref ms, .ref mp, .int (zi pn), .ref mt, .int (zi tyd), .ref mT, .ref mO, .ref mU, .int (zi ld), .long (zl x), .long (zl y), .long (zl e), .long (zl g), .long (zl bU), .int (zi bL), .int (zi sv), .int (zi xn), .int (zi yn), .int (zi sp), .int (zi rs), .int (zi pt), .ref mr])), (ms, ai κ 20 S), (mT, ai κ 401 T'_1), (mO, al κ 402 OV'_2), (mU, al κ 402 UN'_3)]) [0, 4, 2, 1, 3] rfl rfl ?_
        exact fin _ _ _ _ (nar_bool (by omega)) (⟨_, _, _, _, _, _, _, icI_end i1 (by omega), rfl⟩) dX11_isConvergent_94
      · have hib := icI_bd i1
        refine z_aload_n E 0 rfl rfl dX11_isConvergent_20 ?_
        refine z_get E f_X11_97 0 rfl rfl dX11_isConvergent_21 ?_
        refine z_iload_n E 2 rfl rfl dX11_isConvergent_24 ?_
        refine z_i2l E (by omega) dX11_isConvergent_25 ?_
        refine z_lc_gt (tgt := 49) E (by omega) (by omega) dX11_isConvergent_26 dX11_isConvergent_27 (by decide) (fun h_26 => ?_) (fun h_26 => ?_)
        · refine z_iconst E dX11_isConvergent_49 ?_
          refine z_istore (lv' := [(5, .int (zi 0)), (0, .ref m0), (1, .int (zi a)), (2, .int (zi b)), (3, .int (zi is)), (4, .int (zi k))]) E dX11_isConvergent_50 (Nat.le_of_ble_eq_true rfl) rfl ?_
          refine z_iload_n E 4 rfl rfl dX11_isConvergent_52 ?_
          refine z_if_ne (tgt := 81) E (by omega) dX11_isConvergent_53 (by decide) (fun h_53 => ?_) (fun h_53 => ?_)
          · refine z_iconst E dX11_isConvergent_81 ?_
            refine z_goto (tgt := 86) E dX11_isConvergent_82 (by decide) ?_
            refine z_istore_n (lv' := [(3, .int (zi 1)), (5, .int (zi 0)), (0, .ref m0), (1, .int (zi a)), (2, .int (zi b)), (4, .int (zi k))]) E dX11_isConvergent_86 rfl (Nat.le_of_ble_eq_true rfl) rfl ?_
            refine z_iinc (lv' := [(4, .int (zi (k + 1))), (3, .int (zi 1)), (5, .int (zi 0)), (0, .ref m0), (1, .int (zi a)), (2, .int (zi b))]) E 5 rfl dX11_isConvergent_87 (Nat.le_of_ble_eq_true rfl) rfl ?_
            refine z_goto (tgt := 13) E dX11_isConvergent_90 (by decide) ?_
            refine Zg.sub (lv' := [(0, .ref m0), (1, .int (zi a)), (2, .int (zi b)), (3, .int (zi 1)), (4, .int (zi (k + 1)))]) [3, 4, 5, 1, 0] rfl ?_
            exact ih_13 1 (k + 1) x y e g (by omega) ((icI_n hfP i1 i0.1 (by omega) (by omega) (by omega)).1 (by omega)) (by omega)
          · refine z_iload E 0 rfl dX11_isConvergent_56 ?_
            refine z_if_eq (tgt := 85) E (by omega) dX11_isConvergent_58 (by decide) (fun _ => ?_) (fun h => absurd h (by decide))
            refine z_iconst E dX11_isConvergent_85 ?_
            refine z_istore_n (lv' := [(3, .int (zi 0)), (5, .int (zi 0)), (0, .ref m0), (1, .int (zi a)), (2, .int (zi b)), (4, .int (zi k))]) E dX11_isConvergent_86 rfl (Nat.le_of_ble_eq_true rfl) rfl ?_
            refine z_iinc (lv' := [(4, .int (zi (k + 1))), (3, .int (zi 0)), (5, .int (zi 0)), (0, .ref m0), (1, .int (zi a)), (2, .int (zi b))]) E 5 rfl dX11_isConvergent_87 (Nat.le_of_ble_eq_true rfl) rfl ?_
            refine z_goto (tgt := 13) E dX11_isConvergent_90 (by decide) ?_
            refine Zg.sub (lv' := [(0, .ref m0), (1, .int (zi a)), (2, .int (zi b)), (3, .int (zi 0)), (4, .int (zi (k + 1)))]) [3, 4, 5, 1, 0] rfl ?_
            exact ih_13 0 (k + 1) x y e g (by omega) ((icI_n hfP i1 i0.1 (by omega) (by omega) (by omega)).2 (by omega)) (by omega)
        · have hgr := icI_get i1 (by omega)
          have hgb := chRun_nn hfP i0.1 (by omega) hgr
          rw [← hT_1 k (by omega) (by omega)] at hgb
          refine z_aload_n E 0 rfl rfl dX11_isConvergent_30 ?_
          refine z_aload_n E 0 rfl rfl dX11_isConvergent_31 ?_
          refine z_get E f_X11_19 0 rfl rfl dX11_isConvergent_32 ?_
          refine z_iload E 4 rfl dX11_isConvergent_35 ?_
          refine z_iald E 2 rfl (Nat.le_of_ble_eq_true rfl) (by omega) (by omega) dX11_isConvergent_37 ?_
          refine z_i2l E (by omega) dX11_isConvergent_38 ?_
          refine z_callVi (As := [.long (zl (T'_1 k))]) (rest := []) (wr := [(mO, al κ 402 OV'_2), (mT, ai κ 401 T'_1), (mU, al κ 402 UN'_3), (ms, ai κ 20 S)]) E (c_X11_goesOn l D κ m0 ms mp pn mt tyd mT mO mU ld x y e g bU bL sv xn yn sp rs pt mr (T'_1 k) (hgb.2.2.2.2.2.1) (hgb.1) (hgb.2.1) (hgb.2.2.1) (hgb.2.2.2.1) (hgb.2.2.2.2.1)) m_X11_116 ⟨Nat.le_of_ble_eq_true rfl, Nat.le_of_ble_eq_true rfl⟩ ⟨rfl, rfl⟩ [0] [1, 2, 3, 4] rfl rfl rfl rfl (by decide) rfl rfl rfl rfl (Nat.le_of_ble_eq_true rfl) dX11_isConvergent_39 ⟨Nat.le_of_ble_eq_true rfl, Nat.le_of_ble_eq_true rfl⟩ (fun z39 w1 hq => ?_)
          obtain ⟨up'_4, lw'_5, ua'_6, la'_7, o'_8, ⟨rfl, hc_39⟩ | ⟨rfl, hc_39⟩, hh_39, rfl⟩ := hq
          · refine z_if_eq (tgt := 49) E (by omega) dX11_isConvergent_42 (by decide) (fun h => absurd h (by decide)) (fun _ => ?_)
            refine z_iconst E dX11_isConvergent_45 ?_
            refine z_goto (tgt := 50) E dX11_isConvergent_46 (by decide) ?_
            have hcn := chRun_s i0.1 hgr (hT_1 k (by omega) (by omega)) hh_39
            have hcb := chRun_bd hcn
            rw [hc_39] at hcn
            refine z_istore (lv' := [(5, .int (zi 1)), (0, .ref m0), (1, .int (zi a)), (2, .int (zi b)), (3, .int (zi is)), (4, .int (zi k))]) E dX11_isConvergent_50 (Nat.le_of_ble_eq_true rfl) rfl ?_
            refine z_iload_n E 4 rfl rfl dX11_isConvergent_52 ?_
            refine z_if_ne (tgt := 81) E (by omega) dX11_isConvergent_53 (by decide) (fun h_53 => ?_) (fun h_53 => ?_)
            · refine z_iconst E dX11_isConvergent_81 ?_
              refine z_goto (tgt := 86) E dX11_isConvergent_82 (by decide) ?_
              refine z_istore_n (lv' := [(3, .int (zi 1)), (5, .int (zi 1)), (0, .ref m0), (1, .int (zi a)), (2, .int (zi b)), (4, .int (zi k))]) E dX11_isConvergent_86 rfl (Nat.le_of_ble_eq_true rfl) rfl ?_
              refine z_iinc (lv' := [(4, .int (zi (k + 1))), (3, .int (zi 1)), (5, .int (zi 1)), (0, .ref m0), (1, .int (zi a)), (2, .int (zi b))]) E 5 rfl dX11_isConvergent_87 (Nat.le_of_ble_eq_true rfl) rfl ?_
              refine z_goto (tgt := 13) E dX11_isConvergent_90 (by decide) ?_
              refine Zg.sub (lv' := [(0, .ref m0), (1, .int (zi a)), (2, .int (zi b)), (3, .int (zi 1)), (4, .int (zi (k + 1)))]) [3, 4, 5, 1, 0] rfl ?_
              refine Zg.perm (ws' := [(m0, .inr (11, [.ref ms, .ref mp, .int (zi pn), .ref mt, .int (zi tyd), .ref mT, .ref mO, .ref mU, .int (zi ld), .long (zl up'_4), .long (zl lw'_5), .long (zl ua'_6), .long (zl la'_7), .long (zl bU), .int (zi bL), .int (zi sv), .int (zi xn), .int (zi yn), .int (zi sp), .int (zi rs), .int (zi pt), .ref mr])), (mO, al κ 402 OV'_2), (mT, ai κ 401 T'_1), (mU, al κ 402 UN'_3), (ms, ai κ 20 S)]) [4, 0, 1, 2, 3] rfl rfl ?_
              exact ih_13 1 (k + 1) up'_4 lw'_5 ua'_6 la'_7 (by omega) ((icI_s i1 i0.1 hcn).1 (Or.inl (by omega))) (by omega)
            · refine z_iload E 0 rfl dX11_isConvergent_56 ?_
              refine z_if_eq (tgt := 85) E (by omega) dX11_isConvergent_58 (by decide) (fun h => absurd h (by decide)) (fun _ => ?_)
              refine z_aload_n E 1 rfl rfl dX11_isConvergent_61 ?_
              refine z_get E f_X11_93 4 rfl rfl dX11_isConvergent_62 ?_
              refine z_iload_n E 2 rfl rfl dX11_isConvergent_65 ?_
              refine z_i2l E (by omega) dX11_isConvergent_66 ?_
              refine z_lc_ne (tgt := 85) E (by omega) (by omega) dX11_isConvergent_67 dX11_isConvergent_68 (by decide) (fun h_67 => ?_) (fun h_67 => ?_)
              · refine z_iconst E dX11_isConvergent_85 ?_
                refine z_istore_n (lv' := [(3, .int (zi 0)), (5, .int (zi 1)), (0, .ref m0), (1, .int (zi a)), (2, .int (zi b)), (4, .int (zi k))]) E dX11_isConvergent_86 rfl (Nat.le_of_ble_eq_true rfl) rfl ?_
                refine z_iinc (lv' := [(4, .int (zi (k + 1))), (3, .int (zi 0)), (5, .int (zi 1)), (0, .ref m0), (1, .int (zi a)), (2, .int (zi b))]) E 5 rfl dX11_isConvergent_87 (Nat.le_of_ble_eq_true rfl) rfl ?_
                refine z_goto (tgt := 13) E dX11_isConvergent_90 (by decide) ?_
                refine Zg.sub (lv' := [(0, .ref m0), (1, .int (zi a)), (2, .int (zi b)), (3, .int (zi 0)), (4, .int (zi (k + 1)))]) [3, 4, 5, 1, 0] rfl ?_
                refine Zg.perm (ws' := [(m0, .inr (11, [.ref ms, .ref mp, .int (zi pn), .ref mt, .int (zi tyd), .ref mT, .ref mO, .ref mU, .int (zi ld), .long (zl up'_4), .long (zl lw'_5), .long (zl ua'_6), .long (zl la'_7), .long (zl bU), .int (zi bL), .int (zi sv), .int (zi xn), .int (zi yn), .int (zi sp), .int (zi rs), .int (zi pt), .ref mr])), (mO, al κ 402 OV'_2), (mT, ai κ 401 T'_1), (mU, al κ 402 UN'_3), (ms, ai κ 20 S)]) [4, 0, 1, 2, 3] rfl rfl ?_
                exact ih_13 0 (k + 1) up'_4 lw'_5 ua'_6 la'_7 (by omega) ((icI_s i1 i0.1 hcn).2 ⟨by omega, fun z => by have z1 := z.1; have z2 := z.2; omega⟩) (by omega)
              · refine z_aload_n E 1 rfl rfl dX11_isConvergent_71 ?_
                refine z_get E f_X11_97 4 rfl rfl dX11_isConvergent_72 ?_
                refine z_iload_n E 3 rfl rfl dX11_isConvergent_75 ?_
                refine z_i2l E (by omega) dX11_isConvergent_76 ?_
                refine z_lc_ne (tgt := 85) E (by omega) (by omega) dX11_isConvergent_77 dX11_isConvergent_78 (by decide) (fun h_77 => ?_) (fun h_77 => ?_)
                · refine z_iconst E dX11_isConvergent_85 ?_
                  refine z_istore_n (lv' := [(3, .int (zi 0)), (5, .int (zi 1)), (0, .ref m0), (1, .int (zi a)), (2, .int (zi b)), (4, .int (zi k))]) E dX11_isConvergent_86 rfl (Nat.le_of_ble_eq_true rfl) rfl ?_
                  refine z_iinc (lv' := [(4, .int (zi (k + 1))), (3, .int (zi 0)), (5, .int (zi 1)), (0, .ref m0), (1, .int (zi a)), (2, .int (zi b))]) E 5 rfl dX11_isConvergent_87 (Nat.le_of_ble_eq_true rfl) rfl ?_
                  refine z_goto (tgt := 13) E dX11_isConvergent_90 (by decide) ?_
                  refine Zg.sub (lv' := [(0, .ref m0), (1, .int (zi a)), (2, .int (zi b)), (3, .int (zi 0)), (4, .int (zi (k + 1)))]) [3, 4, 5, 1, 0] rfl ?_
                  refine Zg.perm (ws' := [(m0, .inr (11, [.ref ms, .ref mp, .int (zi pn), .ref mt, .int (zi tyd), .ref mT, .ref mO, .ref mU, .int (zi ld), .long (zl up'_4), .long (zl lw'_5), .long (zl ua'_6), .long (zl la'_7), .long (zl bU), .int (zi bL), .int (zi sv), .int (zi xn), .int (zi yn), .int (zi sp), .int (zi rs), .int (zi pt), .ref mr])), (mO, al κ 402 OV'_2), (mT, ai κ 401 T'_1), (mU, al κ 402 UN'_3), (ms, ai κ 20 S)]) [4, 0, 1, 2, 3] rfl rfl ?_
                  exact ih_13 0 (k + 1) up'_4 lw'_5 ua'_6 la'_7 (by omega) ((icI_s i1 i0.1 hcn).2 ⟨by omega, fun z => by have z1 := z.1; have z2 := z.2; omega⟩) (by omega)
                · refine z_iconst E dX11_isConvergent_81 ?_
                  refine z_goto (tgt := 86) E dX11_isConvergent_82 (by decide) ?_
                  refine z_istore_n (lv' := [(3, .int (zi 1)), (5, .int (zi 1)), (0, .ref m0), (1, .int (zi a)), (2, .int (zi b)), (4, .int (zi k))]) E dX11_isConvergent_86 rfl (Nat.le_of_ble_eq_true rfl) rfl ?_
                  refine z_iinc (lv' := [(4, .int (zi (k + 1))), (3, .int (zi 1)), (5, .int (zi 1)), (0, .ref m0), (1, .int (zi a)), (2, .int (zi b))]) E 5 rfl dX11_isConvergent_87 (Nat.le_of_ble_eq_true rfl) rfl ?_
                  refine z_goto (tgt := 13) E dX11_isConvergent_90 (by decide) ?_
                  refine Zg.sub (lv' := [(0, .ref m0), (1, .int (zi a)), (2, .int (zi b)), (3, .int (zi 1)), (4, .int (zi (k + 1)))]) [3, 4, 5, 1, 0] rfl ?_
                  refine Zg.perm (ws' := [(m0, .inr (11, [.ref ms, .ref mp, .int (zi pn), .ref mt, .int (zi tyd), .ref mT, .ref mO, .ref mU, .int (zi ld), .long (zl up'_4), .long (zl lw'_5), .long (zl ua'_6), .long (zl la'_7), .long (zl bU), .int (zi bL), .int (zi sv), .int (zi xn), .int (zi yn), .int (zi sp), .int (zi rs), .int (zi pt), .ref mr])), (mO, al κ 402 OV'_2), (mT, ai κ 401 T'_1), (mU, al κ 402 UN'_3), (ms, ai κ 20 S)]) [4, 0, 1, 2, 3] rfl rfl ?_
                  exact ih_13 1 (k + 1) up'_4 lw'_5 ua'_6 la'_7 (by omega) ((icI_s i1 i0.1 hcn).1 (Or.inr ⟨by omega, by omega⟩)) (by omega)
          · refine z_if_eq (tgt := 49) E (by omega) dX11_isConvergent_42 (by decide) (fun _ => ?_) (fun h => absurd h (by decide))
            refine z_iconst E dX11_isConvergent_49 ?_
            have hcb := chAdd_bd hgr hh_39
            refine z_istore (lv' := [(5, .int (zi 0)), (0, .ref m0), (1, .int (zi a)), (2, .int (zi b)), (3, .int (zi is)), (4, .int (zi k))]) E dX11_isConvergent_50 (Nat.le_of_ble_eq_true rfl) rfl ?_
            refine z_iload_n E 4 rfl rfl dX11_isConvergent_52 ?_
            refine z_if_ne (tgt := 81) E (by omega) dX11_isConvergent_53 (by decide) (fun h_53 => ?_) (fun h_53 => ?_)
            · refine z_iconst E dX11_isConvergent_81 ?_
              refine z_goto (tgt := 86) E dX11_isConvergent_82 (by decide) ?_
              refine z_istore_n (lv' := [(3, .int (zi 1)), (5, .int (zi 0)), (0, .ref m0), (1, .int (zi a)), (2, .int (zi b)), (4, .int (zi k))]) E dX11_isConvergent_86 rfl (Nat.le_of_ble_eq_true rfl) rfl ?_
              refine z_iinc (lv' := [(4, .int (zi (k + 1))), (3, .int (zi 1)), (5, .int (zi 0)), (0, .ref m0), (1, .int (zi a)), (2, .int (zi b))]) E 5 rfl dX11_isConvergent_87 (Nat.le_of_ble_eq_true rfl) rfl ?_
              refine z_goto (tgt := 13) E dX11_isConvergent_90 (by decide) ?_
              refine Zg.sub (lv' := [(0, .ref m0), (1, .int (zi a)), (2, .int (zi b)), (3, .int (zi 1)), (4, .int (zi (k + 1)))]) [3, 4, 5, 1, 0] rfl ?_
              refine Zg.perm (ws' := [(m0, .inr (11, [.ref ms, .ref mp, .int (zi pn), .ref mt, .int (zi tyd), .ref mT, .ref mO, .ref mU, .int (zi ld), .long (zl up'_4), .long (zl lw'_5), .long (zl ua'_6), .long (zl la'_7), .long (zl bU), .int (zi bL), .int (zi sv), .int (zi xn), .int (zi yn), .int (zi sp), .int (zi rs), .int (zi pt), .ref mr])), (mO, al κ 402 OV'_2), (mT, ai κ 401 T'_1), (mU, al κ 402 UN'_3), (ms, ai κ 20 S)]) [4, 0, 1, 2, 3] rfl rfl ?_
              exact ih_13 1 (k + 1) up'_4 lw'_5 ua'_6 la'_7 (by omega) (absurd (low_go hv i0.1 (by omega) hgr (by omega) (by rw [← hT_1 k (by omega) (by omega)]; exact hh_39)) hc_39) (by omega)
            · refine z_iload E 0 rfl dX11_isConvergent_56 ?_
              refine z_if_eq (tgt := 85) E (by omega) dX11_isConvergent_58 (by decide) (fun _ => ?_) (fun h => absurd h (by decide))
              refine z_iconst E dX11_isConvergent_85 ?_
              refine z_istore_n (lv' := [(3, .int (zi 0)), (5, .int (zi 0)), (0, .ref m0), (1, .int (zi a)), (2, .int (zi b)), (4, .int (zi k))]) E dX11_isConvergent_86 rfl (Nat.le_of_ble_eq_true rfl) rfl ?_
              refine z_iinc (lv' := [(4, .int (zi (k + 1))), (3, .int (zi 0)), (5, .int (zi 0)), (0, .ref m0), (1, .int (zi a)), (2, .int (zi b))]) E 5 rfl dX11_isConvergent_87 (Nat.le_of_ble_eq_true rfl) rfl ?_
              refine z_goto (tgt := 13) E dX11_isConvergent_90 (by decide) ?_
              refine Zg.sub (lv' := [(0, .ref m0), (1, .int (zi a)), (2, .int (zi b)), (3, .int (zi 0)), (4, .int (zi (k + 1)))]) [3, 4, 5, 1, 0] rfl ?_
              refine Zg.perm (ws' := [(m0, .inr (11, [.ref ms, .ref mp, .int (zi pn), .ref mt, .int (zi tyd), .ref mT, .ref mO, .ref mU, .int (zi ld), .long (zl up'_4), .long (zl lw'_5), .long (zl ua'_6), .long (zl la'_7), .long (zl bU), .int (zi bL), .int (zi sv), .int (zi xn), .int (zi yn), .int (zi sp), .int (zi rs), .int (zi pt), .ref mr])), (mO, al κ 402 OV'_2), (mT, ai κ 401 T'_1), (mU, al κ 402 UN'_3), (ms, ai κ 20 S)]) [4, 0, 1, 2, 3] rfl rfl ?_
              exact ih_13 0 (k + 1) up'_4 lw'_5 ua'_6 la'_7 (by omega) (absurd (low_go hv i0.1 (by omega) hgr (by omega) (by rw [← hT_1 k (by omega) (by omega)]; exact hh_39)) hc_39) (by omega)
  refine Zg.sub (lv' := [(0, .ref m0), (1, .int (zi a)), (2, .int (zi b)), (3, .int (zi 0)), (4, .int (zi 0))]) [2, 3, 4, 1, 0] rfl ?_
  refine Zg.perm (ws' := [(m0, .inr (11, [.ref ms, .ref mp, .int (zi pn), .ref mt, .int (zi tyd), .ref mT, .ref mO, .ref mU, .int (zi ld), .long (zl 1), .long (zl 0), .long (zl 0), .long (zl 1), .long (zl bU), .int (zi bL), .int (zi sv), .int (zi xn), .int (zi yn), .int (zi sp), .int (zi rs), .int (zi pt), .ref mr])), (mO, al κ 402 OV'_2), (mT, ai κ 401 T'_1), (mU, al κ 402 UN'_3), (ms, ai κ 20 S)]) [4, 2, 1, 3, 0] rfl rfl ?_
  exact lp_13 ((30 - 0 : Int).toNat + 1) 0 0 1 0 0 1 (by omega) (icI_0) (by omega)
abbrev rm_X11_noteOf : Room := { frames := 4, cells := 0, slots := 0, locals := 110 }
set_option maxRecDepth 100000 in
theorem c_X11_noteOf (l : Launch) (D : va_G) (κ : Nat → ClassId) (m0 : Nat) (ms : Nat) (mp : Nat) (pn : Int) (mt : Nat) (tyd : Int) (mT : Nat) (mO : Nat) (mU : Nat) (ld : Int) (up : Int) (lw : Int) (ua : Int) (la : Int) (bU : Int) (bL : Int) (sv : Int) (xn : Int) (yn : Int) (sp : Int) (rs : Int) (pt : Int) (mr : Nat) (S : Int → Int) (T : Int → Int) (OV : Int → Int) (UN : Int → Int) (pl : Int) (wt : Int) (hr0 : -2147483648 ≤ pl ∧ pl ≤ 2147483647) (hr1 : -2147483648 ≤ wt ∧ wt ≤ 2147483647) (hv : vS (S 0) (S 1) (S 2)) (hok : okS S) : ZI l yX11_noteOf cX11_noteOf 4 .int rm_X11_noteOf D κ [.ref m0, .int (zi pl), .int (zi wt)] [(m0, .inr (11, [.ref ms, .ref mp, .int (zi pn), .ref mt, .int (zi tyd), .ref mT, .ref mO, .ref mU, .int (zi ld), .long (zl up), .long (zl lw), .long (zl ua), .long (zl la), .long (zl bU), .int (zi bL), .int (zi sv), .int (zi xn), .int (zi yn), .int (zi sp), .int (zi rs), .int (zi pt), .ref mr])), (ms, ai κ 20 S), (mT, ai κ 401 T), (mO, al κ 402 OV), (mU, al κ 402 UN)] (fun z w => ∃ r : Int, ∃ up' : Int, ∃ lw' : Int, ∃ ua' : Int, ∃ la' : Int, ∃ T' : Int → Int, ∃ OV' : Int → Int, ∃ UN' : Int → Int, (noM S pl wt r) ∧ r = z ∧ [(m0, .inr (11, [.ref ms, .ref mp, .int (zi pn), .ref mt, .int (zi tyd), .ref mT, .ref mO, .ref mU, .int (zi ld), .long (zl up'), .long (zl lw'), .long (zl ua'), .long (zl la'), .long (zl bU), .int (zi bL), .int (zi sv), .int (zi xn), .int (zi yn), .int (zi sp), .int (zi rs), .int (zi pt), .ref mr])), (ms, ai κ 20 S), (mT, ai κ 401 T'), (mO, al κ 402 OV'), (mU, al κ 402 UN')] = w) := by
  refine ZI.enter (own := RX11) rfl pn_X11_noteOf (Nat.le_of_ble_eq_true rfl) (fun X E fin => ?_)
  show Zg X [(m0, .inr (11, [.ref ms, .ref mp, .int (zi pn), .ref mt, .int (zi tyd), .ref mT, .ref mO, .ref mU, .int (zi ld), .long (zl up), .long (zl lw), .long (zl ua), .long (zl la), .long (zl bU), .int (zi bL), .int (zi sv), .int (zi xn), .int (zi yn), .int (zi sp), .int (zi rs), .int (zi pt), .ref mr])), (ms, ai κ 20 S), (mT, ai κ 401 T), (mO, al κ 402 OV), (mU, al κ 402 UN)] 0 0 0 [(0, .ref m0), (1, .int (zi pl)), (2, .int (zi wt))] []
  have hb2 := hok.1
  refine z_iload_n E 1 rfl rfl dX11_noteOf_0 ?_
  refine z_if_lt (tgt := 16) E (by omega) dX11_noteOf_1 (by decide) (fun h_1 => ?_) (fun h_1 => ?_)
  · refine z_ldc E k_X11_50 dX11_noteOf_16 ?_
    exact fin _ _ _ _ rfl (⟨_, _, _, _, _, _, _, _, (by exact Or.inl ⟨fun z => by omega, rfl⟩), rfl, rfl⟩) dX11_noteOf_18
  · refine z_iload_n E 2 rfl rfl dX11_noteOf_4 ?_
    refine z_i2l E (by omega) dX11_noteOf_5 ?_
    refine z_lconst0 E dX11_noteOf_6 ?_
    refine z_ldc2 E k_X11_236 dX11_noteOf_7 ?_
    refine z_callSi (As := [.long (zl wt), .long (zl 0), .long (zl 3)]) (rest := []) (wr := [(m0, .inr (11, [.ref ms, .ref mp, .int (zi pn), .ref mt, .int (zi tyd), .ref mT, .ref mO, .ref mU, .int (zi ld), .long (zl up), .long (zl lw), .long (zl ua), .long (zl la), .long (zl bU), .int (zi bL), .int (zi sv), .int (zi xn), .int (zi yn), .int (zi sp), .int (zi rs), .int (zi pt), .ref mr])), (ms, ai κ 20 S), (mT, ai κ 401 T), (mO, al κ 402 OV), (mU, al κ 402 UN)]) E (c_X11_in l D κ wt 0 3 (by omega) (by omega) (by omega)) m_X11_44 ⟨Nat.le_of_ble_eq_true rfl, Nat.le_of_ble_eq_true rfl⟩ ⟨rfl, rfl⟩ [] [0, 1, 2, 3, 4] rfl rfl rfl rfl (by decide) rfl rfl (Nat.le_of_ble_eq_true rfl) dX11_noteOf_10 ⟨Nat.le_of_ble_eq_true rfl, Nat.le_of_ble_eq_true rfl⟩ (fun z10 w1 hq => ?_)
    obtain ⟨⟨rfl, hc_10⟩ | ⟨rfl, hc_10⟩, rfl⟩ := hq
    · refine z_if_ne (tgt := 19) E (by omega) dX11_noteOf_13 (by decide) (fun _ => ?_) (fun h => absurd h (by decide))
      refine z_aload_n E 0 rfl rfl dX11_noteOf_19 ?_
      refine z_iload_n E 1 rfl rfl dX11_noteOf_20 ?_
      refine z_callVi (As := [.int (zi pl)]) (rest := []) (wr := [(mT, ai κ 401 T), (mO, al κ 402 OV), (mU, al κ 402 UN)]) E (c_X11_at l D κ m0 ms mp pn mt tyd mT mO mU ld up lw ua la bU bL sv xn yn sp rs pt mr S pl (by omega) (hv) (hok)) m_X11_233 ⟨Nat.le_of_ble_eq_true rfl, Nat.le_of_ble_eq_true rfl⟩ ⟨rfl, rfl⟩ [0, 1] [2, 3, 4] rfl rfl rfl rfl (by decide) rfl rfl rfl rfl (Nat.le_of_ble_eq_true rfl) dX11_noteOf_21 ⟨Nat.le_of_ble_eq_true rfl, Nat.le_of_ble_eq_true rfl⟩ (fun z21 w1 hq => ?_)
      obtain ⟨r_1, ha_21, rfl, rfl⟩ := hq
      have hab := atP_bd ha_21 (by omega)
      refine z_istore_n (lv' := [(3, .int (zi r_1)), (0, .ref m0), (1, .int (zi pl)), (2, .int (zi wt))]) E dX11_noteOf_24 rfl (Nat.le_of_ble_eq_true rfl) rfl ?_
      refine z_iload_n E 0 rfl rfl dX11_noteOf_25 ?_
      refine z_if_ge (tgt := 32) E (by omega) dX11_noteOf_26 (by decide) (fun h_26 => ?_) (fun h_26 => ?_)
      · have hat := atP_yes ha_21 (by omega)
        have hkf := hok.2 _ hat.1.1 hat.1.2
        have hkf2 := hkf
        unfold okF at hkf2
        refine z_iload_n E 3 rfl rfl dX11_noteOf_32 ?_
        have h_33 : wt = 0 ∨ wt = 1 ∨ wt = 2 ∨ (wt < 0 ∨ 2 < wt) := by omega
        rcases h_33 with h_33 | h_33 | h_33 | h_33
        · refine z_tswIn (a := wt) (off := 27) (tgt := 60) E (by omega) dX11_noteOf_33 (by omega) (by omega) (by rw [h_33]; rfl) (by decide) ?_
          refine z_aload_n E 1 rfl rfl dX11_noteOf_60 ?_
          refine z_iload_n E 0 rfl rfl dX11_noteOf_61 ?_
          refine z_callVi (As := [.int (zi r_1)]) (rest := []) (wr := [(mT, ai κ 401 T), (mO, al κ 402 OV), (mU, al κ 402 UN)]) E (c_X11_upOf l D κ m0 ms mp pn mt tyd mT mO mU ld up lw ua la bU bL sv xn yn sp rs pt mr S r_1 (by omega)) m_X11_221 ⟨Nat.le_of_ble_eq_true rfl, Nat.le_of_ble_eq_true rfl⟩ ⟨rfl, rfl⟩ [3, 4] [0, 1, 2] rfl rfl rfl rfl (by decide) rfl rfl rfl rfl (Nat.le_of_ble_eq_true rfl) dX11_noteOf_62 ⟨Nat.le_of_ble_eq_true rfl, Nat.le_of_ble_eq_true rfl⟩ (fun z62 w1 hq => ?_)
          obtain ⟨rfl, rfl⟩ := hq
          refine z_ldc E k_X11_145 dX11_noteOf_65 ?_
          refine z_iadd E dX11_noteOf_67 ?_
          refine Zg.perm (ws' := [(m0, .inr (11, [.ref ms, .ref mp, .int (zi pn), .ref mt, .int (zi tyd), .ref mT, .ref mO, .ref mU, .int (zi ld), .long (zl up), .long (zl lw), .long (zl ua), .long (zl la), .long (zl bU), .int (zi bL), .int (zi sv), .int (zi xn), .int (zi yn), .int (zi sp), .int (zi rs), .int (zi pt), .ref mr])), (ms, ai κ 20 S), (mT, ai κ 401 T), (mO, al κ 402 OV), (mU, al κ 402 UN)]) [3, 4, 0, 1, 2] rfl rfl ?_
          exact fin _ _ _ _ rfl (⟨_, _, _, _, _, _, _, _, (by exact Or.inr (Or.inr ⟨⟨by omega, hc_10⟩, _, hat.1, hat.2, Or.inl ⟨by omega, rfl⟩⟩)), rfl, rfl⟩) dX11_noteOf_68
        · refine z_tswIn (a := wt) (off := 36) (tgt := 69) E (by omega) dX11_noteOf_33 (by omega) (by omega) (by rw [h_33]; rfl) (by decide) ?_
          refine z_aload_n E 1 rfl rfl dX11_noteOf_69 ?_
          refine z_iload_n E 0 rfl rfl dX11_noteOf_70 ?_
          refine z_callVi (As := [.int (zi r_1)]) (rest := []) (wr := [(mT, ai κ 401 T), (mO, al κ 402 OV), (mU, al κ 402 UN)]) E (c_X11_lowOf l D κ m0 ms mp pn mt tyd mT mO mU ld up lw ua la bU bL sv xn yn sp rs pt mr S r_1 (by omega)) m_X11_224 ⟨Nat.le_of_ble_eq_true rfl, Nat.le_of_ble_eq_true rfl⟩ ⟨rfl, rfl⟩ [3, 4] [0, 1, 2] rfl rfl rfl rfl (by decide) rfl rfl rfl rfl (Nat.le_of_ble_eq_true rfl) dX11_noteOf_71 ⟨Nat.le_of_ble_eq_true rfl, Nat.le_of_ble_eq_true rfl⟩ (fun z71 w1 hq => ?_)
          obtain ⟨rfl, rfl⟩ := hq
          refine Zg.perm (ws' := [(m0, .inr (11, [.ref ms, .ref mp, .int (zi pn), .ref mt, .int (zi tyd), .ref mT, .ref mO, .ref mU, .int (zi ld), .long (zl up), .long (zl lw), .long (zl ua), .long (zl la), .long (zl bU), .int (zi bL), .int (zi sv), .int (zi xn), .int (zi yn), .int (zi sp), .int (zi rs), .int (zi pt), .ref mr])), (ms, ai κ 20 S), (mT, ai κ 401 T), (mO, al κ 402 OV), (mU, al κ 402 UN)]) [3, 4, 0, 1, 2] rfl rfl ?_
          exact fin _ _ _ _ rfl (⟨_, _, _, _, _, _, _, _, (by exact Or.inr (Or.inr ⟨⟨by omega, hc_10⟩, _, hat.1, hat.2, Or.inr (Or.inl ⟨by omega, rfl⟩)⟩)), rfl, rfl⟩) dX11_noteOf_74
        · refine z_tswIn (a := wt) (off := 42) (tgt := 75) E (by omega) dX11_noteOf_33 (by omega) (by omega) (by rw [h_33]; rfl) (by decide) ?_
          refine z_aload_n E 1 rfl rfl dX11_noteOf_75 ?_
          refine z_aload_n E 1 rfl rfl dX11_noteOf_76 ?_
          refine z_iload_n E 0 rfl rfl dX11_noteOf_77 ?_
          refine z_callVi (As := [.int (zi r_1)]) (rest := [.ref m0]) (wr := [(mT, ai κ 401 T), (mO, al κ 402 OV), (mU, al κ 402 UN)]) E (c_X11_upOf l D κ m0 ms mp pn mt tyd mT mO mU ld up lw ua la bU bL sv xn yn sp rs pt mr S r_1 (by omega)) m_X11_221 ⟨Nat.le_of_ble_eq_true rfl, Nat.le_of_ble_eq_true rfl⟩ ⟨rfl, rfl⟩ [3, 4] [0, 1, 2] rfl rfl rfl rfl (by decide) rfl rfl rfl rfl (Nat.le_of_ble_eq_true rfl) dX11_noteOf_78 ⟨Nat.le_of_ble_eq_true rfl, Nat.le_of_ble_eq_true rfl⟩ (fun z78 w1 hq => ?_)
          obtain ⟨rfl, rfl⟩ := hq
          refine z_i2l E (by omega) dX11_noteOf_81 ?_
          refine z_aload_n E 1 rfl rfl dX11_noteOf_82 ?_
          refine z_iload_n E 0 rfl rfl dX11_noteOf_83 ?_
          refine z_callVi (As := [.int (zi r_1)]) (rest := [.long (zl (S (4 + (2 * r_1)))), .ref m0]) (wr := [(mT, ai κ 401 T), (mO, al κ 402 OV), (mU, al κ 402 UN)]) E (c_X11_lowOf l D κ m0 ms mp pn mt tyd mT mO mU ld up lw ua la bU bL sv xn yn sp rs pt mr S r_1 (by omega)) m_X11_224 ⟨Nat.le_of_ble_eq_true rfl, Nat.le_of_ble_eq_true rfl⟩ ⟨rfl, rfl⟩ [3, 4] [0, 1, 2] rfl rfl rfl rfl (by decide) rfl rfl rfl rfl (Nat.le_of_ble_eq_true rfl) dX11_noteOf_84 ⟨Nat.le_of_ble_eq_true rfl, Nat.le_of_ble_eq_true rfl⟩ (fun z84 w1 hq => ?_)
          obtain ⟨rfl, rfl⟩ := hq
          refine z_i2l E (by omega) dX11_noteOf_87 ?_
          refine z_callVi (As := [.long (zl (S (4 + (2 * r_1)))), .long (zl (S (5 + (2 * r_1))))]) (rest := []) (wr := [(mT, ai κ 401 T), (mO, al κ 402 OV), (mU, al κ 402 UN)]) E (c_X11_isAbove l D κ m0 ms mp pn mt tyd mT mO mU ld up lw ua la bU bL sv xn yn sp rs pt mr S (S (4 + (2 * r_1))) (S (5 + (2 * r_1))) (hv) (by omega) (by omega)) m_X11_127 ⟨Nat.le_of_ble_eq_true rfl, Nat.le_of_ble_eq_true rfl⟩ ⟨rfl, rfl⟩ [3, 4] [0, 1, 2] rfl rfl rfl rfl (by decide) rfl rfl rfl rfl (Nat.le_of_ble_eq_true rfl) dX11_noteOf_88 ⟨Nat.le_of_ble_eq_true rfl, Nat.le_of_ble_eq_true rfl⟩ (fun z88 w1 hq => ?_)
          obtain ⟨⟨rfl, hc_88⟩ | ⟨rfl, hc_88⟩, rfl⟩ := hq
          · refine z_if_eq (tgt := 98) E (by omega) dX11_noteOf_91 (by decide) (fun h => absurd h (by decide)) (fun _ => ?_)
            refine z_iconst E dX11_noteOf_94 ?_
            refine z_goto (tgt := 99) E dX11_noteOf_95 (by decide) ?_
            refine Zg.perm (ws' := [(m0, .inr (11, [.ref ms, .ref mp, .int (zi pn), .ref mt, .int (zi tyd), .ref mT, .ref mO, .ref mU, .int (zi ld), .long (zl up), .long (zl lw), .long (zl ua), .long (zl la), .long (zl bU), .int (zi bL), .int (zi sv), .int (zi xn), .int (zi yn), .int (zi sp), .int (zi rs), .int (zi pt), .ref mr])), (ms, ai κ 20 S), (mT, ai κ 401 T), (mO, al κ 402 OV), (mU, al κ 402 UN)]) [3, 4, 0, 1, 2] rfl rfl ?_
            exact fin _ _ _ _ rfl (⟨_, _, _, _, _, _, _, _, (by exact Or.inr (Or.inr ⟨⟨by omega, hc_10⟩, _, hat.1, hat.2, Or.inr (Or.inr (Or.inl ⟨by omega, Or.inr ⟨rfl, hc_88⟩⟩))⟩)), rfl, rfl⟩) dX11_noteOf_99
          · refine z_if_eq (tgt := 98) E (by omega) dX11_noteOf_91 (by decide) (fun _ => ?_) (fun h => absurd h (by decide))
            refine z_iconst E dX11_noteOf_98 ?_
            refine Zg.perm (ws' := [(m0, .inr (11, [.ref ms, .ref mp, .int (zi pn), .ref mt, .int (zi tyd), .ref mT, .ref mO, .ref mU, .int (zi ld), .long (zl up), .long (zl lw), .long (zl ua), .long (zl la), .long (zl bU), .int (zi bL), .int (zi sv), .int (zi xn), .int (zi yn), .int (zi sp), .int (zi rs), .int (zi pt), .ref mr])), (ms, ai κ 20 S), (mT, ai κ 401 T), (mO, al κ 402 OV), (mU, al κ 402 UN)]) [3, 4, 0, 1, 2] rfl rfl ?_
            exact fin _ _ _ _ rfl (⟨_, _, _, _, _, _, _, _, (by exact Or.inr (Or.inr ⟨⟨by omega, hc_10⟩, _, hat.1, hat.2, Or.inr (Or.inr (Or.inl ⟨by omega, Or.inl ⟨rfl, Decidable.not_not.mp hc_88⟩⟩))⟩)), rfl, rfl⟩) dX11_noteOf_99
        · refine z_tswOut (a := wt) (tgt := 100) E (by omega) dX11_noteOf_33 (by omega) (by decide) ?_
          refine z_aload_n E 1 rfl rfl dX11_noteOf_100 ?_
          refine z_aload_n E 1 rfl rfl dX11_noteOf_101 ?_
          refine z_iload_n E 0 rfl rfl dX11_noteOf_102 ?_
          refine z_callVi (As := [.int (zi r_1)]) (rest := [.ref m0]) (wr := [(mT, ai κ 401 T), (mO, al κ 402 OV), (mU, al κ 402 UN)]) E (c_X11_upOf l D κ m0 ms mp pn mt tyd mT mO mU ld up lw ua la bU bL sv xn yn sp rs pt mr S r_1 (by omega)) m_X11_221 ⟨Nat.le_of_ble_eq_true rfl, Nat.le_of_ble_eq_true rfl⟩ ⟨rfl, rfl⟩ [3, 4] [0, 1, 2] rfl rfl rfl rfl (by decide) rfl rfl rfl rfl (Nat.le_of_ble_eq_true rfl) dX11_noteOf_103 ⟨Nat.le_of_ble_eq_true rfl, Nat.le_of_ble_eq_true rfl⟩ (fun z103 w1 hq => ?_)
          obtain ⟨rfl, rfl⟩ := hq
          refine z_aload_n E 1 rfl rfl dX11_noteOf_106 ?_
          refine z_iload_n E 0 rfl rfl dX11_noteOf_107 ?_
          refine z_callVi (As := [.int (zi r_1)]) (rest := [.int (zi (S (4 + (2 * r_1)))), .ref m0]) (wr := [(mT, ai κ 401 T), (mO, al κ 402 OV), (mU, al κ 402 UN)]) E (c_X11_lowOf l D κ m0 ms mp pn mt tyd mT mO mU ld up lw ua la bU bL sv xn yn sp rs pt mr S r_1 (by omega)) m_X11_224 ⟨Nat.le_of_ble_eq_true rfl, Nat.le_of_ble_eq_true rfl⟩ ⟨rfl, rfl⟩ [3, 4] [0, 1, 2] rfl rfl rfl rfl (by decide) rfl rfl rfl rfl (Nat.le_of_ble_eq_true rfl) dX11_noteOf_108 ⟨Nat.le_of_ble_eq_true rfl, Nat.le_of_ble_eq_true rfl⟩ (fun z108 w1 hq => ?_)
          obtain ⟨rfl, rfl⟩ := hq
          refine z_callVi (As := [.int (zi (S (4 + (2 * r_1)))), .int (zi (S (5 + (2 * r_1))))]) (rest := []) (wr := []) E (c_X11_isConvergent l D κ m0 ms mp pn mt tyd mT mO mU ld up lw ua la bU bL sv xn yn sp rs pt mr S T OV UN (S (4 + (2 * r_1))) (S (5 + (2 * r_1))) (hv) (hkf)) m_X11_238 ⟨Nat.le_of_ble_eq_true rfl, Nat.le_of_ble_eq_true rfl⟩ ⟨rfl, rfl⟩ [3, 4, 0, 1, 2] [] rfl rfl rfl rfl (by decide) rfl rfl rfl rfl (Nat.le_of_ble_eq_true rfl) dX11_noteOf_111 ⟨Nat.le_of_ble_eq_true rfl, Nat.le_of_ble_eq_true rfl⟩ (fun z111 w1 hq => ?_)
          obtain ⟨up'_2, lw'_3, ua'_4, la'_5, T'_6, OV'_7, UN'_8, ⟨rfl, hc_111⟩ | ⟨rfl, hc_111⟩, rfl⟩ := hq
          · refine z_if_eq (tgt := 121) E (by omega) dX11_noteOf_114 (by decide) (fun h => absurd h (by decide)) (fun _ => ?_)
            refine z_iconst E dX11_noteOf_117 ?_
            refine z_goto (tgt := 122) E dX11_noteOf_118 (by decide) ?_
            exact fin _ _ _ _ rfl (⟨_, _, _, _, _, _, _, _, (by exact Or.inr (Or.inr ⟨⟨by omega, hc_10⟩, _, hat.1, hat.2, Or.inr (Or.inr (Or.inr ⟨by omega, Or.inl ⟨rfl, hc_111⟩⟩))⟩)), rfl, rfl⟩) dX11_noteOf_122
          · refine z_if_eq (tgt := 121) E (by omega) dX11_noteOf_114 (by decide) (fun _ => ?_) (fun h => absurd h (by decide))
            refine z_iconst E dX11_noteOf_121 ?_
            exact fin _ _ _ _ rfl (⟨_, _, _, _, _, _, _, _, (by exact Or.inr (Or.inr ⟨⟨by omega, hc_10⟩, _, hat.1, hat.2, Or.inr (Or.inr (Or.inr ⟨by omega, Or.inr ⟨rfl, hc_111⟩⟩))⟩)), rfl, rfl⟩) dX11_noteOf_122
      · refine z_ldc E k_X11_176 dX11_noteOf_29 ?_
        refine Zg.perm (ws' := [(m0, .inr (11, [.ref ms, .ref mp, .int (zi pn), .ref mt, .int (zi tyd), .ref mT, .ref mO, .ref mU, .int (zi ld), .long (zl up), .long (zl lw), .long (zl ua), .long (zl la), .long (zl bU), .int (zi bL), .int (zi sv), .int (zi xn), .int (zi yn), .int (zi sp), .int (zi rs), .int (zi pt), .ref mr])), (ms, ai κ 20 S), (mT, ai κ 401 T), (mO, al κ 402 OV), (mU, al κ 402 UN)]) [3, 4, 0, 1, 2] rfl rfl ?_
        exact fin _ _ _ _ rfl (⟨_, _, _, _, _, _, _, _, (by exact Or.inr (Or.inl ⟨⟨by omega, hc_10⟩, atP_no ha_21 (by omega), rfl⟩)), rfl, rfl⟩) dX11_noteOf_31
    · refine z_if_ne (tgt := 19) E (by omega) dX11_noteOf_13 (by decide) (fun h => absurd h (by decide)) (fun _ => ?_)
      refine z_ldc E k_X11_50 dX11_noteOf_16 ?_
      exact fin _ _ _ _ rfl (⟨_, _, _, _, _, _, _, _, (by exact Or.inl ⟨fun z => hc_10 z.2, rfl⟩), rfl, rfl⟩) dX11_noteOf_18
abbrev rm_X11_aboveOnes : Room := { frames := 1, cells := 0, slots := 0, locals := 27 }
set_option maxRecDepth 100000 in
theorem c_X11_aboveOnes (l : Launch) (D : va_G) (κ : Nat → ClassId) (m0 : Nat) (ms : Nat) (mp : Nat) (pn : Int) (mt : Nat) (tyd : Int) (mT : Nat) (mO : Nat) (mU : Nat) (ld : Int) (up : Int) (lw : Int) (ua : Int) (la : Int) (bU : Int) (bL : Int) (sv : Int) (xn : Int) (yn : Int) (sp : Int) (rs : Int) (pt : Int) (mr : Nat) (S : Int → Int) (hv : vS (S 0) (S 1) (S 2)) (hok : okS S) : ZI l yX11_aboveOnes cX11_aboveOnes 3 .int rm_X11_aboveOnes D κ [.ref m0] [(m0, .inr (11, [.ref ms, .ref mp, .int (zi pn), .ref mt, .int (zi tyd), .ref mT, .ref mO, .ref mU, .int (zi ld), .long (zl up), .long (zl lw), .long (zl ua), .long (zl la), .long (zl bU), .int (zi bL), .int (zi sv), .int (zi xn), .int (zi yn), .int (zi sp), .int (zi rs), .int (zi pt), .ref mr])), (ms, ai κ 20 S)] (fun z w => (aoS S (S 3).toNat) = z ∧ [(m0, .inr (11, [.ref ms, .ref mp, .int (zi pn), .ref mt, .int (zi tyd), .ref mT, .ref mO, .ref mU, .int (zi ld), .long (zl up), .long (zl lw), .long (zl ua), .long (zl la), .long (zl bU), .int (zi bL), .int (zi sv), .int (zi xn), .int (zi yn), .int (zi sp), .int (zi rs), .int (zi pt), .ref mr])), (ms, ai κ 20 S)] = w) := by
  refine ZI.enter (own := RX11) rfl pn_X11_aboveOnes (Nat.le_of_ble_eq_true rfl) (fun X E fin => ?_)
  show Zg X [(m0, .inr (11, [.ref ms, .ref mp, .int (zi pn), .ref mt, .int (zi tyd), .ref mT, .ref mO, .ref mU, .int (zi ld), .long (zl up), .long (zl lw), .long (zl ua), .long (zl la), .long (zl bU), .int (zi bL), .int (zi sv), .int (zi xn), .int (zi yn), .int (zi sp), .int (zi rs), .int (zi pt), .ref mr])), (ms, ai κ 20 S)] 0 0 0 [(0, .ref m0)] []
  have hb2 := hok.1
  refine z_iconst E dX11_aboveOnes_0 ?_
  refine z_istore_n (lv' := [(1, .int (zi 0)), (0, .ref m0)]) E dX11_aboveOnes_1 rfl (Nat.le_of_ble_eq_true rfl) rfl ?_
  refine z_iconst E dX11_aboveOnes_2 ?_
  refine z_istore_n (lv' := [(2, .int (zi 0)), (1, .int (zi 0)), (0, .ref m0)]) E dX11_aboveOnes_3 rfl (Nat.le_of_ble_eq_true rfl) rfl ?_
  have lp_4 : ∀ (n_4 : Nat) (x : Int) (i : Int), (0 ≤ i ∧ i ≤ S 3) → (x = aoS S i.toNat) → (0 ≤ x ∧ x ≤ i) → (S 3 - i) < (n_4 : Int) → Zg X [(m0, .inr (11, [.ref ms, .ref mp, .int (zi pn), .ref mt, .int (zi tyd), .ref mT, .ref mO, .ref mU, .int (zi ld), .long (zl up), .long (zl lw), .long (zl ua), .long (zl la), .long (zl bU), .int (zi bL), .int (zi sv), .int (zi xn), .int (zi yn), .int (zi sp), .int (zi rs), .int (zi pt), .ref mr])), (ms, ai κ 20 S)] 0 0 4 [(0, .ref m0), (1, .int (zi x)), (2, .int (zi i))] [] := by
    intro n_4
    induction n_4 with
    | zero =>
      intro x i i0 i1 i2 hmu
      exact absurd hmu (by omega)
    | succ n_4 ih_4 =>
      intro x i i0 i1 i2 hmu_4
      refine z_iload_n E 2 rfl rfl dX11_aboveOnes_4 ?_
      refine z_aload_n E 0 rfl rfl dX11_aboveOnes_5 ?_
      refine z_get E f_X11_7 0 rfl rfl dX11_aboveOnes_6 ?_
      refine z_iconst E dX11_aboveOnes_9 ?_
      refine z_iald E 1 rfl (Nat.le_of_ble_eq_true rfl) (by omega) (by omega) dX11_aboveOnes_10 ?_
      refine z_ic_ge (tgt := 47) E (by omega) (by omega) dX11_aboveOnes_11 (by decide) (fun h_11 => ?_) (fun h_11 => ?_)
      · refine z_iload_n E 1 rfl rfl dX11_aboveOnes_47 ?_
        exact fin _ _ _ _ rfl (⟨by rw [i1, show S 3 = i by omega], rfl⟩) dX11_aboveOnes_48
      · have hk1 := hok.2 i i0.1 (by omega)
        unfold okF at hk1
        refine z_iload_n E 1 rfl rfl dX11_aboveOnes_14 ?_
        refine z_aload_n E 0 rfl rfl dX11_aboveOnes_15 ?_
        refine z_aload_n E 0 rfl rfl dX11_aboveOnes_16 ?_
        refine z_iload_n E 2 rfl rfl dX11_aboveOnes_17 ?_
        refine z_callVi (As := [.int (zi i)]) (rest := [.ref m0, .int (zi x)]) (wr := []) E (c_X11_upOf l D κ m0 ms mp pn mt tyd mT mO mU ld up lw ua la bU bL sv xn yn sp rs pt mr S i (by omega)) m_X11_221 ⟨Nat.le_of_ble_eq_true rfl, Nat.le_of_ble_eq_true rfl⟩ ⟨rfl, rfl⟩ [0, 1] [] rfl rfl rfl rfl (by decide) rfl rfl rfl rfl (Nat.le_of_ble_eq_true rfl) dX11_aboveOnes_18 ⟨Nat.le_of_ble_eq_true rfl, Nat.le_of_ble_eq_true rfl⟩ (fun z18 w1 hq => ?_)
        obtain ⟨rfl, rfl⟩ := hq
        refine z_i2l E (by omega) dX11_aboveOnes_21 ?_
        refine z_aload_n E 0 rfl rfl dX11_aboveOnes_22 ?_
        refine z_iload_n E 2 rfl rfl dX11_aboveOnes_23 ?_
        refine z_callVi (As := [.int (zi i)]) (rest := [.long (zl (S (4 + (2 * i)))), .ref m0, .int (zi x)]) (wr := []) E (c_X11_lowOf l D κ m0 ms mp pn mt tyd mT mO mU ld up lw ua la bU bL sv xn yn sp rs pt mr S i (by omega)) m_X11_224 ⟨Nat.le_of_ble_eq_true rfl, Nat.le_of_ble_eq_true rfl⟩ ⟨rfl, rfl⟩ [0, 1] [] rfl rfl rfl rfl (by decide) rfl rfl rfl rfl (Nat.le_of_ble_eq_true rfl) dX11_aboveOnes_24 ⟨Nat.le_of_ble_eq_true rfl, Nat.le_of_ble_eq_true rfl⟩ (fun z24 w1 hq => ?_)
        obtain ⟨rfl, rfl⟩ := hq
        refine z_i2l E (by omega) dX11_aboveOnes_27 ?_
        refine z_callVi (As := [.long (zl (S (4 + (2 * i)))), .long (zl (S (5 + (2 * i))))]) (rest := [.int (zi x)]) (wr := []) E (c_X11_isAbove l D κ m0 ms mp pn mt tyd mT mO mU ld up lw ua la bU bL sv xn yn sp rs pt mr S (S (4 + (2 * i))) (S (5 + (2 * i))) (hv) (by omega) (by omega)) m_X11_127 ⟨Nat.le_of_ble_eq_true rfl, Nat.le_of_ble_eq_true rfl⟩ ⟨rfl, rfl⟩ [0, 1] [] rfl rfl rfl rfl (by decide) rfl rfl rfl rfl (Nat.le_of_ble_eq_true rfl) dX11_aboveOnes_28 ⟨Nat.le_of_ble_eq_true rfl, Nat.le_of_ble_eq_true rfl⟩ (fun z28 w1 hq => ?_)
        obtain ⟨⟨rfl, hc_28⟩ | ⟨rfl, hc_28⟩, rfl⟩ := hq
        · refine z_if_eq (tgt := 38) E (by omega) dX11_aboveOnes_31 (by decide) (fun h => absurd h (by decide)) (fun _ => ?_)
          refine z_iconst E dX11_aboveOnes_34 ?_
          refine z_goto (tgt := 39) E dX11_aboveOnes_35 (by decide) ?_
          refine z_iadd E dX11_aboveOnes_39 ?_
          refine z_istore_n (lv' := [(1, .int (zi (x + 0))), (0, .ref m0), (2, .int (zi i))]) E dX11_aboveOnes_40 rfl (Nat.le_of_ble_eq_true rfl) rfl ?_
          refine z_iinc (lv' := [(2, .int (zi (i + 1))), (1, .int (zi (x + 0))), (0, .ref m0)]) E 2 rfl dX11_aboveOnes_41 (Nat.le_of_ble_eq_true rfl) rfl ?_
          refine z_goto (tgt := 4) E dX11_aboveOnes_44 (by decide) ?_
          refine Zg.sub (lv' := [(0, .ref m0), (1, .int (zi (x + 0))), (2, .int (zi (i + 1)))]) [2, 1, 0] rfl ?_
          exact ih_4 (x + 0) (i + 1) (by omega) (by have e := aoS_f i0.1 i1 hc_28; omega) (by omega) (by omega)
        · refine z_if_eq (tgt := 38) E (by omega) dX11_aboveOnes_31 (by decide) (fun _ => ?_) (fun h => absurd h (by decide))
          refine z_iconst E dX11_aboveOnes_38 ?_
          refine z_iadd E dX11_aboveOnes_39 ?_
          refine z_istore_n (lv' := [(1, .int (zi (x + 1))), (0, .ref m0), (2, .int (zi i))]) E dX11_aboveOnes_40 rfl (Nat.le_of_ble_eq_true rfl) rfl ?_
          refine z_iinc (lv' := [(2, .int (zi (i + 1))), (1, .int (zi (x + 1))), (0, .ref m0)]) E 2 rfl dX11_aboveOnes_41 (Nat.le_of_ble_eq_true rfl) rfl ?_
          refine z_goto (tgt := 4) E dX11_aboveOnes_44 (by decide) ?_
          refine Zg.sub (lv' := [(0, .ref m0), (1, .int (zi (x + 1))), (2, .int (zi (i + 1)))]) [2, 1, 0] rfl ?_
          exact ih_4 (x + 1) (i + 1) (by omega) (aoS_t i0.1 i1 (Decidable.not_not.mp hc_28)) (by omega) (by omega)
  refine Zg.sub (lv' := [(0, .ref m0), (1, .int (zi 0)), (2, .int (zi 0))]) [2, 1, 0] rfl ?_
  exact lp_4 ((S 3 - 0 : Int).toNat + 1) 0 0 (by omega) (rfl) (by omega) (by omega)
abbrev rm_X11_count : Room := { frames := 2, cells := 0, slots := 0, locals := 49 }
set_option maxRecDepth 100000 in
theorem c_X11_count (l : Launch) (D : va_G) (κ : Nat → ClassId) (m0 : Nat) (ms : Nat) (mp : Nat) (pn : Int) (mt : Nat) (tyd : Int) (mT : Nat) (mO : Nat) (mU : Nat) (ld : Int) (up : Int) (lw : Int) (ua : Int) (la : Int) (bU : Int) (bL : Int) (sv : Int) (xn : Int) (yn : Int) (sp : Int) (rs : Int) (pt : Int) (mr : Nat) (S : Int → Int) (wt : Int) (hr0 : -2147483648 ≤ wt ∧ wt ≤ 2147483647) (hv : vS (S 0) (S 1) (S 2)) (hok : okS S) : ZI l yX11_count cX11_count 2 .int rm_X11_count D κ [.ref m0, .int (zi wt)] [(m0, .inr (11, [.ref ms, .ref mp, .int (zi pn), .ref mt, .int (zi tyd), .ref mT, .ref mO, .ref mU, .int (zi ld), .long (zl up), .long (zl lw), .long (zl ua), .long (zl la), .long (zl bU), .int (zi bL), .int (zi sv), .int (zi xn), .int (zi yn), .int (zi sp), .int (zi rs), .int (zi pt), .ref mr])), (ms, ai κ 20 S)] (fun z w => (ctV (S 3) (aoS S (S 3).toNat) pn tyd wt) = z ∧ [(m0, .inr (11, [.ref ms, .ref mp, .int (zi pn), .ref mt, .int (zi tyd), .ref mT, .ref mO, .ref mU, .int (zi ld), .long (zl up), .long (zl lw), .long (zl ua), .long (zl la), .long (zl bU), .int (zi bL), .int (zi sv), .int (zi xn), .int (zi yn), .int (zi sp), .int (zi rs), .int (zi pt), .ref mr])), (ms, ai κ 20 S)] = w) := by
  refine ZI.enter (own := RX11) rfl pn_X11_count (Nat.le_of_ble_eq_true rfl) (fun X E fin => ?_)
  show Zg X [(m0, .inr (11, [.ref ms, .ref mp, .int (zi pn), .ref mt, .int (zi tyd), .ref mT, .ref mO, .ref mU, .int (zi ld), .long (zl up), .long (zl lw), .long (zl ua), .long (zl la), .long (zl bU), .int (zi bL), .int (zi sv), .int (zi xn), .int (zi yn), .int (zi sp), .int (zi rs), .int (zi pt), .ref mr])), (ms, ai κ 20 S)] 0 0 0 [(0, .ref m0), (1, .int (zi wt))] []
  refine z_iload_n E 1 rfl rfl dX11_count_0 ?_
  have h_1 : wt = 0 ∨ wt = 1 ∨ wt = 2 ∨ wt = 3 ∨ (wt < 0 ∨ 3 < wt) := by omega
  rcases h_1 with h_1 | h_1 | h_1 | h_1 | h_1
  · refine z_tswIn (a := wt) (off := 31) (tgt := 32) E (by omega) dX11_count_1 (by omega) (by omega) (by rw [h_1]; rfl) (by decide) ?_
    refine z_aload_n E 0 rfl rfl dX11_count_32 ?_
    refine z_get E f_X11_7 0 rfl rfl dX11_count_33 ?_
    refine z_iconst E dX11_count_36 ?_
    refine z_iald E 1 rfl (Nat.le_of_ble_eq_true rfl) (by omega) (by omega) dX11_count_37 ?_
    exact fin _ _ _ _ rfl (⟨by unfold ctV; rw [if_pos (by omega)], rfl⟩) dX11_count_38
  · refine z_tswIn (a := wt) (off := 38) (tgt := 39) E (by omega) dX11_count_1 (by omega) (by omega) (by rw [h_1]; rfl) (by decide) ?_
    refine z_aload_n E 0 rfl rfl dX11_count_39 ?_
    refine z_callVi (As := []) (rest := []) (wr := []) E (c_X11_aboveOnes l D κ m0 ms mp pn mt tyd mT mO mU ld up lw ua la bU bL sv xn yn sp rs pt mr S (hv) (hok)) m_X11_241 ⟨Nat.le_of_ble_eq_true rfl, Nat.le_of_ble_eq_true rfl⟩ ⟨rfl, rfl⟩ [0, 1] [] rfl rfl rfl rfl (by decide) rfl rfl rfl rfl (Nat.le_of_ble_eq_true rfl) dX11_count_40 ⟨Nat.le_of_ble_eq_true rfl, Nat.le_of_ble_eq_true rfl⟩ (fun z40 w1 hq => ?_)
    obtain ⟨rfl, rfl⟩ := hq
    exact fin _ _ _ _ rfl (⟨by unfold ctV; rw [if_neg (by omega), if_pos (by omega)], rfl⟩) dX11_count_43
  · refine z_tswIn (a := wt) (off := 43) (tgt := 44) E (by omega) dX11_count_1 (by omega) (by omega) (by rw [h_1]; rfl) (by decide) ?_
    refine z_aload_n E 0 rfl rfl dX11_count_44 ?_
    refine z_get E f_X11_32 0 rfl rfl dX11_count_45 ?_
    exact fin _ _ _ _ rfl (⟨by unfold ctV; rw [if_neg (by omega), if_neg (by omega), if_pos (by omega)], rfl⟩) dX11_count_48
  · refine z_tswIn (a := wt) (off := 48) (tgt := 49) E (by omega) dX11_count_1 (by omega) (by omega) (by rw [h_1]; rfl) (by decide) ?_
    refine z_aload_n E 0 rfl rfl dX11_count_49 ?_
    refine z_get E f_X11_180 0 rfl rfl dX11_count_50 ?_
    exact fin _ _ _ _ rfl (⟨by unfold ctV; rw [if_neg (by omega), if_neg (by omega), if_neg (by omega), if_pos (by omega)], rfl⟩) dX11_count_53
  · refine z_tswOut (a := wt) (tgt := 54) E (by omega) dX11_count_1 (by omega) (by decide) ?_
    refine z_ldc E k_X11_50 dX11_count_54 ?_
    exact fin _ _ _ _ rfl (⟨by unfold ctV; rw [if_neg (by omega), if_neg (by omega), if_neg (by omega), if_neg (by omega)], rfl⟩) dX11_count_56
abbrev rm_X11_undo : Room := { frames := 0, cells := 0, slots := 0, locals := 0 }
set_option maxRecDepth 100000 in
theorem c_X11_undo (l : Launch) (D : va_G) (κ : Nat → ClassId) (m0 : Nat) (ms : Nat) (mp : Nat) (pn : Int) (mt : Nat) (tyd : Int) (mT : Nat) (mO : Nat) (mU : Nat) (ld : Int) (up : Int) (lw : Int) (ua : Int) (la : Int) (bU : Int) (bL : Int) (sv : Int) (xn : Int) (yn : Int) (sp : Int) (rs : Int) (pt : Int) (mr : Nat) (S : Int → Int) (PA : Int → Int) (hpn : 0 ≤ pn ∧ pn ≤ 4) : ZI l yX11_undo cX11_undo 2 .int rm_X11_undo D κ [.ref m0] [(m0, .inr (11, [.ref ms, .ref mp, .int (zi pn), .ref mt, .int (zi tyd), .ref mT, .ref mO, .ref mU, .int (zi ld), .long (zl up), .long (zl lw), .long (zl ua), .long (zl la), .long (zl bU), .int (zi bL), .int (zi sv), .int (zi xn), .int (zi yn), .int (zi sp), .int (zi rs), .int (zi pt), .ref mr])), (ms, ai κ 20 S), (mp, ai κ 80 PA)] (fun z w => ∃ r : Int, ∃ S' : Int → Int, ∃ pn' : Int, (unM S PA pn r S' pn') ∧ r = z ∧ [(m0, .inr (11, [.ref ms, .ref mp, .int (zi pn'), .ref mt, .int (zi tyd), .ref mT, .ref mO, .ref mU, .int (zi ld), .long (zl up), .long (zl lw), .long (zl ua), .long (zl la), .long (zl bU), .int (zi bL), .int (zi sv), .int (zi xn), .int (zi yn), .int (zi sp), .int (zi rs), .int (zi pt), .ref mr])), (ms, ai κ 20 S'), (mp, ai κ 80 PA)] = w) := by
  refine ZI.enter (own := RX11) rfl pn_X11_undo (Nat.le_of_ble_eq_true rfl) (fun X E fin => ?_)
  show Zg X [(m0, .inr (11, [.ref ms, .ref mp, .int (zi pn), .ref mt, .int (zi tyd), .ref mT, .ref mO, .ref mU, .int (zi ld), .long (zl up), .long (zl lw), .long (zl ua), .long (zl la), .long (zl bU), .int (zi bL), .int (zi sv), .int (zi xn), .int (zi yn), .int (zi sp), .int (zi rs), .int (zi pt), .ref mr])), (ms, ai κ 20 S), (mp, ai κ 80 PA)] 0 0 0 [(0, .ref m0)] []
  refine z_aload_n E 0 rfl rfl dX11_undo_0 ?_
  refine z_get E f_X11_32 0 rfl rfl dX11_undo_1 ?_
  refine z_if_ne (tgt := 10) E (by omega) dX11_undo_4 (by decide) (fun h_4 => ?_) (fun h_4 => ?_)
  · refine z_aload_n E 0 rfl rfl dX11_undo_10 ?_
    refine z_dup E rfl dX11_undo_11 ?_
    refine z_get E f_X11_32 0 rfl rfl dX11_undo_12 ?_
    refine z_iconst E dX11_undo_15 ?_
    refine z_isub E dX11_undo_16 ?_
    refine z_put (ws' := [(m0, .inr (11, [.ref ms, .ref mp, .int (zi (pn - 1)), .ref mt, .int (zi tyd), .ref mT, .ref mO, .ref mU, .int (zi ld), .long (zl up), .long (zl lw), .long (zl ua), .long (zl la), .long (zl bU), .int (zi bL), .int (zi sv), .int (zi xn), .int (zi yn), .int (zi sp), .int (zi rs), .int (zi pt), .ref mr])), (ms, ai κ 20 S), (mp, ai κ 80 PA)]) E f_X11_32 t_X11_2 0 rfl rfl rfl (Nat.le_of_ble_eq_true rfl) rfl dX11_undo_17 ?_
    refine z_iconst E dX11_undo_20 ?_
    refine z_istore_n (lv' := [(1, .int (zi 0)), (0, .ref m0)]) E dX11_undo_21 rfl (Nat.le_of_ble_eq_true rfl) rfl ?_
    have lp_22 : ∀ (n_22 : Nat) (i : Int) (P : Int → Int), (0 ≤ i ∧ i ≤ 20) → (unI PA pn i P) → (20 - i) < (n_22 : Int) → Zg X [(m0, .inr (11, [.ref ms, .ref mp, .int (zi (pn - 1)), .ref mt, .int (zi tyd), .ref mT, .ref mO, .ref mU, .int (zi ld), .long (zl up), .long (zl lw), .long (zl ua), .long (zl la), .long (zl bU), .int (zi bL), .int (zi sv), .int (zi xn), .int (zi yn), .int (zi sp), .int (zi rs), .int (zi pt), .ref mr])), (mp, ai κ 80 PA), (ms, ai κ 20 P)] 0 0 22 [(0, .ref m0), (1, .int (zi i))] [] := by
      intro n_22
      induction n_22 with
      | zero =>
        intro i P i0 i1 hmu
        exact absurd hmu (by omega)
      | succ n_22 ih_22 =>
        intro i P i0 i1 hmu_22
        refine z_iload_n E 1 rfl rfl dX11_undo_22 ?_
        refine z_bipush E dX11_undo_23 (by decide) ?_
        refine z_ic_ge (tgt := 54) E (by omega) (by omega) dX11_undo_25 (by decide) (fun h_25 => ?_) (fun h_25 => ?_)
        · refine z_aload_n E 0 rfl rfl dX11_undo_54 ?_
          refine z_get E f_X11_32 0 rfl rfl dX11_undo_55 ?_
          refine Zg.perm (ws' := [(m0, .inr (11, [.ref ms, .ref mp, .int (zi (pn - 1)), .ref mt, .int (zi tyd), .ref mT, .ref mO, .ref mU, .int (zi ld), .long (zl up), .long (zl lw), .long (zl ua), .long (zl la), .long (zl bU), .int (zi bL), .int (zi sv), .int (zi xn), .int (zi yn), .int (zi sp), .int (zi rs), .int (zi pt), .ref mr])), (ms, ai κ 20 P), (mp, ai κ 80 PA)]) [0, 2, 1] rfl rfl ?_
          exact fin _ _ _ _ rfl (⟨_, _, _, (by exact Or.inr ⟨by omega, rfl, rfl, fun k k1 k2 => i1 k k1 (by omega)⟩), rfl, rfl⟩) dX11_undo_58
        · refine z_aload_n E 0 rfl rfl dX11_undo_28 ?_
          refine z_get E f_X11_7 0 rfl rfl dX11_undo_29 ?_
          refine z_iload_n E 1 rfl rfl dX11_undo_32 ?_
          refine z_aload_n E 0 rfl rfl dX11_undo_33 ?_
          refine z_get E f_X11_13 0 rfl rfl dX11_undo_34 ?_
          refine z_bipush E dX11_undo_37 (by decide) ?_
          refine z_aload_n E 0 rfl rfl dX11_undo_39 ?_
          refine z_get E f_X11_32 0 rfl rfl dX11_undo_40 ?_
          refine z_imul E dX11_undo_43 ?_
          refine z_iload_n E 1 rfl rfl dX11_undo_44 ?_
          refine z_iadd E dX11_undo_45 ?_
          refine z_iald E 1 rfl (Nat.le_of_ble_eq_true rfl) (by omega) (by omega) dX11_undo_46 ?_
          refine z_iast (ws' := [(m0, .inr (11, [.ref ms, .ref mp, .int (zi (pn - 1)), .ref mt, .int (zi tyd), .ref mT, .ref mO, .ref mU, .int (zi ld), .long (zl up), .long (zl lw), .long (zl ua), .long (zl la), .long (zl bU), .int (zi bL), .int (zi sv), .int (zi xn), .int (zi yn), .int (zi sp), .int (zi rs), .int (zi pt), .ref mr])), (mp, ai κ 80 PA), (ms, ai κ 20 (zu P i (PA ((20 * (pn - 1)) + i))))]) E 2 rfl (Nat.le_of_ble_eq_true rfl) (by omega) (by omega) rfl dX11_undo_47 ?_
          refine z_iinc (lv' := [(1, .int (zi (i + 1))), (0, .ref m0)]) E 1 rfl dX11_undo_48 (Nat.le_of_ble_eq_true rfl) rfl ?_
          refine z_goto (tgt := 22) E dX11_undo_51 (by decide) ?_
          refine Zg.sub (lv' := [(0, .ref m0), (1, .int (zi (i + 1)))]) [1, 0] rfl ?_
          exact ih_22 (i + 1) (zu P i (PA ((20 * (pn - 1)) + i))) (by omega) (unI_s i1) (by omega)
    refine Zg.sub (lv' := [(0, .ref m0), (1, .int (zi 0))]) [1, 0] rfl ?_
    refine Zg.perm (ws' := [(m0, .inr (11, [.ref ms, .ref mp, .int (zi (pn - 1)), .ref mt, .int (zi tyd), .ref mT, .ref mO, .ref mU, .int (zi ld), .long (zl up), .long (zl lw), .long (zl ua), .long (zl la), .long (zl bU), .int (zi bL), .int (zi sv), .int (zi xn), .int (zi yn), .int (zi sp), .int (zi rs), .int (zi pt), .ref mr])), (mp, ai κ 80 PA), (ms, ai κ 20 S)]) [0, 2, 1] rfl rfl ?_
    exact lp_22 ((20 - 0 : Int).toNat + 1) 0 S (by omega) (fun j j1 j2 => absurd j1 (by omega)) (by omega)
  · refine z_ldc E k_X11_55 dX11_undo_7 ?_
    exact fin _ _ _ _ rfl (⟨_, _, _, (by exact Or.inl ⟨by omega, rfl, rfl, rfl⟩), rfl, rfl⟩) dX11_undo_9
abbrev rm_X11_type : Room := { frames := 1, cells := 0, slots := 0, locals := 25 }
set_option maxRecDepth 100000 in
theorem c_X11_type (l : Launch) (D : va_G) (κ : Nat → ClassId) (m0 : Nat) (ms : Nat) (mp : Nat) (pn : Int) (mt : Nat) (tyd : Int) (mT : Nat) (mO : Nat) (mU : Nat) (ld : Int) (up : Int) (lw : Int) (ua : Int) (la : Int) (bU : Int) (bL : Int) (sv : Int) (xn : Int) (yn : Int) (sp : Int) (rs : Int) (pt : Int) (mr : Nat) (TX : Int → Int) (ch : Int) (hr0 : -2147483648 ≤ ch ∧ ch ≤ 2147483647) (hty : 0 ≤ tyd ∧ tyd ≤ 40) : ZI l yX11_type cX11_type 2 .int rm_X11_type D κ [.ref m0, .int (zi ch)] [(m0, .inr (11, [.ref ms, .ref mp, .int (zi pn), .ref mt, .int (zi tyd), .ref mT, .ref mO, .ref mU, .int (zi ld), .long (zl up), .long (zl lw), .long (zl ua), .long (zl la), .long (zl bU), .int (zi bL), .int (zi sv), .int (zi xn), .int (zi yn), .int (zi sp), .int (zi rs), .int (zi pt), .ref mr])), (mt, ai κ 40 TX)] (fun z w => ∃ r : Int, ∃ tyd' : Int, ∃ TX' : Int → Int, (tyC TX tyd ch r TX' tyd') ∧ r = z ∧ [(m0, .inr (11, [.ref ms, .ref mp, .int (zi pn), .ref mt, .int (zi tyd'), .ref mT, .ref mO, .ref mU, .int (zi ld), .long (zl up), .long (zl lw), .long (zl ua), .long (zl la), .long (zl bU), .int (zi bL), .int (zi sv), .int (zi xn), .int (zi yn), .int (zi sp), .int (zi rs), .int (zi pt), .ref mr])), (mt, ai κ 40 TX')] = w) := by
  refine ZI.enter (own := RX11) rfl pn_X11_type (Nat.le_of_ble_eq_true rfl) (fun X E fin => ?_)
  show Zg X [(m0, .inr (11, [.ref ms, .ref mp, .int (zi pn), .ref mt, .int (zi tyd), .ref mT, .ref mO, .ref mU, .int (zi ld), .long (zl up), .long (zl lw), .long (zl ua), .long (zl la), .long (zl bU), .int (zi bL), .int (zi sv), .int (zi xn), .int (zi yn), .int (zi sp), .int (zi rs), .int (zi pt), .ref mr])), (mt, ai κ 40 TX)] 0 0 0 [(0, .ref m0), (1, .int (zi ch))] []
  refine z_iload_n E 1 rfl rfl dX11_type_0 ?_
  refine z_i2l E (by omega) dX11_type_1 ?_
  refine z_ldc2 E k_X11_244 dX11_type_2 ?_
  refine z_ldc2 E k_X11_246 dX11_type_5 ?_
  refine z_callSi (As := [.long (zl ch), .long (zl 32), .long (zl 126)]) (rest := []) (wr := [(m0, .inr (11, [.ref ms, .ref mp, .int (zi pn), .ref mt, .int (zi tyd), .ref mT, .ref mO, .ref mU, .int (zi ld), .long (zl up), .long (zl lw), .long (zl ua), .long (zl la), .long (zl bU), .int (zi bL), .int (zi sv), .int (zi xn), .int (zi yn), .int (zi sp), .int (zi rs), .int (zi pt), .ref mr])), (mt, ai κ 40 TX)]) E (c_X11_in l D κ ch 32 126 (by omega) (by omega) (by omega)) m_X11_44 ⟨Nat.le_of_ble_eq_true rfl, Nat.le_of_ble_eq_true rfl⟩ ⟨rfl, rfl⟩ [] [0, 1] rfl rfl rfl rfl (by decide) rfl rfl (Nat.le_of_ble_eq_true rfl) dX11_type_8 ⟨Nat.le_of_ble_eq_true rfl, Nat.le_of_ble_eq_true rfl⟩ (fun z8 w1 hq => ?_)
  obtain ⟨⟨rfl, hc_8⟩ | ⟨rfl, hc_8⟩, rfl⟩ := hq
  · refine z_if_ne (tgt := 17) E (by omega) dX11_type_11 (by decide) (fun _ => ?_) (fun h => absurd h (by decide))
    refine z_aload_n E 0 rfl rfl dX11_type_17 ?_
    refine z_get E f_X11_180 0 rfl rfl dX11_type_18 ?_
    refine z_bipush E dX11_type_21 (by decide) ?_
    refine z_ic_ne (tgt := 29) E (by omega) (by omega) dX11_type_23 (by decide) (fun h_23 => ?_) (fun h_23 => ?_)
    · refine z_aload_n E 0 rfl rfl dX11_type_29 ?_
      refine z_get E f_X11_16 0 rfl rfl dX11_type_30 ?_
      refine z_aload_n E 0 rfl rfl dX11_type_33 ?_
      refine z_get E f_X11_180 0 rfl rfl dX11_type_34 ?_
      refine z_iload_n E 1 rfl rfl dX11_type_37 ?_
      refine z_iast (ws' := [(m0, .inr (11, [.ref ms, .ref mp, .int (zi pn), .ref mt, .int (zi tyd), .ref mT, .ref mO, .ref mU, .int (zi ld), .long (zl up), .long (zl lw), .long (zl ua), .long (zl la), .long (zl bU), .int (zi bL), .int (zi sv), .int (zi xn), .int (zi yn), .int (zi sp), .int (zi rs), .int (zi pt), .ref mr])), (mt, ai κ 40 (zu TX tyd ch))]) E 1 rfl (Nat.le_of_ble_eq_true rfl) (by omega) (by omega) rfl dX11_type_38 ?_
      refine z_aload_n E 0 rfl rfl dX11_type_39 ?_
      refine z_dup E rfl dX11_type_40 ?_
      refine z_get E f_X11_180 0 rfl rfl dX11_type_41 ?_
      refine z_iconst E dX11_type_44 ?_
      refine z_iadd E dX11_type_45 ?_
      refine z_put (ws' := [(m0, .inr (11, [.ref ms, .ref mp, .int (zi pn), .ref mt, .int (zi (tyd + 1)), .ref mT, .ref mO, .ref mU, .int (zi ld), .long (zl up), .long (zl lw), .long (zl ua), .long (zl la), .long (zl bU), .int (zi bL), .int (zi sv), .int (zi xn), .int (zi yn), .int (zi sp), .int (zi rs), .int (zi pt), .ref mr])), (mt, ai κ 40 (zu TX tyd ch))]) E f_X11_180 t_X11_4 0 rfl rfl rfl (Nat.le_of_ble_eq_true rfl) rfl dX11_type_46 ?_
      refine z_aload_n E 0 rfl rfl dX11_type_49 ?_
      refine z_get E f_X11_180 0 rfl rfl dX11_type_50 ?_
      exact fin _ _ _ _ rfl (⟨_, _, _, (by exact Or.inr (Or.inr ⟨hc_8, by omega, rfl, rfl, rfl⟩)), rfl, rfl⟩) dX11_type_53
    · refine z_ldc E k_X11_81 dX11_type_26 ?_
      exact fin _ _ _ _ rfl (⟨_, _, _, (by exact Or.inr (Or.inl ⟨hc_8, by omega, rfl, rfl, rfl⟩)), rfl, rfl⟩) dX11_type_28
  · refine z_if_ne (tgt := 17) E (by omega) dX11_type_11 (by decide) (fun h => absurd h (by decide)) (fun _ => ?_)
    refine z_ldc E k_X11_50 dX11_type_14 ?_
    exact fin _ _ _ _ rfl (⟨_, _, _, (by exact Or.inl ⟨hc_8, rfl, rfl, rfl⟩), rfl, rfl⟩) dX11_type_16
abbrev rm_X11_clearText : Room := { frames := 0, cells := 0, slots := 0, locals := 0 }
set_option maxRecDepth 100000 in
theorem c_X11_clearText (l : Launch) (D : va_G) (κ : Nat → ClassId) (m0 : Nat) (ms : Nat) (mp : Nat) (pn : Int) (mt : Nat) (tyd : Int) (mT : Nat) (mO : Nat) (mU : Nat) (ld : Int) (up : Int) (lw : Int) (ua : Int) (la : Int) (bU : Int) (bL : Int) (sv : Int) (xn : Int) (yn : Int) (sp : Int) (rs : Int) (pt : Int) (mr : Nat)  : ZI l yX11_clearText cX11_clearText 2 .int rm_X11_clearText D κ [.ref m0] [(m0, .inr (11, [.ref ms, .ref mp, .int (zi pn), .ref mt, .int (zi tyd), .ref mT, .ref mO, .ref mU, .int (zi ld), .long (zl up), .long (zl lw), .long (zl ua), .long (zl la), .long (zl bU), .int (zi bL), .int (zi sv), .int (zi xn), .int (zi yn), .int (zi sp), .int (zi rs), .int (zi pt), .ref mr]))] (fun z w => tyd = z ∧ [(m0, .inr (11, [.ref ms, .ref mp, .int (zi pn), .ref mt, .int (zi 0), .ref mT, .ref mO, .ref mU, .int (zi ld), .long (zl up), .long (zl lw), .long (zl ua), .long (zl la), .long (zl bU), .int (zi bL), .int (zi sv), .int (zi xn), .int (zi yn), .int (zi sp), .int (zi rs), .int (zi pt), .ref mr]))] = w) := by
  refine ZI.enter (own := RX11) rfl pn_X11_clearText (Nat.le_of_ble_eq_true rfl) (fun X E fin => ?_)
  show Zg X [(m0, .inr (11, [.ref ms, .ref mp, .int (zi pn), .ref mt, .int (zi tyd), .ref mT, .ref mO, .ref mU, .int (zi ld), .long (zl up), .long (zl lw), .long (zl ua), .long (zl la), .long (zl bU), .int (zi bL), .int (zi sv), .int (zi xn), .int (zi yn), .int (zi sp), .int (zi rs), .int (zi pt), .ref mr]))] 0 0 0 [(0, .ref m0)] []
  refine z_aload_n E 0 rfl rfl dX11_clearText_0 ?_
  refine z_get E f_X11_180 0 rfl rfl dX11_clearText_1 ?_
  refine z_istore_n (lv' := [(1, .int (zi tyd)), (0, .ref m0)]) E dX11_clearText_4 rfl (Nat.le_of_ble_eq_true rfl) rfl ?_
  refine z_aload_n E 1 rfl rfl dX11_clearText_5 ?_
  refine z_iconst E dX11_clearText_6 ?_
  refine z_put (ws' := [(m0, .inr (11, [.ref ms, .ref mp, .int (zi pn), .ref mt, .int (zi 0), .ref mT, .ref mO, .ref mU, .int (zi ld), .long (zl up), .long (zl lw), .long (zl ua), .long (zl la), .long (zl bU), .int (zi bL), .int (zi sv), .int (zi xn), .int (zi yn), .int (zi sp), .int (zi rs), .int (zi pt), .ref mr]))]) E f_X11_180 t_X11_4 0 rfl rfl rfl (Nat.le_of_ble_eq_true rfl) rfl dX11_clearText_7 ?_
  refine z_iload_n E 0 rfl rfl dX11_clearText_10 ?_
  exact fin _ _ _ _ rfl (by first | exact ⟨rfl, rfl⟩ | omega) dX11_clearText_11
abbrev rm_X11_init : Room := { frames := 1, cells := 7, slots := 1366, locals := 12 }
set_option maxRecDepth 100000 in
theorem c_X11_init (l : Launch) (D : va_G) (κ : Nat → ClassId) (m0 : Nat)  : ZV l yX11_init cX11_init 1 rm_X11_init D κ [.ref m0] [(m0, .inr (11, [.null, .null, .int (zi 0), .null, .int (zi 0), .null, .null, .null, .int (zi 0), .long (zl 0), .long (zl 0), .long (zl 0), .long (zl 0), .long (zl 0), .int (zi 0), .int (zi 0), .int (zi 0), .int (zi 0), .int (zi 0), .int (zi 0), .int (zi 0), .null]))] (fun w => ∃ ms : Nat, ∃ mp : Nat, ∃ mt : Nat, ∃ mT : Nat, ∃ mO : Nat, ∃ mU : Nat, ∃ mr : Nat, [(m0, .inr (11, [.ref ms, .ref mp, .int (zi 0), .ref mt, .int (zi 0), .ref mT, .ref mO, .ref mU, .int (zi 0), .long (zl 0), .long (zl 0), .long (zl 0), .long (zl 0), .long (zl 0), .int (zi 0), .int (zi 0), .int (zi 0), .int (zi 0), .int (zi 0), .int (zi 0), .int (zi 0), .ref mr])), (ms, ai κ 20 (zu (zu (fun _ => 0) 1 2) 2 1)), (mp, ai κ 80 (fun _ => 0)), (mt, ai κ 40 (fun _ => 0)), (mT, ai κ 401 (fun _ => 0)), (mO, al κ 402 (fun _ => 0)), (mU, al κ 402 (fun _ => 0)), (mr, ai κ 21 (fun _ => 0))] = w) := by
  refine ZV.enter0 (own := RX11) rfl pn_X11_init (Nat.le_of_ble_eq_true rfl) (fun X E hini fin => ?_)
  have hini := hini rfl
  show Zg X [(m0, .inr (11, [.null, .null, .int (zi 0), .null, .int (zi 0), .null, .null, .null, .int (zi 0), .long (zl 0), .long (zl 0), .long (zl 0), .long (zl 0), .long (zl 0), .int (zi 0), .int (zi 0), .int (zi 0), .int (zi 0), .int (zi 0), .int (zi 0), .int (zi 0), .null]))] 0 0 0 [(0, .ref m0)] []
  refine z_aload_n E 0 rfl rfl dX11_init_0 ?_
  refine z_objInit E m_X11_1 in_obj co_obj (Nat.le_of_ble_eq_true rfl) (Nat.le_of_ble_eq_true rfl) dX11_init_1 ?_
  refine z_aload_n E 0 rfl rfl dX11_init_4 ?_
  refine z_bipush E dX11_init_5 (by decide) ?_
  refine z_newa_ai (N := 20) E (Nat.le_of_ble_eq_true rfl) ac_int (Nat.le_of_ble_eq_true rfl) (Nat.le_of_ble_eq_true rfl) dX11_init_7 (fun q1 => ?_)
  show Zg X [(m0, .inr (11, [.null, .null, .int (zi 0), .null, .int (zi 0), .null, .null, .null, .int (zi 0), .long (zl 0), .long (zl 0), .long (zl 0), .long (zl 0), .long (zl 0), .int (zi 0), .int (zi 0), .int (zi 0), .int (zi 0), .int (zi 0), .int (zi 0), .int (zi 0), .null])), (q1, ai κ 20 (fun _ => 0))] 1 20 9 [(0, .ref m0)] [.ref q1, .ref m0]
  refine z_putF (ws' := [(m0, .inr (11, [.ref q1, .null, .int (zi 0), .null, .int (zi 0), .null, .null, .null, .int (zi 0), .long (zl 0), .long (zl 0), .long (zl 0), .long (zl 0), .long (zl 0), .int (zi 0), .int (zi 0), .int (zi 0), .int (zi 0), .int (zi 0), .int (zi 0), .int (zi 0), .null])), (q1, ai κ 20 (fun _ => 0))]) E hini f_X11_7 t_X11_0 (fun q h => by cases h; rfl) 0 rfl rfl rfl (Nat.le_of_ble_eq_true rfl) rfl dX11_init_9 ?_
  refine z_aload_n E 0 rfl rfl dX11_init_12 ?_
  refine z_bipush E dX11_init_13 (by decide) ?_
  refine z_newa_ai (N := 80) E (Nat.le_of_ble_eq_true rfl) ac_int (Nat.le_of_ble_eq_true rfl) (Nat.le_of_ble_eq_true rfl) dX11_init_15 (fun q2 => ?_)
  show Zg X [(m0, .inr (11, [.ref q1, .null, .int (zi 0), .null, .int (zi 0), .null, .null, .null, .int (zi 0), .long (zl 0), .long (zl 0), .long (zl 0), .long (zl 0), .long (zl 0), .int (zi 0), .int (zi 0), .int (zi 0), .int (zi 0), .int (zi 0), .int (zi 0), .int (zi 0), .null])), (q1, ai κ 20 (fun _ => 0)), (q2, ai κ 80 (fun _ => 0))] 2 100 17 [(0, .ref m0)] [.ref q2, .ref m0]
  refine z_putF (ws' := [(m0, .inr (11, [.ref q1, .ref q2, .int (zi 0), .null, .int (zi 0), .null, .null, .null, .int (zi 0), .long (zl 0), .long (zl 0), .long (zl 0), .long (zl 0), .long (zl 0), .int (zi 0), .int (zi 0), .int (zi 0), .int (zi 0), .int (zi 0), .int (zi 0), .int (zi 0), .null])), (q1, ai κ 20 (fun _ => 0)), (q2, ai κ 80 (fun _ => 0))]) E hini f_X11_13 t_X11_1 (fun q h => by cases h; rfl) 0 rfl rfl rfl (Nat.le_of_ble_eq_true rfl) rfl dX11_init_17 ?_
  refine z_aload_n E 0 rfl rfl dX11_init_20 ?_
  refine z_bipush E dX11_init_21 (by decide) ?_
  refine z_newa_ai (N := 40) E (Nat.le_of_ble_eq_true rfl) ac_int (Nat.le_of_ble_eq_true rfl) (Nat.le_of_ble_eq_true rfl) dX11_init_23 (fun q3 => ?_)
  show Zg X [(m0, .inr (11, [.ref q1, .ref q2, .int (zi 0), .null, .int (zi 0), .null, .null, .null, .int (zi 0), .long (zl 0), .long (zl 0), .long (zl 0), .long (zl 0), .long (zl 0), .int (zi 0), .int (zi 0), .int (zi 0), .int (zi 0), .int (zi 0), .int (zi 0), .int (zi 0), .null])), (q1, ai κ 20 (fun _ => 0)), (q2, ai κ 80 (fun _ => 0)), (q3, ai κ 40 (fun _ => 0))] 3 140 25 [(0, .ref m0)] [.ref q3, .ref m0]
  refine z_putF (ws' := [(m0, .inr (11, [.ref q1, .ref q2, .int (zi 0), .ref q3, .int (zi 0), .null, .null, .null, .int (zi 0), .long (zl 0), .long (zl 0), .long (zl 0), .long (zl 0), .long (zl 0), .int (zi 0), .int (zi 0), .int (zi 0), .int (zi 0), .int (zi 0), .int (zi 0), .int (zi 0), .null])), (q1, ai κ 20 (fun _ => 0)), (q2, ai κ 80 (fun _ => 0)), (q3, ai κ 40 (fun _ => 0))]) E hini f_X11_16 t_X11_3 (fun q h => by cases h; rfl) 0 rfl rfl rfl (Nat.le_of_ble_eq_true rfl) rfl dX11_init_25 ?_
  refine z_aload_n E 0 rfl rfl dX11_init_28 ?_
  refine z_sipush E dX11_init_29 (by decide) ?_
  refine z_newa_ai (N := 401) E (Nat.le_of_ble_eq_true rfl) ac_int (Nat.le_of_ble_eq_true rfl) (Nat.le_of_ble_eq_true rfl) dX11_init_32 (fun q4 => ?_)
  show Zg X [(m0, .inr (11, [.ref q1, .ref q2, .int (zi 0), .ref q3, .int (zi 0), .null, .null, .null, .int (zi 0), .long (zl 0), .long (zl 0), .long (zl 0), .long (zl 0), .long (zl 0), .int (zi 0), .int (zi 0), .int (zi 0), .int (zi 0), .int (zi 0), .int (zi 0), .int (zi 0), .null])), (q1, ai κ 20 (fun _ => 0)), (q2, ai κ 80 (fun _ => 0)), (q3, ai κ 40 (fun _ => 0)), (q4, ai κ 401 (fun _ => 0))] 4 541 34 [(0, .ref m0)] [.ref q4, .ref m0]
  refine z_putF (ws' := [(m0, .inr (11, [.ref q1, .ref q2, .int (zi 0), .ref q3, .int (zi 0), .ref q4, .null, .null, .int (zi 0), .long (zl 0), .long (zl 0), .long (zl 0), .long (zl 0), .long (zl 0), .int (zi 0), .int (zi 0), .int (zi 0), .int (zi 0), .int (zi 0), .int (zi 0), .int (zi 0), .null])), (q1, ai κ 20 (fun _ => 0)), (q2, ai κ 80 (fun _ => 0)), (q3, ai κ 40 (fun _ => 0)), (q4, ai κ 401 (fun _ => 0))]) E hini f_X11_19 t_X11_5 (fun q h => by cases h; rfl) 0 rfl rfl rfl (Nat.le_of_ble_eq_true rfl) rfl dX11_init_34 ?_
  refine z_aload_n E 0 rfl rfl dX11_init_37 ?_
  refine z_sipush E dX11_init_38 (by decide) ?_
  refine z_newa_al (N := 402) E (Nat.le_of_ble_eq_true rfl) ac_long (Nat.le_of_ble_eq_true rfl) (Nat.le_of_ble_eq_true rfl) dX11_init_41 (fun q5 => ?_)
  show Zg X [(m0, .inr (11, [.ref q1, .ref q2, .int (zi 0), .ref q3, .int (zi 0), .ref q4, .null, .null, .int (zi 0), .long (zl 0), .long (zl 0), .long (zl 0), .long (zl 0), .long (zl 0), .int (zi 0), .int (zi 0), .int (zi 0), .int (zi 0), .int (zi 0), .int (zi 0), .int (zi 0), .null])), (q1, ai κ 20 (fun _ => 0)), (q2, ai κ 80 (fun _ => 0)), (q3, ai κ 40 (fun _ => 0)), (q4, ai κ 401 (fun _ => 0)), (q5, al κ 402 (fun _ => 0))] 5 943 43 [(0, .ref m0)] [.ref q5, .ref m0]
  refine z_putF (ws' := [(m0, .inr (11, [.ref q1, .ref q2, .int (zi 0), .ref q3, .int (zi 0), .ref q4, .ref q5, .null, .int (zi 0), .long (zl 0), .long (zl 0), .long (zl 0), .long (zl 0), .long (zl 0), .int (zi 0), .int (zi 0), .int (zi 0), .int (zi 0), .int (zi 0), .int (zi 0), .int (zi 0), .null])), (q1, ai κ 20 (fun _ => 0)), (q2, ai κ 80 (fun _ => 0)), (q3, ai κ 40 (fun _ => 0)), (q4, ai κ 401 (fun _ => 0)), (q5, al κ 402 (fun _ => 0))]) E hini f_X11_22 t_X11_6 (fun q h => by cases h; rfl) 0 rfl rfl rfl (Nat.le_of_ble_eq_true rfl) rfl dX11_init_43 ?_
  refine z_aload_n E 0 rfl rfl dX11_init_46 ?_
  refine z_sipush E dX11_init_47 (by decide) ?_
  refine z_newa_al (N := 402) E (Nat.le_of_ble_eq_true rfl) ac_long (Nat.le_of_ble_eq_true rfl) (Nat.le_of_ble_eq_true rfl) dX11_init_50 (fun q6 => ?_)
  show Zg X [(m0, .inr (11, [.ref q1, .ref q2, .int (zi 0), .ref q3, .int (zi 0), .ref q4, .ref q5, .null, .int (zi 0), .long (zl 0), .long (zl 0), .long (zl 0), .long (zl 0), .long (zl 0), .int (zi 0), .int (zi 0), .int (zi 0), .int (zi 0), .int (zi 0), .int (zi 0), .int (zi 0), .null])), (q1, ai κ 20 (fun _ => 0)), (q2, ai κ 80 (fun _ => 0)), (q3, ai κ 40 (fun _ => 0)), (q4, ai κ 401 (fun _ => 0)), (q5, al κ 402 (fun _ => 0)), (q6, al κ 402 (fun _ => 0))] 6 1345 52 [(0, .ref m0)] [.ref q6, .ref m0]
  refine z_putF (ws' := [(m0, .inr (11, [.ref q1, .ref q2, .int (zi 0), .ref q3, .int (zi 0), .ref q4, .ref q5, .ref q6, .int (zi 0), .long (zl 0), .long (zl 0), .long (zl 0), .long (zl 0), .long (zl 0), .int (zi 0), .int (zi 0), .int (zi 0), .int (zi 0), .int (zi 0), .int (zi 0), .int (zi 0), .null])), (q1, ai κ 20 (fun _ => 0)), (q2, ai κ 80 (fun _ => 0)), (q3, ai κ 40 (fun _ => 0)), (q4, ai κ 401 (fun _ => 0)), (q5, al κ 402 (fun _ => 0)), (q6, al κ 402 (fun _ => 0))]) E hini f_X11_26 t_X11_7 (fun q h => by cases h; rfl) 0 rfl rfl rfl (Nat.le_of_ble_eq_true rfl) rfl dX11_init_52 ?_
  refine z_aload_n E 0 rfl rfl dX11_init_55 ?_
  refine z_bipush E dX11_init_56 (by decide) ?_
  refine z_newa_ai (N := 21) E (Nat.le_of_ble_eq_true rfl) ac_int (Nat.le_of_ble_eq_true rfl) (Nat.le_of_ble_eq_true rfl) dX11_init_58 (fun q7 => ?_)
  show Zg X [(m0, .inr (11, [.ref q1, .ref q2, .int (zi 0), .ref q3, .int (zi 0), .ref q4, .ref q5, .ref q6, .int (zi 0), .long (zl 0), .long (zl 0), .long (zl 0), .long (zl 0), .long (zl 0), .int (zi 0), .int (zi 0), .int (zi 0), .int (zi 0), .int (zi 0), .int (zi 0), .int (zi 0), .null])), (q1, ai κ 20 (fun _ => 0)), (q2, ai κ 80 (fun _ => 0)), (q3, ai κ 40 (fun _ => 0)), (q4, ai κ 401 (fun _ => 0)), (q5, al κ 402 (fun _ => 0)), (q6, al κ 402 (fun _ => 0)), (q7, ai κ 21 (fun _ => 0))] 7 1366 60 [(0, .ref m0)] [.ref q7, .ref m0]
  refine z_putF (ws' := [(m0, .inr (11, [.ref q1, .ref q2, .int (zi 0), .ref q3, .int (zi 0), .ref q4, .ref q5, .ref q6, .int (zi 0), .long (zl 0), .long (zl 0), .long (zl 0), .long (zl 0), .long (zl 0), .int (zi 0), .int (zi 0), .int (zi 0), .int (zi 0), .int (zi 0), .int (zi 0), .int (zi 0), .ref q7])), (q1, ai κ 20 (fun _ => 0)), (q2, ai κ 80 (fun _ => 0)), (q3, ai κ 40 (fun _ => 0)), (q4, ai κ 401 (fun _ => 0)), (q5, al κ 402 (fun _ => 0)), (q6, al κ 402 (fun _ => 0)), (q7, ai κ 21 (fun _ => 0))]) E hini f_X11_29 t_X11_21 (fun q h => by cases h; rfl) 0 rfl rfl rfl (Nat.le_of_ble_eq_true rfl) rfl dX11_init_60 ?_
  refine z_aload_n E 0 rfl rfl dX11_init_63 ?_
  refine z_get E f_X11_7 0 rfl rfl dX11_init_64 ?_
  refine z_iconst E dX11_init_67 ?_
  refine z_iconst E dX11_init_68 ?_
  refine z_iast (ws' := [(m0, .inr (11, [.ref q1, .ref q2, .int (zi 0), .ref q3, .int (zi 0), .ref q4, .ref q5, .ref q6, .int (zi 0), .long (zl 0), .long (zl 0), .long (zl 0), .long (zl 0), .long (zl 0), .int (zi 0), .int (zi 0), .int (zi 0), .int (zi 0), .int (zi 0), .int (zi 0), .int (zi 0), .ref q7])), (q1, ai κ 20 (zu (fun _ => 0) 1 2)), (q2, ai κ 80 (fun _ => 0)), (q3, ai κ 40 (fun _ => 0)), (q4, ai κ 401 (fun _ => 0)), (q5, al κ 402 (fun _ => 0)), (q6, al κ 402 (fun _ => 0)), (q7, ai κ 21 (fun _ => 0))]) E 1 rfl (Nat.le_of_ble_eq_true rfl) (by omega) (by omega) rfl dX11_init_69 ?_
  refine z_aload_n E 0 rfl rfl dX11_init_70 ?_
  refine z_get E f_X11_7 0 rfl rfl dX11_init_71 ?_
  refine z_iconst E dX11_init_74 ?_
  refine z_iconst E dX11_init_75 ?_
  refine z_iast (ws' := [(m0, .inr (11, [.ref q1, .ref q2, .int (zi 0), .ref q3, .int (zi 0), .ref q4, .ref q5, .ref q6, .int (zi 0), .long (zl 0), .long (zl 0), .long (zl 0), .long (zl 0), .long (zl 0), .int (zi 0), .int (zi 0), .int (zi 0), .int (zi 0), .int (zi 0), .int (zi 0), .int (zi 0), .ref q7])), (q1, ai κ 20 (zu (zu (fun _ => 0) 1 2) 2 1)), (q2, ai κ 80 (fun _ => 0)), (q3, ai κ 40 (fun _ => 0)), (q4, ai κ 401 (fun _ => 0)), (q5, al κ 402 (fun _ => 0)), (q6, al κ 402 (fun _ => 0)), (q7, ai κ 21 (fun _ => 0))]) E 1 rfl (Nat.le_of_ble_eq_true rfl) (by omega) (by omega) rfl dX11_init_76 ?_
  exact fin _ _ _ (by first | exact ⟨_, _, _, _, _, _, _, rfl⟩ | omega) dX11_init_77
