abbrev rm_X11_root : Room := { frames := 0, cells := 0, slots := 0, locals := 0 }
set_option maxRecDepth 100000 in
theorem c_X11_root (l : Launch) (D : va_G) (κ : Nat → ClassId) (v : Int) (hv : 0 ≤ v ∧ v < 16000000000000) : ZL l yX11_root cX11_root 9 rm_X11_root D κ [.long (zl v)] [] (fun z w => (rt v) = z ∧ [] = w) := by
  refine ZL.enter (own := RX11) rfl pn_X11_root (Nat.le_of_ble_eq_true rfl) (fun X E fin => ?_)
  show Zg X [] 0 0 0 [(0, .long (zl v))] []
  refine z_lconst0 E dX11_root_0 ?_
  refine z_lstore_n (lv' := [(2, .long (zl 0)), (0, .long (zl v))]) E dX11_root_1 rfl (Nat.le_of_ble_eq_true rfl) rfl ?_
  refine z_ldc2 E k_X11_36 dX11_root_2 ?_
  refine z_lstore (lv' := [(4, .long (zl 4000000)), (2, .long (zl 0)), (0, .long (zl v))]) E dX11_root_5 (Nat.le_of_ble_eq_true rfl) rfl ?_
  have lp_7 : ∀ (n_7 : Nat) (a : Int) (b : Int), (0 ≤ a ∧ a < b ∧ b ≤ 4000000) → (a * a ≤ v ∧ v < b * b) → (b - a) < (n_7 : Int) → Zg X [] 0 0 7 [(0, .long (zl v)), (2, .long (zl a)), (4, .long (zl b))] [] := by
    intro n_7
    induction n_7 with
    | zero =>
      intro a b i0 i1 hmu
      exact absurd hmu (by omega)
    | succ n_7 ih_7 =>
      intro a b i0 i1 hmu_7
      refine z_lload E 2 rfl dX11_root_7 ?_
      refine z_lload_n E 1 rfl rfl dX11_root_9 ?_
      refine z_lsub E dX11_root_10 ?_
      refine z_lconst1 E dX11_root_11 ?_
      refine z_lc_le (tgt := 72) E (by omega) (by omega) dX11_root_12 dX11_root_13 (by decide) (fun h_12 => ?_) (fun h_12 => ?_)
      · refine z_lload_n E 1 rfl rfl dX11_root_72 ?_
        exact fin _ _ _ _ (⟨root_i i0.1 i1.1 i1.2 (by omega) i0.2.1, rfl⟩) dX11_root_73
      · refine z_lload_n E 1 rfl rfl dX11_root_16 ?_
        refine z_lload E 2 rfl dX11_root_17 ?_
        refine z_ladd E dX11_root_19 ?_
        refine z_ldc2 E k_X11_38 dX11_root_20 ?_
        refine z_ldiv E (by omega) (by omega) (by omega) dX11_root_23 ?_
        refine z_lstore (lv' := [(6, .long (zl (Int.tdiv (a + b) 2))), (0, .long (zl v)), (2, .long (zl a)), (4, .long (zl b))]) E dX11_root_24 (Nat.le_of_ble_eq_true rfl) rfl ?_
        have hd1 := (tdiv_spec (a := a + b) (b := 2) (by omega)).1 (by omega)
        obtain ⟨md, hmd⟩ : ∃ md : Int, md = Int.tdiv (a + b) 2 := ⟨_, rfl⟩
        rw [← hmd]
        rw [← hmd] at hd1
        have hb1 := sq_bd (a := md) (M := 4000000) (by omega)
        refine z_lload E 0 rfl dX11_root_26 ?_
        refine z_lload E 0 rfl dX11_root_28 ?_
        refine z_lmul E dX11_root_30 ?_
        refine z_lload_n E 1 rfl rfl dX11_root_31 ?_
        refine z_lc_gt (tgt := 40) E (by omega) (by omega) dX11_root_32 dX11_root_33 (by decide) (fun h_32 => ?_) (fun h_32 => ?_)
        · refine z_iconst E dX11_root_40 ?_
          refine z_istore (lv' := [(8, .int (zi 0)), (6, .long (zl md)), (0, .long (zl v)), (2, .long (zl a)), (4, .long (zl b))]) E dX11_root_41 (Nat.le_of_ble_eq_true rfl) rfl ?_
          refine z_iload E 0 rfl dX11_root_43 ?_
          refine z_if_eq (tgt := 53) E (by omega) dX11_root_45 (by decide) (fun _ => ?_) (fun h => absurd h (by decide))
          refine z_lload_n E 3 rfl rfl dX11_root_53 ?_
          refine z_lstore_n (lv' := [(2, .long (zl a)), (8, .int (zi 0)), (6, .long (zl md)), (0, .long (zl v)), (4, .long (zl b))]) E dX11_root_54 rfl (Nat.le_of_ble_eq_true rfl) rfl ?_
          refine z_iload E 1 rfl dX11_root_55 ?_
          refine z_if_eq (tgt := 65) E (by omega) dX11_root_57 (by decide) (fun _ => ?_) (fun h => absurd h (by decide))
          refine z_lload E 2 rfl dX11_root_65 ?_
          refine z_lstore (lv' := [(4, .long (zl md)), (2, .long (zl a)), (8, .int (zi 0)), (6, .long (zl md)), (0, .long (zl v))]) E dX11_root_67 (Nat.le_of_ble_eq_true rfl) rfl ?_
          refine z_goto (tgt := 7) E dX11_root_69 (by decide) ?_
          refine Zg.sub (lv' := [(0, .long (zl v)), (2, .long (zl a)), (4, .long (zl md))]) [4, 1, 0] rfl ?_
          exact ih_7 a md (by omega) (⟨i1.1, by omega⟩) (by omega)
        · refine z_iconst E dX11_root_36 ?_
          refine z_goto (tgt := 41) E dX11_root_37 (by decide) ?_
          refine z_istore (lv' := [(8, .int (zi 1)), (6, .long (zl md)), (0, .long (zl v)), (2, .long (zl a)), (4, .long (zl b))]) E dX11_root_41 (Nat.le_of_ble_eq_true rfl) rfl ?_
          refine z_iload E 0 rfl dX11_root_43 ?_
          refine z_if_eq (tgt := 53) E (by omega) dX11_root_45 (by decide) (fun h => absurd h (by decide)) (fun _ => ?_)
          refine z_lload E 1 rfl dX11_root_48 ?_
          refine z_goto (tgt := 54) E dX11_root_50 (by decide) ?_
          refine z_lstore_n (lv' := [(2, .long (zl md)), (8, .int (zi 1)), (6, .long (zl md)), (0, .long (zl v)), (4, .long (zl b))]) E dX11_root_54 rfl (Nat.le_of_ble_eq_true rfl) rfl ?_
          refine z_iload E 1 rfl dX11_root_55 ?_
          refine z_if_eq (tgt := 65) E (by omega) dX11_root_57 (by decide) (fun h => absurd h (by decide)) (fun _ => ?_)
          refine z_lload E 4 rfl dX11_root_60 ?_
          refine z_goto (tgt := 67) E dX11_root_62 (by decide) ?_
          refine z_lstore (lv' := [(4, .long (zl b)), (2, .long (zl md)), (8, .int (zi 1)), (6, .long (zl md)), (0, .long (zl v))]) E dX11_root_67 (Nat.le_of_ble_eq_true rfl) rfl ?_
          refine z_goto (tgt := 7) E dX11_root_69 (by decide) ?_
          refine Zg.sub (lv' := [(0, .long (zl v)), (2, .long (zl md)), (4, .long (zl b))]) [4, 1, 0] rfl ?_
          exact ih_7 md b (by omega) (⟨h_32, i1.2⟩) (by omega)
  refine Zg.sub (lv' := [(0, .long (zl v)), (2, .long (zl 0)), (4, .long (zl 4000000))]) [2, 1, 0] rfl ?_
  exact lp_7 ((4000000 - 0 : Int).toNat + 1) 0 4000000 (by omega) (⟨by omega, by omega⟩) (by omega)
abbrev rm_X11_down : Room := { frames := 0, cells := 0, slots := 0, locals := 0 }
set_option maxRecDepth 100000 in
theorem c_X11_down (l : Launch) (D : va_G) (κ : Nat → ClassId) (v : Int) (by_ : Int) (hv : -1000000000000000000 ≤ v ∧ v ≤ 1000000000000000000) (hb : 0 < by_ ∧ by_ ≤ 1000000000000000000) : ZL l yX11_down cX11_down 6 rm_X11_down D κ [.long (zl v), .long (zl by_)] [] (fun z w => (v / by_) = z ∧ [] = w) := by
  refine ZL.enter (own := RX11) rfl pn_X11_down (Nat.le_of_ble_eq_true rfl) (fun X E fin => ?_)
  show Zg X [] 0 0 0 [(0, .long (zl v)), (2, .long (zl by_))] []
  have hd := dn_spec (v := v) hb.1
  have ht := tdiv_bd (a := v) hb.1
  have hz := zabs_or v
  have hm := Int.mul_tdiv_add_tmod v by_
  have hcm : by_ * v.tdiv by_ = v.tdiv by_ * by_ := Int.mul_comm _ _
  refine z_lload_n E 0 rfl rfl dX11_down_0 ?_
  refine z_lload_n E 1 rfl rfl dX11_down_1 ?_
  refine z_ldiv E (by omega) (by omega) (by omega) dX11_down_2 ?_
  refine z_lstore (lv' := [(4, .long (zl (Int.tdiv v by_))), (0, .long (zl v)), (2, .long (zl by_))]) E dX11_down_3 (Nat.le_of_ble_eq_true rfl) rfl ?_
  refine z_lload_n E 1 rfl rfl dX11_down_5 ?_
  refine z_lload_n E 2 rfl rfl dX11_down_6 ?_
  refine z_lrem E (by omega) (by omega) (by omega) dX11_down_7 ?_
  refine z_lconst0 E dX11_down_8 ?_
  refine z_lc_ge (tgt := 20) E (by omega) (by omega) dX11_down_9 dX11_down_10 (by decide) (fun h_9 => ?_) (fun h_9 => ?_)
  · refine z_lload E 0 rfl dX11_down_20 ?_
    exact fin _ _ _ _ (⟨(hd.2 (by omega)).symm, rfl⟩) dX11_down_22
  · refine z_lload E 0 rfl dX11_down_13 ?_
    refine z_lconst1 E dX11_down_15 ?_
    refine z_lsub E dX11_down_16 ?_
    refine z_goto (tgt := 22) E dX11_down_17 (by decide) ?_
    exact fin _ _ _ _ (⟨(hd.1 (by omega)).symm, rfl⟩) dX11_down_22
abbrev rm_X11_changes : Room := { frames := 0, cells := 0, slots := 0, locals := 0 }
set_option maxRecDepth 100000 in
theorem c_X11_changes (l : Launch) (D : va_G) (κ : Nat → ClassId) (m0 : Nat) (ms : Nat) (mp : Nat) (pn : Int) (mt : Nat) (tyd : Int) (mT : Nat) (mO : Nat) (mU : Nat) (ld : Int) (up : Int) (lw : Int) (ua : Int) (la : Int) (bU : Int) (bL : Int) (sv : Int) (xn : Int) (yn : Int) (sp : Int) (rs : Int) (pt : Int) (mr : Nat) (S : Int → Int) (PA : Int → Int) (hpn : 0 ≤ pn ∧ pn ≤ 4) : ZV l yX11_changes cX11_changes 2 rm_X11_changes D κ [.ref m0] [(m0, .inr (11, [.ref ms, .ref mp, .int (zi pn), .ref mt, .int (zi tyd), .ref mT, .ref mO, .ref mU, .int (zi ld), .long (zl up), .long (zl lw), .long (zl ua), .long (zl la), .long (zl bU), .int (zi bL), .int (zi sv), .int (zi xn), .int (zi yn), .int (zi sp), .int (zi rs), .int (zi pt), .ref mr])), (ms, ai κ 20 S), (mp, ai κ 80 PA)] (fun w => ∃ pn' : Int, ∃ PA' : Int → Int, (chgP pn S PA pn' PA') ∧ [(m0, .inr (11, [.ref ms, .ref mp, .int (zi pn'), .ref mt, .int (zi tyd), .ref mT, .ref mO, .ref mU, .int (zi ld), .long (zl up), .long (zl lw), .long (zl ua), .long (zl la), .long (zl bU), .int (zi bL), .int (zi sv), .int (zi xn), .int (zi yn), .int (zi sp), .int (zi rs), .int (zi pt), .ref mr])), (ms, ai κ 20 S), (mp, ai κ 80 PA')] = w) := by
  refine ZV.enter (own := RX11) rfl pn_X11_changes (Nat.le_of_ble_eq_true rfl) (fun X E fin => ?_)
  show Zg X [(m0, .inr (11, [.ref ms, .ref mp, .int (zi pn), .ref mt, .int (zi tyd), .ref mT, .ref mO, .ref mU, .int (zi ld), .long (zl up), .long (zl lw), .long (zl ua), .long (zl la), .long (zl bU), .int (zi bL), .int (zi sv), .int (zi xn), .int (zi yn), .int (zi sp), .int (zi rs), .int (zi pt), .ref mr])), (ms, ai κ 20 S), (mp, ai κ 80 PA)] 0 0 0 [(0, .ref m0)] []
  refine z_aload_n E 0 rfl rfl dX11_changes_0 ?_
  refine z_get E f_X11_32 0 rfl rfl dX11_changes_1 ?_
  refine z_iconst E dX11_changes_4 ?_
  refine z_ic_ne (tgt := 47) E (by omega) (by omega) dX11_changes_5 (by decide) (fun h_5 => ?_) (fun h_5 => ?_)
  · refine z_iconst E dX11_changes_47 ?_
    refine z_istore_n (lv' := [(1, .int (zi 0)), (0, .ref m0)]) E dX11_changes_48 rfl (Nat.le_of_ble_eq_true rfl) rfl ?_
    have lp_49 : ∀ (n_49 : Nat) (i : Int) (P : Int → Int), (0 ≤ i ∧ i ≤ 20) → (ch2 PA S (pn) i P) → (20 - i) < (n_49 : Int) → Zg X [(m0, .inr (11, [.ref ms, .ref mp, .int (zi pn), .ref mt, .int (zi tyd), .ref mT, .ref mO, .ref mU, .int (zi ld), .long (zl up), .long (zl lw), .long (zl ua), .long (zl la), .long (zl bU), .int (zi bL), .int (zi sv), .int (zi xn), .int (zi yn), .int (zi sp), .int (zi rs), .int (zi pt), .ref mr])), (mp, ai κ 80 P), (ms, ai κ 20 S)] 0 0 49 [(0, .ref m0), (1, .int (zi i))] [] := by
      intro n_49
      induction n_49 with
      | zero =>
        intro i P j0 j1 hmu
        exact absurd hmu (by omega)
      | succ n_49 ih_49 =>
        intro i P j0 j1 hmu_49
        refine z_iload_n E 1 rfl rfl dX11_changes_49 ?_
        refine z_bipush E dX11_changes_50 (by decide) ?_
        refine z_ic_ge (tgt := 81) E (by omega) (by omega) dX11_changes_52 (by decide) (fun h_52 => ?_) (fun h_52 => ?_)
        · refine z_aload_n E 0 rfl rfl dX11_changes_81 ?_
          refine z_dup E rfl dX11_changes_82 ?_
          refine z_get E f_X11_32 0 rfl rfl dX11_changes_83 ?_
          refine z_iconst E dX11_changes_86 ?_
          refine z_iadd E dX11_changes_87 ?_
          refine z_put (ws' := [(m0, .inr (11, [.ref ms, .ref mp, .int (zi (pn + 1)), .ref mt, .int (zi tyd), .ref mT, .ref mO, .ref mU, .int (zi ld), .long (zl up), .long (zl lw), .long (zl ua), .long (zl la), .long (zl bU), .int (zi bL), .int (zi sv), .int (zi xn), .int (zi yn), .int (zi sp), .int (zi rs), .int (zi pt), .ref mr])), (mp, ai κ 80 P), (ms, ai κ 20 S)]) E f_X11_32 t_X11_2 0 rfl rfl rfl (Nat.le_of_ble_eq_true rfl) rfl dX11_changes_88 ?_
          refine Zg.perm (ws' := [(m0, .inr (11, [.ref ms, .ref mp, .int (zi (pn + 1)), .ref mt, .int (zi tyd), .ref mT, .ref mO, .ref mU, .int (zi ld), .long (zl up), .long (zl lw), .long (zl ua), .long (zl la), .long (zl bU), .int (zi bL), .int (zi sv), .int (zi xn), .int (zi yn), .int (zi sp), .int (zi rs), .int (zi pt), .ref mr])), (ms, ai κ 20 S), (mp, ai κ 80 P)]) [0, 2, 1] rfl rfl ?_
          exact fin _ _ _ (⟨_, _, chg_0 (by omega) (by omega) j1 (by omega), rfl⟩) dX11_changes_91
        · refine z_aload_n E 0 rfl rfl dX11_changes_55 ?_
          refine z_get E f_X11_13 0 rfl rfl dX11_changes_56 ?_
          refine z_bipush E dX11_changes_59 (by decide) ?_
          refine z_aload_n E 0 rfl rfl dX11_changes_61 ?_
          refine z_get E f_X11_32 0 rfl rfl dX11_changes_62 ?_
          refine z_imul E dX11_changes_65 ?_
          refine z_iload_n E 1 rfl rfl dX11_changes_66 ?_
          refine z_iadd E dX11_changes_67 ?_
          refine z_aload_n E 0 rfl rfl dX11_changes_68 ?_
          refine z_get E f_X11_7 0 rfl rfl dX11_changes_69 ?_
          refine z_iload_n E 1 rfl rfl dX11_changes_72 ?_
          refine z_iald E 2 rfl (Nat.le_of_ble_eq_true rfl) (by omega) (by omega) dX11_changes_73 ?_
          refine z_iast (ws' := [(m0, .inr (11, [.ref ms, .ref mp, .int (zi pn), .ref mt, .int (zi tyd), .ref mT, .ref mO, .ref mU, .int (zi ld), .long (zl up), .long (zl lw), .long (zl ua), .long (zl la), .long (zl bU), .int (zi bL), .int (zi sv), .int (zi xn), .int (zi yn), .int (zi sp), .int (zi rs), .int (zi pt), .ref mr])), (mp, ai κ 80 (zu P ((20 * pn) + i) (S i))), (ms, ai κ 20 S)]) E 1 rfl (Nat.le_of_ble_eq_true rfl) (by omega) (by omega) rfl dX11_changes_74 ?_
          refine z_iinc (lv' := [(1, .int (zi (i + 1))), (0, .ref m0)]) E 1 rfl dX11_changes_75 (Nat.le_of_ble_eq_true rfl) rfl ?_
          refine z_goto (tgt := 49) E dX11_changes_78 (by decide) ?_
          refine Zg.sub (lv' := [(0, .ref m0), (1, .int (zi (i + 1)))]) [1, 0] rfl ?_
          exact ih_49 (i + 1) (zu P ((20 * pn) + i) (S i)) (by omega) (ch2_s j1 (by omega)) (by omega)
    refine Zg.sub (lv' := [(0, .ref m0), (1, .int (zi 0))]) [1, 0] rfl ?_
    refine Zg.perm (ws' := [(m0, .inr (11, [.ref ms, .ref mp, .int (zi pn), .ref mt, .int (zi tyd), .ref mT, .ref mO, .ref mU, .int (zi ld), .long (zl up), .long (zl lw), .long (zl ua), .long (zl la), .long (zl bU), .int (zi bL), .int (zi sv), .int (zi xn), .int (zi yn), .int (zi sp), .int (zi rs), .int (zi pt), .ref mr])), (mp, ai κ 80 PA), (ms, ai κ 20 S)]) [0, 2, 1] rfl rfl ?_
    exact lp_49 ((20 - 0 : Int).toNat + 1) 0 PA (by omega) (⟨fun j j1 j2 => absurd j1 (by omega), fun _ _ => rfl⟩) (by omega)
  · refine z_iconst E dX11_changes_8 ?_
    refine z_istore_n (lv' := [(1, .int (zi 0)), (0, .ref m0)]) E dX11_changes_9 rfl (Nat.le_of_ble_eq_true rfl) rfl ?_
    have lp_10 : ∀ (n_10 : Nat) (k : Int) (B : Int → Int), (0 ≤ k ∧ k ≤ 60) → (ch1 PA k B) → (60 - k) < (n_10 : Int) → Zg X [(m0, .inr (11, [.ref ms, .ref mp, .int (zi pn), .ref mt, .int (zi tyd), .ref mT, .ref mO, .ref mU, .int (zi ld), .long (zl up), .long (zl lw), .long (zl ua), .long (zl la), .long (zl bU), .int (zi bL), .int (zi sv), .int (zi xn), .int (zi yn), .int (zi sp), .int (zi rs), .int (zi pt), .ref mr])), (mp, ai κ 80 B), (ms, ai κ 20 S)] 0 0 10 [(0, .ref m0), (1, .int (zi k))] [] := by
      intro n_10
      induction n_10 with
      | zero =>
        intro k B i0 i1 hmu
        exact absurd hmu (by omega)
      | succ n_10 ih_10 =>
        intro k B i0 i1 hmu_10
        refine z_iload_n E 1 rfl rfl dX11_changes_10 ?_
        refine z_bipush E dX11_changes_11 (by decide) ?_
        refine z_ic_ge (tgt := 37) E (by omega) (by omega) dX11_changes_13 (by decide) (fun h_13 => ?_) (fun h_13 => ?_)
        · refine z_aload_n E 0 rfl rfl dX11_changes_37 ?_
          refine z_dup E rfl dX11_changes_38 ?_
          refine z_get E f_X11_32 0 rfl rfl dX11_changes_39 ?_
          refine z_iconst E dX11_changes_42 ?_
          refine z_isub E dX11_changes_43 ?_
          refine z_put (ws' := [(m0, .inr (11, [.ref ms, .ref mp, .int (zi (pn - 1)), .ref mt, .int (zi tyd), .ref mT, .ref mO, .ref mU, .int (zi ld), .long (zl up), .long (zl lw), .long (zl ua), .long (zl la), .long (zl bU), .int (zi bL), .int (zi sv), .int (zi xn), .int (zi yn), .int (zi sp), .int (zi rs), .int (zi pt), .ref mr])), (mp, ai κ 80 B), (ms, ai κ 20 S)]) E f_X11_32 t_X11_2 0 rfl rfl rfl (Nat.le_of_ble_eq_true rfl) rfl dX11_changes_44 ?_
          refine z_iconst E dX11_changes_47 ?_
          refine z_istore_n (lv' := [(1, .int (zi 0)), (0, .ref m0)]) E dX11_changes_48 rfl (Nat.le_of_ble_eq_true rfl) rfl ?_
          have lp_49 : ∀ (n_49 : Nat) (i : Int) (P : Int → Int), (0 ≤ i ∧ i ≤ 20) → (ch2 B S (pn - 1) i P) → (20 - i) < (n_49 : Int) → Zg X [(m0, .inr (11, [.ref ms, .ref mp, .int (zi (pn - 1)), .ref mt, .int (zi tyd), .ref mT, .ref mO, .ref mU, .int (zi ld), .long (zl up), .long (zl lw), .long (zl ua), .long (zl la), .long (zl bU), .int (zi bL), .int (zi sv), .int (zi xn), .int (zi yn), .int (zi sp), .int (zi rs), .int (zi pt), .ref mr])), (mp, ai κ 80 P), (ms, ai κ 20 S)] 0 0 49 [(0, .ref m0), (1, .int (zi i))] [] := by
            intro n_49
            induction n_49 with
            | zero =>
              intro i P j0 j1 hmu
              exact absurd hmu (by omega)
            | succ n_49 ih_49 =>
              intro i P j0 j1 hmu_49
              refine z_iload_n E 1 rfl rfl dX11_changes_49 ?_
              refine z_bipush E dX11_changes_50 (by decide) ?_
              refine z_ic_ge (tgt := 81) E (by omega) (by omega) dX11_changes_52 (by decide) (fun h_52 => ?_) (fun h_52 => ?_)
              · refine z_aload_n E 0 rfl rfl dX11_changes_81 ?_
                refine z_dup E rfl dX11_changes_82 ?_
                refine z_get E f_X11_32 0 rfl rfl dX11_changes_83 ?_
                refine z_iconst E dX11_changes_86 ?_
                refine z_iadd E dX11_changes_87 ?_
                refine z_put (ws' := [(m0, .inr (11, [.ref ms, .ref mp, .int (zi ((pn - 1) + 1)), .ref mt, .int (zi tyd), .ref mT, .ref mO, .ref mU, .int (zi ld), .long (zl up), .long (zl lw), .long (zl ua), .long (zl la), .long (zl bU), .int (zi bL), .int (zi sv), .int (zi xn), .int (zi yn), .int (zi sp), .int (zi rs), .int (zi pt), .ref mr])), (mp, ai κ 80 P), (ms, ai κ 20 S)]) E f_X11_32 t_X11_2 0 rfl rfl rfl (Nat.le_of_ble_eq_true rfl) rfl dX11_changes_88 ?_
                refine Zg.perm (ws' := [(m0, .inr (11, [.ref ms, .ref mp, .int (zi ((pn - 1) + 1)), .ref mt, .int (zi tyd), .ref mT, .ref mO, .ref mU, .int (zi ld), .long (zl up), .long (zl lw), .long (zl ua), .long (zl la), .long (zl bU), .int (zi bL), .int (zi sv), .int (zi xn), .int (zi yn), .int (zi sp), .int (zi rs), .int (zi pt), .ref mr])), (ms, ai κ 20 S), (mp, ai κ 80 P)]) [0, 2, 1] rfl rfl ?_
                exact fin _ _ _ (⟨_, _, chg_4 (by omega) i1 (by omega) (by omega) j1 (by omega), rfl⟩) dX11_changes_91
              · refine z_aload_n E 0 rfl rfl dX11_changes_55 ?_
                refine z_get E f_X11_13 0 rfl rfl dX11_changes_56 ?_
                refine z_bipush E dX11_changes_59 (by decide) ?_
                refine z_aload_n E 0 rfl rfl dX11_changes_61 ?_
                refine z_get E f_X11_32 0 rfl rfl dX11_changes_62 ?_
                refine z_imul E dX11_changes_65 ?_
                refine z_iload_n E 1 rfl rfl dX11_changes_66 ?_
                refine z_iadd E dX11_changes_67 ?_
                refine z_aload_n E 0 rfl rfl dX11_changes_68 ?_
                refine z_get E f_X11_7 0 rfl rfl dX11_changes_69 ?_
                refine z_iload_n E 1 rfl rfl dX11_changes_72 ?_
                refine z_iald E 2 rfl (Nat.le_of_ble_eq_true rfl) (by omega) (by omega) dX11_changes_73 ?_
                refine z_iast (ws' := [(m0, .inr (11, [.ref ms, .ref mp, .int (zi (pn - 1)), .ref mt, .int (zi tyd), .ref mT, .ref mO, .ref mU, .int (zi ld), .long (zl up), .long (zl lw), .long (zl ua), .long (zl la), .long (zl bU), .int (zi bL), .int (zi sv), .int (zi xn), .int (zi yn), .int (zi sp), .int (zi rs), .int (zi pt), .ref mr])), (mp, ai κ 80 (zu P ((20 * (pn - 1)) + i) (S i))), (ms, ai κ 20 S)]) E 1 rfl (Nat.le_of_ble_eq_true rfl) (by omega) (by omega) rfl dX11_changes_74 ?_
                refine z_iinc (lv' := [(1, .int (zi (i + 1))), (0, .ref m0)]) E 1 rfl dX11_changes_75 (Nat.le_of_ble_eq_true rfl) rfl ?_
                refine z_goto (tgt := 49) E dX11_changes_78 (by decide) ?_
                refine Zg.sub (lv' := [(0, .ref m0), (1, .int (zi (i + 1)))]) [1, 0] rfl ?_
                exact ih_49 (i + 1) (zu P ((20 * (pn - 1)) + i) (S i)) (by omega) (ch2_s j1 (by omega)) (by omega)
          refine Zg.sub (lv' := [(0, .ref m0), (1, .int (zi 0))]) [1, 0] rfl ?_
          exact lp_49 ((20 - 0 : Int).toNat + 1) 0 B (by omega) (⟨fun j j1 j2 => absurd j1 (by omega), fun _ _ => rfl⟩) (by omega)
        · refine z_aload_n E 0 rfl rfl dX11_changes_16 ?_
          refine z_get E f_X11_13 0 rfl rfl dX11_changes_17 ?_
          refine z_iload_n E 1 rfl rfl dX11_changes_20 ?_
          refine z_aload_n E 0 rfl rfl dX11_changes_21 ?_
          refine z_get E f_X11_13 0 rfl rfl dX11_changes_22 ?_
          refine z_iload_n E 1 rfl rfl dX11_changes_25 ?_
          refine z_bipush E dX11_changes_26 (by decide) ?_
          refine z_iadd E dX11_changes_28 ?_
          refine z_iald E 1 rfl (Nat.le_of_ble_eq_true rfl) (by omega) (by omega) dX11_changes_29 ?_
          refine z_iast (ws' := [(m0, .inr (11, [.ref ms, .ref mp, .int (zi pn), .ref mt, .int (zi tyd), .ref mT, .ref mO, .ref mU, .int (zi ld), .long (zl up), .long (zl lw), .long (zl ua), .long (zl la), .long (zl bU), .int (zi bL), .int (zi sv), .int (zi xn), .int (zi yn), .int (zi sp), .int (zi rs), .int (zi pt), .ref mr])), (mp, ai κ 80 (zu B k (B (k + 20)))), (ms, ai κ 20 S)]) E 1 rfl (Nat.le_of_ble_eq_true rfl) (by omega) (by omega) rfl dX11_changes_30 ?_
          refine z_iinc (lv' := [(1, .int (zi (k + 1))), (0, .ref m0)]) E 1 rfl dX11_changes_31 (Nat.le_of_ble_eq_true rfl) rfl ?_
          refine z_goto (tgt := 10) E dX11_changes_34 (by decide) ?_
          refine Zg.sub (lv' := [(0, .ref m0), (1, .int (zi (k + 1)))]) [1, 0] rfl ?_
          exact ih_10 (k + 1) (zu B k (B (k + 20))) (by omega) (ch1_s i1 (by omega)) (by omega)
    refine Zg.sub (lv' := [(0, .ref m0), (1, .int (zi 0))]) [1, 0] rfl ?_
    refine Zg.perm (ws' := [(m0, .inr (11, [.ref ms, .ref mp, .int (zi pn), .ref mt, .int (zi tyd), .ref mT, .ref mO, .ref mU, .int (zi ld), .long (zl up), .long (zl lw), .long (zl ua), .long (zl la), .long (zl bU), .int (zi bL), .int (zi sv), .int (zi xn), .int (zi yn), .int (zi sp), .int (zi rs), .int (zi pt), .ref mr])), (mp, ai κ 80 PA), (ms, ai κ 20 S)]) [0, 2, 1] rfl rfl ?_
    exact lp_10 ((60 - 0 : Int).toNat + 1) 0 PA (by omega) (⟨fun j j1 j2 => absurd j1 (by omega), fun _ _ => rfl⟩) (by omega)
abbrev rm_X11_surd : Room := { frames := 1, cells := 0, slots := 0, locals := 28 }
set_option maxRecDepth 100000 in
theorem c_X11_surd (l : Launch) (D : va_G) (κ : Nat → ClassId) (m0 : Nat) (ms : Nat) (mp : Nat) (pn : Int) (mt : Nat) (tyd : Int) (mT : Nat) (mO : Nat) (mU : Nat) (ld : Int) (up : Int) (lw : Int) (ua : Int) (la : Int) (bU : Int) (bL : Int) (sv : Int) (xn : Int) (yn : Int) (sp : Int) (rs : Int) (pt : Int) (mr : Nat) (S : Int → Int) (PA : Int → Int) (a : Int) (b : Int) (c : Int) (hr0 : -2147483648 ≤ a ∧ a ≤ 2147483647) (hr1 : -2147483648 ≤ b ∧ b ≤ 2147483647) (hr2 : -2147483648 ≤ c ∧ c ≤ 2147483647) (hpn : 0 ≤ pn ∧ pn ≤ 4) : ZI l yX11_surd cX11_surd 6 .int rm_X11_surd D κ [.ref m0, .int (zi a), .int (zi b), .int (zi c)] [(m0, .inr (11, [.ref ms, .ref mp, .int (zi pn), .ref mt, .int (zi tyd), .ref mT, .ref mO, .ref mU, .int (zi ld), .long (zl up), .long (zl lw), .long (zl ua), .long (zl la), .long (zl bU), .int (zi bL), .int (zi sv), .int (zi xn), .int (zi yn), .int (zi sp), .int (zi rs), .int (zi pt), .ref mr])), (ms, ai κ 20 S), (mp, ai κ 80 PA)] (fun z w => ∃ r : Int, ∃ S' : Int → Int, ∃ PA' : Int → Int, ∃ pn' : Int, (suM S PA pn a b c r S' PA' pn') ∧ r = z ∧ [(m0, .inr (11, [.ref ms, .ref mp, .int (zi pn'), .ref mt, .int (zi tyd), .ref mT, .ref mO, .ref mU, .int (zi ld), .long (zl up), .long (zl lw), .long (zl ua), .long (zl la), .long (zl bU), .int (zi bL), .int (zi sv), .int (zi xn), .int (zi yn), .int (zi sp), .int (zi rs), .int (zi pt), .ref mr])), (ms, ai κ 20 S'), (mp, ai κ 80 PA')] = w) := by
  refine ZI.enter (own := RX11) rfl pn_X11_surd (Nat.le_of_ble_eq_true rfl) (fun X E fin => ?_)
  show Zg X [(m0, .inr (11, [.ref ms, .ref mp, .int (zi pn), .ref mt, .int (zi tyd), .ref mT, .ref mO, .ref mU, .int (zi ld), .long (zl up), .long (zl lw), .long (zl ua), .long (zl la), .long (zl bU), .int (zi bL), .int (zi sv), .int (zi xn), .int (zi yn), .int (zi sp), .int (zi rs), .int (zi pt), .ref mr])), (ms, ai κ 20 S), (mp, ai κ 80 PA)] 0 0 0 [(0, .ref m0), (1, .int (zi a)), (2, .int (zi b)), (3, .int (zi c))] []
  refine z_iload_n E 1 rfl rfl dX11_surd_0 ?_
  refine z_i2l E (by omega) dX11_surd_1 ?_
  refine z_ldc2 E k_X11_40 dX11_surd_2 ?_
  refine z_ldc2 E k_X11_42 dX11_surd_5 ?_
  refine z_callSi (As := [.long (zl a), .long (zl (-99)), .long (zl 99)]) (rest := []) (wr := [(m0, .inr (11, [.ref ms, .ref mp, .int (zi pn), .ref mt, .int (zi tyd), .ref mT, .ref mO, .ref mU, .int (zi ld), .long (zl up), .long (zl lw), .long (zl ua), .long (zl la), .long (zl bU), .int (zi bL), .int (zi sv), .int (zi xn), .int (zi yn), .int (zi sp), .int (zi rs), .int (zi pt), .ref mr])), (ms, ai κ 20 S), (mp, ai κ 80 PA)]) E (c_X11_in l D κ a (-99) 99 (by omega) (by omega) (by omega)) m_X11_44 ⟨Nat.le_of_ble_eq_true rfl, Nat.le_of_ble_eq_true rfl⟩ ⟨rfl, rfl⟩ [] [0, 1, 2] rfl rfl rfl rfl (by decide) rfl rfl (Nat.le_of_ble_eq_true rfl) dX11_surd_8 ⟨Nat.le_of_ble_eq_true rfl, Nat.le_of_ble_eq_true rfl⟩ (fun z8 w1 hq => ?_)
  obtain ⟨⟨rfl, hc_8⟩ | ⟨rfl, hc_8⟩, rfl⟩ := hq
  · refine z_if_eq (tgt := 46) E (by omega) dX11_surd_11 (by decide) (fun h => absurd h (by decide)) (fun _ => ?_)
    refine z_iload_n E 2 rfl rfl dX11_surd_14 ?_
    refine z_i2l E (by omega) dX11_surd_15 ?_
    refine z_ldc2 E k_X11_38 dX11_surd_16 ?_
    refine z_ldc2 E k_X11_48 dX11_surd_19 ?_
    refine z_callSi (As := [.long (zl b), .long (zl 2), .long (zl 999)]) (rest := []) (wr := [(m0, .inr (11, [.ref ms, .ref mp, .int (zi pn), .ref mt, .int (zi tyd), .ref mT, .ref mO, .ref mU, .int (zi ld), .long (zl up), .long (zl lw), .long (zl ua), .long (zl la), .long (zl bU), .int (zi bL), .int (zi sv), .int (zi xn), .int (zi yn), .int (zi sp), .int (zi rs), .int (zi pt), .ref mr])), (ms, ai κ 20 S), (mp, ai κ 80 PA)]) E (c_X11_in l D κ b 2 999 (by omega) (by omega) (by omega)) m_X11_44 ⟨Nat.le_of_ble_eq_true rfl, Nat.le_of_ble_eq_true rfl⟩ ⟨rfl, rfl⟩ [] [0, 1, 2] rfl rfl rfl rfl (by decide) rfl rfl (Nat.le_of_ble_eq_true rfl) dX11_surd_22 ⟨Nat.le_of_ble_eq_true rfl, Nat.le_of_ble_eq_true rfl⟩ (fun z22 w1 hq => ?_)
    obtain ⟨⟨rfl, hc_22⟩ | ⟨rfl, hc_22⟩, rfl⟩ := hq
    · refine z_if_eq (tgt := 46) E (by omega) dX11_surd_25 (by decide) (fun h => absurd h (by decide)) (fun _ => ?_)
      refine z_iload_n E 3 rfl rfl dX11_surd_28 ?_
      refine z_i2l E (by omega) dX11_surd_29 ?_
      refine z_ldc2 E k_X11_40 dX11_surd_30 ?_
      refine z_ldc2 E k_X11_42 dX11_surd_33 ?_
      refine z_callSi (As := [.long (zl c), .long (zl (-99)), .long (zl 99)]) (rest := []) (wr := [(m0, .inr (11, [.ref ms, .ref mp, .int (zi pn), .ref mt, .int (zi tyd), .ref mT, .ref mO, .ref mU, .int (zi ld), .long (zl up), .long (zl lw), .long (zl ua), .long (zl la), .long (zl bU), .int (zi bL), .int (zi sv), .int (zi xn), .int (zi yn), .int (zi sp), .int (zi rs), .int (zi pt), .ref mr])), (ms, ai κ 20 S), (mp, ai κ 80 PA)]) E (c_X11_in l D κ c (-99) 99 (by omega) (by omega) (by omega)) m_X11_44 ⟨Nat.le_of_ble_eq_true rfl, Nat.le_of_ble_eq_true rfl⟩ ⟨rfl, rfl⟩ [] [0, 1, 2] rfl rfl rfl rfl (by decide) rfl rfl (Nat.le_of_ble_eq_true rfl) dX11_surd_36 ⟨Nat.le_of_ble_eq_true rfl, Nat.le_of_ble_eq_true rfl⟩ (fun z36 w1 hq => ?_)
      obtain ⟨⟨rfl, hc_36⟩ | ⟨rfl, hc_36⟩, rfl⟩ := hq
      · refine z_if_eq (tgt := 46) E (by omega) dX11_surd_39 (by decide) (fun h => absurd h (by decide)) (fun _ => ?_)
        refine z_iload_n E 3 rfl rfl dX11_surd_42 ?_
        refine z_if_ne (tgt := 49) E (by omega) dX11_surd_43 (by decide) (fun h_43 => ?_) (fun h_43 => ?_)
        · refine z_iload_n E 2 rfl rfl dX11_surd_49 ?_
          refine z_i2l E (by omega) dX11_surd_50 ?_
          refine z_callSl (As := [.long (zl b)]) (rest := []) (wr := [(m0, .inr (11, [.ref ms, .ref mp, .int (zi pn), .ref mt, .int (zi tyd), .ref mT, .ref mO, .ref mU, .int (zi ld), .long (zl up), .long (zl lw), .long (zl ua), .long (zl la), .long (zl bU), .int (zi bL), .int (zi sv), .int (zi xn), .int (zi yn), .int (zi sp), .int (zi rs), .int (zi pt), .ref mr])), (ms, ai κ 20 S), (mp, ai κ 80 PA)]) E (c_X11_root l D κ b (by omega)) m_X11_51 ⟨Nat.le_of_ble_eq_true rfl, Nat.le_of_ble_eq_true rfl⟩ ⟨rfl, rfl⟩ [] [0, 1, 2] rfl rfl rfl rfl (by decide) rfl rfl (Nat.le_of_ble_eq_true rfl) dX11_surd_51 ⟨Nat.le_of_ble_eq_true rfl, Nat.le_of_ble_eq_true rfl⟩ (fun z51 w1 hq => ?_)
          obtain ⟨rfl, rfl⟩ := hq
          refine z_lstore (lv' := [(4, .long (zl (rt b))), (0, .ref m0), (1, .int (zi a)), (2, .int (zi b)), (3, .int (zi c))]) E dX11_surd_54 (Nat.le_of_ble_eq_true rfl) rfl ?_
          have q1 := rt_nonneg b
          have q2 := rt_le (x := b) (r := 31) (by omega) (by omega) (by omega)
          have q3 := sq_bd (a := rt b) (M := 31) (by omega)
          refine z_lload E 0 rfl dX11_surd_56 ?_
          refine z_lload E 0 rfl dX11_surd_58 ?_
          refine z_lmul E dX11_surd_60 ?_
          refine z_iload_n E 3 rfl rfl dX11_surd_61 ?_
          refine z_i2l E (by omega) dX11_surd_62 ?_
          refine z_lc_ne (tgt := 70) E (by omega) (by omega) dX11_surd_63 dX11_surd_64 (by decide) (fun h_63 => ?_) (fun h_63 => ?_)
          · refine z_aload_n E 1 rfl rfl dX11_surd_70 ?_
            refine z_callVv (As := []) (rest := []) (wr := []) E (c_X11_changes l D κ m0 ms mp pn mt tyd mT mO mU ld up lw ua la bU bL sv xn yn sp rs pt mr S PA (by omega)) m_X11_56 ⟨Nat.le_of_ble_eq_true rfl, Nat.le_of_ble_eq_true rfl⟩ ⟨rfl, rfl⟩ [0, 1, 2] [] rfl rfl rfl rfl (by decide) rfl rfl rfl rfl (Nat.le_of_ble_eq_true rfl) dX11_surd_71 ⟨Nat.le_of_ble_eq_true rfl, Nat.le_of_ble_eq_true rfl⟩ (fun  w1 hq => ?_)
            obtain ⟨pn'_1, PA'_2, hc_71, rfl⟩ := hq
            refine z_aload_n E 1 rfl rfl dX11_surd_74 ?_
            refine z_get E f_X11_7 0 rfl rfl dX11_surd_75 ?_
            refine z_iconst E dX11_surd_78 ?_
            refine z_iload_n E 2 rfl rfl dX11_surd_79 ?_
            refine z_iast (ws' := [(m0, .inr (11, [.ref ms, .ref mp, .int (zi pn'_1), .ref mt, .int (zi tyd), .ref mT, .ref mO, .ref mU, .int (zi ld), .long (zl up), .long (zl lw), .long (zl ua), .long (zl la), .long (zl bU), .int (zi bL), .int (zi sv), .int (zi xn), .int (zi yn), .int (zi sp), .int (zi rs), .int (zi pt), .ref mr])), (ms, ai κ 20 (zu S 0 a)), (mp, ai κ 80 PA'_2)]) E 1 rfl (Nat.le_of_ble_eq_true rfl) (by omega) (by omega) rfl dX11_surd_80 ?_
            refine z_aload_n E 1 rfl rfl dX11_surd_81 ?_
            refine z_get E f_X11_7 0 rfl rfl dX11_surd_82 ?_
            refine z_iconst E dX11_surd_85 ?_
            refine z_iload_n E 3 rfl rfl dX11_surd_86 ?_
            refine z_iast (ws' := [(m0, .inr (11, [.ref ms, .ref mp, .int (zi pn'_1), .ref mt, .int (zi tyd), .ref mT, .ref mO, .ref mU, .int (zi ld), .long (zl up), .long (zl lw), .long (zl ua), .long (zl la), .long (zl bU), .int (zi bL), .int (zi sv), .int (zi xn), .int (zi yn), .int (zi sp), .int (zi rs), .int (zi pt), .ref mr])), (ms, ai κ 20 (zu (zu S 0 a) 1 b)), (mp, ai κ 80 PA'_2)]) E 1 rfl (Nat.le_of_ble_eq_true rfl) (by omega) (by omega) rfl dX11_surd_87 ?_
            refine z_aload_n E 1 rfl rfl dX11_surd_88 ?_
            refine z_get E f_X11_7 0 rfl rfl dX11_surd_89 ?_
            refine z_iconst E dX11_surd_92 ?_
            refine z_iload_n E 4 rfl rfl dX11_surd_93 ?_
            refine z_iast (ws' := [(m0, .inr (11, [.ref ms, .ref mp, .int (zi pn'_1), .ref mt, .int (zi tyd), .ref mT, .ref mO, .ref mU, .int (zi ld), .long (zl up), .long (zl lw), .long (zl ua), .long (zl la), .long (zl bU), .int (zi bL), .int (zi sv), .int (zi xn), .int (zi yn), .int (zi sp), .int (zi rs), .int (zi pt), .ref mr])), (ms, ai κ 20 (zu (zu (zu S 0 a) 1 b) 2 c)), (mp, ai κ 80 PA'_2)]) E 1 rfl (Nat.le_of_ble_eq_true rfl) (by omega) (by omega) rfl dX11_surd_94 ?_
            refine z_iconst E dX11_surd_95 ?_
            exact fin _ _ _ _ rfl (⟨_, _, _, _, (by exact Or.inr (Or.inr ⟨⟨hc_8, hc_22, hc_36, h_43⟩, h_63, rfl, rfl, hc_71⟩)), rfl, rfl⟩) dX11_surd_96
          · refine z_ldc E k_X11_55 dX11_surd_67 ?_
            exact fin _ _ _ _ rfl (⟨_, _, _, _, (by exact Or.inr (Or.inl ⟨⟨hc_8, hc_22, hc_36, h_43⟩, by omega, rfl, rfl, rfl, rfl⟩)), rfl, rfl⟩) dX11_surd_69
        · refine z_ldc E k_X11_50 dX11_surd_46 ?_
          exact fin _ _ _ _ rfl (⟨_, _, _, _, (by exact Or.inl ⟨fun z => by have := z.2.2.2; omega, rfl, rfl, rfl, rfl⟩), rfl, rfl⟩) dX11_surd_48
      · refine z_if_eq (tgt := 46) E (by omega) dX11_surd_39 (by decide) (fun _ => ?_) (fun h => absurd h (by decide))
        refine z_ldc E k_X11_50 dX11_surd_46 ?_
        exact fin _ _ _ _ rfl (⟨_, _, _, _, (by exact Or.inl ⟨fun z => by exact hc_36 z.2.2.1, rfl, rfl, rfl, rfl⟩), rfl, rfl⟩) dX11_surd_48
    · refine z_if_eq (tgt := 46) E (by omega) dX11_surd_25 (by decide) (fun _ => ?_) (fun h => absurd h (by decide))
      refine z_ldc E k_X11_50 dX11_surd_46 ?_
      exact fin _ _ _ _ rfl (⟨_, _, _, _, (by exact Or.inl ⟨fun z => by exact hc_22 z.2.1, rfl, rfl, rfl, rfl⟩), rfl, rfl⟩) dX11_surd_48
  · refine z_if_eq (tgt := 46) E (by omega) dX11_surd_11 (by decide) (fun _ => ?_) (fun h => absurd h (by decide))
    refine z_ldc E k_X11_50 dX11_surd_46 ?_
    exact fin _ _ _ _ rfl (⟨_, _, _, _, (by exact Or.inl ⟨fun z => by exact hc_8 z.1, rfl, rfl, rfl, rfl⟩), rfl, rfl⟩) dX11_surd_48
abbrev rm_X11_partOf : Room := { frames := 1, cells := 0, slots := 0, locals := 25 }
set_option maxRecDepth 100000 in
theorem c_X11_partOf (l : Launch) (D : va_G) (κ : Nat → ClassId) (m0 : Nat) (ms : Nat) (mp : Nat) (pn : Int) (mt : Nat) (tyd : Int) (mT : Nat) (mO : Nat) (mU : Nat) (ld : Int) (up : Int) (lw : Int) (ua : Int) (la : Int) (bU : Int) (bL : Int) (sv : Int) (xn : Int) (yn : Int) (sp : Int) (rs : Int) (pt : Int) (mr : Nat) (S : Int → Int) (wt : Int) (hr0 : -2147483648 ≤ wt ∧ wt ≤ 2147483647) : ZI l yX11_partOf cX11_partOf 2 .int rm_X11_partOf D κ [.ref m0, .int (zi wt)] [(m0, .inr (11, [.ref ms, .ref mp, .int (zi pn), .ref mt, .int (zi tyd), .ref mT, .ref mO, .ref mU, .int (zi ld), .long (zl up), .long (zl lw), .long (zl ua), .long (zl la), .long (zl bU), .int (zi bL), .int (zi sv), .int (zi xn), .int (zi yn), .int (zi sp), .int (zi rs), .int (zi pt), .ref mr])), (ms, ai κ 20 S)] (fun z w => (if 0 ≤ wt ∧ wt ≤ 2 then S wt + 1000 else -1000001) = z ∧ [(m0, .inr (11, [.ref ms, .ref mp, .int (zi pn), .ref mt, .int (zi tyd), .ref mT, .ref mO, .ref mU, .int (zi ld), .long (zl up), .long (zl lw), .long (zl ua), .long (zl la), .long (zl bU), .int (zi bL), .int (zi sv), .int (zi xn), .int (zi yn), .int (zi sp), .int (zi rs), .int (zi pt), .ref mr])), (ms, ai κ 20 S)] = w) := by
  refine ZI.enter (own := RX11) rfl pn_X11_partOf (Nat.le_of_ble_eq_true rfl) (fun X E fin => ?_)
  show Zg X [(m0, .inr (11, [.ref ms, .ref mp, .int (zi pn), .ref mt, .int (zi tyd), .ref mT, .ref mO, .ref mU, .int (zi ld), .long (zl up), .long (zl lw), .long (zl ua), .long (zl la), .long (zl bU), .int (zi bL), .int (zi sv), .int (zi xn), .int (zi yn), .int (zi sp), .int (zi rs), .int (zi pt), .ref mr])), (ms, ai κ 20 S)] 0 0 0 [(0, .ref m0), (1, .int (zi wt))] []
  refine z_iload_n E 1 rfl rfl dX11_partOf_0 ?_
  refine z_i2l E (by omega) dX11_partOf_1 ?_
  refine z_lconst0 E dX11_partOf_2 ?_
  refine z_ldc2 E k_X11_38 dX11_partOf_3 ?_
  refine z_callSi (As := [.long (zl wt), .long (zl 0), .long (zl 2)]) (rest := []) (wr := [(m0, .inr (11, [.ref ms, .ref mp, .int (zi pn), .ref mt, .int (zi tyd), .ref mT, .ref mO, .ref mU, .int (zi ld), .long (zl up), .long (zl lw), .long (zl ua), .long (zl la), .long (zl bU), .int (zi bL), .int (zi sv), .int (zi xn), .int (zi yn), .int (zi sp), .int (zi rs), .int (zi pt), .ref mr])), (ms, ai κ 20 S)]) E (c_X11_in l D κ wt 0 2 (by omega) (by omega) (by omega)) m_X11_44 ⟨Nat.le_of_ble_eq_true rfl, Nat.le_of_ble_eq_true rfl⟩ ⟨rfl, rfl⟩ [] [0, 1] rfl rfl rfl rfl (by decide) rfl rfl (Nat.le_of_ble_eq_true rfl) dX11_partOf_6 ⟨Nat.le_of_ble_eq_true rfl, Nat.le_of_ble_eq_true rfl⟩ (fun z6 w1 hq => ?_)
  obtain ⟨⟨rfl, hc_6⟩ | ⟨rfl, hc_6⟩, rfl⟩ := hq
  · refine z_if_eq (tgt := 25) E (by omega) dX11_partOf_9 (by decide) (fun h => absurd h (by decide)) (fun _ => ?_)
    refine z_aload_n E 0 rfl rfl dX11_partOf_12 ?_
    refine z_get E f_X11_7 0 rfl rfl dX11_partOf_13 ?_
    refine z_iload_n E 1 rfl rfl dX11_partOf_16 ?_
    refine z_iald E 1 rfl (Nat.le_of_ble_eq_true rfl) (by omega) (by omega) dX11_partOf_17 ?_
    refine z_sipush E dX11_partOf_18 (by decide) ?_
    refine z_iadd E dX11_partOf_21 ?_
    refine z_goto (tgt := 27) E dX11_partOf_22 (by decide) ?_
    exact fin _ _ _ _ rfl (⟨if_pos hc_6, rfl⟩) dX11_partOf_27
  · refine z_if_eq (tgt := 25) E (by omega) dX11_partOf_9 (by decide) (fun _ => ?_) (fun h => absurd h (by decide))
    refine z_ldc E k_X11_50 dX11_partOf_25 ?_
    exact fin _ _ _ _ rfl (⟨if_neg hc_6, rfl⟩) dX11_partOf_27
abbrev rm_X11_laysOf : Room := { frames := 1, cells := 0, slots := 0, locals := 28 }
set_option maxRecDepth 100000 in
theorem c_X11_laysOf (l : Launch) (D : va_G) (κ : Nat → ClassId) (m0 : Nat) (ms : Nat) (mp : Nat) (pn : Int) (mt : Nat) (tyd : Int) (mT : Nat) (mO : Nat) (mU : Nat) (ld : Int) (up : Int) (lw : Int) (ua : Int) (la : Int) (bU : Int) (bL : Int) (sv : Int) (xn : Int) (yn : Int) (sp : Int) (rs : Int) (pt : Int) (mr : Nat) (T : Int → Int) (OV : Int → Int) (UN : Int → Int) (p : Int) (d : Int) (q : Int) (t0 : Int) (DD : Int) (b0 : Int) (hv : vS p d q) (hD : DD = Dd d q) (hs : sS p d q 0 = (t0, b0)) : ZV l yX11_laysOf cX11_laysOf 16 rm_X11_laysOf D κ [.ref m0, .long (zl t0), .long (zl DD), .long (zl b0)] [(m0, .inr (11, [.ref ms, .ref mp, .int (zi pn), .ref mt, .int (zi tyd), .ref mT, .ref mO, .ref mU, .int (zi ld), .long (zl up), .long (zl lw), .long (zl ua), .long (zl la), .long (zl bU), .int (zi bL), .int (zi sv), .int (zi xn), .int (zi yn), .int (zi sp), .int (zi rs), .int (zi pt), .ref mr])), (mT, ai κ 401 T), (mO, al κ 402 OV), (mU, al κ 402 UN)] (fun w => ∃ T' : Int → Int, ∃ OV' : Int → Int, ∃ UN' : Int → Int, (∀ k : Int, 0 ≤ k → k ≤ 400 → T' k = tm p d q k) ∧ (lyP p d q 401 OV' UN') ∧ [(m0, .inr (11, [.ref ms, .ref mp, .int (zi pn), .ref mt, .int (zi tyd), .ref mT, .ref mO, .ref mU, .int (zi ld), .long (zl up), .long (zl lw), .long (zl ua), .long (zl la), .long (zl bU), .int (zi bL), .int (zi sv), .int (zi xn), .int (zi yn), .int (zi sp), .int (zi rs), .int (zi pt), .ref mr])), (mT, ai κ 401 T'), (mO, al κ 402 OV'), (mU, al κ 402 UN')] = w) := by
  refine ZV.enter (own := RX11) rfl pn_X11_laysOf (Nat.le_of_ble_eq_true rfl) (fun X E fin => ?_)
  show Zg X [(m0, .inr (11, [.ref ms, .ref mp, .int (zi pn), .ref mt, .int (zi tyd), .ref mT, .ref mO, .ref mU, .int (zi ld), .long (zl up), .long (zl lw), .long (zl ua), .long (zl la), .long (zl bU), .int (zi bL), .int (zi sv), .int (zi xn), .int (zi yn), .int (zi sp), .int (zi rs), .int (zi pt), .ref mr])), (mT, ai κ 401 T), (mO, al κ 402 OV), (mU, al κ 402 UN)] 0 0 0 [(0, .ref m0), (1, .long (zl t0)), (3, .long (zl DD)), (5, .long (zl b0))] []
  have hDb := vS_D hv
  rw [← hD] at hDb
  refine z_lload_n E 2 rfl rfl dX11_laysOf_0 ?_
  refine z_callSl (As := [.long (zl DD)]) (rest := []) (wr := [(m0, .inr (11, [.ref ms, .ref mp, .int (zi pn), .ref mt, .int (zi tyd), .ref mT, .ref mO, .ref mU, .int (zi ld), .long (zl up), .long (zl lw), .long (zl ua), .long (zl la), .long (zl bU), .int (zi bL), .int (zi sv), .int (zi xn), .int (zi yn), .int (zi sp), .int (zi rs), .int (zi pt), .ref mr])), (mT, ai κ 401 T), (mO, al κ 402 OV), (mU, al κ 402 UN)]) E (c_X11_root l D κ DD (by omega)) m_X11_51 ⟨Nat.le_of_ble_eq_true rfl, Nat.le_of_ble_eq_true rfl⟩ ⟨rfl, rfl⟩ [] [0, 1, 2, 3] rfl rfl rfl rfl (by decide) rfl rfl (Nat.le_of_ble_eq_true rfl) dX11_laysOf_1 ⟨Nat.le_of_ble_eq_true rfl, Nat.le_of_ble_eq_true rfl⟩ (fun z1 w1 hq => ?_)
  obtain ⟨rfl, rfl⟩ := hq
  refine z_lstore (lv' := [(7, .long (zl (rt DD))), (0, .ref m0), (1, .long (zl t0)), (3, .long (zl DD)), (5, .long (zl b0))]) E dX11_laysOf_4 (Nat.le_of_ble_eq_true rfl) rfl ?_
  refine z_aload_n E 1 rfl rfl dX11_laysOf_6 ?_
  refine z_get E f_X11_22 0 rfl rfl dX11_laysOf_7 ?_
  refine z_iconst E dX11_laysOf_10 ?_
  refine z_lload_n E 2 rfl rfl dX11_laysOf_11 ?_
  refine z_last (ws' := [(m0, .inr (11, [.ref ms, .ref mp, .int (zi pn), .ref mt, .int (zi tyd), .ref mT, .ref mO, .ref mU, .int (zi ld), .long (zl up), .long (zl lw), .long (zl ua), .long (zl la), .long (zl bU), .int (zi bL), .int (zi sv), .int (zi xn), .int (zi yn), .int (zi sp), .int (zi rs), .int (zi pt), .ref mr])), (mT, ai κ 401 T), (mO, al κ 402 (zu OV 0 t0)), (mU, al κ 402 UN)]) E 2 rfl (Nat.le_of_ble_eq_true rfl) (by omega) (by omega) rfl dX11_laysOf_12 ?_
  refine z_aload_n E 1 rfl rfl dX11_laysOf_13 ?_
  refine z_get E f_X11_26 0 rfl rfl dX11_laysOf_14 ?_
  refine z_iconst E dX11_laysOf_17 ?_
  refine z_lload E 4 rfl dX11_laysOf_18 ?_
  refine z_last (ws' := [(m0, .inr (11, [.ref ms, .ref mp, .int (zi pn), .ref mt, .int (zi tyd), .ref mT, .ref mO, .ref mU, .int (zi ld), .long (zl up), .long (zl lw), .long (zl ua), .long (zl la), .long (zl bU), .int (zi bL), .int (zi sv), .int (zi xn), .int (zi yn), .int (zi sp), .int (zi rs), .int (zi pt), .ref mr])), (mT, ai κ 401 T), (mO, al κ 402 (zu OV 0 t0)), (mU, al κ 402 (zu UN 0 b0))]) E 3 rfl (Nat.le_of_ble_eq_true rfl) (by omega) (by omega) rfl dX11_laysOf_20 ?_
  refine z_iconst E dX11_laysOf_21 ?_
  refine z_istore (lv' := [(9, .int (zi 0)), (7, .long (zl (rt DD))), (0, .ref m0), (1, .long (zl t0)), (3, .long (zl DD)), (5, .long (zl b0))]) E dX11_laysOf_22 (Nat.le_of_ble_eq_true rfl) rfl ?_
  have lp_24 : ∀ (n_24 : Nat) (k : Int) (ft : Int → Int) (fo : Int → Int) (fu : Int → Int), (0 ≤ k ∧ k ≤ 401) → (lyP p d q k fo fu) → (∀ j : Int, 0 ≤ j → j < k → ft j = tm p d q j) → (401 - k) < (n_24 : Int) → Zg X [(m0, .inr (11, [.ref ms, .ref mp, .int (zi pn), .ref mt, .int (zi tyd), .ref mT, .ref mO, .ref mU, .int (zi ld), .long (zl up), .long (zl lw), .long (zl ua), .long (zl la), .long (zl bU), .int (zi bL), .int (zi sv), .int (zi xn), .int (zi yn), .int (zi sp), .int (zi rs), .int (zi pt), .ref mr])), (mO, al κ 402 fo), (mT, ai κ 401 ft), (mU, al κ 402 fu)] 0 0 24 [(0, .ref m0), (1, .long (zl t0)), (3, .long (zl DD)), (5, .long (zl b0)), (7, .long (zl (rt DD))), (9, .int (zi k))] [] := by
    intro n_24
    induction n_24 with
    | zero =>
      intro k ft fo fu i0 i1 i2 hmu
      exact absurd hmu (by omega)
    | succ n_24 ih_24 =>
      intro k ft fo fu i0 i1 i2 hmu_24
      refine z_iload E 5 rfl dX11_laysOf_24 ?_
      refine z_sipush E dX11_laysOf_26 (by decide) ?_
      refine z_ic_gt (tgt := 186) E (by omega) (by omega) dX11_laysOf_29 (by decide) (fun h_29 => ?_) (fun h_29 => ?_)
      · refine Zg.perm (ws' := [(m0, .inr (11, [.ref ms, .ref mp, .int (zi pn), .ref mt, .int (zi tyd), .ref mT, .ref mO, .ref mU, .int (zi ld), .long (zl up), .long (zl lw), .long (zl ua), .long (zl la), .long (zl bU), .int (zi bL), .int (zi sv), .int (zi xn), .int (zi yn), .int (zi sp), .int (zi rs), .int (zi pt), .ref mr])), (mT, ai κ 401 ft), (mO, al κ 402 fo), (mU, al κ 402 fu)]) [0, 2, 1, 3] rfl rfl ?_
        exact fin _ _ _ (⟨_, _, _, fun j j1 j2 => i2 j j1 (by omega), fun j j1 j2 => i1 j j1 (by omega), rfl⟩) dX11_laysOf_186
      · have hke := i1 k i0.1 (by omega)
        have hkg := sS_get hv i0.1 hke
        rw [← hD] at hkg
        refine z_aload_n E 0 rfl rfl dX11_laysOf_32 ?_
        refine z_get E f_X11_26 0 rfl rfl dX11_laysOf_33 ?_
        refine z_iload E 5 rfl dX11_laysOf_36 ?_
        refine z_lald E 3 rfl (Nat.le_of_ble_eq_true rfl) (by omega) (by omega) dX11_laysOf_38 ?_
        refine z_lconst0 E dX11_laysOf_39 ?_
        refine z_lc_ge (tgt := 55) E (by omega) (by omega) dX11_laysOf_40 dX11_laysOf_41 (by decide) (fun h_40 => ?_) (fun h_40 => ?_)
        · refine z_aload_n E 0 rfl rfl dX11_laysOf_55 ?_
          refine z_get E f_X11_26 0 rfl rfl dX11_laysOf_56 ?_
          refine z_iload E 5 rfl dX11_laysOf_59 ?_
          refine z_lald E 3 rfl (Nat.le_of_ble_eq_true rfl) (by omega) (by omega) dX11_laysOf_61 ?_
          refine z_lstore (lv' := [(10, .long (zl (fu k))), (0, .ref m0), (1, .long (zl t0)), (3, .long (zl DD)), (5, .long (zl b0)), (7, .long (zl (rt DD))), (9, .int (zi k))]) E dX11_laysOf_62 (Nat.le_of_ble_eq_true rfl) rfl ?_
          refine z_aload_n E 1 rfl rfl dX11_laysOf_64 ?_
          refine z_get E f_X11_22 0 rfl rfl dX11_laysOf_65 ?_
          refine z_iload E 6 rfl dX11_laysOf_68 ?_
          refine z_lald E 1 rfl (Nat.le_of_ble_eq_true rfl) (by omega) (by omega) dX11_laysOf_70 ?_
          refine z_lload E 5 rfl dX11_laysOf_71 ?_
          refine z_ladd E dX11_laysOf_73 ?_
          refine z_lload E 0 rfl dX11_laysOf_74 ?_
          refine z_callSl (As := [.long (zl ((fo k) + (rt DD))), .long (zl (fu k))]) (rest := []) (wr := [(m0, .inr (11, [.ref ms, .ref mp, .int (zi pn), .ref mt, .int (zi tyd), .ref mT, .ref mO, .ref mU, .int (zi ld), .long (zl up), .long (zl lw), .long (zl ua), .long (zl la), .long (zl bU), .int (zi bL), .int (zi sv), .int (zi xn), .int (zi yn), .int (zi sp), .int (zi rs), .int (zi pt), .ref mr])), (mO, al κ 402 fo), (mT, ai κ 401 ft), (mU, al κ 402 fu)]) E (c_X11_down l D κ ((fo k) + (rt DD)) (fu k) (by omega) (by omega)) m_X11_59 ⟨Nat.le_of_ble_eq_true rfl, Nat.le_of_ble_eq_true rfl⟩ ⟨rfl, rfl⟩ [] [0, 1, 2, 3] rfl rfl rfl rfl (by decide) rfl rfl (Nat.le_of_ble_eq_true rfl) dX11_laysOf_76 ⟨Nat.le_of_ble_eq_true rfl, Nat.le_of_ble_eq_true rfl⟩ (fun z76 w1 hq => ?_)
          obtain ⟨rfl, rfl⟩ := hq
          refine z_lstore (lv' := [(12, .long (zl (((fo k) + (rt DD)) / (fu k)))), (10, .long (zl (fu k))), (0, .ref m0), (1, .long (zl t0)), (3, .long (zl DD)), (5, .long (zl b0)), (7, .long (zl (rt DD))), (9, .int (zi k))]) E dX11_laysOf_79 (Nat.le_of_ble_eq_true rfl) rfl ?_
          refine z_aload_n E 2 rfl rfl dX11_laysOf_81 ?_
          refine z_get E f_X11_26 0 rfl rfl dX11_laysOf_82 ?_
          refine z_iload E 7 rfl dX11_laysOf_85 ?_
          refine z_lald E 3 rfl (Nat.le_of_ble_eq_true rfl) (by omega) (by omega) dX11_laysOf_87 ?_
          refine z_lconst0 E dX11_laysOf_88 ?_
          refine z_lc_ge (tgt := 101) E (by omega) (by omega) dX11_laysOf_89 dX11_laysOf_90 (by decide) (fun h_89 => ?_) (fun h_89 => absurd h_89 (by omega))
          refine z_lload E 0 rfl dX11_laysOf_101 ?_
          refine z_lstore (lv' := [(14, .long (zl (((fo k) + (rt DD)) / (fu k)))), (12, .long (zl (((fo k) + (rt DD)) / (fu k)))), (10, .long (zl (fu k))), (0, .ref m0), (1, .long (zl t0)), (3, .long (zl DD)), (5, .long (zl b0)), (7, .long (zl (rt DD))), (9, .int (zi k))]) E dX11_laysOf_103 (Nat.le_of_ble_eq_true rfl) rfl ?_
          have htm : ((fo k) + (rt DD)) / (fu k) = tm p d q k := by rw [← tm_of hke, ← hD, wh_pos (by omega)]
          rw [htm]
          refine z_aload_n E 3 rfl rfl dX11_laysOf_105 ?_
          refine z_get E f_X11_19 0 rfl rfl dX11_laysOf_106 ?_
          refine z_iload E 8 rfl dX11_laysOf_109 ?_
          refine z_lload E 0 rfl dX11_laysOf_111 ?_
          refine z_l2i E dX11_laysOf_113 ?_
          refine z_iast (ws' := [(m0, .inr (11, [.ref ms, .ref mp, .int (zi pn), .ref mt, .int (zi tyd), .ref mT, .ref mO, .ref mU, .int (zi ld), .long (zl up), .long (zl lw), .long (zl ua), .long (zl la), .long (zl bU), .int (zi bL), .int (zi sv), .int (zi xn), .int (zi yn), .int (zi sp), .int (zi rs), .int (zi pt), .ref mr])), (mO, al κ 402 fo), (mT, ai κ 401 (zu ft k (tm p d q k))), (mU, al κ 402 fu)]) E 2 rfl (Nat.le_of_ble_eq_true rfl) (by omega) (by omega) rfl dX11_laysOf_114 ?_
          refine z_aload_n E 3 rfl rfl dX11_laysOf_115 ?_
          refine z_get E f_X11_22 0 rfl rfl dX11_laysOf_116 ?_
          refine z_iload E 8 rfl dX11_laysOf_119 ?_
          refine z_iconst E dX11_laysOf_121 ?_
          refine z_iadd E dX11_laysOf_122 ?_
          refine z_lload E 0 rfl dX11_laysOf_123 ?_
          refine z_aload_n E 3 rfl rfl dX11_laysOf_125 ?_
          refine z_get E f_X11_26 0 rfl rfl dX11_laysOf_126 ?_
          refine z_iload E 8 rfl dX11_laysOf_129 ?_
          refine z_lald E 3 rfl (Nat.le_of_ble_eq_true rfl) (by omega) (by omega) dX11_laysOf_131 ?_
          refine z_lmul E dX11_laysOf_132 ?_
          refine z_aload_n E 3 rfl rfl dX11_laysOf_133 ?_
          refine z_get E f_X11_22 0 rfl rfl dX11_laysOf_134 ?_
          refine z_iload E 8 rfl dX11_laysOf_137 ?_
          refine z_lald E 1 rfl (Nat.le_of_ble_eq_true rfl) (by omega) (by omega) dX11_laysOf_139 ?_
          refine z_lsub E dX11_laysOf_140 ?_
          refine z_last (ws' := [(m0, .inr (11, [.ref ms, .ref mp, .int (zi pn), .ref mt, .int (zi tyd), .ref mT, .ref mO, .ref mU, .int (zi ld), .long (zl up), .long (zl lw), .long (zl ua), .long (zl la), .long (zl bU), .int (zi bL), .int (zi sv), .int (zi xn), .int (zi yn), .int (zi sp), .int (zi rs), .int (zi pt), .ref mr])), (mO, al κ 402 (zu fo (k + 1) (((tm p d q k) * (fu k)) - (fo k)))), (mT, ai κ 401 (zu ft k (tm p d q k))), (mU, al κ 402 fu)]) E 1 rfl (Nat.le_of_ble_eq_true rfl) (by omega) (by omega) rfl dX11_laysOf_141 ?_
          have hk2 := i1 k i0.1 (by omega)
          have hkg2 := hkg.2.2.2.2.1
          rw [hD, tm_of hk2] at hkg2
          have hsq := sq_bd (a := tm p d q k * fu k - fo k) (M := 30000) (by omega)
          refine z_aload_n E 3 rfl rfl dX11_laysOf_142 ?_
          refine z_get E f_X11_26 0 rfl rfl dX11_laysOf_143 ?_
          refine z_iload E 8 rfl dX11_laysOf_146 ?_
          refine z_iconst E dX11_laysOf_148 ?_
          refine z_iadd E dX11_laysOf_149 ?_
          refine z_lload_n E 5 rfl rfl dX11_laysOf_150 ?_
          refine z_aload_n E 3 rfl rfl dX11_laysOf_151 ?_
          refine z_get E f_X11_22 0 rfl rfl dX11_laysOf_152 ?_
          refine z_iload E 8 rfl dX11_laysOf_155 ?_
          refine z_iconst E dX11_laysOf_157 ?_
          refine z_iadd E dX11_laysOf_158 ?_
          refine z_lald E 1 rfl (Nat.le_of_ble_eq_true rfl) (by omega) (by omega) dX11_laysOf_159 ?_
          rw [zu_s]
          refine z_aload_n E 3 rfl rfl dX11_laysOf_160 ?_
          refine z_get E f_X11_22 0 rfl rfl dX11_laysOf_161 ?_
          refine z_iload E 8 rfl dX11_laysOf_164 ?_
          refine z_iconst E dX11_laysOf_166 ?_
          refine z_iadd E dX11_laysOf_167 ?_
          refine z_lald E 1 rfl (Nat.le_of_ble_eq_true rfl) (by omega) (by omega) dX11_laysOf_168 ?_
          rw [zu_s]
          refine z_lmul E dX11_laysOf_169 ?_
          refine z_lsub E dX11_laysOf_170 ?_
          refine z_aload_n E 3 rfl rfl dX11_laysOf_171 ?_
          refine z_get E f_X11_26 0 rfl rfl dX11_laysOf_172 ?_
          refine z_iload E 8 rfl dX11_laysOf_175 ?_
          refine z_lald E 3 rfl (Nat.le_of_ble_eq_true rfl) (by omega) (by omega) dX11_laysOf_177 ?_
          refine z_ldiv E (by omega) (by omega) (by omega) dX11_laysOf_178 ?_
          refine z_last (ws' := [(m0, .inr (11, [.ref ms, .ref mp, .int (zi pn), .ref mt, .int (zi tyd), .ref mT, .ref mO, .ref mU, .int (zi ld), .long (zl up), .long (zl lw), .long (zl ua), .long (zl la), .long (zl bU), .int (zi bL), .int (zi sv), .int (zi xn), .int (zi yn), .int (zi sp), .int (zi rs), .int (zi pt), .ref mr])), (mO, al κ 402 (zu fo (k + 1) (((tm p d q k) * (fu k)) - (fo k)))), (mT, ai κ 401 (zu ft k (tm p d q k))), (mU, al κ 402 (zu fu (k + 1) (Int.tdiv (DD - ((((tm p d q k) * (fu k)) - (fo k)) * (((tm p d q k) * (fu k)) - (fo k)))) (fu k))))]) E 3 rfl (Nat.le_of_ble_eq_true rfl) (by omega) (by omega) rfl dX11_laysOf_179 ?_
          refine z_iinc (lv' := [(9, .int (zi (k + 1))), (14, .long (zl (tm p d q k))), (12, .long (zl (tm p d q k))), (10, .long (zl (fu k))), (0, .ref m0), (1, .long (zl t0)), (3, .long (zl DD)), (5, .long (zl b0)), (7, .long (zl (rt DD)))]) E 8 rfl dX11_laysOf_180 (Nat.le_of_ble_eq_true rfl) rfl ?_
          refine z_goto (tgt := 24) E dX11_laysOf_183 (by decide) ?_
          refine Zg.sub (lv' := [(0, .ref m0), (1, .long (zl t0)), (3, .long (zl DD)), (5, .long (zl b0)), (7, .long (zl (rt DD))), (9, .int (zi (k + 1)))]) [4, 5, 6, 7, 8, 0] rfl ?_
          exact ih_24 (k + 1) (zu ft k (tm p d q k)) (zu fo (k + 1) (((tm p d q k) * (fu k)) - (fo k))) (zu fu (k + 1) (Int.tdiv (DD - ((((tm p d q k) * (fu k)) - (fo k)) * (((tm p d q k) * (fu k)) - (fo k)))) (fu k))) (by omega) (by rw [hD]; exact lyP_s i1 i0.1) (zu_tm i2 _ rfl) (by omega)
        · refine z_aload_n E 0 rfl rfl dX11_laysOf_44 ?_
          refine z_get E f_X11_26 0 rfl rfl dX11_laysOf_45 ?_
          refine z_iload E 5 rfl dX11_laysOf_48 ?_
          refine z_lald E 3 rfl (Nat.le_of_ble_eq_true rfl) (by omega) (by omega) dX11_laysOf_50 ?_
          refine z_lneg E dX11_laysOf_51 ?_
          refine z_goto (tgt := 62) E dX11_laysOf_52 (by decide) ?_
          refine z_lstore (lv' := [(10, .long (zl (-(fu k)))), (0, .ref m0), (1, .long (zl t0)), (3, .long (zl DD)), (5, .long (zl b0)), (7, .long (zl (rt DD))), (9, .int (zi k))]) E dX11_laysOf_62 (Nat.le_of_ble_eq_true rfl) rfl ?_
          refine z_aload_n E 1 rfl rfl dX11_laysOf_64 ?_
          refine z_get E f_X11_22 0 rfl rfl dX11_laysOf_65 ?_
          refine z_iload E 6 rfl dX11_laysOf_68 ?_
          refine z_lald E 1 rfl (Nat.le_of_ble_eq_true rfl) (by omega) (by omega) dX11_laysOf_70 ?_
          refine z_lload E 5 rfl dX11_laysOf_71 ?_
          refine z_ladd E dX11_laysOf_73 ?_
          refine z_lload E 0 rfl dX11_laysOf_74 ?_
          refine z_callSl (As := [.long (zl ((fo k) + (rt DD))), .long (zl (-(fu k)))]) (rest := []) (wr := [(m0, .inr (11, [.ref ms, .ref mp, .int (zi pn), .ref mt, .int (zi tyd), .ref mT, .ref mO, .ref mU, .int (zi ld), .long (zl up), .long (zl lw), .long (zl ua), .long (zl la), .long (zl bU), .int (zi bL), .int (zi sv), .int (zi xn), .int (zi yn), .int (zi sp), .int (zi rs), .int (zi pt), .ref mr])), (mO, al κ 402 fo), (mT, ai κ 401 ft), (mU, al κ 402 fu)]) E (c_X11_down l D κ ((fo k) + (rt DD)) (-(fu k)) (by omega) (by omega)) m_X11_59 ⟨Nat.le_of_ble_eq_true rfl, Nat.le_of_ble_eq_true rfl⟩ ⟨rfl, rfl⟩ [] [0, 1, 2, 3] rfl rfl rfl rfl (by decide) rfl rfl (Nat.le_of_ble_eq_true rfl) dX11_laysOf_76 ⟨Nat.le_of_ble_eq_true rfl, Nat.le_of_ble_eq_true rfl⟩ (fun z76 w1 hq => ?_)
          obtain ⟨rfl, rfl⟩ := hq
          refine z_lstore (lv' := [(12, .long (zl (((fo k) + (rt DD)) / (-(fu k))))), (10, .long (zl (-(fu k)))), (0, .ref m0), (1, .long (zl t0)), (3, .long (zl DD)), (5, .long (zl b0)), (7, .long (zl (rt DD))), (9, .int (zi k))]) E dX11_laysOf_79 (Nat.le_of_ble_eq_true rfl) rfl ?_
          refine z_aload_n E 2 rfl rfl dX11_laysOf_81 ?_
          refine z_get E f_X11_26 0 rfl rfl dX11_laysOf_82 ?_
          refine z_iload E 7 rfl dX11_laysOf_85 ?_
          refine z_lald E 3 rfl (Nat.le_of_ble_eq_true rfl) (by omega) (by omega) dX11_laysOf_87 ?_
          refine z_lconst0 E dX11_laysOf_88 ?_
          refine z_lc_ge (tgt := 101) E (by omega) (by omega) dX11_laysOf_89 dX11_laysOf_90 (by decide) (fun h_89 => absurd h_89 (by omega)) (fun h_89 => ?_)
          refine z_lload E 0 rfl dX11_laysOf_93 ?_
          refine z_lneg E dX11_laysOf_95 ?_
          refine z_lconst1 E dX11_laysOf_96 ?_
          refine z_lsub E dX11_laysOf_97 ?_
          refine z_goto (tgt := 103) E dX11_laysOf_98 (by decide) ?_
          refine z_lstore (lv' := [(14, .long (zl ((-(((fo k) + (rt DD)) / (-(fu k)))) - 1))), (12, .long (zl (((fo k) + (rt DD)) / (-(fu k))))), (10, .long (zl (-(fu k)))), (0, .ref m0), (1, .long (zl t0)), (3, .long (zl DD)), (5, .long (zl b0)), (7, .long (zl (rt DD))), (9, .int (zi k))]) E dX11_laysOf_103 (Nat.le_of_ble_eq_true rfl) rfl ?_
          have htm : (-(((fo k) + (rt DD)) / (-(fu k)))) - 1 = tm p d q k := by rw [← tm_of hke, ← hD, wh_neg (by omega)]; omega
          rw [htm]
          refine z_aload_n E 3 rfl rfl dX11_laysOf_105 ?_
          refine z_get E f_X11_19 0 rfl rfl dX11_laysOf_106 ?_
          refine z_iload E 8 rfl dX11_laysOf_109 ?_
          refine z_lload E 0 rfl dX11_laysOf_111 ?_
          refine z_l2i E dX11_laysOf_113 ?_
          refine z_iast (ws' := [(m0, .inr (11, [.ref ms, .ref mp, .int (zi pn), .ref mt, .int (zi tyd), .ref mT, .ref mO, .ref mU, .int (zi ld), .long (zl up), .long (zl lw), .long (zl ua), .long (zl la), .long (zl bU), .int (zi bL), .int (zi sv), .int (zi xn), .int (zi yn), .int (zi sp), .int (zi rs), .int (zi pt), .ref mr])), (mO, al κ 402 fo), (mT, ai κ 401 (zu ft k (tm p d q k))), (mU, al κ 402 fu)]) E 2 rfl (Nat.le_of_ble_eq_true rfl) (by omega) (by omega) rfl dX11_laysOf_114 ?_
          refine z_aload_n E 3 rfl rfl dX11_laysOf_115 ?_
          refine z_get E f_X11_22 0 rfl rfl dX11_laysOf_116 ?_
          refine z_iload E 8 rfl dX11_laysOf_119 ?_
          refine z_iconst E dX11_laysOf_121 ?_
          refine z_iadd E dX11_laysOf_122 ?_
          refine z_lload E 0 rfl dX11_laysOf_123 ?_
          refine z_aload_n E 3 rfl rfl dX11_laysOf_125 ?_
          refine z_get E f_X11_26 0 rfl rfl dX11_laysOf_126 ?_
          refine z_iload E 8 rfl dX11_laysOf_129 ?_
          refine z_lald E 3 rfl (Nat.le_of_ble_eq_true rfl) (by omega) (by omega) dX11_laysOf_131 ?_
          refine z_lmul E dX11_laysOf_132 ?_
          refine z_aload_n E 3 rfl rfl dX11_laysOf_133 ?_
          refine z_get E f_X11_22 0 rfl rfl dX11_laysOf_134 ?_
          refine z_iload E 8 rfl dX11_laysOf_137 ?_
          refine z_lald E 1 rfl (Nat.le_of_ble_eq_true rfl) (by omega) (by omega) dX11_laysOf_139 ?_
          refine z_lsub E dX11_laysOf_140 ?_
          refine z_last (ws' := [(m0, .inr (11, [.ref ms, .ref mp, .int (zi pn), .ref mt, .int (zi tyd), .ref mT, .ref mO, .ref mU, .int (zi ld), .long (zl up), .long (zl lw), .long (zl ua), .long (zl la), .long (zl bU), .int (zi bL), .int (zi sv), .int (zi xn), .int (zi yn), .int (zi sp), .int (zi rs), .int (zi pt), .ref mr])), (mO, al κ 402 (zu fo (k + 1) (((tm p d q k) * (fu k)) - (fo k)))), (mT, ai κ 401 (zu ft k (tm p d q k))), (mU, al κ 402 fu)]) E 1 rfl (Nat.le_of_ble_eq_true rfl) (by omega) (by omega) rfl dX11_laysOf_141 ?_
          have hk2 := i1 k i0.1 (by omega)
          have hkg2 := hkg.2.2.2.2.1
          rw [hD, tm_of hk2] at hkg2
          have hsq := sq_bd (a := tm p d q k * fu k - fo k) (M := 30000) (by omega)
          refine z_aload_n E 3 rfl rfl dX11_laysOf_142 ?_
          refine z_get E f_X11_26 0 rfl rfl dX11_laysOf_143 ?_
          refine z_iload E 8 rfl dX11_laysOf_146 ?_
          refine z_iconst E dX11_laysOf_148 ?_
          refine z_iadd E dX11_laysOf_149 ?_
          refine z_lload_n E 5 rfl rfl dX11_laysOf_150 ?_
          refine z_aload_n E 3 rfl rfl dX11_laysOf_151 ?_
          refine z_get E f_X11_22 0 rfl rfl dX11_laysOf_152 ?_
          refine z_iload E 8 rfl dX11_laysOf_155 ?_
          refine z_iconst E dX11_laysOf_157 ?_
          refine z_iadd E dX11_laysOf_158 ?_
          refine z_lald E 1 rfl (Nat.le_of_ble_eq_true rfl) (by omega) (by omega) dX11_laysOf_159 ?_
          rw [zu_s]
          refine z_aload_n E 3 rfl rfl dX11_laysOf_160 ?_
          refine z_get E f_X11_22 0 rfl rfl dX11_laysOf_161 ?_
          refine z_iload E 8 rfl dX11_laysOf_164 ?_
          refine z_iconst E dX11_laysOf_166 ?_
          refine z_iadd E dX11_laysOf_167 ?_
          refine z_lald E 1 rfl (Nat.le_of_ble_eq_true rfl) (by omega) (by omega) dX11_laysOf_168 ?_
          rw [zu_s]
          refine z_lmul E dX11_laysOf_169 ?_
          refine z_lsub E dX11_laysOf_170 ?_
          refine z_aload_n E 3 rfl rfl dX11_laysOf_171 ?_
          refine z_get E f_X11_26 0 rfl rfl dX11_laysOf_172 ?_
          refine z_iload E 8 rfl dX11_laysOf_175 ?_
          refine z_lald E 3 rfl (Nat.le_of_ble_eq_true rfl) (by omega) (by omega) dX11_laysOf_177 ?_
          refine z_ldiv E (by omega) (by omega) (by omega) dX11_laysOf_178 ?_
          refine z_last (ws' := [(m0, .inr (11, [.ref ms, .ref mp, .int (zi pn), .ref mt, .int (zi tyd), .ref mT, .ref mO, .ref mU, .int (zi ld), .long (zl up), .long (zl lw), .long (zl ua), .long (zl la), .long (zl bU), .int (zi bL), .int (zi sv), .int (zi xn), .int (zi yn), .int (zi sp), .int (zi rs), .int (zi pt), .ref mr])), (mO, al κ 402 (zu fo (k + 1) (((tm p d q k) * (fu k)) - (fo k)))), (mT, ai κ 401 (zu ft k (tm p d q k))), (mU, al κ 402 (zu fu (k + 1) (Int.tdiv (DD - ((((tm p d q k) * (fu k)) - (fo k)) * (((tm p d q k) * (fu k)) - (fo k)))) (fu k))))]) E 3 rfl (Nat.le_of_ble_eq_true rfl) (by omega) (by omega) rfl dX11_laysOf_179 ?_
          refine z_iinc (lv' := [(9, .int (zi (k + 1))), (14, .long (zl (tm p d q k))), (12, .long (zl (((fo k) + (rt DD)) / (-(fu k))))), (10, .long (zl (-(fu k)))), (0, .ref m0), (1, .long (zl t0)), (3, .long (zl DD)), (5, .long (zl b0)), (7, .long (zl (rt DD)))]) E 8 rfl dX11_laysOf_180 (Nat.le_of_ble_eq_true rfl) rfl ?_
          refine z_goto (tgt := 24) E dX11_laysOf_183 (by decide) ?_
          refine Zg.sub (lv' := [(0, .ref m0), (1, .long (zl t0)), (3, .long (zl DD)), (5, .long (zl b0)), (7, .long (zl (rt DD))), (9, .int (zi (k + 1)))]) [4, 5, 6, 7, 8, 0] rfl ?_
          exact ih_24 (k + 1) (zu ft k (tm p d q k)) (zu fo (k + 1) (((tm p d q k) * (fu k)) - (fo k))) (zu fu (k + 1) (Int.tdiv (DD - ((((tm p d q k) * (fu k)) - (fo k)) * (((tm p d q k) * (fu k)) - (fo k)))) (fu k))) (by omega) (by rw [hD]; exact lyP_s i1 i0.1) (zu_tm i2 _ rfl) (by omega)
  refine Zg.sub (lv' := [(0, .ref m0), (1, .long (zl t0)), (3, .long (zl DD)), (5, .long (zl b0)), (7, .long (zl (rt DD))), (9, .int (zi 0))]) [2, 3, 4, 5, 1, 0] rfl ?_
  refine Zg.perm (ws' := [(m0, .inr (11, [.ref ms, .ref mp, .int (zi pn), .ref mt, .int (zi tyd), .ref mT, .ref mO, .ref mU, .int (zi ld), .long (zl up), .long (zl lw), .long (zl ua), .long (zl la), .long (zl bU), .int (zi bL), .int (zi sv), .int (zi xn), .int (zi yn), .int (zi sp), .int (zi rs), .int (zi pt), .ref mr])), (mO, al κ 402 (zu OV 0 t0)), (mT, ai κ 401 T), (mU, al κ 402 (zu UN 0 b0))]) [0, 2, 1, 3] rfl rfl ?_
  exact lp_24 ((401 - 0 : Int).toNat + 1) 0 T (zu OV 0 t0) (zu UN 0 b0) (by omega) (lyP_0 hs) (fun j j1 j2 => absurd j1 (by omega)) (by omega)
abbrev rm_X11_lays : Room := { frames := 2, cells := 0, slots := 0, locals := 63 }
set_option maxRecDepth 100000 in
theorem c_X11_lays (l : Launch) (D : va_G) (κ : Nat → ClassId) (m0 : Nat) (ms : Nat) (mp : Nat) (pn : Int) (mt : Nat) (tyd : Int) (mT : Nat) (mO : Nat) (mU : Nat) (ld : Int) (up : Int) (lw : Int) (ua : Int) (la : Int) (bU : Int) (bL : Int) (sv : Int) (xn : Int) (yn : Int) (sp : Int) (rs : Int) (pt : Int) (mr : Nat) (S : Int → Int) (T : Int → Int) (OV : Int → Int) (UN : Int → Int) (hv : vS (S 0) (S 1) (S 2)) : ZV l yX11_lays cX11_lays 3 rm_X11_lays D κ [.ref m0] [(m0, .inr (11, [.ref ms, .ref mp, .int (zi pn), .ref mt, .int (zi tyd), .ref mT, .ref mO, .ref mU, .int (zi ld), .long (zl up), .long (zl lw), .long (zl ua), .long (zl la), .long (zl bU), .int (zi bL), .int (zi sv), .int (zi xn), .int (zi yn), .int (zi sp), .int (zi rs), .int (zi pt), .ref mr])), (ms, ai κ 20 S), (mT, ai κ 401 T), (mO, al κ 402 OV), (mU, al κ 402 UN)] (fun w => ∃ T' : Int → Int, ∃ OV' : Int → Int, ∃ UN' : Int → Int, (∀ k : Int, 0 ≤ k → k ≤ 400 → T' k = tm (S 0) (S 1) (S 2) k) ∧ (lyP (S 0) (S 1) (S 2) 401 OV' UN') ∧ [(m0, .inr (11, [.ref ms, .ref mp, .int (zi pn), .ref mt, .int (zi tyd), .ref mT, .ref mO, .ref mU, .int (zi ld), .long (zl up), .long (zl lw), .long (zl ua), .long (zl la), .long (zl bU), .int (zi bL), .int (zi sv), .int (zi xn), .int (zi yn), .int (zi sp), .int (zi rs), .int (zi pt), .ref mr])), (ms, ai κ 20 S), (mT, ai κ 401 T'), (mO, al κ 402 OV'), (mU, al κ 402 UN')] = w) := by
  refine ZV.enter (own := RX11) rfl pn_X11_lays (Nat.le_of_ble_eq_true rfl) (fun X E fin => ?_)
  show Zg X [(m0, .inr (11, [.ref ms, .ref mp, .int (zi pn), .ref mt, .int (zi tyd), .ref mT, .ref mO, .ref mU, .int (zi ld), .long (zl up), .long (zl lw), .long (zl ua), .long (zl la), .long (zl bU), .int (zi bL), .int (zi sv), .int (zi xn), .int (zi yn), .int (zi sp), .int (zi rs), .int (zi pt), .ref mr])), (ms, ai κ 20 S), (mT, ai κ 401 T), (mO, al κ 402 OV), (mU, al κ 402 UN)] 0 0 0 [(0, .ref m0)] []
  obtain ⟨v1, v2, v3, v4, v5⟩ := id hv
  refine z_aload_n E 0 rfl rfl dX11_lays_0 ?_
  refine z_get E f_X11_7 0 rfl rfl dX11_lays_1 ?_
  refine z_iconst E dX11_lays_4 ?_
  refine z_iald E 1 rfl (Nat.le_of_ble_eq_true rfl) (by omega) (by omega) dX11_lays_5 ?_
  refine z_if_ge (tgt := 20) E (by omega) dX11_lays_6 (by decide) (fun h_6 => ?_) (fun h_6 => ?_)
  · refine z_aload_n E 0 rfl rfl dX11_lays_20 ?_
    refine z_get E f_X11_7 0 rfl rfl dX11_lays_21 ?_
    refine z_iconst E dX11_lays_24 ?_
    refine z_iald E 1 rfl (Nat.le_of_ble_eq_true rfl) (by omega) (by omega) dX11_lays_25 ?_
    refine z_i2l E (by omega) dX11_lays_26 ?_
    refine z_lstore_n (lv' := [(1, .long (zl (S 2))), (0, .ref m0)]) E dX11_lays_27 rfl (Nat.le_of_ble_eq_true rfl) rfl ?_
    refine z_aload_n E 1 rfl rfl dX11_lays_28 ?_
    refine z_aload_n E 1 rfl rfl dX11_lays_29 ?_
    refine z_get E f_X11_7 0 rfl rfl dX11_lays_30 ?_
    refine z_iconst E dX11_lays_33 ?_
    refine z_iald E 1 rfl (Nat.le_of_ble_eq_true rfl) (by omega) (by omega) dX11_lays_34 ?_
    refine z_i2l E (by omega) dX11_lays_35 ?_
    refine z_lload_n E 0 rfl rfl dX11_lays_36 ?_
    refine z_lmul E dX11_lays_37 ?_
    refine z_aload_n E 1 rfl rfl dX11_lays_38 ?_
    refine z_get E f_X11_7 0 rfl rfl dX11_lays_39 ?_
    refine z_iconst E dX11_lays_42 ?_
    refine z_iald E 1 rfl (Nat.le_of_ble_eq_true rfl) (by omega) (by omega) dX11_lays_43 ?_
    refine z_i2l E (by omega) dX11_lays_44 ?_
    refine z_lload_n E 0 rfl rfl dX11_lays_45 ?_
    refine z_lmul E dX11_lays_46 ?_
    refine z_lload_n E 0 rfl rfl dX11_lays_47 ?_
    refine z_lmul E dX11_lays_48 ?_
    refine z_aload_n E 1 rfl rfl dX11_lays_49 ?_
    refine z_get E f_X11_7 0 rfl rfl dX11_lays_50 ?_
    refine z_iconst E dX11_lays_53 ?_
    refine z_iald E 1 rfl (Nat.le_of_ble_eq_true rfl) (by omega) (by omega) dX11_lays_54 ?_
    refine z_i2l E (by omega) dX11_lays_55 ?_
    refine z_lload_n E 0 rfl rfl dX11_lays_56 ?_
    refine z_lmul E dX11_lays_57 ?_
    have hz : zabs (S 2) = S 2 := by have := zabs_or (S 2); omega
    refine z_callVv (As := [.long (zl ((S 0) * (S 2))), .long (zl (((S 1) * (S 2)) * (S 2))), .long (zl ((S 2) * (S 2)))]) (rest := []) (wr := [(ms, ai κ 20 S)]) E (c_X11_laysOf l D κ m0 ms mp pn mt tyd mT mO mU ld up lw ua la bU bL sv xn yn sp rs pt mr T OV UN (S 0) (S 1) (S 2) ((S 0) * (S 2)) (((S 1) * (S 2)) * (S 2)) ((S 2) * (S 2)) (hv) (by unfold Dd; rw [hz]) (by show (S 0 * zabs (S 2), S 2 * zabs (S 2)) = _; rw [hz])) m_X11_63 ⟨Nat.le_of_ble_eq_true rfl, Nat.le_of_ble_eq_true rfl⟩ ⟨rfl, rfl⟩ [0, 2, 3, 4] [1] rfl rfl rfl rfl (by decide) rfl rfl rfl rfl (Nat.le_of_ble_eq_true rfl) dX11_lays_58 ⟨Nat.le_of_ble_eq_true rfl, Nat.le_of_ble_eq_true rfl⟩ (fun  w1 hq => ?_)
    obtain ⟨T'_1, OV'_2, UN'_3, hT_58, hO_58, rfl⟩ := hq
    refine Zg.perm (ws' := [(m0, .inr (11, [.ref ms, .ref mp, .int (zi pn), .ref mt, .int (zi tyd), .ref mT, .ref mO, .ref mU, .int (zi ld), .long (zl up), .long (zl lw), .long (zl ua), .long (zl la), .long (zl bU), .int (zi bL), .int (zi sv), .int (zi xn), .int (zi yn), .int (zi sp), .int (zi rs), .int (zi pt), .ref mr])), (ms, ai κ 20 S), (mT, ai κ 401 T'_1), (mO, al κ 402 OV'_2), (mU, al κ 402 UN'_3)]) [1, 0, 2, 3, 4] rfl rfl ?_
    exact fin _ _ _ (⟨_, _, _, hT_58, hO_58, rfl⟩) dX11_lays_61
  · refine z_aload_n E 0 rfl rfl dX11_lays_9 ?_
    refine z_get E f_X11_7 0 rfl rfl dX11_lays_10 ?_
    refine z_iconst E dX11_lays_13 ?_
    refine z_iald E 1 rfl (Nat.le_of_ble_eq_true rfl) (by omega) (by omega) dX11_lays_14 ?_
    refine z_ineg E dX11_lays_15 ?_
    refine z_i2l E (by omega) dX11_lays_16 ?_
    refine z_goto (tgt := 27) E dX11_lays_17 (by decide) ?_
    refine z_lstore_n (lv' := [(1, .long (zl (-(S 2)))), (0, .ref m0)]) E dX11_lays_27 rfl (Nat.le_of_ble_eq_true rfl) rfl ?_
    refine z_aload_n E 1 rfl rfl dX11_lays_28 ?_
    refine z_aload_n E 1 rfl rfl dX11_lays_29 ?_
    refine z_get E f_X11_7 0 rfl rfl dX11_lays_30 ?_
    refine z_iconst E dX11_lays_33 ?_
    refine z_iald E 1 rfl (Nat.le_of_ble_eq_true rfl) (by omega) (by omega) dX11_lays_34 ?_
    refine z_i2l E (by omega) dX11_lays_35 ?_
    refine z_lload_n E 0 rfl rfl dX11_lays_36 ?_
    refine z_lmul E dX11_lays_37 ?_
    refine z_aload_n E 1 rfl rfl dX11_lays_38 ?_
    refine z_get E f_X11_7 0 rfl rfl dX11_lays_39 ?_
    refine z_iconst E dX11_lays_42 ?_
    refine z_iald E 1 rfl (Nat.le_of_ble_eq_true rfl) (by omega) (by omega) dX11_lays_43 ?_
    refine z_i2l E (by omega) dX11_lays_44 ?_
    refine z_lload_n E 0 rfl rfl dX11_lays_45 ?_
    refine z_lmul E dX11_lays_46 ?_
    refine z_lload_n E 0 rfl rfl dX11_lays_47 ?_
    refine z_lmul E dX11_lays_48 ?_
    refine z_aload_n E 1 rfl rfl dX11_lays_49 ?_
    refine z_get E f_X11_7 0 rfl rfl dX11_lays_50 ?_
    refine z_iconst E dX11_lays_53 ?_
    refine z_iald E 1 rfl (Nat.le_of_ble_eq_true rfl) (by omega) (by omega) dX11_lays_54 ?_
    refine z_i2l E (by omega) dX11_lays_55 ?_
    refine z_lload_n E 0 rfl rfl dX11_lays_56 ?_
    refine z_lmul E dX11_lays_57 ?_
    have hz : zabs (S 2) = -(S 2) := by have := zabs_or (S 2); omega
    refine z_callVv (As := [.long (zl ((S 0) * (-(S 2)))), .long (zl (((S 1) * (-(S 2))) * (-(S 2)))), .long (zl ((S 2) * (-(S 2))))]) (rest := []) (wr := [(ms, ai κ 20 S)]) E (c_X11_laysOf l D κ m0 ms mp pn mt tyd mT mO mU ld up lw ua la bU bL sv xn yn sp rs pt mr T OV UN (S 0) (S 1) (S 2) ((S 0) * (-(S 2))) (((S 1) * (-(S 2))) * (-(S 2))) ((S 2) * (-(S 2))) (hv) (by unfold Dd; rw [hz]) (by show (S 0 * zabs (S 2), S 2 * zabs (S 2)) = _; rw [hz])) m_X11_63 ⟨Nat.le_of_ble_eq_true rfl, Nat.le_of_ble_eq_true rfl⟩ ⟨rfl, rfl⟩ [0, 2, 3, 4] [1] rfl rfl rfl rfl (by decide) rfl rfl rfl rfl (Nat.le_of_ble_eq_true rfl) dX11_lays_58 ⟨Nat.le_of_ble_eq_true rfl, Nat.le_of_ble_eq_true rfl⟩ (fun  w1 hq => ?_)
    obtain ⟨T'_4, OV'_5, UN'_6, hT_58, hO_58, rfl⟩ := hq
    refine Zg.perm (ws' := [(m0, .inr (11, [.ref ms, .ref mp, .int (zi pn), .ref mt, .int (zi tyd), .ref mT, .ref mO, .ref mU, .int (zi ld), .long (zl up), .long (zl lw), .long (zl ua), .long (zl la), .long (zl bU), .int (zi bL), .int (zi sv), .int (zi xn), .int (zi yn), .int (zi sp), .int (zi rs), .int (zi pt), .ref mr])), (ms, ai κ 20 S), (mT, ai κ 401 T'_4), (mO, al κ 402 OV'_5), (mU, al κ 402 UN'_6)]) [1, 0, 2, 3, 4] rfl rfl ?_
    exact fin _ _ _ (⟨_, _, _, hT_58, hO_58, rfl⟩) dX11_lays_61
abbrev rm_X11_term : Room := { frames := 3, cells := 0, slots := 0, locals := 85 }
set_option maxRecDepth 100000 in
theorem c_X11_term (l : Launch) (D : va_G) (κ : Nat → ClassId) (m0 : Nat) (ms : Nat) (mp : Nat) (pn : Int) (mt : Nat) (tyd : Int) (mT : Nat) (mO : Nat) (mU : Nat) (ld : Int) (up : Int) (lw : Int) (ua : Int) (la : Int) (bU : Int) (bL : Int) (sv : Int) (xn : Int) (yn : Int) (sp : Int) (rs : Int) (pt : Int) (mr : Nat) (S : Int → Int) (T : Int → Int) (OV : Int → Int) (UN : Int → Int) (i : Int) (hr0 : -2147483648 ≤ i ∧ i ≤ 2147483647) (hv : vS (S 0) (S 1) (S 2)) : ZI l yX11_term cX11_term 2 .int rm_X11_term D κ [.ref m0, .int (zi i)] [(m0, .inr (11, [.ref ms, .ref mp, .int (zi pn), .ref mt, .int (zi tyd), .ref mT, .ref mO, .ref mU, .int (zi ld), .long (zl up), .long (zl lw), .long (zl ua), .long (zl la), .long (zl bU), .int (zi bL), .int (zi sv), .int (zi xn), .int (zi yn), .int (zi sp), .int (zi rs), .int (zi pt), .ref mr])), (ms, ai κ 20 S), (mT, ai κ 401 T), (mO, al κ 402 OV), (mU, al κ 402 UN)] (fun z w => ∃ r : Int, ∃ T' : Int → Int, ∃ OV' : Int → Int, ∃ UN' : Int → Int, (r = if 0 ≤ i ∧ i ≤ 399 then tm (S 0) (S 1) (S 2) i + 1000 else -1000001) ∧ r = z ∧ [(m0, .inr (11, [.ref ms, .ref mp, .int (zi pn), .ref mt, .int (zi tyd), .ref mT, .ref mO, .ref mU, .int (zi ld), .long (zl up), .long (zl lw), .long (zl ua), .long (zl la), .long (zl bU), .int (zi bL), .int (zi sv), .int (zi xn), .int (zi yn), .int (zi sp), .int (zi rs), .int (zi pt), .ref mr])), (ms, ai κ 20 S), (mT, ai κ 401 T'), (mO, al κ 402 OV'), (mU, al κ 402 UN')] = w) := by
  refine ZI.enter (own := RX11) rfl pn_X11_term (Nat.le_of_ble_eq_true rfl) (fun X E fin => ?_)
  show Zg X [(m0, .inr (11, [.ref ms, .ref mp, .int (zi pn), .ref mt, .int (zi tyd), .ref mT, .ref mO, .ref mU, .int (zi ld), .long (zl up), .long (zl lw), .long (zl ua), .long (zl la), .long (zl bU), .int (zi bL), .int (zi sv), .int (zi xn), .int (zi yn), .int (zi sp), .int (zi rs), .int (zi pt), .ref mr])), (ms, ai κ 20 S), (mT, ai κ 401 T), (mO, al κ 402 OV), (mU, al κ 402 UN)] 0 0 0 [(0, .ref m0), (1, .int (zi i))] []
  refine z_iload_n E 1 rfl rfl dX11_term_0 ?_
  refine z_i2l E (by omega) dX11_term_1 ?_
  refine z_lconst0 E dX11_term_2 ?_
  refine z_ldc2 E k_X11_67 dX11_term_3 ?_
  refine z_callSi (As := [.long (zl i), .long (zl 0), .long (zl 399)]) (rest := []) (wr := [(m0, .inr (11, [.ref ms, .ref mp, .int (zi pn), .ref mt, .int (zi tyd), .ref mT, .ref mO, .ref mU, .int (zi ld), .long (zl up), .long (zl lw), .long (zl ua), .long (zl la), .long (zl bU), .int (zi bL), .int (zi sv), .int (zi xn), .int (zi yn), .int (zi sp), .int (zi rs), .int (zi pt), .ref mr])), (ms, ai κ 20 S), (mT, ai κ 401 T), (mO, al κ 402 OV), (mU, al κ 402 UN)]) E (c_X11_in l D κ i 0 399 (by omega) (by omega) (by omega)) m_X11_44 ⟨Nat.le_of_ble_eq_true rfl, Nat.le_of_ble_eq_true rfl⟩ ⟨rfl, rfl⟩ [] [0, 1, 2, 3, 4] rfl rfl rfl rfl (by decide) rfl rfl (Nat.le_of_ble_eq_true rfl) dX11_term_6 ⟨Nat.le_of_ble_eq_true rfl, Nat.le_of_ble_eq_true rfl⟩ (fun z6 w1 hq => ?_)
  obtain ⟨⟨rfl, hc_6⟩ | ⟨rfl, hc_6⟩, rfl⟩ := hq
  · refine z_if_ne (tgt := 15) E (by omega) dX11_term_9 (by decide) (fun _ => ?_) (fun h => absurd h (by decide))
    refine z_aload_n E 0 rfl rfl dX11_term_15 ?_
    refine z_callVv (As := []) (rest := []) (wr := []) E (c_X11_lays l D κ m0 ms mp pn mt tyd mT mO mU ld up lw ua la bU bL sv xn yn sp rs pt mr S T OV UN (hv)) m_X11_69 ⟨Nat.le_of_ble_eq_true rfl, Nat.le_of_ble_eq_true rfl⟩ ⟨rfl, rfl⟩ [0, 1, 2, 3, 4] [] rfl rfl rfl rfl (by decide) rfl rfl rfl rfl (Nat.le_of_ble_eq_true rfl) dX11_term_16 ⟨Nat.le_of_ble_eq_true rfl, Nat.le_of_ble_eq_true rfl⟩ (fun  w1 hq => ?_)
    obtain ⟨T'_1, OV'_2, UN'_3, hT_16, hO_16, rfl⟩ := hq
    refine z_aload_n E 0 rfl rfl dX11_term_19 ?_
    refine z_get E f_X11_19 0 rfl rfl dX11_term_20 ?_
    refine z_iload_n E 1 rfl rfl dX11_term_23 ?_
    refine z_iald E 2 rfl (Nat.le_of_ble_eq_true rfl) (by omega) (by omega) dX11_term_24 ?_
    refine z_sipush E dX11_term_25 (by decide) ?_
    refine z_iadd E dX11_term_28 ?_
    exact fin _ _ _ _ rfl (⟨_, _, _, _, (by rw [if_pos hc_6, hT_16 i (by omega) (by omega)]), rfl, rfl⟩) dX11_term_29
  · refine z_if_ne (tgt := 15) E (by omega) dX11_term_9 (by decide) (fun h => absurd h (by decide)) (fun _ => ?_)
    refine z_ldc E k_X11_50 dX11_term_12 ?_
    exact fin _ _ _ _ rfl (⟨_, _, _, _, (by rw [if_neg hc_6]), rfl, rfl⟩) dX11_term_14
abbrev rm_X11_period : Room := { frames := 3, cells := 0, slots := 0, locals := 85 }
set_option maxRecDepth 100000 in
theorem c_X11_period (l : Launch) (D : va_G) (κ : Nat → ClassId) (m0 : Nat) (ms : Nat) (mp : Nat) (pn : Int) (mt : Nat) (tyd : Int) (mT : Nat) (mO : Nat) (mU : Nat) (ld : Int) (up : Int) (lw : Int) (ua : Int) (la : Int) (bU : Int) (bL : Int) (sv : Int) (xn : Int) (yn : Int) (sp : Int) (rs : Int) (pt : Int) (mr : Nat) (S : Int → Int) (T : Int → Int) (OV : Int → Int) (UN : Int → Int) (hv : vS (S 0) (S 1) (S 2)) : ZI l yX11_period cX11_period 3 .int rm_X11_period D κ [.ref m0] [(m0, .inr (11, [.ref ms, .ref mp, .int (zi pn), .ref mt, .int (zi tyd), .ref mT, .ref mO, .ref mU, .int (zi ld), .long (zl up), .long (zl lw), .long (zl ua), .long (zl la), .long (zl bU), .int (zi bL), .int (zi sv), .int (zi xn), .int (zi yn), .int (zi sp), .int (zi rs), .int (zi pt), .ref mr])), (ms, ai κ 20 S), (mT, ai κ 401 T), (mO, al κ 402 OV), (mU, al κ 402 UN)] (fun z w => ∃ r : Int, ∃ ld' : Int, ∃ T' : Int → Int, ∃ OV' : Int → Int, ∃ UN' : Int → Int, (perP (S 0) (S 1) (S 2) r ld ld') ∧ (∀ k : Int, 0 ≤ k → k ≤ 400 → T' k = tm (S 0) (S 1) (S 2) k) ∧ (lyP (S 0) (S 1) (S 2) 401 OV' UN') ∧ r = z ∧ [(m0, .inr (11, [.ref ms, .ref mp, .int (zi pn), .ref mt, .int (zi tyd), .ref mT, .ref mO, .ref mU, .int (zi ld'), .long (zl up), .long (zl lw), .long (zl ua), .long (zl la), .long (zl bU), .int (zi bL), .int (zi sv), .int (zi xn), .int (zi yn), .int (zi sp), .int (zi rs), .int (zi pt), .ref mr])), (ms, ai κ 20 S), (mT, ai κ 401 T'), (mO, al κ 402 OV'), (mU, al κ 402 UN')] = w) := by
  refine ZI.enter (own := RX11) rfl pn_X11_period (Nat.le_of_ble_eq_true rfl) (fun X E fin => ?_)
  show Zg X [(m0, .inr (11, [.ref ms, .ref mp, .int (zi pn), .ref mt, .int (zi tyd), .ref mT, .ref mO, .ref mU, .int (zi ld), .long (zl up), .long (zl lw), .long (zl ua), .long (zl la), .long (zl bU), .int (zi bL), .int (zi sv), .int (zi xn), .int (zi yn), .int (zi sp), .int (zi rs), .int (zi pt), .ref mr])), (ms, ai κ 20 S), (mT, ai κ 401 T), (mO, al κ 402 OV), (mU, al κ 402 UN)] 0 0 0 [(0, .ref m0)] []
  refine z_aload_n E 0 rfl rfl dX11_period_0 ?_
  refine z_callVv (As := []) (rest := []) (wr := []) E (c_X11_lays l D κ m0 ms mp pn mt tyd mT mO mU ld up lw ua la bU bL sv xn yn sp rs pt mr S T OV UN (hv)) m_X11_69 ⟨Nat.le_of_ble_eq_true rfl, Nat.le_of_ble_eq_true rfl⟩ ⟨rfl, rfl⟩ [0, 1, 2, 3, 4] [] rfl rfl rfl rfl (by decide) rfl rfl rfl rfl (Nat.le_of_ble_eq_true rfl) dX11_period_1 ⟨Nat.le_of_ble_eq_true rfl, Nat.le_of_ble_eq_true rfl⟩ (fun  w1 hq => ?_)
  obtain ⟨T'_1, OV'_2, UN'_3, hT_1, hO_1, rfl⟩ := hq
  refine z_iconst E dX11_period_4 ?_
  refine z_istore_n (lv' := [(1, .int (zi 1)), (0, .ref m0)]) E dX11_period_5 rfl (Nat.le_of_ble_eq_true rfl) rfl ?_
  have lp_6 : ∀ (n_6 : Nat) (k : Int), (1 ≤ k ∧ k ≤ 401) → (noRp (S 0) (S 1) (S 2) k) → (401 - k) < (n_6 : Int) → Zg X [(m0, .inr (11, [.ref ms, .ref mp, .int (zi pn), .ref mt, .int (zi tyd), .ref mT, .ref mO, .ref mU, .int (zi ld), .long (zl up), .long (zl lw), .long (zl ua), .long (zl la), .long (zl bU), .int (zi bL), .int (zi sv), .int (zi xn), .int (zi yn), .int (zi sp), .int (zi rs), .int (zi pt), .ref mr])), (mO, al κ 402 OV'_2), (mT, ai κ 401 T'_1), (mU, al κ 402 UN'_3), (ms, ai κ 20 S)] 0 0 6 [(0, .ref m0), (1, .int (zi k))] [] := by
    intro n_6
    induction n_6 with
    | zero =>
      intro k i0 i1 hmu
      exact absurd hmu (by omega)
    | succ n_6 ih_6 =>
      intro k i0 i1 hmu_6
      refine z_iload_n E 1 rfl rfl dX11_period_6 ?_
      refine z_sipush E dX11_period_7 (by decide) ?_
      refine z_ic_gt (tgt := 73) E (by omega) (by omega) dX11_period_10 (by decide) (fun h_10 => ?_) (fun h_10 => ?_)
      · refine z_iconst E dX11_period_73 ?_
        refine Zg.perm (ws' := [(m0, .inr (11, [.ref ms, .ref mp, .int (zi pn), .ref mt, .int (zi tyd), .ref mT, .ref mO, .ref mU, .int (zi ld), .long (zl up), .long (zl lw), .long (zl ua), .long (zl la), .long (zl bU), .int (zi bL), .int (zi sv), .int (zi xn), .int (zi yn), .int (zi sp), .int (zi rs), .int (zi pt), .ref mr])), (ms, ai κ 20 S), (mT, ai κ 401 T'_1), (mO, al κ 402 OV'_2), (mU, al κ 402 UN'_3)]) [0, 4, 2, 1, 3] rfl rfl ?_
        exact fin _ _ _ _ rfl (⟨_, _, _, _, _, Or.inr ⟨fun a b a1 a2 a3 => i1 a b a1 a2 (by omega), rfl, rfl⟩, hT_1, hO_1, rfl, rfl⟩) dX11_period_74
      · refine z_iconst E dX11_period_13 ?_
        refine z_istore_n (lv' := [(2, .int (zi 0)), (0, .ref m0), (1, .int (zi k))]) E dX11_period_14 rfl (Nat.le_of_ble_eq_true rfl) rfl ?_
        have lp_15 : ∀ (n_15 : Nat) (j : Int), (0 ≤ j ∧ j ≤ k) → (∀ a : Int, 0 ≤ a → a < j → sS (S 0) (S 1) (S 2) a.toNat ≠ sS (S 0) (S 1) (S 2) k.toNat) → (k - j) < (n_15 : Int) → Zg X [(m0, .inr (11, [.ref ms, .ref mp, .int (zi pn), .ref mt, .int (zi tyd), .ref mT, .ref mO, .ref mU, .int (zi ld), .long (zl up), .long (zl lw), .long (zl ua), .long (zl la), .long (zl bU), .int (zi bL), .int (zi sv), .int (zi xn), .int (zi yn), .int (zi sp), .int (zi rs), .int (zi pt), .ref mr])), (mO, al κ 402 OV'_2), (mT, ai κ 401 T'_1), (mU, al κ 402 UN'_3), (ms, ai κ 20 S)] 0 0 15 [(0, .ref m0), (1, .int (zi k)), (2, .int (zi j))] [] := by
          intro n_15
          induction n_15 with
          | zero =>
            intro j j0 j1 hmu
            exact absurd hmu (by omega)
          | succ n_15 ih_15 =>
            intro j j0 j1 hmu_15
            refine z_iload_n E 2 rfl rfl dX11_period_15 ?_
            refine z_iload_n E 1 rfl rfl dX11_period_16 ?_
            refine z_ic_ge (tgt := 67) E (by omega) (by omega) dX11_period_17 (by decide) (fun h_17 => ?_) (fun h_17 => ?_)
            · refine z_iinc (lv' := [(1, .int (zi (k + 1))), (0, .ref m0), (2, .int (zi j))]) E 1 rfl dX11_period_67 (Nat.le_of_ble_eq_true rfl) rfl ?_
              refine z_goto (tgt := 6) E dX11_period_70 (by decide) ?_
              refine Zg.sub (lv' := [(0, .ref m0), (1, .int (zi (k + 1)))]) [1, 0] rfl ?_
              exact ih_6 (k + 1) (by omega) (noRp_s i1 (fun a a1 a2 => j1 a a1 (by omega))) (by omega)
            · have hbj := sS_ab hv j0.1 (hO_1 j (by omega) (by omega))
              have hbk := sS_ab hv (i := k) (by omega) (hO_1 k (by omega) (by omega))
              refine z_aload_n E 0 rfl rfl dX11_period_20 ?_
              refine z_get E f_X11_22 0 rfl rfl dX11_period_21 ?_
              refine z_iload_n E 2 rfl rfl dX11_period_24 ?_
              refine z_lald E 1 rfl (Nat.le_of_ble_eq_true rfl) (by omega) (by omega) dX11_period_25 ?_
              refine z_aload_n E 0 rfl rfl dX11_period_26 ?_
              refine z_get E f_X11_22 0 rfl rfl dX11_period_27 ?_
              refine z_iload_n E 1 rfl rfl dX11_period_30 ?_
              refine z_lald E 1 rfl (Nat.le_of_ble_eq_true rfl) (by omega) (by omega) dX11_period_31 ?_
              refine z_lc_ne (tgt := 61) E (by omega) (by omega) dX11_period_32 dX11_period_33 (by decide) (fun h_32 => ?_) (fun h_32 => ?_)
              · refine z_iinc (lv' := [(2, .int (zi (j + 1))), (0, .ref m0), (1, .int (zi k))]) E 2 rfl dX11_period_61 (Nat.le_of_ble_eq_true rfl) rfl ?_
                refine z_goto (tgt := 15) E dX11_period_64 (by decide) ?_
                refine Zg.sub (lv' := [(0, .ref m0), (1, .int (zi k)), (2, .int (zi (j + 1)))]) [1, 2, 0] rfl ?_
                exact ih_15 (j + 1) (by omega) (lt_si j1 (sS_ne hO_1 (by omega) (by omega) (by omega))) (by omega)
              · refine z_aload_n E 0 rfl rfl dX11_period_36 ?_
                refine z_get E f_X11_26 0 rfl rfl dX11_period_37 ?_
                refine z_iload_n E 2 rfl rfl dX11_period_40 ?_
                refine z_lald E 3 rfl (Nat.le_of_ble_eq_true rfl) (by omega) (by omega) dX11_period_41 ?_
                refine z_aload_n E 0 rfl rfl dX11_period_42 ?_
                refine z_get E f_X11_26 0 rfl rfl dX11_period_43 ?_
                refine z_iload_n E 1 rfl rfl dX11_period_46 ?_
                refine z_lald E 3 rfl (Nat.le_of_ble_eq_true rfl) (by omega) (by omega) dX11_period_47 ?_
                refine z_lc_ne (tgt := 61) E (by omega) (by omega) dX11_period_48 dX11_period_49 (by decide) (fun h_48 => ?_) (fun h_48 => ?_)
                · refine z_iinc (lv' := [(2, .int (zi (j + 1))), (0, .ref m0), (1, .int (zi k))]) E 2 rfl dX11_period_61 (Nat.le_of_ble_eq_true rfl) rfl ?_
                  refine z_goto (tgt := 15) E dX11_period_64 (by decide) ?_
                  refine Zg.sub (lv' := [(0, .ref m0), (1, .int (zi k)), (2, .int (zi (j + 1)))]) [1, 2, 0] rfl ?_
                  exact ih_15 (j + 1) (by omega) (lt_si j1 (sS_ne hO_1 (by omega) (by omega) (by omega))) (by omega)
                · refine z_aload_n E 0 rfl rfl dX11_period_52 ?_
                  refine z_iload_n E 2 rfl rfl dX11_period_53 ?_
                  refine z_put (ws' := [(m0, .inr (11, [.ref ms, .ref mp, .int (zi pn), .ref mt, .int (zi tyd), .ref mT, .ref mO, .ref mU, .int (zi j), .long (zl up), .long (zl lw), .long (zl ua), .long (zl la), .long (zl bU), .int (zi bL), .int (zi sv), .int (zi xn), .int (zi yn), .int (zi sp), .int (zi rs), .int (zi pt), .ref mr])), (mO, al κ 402 OV'_2), (mT, ai κ 401 T'_1), (mU, al κ 402 UN'_3), (ms, ai κ 20 S)]) E f_X11_72 t_X11_8 0 rfl rfl rfl (Nat.le_of_ble_eq_true rfl) rfl dX11_period_54 ?_
                  refine z_iload_n E 1 rfl rfl dX11_period_57 ?_
                  refine z_iload_n E 2 rfl rfl dX11_period_58 ?_
                  refine z_isub E dX11_period_59 ?_
                  refine Zg.perm (ws' := [(m0, .inr (11, [.ref ms, .ref mp, .int (zi pn), .ref mt, .int (zi tyd), .ref mT, .ref mO, .ref mU, .int (zi j), .long (zl up), .long (zl lw), .long (zl ua), .long (zl la), .long (zl bU), .int (zi bL), .int (zi sv), .int (zi xn), .int (zi yn), .int (zi sp), .int (zi rs), .int (zi pt), .ref mr])), (ms, ai κ 20 S), (mT, ai κ 401 T'_1), (mO, al κ 402 OV'_2), (mU, al κ 402 UN'_3)]) [0, 4, 2, 1, 3] rfl rfl ?_
                  exact fin _ _ _ _ rfl (⟨_, _, _, _, _, Or.inl ⟨_, _, ⟨⟨j0.1, by omega, by omega⟩, sS_eq hO_1 (by omega) (by omega) (by omega) (by omega), i1, j1⟩, rfl, rfl⟩, hT_1, hO_1, rfl, rfl⟩) dX11_period_60
        refine Zg.sub (lv' := [(0, .ref m0), (1, .int (zi k)), (2, .int (zi 0))]) [1, 2, 0] rfl ?_
        exact lp_15 ((k - 0 : Int).toNat + 1) 0 (by omega) (fun a a1 a2 => absurd a1 (by omega)) (by omega)
  refine Zg.sub (lv' := [(0, .ref m0), (1, .int (zi 1))]) [1, 0] rfl ?_
  refine Zg.perm (ws' := [(m0, .inr (11, [.ref ms, .ref mp, .int (zi pn), .ref mt, .int (zi tyd), .ref mT, .ref mO, .ref mU, .int (zi ld), .long (zl up), .long (zl lw), .long (zl ua), .long (zl la), .long (zl bU), .int (zi bL), .int (zi sv), .int (zi xn), .int (zi yn), .int (zi sp), .int (zi rs), .int (zi pt), .ref mr])), (mO, al κ 402 OV'_2), (mT, ai κ 401 T'_1), (mU, al κ 402 UN'_3), (ms, ai κ 20 S)]) [0, 3, 2, 4, 1] rfl rfl ?_
  exact lp_6 ((401 - 1 : Int).toNat + 1) 1 (by omega) (noRp_1) (by omega)
abbrev rm_X11_greatest : Room := { frames := 0, cells := 0, slots := 0, locals := 0 }
set_option maxRecDepth 100000 in
theorem c_X11_greatest (l : Launch) (D : va_G) (κ : Nat → ClassId) (m0 : Nat) (ms : Nat) (mp : Nat) (pn : Int) (mt : Nat) (tyd : Int) (mT : Nat) (mO : Nat) (mU : Nat) (ld : Int) (up : Int) (lw : Int) (ua : Int) (la : Int) (bU : Int) (bL : Int) (sv : Int) (xn : Int) (yn : Int) (sp : Int) (rs : Int) (pt : Int) (mr : Nat) (T : Int → Int) (pd : Int) (hp : 0 ≤ ld ∧ 0 ≤ pd ∧ ld + pd ≤ 400) (hf : ∀ i : Int, 0 ≤ i → i ≤ 400 → -100000 ≤ T i ∧ T i ≤ 100000) : ZI l yX11_greatest cX11_greatest 4 .int rm_X11_greatest D κ [.ref m0, .int (zi pd)] [(m0, .inr (11, [.ref ms, .ref mp, .int (zi pn), .ref mt, .int (zi tyd), .ref mT, .ref mO, .ref mU, .int (zi ld), .long (zl up), .long (zl lw), .long (zl ua), .long (zl la), .long (zl bU), .int (zi bL), .int (zi sv), .int (zi xn), .int (zi yn), .int (zi sp), .int (zi rs), .int (zi pt), .ref mr])), (mT, ai κ 401 T)] (fun z w => (grP T ld pd.toNat) = z ∧ [(m0, .inr (11, [.ref ms, .ref mp, .int (zi pn), .ref mt, .int (zi tyd), .ref mT, .ref mO, .ref mU, .int (zi ld), .long (zl up), .long (zl lw), .long (zl ua), .long (zl la), .long (zl bU), .int (zi bL), .int (zi sv), .int (zi xn), .int (zi yn), .int (zi sp), .int (zi rs), .int (zi pt), .ref mr])), (mT, ai κ 401 T)] = w) := by
  refine ZI.enter (own := RX11) rfl pn_X11_greatest (Nat.le_of_ble_eq_true rfl) (fun X E fin => ?_)
  show Zg X [(m0, .inr (11, [.ref ms, .ref mp, .int (zi pn), .ref mt, .int (zi tyd), .ref mT, .ref mO, .ref mU, .int (zi ld), .long (zl up), .long (zl lw), .long (zl ua), .long (zl la), .long (zl bU), .int (zi bL), .int (zi sv), .int (zi xn), .int (zi yn), .int (zi sp), .int (zi rs), .int (zi pt), .ref mr])), (mT, ai κ 401 T)] 0 0 0 [(0, .ref m0), (1, .int (zi pd))] []
  refine z_iconst E dX11_greatest_0 ?_
  refine z_istore_n (lv' := [(2, .int (zi 0)), (0, .ref m0), (1, .int (zi pd))]) E dX11_greatest_1 rfl (Nat.le_of_ble_eq_true rfl) rfl ?_
  refine z_aload_n E 1 rfl rfl dX11_greatest_2 ?_
  refine z_get E f_X11_72 0 rfl rfl dX11_greatest_3 ?_
  refine z_istore_n (lv' := [(3, .int (zi ld)), (2, .int (zi 0)), (0, .ref m0), (1, .int (zi pd))]) E dX11_greatest_6 rfl (Nat.le_of_ble_eq_true rfl) rfl ?_
  have lp_7 : ∀ (n_7 : Nat) (g : Int) (c : Int), (ld ≤ c ∧ c ≤ ld + pd) → (g = grP T ld (c - ld).toNat) → (0 ≤ g ∧ g ≤ 100000) → ((ld + pd) - c) < (n_7 : Int) → Zg X [(m0, .inr (11, [.ref ms, .ref mp, .int (zi pn), .ref mt, .int (zi tyd), .ref mT, .ref mO, .ref mU, .int (zi ld), .long (zl up), .long (zl lw), .long (zl ua), .long (zl la), .long (zl bU), .int (zi bL), .int (zi sv), .int (zi xn), .int (zi yn), .int (zi sp), .int (zi rs), .int (zi pt), .ref mr])), (mT, ai κ 401 T)] 0 0 7 [(0, .ref m0), (1, .int (zi pd)), (2, .int (zi g)), (3, .int (zi c))] [] := by
    intro n_7
    induction n_7 with
    | zero =>
      intro g c i0 i1 i2 hmu
      exact absurd hmu (by omega)
    | succ n_7 ih_7 =>
      intro g c i0 i1 i2 hmu_7
      refine z_iload_n E 3 rfl rfl dX11_greatest_7 ?_
      refine z_aload_n E 0 rfl rfl dX11_greatest_8 ?_
      refine z_get E f_X11_72 0 rfl rfl dX11_greatest_9 ?_
      refine z_iload_n E 1 rfl rfl dX11_greatest_12 ?_
      refine z_iadd E dX11_greatest_13 ?_
      refine z_ic_ge (tgt := 44) E (by omega) (by omega) dX11_greatest_14 (by decide) (fun h_14 => ?_) (fun h_14 => ?_)
      · refine z_iload_n E 2 rfl rfl dX11_greatest_44 ?_
        exact fin _ _ _ _ rfl (⟨by rw [i1, show c - ld = pd by omega], rfl⟩) dX11_greatest_45
      · refine z_aload_n E 0 rfl rfl dX11_greatest_17 ?_
        refine z_get E f_X11_19 0 rfl rfl dX11_greatest_18 ?_
        refine z_iload_n E 3 rfl rfl dX11_greatest_21 ?_
        refine z_iald E 1 rfl (Nat.le_of_ble_eq_true rfl) (by omega) (by omega) dX11_greatest_22 ?_
        have hfc := hf c (by omega) (by omega)
        refine z_iload_n E 2 rfl rfl dX11_greatest_23 ?_
        refine z_ic_le (tgt := 36) E (by omega) (by omega) dX11_greatest_24 (by decide) (fun h_24 => ?_) (fun h_24 => ?_)
        · refine z_iload_n E 2 rfl rfl dX11_greatest_36 ?_
          refine z_istore_n (lv' := [(2, .int (zi g)), (0, .ref m0), (1, .int (zi pd)), (3, .int (zi c))]) E dX11_greatest_37 rfl (Nat.le_of_ble_eq_true rfl) rfl ?_
          refine z_iinc (lv' := [(3, .int (zi (c + 1))), (2, .int (zi g)), (0, .ref m0), (1, .int (zi pd))]) E 3 rfl dX11_greatest_38 (Nat.le_of_ble_eq_true rfl) rfl ?_
          refine z_goto (tgt := 7) E dX11_greatest_41 (by decide) ?_
          refine Zg.sub (lv' := [(0, .ref m0), (1, .int (zi pd)), (2, .int (zi g)), (3, .int (zi (c + 1)))]) [2, 3, 1, 0] rfl ?_
          exact ih_7 g (c + 1) (by omega) ((grM_s i0.1 i1).2 (by omega)) (by omega) (by omega)
        · refine z_aload_n E 0 rfl rfl dX11_greatest_27 ?_
          refine z_get E f_X11_19 0 rfl rfl dX11_greatest_28 ?_
          refine z_iload_n E 3 rfl rfl dX11_greatest_31 ?_
          refine z_iald E 1 rfl (Nat.le_of_ble_eq_true rfl) (by omega) (by omega) dX11_greatest_32 ?_
          refine z_goto (tgt := 37) E dX11_greatest_33 (by decide) ?_
          refine z_istore_n (lv' := [(2, .int (zi (T c))), (0, .ref m0), (1, .int (zi pd)), (3, .int (zi c))]) E dX11_greatest_37 rfl (Nat.le_of_ble_eq_true rfl) rfl ?_
          refine z_iinc (lv' := [(3, .int (zi (c + 1))), (2, .int (zi (T c))), (0, .ref m0), (1, .int (zi pd))]) E 3 rfl dX11_greatest_38 (Nat.le_of_ble_eq_true rfl) rfl ?_
          refine z_goto (tgt := 7) E dX11_greatest_41 (by decide) ?_
          refine Zg.sub (lv' := [(0, .ref m0), (1, .int (zi pd)), (2, .int (zi (T c))), (3, .int (zi (c + 1)))]) [2, 3, 1, 0] rfl ?_
          exact ih_7 (T c) (c + 1) (by omega) ((grM_s i0.1 i1).1 (by omega)) (by omega) (by omega)
  refine Zg.sub (lv' := [(0, .ref m0), (1, .int (zi pd)), (2, .int (zi 0)), (3, .int (zi ld))]) [2, 3, 1, 0] rfl ?_
  exact lp_7 (((ld + pd) - ld : Int).toNat + 1) 0 ld (by omega) (by rw [Int.sub_self]; rfl) (by omega) (by omega)
abbrev rm_X11_unlike : Room := { frames := 0, cells := 0, slots := 0, locals := 0 }
set_option maxRecDepth 100000 in
theorem c_X11_unlike (l : Launch) (D : va_G) (κ : Nat → ClassId) (m0 : Nat) (ms : Nat) (mp : Nat) (pn : Int) (mt : Nat) (tyd : Int) (mT : Nat) (mO : Nat) (mU : Nat) (ld : Int) (up : Int) (lw : Int) (ua : Int) (la : Int) (bU : Int) (bL : Int) (sv : Int) (xn : Int) (yn : Int) (sp : Int) (rs : Int) (pt : Int) (mr : Nat) (T : Int → Int) (pd : Int) (hp : 0 ≤ ld ∧ 0 ≤ pd ∧ ld + pd ≤ 400) (hf : ∀ i : Int, 0 ≤ i → i ≤ 400 → -100000 ≤ T i ∧ T i ≤ 100000) : ZI l yX11_unlike cX11_unlike 6 .int rm_X11_unlike D κ [.ref m0, .int (zi pd)] [(m0, .inr (11, [.ref ms, .ref mp, .int (zi pn), .ref mt, .int (zi tyd), .ref mT, .ref mO, .ref mU, .int (zi ld), .long (zl up), .long (zl lw), .long (zl ua), .long (zl la), .long (zl bU), .int (zi bL), .int (zi sv), .int (zi xn), .int (zi yn), .int (zi sp), .int (zi rs), .int (zi pt), .ref mr])), (mT, ai κ 401 T)] (fun z w => (unP T ld pd.toNat) = z ∧ [(m0, .inr (11, [.ref ms, .ref mp, .int (zi pn), .ref mt, .int (zi tyd), .ref mT, .ref mO, .ref mU, .int (zi ld), .long (zl up), .long (zl lw), .long (zl ua), .long (zl la), .long (zl bU), .int (zi bL), .int (zi sv), .int (zi xn), .int (zi yn), .int (zi sp), .int (zi rs), .int (zi pt), .ref mr])), (mT, ai κ 401 T)] = w) := by
  refine ZI.enter (own := RX11) rfl pn_X11_unlike (Nat.le_of_ble_eq_true rfl) (fun X E fin => ?_)
  show Zg X [(m0, .inr (11, [.ref ms, .ref mp, .int (zi pn), .ref mt, .int (zi tyd), .ref mT, .ref mO, .ref mU, .int (zi ld), .long (zl up), .long (zl lw), .long (zl ua), .long (zl la), .long (zl bU), .int (zi bL), .int (zi sv), .int (zi xn), .int (zi yn), .int (zi sp), .int (zi rs), .int (zi pt), .ref mr])), (mT, ai κ 401 T)] 0 0 0 [(0, .ref m0), (1, .int (zi pd))] []
  refine z_iconst E dX11_unlike_0 ?_
  refine z_istore_n (lv' := [(2, .int (zi 0)), (0, .ref m0), (1, .int (zi pd))]) E dX11_unlike_1 rfl (Nat.le_of_ble_eq_true rfl) rfl ?_
  refine z_aload_n E 1 rfl rfl dX11_unlike_2 ?_
  refine z_get E f_X11_72 0 rfl rfl dX11_unlike_3 ?_
  refine z_istore_n (lv' := [(3, .int (zi ld)), (2, .int (zi 0)), (0, .ref m0), (1, .int (zi pd))]) E dX11_unlike_6 rfl (Nat.le_of_ble_eq_true rfl) rfl ?_
  have lp_7 : ∀ (n_7 : Nat) (u : Int) (c : Int), (ld ≤ c ∧ c ≤ ld + pd) → (u = unP T ld (c - ld).toNat) → (0 ≤ u ∧ u ≤ c - ld) → ((ld + pd) - c) < (n_7 : Int) → Zg X [(m0, .inr (11, [.ref ms, .ref mp, .int (zi pn), .ref mt, .int (zi tyd), .ref mT, .ref mO, .ref mU, .int (zi ld), .long (zl up), .long (zl lw), .long (zl ua), .long (zl la), .long (zl bU), .int (zi bL), .int (zi sv), .int (zi xn), .int (zi yn), .int (zi sp), .int (zi rs), .int (zi pt), .ref mr])), (mT, ai κ 401 T)] 0 0 7 [(0, .ref m0), (1, .int (zi pd)), (2, .int (zi u)), (3, .int (zi c))] [] := by
    intro n_7
    induction n_7 with
    | zero =>
      intro u c i0 i1 i2 hmu
      exact absurd hmu (by omega)
    | succ n_7 ih_7 =>
      intro u c i0 i1 i2 hmu_7
      refine z_iload_n E 3 rfl rfl dX11_unlike_7 ?_
      refine z_aload_n E 0 rfl rfl dX11_unlike_8 ?_
      refine z_get E f_X11_72 0 rfl rfl dX11_unlike_9 ?_
      refine z_iload_n E 1 rfl rfl dX11_unlike_12 ?_
      refine z_iadd E dX11_unlike_13 ?_
      refine z_ic_ge (tgt := 85) E (by omega) (by omega) dX11_unlike_14 (by decide) (fun h_14 => ?_) (fun h_14 => ?_)
      · refine z_iload_n E 2 rfl rfl dX11_unlike_85 ?_
        exact fin _ _ _ _ rfl (⟨by rw [i1, show c - ld = pd by omega], rfl⟩) dX11_unlike_86
      · refine z_iconst E dX11_unlike_17 ?_
        refine z_istore (lv' := [(4, .int (zi 1)), (0, .ref m0), (1, .int (zi pd)), (2, .int (zi u)), (3, .int (zi c))]) E dX11_unlike_18 (Nat.le_of_ble_eq_true rfl) rfl ?_
        refine z_aload_n E 1 rfl rfl dX11_unlike_20 ?_
        refine z_get E f_X11_72 0 rfl rfl dX11_unlike_21 ?_
        refine z_istore (lv' := [(5, .int (zi ld)), (4, .int (zi 1)), (0, .ref m0), (1, .int (zi pd)), (2, .int (zi u)), (3, .int (zi c))]) E dX11_unlike_24 (Nat.le_of_ble_eq_true rfl) rfl ?_
        have lp_26 : ∀ (n_26 : Nat) (fi : Int) (j : Int), (ld ≤ j ∧ j ≤ c) → (fiM T ld j c fi) → (c - j) < (n_26 : Int) → Zg X [(m0, .inr (11, [.ref ms, .ref mp, .int (zi pn), .ref mt, .int (zi tyd), .ref mT, .ref mO, .ref mU, .int (zi ld), .long (zl up), .long (zl lw), .long (zl ua), .long (zl la), .long (zl bU), .int (zi bL), .int (zi sv), .int (zi xn), .int (zi yn), .int (zi sp), .int (zi rs), .int (zi pt), .ref mr])), (mT, ai κ 401 T)] 0 0 26 [(0, .ref m0), (1, .int (zi pd)), (2, .int (zi u)), (3, .int (zi c)), (4, .int (zi fi)), (5, .int (zi j))] [] := by
          intro n_26
          induction n_26 with
          | zero =>
            intro fi j j0 j1 hmu
            exact absurd hmu (by omega)
          | succ n_26 ih_26 =>
            intro fi j j0 j1 hmu_26
            refine z_iload E 5 rfl dX11_unlike_26 ?_
            refine z_iload_n E 3 rfl rfl dX11_unlike_28 ?_
            refine z_ic_ge (tgt := 66) E (by omega) (by omega) dX11_unlike_29 (by decide) (fun h_29 => ?_) (fun h_29 => ?_)
            · have hfi2 := j1.1
              refine z_iload_n E 2 rfl rfl dX11_unlike_66 ?_
              refine z_iload E 4 rfl dX11_unlike_67 ?_
              refine z_if_eq (tgt := 76) E (by omega) dX11_unlike_69 (by decide) (fun h_69 => ?_) (fun h_69 => ?_)
              · refine z_iconst E dX11_unlike_76 ?_
                refine z_iadd E dX11_unlike_77 ?_
                refine z_istore_n (lv' := [(2, .int (zi (u + 0))), (0, .ref m0), (1, .int (zi pd)), (3, .int (zi c)), (4, .int (zi fi)), (5, .int (zi j))]) E dX11_unlike_78 rfl (Nat.le_of_ble_eq_true rfl) rfl ?_
                refine z_iinc (lv' := [(3, .int (zi (c + 1))), (2, .int (zi (u + 0))), (0, .ref m0), (1, .int (zi pd)), (4, .int (zi fi)), (5, .int (zi j))]) E 3 rfl dX11_unlike_79 (Nat.le_of_ble_eq_true rfl) rfl ?_
                refine z_goto (tgt := 7) E dX11_unlike_82 (by decide) ?_
                refine Zg.sub (lv' := [(0, .ref m0), (1, .int (zi pd)), (2, .int (zi (u + 0))), (3, .int (zi (c + 1)))]) [2, 3, 1, 0] rfl ?_
                exact ih_7 (u + 0) (c + 1) (by omega) (by have e := unM_s i0.1 i1 j1 (by omega); have e1 := e.2 (by omega); omega) (by omega) (by omega)
              · refine z_iconst E dX11_unlike_72 ?_
                refine z_goto (tgt := 77) E dX11_unlike_73 (by decide) ?_
                refine z_iadd E dX11_unlike_77 ?_
                refine z_istore_n (lv' := [(2, .int (zi (u + 1))), (0, .ref m0), (1, .int (zi pd)), (3, .int (zi c)), (4, .int (zi fi)), (5, .int (zi j))]) E dX11_unlike_78 rfl (Nat.le_of_ble_eq_true rfl) rfl ?_
                refine z_iinc (lv' := [(3, .int (zi (c + 1))), (2, .int (zi (u + 1))), (0, .ref m0), (1, .int (zi pd)), (4, .int (zi fi)), (5, .int (zi j))]) E 3 rfl dX11_unlike_79 (Nat.le_of_ble_eq_true rfl) rfl ?_
                refine z_goto (tgt := 7) E dX11_unlike_82 (by decide) ?_
                refine Zg.sub (lv' := [(0, .ref m0), (1, .int (zi pd)), (2, .int (zi (u + 1))), (3, .int (zi (c + 1)))]) [2, 3, 1, 0] rfl ?_
                exact ih_7 (u + 1) (c + 1) (by omega) (by have e := unM_s i0.1 i1 j1 (by omega); have e1 := e.1 (by omega); omega) (by omega) (by omega)
            · have hfi := j1.1
              refine z_iload E 4 rfl dX11_unlike_32 ?_
              refine z_if_eq (tgt := 57) E (by omega) dX11_unlike_34 (by decide) (fun h_34 => ?_) (fun h_34 => ?_)
              · refine z_iconst E dX11_unlike_57 ?_
                refine z_istore (lv' := [(4, .int (zi 0)), (0, .ref m0), (1, .int (zi pd)), (2, .int (zi u)), (3, .int (zi c)), (5, .int (zi j))]) E dX11_unlike_58 (Nat.le_of_ble_eq_true rfl) rfl ?_
                refine z_iinc (lv' := [(5, .int (zi (j + 1))), (4, .int (zi 0)), (0, .ref m0), (1, .int (zi pd)), (2, .int (zi u)), (3, .int (zi c))]) E 5 rfl dX11_unlike_60 (Nat.le_of_ble_eq_true rfl) rfl ?_
                refine z_goto (tgt := 26) E dX11_unlike_63 (by decide) ?_
                refine Zg.sub (lv' := [(0, .ref m0), (1, .int (zi pd)), (2, .int (zi u)), (3, .int (zi c)), (4, .int (zi 0)), (5, .int (zi (j + 1)))]) [2, 3, 4, 5, 1, 0] rfl ?_
                exact ih_26 0 (j + 1) (by omega) (fiM_f j1 j0.1 (Or.inl (by omega))) (by omega)
              · refine z_aload_n E 0 rfl rfl dX11_unlike_37 ?_
                refine z_get E f_X11_19 0 rfl rfl dX11_unlike_38 ?_
                refine z_iload E 5 rfl dX11_unlike_41 ?_
                refine z_iald E 1 rfl (Nat.le_of_ble_eq_true rfl) (by omega) (by omega) dX11_unlike_43 ?_
                refine z_aload_n E 0 rfl rfl dX11_unlike_44 ?_
                refine z_get E f_X11_19 0 rfl rfl dX11_unlike_45 ?_
                have f1 := hf j (by omega) (by omega)
                have f2 := hf c (by omega) (by omega)
                refine z_iload_n E 3 rfl rfl dX11_unlike_48 ?_
                refine z_iald E 1 rfl (Nat.le_of_ble_eq_true rfl) (by omega) (by omega) dX11_unlike_49 ?_
                refine z_ic_eq (tgt := 57) E (by omega) (by omega) dX11_unlike_50 (by decide) (fun h_50 => ?_) (fun h_50 => ?_)
                · refine z_iconst E dX11_unlike_57 ?_
                  refine z_istore (lv' := [(4, .int (zi 0)), (0, .ref m0), (1, .int (zi pd)), (2, .int (zi u)), (3, .int (zi c)), (5, .int (zi j))]) E dX11_unlike_58 (Nat.le_of_ble_eq_true rfl) rfl ?_
                  refine z_iinc (lv' := [(5, .int (zi (j + 1))), (4, .int (zi 0)), (0, .ref m0), (1, .int (zi pd)), (2, .int (zi u)), (3, .int (zi c))]) E 5 rfl dX11_unlike_60 (Nat.le_of_ble_eq_true rfl) rfl ?_
                  refine z_goto (tgt := 26) E dX11_unlike_63 (by decide) ?_
                  refine Zg.sub (lv' := [(0, .ref m0), (1, .int (zi pd)), (2, .int (zi u)), (3, .int (zi c)), (4, .int (zi 0)), (5, .int (zi (j + 1)))]) [2, 3, 4, 5, 1, 0] rfl ?_
                  exact ih_26 0 (j + 1) (by omega) (fiM_f j1 j0.1 (Or.inr (by omega))) (by omega)
                · refine z_iconst E dX11_unlike_53 ?_
                  refine z_goto (tgt := 58) E dX11_unlike_54 (by decide) ?_
                  refine z_istore (lv' := [(4, .int (zi 1)), (0, .ref m0), (1, .int (zi pd)), (2, .int (zi u)), (3, .int (zi c)), (5, .int (zi j))]) E dX11_unlike_58 (Nat.le_of_ble_eq_true rfl) rfl ?_
                  refine z_iinc (lv' := [(5, .int (zi (j + 1))), (4, .int (zi 1)), (0, .ref m0), (1, .int (zi pd)), (2, .int (zi u)), (3, .int (zi c))]) E 5 rfl dX11_unlike_60 (Nat.le_of_ble_eq_true rfl) rfl ?_
                  refine z_goto (tgt := 26) E dX11_unlike_63 (by decide) ?_
                  refine Zg.sub (lv' := [(0, .ref m0), (1, .int (zi pd)), (2, .int (zi u)), (3, .int (zi c)), (4, .int (zi 1)), (5, .int (zi (j + 1)))]) [2, 3, 4, 5, 1, 0] rfl ?_
                  exact ih_26 1 (j + 1) (by omega) (fiM_1 j1 (by omega) (by omega)) (by omega)
        refine Zg.sub (lv' := [(0, .ref m0), (1, .int (zi pd)), (2, .int (zi u)), (3, .int (zi c)), (4, .int (zi 1)), (5, .int (zi ld))]) [2, 3, 4, 5, 1, 0] rfl ?_
        exact lp_26 ((c - ld : Int).toNat + 1) 1 ld (by omega) (fiM_0) (by omega)
  refine Zg.sub (lv' := [(0, .ref m0), (1, .int (zi pd)), (2, .int (zi 0)), (3, .int (zi ld))]) [2, 3, 1, 0] rfl ?_
  exact lp_7 (((ld + pd) - ld : Int).toNat + 1) 0 ld (by omega) (by rw [Int.sub_self]; rfl) (by omega) (by omega)
abbrev rm_X11_isMirror : Room := { frames := 0, cells := 0, slots := 0, locals := 0 }
set_option maxRecDepth 100000 in
theorem c_X11_isMirror (l : Launch) (D : va_G) (κ : Nat → ClassId) (m0 : Nat) (ms : Nat) (mp : Nat) (pn : Int) (mt : Nat) (tyd : Int) (mT : Nat) (mO : Nat) (mU : Nat) (ld : Int) (up : Int) (lw : Int) (ua : Int) (la : Int) (bU : Int) (bL : Int) (sv : Int) (xn : Int) (yn : Int) (sp : Int) (rs : Int) (pt : Int) (mr : Nat) (T : Int → Int) (pd : Int) (hp : 0 ≤ ld ∧ 0 ≤ pd ∧ ld + pd ≤ 400) (hf : ∀ i : Int, 0 ≤ i → i ≤ 400 → -100000 ≤ T i ∧ T i ≤ 100000) : ZI l yX11_isMirror cX11_isMirror 4 .boolean rm_X11_isMirror D κ [.ref m0, .int (zi pd)] [(m0, .inr (11, [.ref ms, .ref mp, .int (zi pn), .ref mt, .int (zi tyd), .ref mT, .ref mO, .ref mU, .int (zi ld), .long (zl up), .long (zl lw), .long (zl ua), .long (zl la), .long (zl bU), .int (zi bL), .int (zi sv), .int (zi xn), .int (zi yn), .int (zi sp), .int (zi rs), .int (zi pt), .ref mr])), (mT, ai κ 401 T)] (fun z w => ((1 = z ∧ (miP T ld pd)) ∨ (0 = z ∧ ¬ (miP T ld pd))) ∧ [(m0, .inr (11, [.ref ms, .ref mp, .int (zi pn), .ref mt, .int (zi tyd), .ref mT, .ref mO, .ref mU, .int (zi ld), .long (zl up), .long (zl lw), .long (zl ua), .long (zl la), .long (zl bU), .int (zi bL), .int (zi sv), .int (zi xn), .int (zi yn), .int (zi sp), .int (zi rs), .int (zi pt), .ref mr])), (mT, ai κ 401 T)] = w) := by
  refine ZI.enter (own := RX11) rfl pn_X11_isMirror (Nat.le_of_ble_eq_true rfl) (fun X E fin => ?_)
  show Zg X [(m0, .inr (11, [.ref ms, .ref mp, .int (zi pn), .ref mt, .int (zi tyd), .ref mT, .ref mO, .ref mU, .int (zi ld), .long (zl up), .long (zl lw), .long (zl ua), .long (zl la), .long (zl bU), .int (zi bL), .int (zi sv), .int (zi xn), .int (zi yn), .int (zi sp), .int (zi rs), .int (zi pt), .ref mr])), (mT, ai κ 401 T)] 0 0 0 [(0, .ref m0), (1, .int (zi pd))] []
  refine z_iconst E dX11_isMirror_0 ?_
  refine z_istore_n (lv' := [(2, .int (zi 1)), (0, .ref m0), (1, .int (zi pd))]) E dX11_isMirror_1 rfl (Nat.le_of_ble_eq_true rfl) rfl ?_
  refine z_iconst E dX11_isMirror_2 ?_
  refine z_istore_n (lv' := [(3, .int (zi 0)), (2, .int (zi 1)), (0, .ref m0), (1, .int (zi pd))]) E dX11_isMirror_3 rfl (Nat.le_of_ble_eq_true rfl) rfl ?_
  have lp_4 : ∀ (n_4 : Nat) (is : Int) (i : Int), (0 ≤ i ∧ (i = 0 ∨ i ≤ pd - 1)) → (miM T ld pd i is) → (500 - i) < (n_4 : Int) → Zg X [(m0, .inr (11, [.ref ms, .ref mp, .int (zi pn), .ref mt, .int (zi tyd), .ref mT, .ref mO, .ref mU, .int (zi ld), .long (zl up), .long (zl lw), .long (zl ua), .long (zl la), .long (zl bU), .int (zi bL), .int (zi sv), .int (zi xn), .int (zi yn), .int (zi sp), .int (zi rs), .int (zi pt), .ref mr])), (mT, ai κ 401 T)] 0 0 4 [(0, .ref m0), (1, .int (zi pd)), (2, .int (zi is)), (3, .int (zi i))] [] := by
    intro n_4
    induction n_4 with
    | zero =>
      intro is i i0 i1 hmu
      exact absurd hmu (by omega)
    | succ n_4 ih_4 =>
      intro is i i0 i1 hmu_4
      refine z_iload_n E 3 rfl rfl dX11_isMirror_4 ?_
      refine z_iload_n E 1 rfl rfl dX11_isMirror_5 ?_
      refine z_iconst E dX11_isMirror_6 ?_
      refine z_isub E dX11_isMirror_7 ?_
      refine z_ic_ge (tgt := 56) E (by omega) (by omega) dX11_isMirror_8 (by decide) (fun h_8 => ?_) (fun h_8 => ?_)
      · have his2 := i1.1
        refine z_iload_n E 2 rfl rfl dX11_isMirror_56 ?_
        exact fin _ _ _ _ (nar_bool (by omega)) (⟨miM_end i1 (by omega) (by omega), rfl⟩) dX11_isMirror_57
      · have his := i1.1
        refine z_iload_n E 2 rfl rfl dX11_isMirror_11 ?_
        refine z_if_eq (tgt := 48) E (by omega) dX11_isMirror_12 (by decide) (fun h_12 => ?_) (fun h_12 => ?_)
        · refine z_iconst E dX11_isMirror_48 ?_
          refine z_istore_n (lv' := [(2, .int (zi 0)), (0, .ref m0), (1, .int (zi pd)), (3, .int (zi i))]) E dX11_isMirror_49 rfl (Nat.le_of_ble_eq_true rfl) rfl ?_
          refine z_iinc (lv' := [(3, .int (zi (i + 1))), (2, .int (zi 0)), (0, .ref m0), (1, .int (zi pd))]) E 3 rfl dX11_isMirror_50 (Nat.le_of_ble_eq_true rfl) rfl ?_
          refine z_goto (tgt := 4) E dX11_isMirror_53 (by decide) ?_
          refine Zg.sub (lv' := [(0, .ref m0), (1, .int (zi pd)), (2, .int (zi 0)), (3, .int (zi (i + 1)))]) [2, 3, 1, 0] rfl ?_
          exact ih_4 0 (i + 1) (by omega) (miM_f i1 i0.1 (Or.inl (by omega))) (by omega)
        · refine z_aload_n E 0 rfl rfl dX11_isMirror_15 ?_
          refine z_get E f_X11_19 0 rfl rfl dX11_isMirror_16 ?_
          refine z_aload_n E 0 rfl rfl dX11_isMirror_19 ?_
          refine z_get E f_X11_72 0 rfl rfl dX11_isMirror_20 ?_
          refine z_iload_n E 3 rfl rfl dX11_isMirror_23 ?_
          refine z_iadd E dX11_isMirror_24 ?_
          refine z_iald E 1 rfl (Nat.le_of_ble_eq_true rfl) (by omega) (by omega) dX11_isMirror_25 ?_
          refine z_aload_n E 0 rfl rfl dX11_isMirror_26 ?_
          refine z_get E f_X11_19 0 rfl rfl dX11_isMirror_27 ?_
          refine z_aload_n E 0 rfl rfl dX11_isMirror_30 ?_
          refine z_get E f_X11_72 0 rfl rfl dX11_isMirror_31 ?_
          refine z_iload_n E 1 rfl rfl dX11_isMirror_34 ?_
          refine z_iadd E dX11_isMirror_35 ?_
          refine z_iconst E dX11_isMirror_36 ?_
          refine z_isub E dX11_isMirror_37 ?_
          refine z_iload_n E 3 rfl rfl dX11_isMirror_38 ?_
          refine z_isub E dX11_isMirror_39 ?_
          refine z_iald E 1 rfl (Nat.le_of_ble_eq_true rfl) (by omega) (by omega) dX11_isMirror_40 ?_
          have f1 := hf (ld + i) (by omega) (by omega)
          have f2 := hf (ld + pd - 2 - i) (by omega) (by omega)
          refine z_ic_ne (tgt := 48) E (by omega) (by omega) dX11_isMirror_41 (by decide) (fun h_41 => ?_) (fun h_41 => ?_)
          · refine z_iconst E dX11_isMirror_48 ?_
            refine z_istore_n (lv' := [(2, .int (zi 0)), (0, .ref m0), (1, .int (zi pd)), (3, .int (zi i))]) E dX11_isMirror_49 rfl (Nat.le_of_ble_eq_true rfl) rfl ?_
            refine z_iinc (lv' := [(3, .int (zi (i + 1))), (2, .int (zi 0)), (0, .ref m0), (1, .int (zi pd))]) E 3 rfl dX11_isMirror_50 (Nat.le_of_ble_eq_true rfl) rfl ?_
            refine z_goto (tgt := 4) E dX11_isMirror_53 (by decide) ?_
            refine Zg.sub (lv' := [(0, .ref m0), (1, .int (zi pd)), (2, .int (zi 0)), (3, .int (zi (i + 1)))]) [2, 3, 1, 0] rfl ?_
            exact ih_4 0 (i + 1) (by omega) (miM_f i1 i0.1 (Or.inr (by omega))) (by omega)
          · refine z_iconst E dX11_isMirror_44 ?_
            refine z_goto (tgt := 49) E dX11_isMirror_45 (by decide) ?_
            refine z_istore_n (lv' := [(2, .int (zi 1)), (0, .ref m0), (1, .int (zi pd)), (3, .int (zi i))]) E dX11_isMirror_49 rfl (Nat.le_of_ble_eq_true rfl) rfl ?_
            refine z_iinc (lv' := [(3, .int (zi (i + 1))), (2, .int (zi 1)), (0, .ref m0), (1, .int (zi pd))]) E 3 rfl dX11_isMirror_50 (Nat.le_of_ble_eq_true rfl) rfl ?_
            refine z_goto (tgt := 4) E dX11_isMirror_53 (by decide) ?_
            refine Zg.sub (lv' := [(0, .ref m0), (1, .int (zi pd)), (2, .int (zi 1)), (3, .int (zi (i + 1)))]) [2, 3, 1, 0] rfl ?_
            exact ih_4 1 (i + 1) (by omega) (miM_1 i1 (by omega) (by omega)) (by omega)
  refine Zg.sub (lv' := [(0, .ref m0), (1, .int (zi pd)), (2, .int (zi 1)), (3, .int (zi 0))]) [2, 3, 1, 0] rfl ?_
  exact lp_4 ((500 - 0 : Int).toNat + 1) 1 0 (by omega) (miM_0) (by omega)
abbrev rm_X11_again : Room := { frames := 4, cells := 0, slots := 0, locals := 107 }
set_option maxRecDepth 100000 in
theorem c_X11_again (l : Launch) (D : va_G) (κ : Nat → ClassId) (m0 : Nat) (ms : Nat) (mp : Nat) (pn : Int) (mt : Nat) (tyd : Int) (mT : Nat) (mO : Nat) (mU : Nat) (ld : Int) (up : Int) (lw : Int) (ua : Int) (la : Int) (bU : Int) (bL : Int) (sv : Int) (xn : Int) (yn : Int) (sp : Int) (rs : Int) (pt : Int) (mr : Nat) (S : Int → Int) (T : Int → Int) (OV : Int → Int) (UN : Int → Int) (wt : Int) (hr0 : -2147483648 ≤ wt ∧ wt ≤ 2147483647) (hv : vS (S 0) (S 1) (S 2)) : ZI l yX11_again cX11_again 3 .int rm_X11_again D κ [.ref m0, .int (zi wt)] [(m0, .inr (11, [.ref ms, .ref mp, .int (zi pn), .ref mt, .int (zi tyd), .ref mT, .ref mO, .ref mU, .int (zi ld), .long (zl up), .long (zl lw), .long (zl ua), .long (zl la), .long (zl bU), .int (zi bL), .int (zi sv), .int (zi xn), .int (zi yn), .int (zi sp), .int (zi rs), .int (zi pt), .ref mr])), (ms, ai κ 20 S), (mT, ai κ 401 T), (mO, al κ 402 OV), (mU, al κ 402 UN)] (fun z w => ∃ r : Int, ∃ ld' : Int, ∃ T' : Int → Int, ∃ OV' : Int → Int, ∃ UN' : Int → Int, (agM (S 0) (S 1) (S 2) wt r) ∧ r = z ∧ [(m0, .inr (11, [.ref ms, .ref mp, .int (zi pn), .ref mt, .int (zi tyd), .ref mT, .ref mO, .ref mU, .int (zi ld'), .long (zl up), .long (zl lw), .long (zl ua), .long (zl la), .long (zl bU), .int (zi bL), .int (zi sv), .int (zi xn), .int (zi yn), .int (zi sp), .int (zi rs), .int (zi pt), .ref mr])), (ms, ai κ 20 S), (mT, ai κ 401 T'), (mO, al κ 402 OV'), (mU, al κ 402 UN')] = w) := by
  refine ZI.enter (own := RX11) rfl pn_X11_again (Nat.le_of_ble_eq_true rfl) (fun X E fin => ?_)
  show Zg X [(m0, .inr (11, [.ref ms, .ref mp, .int (zi pn), .ref mt, .int (zi tyd), .ref mT, .ref mO, .ref mU, .int (zi ld), .long (zl up), .long (zl lw), .long (zl ua), .long (zl la), .long (zl bU), .int (zi bL), .int (zi sv), .int (zi xn), .int (zi yn), .int (zi sp), .int (zi rs), .int (zi pt), .ref mr])), (ms, ai κ 20 S), (mT, ai κ 401 T), (mO, al κ 402 OV), (mU, al κ 402 UN)] 0 0 0 [(0, .ref m0), (1, .int (zi wt))] []
  refine z_iload_n E 1 rfl rfl dX11_again_0 ?_
  refine z_i2l E (by omega) dX11_again_1 ?_
  refine z_lconst0 E dX11_again_2 ?_
  refine z_ldc2 E k_X11_75 dX11_again_3 ?_
  refine z_callSi (As := [.long (zl wt), .long (zl 0), .long (zl 4)]) (rest := []) (wr := [(m0, .inr (11, [.ref ms, .ref mp, .int (zi pn), .ref mt, .int (zi tyd), .ref mT, .ref mO, .ref mU, .int (zi ld), .long (zl up), .long (zl lw), .long (zl ua), .long (zl la), .long (zl bU), .int (zi bL), .int (zi sv), .int (zi xn), .int (zi yn), .int (zi sp), .int (zi rs), .int (zi pt), .ref mr])), (ms, ai κ 20 S), (mT, ai κ 401 T), (mO, al κ 402 OV), (mU, al κ 402 UN)]) E (c_X11_in l D κ wt 0 4 (by omega) (by omega) (by omega)) m_X11_44 ⟨Nat.le_of_ble_eq_true rfl, Nat.le_of_ble_eq_true rfl⟩ ⟨rfl, rfl⟩ [] [0, 1, 2, 3, 4] rfl rfl rfl rfl (by decide) rfl rfl (Nat.le_of_ble_eq_true rfl) dX11_again_6 ⟨Nat.le_of_ble_eq_true rfl, Nat.le_of_ble_eq_true rfl⟩ (fun z6 w1 hq => ?_)
  obtain ⟨⟨rfl, hc_6⟩ | ⟨rfl, hc_6⟩, rfl⟩ := hq
  · refine z_if_ne (tgt := 15) E (by omega) dX11_again_9 (by decide) (fun _ => ?_) (fun h => absurd h (by decide))
    refine z_aload_n E 0 rfl rfl dX11_again_15 ?_
    refine z_callVi (As := []) (rest := []) (wr := []) E (c_X11_period l D κ m0 ms mp pn mt tyd mT mO mU ld up lw ua la bU bL sv xn yn sp rs pt mr S T OV UN (hv)) m_X11_77 ⟨Nat.le_of_ble_eq_true rfl, Nat.le_of_ble_eq_true rfl⟩ ⟨rfl, rfl⟩ [0, 1, 2, 3, 4] [] rfl rfl rfl rfl (by decide) rfl rfl rfl rfl (Nat.le_of_ble_eq_true rfl) dX11_again_16 ⟨Nat.le_of_ble_eq_true rfl, Nat.le_of_ble_eq_true rfl⟩ (fun z16 w1 hq => ?_)
    obtain ⟨r_1, ld'_2, T'_3, OV'_4, UN'_5, hz_16, hT_16, hO_16, rfl, rfl⟩ := hq
    have hpp := hz_16
    have hpb := perP_bd hz_16
    refine z_istore_n (lv' := [(2, .int (zi r_1)), (0, .ref m0), (1, .int (zi wt))]) E dX11_again_19 rfl (Nat.le_of_ble_eq_true rfl) rfl ?_
    refine z_iload_n E 0 rfl rfl dX11_again_20 ?_
    refine z_if_ne (tgt := 27) E (by omega) dX11_again_21 (by decide) (fun h_21 => ?_) (fun h_21 => ?_)
    · obtain ⟨j, k, hk1, hk2, hk3⟩ : ∃ j k : Int, frRp (S 0) (S 1) (S 2) j k ∧ r_1 = k - j ∧ ld'_2 = j := by
        rcases hpp with h1 | h1
        · exact h1
        · exact absurd h1.2.1 h_21
      have hk4 := hk1.1
      have hfT : ∀ i : Int, 0 ≤ i → i ≤ 400 → -100000 ≤ T'_3 i ∧ T'_3 i ≤ 100000 := fun i i1 i2 => by rw [hT_16 i i1 i2]; have := tm_bd hv i; omega
      subst hk3
      refine z_iload_n E 2 rfl rfl dX11_again_27 ?_
      refine z_if_ne (tgt := 38) E (by omega) dX11_again_28 (by decide) (fun h_28 => ?_) (fun h_28 => ?_)
      · refine z_iload_n E 2 rfl rfl dX11_again_38 ?_
        refine z_iconst E dX11_again_39 ?_
        refine z_ic_ne (tgt := 47) E (by omega) (by omega) dX11_again_40 (by decide) (fun h_40 => ?_) (fun h_40 => ?_)
        · refine z_iload_n E 2 rfl rfl dX11_again_47 ?_
          refine z_iconst E dX11_again_48 ?_
          refine z_ic_ne (tgt := 60) E (by omega) (by omega) dX11_again_49 (by decide) (fun h_49 => ?_) (fun h_49 => ?_)
          · refine z_iload_n E 2 rfl rfl dX11_again_60 ?_
            refine z_iconst E dX11_again_61 ?_
            refine z_ic_ne (tgt := 73) E (by omega) (by omega) dX11_again_62 (by decide) (fun h_62 => ?_) (fun h_62 => ?_)
            · refine z_aload_n E 1 rfl rfl dX11_again_73 ?_
              refine z_iload_n E 0 rfl rfl dX11_again_74 ?_
              refine z_callVi (As := [.int (zi r_1)]) (rest := []) (wr := [(ms, ai κ 20 S), (mO, al κ 402 OV'_4), (mU, al κ 402 UN'_5)]) E (c_X11_isMirror l D κ m0 ms mp pn mt tyd mT mO mU ld'_2 up lw ua la bU bL sv xn yn sp rs pt mr T'_3 r_1 (by omega) (hfT)) m_X11_89 ⟨Nat.le_of_ble_eq_true rfl, Nat.le_of_ble_eq_true rfl⟩ ⟨rfl, rfl⟩ [0, 2] [1, 3, 4] rfl rfl rfl rfl (by decide) rfl rfl rfl rfl (Nat.le_of_ble_eq_true rfl) dX11_again_75 ⟨Nat.le_of_ble_eq_true rfl, Nat.le_of_ble_eq_true rfl⟩ (fun z75 w1 hq => ?_)
              obtain ⟨⟨rfl, hc_75⟩ | ⟨rfl, hc_75⟩, rfl⟩ := hq
              · refine z_if_eq (tgt := 85) E (by omega) dX11_again_78 (by decide) (fun h => absurd h (by decide)) (fun _ => ?_)
                refine z_iconst E dX11_again_81 ?_
                refine z_goto (tgt := 86) E dX11_again_82 (by decide) ?_
                refine Zg.perm (ws' := [(m0, .inr (11, [.ref ms, .ref mp, .int (zi pn), .ref mt, .int (zi tyd), .ref mT, .ref mO, .ref mU, .int (zi ld'_2), .long (zl up), .long (zl lw), .long (zl ua), .long (zl la), .long (zl bU), .int (zi bL), .int (zi sv), .int (zi xn), .int (zi yn), .int (zi sp), .int (zi rs), .int (zi pt), .ref mr])), (ms, ai κ 20 S), (mT, ai κ 401 T'_3), (mO, al κ 402 OV'_4), (mU, al κ 402 UN'_5)]) [3, 0, 4, 1, 2] rfl rfl ?_
                exact fin _ _ _ _ rfl (⟨_, _, _, _, _, (by exact Or.inr (Or.inr ⟨hc_6, _, _, hk1, agV_cong (by omega) (fun i i1 i2 => hT_16 i (by omega) (by omega)) (by exact Or.inr (Or.inr (Or.inr (Or.inr ⟨by omega, by rw [← hk2]; exact Or.inl ⟨rfl, hc_75⟩⟩))))⟩)), rfl, rfl⟩) dX11_again_86
              · refine z_if_eq (tgt := 85) E (by omega) dX11_again_78 (by decide) (fun _ => ?_) (fun h => absurd h (by decide))
                refine z_iconst E dX11_again_85 ?_
                refine Zg.perm (ws' := [(m0, .inr (11, [.ref ms, .ref mp, .int (zi pn), .ref mt, .int (zi tyd), .ref mT, .ref mO, .ref mU, .int (zi ld'_2), .long (zl up), .long (zl lw), .long (zl ua), .long (zl la), .long (zl bU), .int (zi bL), .int (zi sv), .int (zi xn), .int (zi yn), .int (zi sp), .int (zi rs), .int (zi pt), .ref mr])), (ms, ai κ 20 S), (mT, ai κ 401 T'_3), (mO, al κ 402 OV'_4), (mU, al κ 402 UN'_5)]) [3, 0, 4, 1, 2] rfl rfl ?_
                exact fin _ _ _ _ rfl (⟨_, _, _, _, _, (by exact Or.inr (Or.inr ⟨hc_6, _, _, hk1, agV_cong (by omega) (fun i i1 i2 => hT_16 i (by omega) (by omega)) (by exact Or.inr (Or.inr (Or.inr (Or.inr ⟨by omega, by rw [← hk2]; exact Or.inr ⟨rfl, hc_75⟩⟩))))⟩)), rfl, rfl⟩) dX11_again_86
            · refine z_aload_n E 1 rfl rfl dX11_again_65 ?_
              refine z_iload_n E 0 rfl rfl dX11_again_66 ?_
              refine z_callVi (As := [.int (zi r_1)]) (rest := []) (wr := [(ms, ai κ 20 S), (mO, al κ 402 OV'_4), (mU, al κ 402 UN'_5)]) E (c_X11_unlike l D κ m0 ms mp pn mt tyd mT mO mU ld'_2 up lw ua la bU bL sv xn yn sp rs pt mr T'_3 r_1 (by omega) (hfT)) m_X11_86 ⟨Nat.le_of_ble_eq_true rfl, Nat.le_of_ble_eq_true rfl⟩ ⟨rfl, rfl⟩ [0, 2] [1, 3, 4] rfl rfl rfl rfl (by decide) rfl rfl rfl rfl (Nat.le_of_ble_eq_true rfl) dX11_again_67 ⟨Nat.le_of_ble_eq_true rfl, Nat.le_of_ble_eq_true rfl⟩ (fun z67 w1 hq => ?_)
              obtain ⟨rfl, rfl⟩ := hq
              refine z_goto (tgt := 86) E dX11_again_70 (by decide) ?_
              refine Zg.perm (ws' := [(m0, .inr (11, [.ref ms, .ref mp, .int (zi pn), .ref mt, .int (zi tyd), .ref mT, .ref mO, .ref mU, .int (zi ld'_2), .long (zl up), .long (zl lw), .long (zl ua), .long (zl la), .long (zl bU), .int (zi bL), .int (zi sv), .int (zi xn), .int (zi yn), .int (zi sp), .int (zi rs), .int (zi pt), .ref mr])), (ms, ai κ 20 S), (mT, ai κ 401 T'_3), (mO, al κ 402 OV'_4), (mU, al κ 402 UN'_5)]) [3, 0, 4, 1, 2] rfl rfl ?_
              exact fin _ _ _ _ rfl (⟨_, _, _, _, _, (by exact Or.inr (Or.inr ⟨hc_6, _, _, hk1, agV_cong (by omega) (fun i i1 i2 => hT_16 i (by omega) (by omega)) (by exact Or.inr (Or.inr (Or.inr (Or.inl ⟨by omega, by rw [← hk2]⟩))))⟩)), rfl, rfl⟩) dX11_again_86
          · refine z_aload_n E 1 rfl rfl dX11_again_52 ?_
            refine z_iload_n E 0 rfl rfl dX11_again_53 ?_
            refine z_callVi (As := [.int (zi r_1)]) (rest := []) (wr := [(ms, ai κ 20 S), (mO, al κ 402 OV'_4), (mU, al κ 402 UN'_5)]) E (c_X11_greatest l D κ m0 ms mp pn mt tyd mT mO mU ld'_2 up lw ua la bU bL sv xn yn sp rs pt mr T'_3 r_1 (by omega) (hfT)) m_X11_82 ⟨Nat.le_of_ble_eq_true rfl, Nat.le_of_ble_eq_true rfl⟩ ⟨rfl, rfl⟩ [0, 2] [1, 3, 4] rfl rfl rfl rfl (by decide) rfl rfl rfl rfl (Nat.le_of_ble_eq_true rfl) dX11_again_54 ⟨Nat.le_of_ble_eq_true rfl, Nat.le_of_ble_eq_true rfl⟩ (fun z54 w1 hq => ?_)
            obtain ⟨rfl, rfl⟩ := hq
            refine z_goto (tgt := 86) E dX11_again_57 (by decide) ?_
            refine Zg.perm (ws' := [(m0, .inr (11, [.ref ms, .ref mp, .int (zi pn), .ref mt, .int (zi tyd), .ref mT, .ref mO, .ref mU, .int (zi ld'_2), .long (zl up), .long (zl lw), .long (zl ua), .long (zl la), .long (zl bU), .int (zi bL), .int (zi sv), .int (zi xn), .int (zi yn), .int (zi sp), .int (zi rs), .int (zi pt), .ref mr])), (ms, ai κ 20 S), (mT, ai κ 401 T'_3), (mO, al κ 402 OV'_4), (mU, al κ 402 UN'_5)]) [3, 0, 4, 1, 2] rfl rfl ?_
            exact fin _ _ _ _ rfl (⟨_, _, _, _, _, (by exact Or.inr (Or.inr ⟨hc_6, _, _, hk1, agV_cong (by omega) (fun i i1 i2 => hT_16 i (by omega) (by omega)) (by exact Or.inr (Or.inr (Or.inl ⟨by omega, by rw [← hk2]⟩)))⟩)), rfl, rfl⟩) dX11_again_86
        · refine z_iload_n E 0 rfl rfl dX11_again_43 ?_
          refine z_goto (tgt := 86) E dX11_again_44 (by decide) ?_
          exact fin _ _ _ _ rfl (⟨_, _, _, _, _, (by exact Or.inr (Or.inr ⟨hc_6, _, _, hk1, agV_cong (by omega) (fun i i1 i2 => hT_16 i (by omega) (by omega)) (by exact Or.inr (Or.inl ⟨by omega, by omega⟩))⟩)), rfl, rfl⟩) dX11_again_86
      · refine z_aload_n E 1 rfl rfl dX11_again_31 ?_
        refine z_get E f_X11_72 0 rfl rfl dX11_again_32 ?_
        refine z_goto (tgt := 86) E dX11_again_35 (by decide) ?_
        exact fin _ _ _ _ rfl (⟨_, _, _, _, _, (by exact Or.inr (Or.inr ⟨hc_6, _, _, hk1, agV_cong (by omega) (fun i i1 i2 => hT_16 i (by omega) (by omega)) (by exact Or.inl ⟨by omega, by omega⟩)⟩)), rfl, rfl⟩) dX11_again_86
    · have hnp : noRp (S 0) (S 1) (S 2) 401 := by
        rcases hpp with ⟨j, k, h1, h2, h3⟩ | h1
        · have := h1.1; omega
        · exact h1.1
      refine z_ldc E k_X11_81 dX11_again_24 ?_
      exact fin _ _ _ _ rfl (⟨_, _, _, _, _, (by exact Or.inr (Or.inl ⟨hc_6, hnp, rfl⟩)), rfl, rfl⟩) dX11_again_26
  · refine z_if_ne (tgt := 15) E (by omega) dX11_again_9 (by decide) (fun h => absurd h (by decide)) (fun _ => ?_)
    refine z_ldc E k_X11_50 dX11_again_12 ?_
    exact fin _ _ _ _ rfl (⟨_, _, _, _, _, Or.inl ⟨hc_6, rfl⟩, rfl, rfl⟩) dX11_again_14
