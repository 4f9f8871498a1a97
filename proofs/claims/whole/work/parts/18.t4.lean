abbrev rm_X4_init : Room := { frames := 1, cells := 0, slots := 0, locals := 12 }
set_option maxRecDepth 100000 in
theorem c_X4_init (l : Launch) (D : va_G) (κ : Nat → ClassId) (h0 : Nat)  : ZV l yX4_init cX4_init 1 rm_X4_init D κ [.ref h0] [(h0, .inr (4, [.long (zl 0), .long (zl 0), .long (zl 0), .long (zl 0), .int (zi 0)]))] (fun w => [(h0, .inr (4, [.long (zl 0), .long (zl 0), .long (zl 0), .long (zl 0), .int (zi 0)]))] = w) := by
  refine ZV.enter0 (own := RX4) rfl pn_X4_init (Nat.le_of_ble_eq_true rfl) (fun X E hini fin => ?_)
  have hini := hini rfl
  show Zg X [(h0, .inr (4, [.long (zl 0), .long (zl 0), .long (zl 0), .long (zl 0), .int (zi 0)]))] 0 0 0 [(0, .ref h0)] []
  refine z_aload_n E 0 rfl rfl dX4_init_0 ?_
  refine z_objInit E m_X4_1 in_obj co_obj (Nat.le_of_ble_eq_true rfl) (Nat.le_of_ble_eq_true rfl) dX4_init_1 ?_
  exact fin _ _ _ (by first | exact rfl | omega) dX4_init_4
abbrev rm_X4_takeMediant : Room := { frames := 2, cells := 0, slots := 0, locals := 60 }
set_option maxRecDepth 100000 in
theorem c_X4_takeMediant (l : Launch) (D : va_G) (κ : Nat → ClassId) (h0 : Nat) (bu : Int) (bl : Int) (au : Int) (al : Int) (r : Int) (h1 : Nat) (p : Int) (d : Int) (q : Int) (h1b : okF bu bl) (h1a : okF au al) (h1m : okF (bu + au) (bl + al)) (hp : -99 ≤ p ∧ p ≤ 99) (hd : 2 ≤ d ∧ d ≤ 999) (hq : -99 ≤ q ∧ q ≤ 99) : ZV l yX4_takeMediant cX4_takeMediant 6 rm_X4_takeMediant D κ [.ref h0, .ref h1] [(h0, .inr (4, [.long (zl bu), .long (zl bl), .long (zl au), .long (zl al), .int (zi r)])), (h1, .inr (8, [.int (zi p), .int (zi d), .int (zi q)]))] (fun w => ∃ bu' : Int, ∃ bl' : Int, ∃ au' : Int, ∃ al' : Int, ∃ r' : Int, (med p d q (bu, bl, au, al, r) = (bu', bl', au', al', r')) ∧ [(h0, .inr (4, [.long (zl bu'), .long (zl bl'), .long (zl au'), .long (zl al'), .int (zi r')])), (h1, .inr (8, [.int (zi p), .int (zi d), .int (zi q)]))] = w) := by
  refine ZV.enter (own := RX4) rfl pn_X4_takeMediant (Nat.le_of_ble_eq_true rfl) (fun X E fin => ?_)
  show Zg X [(h0, .inr (4, [.long (zl bu), .long (zl bl), .long (zl au), .long (zl al), .int (zi r)])), (h1, .inr (8, [.int (zi p), .int (zi d), .int (zi q)]))] 0 0 0 [(0, .ref h0), (1, .ref h1)] []
  refine z_aload_n E 0 rfl rfl dX4_takeMediant_0 ?_
  refine z_get E f_X4_7 0 rfl rfl dX4_takeMediant_1 ?_
  refine z_aload_n E 0 rfl rfl dX4_takeMediant_4 ?_
  refine z_get E f_X4_16 0 rfl rfl dX4_takeMediant_5 ?_
  refine z_ladd E dX4_takeMediant_8 ?_
  refine z_lstore_n (lv' := [(2, .long (zl (bu + au))), (0, .ref h0), (1, .ref h1)]) E dX4_takeMediant_9 rfl (Nat.le_of_ble_eq_true rfl) rfl ?_
  refine z_aload_n E 1 rfl rfl dX4_takeMediant_10 ?_
  refine z_get E f_X4_13 0 rfl rfl dX4_takeMediant_11 ?_
  refine z_aload_n E 1 rfl rfl dX4_takeMediant_14 ?_
  refine z_get E f_X4_19 0 rfl rfl dX4_takeMediant_15 ?_
  refine z_ladd E dX4_takeMediant_18 ?_
  refine z_lstore (lv' := [(4, .long (zl (bl + al))), (2, .long (zl (bu + au))), (0, .ref h0), (1, .ref h1)]) E dX4_takeMediant_19 (Nat.le_of_ble_eq_true rfl) rfl ?_
  refine z_aload_n E 3 rfl rfl dX4_takeMediant_21 ?_
  refine z_lload_n E 1 rfl rfl dX4_takeMediant_22 ?_
  refine z_lload E 0 rfl dX4_takeMediant_23 ?_
  refine z_aload_n E 2 rfl rfl dX4_takeMediant_25 ?_
  refine z_get E f_X4_7 0 rfl rfl dX4_takeMediant_26 ?_
  refine z_aload_n E 2 rfl rfl dX4_takeMediant_29 ?_
  refine z_get E f_X4_13 0 rfl rfl dX4_takeMediant_30 ?_
  refine z_callVi (As := [.long (zl (bu + au)), .long (zl (bl + al)), .long (zl bu), .long (zl bl)]) (rest := []) (wr := [(h0, .inr (4, [.long (zl bu), .long (zl bl), .long (zl au), .long (zl al), .int (zi r)]))]) E (c_X8_isNearer l D κ h1 p d q (bu + au) (bl + al) bu bl (by omega) (by omega) (by omega) (h1m) (h1b)) m_X4_30 ⟨Nat.le_of_ble_eq_true rfl, Nat.le_of_ble_eq_true rfl⟩ ⟨rfl, rfl⟩ [1] [0] rfl rfl rfl rfl (by decide) rfl rfl rfl rfl (Nat.le_of_ble_eq_true rfl) dX4_takeMediant_33 ⟨Nat.le_of_ble_eq_true rfl, Nat.le_of_ble_eq_true rfl⟩ (fun z33 w1 hq => ?_)
  obtain ⟨⟨rfl, hc_33⟩ | ⟨rfl, hc_33⟩, rfl⟩ := hq
  · refine z_if_eq (tgt := 67) E (by omega) dX4_takeMediant_36 (by decide) (fun h => absurd h (by decide)) (fun _ => ?_)
    refine z_aload_n E 3 rfl rfl dX4_takeMediant_39 ?_
    refine z_lload_n E 1 rfl rfl dX4_takeMediant_40 ?_
    refine z_lload E 0 rfl dX4_takeMediant_41 ?_
    refine z_aload_n E 2 rfl rfl dX4_takeMediant_43 ?_
    refine z_get E f_X4_16 0 rfl rfl dX4_takeMediant_44 ?_
    refine z_aload_n E 2 rfl rfl dX4_takeMediant_47 ?_
    refine z_get E f_X4_19 0 rfl rfl dX4_takeMediant_48 ?_
    refine z_callVi (As := [.long (zl (bu + au)), .long (zl (bl + al)), .long (zl au), .long (zl al)]) (rest := []) (wr := [(h0, .inr (4, [.long (zl bu), .long (zl bl), .long (zl au), .long (zl al), .int (zi r)]))]) E (c_X8_isNearer l D κ h1 p d q (bu + au) (bl + al) au al (by omega) (by omega) (by omega) (h1m) (h1a)) m_X4_30 ⟨Nat.le_of_ble_eq_true rfl, Nat.le_of_ble_eq_true rfl⟩ ⟨rfl, rfl⟩ [1] [0] rfl rfl rfl rfl (by decide) rfl rfl rfl rfl (Nat.le_of_ble_eq_true rfl) dX4_takeMediant_51 ⟨Nat.le_of_ble_eq_true rfl, Nat.le_of_ble_eq_true rfl⟩ (fun z51 w1 hq => ?_)
    obtain ⟨⟨rfl, hc_51⟩ | ⟨rfl, hc_51⟩, rfl⟩ := hq
    · refine z_if_eq (tgt := 67) E (by omega) dX4_takeMediant_54 (by decide) (fun h => absurd h (by decide)) (fun _ => ?_)
      refine z_aload_n E 2 rfl rfl dX4_takeMediant_57 ?_
      refine z_dup E rfl dX4_takeMediant_58 ?_
      refine z_get E f_X4_22 0 rfl rfl dX4_takeMediant_59 ?_
      refine z_iconst E dX4_takeMediant_62 ?_
      refine z_iadd E dX4_takeMediant_63 ?_
      refine z_put (ws' := [(h0, .inr (4, [.long (zl bu), .long (zl bl), .long (zl au), .long (zl al), .int (zi (r + 1))])), (h1, .inr (8, [.int (zi p), .int (zi d), .int (zi q)]))]) E f_X4_22 t_X4_4 0 rfl rfl rfl (Nat.le_of_ble_eq_true rfl) rfl dX4_takeMediant_64 ?_
      have hmb := h1m
      refine z_aload_n E 3 rfl rfl dX4_takeMediant_67 ?_
      refine z_lload_n E 1 rfl rfl dX4_takeMediant_68 ?_
      refine z_lload E 0 rfl dX4_takeMediant_69 ?_
      unfold okF at hmb
      refine z_callVi (As := [.long (zl (bu + au)), .long (zl (bl + al))]) (rest := []) (wr := [(h0, .inr (4, [.long (zl bu), .long (zl bl), .long (zl au), .long (zl al), .int (zi (r + 1))]))]) E (c_X8_isPassedBy l D κ h1 p d q (bu + au) (bl + al) (by omega) (by omega) (by omega) (by omega) (by omega)) m_X4_36 ⟨Nat.le_of_ble_eq_true rfl, Nat.le_of_ble_eq_true rfl⟩ ⟨rfl, rfl⟩ [1] [0] rfl rfl rfl rfl (by decide) rfl rfl rfl rfl (Nat.le_of_ble_eq_true rfl) dX4_takeMediant_71 ⟨Nat.le_of_ble_eq_true rfl, Nat.le_of_ble_eq_true rfl⟩ (fun z71 w1 hq => ?_)
      obtain ⟨⟨rfl, hc_71⟩ | ⟨rfl, hc_71⟩, rfl⟩ := hq
      · refine z_if_eq (tgt := 91) E (by omega) dX4_takeMediant_74 (by decide) (fun h => absurd h (by decide)) (fun _ => ?_)
        refine z_aload_n E 2 rfl rfl dX4_takeMediant_77 ?_
        refine z_lload_n E 1 rfl rfl dX4_takeMediant_78 ?_
        refine z_put (ws' := [(h0, .inr (4, [.long (zl bu), .long (zl bl), .long (zl (bu + au)), .long (zl al), .int (zi (r + 1))])), (h1, .inr (8, [.int (zi p), .int (zi d), .int (zi q)]))]) E f_X4_16 t_X4_2 0 rfl rfl rfl (Nat.le_of_ble_eq_true rfl) rfl dX4_takeMediant_79 ?_
        refine z_aload_n E 2 rfl rfl dX4_takeMediant_82 ?_
        refine z_lload E 0 rfl dX4_takeMediant_83 ?_
        refine z_put (ws' := [(h0, .inr (4, [.long (zl bu), .long (zl bl), .long (zl (bu + au)), .long (zl (bl + al)), .int (zi (r + 1))])), (h1, .inr (8, [.int (zi p), .int (zi d), .int (zi q)]))]) E f_X4_19 t_X4_3 0 rfl rfl rfl (Nat.le_of_ble_eq_true rfl) rfl dX4_takeMediant_85 ?_
        refine z_goto (tgt := 102) E dX4_takeMediant_88 (by decide) ?_
        exact fin _ _ _ (⟨_, _, _, _, _, by simp [med, medR, hc_33, hc_51, hc_71], rfl⟩) dX4_takeMediant_102
      · refine z_if_eq (tgt := 91) E (by omega) dX4_takeMediant_74 (by decide) (fun _ => ?_) (fun h => absurd h (by decide))
        refine z_aload_n E 2 rfl rfl dX4_takeMediant_91 ?_
        refine z_lload_n E 1 rfl rfl dX4_takeMediant_92 ?_
        refine z_put (ws' := [(h0, .inr (4, [.long (zl (bu + au)), .long (zl bl), .long (zl au), .long (zl al), .int (zi (r + 1))])), (h1, .inr (8, [.int (zi p), .int (zi d), .int (zi q)]))]) E f_X4_7 t_X4_0 0 rfl rfl rfl (Nat.le_of_ble_eq_true rfl) rfl dX4_takeMediant_93 ?_
        refine z_aload_n E 2 rfl rfl dX4_takeMediant_96 ?_
        refine z_lload E 0 rfl dX4_takeMediant_97 ?_
        refine z_put (ws' := [(h0, .inr (4, [.long (zl (bu + au)), .long (zl (bl + al)), .long (zl au), .long (zl al), .int (zi (r + 1))])), (h1, .inr (8, [.int (zi p), .int (zi d), .int (zi q)]))]) E f_X4_13 t_X4_1 0 rfl rfl rfl (Nat.le_of_ble_eq_true rfl) rfl dX4_takeMediant_99 ?_
        exact fin _ _ _ (⟨_, _, _, _, _, by simp [med, medR, hc_33, hc_51, hc_71], rfl⟩) dX4_takeMediant_102
    · refine z_if_eq (tgt := 67) E (by omega) dX4_takeMediant_54 (by decide) (fun _ => ?_) (fun h => absurd h (by decide))
      have hmb := h1m
      refine z_aload_n E 3 rfl rfl dX4_takeMediant_67 ?_
      refine z_lload_n E 1 rfl rfl dX4_takeMediant_68 ?_
      refine z_lload E 0 rfl dX4_takeMediant_69 ?_
      unfold okF at hmb
      refine z_callVi (As := [.long (zl (bu + au)), .long (zl (bl + al))]) (rest := []) (wr := [(h0, .inr (4, [.long (zl bu), .long (zl bl), .long (zl au), .long (zl al), .int (zi r)]))]) E (c_X8_isPassedBy l D κ h1 p d q (bu + au) (bl + al) (by omega) (by omega) (by omega) (by omega) (by omega)) m_X4_36 ⟨Nat.le_of_ble_eq_true rfl, Nat.le_of_ble_eq_true rfl⟩ ⟨rfl, rfl⟩ [1] [0] rfl rfl rfl rfl (by decide) rfl rfl rfl rfl (Nat.le_of_ble_eq_true rfl) dX4_takeMediant_71 ⟨Nat.le_of_ble_eq_true rfl, Nat.le_of_ble_eq_true rfl⟩ (fun z71 w1 hq => ?_)
      obtain ⟨⟨rfl, hc_71⟩ | ⟨rfl, hc_71⟩, rfl⟩ := hq
      · refine z_if_eq (tgt := 91) E (by omega) dX4_takeMediant_74 (by decide) (fun h => absurd h (by decide)) (fun _ => ?_)
        refine z_aload_n E 2 rfl rfl dX4_takeMediant_77 ?_
        refine z_lload_n E 1 rfl rfl dX4_takeMediant_78 ?_
        refine z_put (ws' := [(h0, .inr (4, [.long (zl bu), .long (zl bl), .long (zl (bu + au)), .long (zl al), .int (zi r)])), (h1, .inr (8, [.int (zi p), .int (zi d), .int (zi q)]))]) E f_X4_16 t_X4_2 0 rfl rfl rfl (Nat.le_of_ble_eq_true rfl) rfl dX4_takeMediant_79 ?_
        refine z_aload_n E 2 rfl rfl dX4_takeMediant_82 ?_
        refine z_lload E 0 rfl dX4_takeMediant_83 ?_
        refine z_put (ws' := [(h0, .inr (4, [.long (zl bu), .long (zl bl), .long (zl (bu + au)), .long (zl (bl + al)), .int (zi r)])), (h1, .inr (8, [.int (zi p), .int (zi d), .int (zi q)]))]) E f_X4_19 t_X4_3 0 rfl rfl rfl (Nat.le_of_ble_eq_true rfl) rfl dX4_takeMediant_85 ?_
        refine z_goto (tgt := 102) E dX4_takeMediant_88 (by decide) ?_
        exact fin _ _ _ (⟨_, _, _, _, _, by simp [med, medR, hc_33, hc_51, hc_71], rfl⟩) dX4_takeMediant_102
      · refine z_if_eq (tgt := 91) E (by omega) dX4_takeMediant_74 (by decide) (fun _ => ?_) (fun h => absurd h (by decide))
        refine z_aload_n E 2 rfl rfl dX4_takeMediant_91 ?_
        refine z_lload_n E 1 rfl rfl dX4_takeMediant_92 ?_
        refine z_put (ws' := [(h0, .inr (4, [.long (zl (bu + au)), .long (zl bl), .long (zl au), .long (zl al), .int (zi r)])), (h1, .inr (8, [.int (zi p), .int (zi d), .int (zi q)]))]) E f_X4_7 t_X4_0 0 rfl rfl rfl (Nat.le_of_ble_eq_true rfl) rfl dX4_takeMediant_93 ?_
        refine z_aload_n E 2 rfl rfl dX4_takeMediant_96 ?_
        refine z_lload E 0 rfl dX4_takeMediant_97 ?_
        refine z_put (ws' := [(h0, .inr (4, [.long (zl (bu + au)), .long (zl (bl + al)), .long (zl au), .long (zl al), .int (zi r)])), (h1, .inr (8, [.int (zi p), .int (zi d), .int (zi q)]))]) E f_X4_13 t_X4_1 0 rfl rfl rfl (Nat.le_of_ble_eq_true rfl) rfl dX4_takeMediant_99 ?_
        exact fin _ _ _ (⟨_, _, _, _, _, by simp [med, medR, hc_33, hc_51, hc_71], rfl⟩) dX4_takeMediant_102
  · refine z_if_eq (tgt := 67) E (by omega) dX4_takeMediant_36 (by decide) (fun _ => ?_) (fun h => absurd h (by decide))
    have hmb := h1m
    refine z_aload_n E 3 rfl rfl dX4_takeMediant_67 ?_
    refine z_lload_n E 1 rfl rfl dX4_takeMediant_68 ?_
    refine z_lload E 0 rfl dX4_takeMediant_69 ?_
    unfold okF at hmb
    refine z_callVi (As := [.long (zl (bu + au)), .long (zl (bl + al))]) (rest := []) (wr := [(h0, .inr (4, [.long (zl bu), .long (zl bl), .long (zl au), .long (zl al), .int (zi r)]))]) E (c_X8_isPassedBy l D κ h1 p d q (bu + au) (bl + al) (by omega) (by omega) (by omega) (by omega) (by omega)) m_X4_36 ⟨Nat.le_of_ble_eq_true rfl, Nat.le_of_ble_eq_true rfl⟩ ⟨rfl, rfl⟩ [1] [0] rfl rfl rfl rfl (by decide) rfl rfl rfl rfl (Nat.le_of_ble_eq_true rfl) dX4_takeMediant_71 ⟨Nat.le_of_ble_eq_true rfl, Nat.le_of_ble_eq_true rfl⟩ (fun z71 w1 hq => ?_)
    obtain ⟨⟨rfl, hc_71⟩ | ⟨rfl, hc_71⟩, rfl⟩ := hq
    · refine z_if_eq (tgt := 91) E (by omega) dX4_takeMediant_74 (by decide) (fun h => absurd h (by decide)) (fun _ => ?_)
      refine z_aload_n E 2 rfl rfl dX4_takeMediant_77 ?_
      refine z_lload_n E 1 rfl rfl dX4_takeMediant_78 ?_
      refine z_put (ws' := [(h0, .inr (4, [.long (zl bu), .long (zl bl), .long (zl (bu + au)), .long (zl al), .int (zi r)])), (h1, .inr (8, [.int (zi p), .int (zi d), .int (zi q)]))]) E f_X4_16 t_X4_2 0 rfl rfl rfl (Nat.le_of_ble_eq_true rfl) rfl dX4_takeMediant_79 ?_
      refine z_aload_n E 2 rfl rfl dX4_takeMediant_82 ?_
      refine z_lload E 0 rfl dX4_takeMediant_83 ?_
      refine z_put (ws' := [(h0, .inr (4, [.long (zl bu), .long (zl bl), .long (zl (bu + au)), .long (zl (bl + al)), .int (zi r)])), (h1, .inr (8, [.int (zi p), .int (zi d), .int (zi q)]))]) E f_X4_19 t_X4_3 0 rfl rfl rfl (Nat.le_of_ble_eq_true rfl) rfl dX4_takeMediant_85 ?_
      refine z_goto (tgt := 102) E dX4_takeMediant_88 (by decide) ?_
      exact fin _ _ _ (⟨_, _, _, _, _, by simp [med, medR, hc_33, hc_71], rfl⟩) dX4_takeMediant_102
    · refine z_if_eq (tgt := 91) E (by omega) dX4_takeMediant_74 (by decide) (fun _ => ?_) (fun h => absurd h (by decide))
      refine z_aload_n E 2 rfl rfl dX4_takeMediant_91 ?_
      refine z_lload_n E 1 rfl rfl dX4_takeMediant_92 ?_
      refine z_put (ws' := [(h0, .inr (4, [.long (zl (bu + au)), .long (zl bl), .long (zl au), .long (zl al), .int (zi r)])), (h1, .inr (8, [.int (zi p), .int (zi d), .int (zi q)]))]) E f_X4_7 t_X4_0 0 rfl rfl rfl (Nat.le_of_ble_eq_true rfl) rfl dX4_takeMediant_93 ?_
      refine z_aload_n E 2 rfl rfl dX4_takeMediant_96 ?_
      refine z_lload E 0 rfl dX4_takeMediant_97 ?_
      refine z_put (ws' := [(h0, .inr (4, [.long (zl (bu + au)), .long (zl (bl + al)), .long (zl au), .long (zl al), .int (zi r)])), (h1, .inr (8, [.int (zi p), .int (zi d), .int (zi q)]))]) E f_X4_13 t_X4_1 0 rfl rfl rfl (Nat.le_of_ble_eq_true rfl) rfl dX4_takeMediant_99 ?_
      exact fin _ _ _ (⟨_, _, _, _, _, by simp [med, medR, hc_33, hc_71], rfl⟩) dX4_takeMediant_102
abbrev rm_X4_isAboveNearer : Room := { frames := 2, cells := 0, slots := 0, locals := 60 }
set_option maxRecDepth 100000 in
theorem c_X4_isAboveNearer (l : Launch) (D : va_G) (κ : Nat → ClassId) (h0 : Nat) (bu : Int) (bl : Int) (au : Int) (al : Int) (r : Int) (h1 : Nat) (p : Int) (d : Int) (q : Int) (h1b : okF bu bl) (h1a : okF au al) (hp : -99 ≤ p ∧ p ≤ 99) (hd : 2 ≤ d ∧ d ≤ 999) (hq : -99 ≤ q ∧ q ≤ 99) : ZI l yX4_isAboveNearer cX4_isAboveNearer 2 .boolean rm_X4_isAboveNearer D κ [.ref h0, .ref h1] [(h0, .inr (4, [.long (zl bu), .long (zl bl), .long (zl au), .long (zl al), .int (zi r)])), (h1, .inr (8, [.int (zi p), .int (zi d), .int (zi q)]))] (fun z w => ((1 = z ∧ (nrr p d q au al bu bl = true)) ∨ (0 = z ∧ ¬ (nrr p d q au al bu bl = true))) ∧ [(h0, .inr (4, [.long (zl bu), .long (zl bl), .long (zl au), .long (zl al), .int (zi r)])), (h1, .inr (8, [.int (zi p), .int (zi d), .int (zi q)]))] = w) := by
  refine ZI.enter (own := RX4) rfl pn_X4_isAboveNearer (Nat.le_of_ble_eq_true rfl) (fun X E fin => ?_)
  show Zg X [(h0, .inr (4, [.long (zl bu), .long (zl bl), .long (zl au), .long (zl al), .int (zi r)])), (h1, .inr (8, [.int (zi p), .int (zi d), .int (zi q)]))] 0 0 0 [(0, .ref h0), (1, .ref h1)] []
  refine z_aload_n E 1 rfl rfl dX4_isAboveNearer_0 ?_
  refine z_aload_n E 0 rfl rfl dX4_isAboveNearer_1 ?_
  refine z_get E f_X4_16 0 rfl rfl dX4_isAboveNearer_2 ?_
  refine z_aload_n E 0 rfl rfl dX4_isAboveNearer_5 ?_
  refine z_get E f_X4_19 0 rfl rfl dX4_isAboveNearer_6 ?_
  refine z_aload_n E 0 rfl rfl dX4_isAboveNearer_9 ?_
  refine z_get E f_X4_7 0 rfl rfl dX4_isAboveNearer_10 ?_
  refine z_aload_n E 0 rfl rfl dX4_isAboveNearer_13 ?_
  refine z_get E f_X4_13 0 rfl rfl dX4_isAboveNearer_14 ?_
  refine z_callVi (As := [.long (zl au), .long (zl al), .long (zl bu), .long (zl bl)]) (rest := []) (wr := [(h0, .inr (4, [.long (zl bu), .long (zl bl), .long (zl au), .long (zl al), .int (zi r)]))]) E (c_X8_isNearer l D κ h1 p d q au al bu bl (by omega) (by omega) (by omega) (h1a) (h1b)) m_X4_30 ⟨Nat.le_of_ble_eq_true rfl, Nat.le_of_ble_eq_true rfl⟩ ⟨rfl, rfl⟩ [1] [0] rfl rfl rfl rfl (by decide) rfl rfl rfl rfl (Nat.le_of_ble_eq_true rfl) dX4_isAboveNearer_17 ⟨Nat.le_of_ble_eq_true rfl, Nat.le_of_ble_eq_true rfl⟩ (fun z17 w1 hq => ?_)
  obtain ⟨⟨rfl, hc_17⟩ | ⟨rfl, hc_17⟩, rfl⟩ := hq
  · exact fin _ _ _ _ rfl (⟨Or.inl ⟨rfl, hc_17⟩, rfl⟩) dX4_isAboveNearer_20
  · exact fin _ _ _ _ rfl (⟨Or.inr ⟨rfl, hc_17⟩, rfl⟩) dX4_isAboveNearer_20
abbrev rm_X4_find : Room := { frames := 3, cells := 0, slots := 0, locals := 85 }
set_option maxRecDepth 100000 in
theorem c_X4_find (l : Launch) (D : va_G) (κ : Nat → ClassId) (h0 : Nat) (bu : Int) (bl : Int) (au : Int) (al : Int) (r : Int) (h1 : Nat) (p : Int) (d : Int) (q : Int) (wo : Int) (bd : Int) (hp : -99 ≤ p ∧ p ≤ 99) (hd : 2 ≤ d ∧ d ≤ 999) (hq : -99 ≤ q ∧ q ≤ 99) (hw : -141 ≤ wo ∧ wo ≤ 140) (hbd : 1 ≤ bd ∧ bd ≤ 200) : ZV l yX4_find cX4_find 5 rm_X4_find D κ [.ref h0, .ref h1, .int (zi wo), .int (zi bd)] [(h0, .inr (4, [.long (zl bu), .long (zl bl), .long (zl au), .long (zl al), .int (zi r)])), (h1, .inr (8, [.int (zi p), .int (zi d), .int (zi q)]))] (fun w => ∃ bu' : Int, ∃ bl' : Int, ∃ au' : Int, ∃ al' : Int, ∃ r' : Int, ∃ k : Int, (0 ≤ k ∧ medN p d q wo k.toNat = (bu', bl', au', al', r') ∧ bd < bl' + al' ∧ bl' ≤ bd ∧ al' ≤ bd) ∧ [(h0, .inr (4, [.long (zl bu'), .long (zl bl'), .long (zl au'), .long (zl al'), .int (zi r')])), (h1, .inr (8, [.int (zi p), .int (zi d), .int (zi q)]))] = w) := by
  refine ZV.enter (own := RX4) rfl pn_X4_find (Nat.le_of_ble_eq_true rfl) (fun X E fin => ?_)
  show Zg X [(h0, .inr (4, [.long (zl bu), .long (zl bl), .long (zl au), .long (zl al), .int (zi r)])), (h1, .inr (8, [.int (zi p), .int (zi d), .int (zi q)]))] 0 0 0 [(0, .ref h0), (1, .ref h1), (2, .int (zi wo)), (3, .int (zi bd))] []
  refine z_aload_n E 0 rfl rfl dX4_find_0 ?_
  refine z_iload_n E 2 rfl rfl dX4_find_1 ?_
  refine z_i2l E (by omega) dX4_find_2 ?_
  refine z_put (ws' := [(h0, .inr (4, [.long (zl wo), .long (zl bl), .long (zl au), .long (zl al), .int (zi r)])), (h1, .inr (8, [.int (zi p), .int (zi d), .int (zi q)]))]) E f_X4_7 t_X4_0 0 rfl rfl rfl (Nat.le_of_ble_eq_true rfl) rfl dX4_find_3 ?_
  refine z_aload_n E 0 rfl rfl dX4_find_6 ?_
  refine z_lconst1 E dX4_find_7 ?_
  refine z_put (ws' := [(h0, .inr (4, [.long (zl wo), .long (zl 1), .long (zl au), .long (zl al), .int (zi r)])), (h1, .inr (8, [.int (zi p), .int (zi d), .int (zi q)]))]) E f_X4_13 t_X4_1 0 rfl rfl rfl (Nat.le_of_ble_eq_true rfl) rfl dX4_find_8 ?_
  refine z_aload_n E 0 rfl rfl dX4_find_11 ?_
  refine z_iload_n E 2 rfl rfl dX4_find_12 ?_
  refine z_iconst E dX4_find_13 ?_
  refine z_iadd E dX4_find_14 ?_
  refine z_i2l E (by omega) dX4_find_15 ?_
  refine z_put (ws' := [(h0, .inr (4, [.long (zl wo), .long (zl 1), .long (zl (wo + 1)), .long (zl al), .int (zi r)])), (h1, .inr (8, [.int (zi p), .int (zi d), .int (zi q)]))]) E f_X4_16 t_X4_2 0 rfl rfl rfl (Nat.le_of_ble_eq_true rfl) rfl dX4_find_16 ?_
  refine z_aload_n E 0 rfl rfl dX4_find_19 ?_
  refine z_lconst1 E dX4_find_20 ?_
  refine z_put (ws' := [(h0, .inr (4, [.long (zl wo), .long (zl 1), .long (zl (wo + 1)), .long (zl 1), .int (zi r)])), (h1, .inr (8, [.int (zi p), .int (zi d), .int (zi q)]))]) E f_X4_19 t_X4_3 0 rfl rfl rfl (Nat.le_of_ble_eq_true rfl) rfl dX4_find_21 ?_
  refine z_aload_n E 0 rfl rfl dX4_find_24 ?_
  refine z_iconst E dX4_find_25 ?_
  refine z_put (ws' := [(h0, .inr (4, [.long (zl wo), .long (zl 1), .long (zl (wo + 1)), .long (zl 1), .int (zi 1)])), (h1, .inr (8, [.int (zi p), .int (zi d), .int (zi q)]))]) E f_X4_22 t_X4_4 0 rfl rfl rfl (Nat.le_of_ble_eq_true rfl) rfl dX4_find_26 ?_
  refine z_iconst E dX4_find_29 ?_
  refine z_istore (lv' := [(4, .int (zi 0)), (0, .ref h0), (1, .ref h1), (2, .int (zi wo)), (3, .int (zi bd))]) E dX4_find_30 (Nat.le_of_ble_eq_true rfl) rfl ?_
  have lp_32 : ∀ (n_32 : Nat) (i : Int) (a : Int) (b : Int) (c : Int) (e : Int) (g : Int), (0 ≤ i) → (medN p d q wo i.toNat = (a, b, c, e, g)) → (b ≤ bd ∧ e ≤ bd) → (400 - i) < (n_32 : Int) → Zg X [(h0, .inr (4, [.long (zl a), .long (zl b), .long (zl c), .long (zl e), .int (zi g)])), (h1, .inr (8, [.int (zi p), .int (zi d), .int (zi q)]))] 0 0 32 [(0, .ref h0), (1, .ref h1), (2, .int (zi wo)), (3, .int (zi bd)), (4, .int (zi i))] [] := by
    intro n_32
    induction n_32 with
    | zero =>
      intro i a b c e g i1 i2 i3 hmu
      exact absurd hmu (by have := medN_get i1 i2; omega)
    | succ n_32 ih_32 =>
      intro i a b c e g i1 i2 i3 hmu_32
      have hg := medN_get i1 i2
      refine z_iload E 4 rfl dX4_find_32 ?_
      refine z_iload_n E 3 rfl rfl dX4_find_34 ?_
      refine z_ic_ge (tgt := 64) E (by omega) (by omega) dX4_find_35 (by decide) (fun h_35 => ?_) (fun h_35 => ?_)
      · exact fin _ _ _ (⟨_, _, _, _, _, i, ⟨i1, i2, by omega, i3⟩, rfl⟩) dX4_find_64
      · refine z_aload_n E 0 rfl rfl dX4_find_38 ?_
        refine z_get E f_X4_13 0 rfl rfl dX4_find_39 ?_
        refine z_aload_n E 0 rfl rfl dX4_find_42 ?_
        refine z_get E f_X4_19 0 rfl rfl dX4_find_43 ?_
        refine z_ladd E dX4_find_46 ?_
        refine z_iload_n E 3 rfl rfl dX4_find_47 ?_
        refine z_i2l E (by omega) dX4_find_48 ?_
        refine z_lc_gt (tgt := 64) E (by omega) (by omega) dX4_find_49 dX4_find_50 (by decide) (fun h_49 => ?_) (fun h_49 => ?_)
        · exact fin _ _ _ (⟨_, _, _, _, _, i, ⟨i1, i2, by omega, i3⟩, rfl⟩) dX4_find_64
        · refine z_aload_n E 0 rfl rfl dX4_find_53 ?_
          refine z_aload_n E 1 rfl rfl dX4_find_54 ?_
          refine z_callVv (As := [.ref h1]) (rest := []) (wr := []) E (c_X4_takeMediant l D κ h0 a b c e g h1 p d q (okF_nb (by omega) hg.1 (by omega) hg.2.2.2.1) (okF_nb (by omega) hg.2.1 (by omega) hg.2.2.2.2) (okF_med (by omega) hg.1 hg.2.1 (by omega) hg.2.2.2.1 hg.2.2.2.2) (by omega) (by omega) (by omega)) m_X4_26 ⟨Nat.le_of_ble_eq_true rfl, Nat.le_of_ble_eq_true rfl⟩ ⟨rfl, rfl⟩ [0, 1] [] rfl rfl rfl rfl (by decide) rfl rfl rfl rfl (Nat.le_of_ble_eq_true rfl) dX4_find_55 ⟨Nat.le_of_ble_eq_true rfl, Nat.le_of_ble_eq_true rfl⟩ (fun  w1 hq => ?_)
          obtain ⟨bu'_1, bl'_2, au'_3, al'_4, r'_5, hm_55, rfl⟩ := hq
          refine z_iinc (lv' := [(4, .int (zi (i + 1))), (0, .ref h0), (1, .ref h1), (2, .int (zi wo)), (3, .int (zi bd))]) E 4 rfl dX4_find_58 (Nat.le_of_ble_eq_true rfl) rfl ?_
          refine z_goto (tgt := 32) E dX4_find_61 (by decide) ?_
          refine Zg.sub (lv' := [(0, .ref h0), (1, .ref h1), (2, .int (zi wo)), (3, .int (zi bd)), (4, .int (zi (i + 1)))]) [1, 2, 3, 4, 0] rfl ?_
          exact ih_32 (i + 1) bu'_1 bl'_2 au'_3 al'_4 r'_5 (by omega) (medN_s i1 i2 hm_55) (med_lo hm_55 i3 (by omega)) (by omega)
  refine Zg.sub (lv' := [(0, .ref h0), (1, .ref h1), (2, .int (zi wo)), (3, .int (zi bd)), (4, .int (zi 0))]) [1, 2, 3, 4, 0] rfl ?_
  exact lp_32 ((400 - 0 : Int).toNat + 1) 0 wo 1 (wo + 1) 1 1 (by omega) (rfl) (by omega) (by omega)
abbrev rm_X5_init : Room := { frames := 2, cells := 2, slots := 9, locals := 32 }
set_option maxRecDepth 100000 in
theorem c_X5_init (l : Launch) (D : va_G) (κ : Nat → ClassId) (h0 : Nat)  : ZV l yX5_init cX5_init 1 rm_X5_init D κ [.ref h0] [(h0, .inr (5, [.null, .null, .int (zi 0), .long (zl 0), .long (zl 0)]))] (fun w => ∃ hs : Nat, ∃ hch : Nat, [(h0, .inr (5, [.ref hs, .ref hch, .int (zi 0), .long (zl 0), .long (zl 0)])), (hs, .inr (7, [.long (zl 0), .long (zl 0), .long (zl 0), .long (zl 0)])), (hch, .inr (1, [.long (zl 0), .long (zl 0), .int (zi 0), .long (zl 0), .long (zl 0)]))] = w) := by
  refine ZV.enter0 (own := RX5) rfl pn_X5_init (Nat.le_of_ble_eq_true rfl) (fun X E hini fin => ?_)
  have hini := hini rfl
  show Zg X [(h0, .inr (5, [.null, .null, .int (zi 0), .long (zl 0), .long (zl 0)]))] 0 0 0 [(0, .ref h0)] []
  refine z_aload_n E 0 rfl rfl dX5_init_0 ?_
  refine z_objInit E m_X5_3 in_obj co_obj (Nat.le_of_ble_eq_true rfl) (Nat.le_of_ble_eq_true rfl) dX5_init_1 ?_
  refine z_aload_n E 0 rfl rfl dX5_init_4 ?_
  refine z_new E n_X5_9 (Nat.le_of_ble_eq_true rfl) (Nat.le_of_ble_eq_true rfl) dX5_init_5 (fun q1 => ?_)
  show Zg X [(h0, .inr (5, [.null, .null, .int (zi 0), .long (zl 0), .long (zl 0)])), (q1, .inr (7, [.long (zl 0), .long (zl 0), .long (zl 0), .long (zl 0)]))] 1 4 8 [(0, .ref h0)] [.ref q1, .ref h0]
  refine z_dup E rfl dX5_init_8 ?_
  refine z_callNv (k' := 1) (n' := 4) (As := []) (rest := [.ref q1, .ref h0]) (wr := [(h0, .inr (5, [.null, .null, .int (zi 0), .long (zl 0), .long (zl 0)]))]) E (c_X7_init l D κ q1 ) m_X5_11 ⟨Nat.le_of_ble_eq_true rfl, Nat.le_of_ble_eq_true rfl⟩ [1] [0] rfl rfl rfl rfl (by decide) rfl rfl (Nat.le_of_ble_eq_true rfl) dX5_init_9 ⟨Nat.le_of_ble_eq_true rfl, Nat.le_of_ble_eq_true rfl⟩ rfl rfl (fun  w1 hq => ?_)
  obtain rfl := hq
  refine z_putF (ws' := [(h0, .inr (5, [.ref q1, .null, .int (zi 0), .long (zl 0), .long (zl 0)])), (q1, .inr (7, [.long (zl 0), .long (zl 0), .long (zl 0), .long (zl 0)]))]) E hini f_X5_12 t_X5_0 (fun q h => by cases h; rfl) 0 rfl rfl rfl (Nat.le_of_ble_eq_true rfl) rfl dX5_init_12 ?_
  refine z_aload_n E 0 rfl rfl dX5_init_15 ?_
  refine z_new E n_X5_18 (Nat.le_of_ble_eq_true rfl) (Nat.le_of_ble_eq_true rfl) dX5_init_16 (fun q2 => ?_)
  show Zg X [(h0, .inr (5, [.ref q1, .null, .int (zi 0), .long (zl 0), .long (zl 0)])), (q1, .inr (7, [.long (zl 0), .long (zl 0), .long (zl 0), .long (zl 0)])), (q2, .inr (1, [.long (zl 0), .long (zl 0), .int (zi 0), .long (zl 0), .long (zl 0)]))] 2 9 19 [(0, .ref h0)] [.ref q2, .ref h0]
  refine z_dup E rfl dX5_init_19 ?_
  refine z_callNv (k' := 2) (n' := 9) (As := []) (rest := [.ref q2, .ref h0]) (wr := [(h0, .inr (5, [.ref q1, .null, .int (zi 0), .long (zl 0), .long (zl 0)])), (q1, .inr (7, [.long (zl 0), .long (zl 0), .long (zl 0), .long (zl 0)]))]) E (c_X1_init l D κ q2 ) m_X5_20 ⟨Nat.le_of_ble_eq_true rfl, Nat.le_of_ble_eq_true rfl⟩ [2] [0, 1] rfl rfl rfl rfl (by decide) rfl rfl (Nat.le_of_ble_eq_true rfl) dX5_init_20 ⟨Nat.le_of_ble_eq_true rfl, Nat.le_of_ble_eq_true rfl⟩ rfl rfl (fun  w1 hq => ?_)
  obtain rfl := hq
  refine z_putF (ws' := [(h0, .inr (5, [.ref q1, .ref q2, .int (zi 0), .long (zl 0), .long (zl 0)])), (q1, .inr (7, [.long (zl 0), .long (zl 0), .long (zl 0), .long (zl 0)])), (q2, .inr (1, [.long (zl 0), .long (zl 0), .int (zi 0), .long (zl 0), .long (zl 0)]))]) E hini f_X5_21 t_X5_1 (fun q h => by cases h; rfl) 0 rfl rfl rfl (Nat.le_of_ble_eq_true rfl) rfl dX5_init_23 ?_
  exact fin _ _ _ (by first | exact ⟨_, _, rfl⟩ | omega) dX5_init_26
abbrev rm_X5_goToRootOf : Room := { frames := 0, cells := 0, slots := 0, locals := 0 }
set_option maxRecDepth 100000 in
theorem c_X5_goToRootOf (l : Launch) (D : va_G) (κ : Nat → ClassId) (h0 : Nat) (hs : Nat) (hch : Nat) (m : Int) (x : Int) (y : Int) (v : Int) (hx : 0 ≤ x ∧ x ≤ 1000000) (hv : -1000000000000 < v ∧ v < 1000000000000) : ZV l yX5_goToRootOf cX5_goToRootOf 3 rm_X5_goToRootOf D κ [.ref h0, .long (zl v)] [(h0, .inr (5, [.ref hs, .ref hch, .int (zi m), .long (zl x), .long (zl y)]))] (fun w => ∃ x' : Int, (x' = rt v) ∧ [(h0, .inr (5, [.ref hs, .ref hch, .int (zi m), .long (zl x'), .long (zl y)]))] = w) := by
  refine ZV.enter (own := RX5) rfl pn_X5_goToRootOf (Nat.le_of_ble_eq_true rfl) (fun X E fin => ?_)
  show Zg X [(h0, .inr (5, [.ref hs, .ref hch, .int (zi m), .long (zl x), .long (zl y)]))] 0 0 0 [(0, .ref h0), (1, .long (zl v))] []
  have lp_0 : ∀ (n_0 : Nat) (a : Int), (0 ≤ a ∧ a ≤ 1000000) → (a) < (n_0 : Int) → Zg X [(h0, .inr (5, [.ref hs, .ref hch, .int (zi m), .long (zl a), .long (zl y)]))] 0 0 0 [(0, .ref h0), (1, .long (zl v))] [] := by
    intro n_0
    induction n_0 with
    | zero =>
      intro a i1 hmu
      exact absurd hmu (by omega)
    | succ n_0 ih_0 =>
      intro a i1 hmu_0
      have hq := sq_bd (a := a) (M := 1000000) (by omega)
      refine z_aload_n E 0 rfl rfl dX5_goToRootOf_0 ?_
      refine z_get E f_X5_37 0 rfl rfl dX5_goToRootOf_1 ?_
      refine z_lconst0 E dX5_goToRootOf_4 ?_
      refine z_lc_le (tgt := 36) E (by omega) (by omega) dX5_goToRootOf_5 dX5_goToRootOf_6 (by decide) (fun h_5 => ?_) (fun h_5 => ?_)
      · have lp_36 : ∀ (n_36 : Nat) (b : Int), (0 ≤ b ∧ b ≤ 1000000) → (b = 0 ∨ b * b ≤ v) → (1000001 - b) < (n_36 : Int) → Zg X [(h0, .inr (5, [.ref hs, .ref hch, .int (zi m), .long (zl b), .long (zl y)]))] 0 0 36 [(0, .ref h0), (1, .long (zl v))] [] := by
          intro n_36
          induction n_36 with
          | zero =>
            intro b j1 j2 hmu
            exact absurd hmu (by omega)
          | succ n_36 ih_36 =>
            intro b j1 j2 hmu_36
            have hq := sq_bd (a := b) (M := 1000000) (by omega)
            have hq2 := sq_bd (a := b + 1) (M := 1000001) (by omega)
            refine z_aload_n E 0 rfl rfl dX5_goToRootOf_36 ?_
            refine z_get E f_X5_37 0 rfl rfl dX5_goToRootOf_37 ?_
            refine z_ldc2 E k_X5_50 dX5_goToRootOf_40 ?_
            refine z_lc_ge (tgt := 78) E (by omega) (by omega) dX5_goToRootOf_43 dX5_goToRootOf_44 (by decide) (fun h_43 => ?_) (fun h_43 => ?_)
            · exact fin _ _ _ (⟨_, goTo_end j1 j2 (by omega) hv.2, rfl⟩) dX5_goToRootOf_78
            · refine z_aload_n E 0 rfl rfl dX5_goToRootOf_47 ?_
              refine z_get E f_X5_37 0 rfl rfl dX5_goToRootOf_48 ?_
              refine z_lconst1 E dX5_goToRootOf_51 ?_
              refine z_ladd E dX5_goToRootOf_52 ?_
              refine z_aload_n E 0 rfl rfl dX5_goToRootOf_53 ?_
              refine z_get E f_X5_37 0 rfl rfl dX5_goToRootOf_54 ?_
              refine z_lconst1 E dX5_goToRootOf_57 ?_
              refine z_ladd E dX5_goToRootOf_58 ?_
              refine z_lmul E dX5_goToRootOf_59 ?_
              refine z_lload_n E 1 rfl rfl dX5_goToRootOf_60 ?_
              refine z_lc_gt (tgt := 78) E (by omega) (by omega) dX5_goToRootOf_61 dX5_goToRootOf_62 (by decide) (fun h_61 => ?_) (fun h_61 => ?_)
              · exact fin _ _ _ (⟨_, goTo_end j1 j2 (by omega) hv.2, rfl⟩) dX5_goToRootOf_78
              · refine z_aload_n E 0 rfl rfl dX5_goToRootOf_65 ?_
                refine z_dup E rfl dX5_goToRootOf_66 ?_
                refine z_get E f_X5_37 0 rfl rfl dX5_goToRootOf_67 ?_
                refine z_lconst1 E dX5_goToRootOf_70 ?_
                refine z_ladd E dX5_goToRootOf_71 ?_
                refine z_put (ws' := [(h0, .inr (5, [.ref hs, .ref hch, .int (zi m), .long (zl (b + 1)), .long (zl y)]))]) E f_X5_37 t_X5_3 0 rfl rfl rfl (Nat.le_of_ble_eq_true rfl) rfl dX5_goToRootOf_72 ?_
                refine z_goto (tgt := 36) E dX5_goToRootOf_75 (by decide) ?_
                exact ih_36 (b + 1) (by omega) (by omega) (by omega)
        exact lp_36 ((1000001 - a : Int).toNat + 1) a (by omega) (by omega) (by omega)
      · refine z_aload_n E 0 rfl rfl dX5_goToRootOf_9 ?_
        refine z_get E f_X5_37 0 rfl rfl dX5_goToRootOf_10 ?_
        refine z_aload_n E 0 rfl rfl dX5_goToRootOf_13 ?_
        refine z_get E f_X5_37 0 rfl rfl dX5_goToRootOf_14 ?_
        refine z_lmul E dX5_goToRootOf_17 ?_
        refine z_lload_n E 1 rfl rfl dX5_goToRootOf_18 ?_
        refine z_lc_le (tgt := 36) E (by omega) (by omega) dX5_goToRootOf_19 dX5_goToRootOf_20 (by decide) (fun h_19 => ?_) (fun h_19 => ?_)
        · have lp_36 : ∀ (n_36 : Nat) (b : Int), (0 ≤ b ∧ b ≤ 1000000) → (b = 0 ∨ b * b ≤ v) → (1000001 - b) < (n_36 : Int) → Zg X [(h0, .inr (5, [.ref hs, .ref hch, .int (zi m), .long (zl b), .long (zl y)]))] 0 0 36 [(0, .ref h0), (1, .long (zl v))] [] := by
            intro n_36
            induction n_36 with
            | zero =>
              intro b j1 j2 hmu
              exact absurd hmu (by omega)
            | succ n_36 ih_36 =>
              intro b j1 j2 hmu_36
              have hq := sq_bd (a := b) (M := 1000000) (by omega)
              have hq2 := sq_bd (a := b + 1) (M := 1000001) (by omega)
              refine z_aload_n E 0 rfl rfl dX5_goToRootOf_36 ?_
              refine z_get E f_X5_37 0 rfl rfl dX5_goToRootOf_37 ?_
              refine z_ldc2 E k_X5_50 dX5_goToRootOf_40 ?_
              refine z_lc_ge (tgt := 78) E (by omega) (by omega) dX5_goToRootOf_43 dX5_goToRootOf_44 (by decide) (fun h_43 => ?_) (fun h_43 => ?_)
              · exact fin _ _ _ (⟨_, goTo_end j1 j2 (by omega) hv.2, rfl⟩) dX5_goToRootOf_78
              · refine z_aload_n E 0 rfl rfl dX5_goToRootOf_47 ?_
                refine z_get E f_X5_37 0 rfl rfl dX5_goToRootOf_48 ?_
                refine z_lconst1 E dX5_goToRootOf_51 ?_
                refine z_ladd E dX5_goToRootOf_52 ?_
                refine z_aload_n E 0 rfl rfl dX5_goToRootOf_53 ?_
                refine z_get E f_X5_37 0 rfl rfl dX5_goToRootOf_54 ?_
                refine z_lconst1 E dX5_goToRootOf_57 ?_
                refine z_ladd E dX5_goToRootOf_58 ?_
                refine z_lmul E dX5_goToRootOf_59 ?_
                refine z_lload_n E 1 rfl rfl dX5_goToRootOf_60 ?_
                refine z_lc_gt (tgt := 78) E (by omega) (by omega) dX5_goToRootOf_61 dX5_goToRootOf_62 (by decide) (fun h_61 => ?_) (fun h_61 => ?_)
                · exact fin _ _ _ (⟨_, goTo_end j1 j2 (by omega) hv.2, rfl⟩) dX5_goToRootOf_78
                · refine z_aload_n E 0 rfl rfl dX5_goToRootOf_65 ?_
                  refine z_dup E rfl dX5_goToRootOf_66 ?_
                  refine z_get E f_X5_37 0 rfl rfl dX5_goToRootOf_67 ?_
                  refine z_lconst1 E dX5_goToRootOf_70 ?_
                  refine z_ladd E dX5_goToRootOf_71 ?_
                  refine z_put (ws' := [(h0, .inr (5, [.ref hs, .ref hch, .int (zi m), .long (zl (b + 1)), .long (zl y)]))]) E f_X5_37 t_X5_3 0 rfl rfl rfl (Nat.le_of_ble_eq_true rfl) rfl dX5_goToRootOf_72 ?_
                  refine z_goto (tgt := 36) E dX5_goToRootOf_75 (by decide) ?_
                  exact ih_36 (b + 1) (by omega) (by omega) (by omega)
          exact lp_36 ((1000001 - a : Int).toNat + 1) a (by omega) (by omega) (by omega)
        · refine z_aload_n E 0 rfl rfl dX5_goToRootOf_23 ?_
          refine z_dup E rfl dX5_goToRootOf_24 ?_
          refine z_get E f_X5_37 0 rfl rfl dX5_goToRootOf_25 ?_
          refine z_lconst1 E dX5_goToRootOf_28 ?_
          refine z_lsub E dX5_goToRootOf_29 ?_
          refine z_put (ws' := [(h0, .inr (5, [.ref hs, .ref hch, .int (zi m), .long (zl (a - 1)), .long (zl y)]))]) E f_X5_37 t_X5_3 0 rfl rfl rfl (Nat.le_of_ble_eq_true rfl) rfl dX5_goToRootOf_30 ?_
          refine z_goto (tgt := 0) E dX5_goToRootOf_33 (by decide) ?_
          exact ih_0 (a - 1) (by omega) (by omega)
  exact lp_0 ((x : Int).toNat + 1) x (by omega) (by omega)
abbrev rm_X5_find : Room := { frames := 1, cells := 0, slots := 0, locals := 25 }
set_option maxRecDepth 100000 in
theorem c_X5_find (l : Launch) (D : va_G) (κ : Nat → ClassId) (h0 : Nat) (hs : Nat) (hch : Nat) (m : Int) (x : Int) (y : Int) (d : Int) (n : Int) (ix : Int) (hd : 2 ≤ d ∧ d ≤ 999) (hn : -60 ≤ n ∧ n ≤ 60) (hix : -2147483648 ≤ ix ∧ ix ≤ 2147483647) : ZI l yX5_find cX5_find 8 .boolean rm_X5_find D κ [.ref h0, .int (zi d), .int (zi n), .int (zi ix)] [(h0, .inr (5, [.ref hs, .ref hch, .int (zi m), .long (zl x), .long (zl y)]))] (fun z w => ∃ m' : Int, ∃ x' : Int, ∃ y' : Int, ((1 = z ∧ (FS d n ix)) ∨ (0 = z ∧ ¬ (FS d n ix))) ∧ ((FS d n ix → 0 ≤ y' ∧ y' ≤ 5000 ∧ isSq d n y' = true ∧ cntS d n y'.toNat = ix ∧ x' = rt (((d * y') * y') + n)) ∧ (¬ FS d n ix → m' = cntS d n 5001)) ∧ [(h0, .inr (5, [.ref hs, .ref hch, .int (zi m'), .long (zl x'), .long (zl y')]))] = w) := by
  refine ZI.enter (own := RX5) rfl pn_X5_find (Nat.le_of_ble_eq_true rfl) (fun X E fin => ?_)
  show Zg X [(h0, .inr (5, [.ref hs, .ref hch, .int (zi m), .long (zl x), .long (zl y)]))] 0 0 0 [(0, .ref h0), (1, .int (zi d)), (2, .int (zi n)), (3, .int (zi ix))] []
  refine z_iload_n E 1 rfl rfl dX5_find_0 ?_
  refine z_i2l E (by omega) dX5_find_1 ?_
  have hr0 := rt_nonneg d
  have hr1 := rt_le (x := d) (r := 31) (by omega) (by omega) (by omega)
  refine z_callSl (As := [.long (zl d)]) (rest := []) (wr := [(h0, .inr (5, [.ref hs, .ref hch, .int (zi m), .long (zl x), .long (zl y)]))]) E (c_X7_rootOf l D κ d (by omega)) m_X5_33 ⟨Nat.le_of_ble_eq_true rfl, Nat.le_of_ble_eq_true rfl⟩ ⟨rfl, rfl⟩ [] [0] rfl rfl rfl rfl (by decide) rfl rfl (Nat.le_of_ble_eq_true rfl) dX5_find_2 ⟨Nat.le_of_ble_eq_true rfl, Nat.le_of_ble_eq_true rfl⟩ (fun z2 w1 hq => ?_)
  obtain ⟨rfl, rfl⟩ := hq
  refine z_lstore (lv' := [(4, .long (zl (rt d))), (0, .ref h0), (1, .int (zi d)), (2, .int (zi n)), (3, .int (zi ix))]) E dX5_find_5 (Nat.le_of_ble_eq_true rfl) rfl ?_
  refine z_aload_n E 1 rfl rfl dX5_find_7 ?_
  refine z_iconst E dX5_find_8 ?_
  refine z_put (ws' := [(h0, .inr (5, [.ref hs, .ref hch, .int (zi 0), .long (zl x), .long (zl y)]))]) E f_X5_29 t_X5_2 0 rfl rfl rfl (Nat.le_of_ble_eq_true rfl) rfl dX5_find_9 ?_
  refine z_aload_n E 1 rfl rfl dX5_find_12 ?_
  refine z_lconst0 E dX5_find_13 ?_
  refine z_put (ws' := [(h0, .inr (5, [.ref hs, .ref hch, .int (zi 0), .long (zl 0), .long (zl y)]))]) E f_X5_37 t_X5_3 0 rfl rfl rfl (Nat.le_of_ble_eq_true rfl) rfl dX5_find_14 ?_
  refine z_aload_n E 1 rfl rfl dX5_find_17 ?_
  refine z_lconst0 E dX5_find_18 ?_
  refine z_put (ws' := [(h0, .inr (5, [.ref hs, .ref hch, .int (zi 0), .long (zl 0), .long (zl 0)]))]) E f_X5_41 t_X5_4 0 rfl rfl rfl (Nat.le_of_ble_eq_true rfl) rfl dX5_find_19 ?_
  have lp_22 : ∀ (n_22 : Nat) (a : Int) (b : Int) (c : Int), (0 ≤ c ∧ c ≤ 5001) → (0 ≤ b ∧ b ≤ 200000) → (a = cntS d n c.toNat) → (∀ k : Int, 0 ≤ k → k < c → isSq d n k = true → cntS d n k.toNat ≠ ix) → (0 ≤ a ∧ a ≤ c) → (5001 - c) < (n_22 : Int) → Zg X [(h0, .inr (5, [.ref hs, .ref hch, .int (zi a), .long (zl b), .long (zl c)]))] 0 0 22 [(0, .ref h0), (1, .int (zi d)), (2, .int (zi n)), (3, .int (zi ix)), (4, .long (zl (rt d)))] [] := by
    intro n_22
    induction n_22 with
    | zero =>
      intro a b c i1 i2 i3 i4 i5 hmu
      exact absurd hmu (by omega)
    | succ n_22 ih_22 =>
      intro a b c i1 i2 i3 i4 i5 hmu_22
      refine z_aload_n E 0 rfl rfl dX5_find_22 ?_
      refine z_get E f_X5_41 0 rfl rfl dX5_find_23 ?_
      refine z_ldc2 E k_X5_44 dX5_find_26 ?_
      refine z_lc_gt (tgt := 115) E (by omega) (by omega) dX5_find_29 dX5_find_30 (by decide) (fun h_29 => ?_) (fun h_29 => ?_)
      · have hno : ¬ FS d n ix := fun ⟨k, k1, k2, k3, k4⟩ => i4 k k1 (by omega) k3 k4
        refine z_iconst E dX5_find_115 ?_
        exact fin _ _ _ _ rfl (⟨_, _, _, Or.inr ⟨rfl, hno⟩, ⟨fun z => absurd z hno, fun _ => by rw [i3, show c = 5001 by omega]; rfl⟩, rfl⟩) dX5_find_116
      · have hy := dyy_bd hd hn i1
        refine z_iload_n E 1 rfl rfl dX5_find_33 ?_
        refine z_i2l E (by omega) dX5_find_34 ?_
        refine z_aload_n E 0 rfl rfl dX5_find_35 ?_
        refine z_get E f_X5_41 0 rfl rfl dX5_find_36 ?_
        refine z_lmul E dX5_find_39 ?_
        refine z_aload_n E 0 rfl rfl dX5_find_40 ?_
        refine z_get E f_X5_41 0 rfl rfl dX5_find_41 ?_
        refine z_lmul E dX5_find_44 ?_
        refine z_iload_n E 2 rfl rfl dX5_find_45 ?_
        refine z_i2l E (by omega) dX5_find_46 ?_
        refine z_ladd E dX5_find_47 ?_
        refine z_lstore (lv' := [(6, .long (zl (((d * c) * c) + n))), (0, .ref h0), (1, .int (zi d)), (2, .int (zi n)), (3, .int (zi ix)), (4, .long (zl (rt d)))]) E dX5_find_48 (Nat.le_of_ble_eq_true rfl) rfl ?_
        refine z_aload_n E 1 rfl rfl dX5_find_50 ?_
        refine z_lload E 0 rfl dX5_find_51 ?_
        refine z_callVv (As := [.long (zl (((d * c) * c) + n))]) (rest := []) (wr := []) E (c_X5_goToRootOf l D κ h0 hs hch a b c (((d * c) * c) + n) (by omega) (by omega)) m_X5_46 ⟨Nat.le_of_ble_eq_true rfl, Nat.le_of_ble_eq_true rfl⟩ ⟨rfl, rfl⟩ [0] [] rfl rfl rfl rfl (by decide) rfl rfl rfl rfl (Nat.le_of_ble_eq_true rfl) dX5_find_53 ⟨Nat.le_of_ble_eq_true rfl, Nat.le_of_ble_eq_true rfl⟩ (fun  w1 hq => ?_)
        obtain ⟨x'_1, he_53, rfl⟩ := hq
        have hxx := sq_bd (a := x'_1) (M := 158100) (by rw [he_53]; omega)
        refine z_aload_n E 1 rfl rfl dX5_find_56 ?_
        refine z_get E f_X5_37 0 rfl rfl dX5_find_57 ?_
        refine z_aload_n E 1 rfl rfl dX5_find_60 ?_
        refine z_get E f_X5_37 0 rfl rfl dX5_find_61 ?_
        refine z_lmul E dX5_find_64 ?_
        refine z_lload E 0 rfl dX5_find_65 ?_
        refine z_lc_ne (tgt := 91) E (by omega) (by omega) dX5_find_67 dX5_find_68 (by decide) (fun h_67 => ?_) (fun h_67 => ?_)
        · have hsq : ¬ isSq d n c = true := fun z => absurd ((isSq_iff he_53).mp z) (by omega)
          refine z_aload_n E 1 rfl rfl dX5_find_91 ?_
          refine z_dup E rfl dX5_find_92 ?_
          refine z_get E f_X5_37 0 rfl rfl dX5_find_93 ?_
          refine z_lload E 5 rfl dX5_find_96 ?_
          refine z_ladd E dX5_find_98 ?_
          refine z_put (ws' := [(h0, .inr (5, [.ref hs, .ref hch, .int (zi a), .long (zl (x'_1 + (rt d))), .long (zl c)]))]) E f_X5_37 t_X5_3 0 rfl rfl rfl (Nat.le_of_ble_eq_true rfl) rfl dX5_find_99 ?_
          refine z_aload_n E 1 rfl rfl dX5_find_102 ?_
          refine z_dup E rfl dX5_find_103 ?_
          refine z_get E f_X5_41 0 rfl rfl dX5_find_104 ?_
          refine z_lconst1 E dX5_find_107 ?_
          refine z_ladd E dX5_find_108 ?_
          refine z_put (ws' := [(h0, .inr (5, [.ref hs, .ref hch, .int (zi a), .long (zl (x'_1 + (rt d))), .long (zl (c + 1))]))]) E f_X5_41 t_X5_4 0 rfl rfl rfl (Nat.le_of_ble_eq_true rfl) rfl dX5_find_109 ?_
          refine z_goto (tgt := 22) E dX5_find_112 (by decide) ?_
          refine Zg.sub (lv' := [(0, .ref h0), (1, .int (zi d)), (2, .int (zi n)), (3, .int (zi ix)), (4, .long (zl (rt d)))]) [1, 2, 3, 4, 5] rfl ?_
          exact ih_22 a (x'_1 + (rt d)) (c + 1) (by omega) (by omega) (cntS_f i1.1 i3 hsq) (lt_si i4 (fun z => absurd z hsq)) (by omega) (by omega)
        · have hsq : isSq d n c = true := (isSq_iff he_53).mpr (by omega)
          refine z_aload_n E 1 rfl rfl dX5_find_71 ?_
          refine z_get E f_X5_29 0 rfl rfl dX5_find_72 ?_
          refine z_iload_n E 4 rfl rfl dX5_find_75 ?_
          refine z_ic_ne (tgt := 81) E (by omega) (by omega) dX5_find_76 (by decide) (fun h_76 => ?_) (fun h_76 => ?_)
          · refine z_aload_n E 1 rfl rfl dX5_find_81 ?_
            refine z_dup E rfl dX5_find_82 ?_
            refine z_get E f_X5_29 0 rfl rfl dX5_find_83 ?_
            refine z_iconst E dX5_find_86 ?_
            refine z_iadd E dX5_find_87 ?_
            refine z_put (ws' := [(h0, .inr (5, [.ref hs, .ref hch, .int (zi (a + 1)), .long (zl x'_1), .long (zl c)]))]) E f_X5_29 t_X5_2 0 rfl rfl rfl (Nat.le_of_ble_eq_true rfl) rfl dX5_find_88 ?_
            refine z_aload_n E 1 rfl rfl dX5_find_91 ?_
            refine z_dup E rfl dX5_find_92 ?_
            refine z_get E f_X5_37 0 rfl rfl dX5_find_93 ?_
            refine z_lload E 5 rfl dX5_find_96 ?_
            refine z_ladd E dX5_find_98 ?_
            refine z_put (ws' := [(h0, .inr (5, [.ref hs, .ref hch, .int (zi (a + 1)), .long (zl (x'_1 + (rt d))), .long (zl c)]))]) E f_X5_37 t_X5_3 0 rfl rfl rfl (Nat.le_of_ble_eq_true rfl) rfl dX5_find_99 ?_
            refine z_aload_n E 1 rfl rfl dX5_find_102 ?_
            refine z_dup E rfl dX5_find_103 ?_
            refine z_get E f_X5_41 0 rfl rfl dX5_find_104 ?_
            refine z_lconst1 E dX5_find_107 ?_
            refine z_ladd E dX5_find_108 ?_
            refine z_put (ws' := [(h0, .inr (5, [.ref hs, .ref hch, .int (zi (a + 1)), .long (zl (x'_1 + (rt d))), .long (zl (c + 1))]))]) E f_X5_41 t_X5_4 0 rfl rfl rfl (Nat.le_of_ble_eq_true rfl) rfl dX5_find_109 ?_
            refine z_goto (tgt := 22) E dX5_find_112 (by decide) ?_
            refine Zg.sub (lv' := [(0, .ref h0), (1, .int (zi d)), (2, .int (zi n)), (3, .int (zi ix)), (4, .long (zl (rt d)))]) [1, 2, 3, 4, 5] rfl ?_
            exact ih_22 (a + 1) (x'_1 + (rt d)) (c + 1) (by omega) (by omega) (cntS_t i1.1 i3 hsq) (lt_si i4 (fun _ => by omega)) (by omega) (by omega)
          · refine z_iconst E dX5_find_79 ?_
            exact fin _ _ _ _ rfl (⟨_, _, _, Or.inl ⟨rfl, ⟨c, i1.1, by omega, hsq, by omega⟩⟩, ⟨fun _ => ⟨i1.1, by omega, hsq, by omega, he_53⟩, fun z => absurd ⟨c, i1.1, by omega, hsq, by omega⟩ z⟩, rfl⟩) dX5_find_80
  refine Zg.sub (lv' := [(0, .ref h0), (1, .int (zi d)), (2, .int (zi n)), (3, .int (zi ix)), (4, .long (zl (rt d)))]) [1, 2, 3, 4, 0] rfl ?_
  exact lp_22 ((5001 - 0 : Int).toNat + 1) 0 0 0 (by omega) (by omega) (rfl) (fun k h1 h2 => absurd h2 (by omega)) (by omega) (by omega)
abbrev rm_X5_countAll : Room := { frames := 2, cells := 0, slots := 0, locals := 52 }
set_option maxRecDepth 100000 in
theorem c_X5_countAll (l : Launch) (D : va_G) (κ : Nat → ClassId) (h0 : Nat) (hs : Nat) (hch : Nat) (m : Int) (x : Int) (y : Int) (d : Int) (n : Int) (hd : 2 ≤ d ∧ d ≤ 999) (hn : -60 ≤ n ∧ n ≤ 60) : ZI l yX5_countAll cX5_countAll 3 .int rm_X5_countAll D κ [.ref h0, .int (zi d), .int (zi n)] [(h0, .inr (5, [.ref hs, .ref hch, .int (zi m), .long (zl x), .long (zl y)]))] (fun z w => ∃ m' : Int, ∃ x' : Int, ∃ y' : Int, (m' = cntS d n 5001) ∧ m' = z ∧ [(h0, .inr (5, [.ref hs, .ref hch, .int (zi m'), .long (zl x'), .long (zl y')]))] = w) := by
  refine ZI.enter (own := RX5) rfl pn_X5_countAll (Nat.le_of_ble_eq_true rfl) (fun X E fin => ?_)
  show Zg X [(h0, .inr (5, [.ref hs, .ref hch, .int (zi m), .long (zl x), .long (zl y)]))] 0 0 0 [(0, .ref h0), (1, .int (zi d)), (2, .int (zi n))] []
  refine z_aload_n E 0 rfl rfl dX5_countAll_0 ?_
  refine z_iload_n E 1 rfl rfl dX5_countAll_1 ?_
  refine z_iload_n E 2 rfl rfl dX5_countAll_2 ?_
  refine z_iconst E dX5_countAll_3 ?_
  refine z_callVi (As := [.int (zi d), .int (zi n), .int (zi (-1))]) (rest := []) (wr := []) E (c_X5_find l D κ h0 hs hch m x y d n (-1) (by omega) (by omega) (by omega)) m_X5_25 ⟨Nat.le_of_ble_eq_true rfl, Nat.le_of_ble_eq_true rfl⟩ ⟨rfl, rfl⟩ [0] [] rfl rfl rfl rfl (by decide) rfl rfl rfl rfl (Nat.le_of_ble_eq_true rfl) dX5_countAll_4 ⟨Nat.le_of_ble_eq_true rfl, Nat.le_of_ble_eq_true rfl⟩ (fun z4 w1 hq => ?_)
  obtain ⟨m'_1, x'_2, y'_3, ⟨rfl, hc_4⟩ | ⟨rfl, hc_4⟩, hf_4, rfl⟩ := hq
  · refine z_pop E rfl dX5_countAll_7 ?_
    refine z_aload_n E 0 rfl rfl dX5_countAll_8 ?_
    refine z_get E f_X5_29 0 rfl rfl dX5_countAll_9 ?_
    exact fin _ _ _ _ rfl (⟨_, _, _, by obtain ⟨k, -, -, -, k4⟩ := hc_4; have := cntS_nn d n k.toNat; omega, rfl, rfl⟩) dX5_countAll_12
  · refine z_pop E rfl dX5_countAll_7 ?_
    refine z_aload_n E 0 rfl rfl dX5_countAll_8 ?_
    refine z_get E f_X5_29 0 rfl rfl dX5_countAll_9 ?_
    exact fin _ _ _ _ rfl (⟨_, _, _, hf_4.2 hc_4, rfl, rfl⟩) dX5_countAll_12
abbrev rm_X5_findLeast : Room := { frames := 3, cells := 0, slots := 0, locals := 70 }
set_option maxRecDepth 100000 in
theorem c_X5_findLeast (l : Launch) (D : va_G) (κ : Nat → ClassId) (h0 : Nat) (hs : Nat) (hch : Nat) (m : Int) (x : Int) (y : Int) (t : Int) (b : Int) (s : Int) (r : Int) (u : Int) (v : Int) (o : Int) (ua : Int) (va : Int) (d : Int) (hv : vS 0 d 1) : ZI l yX5_findLeast cX5_findLeast 3 .boolean rm_X5_findLeast D κ [.ref h0, .int (zi d)] [(h0, .inr (5, [.ref hs, .ref hch, .int (zi m), .long (zl x), .long (zl y)])), (hs, .inr (7, [.long (zl t), .long (zl b), .long (zl s), .long (zl r)])), (hch, .inr (1, [.long (zl u), .long (zl v), .int (zi o), .long (zl ua), .long (zl va)]))] (fun z w => ∃ x' : Int, ∃ y' : Int, ∃ t' : Int, ∃ b' : Int, ∃ s' : Int, ∃ r' : Int, ∃ u' : Int, ∃ v' : Int, ∃ o' : Int, ∃ ua' : Int, ∃ va' : Int, ((1 = z ∧ (LSq d)) ∨ (0 = z ∧ ¬ (LSq d))) ∧ (LSq d → ∃ j : Int, 1 ≤ j ∧ j ≤ 1000 ∧ lsAt d j ∧ x' = (chRun (tm 0 d 1) j.toNat).1 ∧ y' = (chRun (tm 0 d 1) j.toNat).2.1) ∧ [(h0, .inr (5, [.ref hs, .ref hch, .int (zi m), .long (zl x'), .long (zl y')])), (hs, .inr (7, [.long (zl t'), .long (zl b'), .long (zl s'), .long (zl r')])), (hch, .inr (1, [.long (zl u'), .long (zl v'), .int (zi o'), .long (zl ua'), .long (zl va')]))] = w) := by
  refine ZI.enter (own := RX5) rfl pn_X5_findLeast (Nat.le_of_ble_eq_true rfl) (fun X E fin => ?_)
  show Zg X [(h0, .inr (5, [.ref hs, .ref hch, .int (zi m), .long (zl x), .long (zl y)])), (hs, .inr (7, [.long (zl t), .long (zl b), .long (zl s), .long (zl r)])), (hch, .inr (1, [.long (zl u), .long (zl v), .int (zi o), .long (zl ua), .long (zl va)]))] 0 0 0 [(0, .ref h0), (1, .int (zi d))] []
  have hd := hv.2.1
  have hz1 : zabs 1 = 1 := rfl
  refine z_aload_n E 0 rfl rfl dX5_findLeast_0 ?_
  refine z_get E f_X5_12 0 rfl rfl dX5_findLeast_1 ?_
  refine z_lconst0 E dX5_findLeast_4 ?_
  refine z_iload_n E 1 rfl rfl dX5_findLeast_5 ?_
  refine z_i2l E (by omega) dX5_findLeast_6 ?_
  refine z_lconst1 E dX5_findLeast_7 ?_
  have hz2 := vS_D hv
  unfold Dd at hz2
  refine z_callVv (As := [.long (zl 0), .long (zl d), .long (zl 1)]) (rest := []) (wr := [(h0, .inr (5, [.ref hs, .ref hch, .int (zi m), .long (zl x), .long (zl y)])), (hch, .inr (1, [.long (zl u), .long (zl v), .int (zi o), .long (zl ua), .long (zl va)]))]) E (c_X7_begin l D κ hs t b s r 0 d 1 (by omega) (by omega)) m_X5_52 ⟨Nat.le_of_ble_eq_true rfl, Nat.le_of_ble_eq_true rfl⟩ ⟨rfl, rfl⟩ [1] [0, 2] rfl rfl rfl rfl (by decide) rfl rfl rfl rfl (Nat.le_of_ble_eq_true rfl) dX5_findLeast_8 ⟨Nat.le_of_ble_eq_true rfl, Nat.le_of_ble_eq_true rfl⟩ (fun  w1 hq => ?_)
  obtain rfl := hq
  refine z_aload_n E 0 rfl rfl dX5_findLeast_11 ?_
  refine z_get E f_X5_21 0 rfl rfl dX5_findLeast_12 ?_
  refine z_callVv (As := []) (rest := []) (wr := [(h0, .inr (5, [.ref hs, .ref hch, .int (zi m), .long (zl x), .long (zl y)])), (hs, .inr (7, [.long (zl (0 * (zabs 1))), .long (zl (1 * (zabs 1))), .long (zl ((d * (zabs 1)) * (zabs 1))), .long (zl (rt ((d * (zabs 1)) * (zabs 1))))]))]) E (c_X1_begin l D κ hch u v o ua va ) m_X5_56 ⟨Nat.le_of_ble_eq_true rfl, Nat.le_of_ble_eq_true rfl⟩ ⟨rfl, rfl⟩ [1] [0, 2] rfl rfl rfl rfl (by decide) rfl rfl rfl rfl (Nat.le_of_ble_eq_true rfl) dX5_findLeast_15 ⟨Nat.le_of_ble_eq_true rfl, Nat.le_of_ble_eq_true rfl⟩ (fun  w1 hq => ?_)
  obtain rfl := hq
  refine z_iconst E dX5_findLeast_18 ?_
  refine z_istore_n (lv' := [(2, .int (zi 1)), (0, .ref h0), (1, .int (zi d))]) E dX5_findLeast_19 rfl (Nat.le_of_ble_eq_true rfl) rfl ?_
  have lp_20 : ∀ (n_20 : Nat) (i : Int) (t0 : Int) (b0 : Int) (u0 : Int) (v0 : Int) (o0 : Int) (ua0 : Int) (va0 : Int), (1 ≤ i ∧ i ≤ 1001) → (sS 0 d 1 (i - 1).toNat = (t0, b0)) → (chRun (tm 0 d 1) (i - 1).toNat = (u0, v0, o0, ua0, va0)) → (∀ j : Int, 1 ≤ j → j < i → ¬ ((sS 0 d 1 j.toNat).2 = 1 ∧ j % 2 = 0)) → (1001 - i) < (n_20 : Int) → Zg X [(h0, .inr (5, [.ref hs, .ref hch, .int (zi m), .long (zl x), .long (zl y)])), (hch, .inr (1, [.long (zl u0), .long (zl v0), .int (zi o0), .long (zl ua0), .long (zl va0)])), (hs, .inr (7, [.long (zl t0), .long (zl b0), .long (zl ((d * (zabs 1)) * (zabs 1))), .long (zl (rt ((d * (zabs 1)) * (zabs 1))))]))] 0 0 20 [(0, .ref h0), (1, .int (zi d)), (2, .int (zi i))] [] := by
    intro n_20
    induction n_20 with
    | zero =>
      intro i t0 b0 u0 v0 o0 ua0 va0 i1 i2 i3 i4 hmu
      exact absurd hmu (by omega)
    | succ n_20 ih_20 =>
      intro i t0 b0 u0 v0 o0 ua0 va0 i1 i2 i3 i4 hmu_20
      refine z_iload_n E 2 rfl rfl dX5_findLeast_20 ?_
      refine z_sipush E dX5_findLeast_21 (by decide) ?_
      refine z_ic_gt (tgt := 108) E (by omega) (by omega) dX5_findLeast_24 (by decide) (fun h_24 => ?_) (fun h_24 => ?_)
      · refine z_iconst E dX5_findLeast_108 ?_
        refine Zg.perm (ws' := [(h0, .inr (5, [.ref hs, .ref hch, .int (zi m), .long (zl x), .long (zl y)])), (hs, .inr (7, [.long (zl t0), .long (zl b0), .long (zl ((d * (zabs 1)) * (zabs 1))), .long (zl (rt ((d * (zabs 1)) * (zabs 1))))])), (hch, .inr (1, [.long (zl u0), .long (zl v0), .int (zi o0), .long (zl ua0), .long (zl va0)]))]) [0, 2, 1] rfl rfl ?_
        exact fin _ _ _ _ rfl (⟨_, _, _, _, _, _, _, _, _, _, _, Or.inr ⟨rfl, LSq_none i4 (by omega)⟩, fun z => absurd z (LSq_none i4 (by omega)), rfl⟩) dX5_findLeast_109
      · have hg := sS_get hv (by omega) i2
        have hcb := chRun_bd i3
        have hDd : Dd d 1 = (d * (zabs 1)) * (zabs 1) := rfl
        rw [hDd] at hg
        have htm := tm_of i2
        rw [hDd] at htm
        refine z_aload_n E 0 rfl rfl dX5_findLeast_27 ?_
        refine z_get E f_X5_21 0 rfl rfl dX5_findLeast_28 ?_
        refine z_aload_n E 0 rfl rfl dX5_findLeast_31 ?_
        refine z_get E f_X5_12 0 rfl rfl dX5_findLeast_32 ?_
        refine z_callVl (As := []) (rest := [.ref hch]) (wr := [(h0, .inr (5, [.ref hs, .ref hch, .int (zi m), .long (zl x), .long (zl y)])), (hch, .inr (1, [.long (zl u0), .long (zl v0), .int (zi o0), .long (zl ua0), .long (zl va0)]))]) E (c_X7_whole l D κ hs t0 b0 ((d * (zabs 1)) * (zabs 1)) (rt ((d * (zabs 1)) * (zabs 1))) (by omega) (by omega) (by omega)) m_X5_58 ⟨Nat.le_of_ble_eq_true rfl, Nat.le_of_ble_eq_true rfl⟩ ⟨rfl, rfl⟩ [2] [0, 1] rfl rfl rfl rfl (by decide) rfl rfl rfl rfl (Nat.le_of_ble_eq_true rfl) dX5_findLeast_35 ⟨Nat.le_of_ble_eq_true rfl, Nat.le_of_ble_eq_true rfl⟩ (fun z35 w1 hq => ?_)
        obtain ⟨rfl, rfl⟩ := hq
        refine z_callVv (As := [.long (zl (wh (rt ((d * (zabs 1)) * (zabs 1))) t0 b0))]) (rest := []) (wr := [(h0, .inr (5, [.ref hs, .ref hch, .int (zi m), .long (zl x), .long (zl y)])), (hs, .inr (7, [.long (zl t0), .long (zl b0), .long (zl ((d * (zabs 1)) * (zabs 1))), .long (zl (rt ((d * (zabs 1)) * (zabs 1))))]))]) E (c_X1_add l D κ hch u0 v0 o0 ua0 va0 (wh (rt ((d * (zabs 1)) * (zabs 1))) t0 b0) (by omega) (by omega) (by omega) (by omega) (by omega) (by omega)) m_X5_62 ⟨Nat.le_of_ble_eq_true rfl, Nat.le_of_ble_eq_true rfl⟩ ⟨rfl, rfl⟩ [1] [0, 2] rfl rfl rfl rfl (by decide) rfl rfl rfl rfl (Nat.le_of_ble_eq_true rfl) dX5_findLeast_38 ⟨Nat.le_of_ble_eq_true rfl, Nat.le_of_ble_eq_true rfl⟩ (fun  w1 hq => ?_)
        obtain ⟨u'_1, v'_2, o'_3, ua'_4, va'_5, hc_38, rfl⟩ := hq
        refine z_aload_n E 0 rfl rfl dX5_findLeast_41 ?_
        refine z_get E f_X5_12 0 rfl rfl dX5_findLeast_42 ?_
        refine z_callVv (As := []) (rest := []) (wr := [(h0, .inr (5, [.ref hs, .ref hch, .int (zi m), .long (zl x), .long (zl y)])), (hch, .inr (1, [.long (zl u'_1), .long (zl v'_2), .int (zi o'_3), .long (zl ua'_4), .long (zl va'_5)]))]) E (c_X7_advance l D κ hs t0 b0 ((d * (zabs 1)) * (zabs 1)) (rt ((d * (zabs 1)) * (zabs 1))) (by omega) (by omega) (by omega) (by omega) (by omega) (by omega)) m_X5_65 ⟨Nat.le_of_ble_eq_true rfl, Nat.le_of_ble_eq_true rfl⟩ ⟨rfl, rfl⟩ [1] [0, 2] rfl rfl rfl rfl (by decide) rfl rfl rfl rfl (Nat.le_of_ble_eq_true rfl) dX5_findLeast_45 ⟨Nat.le_of_ble_eq_true rfl, Nat.le_of_ble_eq_true rfl⟩ (fun  w1 hq => ?_)
        obtain rfl := hq
        have hsn := sS_s (by omega) i2
        rw [hDd, show i - 1 + 1 = i by omega] at hsn
        have hcn := chRun_s (by omega) i3 htm hc_38
        rw [show i - 1 + 1 = i by omega] at hcn
        have hcb2 := chRun_bd hcn
        have hg2 := sS_get hv (by omega) hsn
        refine z_aload_n E 0 rfl rfl dX5_findLeast_48 ?_
        refine z_get E f_X5_21 0 rfl rfl dX5_findLeast_49 ?_
        refine z_get E f_X5_68 1 rfl rfl dX5_findLeast_52 ?_
        refine z_if_eq (tgt := 60) E (by omega) dX5_findLeast_55 (by decide) (fun h_55 => ?_) (fun h_55 => ?_)
        · refine z_aload_n E 0 rfl rfl dX5_findLeast_60 ?_
          refine z_get E f_X5_12 0 rfl rfl dX5_findLeast_61 ?_
          refine z_get E f_X5_72 2 rfl rfl dX5_findLeast_64 ?_
          refine z_lconst1 E dX5_findLeast_67 ?_
          refine z_lc_ne (tgt := 102) E (by omega) (by omega) dX5_findLeast_68 dX5_findLeast_69 (by decide) (fun h_68 => ?_) (fun h_68 => ?_)
          · refine z_iinc (lv' := [(2, .int (zi (i + 1))), (0, .ref h0), (1, .int (zi d))]) E 2 rfl dX5_findLeast_102 (Nat.le_of_ble_eq_true rfl) rfl ?_
            refine z_goto (tgt := 20) E dX5_findLeast_105 (by decide) ?_
            refine Zg.sub (lv' := [(0, .ref h0), (1, .int (zi d)), (2, .int (zi (i + 1)))]) [1, 2, 0] rfl ?_
            exact ih_20 (i + 1) (((wh (rt ((d * (zabs 1)) * (zabs 1))) t0 b0) * b0) - t0) (Int.tdiv (((d * (zabs 1)) * (zabs 1)) - ((((wh (rt ((d * (zabs 1)) * (zabs 1))) t0 b0) * b0) - t0) * (((wh (rt ((d * (zabs 1)) * (zabs 1))) t0 b0) * b0) - t0))) b0) u'_1 v'_2 o'_3 ua'_4 va'_5 (by omega) (by rw [show i + 1 - 1 = i by omega]; exact hsn) (by rw [show i + 1 - 1 = i by omega]; exact hcn) (lt_si1 i4 (fun z => by rw [hsn] at z; dsimp only at z; omega)) (by omega)
          · refine z_iload_n E 2 rfl rfl dX5_findLeast_72 ?_
            refine z_iconst E dX5_findLeast_73 ?_
            refine z_irem2 E (by omega) (by omega) dX5_findLeast_74 ?_
            refine z_if_ne (tgt := 102) E (by omega) dX5_findLeast_75 (by decide) (fun h_75 => ?_) (fun h_75 => ?_)
            · refine z_iinc (lv' := [(2, .int (zi (i + 1))), (0, .ref h0), (1, .int (zi d))]) E 2 rfl dX5_findLeast_102 (Nat.le_of_ble_eq_true rfl) rfl ?_
              refine z_goto (tgt := 20) E dX5_findLeast_105 (by decide) ?_
              refine Zg.sub (lv' := [(0, .ref h0), (1, .int (zi d)), (2, .int (zi (i + 1)))]) [1, 2, 0] rfl ?_
              exact ih_20 (i + 1) (((wh (rt ((d * (zabs 1)) * (zabs 1))) t0 b0) * b0) - t0) (Int.tdiv (((d * (zabs 1)) * (zabs 1)) - ((((wh (rt ((d * (zabs 1)) * (zabs 1))) t0 b0) * b0) - t0) * (((wh (rt ((d * (zabs 1)) * (zabs 1))) t0 b0) * b0) - t0))) b0) u'_1 v'_2 o'_3 ua'_4 va'_5 (by omega) (by rw [show i + 1 - 1 = i by omega]; exact hsn) (by rw [show i + 1 - 1 = i by omega]; exact hcn) (lt_si1 i4 (fun z => by rw [hsn] at z; dsimp only at z; omega)) (by omega)
            · refine z_aload_n E 0 rfl rfl dX5_findLeast_78 ?_
              refine z_aload_n E 0 rfl rfl dX5_findLeast_79 ?_
              refine z_get E f_X5_21 0 rfl rfl dX5_findLeast_80 ?_
              refine z_get E f_X5_75 1 rfl rfl dX5_findLeast_83 ?_
              refine z_put (ws' := [(h0, .inr (5, [.ref hs, .ref hch, .int (zi m), .long (zl u'_1), .long (zl y)])), (hch, .inr (1, [.long (zl u'_1), .long (zl v'_2), .int (zi o'_3), .long (zl ua'_4), .long (zl va'_5)])), (hs, .inr (7, [.long (zl (((wh (rt ((d * (zabs 1)) * (zabs 1))) t0 b0) * b0) - t0)), .long (zl (Int.tdiv (((d * (zabs 1)) * (zabs 1)) - ((((wh (rt ((d * (zabs 1)) * (zabs 1))) t0 b0) * b0) - t0) * (((wh (rt ((d * (zabs 1)) * (zabs 1))) t0 b0) * b0) - t0))) b0)), .long (zl ((d * (zabs 1)) * (zabs 1))), .long (zl (rt ((d * (zabs 1)) * (zabs 1))))]))]) E f_X5_37 t_X5_3 0 rfl rfl rfl (Nat.le_of_ble_eq_true rfl) rfl dX5_findLeast_86 ?_
              refine z_aload_n E 0 rfl rfl dX5_findLeast_89 ?_
              refine z_aload_n E 0 rfl rfl dX5_findLeast_90 ?_
              refine z_get E f_X5_21 0 rfl rfl dX5_findLeast_91 ?_
              refine z_get E f_X5_78 1 rfl rfl dX5_findLeast_94 ?_
              refine z_put (ws' := [(h0, .inr (5, [.ref hs, .ref hch, .int (zi m), .long (zl u'_1), .long (zl v'_2)])), (hch, .inr (1, [.long (zl u'_1), .long (zl v'_2), .int (zi o'_3), .long (zl ua'_4), .long (zl va'_5)])), (hs, .inr (7, [.long (zl (((wh (rt ((d * (zabs 1)) * (zabs 1))) t0 b0) * b0) - t0)), .long (zl (Int.tdiv (((d * (zabs 1)) * (zabs 1)) - ((((wh (rt ((d * (zabs 1)) * (zabs 1))) t0 b0) * b0) - t0) * (((wh (rt ((d * (zabs 1)) * (zabs 1))) t0 b0) * b0) - t0))) b0)), .long (zl ((d * (zabs 1)) * (zabs 1))), .long (zl (rt ((d * (zabs 1)) * (zabs 1))))]))]) E f_X5_41 t_X5_4 0 rfl rfl rfl (Nat.le_of_ble_eq_true rfl) rfl dX5_findLeast_97 ?_
              have hat : lsAt d i := ⟨by rw [hcn]; dsimp only; omega, by rw [hsn]; dsimp only; omega, by omega, i4⟩
              refine z_iconst E dX5_findLeast_100 ?_
              refine Zg.perm (ws' := [(h0, .inr (5, [.ref hs, .ref hch, .int (zi m), .long (zl u'_1), .long (zl v'_2)])), (hs, .inr (7, [.long (zl (((wh (rt ((d * (zabs 1)) * (zabs 1))) t0 b0) * b0) - t0)), .long (zl (Int.tdiv (((d * (zabs 1)) * (zabs 1)) - ((((wh (rt ((d * (zabs 1)) * (zabs 1))) t0 b0) * b0) - t0) * (((wh (rt ((d * (zabs 1)) * (zabs 1))) t0 b0) * b0) - t0))) b0)), .long (zl ((d * (zabs 1)) * (zabs 1))), .long (zl (rt ((d * (zabs 1)) * (zabs 1))))])), (hch, .inr (1, [.long (zl u'_1), .long (zl v'_2), .int (zi o'_3), .long (zl ua'_4), .long (zl va'_5)]))]) [0, 2, 1] rfl rfl ?_
              exact fin _ _ _ _ rfl (⟨_, _, _, _, _, _, _, _, _, _, _, Or.inl ⟨rfl, ⟨i, by omega, by omega, hat⟩⟩, fun _ => ⟨i, by omega, by omega, hat, by rw [hcn], by rw [hcn]⟩, rfl⟩) dX5_findLeast_101
        · refine z_iconst E dX5_findLeast_58 ?_
          refine Zg.perm (ws' := [(h0, .inr (5, [.ref hs, .ref hch, .int (zi m), .long (zl x), .long (zl y)])), (hs, .inr (7, [.long (zl (((wh (rt ((d * (zabs 1)) * (zabs 1))) t0 b0) * b0) - t0)), .long (zl (Int.tdiv (((d * (zabs 1)) * (zabs 1)) - ((((wh (rt ((d * (zabs 1)) * (zabs 1))) t0 b0) * b0) - t0) * (((wh (rt ((d * (zabs 1)) * (zabs 1))) t0 b0) * b0) - t0))) b0)), .long (zl ((d * (zabs 1)) * (zabs 1))), .long (zl (rt ((d * (zabs 1)) * (zabs 1))))])), (hch, .inr (1, [.long (zl u'_1), .long (zl v'_2), .int (zi o'_3), .long (zl ua'_4), .long (zl va'_5)]))]) [0, 2, 1] rfl rfl ?_
          exact fin _ _ _ _ rfl (⟨_, _, _, _, _, _, _, _, _, _, _, Or.inr ⟨rfl, LSq_over i4 (by rw [hcn]; dsimp only; omega)⟩, fun z => absurd z (LSq_over i4 (by rw [hcn]; dsimp only; omega)), rfl⟩) dX5_findLeast_59
  refine Zg.sub (lv' := [(0, .ref h0), (1, .int (zi d)), (2, .int (zi 1))]) [1, 2, 0] rfl ?_
  refine Zg.perm (ws' := [(h0, .inr (5, [.ref hs, .ref hch, .int (zi m), .long (zl x), .long (zl y)])), (hch, .inr (1, [.long (zl 1), .long (zl 0), .int (zi 0), .long (zl 0), .long (zl 1)])), (hs, .inr (7, [.long (zl (0 * (zabs 1))), .long (zl (1 * (zabs 1))), .long (zl ((d * (zabs 1)) * (zabs 1))), .long (zl (rt ((d * (zabs 1)) * (zabs 1))))]))]) [0, 2, 1] rfl rfl ?_
  exact lp_20 ((1001 - 1 : Int).toNat + 1) 1 (0 * (zabs 1)) (1 * (zabs 1)) 1 0 0 0 1 (by omega) (rfl) (rfl) (fun j h1 h2 => absurd h2 (by omega)) (by omega)
