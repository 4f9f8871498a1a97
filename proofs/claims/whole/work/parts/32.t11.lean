abbrev rm_X11_isAt : Room := { frames := 1, cells := 0, slots := 0, locals := 25 }
set_option maxRecDepth 100000 in
theorem c_X11_isAt (l : Launch) (D : va_G) (κ : Nat → ClassId) (m0 : Nat) (ms : Nat) (mp : Nat) (pn : Int) (mt : Nat) (tyd : Int) (mT : Nat) (mO : Nat) (mU : Nat) (ld : Int) (up : Int) (lw : Int) (ua : Int) (la : Int) (bU : Int) (bL : Int) (sv : Int) (xn : Int) (yn : Int) (sp : Int) (rs : Int) (pt : Int) (mr : Nat) (TX : Int → Int) (lo : Int) (hi : Int) (hr0 : -2147483648 ≤ hi ∧ hi ≤ 2147483647) (hty : 0 ≤ tyd ∧ tyd ≤ 40) (hC : ∀ i : Int, 0 ≤ i → i < tyd → 32 ≤ TX i ∧ TX i ≤ 126) (hsp : 0 ≤ sp ∧ sp ≤ 41) (hlo : 1 ≤ lo ∧ lo ≤ 1000) : ZI l yX11_isAt cX11_isAt 3 .boolean rm_X11_isAt D κ [.ref m0, .int (zi lo), .int (zi hi)] [(m0, .inr (11, [.ref ms, .ref mp, .int (zi pn), .ref mt, .int (zi tyd), .ref mT, .ref mO, .ref mU, .int (zi ld), .long (zl up), .long (zl lw), .long (zl ua), .long (zl la), .long (zl bU), .int (zi bL), .int (zi sv), .int (zi xn), .int (zi yn), .int (zi sp), .int (zi rs), .int (zi pt), .ref mr])), (mt, ai κ 40 TX)] (fun z w => ((1 = z ∧ (lo ≤ chA TX tyd sp ∧ chA TX tyd sp ≤ hi)) ∨ (0 = z ∧ ¬ (lo ≤ chA TX tyd sp ∧ chA TX tyd sp ≤ hi))) ∧ [(m0, .inr (11, [.ref ms, .ref mp, .int (zi pn), .ref mt, .int (zi tyd), .ref mT, .ref mO, .ref mU, .int (zi ld), .long (zl up), .long (zl lw), .long (zl ua), .long (zl la), .long (zl bU), .int (zi bL), .int (zi sv), .int (zi xn), .int (zi yn), .int (zi sp), .int (zi rs), .int (zi pt), .ref mr])), (mt, ai κ 40 TX)] = w) := by
  refine ZI.enter (own := RX11) rfl pn_X11_isAt (Nat.le_of_ble_eq_true rfl) (fun X E fin => ?_)
  show Zg X [(m0, .inr (11, [.ref ms, .ref mp, .int (zi pn), .ref mt, .int (zi tyd), .ref mT, .ref mO, .ref mU, .int (zi ld), .long (zl up), .long (zl lw), .long (zl ua), .long (zl la), .long (zl bU), .int (zi bL), .int (zi sv), .int (zi xn), .int (zi yn), .int (zi sp), .int (zi rs), .int (zi pt), .ref mr])), (mt, ai κ 40 TX)] 0 0 0 [(0, .ref m0), (1, .int (zi lo)), (2, .int (zi hi))] []
  refine z_aload_n E 0 rfl rfl dX11_isAt_0 ?_
  refine z_get E f_X11_177 0 rfl rfl dX11_isAt_1 ?_
  refine z_aload_n E 0 rfl rfl dX11_isAt_4 ?_
  refine z_get E f_X11_180 0 rfl rfl dX11_isAt_5 ?_
  refine z_ic_ge (tgt := 35) E (by omega) (by omega) dX11_isAt_8 (by decide) (fun h_8 => ?_) (fun h_8 => ?_)
  · have hca := chA_out (c := TX) (n := tyd) (i := sp) (by omega)
    refine z_iconst E dX11_isAt_35 ?_
    exact fin _ _ _ _ rfl (⟨Or.inr ⟨rfl, (by omega)⟩, rfl⟩) dX11_isAt_36
  · have hca := chA_in (c := TX) (n := tyd) (i := sp) ⟨hsp.1, by omega⟩
    have hcb := hC sp hsp.1 (by omega)
    refine z_aload_n E 0 rfl rfl dX11_isAt_11 ?_
    refine z_get E f_X11_16 0 rfl rfl dX11_isAt_12 ?_
    refine z_aload_n E 0 rfl rfl dX11_isAt_15 ?_
    refine z_get E f_X11_177 0 rfl rfl dX11_isAt_16 ?_
    refine z_iald E 1 rfl (Nat.le_of_ble_eq_true rfl) (by omega) (by omega) dX11_isAt_19 ?_
    refine z_i2l E (by omega) dX11_isAt_20 ?_
    refine z_iload_n E 1 rfl rfl dX11_isAt_21 ?_
    refine z_i2l E (by omega) dX11_isAt_22 ?_
    refine z_iload_n E 2 rfl rfl dX11_isAt_23 ?_
    refine z_i2l E (by omega) dX11_isAt_24 ?_
    refine z_callSi (As := [.long (zl (TX sp)), .long (zl lo), .long (zl hi)]) (rest := []) (wr := [(m0, .inr (11, [.ref ms, .ref mp, .int (zi pn), .ref mt, .int (zi tyd), .ref mT, .ref mO, .ref mU, .int (zi ld), .long (zl up), .long (zl lw), .long (zl ua), .long (zl la), .long (zl bU), .int (zi bL), .int (zi sv), .int (zi xn), .int (zi yn), .int (zi sp), .int (zi rs), .int (zi pt), .ref mr])), (mt, ai κ 40 TX)]) E (c_X11_in l D κ (TX sp) lo hi (by omega) (by omega) (by omega)) m_X11_44 ⟨Nat.le_of_ble_eq_true rfl, Nat.le_of_ble_eq_true rfl⟩ ⟨rfl, rfl⟩ [] [0, 1] rfl rfl rfl rfl (by decide) rfl rfl (Nat.le_of_ble_eq_true rfl) dX11_isAt_25 ⟨Nat.le_of_ble_eq_true rfl, Nat.le_of_ble_eq_true rfl⟩ (fun z25 w1 hq => ?_)
    obtain ⟨⟨rfl, hc_25⟩ | ⟨rfl, hc_25⟩, rfl⟩ := hq
    · refine z_if_eq (tgt := 35) E (by omega) dX11_isAt_28 (by decide) (fun h => absurd h (by decide)) (fun _ => ?_)
      refine z_iconst E dX11_isAt_31 ?_
      refine z_goto (tgt := 36) E dX11_isAt_32 (by decide) ?_
      exact fin _ _ _ _ rfl (⟨Or.inl ⟨rfl, (by omega)⟩, rfl⟩) dX11_isAt_36
    · refine z_if_eq (tgt := 35) E (by omega) dX11_isAt_28 (by decide) (fun _ => ?_) (fun h => absurd h (by decide))
      refine z_iconst E dX11_isAt_35 ?_
      exact fin _ _ _ _ rfl (⟨Or.inr ⟨rfl, (by omega)⟩, rfl⟩) dX11_isAt_36
abbrev rm_X11_passes : Room := { frames := 2, cells := 0, slots := 0, locals := 47 }
set_option maxRecDepth 100000 in
theorem c_X11_passes (l : Launch) (D : va_G) (κ : Nat → ClassId) (m0 : Nat) (ms : Nat) (mp : Nat) (pn : Int) (mt : Nat) (tyd : Int) (mT : Nat) (mO : Nat) (mU : Nat) (ld : Int) (up : Int) (lw : Int) (ua : Int) (la : Int) (bU : Int) (bL : Int) (sv : Int) (xn : Int) (yn : Int) (sp : Int) (rs : Int) (pt : Int) (mr : Nat) (TX : Int → Int) (ch : Int) (hty : 0 ≤ tyd ∧ tyd ≤ 40) (hC : ∀ i : Int, 0 ≤ i → i < tyd → 32 ≤ TX i ∧ TX i ≤ 126) (hsp : 0 ≤ sp ∧ sp ≤ 41) (hch : 1 ≤ ch ∧ ch ≤ 1000) : ZI l yX11_passes cX11_passes 3 .boolean rm_X11_passes D κ [.ref m0, .int (zi ch)] [(m0, .inr (11, [.ref ms, .ref mp, .int (zi pn), .ref mt, .int (zi tyd), .ref mT, .ref mO, .ref mU, .int (zi ld), .long (zl up), .long (zl lw), .long (zl ua), .long (zl la), .long (zl bU), .int (zi bL), .int (zi sv), .int (zi xn), .int (zi yn), .int (zi sp), .int (zi rs), .int (zi pt), .ref mr])), (mt, ai κ 40 TX)] (fun z w => ∃ sp' : Int, ((1 = z ∧ (chA TX tyd sp = ch)) ∨ (0 = z ∧ ¬ (chA TX tyd sp = ch))) ∧ ((chA TX tyd sp = ch ∧ sp' = sp + 1) ∨ (chA TX tyd sp ≠ ch ∧ sp' = sp)) ∧ [(m0, .inr (11, [.ref ms, .ref mp, .int (zi pn), .ref mt, .int (zi tyd), .ref mT, .ref mO, .ref mU, .int (zi ld), .long (zl up), .long (zl lw), .long (zl ua), .long (zl la), .long (zl bU), .int (zi bL), .int (zi sv), .int (zi xn), .int (zi yn), .int (zi sp'), .int (zi rs), .int (zi pt), .ref mr])), (mt, ai κ 40 TX)] = w) := by
  refine ZI.enter (own := RX11) rfl pn_X11_passes (Nat.le_of_ble_eq_true rfl) (fun X E fin => ?_)
  show Zg X [(m0, .inr (11, [.ref ms, .ref mp, .int (zi pn), .ref mt, .int (zi tyd), .ref mT, .ref mO, .ref mU, .int (zi ld), .long (zl up), .long (zl lw), .long (zl ua), .long (zl la), .long (zl bU), .int (zi bL), .int (zi sv), .int (zi xn), .int (zi yn), .int (zi sp), .int (zi rs), .int (zi pt), .ref mr])), (mt, ai κ 40 TX)] 0 0 0 [(0, .ref m0), (1, .int (zi ch))] []
  refine z_aload_n E 0 rfl rfl dX11_passes_0 ?_
  refine z_iload_n E 1 rfl rfl dX11_passes_1 ?_
  refine z_iload_n E 1 rfl rfl dX11_passes_2 ?_
  refine z_callVi (As := [.int (zi ch), .int (zi ch)]) (rest := []) (wr := []) E (c_X11_isAt l D κ m0 ms mp pn mt tyd mT mO mU ld up lw ua la bU bL sv xn yn sp rs pt mr TX ch ch (by omega) (by omega) (hC) (by omega) (by omega)) m_X11_183 ⟨Nat.le_of_ble_eq_true rfl, Nat.le_of_ble_eq_true rfl⟩ ⟨rfl, rfl⟩ [0, 1] [] rfl rfl rfl rfl (by decide) rfl rfl rfl rfl (Nat.le_of_ble_eq_true rfl) dX11_passes_3 ⟨Nat.le_of_ble_eq_true rfl, Nat.le_of_ble_eq_true rfl⟩ (fun z3 w1 hq => ?_)
  obtain ⟨⟨rfl, hc_3⟩ | ⟨rfl, hc_3⟩, rfl⟩ := hq
  · refine z_istore_n (lv' := [(2, .int (zi 1)), (0, .ref m0), (1, .int (zi ch))]) E dX11_passes_6 rfl (Nat.le_of_ble_eq_true rfl) rfl ?_
    refine z_aload_n E 1 rfl rfl dX11_passes_7 ?_
    refine z_dup E rfl dX11_passes_8 ?_
    refine z_get E f_X11_177 0 rfl rfl dX11_passes_9 ?_
    refine z_iload_n E 0 rfl rfl dX11_passes_12 ?_
    refine z_if_eq (tgt := 20) E (by omega) dX11_passes_13 (by decide) (fun h => absurd h (by decide)) (fun _ => ?_)
    refine z_iconst E dX11_passes_16 ?_
    refine z_goto (tgt := 21) E dX11_passes_17 (by decide) ?_
    refine z_iadd E dX11_passes_21 ?_
    refine z_put (ws' := [(m0, .inr (11, [.ref ms, .ref mp, .int (zi pn), .ref mt, .int (zi tyd), .ref mT, .ref mO, .ref mU, .int (zi ld), .long (zl up), .long (zl lw), .long (zl ua), .long (zl la), .long (zl bU), .int (zi bL), .int (zi sv), .int (zi xn), .int (zi yn), .int (zi (sp + 1)), .int (zi rs), .int (zi pt), .ref mr])), (mt, ai κ 40 TX)]) E f_X11_177 t_X11_18 0 rfl rfl rfl (Nat.le_of_ble_eq_true rfl) rfl dX11_passes_22 ?_
    refine z_iload_n E 0 rfl rfl dX11_passes_25 ?_
    exact fin _ _ _ _ rfl (⟨_, Or.inl ⟨rfl, (by omega)⟩, (by omega), rfl⟩) dX11_passes_26
  · refine z_istore_n (lv' := [(2, .int (zi 0)), (0, .ref m0), (1, .int (zi ch))]) E dX11_passes_6 rfl (Nat.le_of_ble_eq_true rfl) rfl ?_
    refine z_aload_n E 1 rfl rfl dX11_passes_7 ?_
    refine z_dup E rfl dX11_passes_8 ?_
    refine z_get E f_X11_177 0 rfl rfl dX11_passes_9 ?_
    refine z_iload_n E 0 rfl rfl dX11_passes_12 ?_
    refine z_if_eq (tgt := 20) E (by omega) dX11_passes_13 (by decide) (fun _ => ?_) (fun h => absurd h (by decide))
    refine z_iconst E dX11_passes_20 ?_
    refine z_iadd E dX11_passes_21 ?_
    refine z_put (ws' := [(m0, .inr (11, [.ref ms, .ref mp, .int (zi pn), .ref mt, .int (zi tyd), .ref mT, .ref mO, .ref mU, .int (zi ld), .long (zl up), .long (zl lw), .long (zl ua), .long (zl la), .long (zl bU), .int (zi bL), .int (zi sv), .int (zi xn), .int (zi yn), .int (zi (sp + 0)), .int (zi rs), .int (zi pt), .ref mr])), (mt, ai κ 40 TX)]) E f_X11_177 t_X11_18 0 rfl rfl rfl (Nat.le_of_ble_eq_true rfl) rfl dX11_passes_22 ?_
    refine z_iload_n E 0 rfl rfl dX11_passes_25 ?_
    exact fin _ _ _ _ rfl (⟨_, Or.inr ⟨rfl, (by omega)⟩, (by omega), rfl⟩) dX11_passes_26
abbrev rm_X11_number : Room := { frames := 2, cells := 0, slots := 0, locals := 47 }
set_option maxRecDepth 100000 in
theorem c_X11_number (l : Launch) (D : va_G) (κ : Nat → ClassId) (m0 : Nat) (ms : Nat) (mp : Nat) (pn : Int) (mt : Nat) (tyd : Int) (mT : Nat) (mO : Nat) (mU : Nat) (ld : Int) (up : Int) (lw : Int) (ua : Int) (la : Int) (bU : Int) (bL : Int) (sv : Int) (xn : Int) (yn : Int) (sp : Int) (rs : Int) (pt : Int) (mr : Nat) (TX : Int → Int) (RW : Int → Int) (hty : 0 ≤ tyd ∧ tyd ≤ 40) (hC : ∀ i : Int, 0 ≤ i → i < tyd → 32 ≤ TX i ∧ TX i ≤ 126) (hsp : 0 ≤ sp ∧ sp ≤ 41) (hpt : 0 ≤ pt ∧ pt ≤ 20) : ZI l yX11_number cX11_number 3 .boolean rm_X11_number D κ [.ref m0] [(m0, .inr (11, [.ref ms, .ref mp, .int (zi pn), .ref mt, .int (zi tyd), .ref mT, .ref mO, .ref mU, .int (zi ld), .long (zl up), .long (zl lw), .long (zl ua), .long (zl la), .long (zl bU), .int (zi bL), .int (zi sv), .int (zi xn), .int (zi yn), .int (zi sp), .int (zi rs), .int (zi pt), .ref mr])), (mt, ai κ 40 TX), (mr, ai κ 21 RW)] (fun z w => ∃ sp' : Int, ∃ v' : Int, ((1 = z ∧ (0 ≤ dg TX tyd sp)) ∨ (0 = z ∧ ¬ (0 ≤ dg TX tyd sp))) ∧ (nuR TX tyd sp sp' v') ∧ [(m0, .inr (11, [.ref ms, .ref mp, .int (zi pn), .ref mt, .int (zi tyd), .ref mT, .ref mO, .ref mU, .int (zi ld), .long (zl up), .long (zl lw), .long (zl ua), .long (zl la), .long (zl bU), .int (zi bL), .int (zi sv), .int (zi xn), .int (zi yn), .int (zi sp'), .int (zi rs), .int (zi pt), .ref mr])), (mt, ai κ 40 TX), (mr, ai κ 21 (zu RW pt v'))] = w) := by
  refine ZI.enter (own := RX11) rfl pn_X11_number (Nat.le_of_ble_eq_true rfl) (fun X E fin => ?_)
  show Zg X [(m0, .inr (11, [.ref ms, .ref mp, .int (zi pn), .ref mt, .int (zi tyd), .ref mT, .ref mO, .ref mU, .int (zi ld), .long (zl up), .long (zl lw), .long (zl ua), .long (zl la), .long (zl bU), .int (zi bL), .int (zi sv), .int (zi xn), .int (zi yn), .int (zi sp), .int (zi rs), .int (zi pt), .ref mr])), (mt, ai κ 40 TX), (mr, ai κ 21 RW)] 0 0 0 [(0, .ref m0)] []
  refine z_aload_n E 0 rfl rfl dX11_number_0 ?_
  refine z_get E f_X11_177 0 rfl rfl dX11_number_1 ?_
  refine z_istore_n (lv' := [(1, .int (zi sp)), (0, .ref m0)]) E dX11_number_4 rfl (Nat.le_of_ble_eq_true rfl) rfl ?_
  refine z_iconst E dX11_number_5 ?_
  refine z_istore_n (lv' := [(2, .int (zi 0)), (1, .int (zi sp)), (0, .ref m0)]) E dX11_number_6 rfl (Nat.le_of_ble_eq_true rfl) rfl ?_
  have lp_7 : ∀ (n_7 : Nat) (v : Int) (e : Int), (sp ≤ e ∧ e ≤ sp + 3 ∧ 0 ≤ v ∧ v ≤ 999) → (nbS TX tyd sp e v) → (e = sp ∨ e ≤ tyd) → ((sp + 3) - e) < (n_7 : Int) → Zg X [(m0, .inr (11, [.ref ms, .ref mp, .int (zi pn), .ref mt, .int (zi tyd), .ref mT, .ref mO, .ref mU, .int (zi ld), .long (zl up), .long (zl lw), .long (zl ua), .long (zl la), .long (zl bU), .int (zi bL), .int (zi sv), .int (zi xn), .int (zi yn), .int (zi e), .int (zi rs), .int (zi pt), .ref mr])), (mr, ai κ 21 RW), (mt, ai κ 40 TX)] 0 0 7 [(0, .ref m0), (1, .int (zi sp)), (2, .int (zi v))] [] := by
    intro n_7
    induction n_7 with
    | zero =>
      intro v e i0 i1 i2 hmu
      exact absurd hmu (by omega)
    | succ n_7 ih_7 =>
      intro v e i0 i1 i2 hmu_7
      have hb0 := dg_bd TX tyd e
      have hde := dg_f (c := TX) (n := tyd) (i := e)
      have hdt := dg_t (c := TX) (n := tyd) (i := e)
      have hcbe := chA_bd hC e
      refine z_aload_n E 0 rfl rfl dX11_number_7 ?_
      refine z_bipush E dX11_number_8 (by decide) ?_
      refine z_bipush E dX11_number_10 (by decide) ?_
      refine z_callVi (As := [.int (zi 48), .int (zi 57)]) (rest := []) (wr := [(mr, ai κ 21 RW)]) E (c_X11_isAt l D κ m0 ms mp pn mt tyd mT mO mU ld up lw ua la bU bL sv xn yn e rs pt mr TX 48 57 (by omega) (by omega) (hC) (by omega) (by omega)) m_X11_183 ⟨Nat.le_of_ble_eq_true rfl, Nat.le_of_ble_eq_true rfl⟩ ⟨rfl, rfl⟩ [0, 2] [1] rfl rfl rfl rfl (by decide) rfl rfl rfl rfl (Nat.le_of_ble_eq_true rfl) dX11_number_12 ⟨Nat.le_of_ble_eq_true rfl, Nat.le_of_ble_eq_true rfl⟩ (fun z12 w1 hq => ?_)
      obtain ⟨⟨rfl, hc_12⟩ | ⟨rfl, hc_12⟩, rfl⟩ := hq
      · refine z_if_eq (tgt := 71) E (by omega) dX11_number_15 (by decide) (fun h => absurd h (by decide)) (fun _ => ?_)
        refine z_aload_n E 0 rfl rfl dX11_number_18 ?_
        refine z_get E f_X11_177 1 rfl rfl dX11_number_19 ?_
        refine z_iload_n E 1 rfl rfl dX11_number_22 ?_
        refine z_isub E dX11_number_23 ?_
        refine z_iconst E dX11_number_24 ?_
        refine z_ic_ge (tgt := 71) E (by omega) (by omega) dX11_number_25 (by decide) (fun h_25 => ?_) (fun h_25 => ?_)
        · refine z_aload_n E 0 rfl rfl dX11_number_71 ?_
          refine z_get E f_X11_29 1 rfl rfl dX11_number_72 ?_
          refine z_aload_n E 0 rfl rfl dX11_number_75 ?_
          refine z_get E f_X11_187 1 rfl rfl dX11_number_76 ?_
          refine z_iload_n E 2 rfl rfl dX11_number_79 ?_
          refine z_iast (ws' := [(mr, ai κ 21 (zu RW pt v)), (m0, .inr (11, [.ref ms, .ref mp, .int (zi pn), .ref mt, .int (zi tyd), .ref mT, .ref mO, .ref mU, .int (zi ld), .long (zl up), .long (zl lw), .long (zl ua), .long (zl la), .long (zl bU), .int (zi bL), .int (zi sv), .int (zi xn), .int (zi yn), .int (zi e), .int (zi rs), .int (zi pt), .ref mr])), (mt, ai κ 40 TX)]) E 0 rfl (Nat.le_of_ble_eq_true rfl) (by omega) (by omega) rfl dX11_number_80 ?_
          have hen := nbS_end i1 (by omega)
          have hne := nEnd_bd (c := TX) (n := tyd) (s := sp)
          refine z_aload_n E 0 rfl rfl dX11_number_81 ?_
          refine z_get E f_X11_177 1 rfl rfl dX11_number_82 ?_
          refine z_iload_n E 1 rfl rfl dX11_number_85 ?_
          refine z_ic_le (tgt := 93) E (by omega) (by omega) dX11_number_86 (by decide) (fun h_86 => ?_) (fun h_86 => ?_)
          · refine z_iconst E dX11_number_93 ?_
            refine Zg.perm (ws' := [(m0, .inr (11, [.ref ms, .ref mp, .int (zi pn), .ref mt, .int (zi tyd), .ref mT, .ref mO, .ref mU, .int (zi ld), .long (zl up), .long (zl lw), .long (zl ua), .long (zl la), .long (zl bU), .int (zi bL), .int (zi sv), .int (zi xn), .int (zi yn), .int (zi e), .int (zi rs), .int (zi pt), .ref mr])), (mt, ai κ 40 TX), (mr, ai κ 21 (zu RW pt v))]) [1, 2, 0] rfl rfl ?_
            exact fin _ _ _ _ rfl (⟨_, _, Or.inr ⟨rfl, (by omega)⟩, (by exact hen), rfl⟩) dX11_number_94
          · refine z_iconst E dX11_number_89 ?_
            refine z_goto (tgt := 94) E dX11_number_90 (by decide) ?_
            refine Zg.perm (ws' := [(m0, .inr (11, [.ref ms, .ref mp, .int (zi pn), .ref mt, .int (zi tyd), .ref mT, .ref mO, .ref mU, .int (zi ld), .long (zl up), .long (zl lw), .long (zl ua), .long (zl la), .long (zl bU), .int (zi bL), .int (zi sv), .int (zi xn), .int (zi yn), .int (zi e), .int (zi rs), .int (zi pt), .ref mr])), (mt, ai κ 40 TX), (mr, ai κ 21 (zu RW pt v))]) [1, 2, 0] rfl rfl ?_
            exact fin _ _ _ _ rfl (⟨_, _, Or.inl ⟨rfl, (by omega)⟩, (by exact hen), rfl⟩) dX11_number_94
        · refine z_aload_n E 0 rfl rfl dX11_number_28 ?_
          refine z_get E f_X11_177 1 rfl rfl dX11_number_29 ?_
          refine z_iload_n E 1 rfl rfl dX11_number_32 ?_
          refine z_ic_eq (tgt := 40) E (by omega) (by omega) dX11_number_33 (by decide) (fun h_33 => ?_) (fun h_33 => ?_)
          · have hei : 0 ≤ e ∧ e < tyd := by have := chA_out (c := TX) (n := tyd) (i := e); omega
            have hce := chA_in (c := TX) (n := tyd) hei
            refine z_bipush E dX11_number_40 (by decide) ?_
            refine z_iload_n E 2 rfl rfl dX11_number_42 ?_
            refine z_imul E dX11_number_43 ?_
            refine z_aload_n E 0 rfl rfl dX11_number_44 ?_
            refine z_get E f_X11_16 1 rfl rfl dX11_number_45 ?_
            refine z_aload_n E 0 rfl rfl dX11_number_48 ?_
            refine z_get E f_X11_177 1 rfl rfl dX11_number_49 ?_
            refine z_iald E 2 rfl (Nat.le_of_ble_eq_true rfl) (by omega) (by omega) dX11_number_52 ?_
            refine z_iadd E dX11_number_53 ?_
            refine z_bipush E dX11_number_54 (by decide) ?_
            refine z_isub E dX11_number_56 ?_
            refine z_istore_n (lv' := [(2, .int (zi (((10 * v) + (TX e)) - 48))), (0, .ref m0), (1, .int (zi sp))]) E dX11_number_57 rfl (Nat.le_of_ble_eq_true rfl) rfl ?_
            have hnx := nbS_s i1 (x := (10 * v) + TX e - 48) (by omega) (by omega) (by omega) (by omega)
            refine z_aload_n E 1 rfl rfl dX11_number_58 ?_
            refine z_dup E rfl dX11_number_59 ?_
            refine z_get E f_X11_177 1 rfl rfl dX11_number_60 ?_
            refine z_iconst E dX11_number_63 ?_
            refine z_iadd E dX11_number_64 ?_
            refine z_put (ws' := [(mr, ai κ 21 RW), (m0, .inr (11, [.ref ms, .ref mp, .int (zi pn), .ref mt, .int (zi tyd), .ref mT, .ref mO, .ref mU, .int (zi ld), .long (zl up), .long (zl lw), .long (zl ua), .long (zl la), .long (zl bU), .int (zi bL), .int (zi sv), .int (zi xn), .int (zi yn), .int (zi (e + 1)), .int (zi rs), .int (zi pt), .ref mr])), (mt, ai κ 40 TX)]) E f_X11_177 t_X11_18 1 rfl rfl rfl (Nat.le_of_ble_eq_true rfl) rfl dX11_number_65 ?_
            refine z_goto (tgt := 7) E dX11_number_68 (by decide) ?_
            refine Zg.sub (lv' := [(0, .ref m0), (1, .int (zi sp)), (2, .int (zi (((10 * v) + (TX e)) - 48)))]) [1, 2, 0] rfl ?_
            refine Zg.perm (ws' := [(m0, .inr (11, [.ref ms, .ref mp, .int (zi pn), .ref mt, .int (zi tyd), .ref mT, .ref mO, .ref mU, .int (zi ld), .long (zl up), .long (zl lw), .long (zl ua), .long (zl la), .long (zl bU), .int (zi bL), .int (zi sv), .int (zi xn), .int (zi yn), .int (zi (e + 1)), .int (zi rs), .int (zi pt), .ref mr])), (mr, ai κ 21 RW), (mt, ai κ 40 TX)]) [1, 0, 2] rfl rfl ?_
            exact ih_7 (((10 * v) + (TX e)) - 48) (e + 1) (by have := nbS_bd hnx; omega) (hnx) (Or.inr (by omega)) (by omega)
          · refine z_iload_n E 2 rfl rfl dX11_number_36 ?_
            refine z_if_le (tgt := 71) E (by omega) dX11_number_37 (by decide) (fun h_37 => ?_) (fun h_37 => ?_)
            · refine z_aload_n E 0 rfl rfl dX11_number_71 ?_
              refine z_get E f_X11_29 1 rfl rfl dX11_number_72 ?_
              refine z_aload_n E 0 rfl rfl dX11_number_75 ?_
              refine z_get E f_X11_187 1 rfl rfl dX11_number_76 ?_
              refine z_iload_n E 2 rfl rfl dX11_number_79 ?_
              refine z_iast (ws' := [(mr, ai κ 21 (zu RW pt v)), (m0, .inr (11, [.ref ms, .ref mp, .int (zi pn), .ref mt, .int (zi tyd), .ref mT, .ref mO, .ref mU, .int (zi ld), .long (zl up), .long (zl lw), .long (zl ua), .long (zl la), .long (zl bU), .int (zi bL), .int (zi sv), .int (zi xn), .int (zi yn), .int (zi e), .int (zi rs), .int (zi pt), .ref mr])), (mt, ai κ 40 TX)]) E 0 rfl (Nat.le_of_ble_eq_true rfl) (by omega) (by omega) rfl dX11_number_80 ?_
              have hen := nbS_end i1 (by omega)
              have hne := nEnd_bd (c := TX) (n := tyd) (s := sp)
              refine z_aload_n E 0 rfl rfl dX11_number_81 ?_
              refine z_get E f_X11_177 1 rfl rfl dX11_number_82 ?_
              refine z_iload_n E 1 rfl rfl dX11_number_85 ?_
              refine z_ic_le (tgt := 93) E (by omega) (by omega) dX11_number_86 (by decide) (fun h_86 => ?_) (fun h_86 => ?_)
              · refine z_iconst E dX11_number_93 ?_
                refine Zg.perm (ws' := [(m0, .inr (11, [.ref ms, .ref mp, .int (zi pn), .ref mt, .int (zi tyd), .ref mT, .ref mO, .ref mU, .int (zi ld), .long (zl up), .long (zl lw), .long (zl ua), .long (zl la), .long (zl bU), .int (zi bL), .int (zi sv), .int (zi xn), .int (zi yn), .int (zi e), .int (zi rs), .int (zi pt), .ref mr])), (mt, ai κ 40 TX), (mr, ai κ 21 (zu RW pt v))]) [1, 2, 0] rfl rfl ?_
                exact fin _ _ _ _ rfl (⟨_, _, Or.inr ⟨rfl, (by omega)⟩, (by exact hen), rfl⟩) dX11_number_94
              · refine z_iconst E dX11_number_89 ?_
                refine z_goto (tgt := 94) E dX11_number_90 (by decide) ?_
                refine Zg.perm (ws' := [(m0, .inr (11, [.ref ms, .ref mp, .int (zi pn), .ref mt, .int (zi tyd), .ref mT, .ref mO, .ref mU, .int (zi ld), .long (zl up), .long (zl lw), .long (zl ua), .long (zl la), .long (zl bU), .int (zi bL), .int (zi sv), .int (zi xn), .int (zi yn), .int (zi e), .int (zi rs), .int (zi pt), .ref mr])), (mt, ai κ 40 TX), (mr, ai κ 21 (zu RW pt v))]) [1, 2, 0] rfl rfl ?_
                exact fin _ _ _ _ rfl (⟨_, _, Or.inl ⟨rfl, (by omega)⟩, (by exact hen), rfl⟩) dX11_number_94
            · have hei : 0 ≤ e ∧ e < tyd := by have := chA_out (c := TX) (n := tyd) (i := e); omega
              have hce := chA_in (c := TX) (n := tyd) hei
              refine z_bipush E dX11_number_40 (by decide) ?_
              refine z_iload_n E 2 rfl rfl dX11_number_42 ?_
              refine z_imul E dX11_number_43 ?_
              refine z_aload_n E 0 rfl rfl dX11_number_44 ?_
              refine z_get E f_X11_16 1 rfl rfl dX11_number_45 ?_
              refine z_aload_n E 0 rfl rfl dX11_number_48 ?_
              refine z_get E f_X11_177 1 rfl rfl dX11_number_49 ?_
              refine z_iald E 2 rfl (Nat.le_of_ble_eq_true rfl) (by omega) (by omega) dX11_number_52 ?_
              refine z_iadd E dX11_number_53 ?_
              refine z_bipush E dX11_number_54 (by decide) ?_
              refine z_isub E dX11_number_56 ?_
              refine z_istore_n (lv' := [(2, .int (zi (((10 * v) + (TX e)) - 48))), (0, .ref m0), (1, .int (zi sp))]) E dX11_number_57 rfl (Nat.le_of_ble_eq_true rfl) rfl ?_
              have hnx := nbS_s i1 (x := (10 * v) + TX e - 48) (by omega) (by omega) (by omega) (by omega)
              refine z_aload_n E 1 rfl rfl dX11_number_58 ?_
              refine z_dup E rfl dX11_number_59 ?_
              refine z_get E f_X11_177 1 rfl rfl dX11_number_60 ?_
              refine z_iconst E dX11_number_63 ?_
              refine z_iadd E dX11_number_64 ?_
              refine z_put (ws' := [(mr, ai κ 21 RW), (m0, .inr (11, [.ref ms, .ref mp, .int (zi pn), .ref mt, .int (zi tyd), .ref mT, .ref mO, .ref mU, .int (zi ld), .long (zl up), .long (zl lw), .long (zl ua), .long (zl la), .long (zl bU), .int (zi bL), .int (zi sv), .int (zi xn), .int (zi yn), .int (zi (e + 1)), .int (zi rs), .int (zi pt), .ref mr])), (mt, ai κ 40 TX)]) E f_X11_177 t_X11_18 1 rfl rfl rfl (Nat.le_of_ble_eq_true rfl) rfl dX11_number_65 ?_
              refine z_goto (tgt := 7) E dX11_number_68 (by decide) ?_
              refine Zg.sub (lv' := [(0, .ref m0), (1, .int (zi sp)), (2, .int (zi (((10 * v) + (TX e)) - 48)))]) [1, 2, 0] rfl ?_
              refine Zg.perm (ws' := [(m0, .inr (11, [.ref ms, .ref mp, .int (zi pn), .ref mt, .int (zi tyd), .ref mT, .ref mO, .ref mU, .int (zi ld), .long (zl up), .long (zl lw), .long (zl ua), .long (zl la), .long (zl bU), .int (zi bL), .int (zi sv), .int (zi xn), .int (zi yn), .int (zi (e + 1)), .int (zi rs), .int (zi pt), .ref mr])), (mr, ai κ 21 RW), (mt, ai κ 40 TX)]) [1, 0, 2] rfl rfl ?_
              exact ih_7 (((10 * v) + (TX e)) - 48) (e + 1) (by have := nbS_bd hnx; omega) (hnx) (Or.inr (by omega)) (by omega)
      · refine z_if_eq (tgt := 71) E (by omega) dX11_number_15 (by decide) (fun _ => ?_) (fun h => absurd h (by decide))
        refine z_aload_n E 0 rfl rfl dX11_number_71 ?_
        refine z_get E f_X11_29 1 rfl rfl dX11_number_72 ?_
        refine z_aload_n E 0 rfl rfl dX11_number_75 ?_
        refine z_get E f_X11_187 1 rfl rfl dX11_number_76 ?_
        refine z_iload_n E 2 rfl rfl dX11_number_79 ?_
        refine z_iast (ws' := [(mr, ai κ 21 (zu RW pt v)), (m0, .inr (11, [.ref ms, .ref mp, .int (zi pn), .ref mt, .int (zi tyd), .ref mT, .ref mO, .ref mU, .int (zi ld), .long (zl up), .long (zl lw), .long (zl ua), .long (zl la), .long (zl bU), .int (zi bL), .int (zi sv), .int (zi xn), .int (zi yn), .int (zi e), .int (zi rs), .int (zi pt), .ref mr])), (mt, ai κ 40 TX)]) E 0 rfl (Nat.le_of_ble_eq_true rfl) (by omega) (by omega) rfl dX11_number_80 ?_
        have hen := nbS_end i1 (by omega)
        have hne := nEnd_bd (c := TX) (n := tyd) (s := sp)
        refine z_aload_n E 0 rfl rfl dX11_number_81 ?_
        refine z_get E f_X11_177 1 rfl rfl dX11_number_82 ?_
        refine z_iload_n E 1 rfl rfl dX11_number_85 ?_
        refine z_ic_le (tgt := 93) E (by omega) (by omega) dX11_number_86 (by decide) (fun h_86 => ?_) (fun h_86 => ?_)
        · refine z_iconst E dX11_number_93 ?_
          refine Zg.perm (ws' := [(m0, .inr (11, [.ref ms, .ref mp, .int (zi pn), .ref mt, .int (zi tyd), .ref mT, .ref mO, .ref mU, .int (zi ld), .long (zl up), .long (zl lw), .long (zl ua), .long (zl la), .long (zl bU), .int (zi bL), .int (zi sv), .int (zi xn), .int (zi yn), .int (zi e), .int (zi rs), .int (zi pt), .ref mr])), (mt, ai κ 40 TX), (mr, ai κ 21 (zu RW pt v))]) [1, 2, 0] rfl rfl ?_
          exact fin _ _ _ _ rfl (⟨_, _, Or.inr ⟨rfl, (by omega)⟩, (by exact hen), rfl⟩) dX11_number_94
        · refine z_iconst E dX11_number_89 ?_
          refine z_goto (tgt := 94) E dX11_number_90 (by decide) ?_
          refine Zg.perm (ws' := [(m0, .inr (11, [.ref ms, .ref mp, .int (zi pn), .ref mt, .int (zi tyd), .ref mT, .ref mO, .ref mU, .int (zi ld), .long (zl up), .long (zl lw), .long (zl ua), .long (zl la), .long (zl bU), .int (zi bL), .int (zi sv), .int (zi xn), .int (zi yn), .int (zi e), .int (zi rs), .int (zi pt), .ref mr])), (mt, ai κ 40 TX), (mr, ai κ 21 (zu RW pt v))]) [1, 2, 0] rfl rfl ?_
          exact fin _ _ _ _ rfl (⟨_, _, Or.inl ⟨rfl, (by omega)⟩, (by exact hen), rfl⟩) dX11_number_94
  refine Zg.sub (lv' := [(0, .ref m0), (1, .int (zi sp)), (2, .int (zi 0))]) [2, 1, 0] rfl ?_
  refine Zg.perm (ws' := [(m0, .inr (11, [.ref ms, .ref mp, .int (zi pn), .ref mt, .int (zi tyd), .ref mT, .ref mO, .ref mU, .int (zi ld), .long (zl up), .long (zl lw), .long (zl ua), .long (zl la), .long (zl bU), .int (zi bL), .int (zi sv), .int (zi xn), .int (zi yn), .int (zi sp), .int (zi rs), .int (zi pt), .ref mr])), (mr, ai κ 21 RW), (mt, ai κ 40 TX)]) [0, 2, 1] rfl rfl ?_
  exact lp_7 (((sp + 3) - sp : Int).toNat + 1) 0 sp (by omega) (Or.inl ⟨rfl, rfl⟩) (by omega) (by omega)
abbrev rm_X11_later : Room := { frames := 3, cells := 0, slots := 0, locals := 69 }
set_option maxRecDepth 100000 in
theorem c_X11_later (l : Launch) (D : va_G) (κ : Nat → ClassId) (m0 : Nat) (ms : Nat) (mp : Nat) (pn : Int) (mt : Nat) (tyd : Int) (mT : Nat) (mO : Nat) (mU : Nat) (ld : Int) (up : Int) (lw : Int) (ua : Int) (la : Int) (bU : Int) (bL : Int) (sv : Int) (xn : Int) (yn : Int) (sp : Int) (rs : Int) (pt : Int) (mr : Nat) (TX : Int → Int) (RW : Int → Int) (hty : 0 ≤ tyd ∧ tyd ≤ 40) (hC : ∀ i : Int, 0 ≤ i → i < tyd → 32 ≤ TX i ∧ TX i ≤ 126) (hsp : 0 ≤ sp ∧ sp ≤ tyd) (hpt : 0 ≤ pt ∧ pt ≤ 20) : ZI l yX11_later cX11_later 2 .boolean rm_X11_later D κ [.ref m0] [(m0, .inr (11, [.ref ms, .ref mp, .int (zi pn), .ref mt, .int (zi tyd), .ref mT, .ref mO, .ref mU, .int (zi ld), .long (zl up), .long (zl lw), .long (zl ua), .long (zl la), .long (zl bU), .int (zi bL), .int (zi sv), .int (zi xn), .int (zi yn), .int (zi sp), .int (zi rs), .int (zi pt), .ref mr])), (mt, ai κ 40 TX), (mr, ai κ 21 RW)] (fun z w => ∃ sp' : Int, ∃ rs' : Int, ∃ pt' : Int, ∃ RW' : Int → Int, ((1 = z ∧ (0 < dg TX tyd sp)) ∨ (0 = z ∧ ¬ (0 < dg TX tyd sp))) ∧ (laR TX tyd sp rs pt RW sp' rs' pt' RW') ∧ [(m0, .inr (11, [.ref ms, .ref mp, .int (zi pn), .ref mt, .int (zi tyd), .ref mT, .ref mO, .ref mU, .int (zi ld), .long (zl up), .long (zl lw), .long (zl ua), .long (zl la), .long (zl bU), .int (zi bL), .int (zi sv), .int (zi xn), .int (zi yn), .int (zi sp'), .int (zi rs'), .int (zi pt'), .ref mr])), (mt, ai κ 40 TX), (mr, ai κ 21 RW')] = w) := by
  refine ZI.enter (own := RX11) rfl pn_X11_later (Nat.le_of_ble_eq_true rfl) (fun X E fin => ?_)
  show Zg X [(m0, .inr (11, [.ref ms, .ref mp, .int (zi pn), .ref mt, .int (zi tyd), .ref mT, .ref mO, .ref mU, .int (zi ld), .long (zl up), .long (zl lw), .long (zl ua), .long (zl la), .long (zl bU), .int (zi bL), .int (zi sv), .int (zi xn), .int (zi yn), .int (zi sp), .int (zi rs), .int (zi pt), .ref mr])), (mt, ai κ 40 TX), (mr, ai κ 21 RW)] 0 0 0 [(0, .ref m0)] []
  refine z_aload_n E 0 rfl rfl dX11_later_0 ?_
  refine z_get E f_X11_177 0 rfl rfl dX11_later_1 ?_
  refine z_istore_n (lv' := [(1, .int (zi sp)), (0, .ref m0)]) E dX11_later_4 rfl (Nat.le_of_ble_eq_true rfl) rfl ?_
  refine z_aload_n E 1 rfl rfl dX11_later_5 ?_
  refine z_callVi (As := []) (rest := []) (wr := []) E (c_X11_number l D κ m0 ms mp pn mt tyd mT mO mU ld up lw ua la bU bL sv xn yn sp rs pt mr TX RW (by omega) (hC) (by omega) (by omega)) m_X11_190 ⟨Nat.le_of_ble_eq_true rfl, Nat.le_of_ble_eq_true rfl⟩ ⟨rfl, rfl⟩ [0, 1, 2] [] rfl rfl rfl rfl (by decide) rfl rfl rfl rfl (Nat.le_of_ble_eq_true rfl) dX11_later_6 ⟨Nat.le_of_ble_eq_true rfl, Nat.le_of_ble_eq_true rfl⟩ (fun z6 w1 hq => ?_)
  obtain ⟨sp'_1, v'_2, ⟨rfl, hc_6⟩ | ⟨rfl, hc_6⟩, hr_6, rfl⟩ := hq
  · have hnb := nuR_bd hr_6 hsp.2
    have hnr := hr_6
    unfold nuR at hnr
    refine z_if_ne (tgt := 14) E (by omega) dX11_later_9 (by decide) (fun _ => ?_) (fun h => absurd h (by decide))
    refine z_aload_n E 1 rfl rfl dX11_later_14 ?_
    refine z_get E f_X11_29 0 rfl rfl dX11_later_15 ?_
    refine z_aload_n E 1 rfl rfl dX11_later_18 ?_
    refine z_get E f_X11_187 0 rfl rfl dX11_later_19 ?_
    refine z_iald E 2 rfl (Nat.le_of_ble_eq_true rfl) (by omega) (by omega) dX11_later_22 ?_
    rw [zu_s]
    refine z_if_ne (tgt := 38) E (by omega) dX11_later_23 (by decide) (fun h_23 => ?_) (fun h_23 => ?_)
    · have hnu : sp'_1 = nEnd TX tyd sp ∧ v'_2 = nVal TX tyd sp := by omega
      refine z_aload_n E 1 rfl rfl dX11_later_38 ?_
      refine z_dup E rfl dX11_later_39 ?_
      refine z_get E f_X11_187 0 rfl rfl dX11_later_40 ?_
      refine z_iconst E dX11_later_43 ?_
      refine z_iadd E dX11_later_44 ?_
      refine z_put (ws' := [(m0, .inr (11, [.ref ms, .ref mp, .int (zi pn), .ref mt, .int (zi tyd), .ref mT, .ref mO, .ref mU, .int (zi ld), .long (zl up), .long (zl lw), .long (zl ua), .long (zl la), .long (zl bU), .int (zi bL), .int (zi sv), .int (zi xn), .int (zi yn), .int (zi sp'_1), .int (zi rs), .int (zi (pt + 1)), .ref mr])), (mt, ai κ 40 TX), (mr, ai κ 21 (zu RW pt v'_2))]) E f_X11_187 t_X11_20 0 rfl rfl rfl (Nat.le_of_ble_eq_true rfl) rfl dX11_later_45 ?_
      refine z_iconst E dX11_later_48 ?_
      exact fin _ _ _ _ rfl (⟨_, _, _, _, Or.inl ⟨rfl, (by omega)⟩, (by exact ⟨fun j j1 j2 => zu_n _ _ (by omega), Or.inr (Or.inr ⟨by omega, hnu.1, rfl, rfl, (by rw [zu_s]; exact hnu.2)⟩)⟩), rfl⟩) dX11_later_49
    · refine z_aload_n E 1 rfl rfl dX11_later_26 ?_
      refine z_iload_n E 0 rfl rfl dX11_later_27 ?_
      refine z_put (ws' := [(m0, .inr (11, [.ref ms, .ref mp, .int (zi pn), .ref mt, .int (zi tyd), .ref mT, .ref mO, .ref mU, .int (zi ld), .long (zl up), .long (zl lw), .long (zl ua), .long (zl la), .long (zl bU), .int (zi bL), .int (zi sv), .int (zi xn), .int (zi yn), .int (zi sp), .int (zi rs), .int (zi pt), .ref mr])), (mt, ai κ 40 TX), (mr, ai κ 21 (zu RW pt v'_2))]) E f_X11_177 t_X11_18 0 rfl rfl rfl (Nat.le_of_ble_eq_true rfl) rfl dX11_later_28 ?_
      refine z_aload_n E 1 rfl rfl dX11_later_31 ?_
      refine z_iconst E dX11_later_32 ?_
      refine z_put (ws' := [(m0, .inr (11, [.ref ms, .ref mp, .int (zi pn), .ref mt, .int (zi tyd), .ref mT, .ref mO, .ref mU, .int (zi ld), .long (zl up), .long (zl lw), .long (zl ua), .long (zl la), .long (zl bU), .int (zi bL), .int (zi sv), .int (zi xn), .int (zi yn), .int (zi sp), .int (zi 2), .int (zi pt), .ref mr])), (mt, ai κ 40 TX), (mr, ai κ 21 (zu RW pt v'_2))]) E f_X11_194 t_X11_19 0 rfl rfl rfl (Nat.le_of_ble_eq_true rfl) rfl dX11_later_33 ?_
      refine z_iconst E dX11_later_36 ?_
      exact fin _ _ _ _ rfl (⟨_, _, _, _, Or.inr ⟨rfl, (by omega)⟩, (by exact ⟨fun j j1 j2 => zu_n _ _ (by omega), Or.inr (Or.inl ⟨by omega, rfl, rfl, rfl⟩)⟩), rfl⟩) dX11_later_37
  · have hnb := nuR_bd hr_6 hsp.2
    have hnr := hr_6
    unfold nuR at hnr
    refine z_if_ne (tgt := 14) E (by omega) dX11_later_9 (by decide) (fun h => absurd h (by decide)) (fun _ => ?_)
    refine z_iconst E dX11_later_12 ?_
    exact fin _ _ _ _ rfl (⟨_, _, _, _, Or.inr ⟨rfl, (by omega)⟩, (by exact ⟨fun j j1 j2 => zu_n _ _ (by omega), Or.inl ⟨by omega, by omega, rfl, rfl⟩⟩), rfl⟩) dX11_later_13
abbrev rm_X11_reads : Room := { frames := 4, cells := 0, slots := 0, locals := 90 }
set_option maxHeartbeats 1000000 in
set_option maxRecDepth 100000 in
theorem c_X11_reads (l : Launch) (D : va_G) (κ : Nat → ClassId) (m0 : Nat) (ms : Nat) (mp : Nat) (pn : Int) (mt : Nat) (tyd : Int) (mT : Nat) (mO : Nat) (mU : Nat) (ld : Int) (up : Int) (lw : Int) (ua : Int) (la : Int) (bU : Int) (bL : Int) (sv : Int) (xn : Int) (yn : Int) (sp : Int) (rs : Int) (pt : Int) (mr : Nat) (TX : Int → Int) (RW : Int → Int) (hty : 0 ≤ tyd ∧ tyd ≤ 40) (hC : ∀ i : Int, 0 ≤ i → i < tyd → 32 ≤ TX i ∧ TX i ≤ 126) : ZI l yX11_reads cX11_reads 3 .boolean rm_X11_reads D κ [.ref m0] [(m0, .inr (11, [.ref ms, .ref mp, .int (zi pn), .ref mt, .int (zi tyd), .ref mT, .ref mO, .ref mU, .int (zi ld), .long (zl up), .long (zl lw), .long (zl ua), .long (zl la), .long (zl bU), .int (zi bL), .int (zi sv), .int (zi xn), .int (zi yn), .int (zi sp), .int (zi rs), .int (zi pt), .ref mr])), (mt, ai κ 40 TX), (mr, ai κ 21 RW)] (fun z w => ∃ sp' : Int, ∃ rs' : Int, ∃ pt' : Int, ∃ RW' : Int → Int, ((1 = z ∧ (∃ k : Nat, tFine TX tyd k)) ∨ (0 = z ∧ ¬ (∃ k : Nat, tFine TX tyd k))) ∧ (rdF TX tyd sp' rs' pt' RW') ∧ [(m0, .inr (11, [.ref ms, .ref mp, .int (zi pn), .ref mt, .int (zi tyd), .ref mT, .ref mO, .ref mU, .int (zi ld), .long (zl up), .long (zl lw), .long (zl ua), .long (zl la), .long (zl bU), .int (zi bL), .int (zi sv), .int (zi xn), .int (zi yn), .int (zi sp'), .int (zi rs'), .int (zi pt'), .ref mr])), (mt, ai κ 40 TX), (mr, ai κ 21 RW')] = w) := by
  refine ZI.enter (own := RX11) rfl pn_X11_reads (Nat.le_of_ble_eq_true rfl) (fun X E fin => ?_)
  show Zg X [(m0, .inr (11, [.ref ms, .ref mp, .int (zi pn), .ref mt, .int (zi tyd), .ref mT, .ref mO, .ref mU, .int (zi ld), .long (zl up), .long (zl lw), .long (zl ua), .long (zl la), .long (zl bU), .int (zi bL), .int (zi sv), .int (zi xn), .int (zi yn), .int (zi sp), .int (zi rs), .int (zi pt), .ref mr])), (mt, ai κ 40 TX), (mr, ai κ 21 RW)] 0 0 0 [(0, .ref m0)] []
  refine z_aload_n E 0 rfl rfl dX11_reads_0 ?_
  refine z_iconst E dX11_reads_1 ?_
  refine z_put (ws' := [(m0, .inr (11, [.ref ms, .ref mp, .int (zi pn), .ref mt, .int (zi tyd), .ref mT, .ref mO, .ref mU, .int (zi ld), .long (zl up), .long (zl lw), .long (zl ua), .long (zl la), .long (zl bU), .int (zi bL), .int (zi sv), .int (zi xn), .int (zi yn), .int (zi 0), .int (zi rs), .int (zi pt), .ref mr])), (mt, ai κ 40 TX), (mr, ai κ 21 RW)]) E f_X11_177 t_X11_18 0 rfl rfl rfl (Nat.le_of_ble_eq_true rfl) rfl dX11_reads_2 ?_
  refine z_aload_n E 0 rfl rfl dX11_reads_5 ?_
  refine z_iconst E dX11_reads_6 ?_
  refine z_put (ws' := [(m0, .inr (11, [.ref ms, .ref mp, .int (zi pn), .ref mt, .int (zi tyd), .ref mT, .ref mO, .ref mU, .int (zi ld), .long (zl up), .long (zl lw), .long (zl ua), .long (zl la), .long (zl bU), .int (zi bL), .int (zi sv), .int (zi xn), .int (zi yn), .int (zi 0), .int (zi 1), .int (zi pt), .ref mr])), (mt, ai κ 40 TX), (mr, ai κ 21 RW)]) E f_X11_194 t_X11_19 0 rfl rfl rfl (Nat.le_of_ble_eq_true rfl) rfl dX11_reads_7 ?_
  refine z_aload_n E 0 rfl rfl dX11_reads_10 ?_
  refine z_iconst E dX11_reads_11 ?_
  refine z_put (ws' := [(m0, .inr (11, [.ref ms, .ref mp, .int (zi pn), .ref mt, .int (zi tyd), .ref mT, .ref mO, .ref mU, .int (zi ld), .long (zl up), .long (zl lw), .long (zl ua), .long (zl la), .long (zl bU), .int (zi bL), .int (zi sv), .int (zi xn), .int (zi yn), .int (zi 0), .int (zi 1), .int (zi 0), .ref mr])), (mt, ai κ 40 TX), (mr, ai κ 21 RW)]) E f_X11_187 t_X11_20 0 rfl rfl rfl (Nat.le_of_ble_eq_true rfl) rfl dX11_reads_12 ?_
  refine z_aload_n E 0 rfl rfl dX11_reads_15 ?_
  refine z_bipush E dX11_reads_16 (by decide) ?_
  refine z_callVi (As := [.int (zi 45)]) (rest := []) (wr := [(mr, ai κ 21 RW)]) E (c_X11_passes l D κ m0 ms mp pn mt tyd mT mO mU ld up lw ua la bU bL sv xn yn 0 1 0 mr TX 45 (by omega) (hC) (by omega) (by omega)) m_X11_197 ⟨Nat.le_of_ble_eq_true rfl, Nat.le_of_ble_eq_true rfl⟩ ⟨rfl, rfl⟩ [0, 1] [2] rfl rfl rfl rfl (by decide) rfl rfl rfl rfl (Nat.le_of_ble_eq_true rfl) dX11_reads_18 ⟨Nat.le_of_ble_eq_true rfl, Nat.le_of_ble_eq_true rfl⟩ (fun z18 w1 hq => ?_)
  obtain ⟨sp'_1, ⟨rfl, hc_18⟩ | ⟨rfl, hc_18⟩, hs_18, rfl⟩ := hq
  · refine z_istore_n (lv' := [(1, .int (zi 1)), (0, .ref m0)]) E dX11_reads_21 rfl (Nat.le_of_ble_eq_true rfl) rfl ?_
    have hcz0 := chA_out (c := TX) (n := tyd) (i := 0)
    refine z_aload_n E 1 rfl rfl dX11_reads_22 ?_
    refine z_callVi (As := []) (rest := []) (wr := []) E (c_X11_number l D κ m0 ms mp pn mt tyd mT mO mU ld up lw ua la bU bL sv xn yn sp'_1 1 0 mr TX RW (by omega) (hC) (by omega) (by omega)) m_X11_190 ⟨Nat.le_of_ble_eq_true rfl, Nat.le_of_ble_eq_true rfl⟩ ⟨rfl, rfl⟩ [1, 2, 0] [] rfl rfl rfl rfl (by decide) rfl rfl rfl rfl (Nat.le_of_ble_eq_true rfl) dX11_reads_23 ⟨Nat.le_of_ble_eq_true rfl, Nat.le_of_ble_eq_true rfl⟩ (fun z23 w1 hq => ?_)
    obtain ⟨sp'_2, v'_3, ⟨rfl, hc_23⟩ | ⟨rfl, hc_23⟩, hr_23, rfl⟩ := hq
    · have hnb := nuR_bd hr_23 (by omega)
      have hfi := rd_first (by omega) hr_23
      refine z_if_ne (tgt := 31) E (by omega) dX11_reads_26 (by decide) (fun _ => ?_) (fun h => absurd h (by decide))
      refine z_aload_n E 1 rfl rfl dX11_reads_31 ?_
      refine z_get E f_X11_29 0 rfl rfl dX11_reads_32 ?_
      refine z_iconst E dX11_reads_35 ?_
      refine z_iload_n E 0 rfl rfl dX11_reads_36 ?_
      refine z_if_eq (tgt := 50) E (by omega) dX11_reads_37 (by decide) (fun h => absurd h (by decide)) (fun _ => ?_)
      refine z_aload_n E 1 rfl rfl dX11_reads_40 ?_
      refine z_get E f_X11_29 0 rfl rfl dX11_reads_41 ?_
      refine z_iconst E dX11_reads_44 ?_
      refine z_iald E 2 rfl (Nat.le_of_ble_eq_true rfl) (by omega) (by omega) dX11_reads_45 ?_
      rw [zu_s]
      refine z_ineg E dX11_reads_46 ?_
      refine z_goto (tgt := 56) E dX11_reads_47 (by decide) ?_
      refine z_iast (ws' := [(m0, .inr (11, [.ref ms, .ref mp, .int (zi pn), .ref mt, .int (zi tyd), .ref mT, .ref mO, .ref mU, .int (zi ld), .long (zl up), .long (zl lw), .long (zl ua), .long (zl la), .long (zl bU), .int (zi bL), .int (zi sv), .int (zi xn), .int (zi yn), .int (zi sp'_2), .int (zi 1), .int (zi 0), .ref mr])), (mt, ai κ 40 TX), (mr, ai κ 21 (zu (zu RW 0 v'_3) 0 (-v'_3)))]) E 2 rfl (Nat.le_of_ble_eq_true rfl) (by omega) (by omega) rfl dX11_reads_56 ?_
      have hft := hfi.2 hc_23
      have hrow0 : ∀ i : Int, 0 ≤ i → i ≤ ((0 : Nat) : Int) → (zu (zu RW 0 v'_3) 0 (-v'_3)) i = tV TX tyd i.toNat := fun i i1 i2 => by
        have e : i = 0 := by omega
        subst e
        rw [zu_s]
        show _ = tV TX tyd 0
        rw [hft.2.2, if_pos hc_18]
      have hcz := chA_out (c := TX) (n := tyd) (i := sp'_2)
      have hd2 : due 0 = 59 := rfl
      refine z_aload_n E 1 rfl rfl dX11_reads_57 ?_
      refine z_iconst E dX11_reads_58 ?_
      refine z_put (ws' := [(m0, .inr (11, [.ref ms, .ref mp, .int (zi pn), .ref mt, .int (zi tyd), .ref mT, .ref mO, .ref mU, .int (zi ld), .long (zl up), .long (zl lw), .long (zl ua), .long (zl la), .long (zl bU), .int (zi bL), .int (zi sv), .int (zi xn), .int (zi yn), .int (zi sp'_2), .int (zi 1), .int (zi 1), .ref mr])), (mt, ai κ 40 TX), (mr, ai κ 21 (zu (zu RW 0 v'_3) 0 (-v'_3)))]) E f_X11_187 t_X11_20 0 rfl rfl rfl (Nat.le_of_ble_eq_true rfl) rfl dX11_reads_59 ?_
      refine z_aload_n E 1 rfl rfl dX11_reads_62 ?_
      refine z_bipush E dX11_reads_63 (by decide) ?_
      refine z_callVi (As := [.int (zi 59)]) (rest := []) (wr := [(mr, ai κ 21 (zu (zu RW 0 v'_3) 0 (-v'_3)))]) E (c_X11_passes l D κ m0 ms mp pn mt tyd mT mO mU ld up lw ua la bU bL sv xn yn sp'_2 1 1 mr TX 59 (by omega) (hC) (by omega) (by omega)) m_X11_197 ⟨Nat.le_of_ble_eq_true rfl, Nat.le_of_ble_eq_true rfl⟩ ⟨rfl, rfl⟩ [0, 1] [2] rfl rfl rfl rfl (by decide) rfl rfl rfl rfl (Nat.le_of_ble_eq_true rfl) dX11_reads_65 ⟨Nat.le_of_ble_eq_true rfl, Nat.le_of_ble_eq_true rfl⟩ (fun z65 w1 hq => ?_)
      obtain ⟨sp'_4, ⟨rfl, hc_65⟩ | ⟨rfl, hc_65⟩, hs_65, rfl⟩ := hq
      · refine z_if_eq (tgt := 78) E (by omega) dX11_reads_68 (by decide) (fun h => absurd h (by decide)) (fun _ => ?_)
        refine z_aload_n E 1 rfl rfl dX11_reads_71 ?_
        refine z_callVi (As := []) (rest := []) (wr := []) E (c_X11_later l D κ m0 ms mp pn mt tyd mT mO mU ld up lw ua la bU bL sv xn yn sp'_4 1 1 mr TX (zu (zu RW 0 v'_3) 0 (-v'_3)) (by omega) (hC) (by omega) (by omega)) m_X11_200 ⟨Nat.le_of_ble_eq_true rfl, Nat.le_of_ble_eq_true rfl⟩ ⟨rfl, rfl⟩ [1, 2, 0] [] rfl rfl rfl rfl (by decide) rfl rfl rfl rfl (Nat.le_of_ble_eq_true rfl) dX11_reads_72 ⟨Nat.le_of_ble_eq_true rfl, Nat.le_of_ble_eq_true rfl⟩ (fun z72 w1 hq => ?_)
        obtain ⟨sp'_5, rs'_6, pt'_7, RW'_8, ⟨rfl, hc_72⟩ | ⟨rfl, hc_72⟩, h2_72, rfl⟩ := hq
        · refine z_if_eq (tgt := 82) E (by omega) dX11_reads_75 (by decide) (fun h => absurd h (by decide)) (fun _ => ?_)
          refine z_iconst E dX11_reads_78 ?_
          refine z_goto (tgt := 83) E dX11_reads_79 (by decide) ?_
          have hrm := (rd_later (k := 0) hft.1 hft.2.1 (by omega) (by omega) hrow0 (by rw [hd2]; exact hc_65) (by omega) h2_72).1 hc_72
          have hlb := laR_bd h2_72 (by omega)
          refine z_istore_n (lv' := [(2, .int (zi 1)), (1, .int (zi 1)), (0, .ref m0)]) E dX11_reads_83 rfl (Nat.le_of_ble_eq_true rfl) rfl ?_
          have lp_84 : ∀ (n_84 : Nat) (is : Int) (a : Int) (b : Int) (e : Int) (R : Int → Int), ((0 ≤ a ∧ a ≤ tyd) ∧ 0 ≤ e ∧ e ≤ 21) → (rdM TX tyd is a b e R) → (2 * is + (22 - e)) < (n_84 : Int) → Zg X [(m0, .inr (11, [.ref ms, .ref mp, .int (zi pn), .ref mt, .int (zi tyd), .ref mT, .ref mO, .ref mU, .int (zi ld), .long (zl up), .long (zl lw), .long (zl ua), .long (zl la), .long (zl bU), .int (zi bL), .int (zi sv), .int (zi xn), .int (zi yn), .int (zi a), .int (zi b), .int (zi e), .ref mr])), (mr, ai κ 21 R), (mt, ai κ 40 TX)] 0 0 84 [(0, .ref m0), (2, .int (zi is))] [] := by
            intro n_84
            induction n_84 with
            | zero =>
              intro is a b e R i0 i1 hmu
              exact absurd hmu (by have := rdM_b i1; omega)
            | succ n_84 ih_84 =>
              intro is a b e R i0 i1 hmu_84
              have hib0 := rdM_b i1
              refine z_iload_n E 1 rfl rfl dX11_reads_84 ?_
              refine z_if_eq (tgt := 132) E (by omega) dX11_reads_85 (by decide) (fun h_85 => ?_) (fun h_85 => ?_)
              · have hib := rdM_b i1
                refine z_iload_n E 1 rfl rfl dX11_reads_132 ?_
                refine z_if_eq (tgt := 151) E (by omega) dX11_reads_133 (by decide) (fun h_133 => ?_) (fun h_133 => ?_)
                · refine z_iconst E dX11_reads_151 ?_
                  refine Zg.perm (ws' := [(m0, .inr (11, [.ref ms, .ref mp, .int (zi pn), .ref mt, .int (zi tyd), .ref mT, .ref mO, .ref mU, .int (zi ld), .long (zl up), .long (zl lw), .long (zl ua), .long (zl la), .long (zl bU), .int (zi bL), .int (zi sv), .int (zi xn), .int (zi yn), .int (zi a), .int (zi b), .int (zi e), .ref mr])), (mt, ai κ 40 TX), (mr, ai κ 21 R)]) [0, 2, 1] rfl rfl ?_
                  exact fin _ _ _ _ rfl (⟨_, _, _, _, Or.inr ⟨rfl, (by exact ((rdM_end i1 (by omega)).2 (by omega)).1)⟩, (by exact ((rdM_end i1 (by omega)).2 (by omega)).2), rfl⟩) dX11_reads_152
                · refine z_aload_n E 0 rfl rfl dX11_reads_136 ?_
                  refine z_get E f_X11_177 0 rfl rfl dX11_reads_137 ?_
                  refine z_aload_n E 0 rfl rfl dX11_reads_140 ?_
                  refine z_get E f_X11_180 0 rfl rfl dX11_reads_141 ?_
                  refine z_ic_ne (tgt := 151) E (by omega) (by omega) dX11_reads_144 (by decide) (fun h_144 => ?_) (fun h_144 => ?_)
                  · refine z_iconst E dX11_reads_151 ?_
                    refine Zg.perm (ws' := [(m0, .inr (11, [.ref ms, .ref mp, .int (zi pn), .ref mt, .int (zi tyd), .ref mT, .ref mO, .ref mU, .int (zi ld), .long (zl up), .long (zl lw), .long (zl ua), .long (zl la), .long (zl bU), .int (zi bL), .int (zi sv), .int (zi xn), .int (zi yn), .int (zi a), .int (zi b), .int (zi e), .ref mr])), (mt, ai κ 40 TX), (mr, ai κ 21 R)]) [0, 2, 1] rfl rfl ?_
                    exact fin _ _ _ _ rfl (⟨_, _, _, _, Or.inr ⟨rfl, (by exact ((rdM_end i1 (by omega)).2 (by omega)).1)⟩, (by exact ((rdM_end i1 (by omega)).2 (by omega)).2), rfl⟩) dX11_reads_152
                  · refine z_iconst E dX11_reads_147 ?_
                    refine z_goto (tgt := 152) E dX11_reads_148 (by decide) ?_
                    refine Zg.perm (ws' := [(m0, .inr (11, [.ref ms, .ref mp, .int (zi pn), .ref mt, .int (zi tyd), .ref mT, .ref mO, .ref mU, .int (zi ld), .long (zl up), .long (zl lw), .long (zl ua), .long (zl la), .long (zl bU), .int (zi bL), .int (zi sv), .int (zi xn), .int (zi yn), .int (zi a), .int (zi b), .int (zi e), .ref mr])), (mt, ai κ 40 TX), (mr, ai κ 21 R)]) [0, 2, 1] rfl rfl ?_
                    exact fin _ _ _ _ rfl (⟨_, _, _, _, Or.inl ⟨rfl, (by exact ((rdM_end i1 (by omega)).1 h_133 (by omega)).1)⟩, (by exact ((rdM_end i1 (by omega)).1 h_133 (by omega)).2), rfl⟩) dX11_reads_152
              · refine z_aload_n E 0 rfl rfl dX11_reads_88 ?_
                refine z_get E f_X11_187 0 rfl rfl dX11_reads_89 ?_
                refine z_iconst E dX11_reads_92 ?_
                refine z_ic_le (tgt := 132) E (by omega) (by omega) dX11_reads_93 (by decide) (fun h_93 => ?_) (fun h_93 => ?_)
                · have hib := rdM_b i1
                  refine z_iload_n E 1 rfl rfl dX11_reads_132 ?_
                  refine z_if_eq (tgt := 151) E (by omega) dX11_reads_133 (by decide) (fun h_133 => ?_) (fun h_133 => ?_)
                  · refine z_iconst E dX11_reads_151 ?_
                    refine Zg.perm (ws' := [(m0, .inr (11, [.ref ms, .ref mp, .int (zi pn), .ref mt, .int (zi tyd), .ref mT, .ref mO, .ref mU, .int (zi ld), .long (zl up), .long (zl lw), .long (zl ua), .long (zl la), .long (zl bU), .int (zi bL), .int (zi sv), .int (zi xn), .int (zi yn), .int (zi a), .int (zi b), .int (zi e), .ref mr])), (mt, ai κ 40 TX), (mr, ai κ 21 R)]) [0, 2, 1] rfl rfl ?_
                    exact fin _ _ _ _ rfl (⟨_, _, _, _, Or.inr ⟨rfl, (by exact ((rdM_end i1 (by omega)).2 (by omega)).1)⟩, (by exact ((rdM_end i1 (by omega)).2 (by omega)).2), rfl⟩) dX11_reads_152
                  · refine z_aload_n E 0 rfl rfl dX11_reads_136 ?_
                    refine z_get E f_X11_177 0 rfl rfl dX11_reads_137 ?_
                    refine z_aload_n E 0 rfl rfl dX11_reads_140 ?_
                    refine z_get E f_X11_180 0 rfl rfl dX11_reads_141 ?_
                    refine z_ic_ne (tgt := 151) E (by omega) (by omega) dX11_reads_144 (by decide) (fun h_144 => ?_) (fun h_144 => ?_)
                    · refine z_iconst E dX11_reads_151 ?_
                      refine Zg.perm (ws' := [(m0, .inr (11, [.ref ms, .ref mp, .int (zi pn), .ref mt, .int (zi tyd), .ref mT, .ref mO, .ref mU, .int (zi ld), .long (zl up), .long (zl lw), .long (zl ua), .long (zl la), .long (zl bU), .int (zi bL), .int (zi sv), .int (zi xn), .int (zi yn), .int (zi a), .int (zi b), .int (zi e), .ref mr])), (mt, ai κ 40 TX), (mr, ai κ 21 R)]) [0, 2, 1] rfl rfl ?_
                      exact fin _ _ _ _ rfl (⟨_, _, _, _, Or.inr ⟨rfl, (by exact ((rdM_end i1 (by omega)).2 (by omega)).1)⟩, (by exact ((rdM_end i1 (by omega)).2 (by omega)).2), rfl⟩) dX11_reads_152
                    · refine z_iconst E dX11_reads_147 ?_
                      refine z_goto (tgt := 152) E dX11_reads_148 (by decide) ?_
                      refine Zg.perm (ws' := [(m0, .inr (11, [.ref ms, .ref mp, .int (zi pn), .ref mt, .int (zi tyd), .ref mT, .ref mO, .ref mU, .int (zi ld), .long (zl up), .long (zl lw), .long (zl ua), .long (zl la), .long (zl bU), .int (zi bL), .int (zi sv), .int (zi xn), .int (zi yn), .int (zi a), .int (zi b), .int (zi e), .ref mr])), (mt, ai κ 40 TX), (mr, ai κ 21 R)]) [0, 2, 1] rfl rfl ?_
                      exact fin _ _ _ _ rfl (⟨_, _, _, _, Or.inl ⟨rfl, (by exact ((rdM_end i1 (by omega)).1 h_133 (by omega)).1)⟩, (by exact ((rdM_end i1 (by omega)).1 h_133 (by omega)).2), rfl⟩) dX11_reads_152
                · refine z_aload_n E 0 rfl rfl dX11_reads_96 ?_
                  refine z_get E f_X11_177 0 rfl rfl dX11_reads_97 ?_
                  refine z_aload_n E 0 rfl rfl dX11_reads_100 ?_
                  refine z_get E f_X11_180 0 rfl rfl dX11_reads_101 ?_
                  refine z_ic_ge (tgt := 132) E (by omega) (by omega) dX11_reads_104 (by decide) (fun h_104 => ?_) (fun h_104 => ?_)
                  · have hib := rdM_b i1
                    refine z_iload_n E 1 rfl rfl dX11_reads_132 ?_
                    refine z_if_eq (tgt := 151) E (by omega) dX11_reads_133 (by decide) (fun h_133 => ?_) (fun h_133 => ?_)
                    · refine z_iconst E dX11_reads_151 ?_
                      refine Zg.perm (ws' := [(m0, .inr (11, [.ref ms, .ref mp, .int (zi pn), .ref mt, .int (zi tyd), .ref mT, .ref mO, .ref mU, .int (zi ld), .long (zl up), .long (zl lw), .long (zl ua), .long (zl la), .long (zl bU), .int (zi bL), .int (zi sv), .int (zi xn), .int (zi yn), .int (zi a), .int (zi b), .int (zi e), .ref mr])), (mt, ai κ 40 TX), (mr, ai κ 21 R)]) [0, 2, 1] rfl rfl ?_
                      exact fin _ _ _ _ rfl (⟨_, _, _, _, Or.inr ⟨rfl, (by exact ((rdM_end i1 (by omega)).2 (by omega)).1)⟩, (by exact ((rdM_end i1 (by omega)).2 (by omega)).2), rfl⟩) dX11_reads_152
                    · refine z_aload_n E 0 rfl rfl dX11_reads_136 ?_
                      refine z_get E f_X11_177 0 rfl rfl dX11_reads_137 ?_
                      refine z_aload_n E 0 rfl rfl dX11_reads_140 ?_
                      refine z_get E f_X11_180 0 rfl rfl dX11_reads_141 ?_
                      refine z_ic_ne (tgt := 151) E (by omega) (by omega) dX11_reads_144 (by decide) (fun h_144 => ?_) (fun h_144 => ?_)
                      · refine z_iconst E dX11_reads_151 ?_
                        refine Zg.perm (ws' := [(m0, .inr (11, [.ref ms, .ref mp, .int (zi pn), .ref mt, .int (zi tyd), .ref mT, .ref mO, .ref mU, .int (zi ld), .long (zl up), .long (zl lw), .long (zl ua), .long (zl la), .long (zl bU), .int (zi bL), .int (zi sv), .int (zi xn), .int (zi yn), .int (zi a), .int (zi b), .int (zi e), .ref mr])), (mt, ai κ 40 TX), (mr, ai κ 21 R)]) [0, 2, 1] rfl rfl ?_
                        exact fin _ _ _ _ rfl (⟨_, _, _, _, Or.inr ⟨rfl, (by exact ((rdM_end i1 (by omega)).2 (by omega)).1)⟩, (by exact ((rdM_end i1 (by omega)).2 (by omega)).2), rfl⟩) dX11_reads_152
                      · refine z_iconst E dX11_reads_147 ?_
                        refine z_goto (tgt := 152) E dX11_reads_148 (by decide) ?_
                        refine Zg.perm (ws' := [(m0, .inr (11, [.ref ms, .ref mp, .int (zi pn), .ref mt, .int (zi tyd), .ref mT, .ref mO, .ref mU, .int (zi ld), .long (zl up), .long (zl lw), .long (zl ua), .long (zl la), .long (zl bU), .int (zi bL), .int (zi sv), .int (zi xn), .int (zi yn), .int (zi a), .int (zi b), .int (zi e), .ref mr])), (mt, ai κ 40 TX), (mr, ai κ 21 R)]) [0, 2, 1] rfl rfl ?_
                        exact fin _ _ _ _ rfl (⟨_, _, _, _, Or.inl ⟨rfl, (by exact ((rdM_end i1 (by omega)).1 h_133 (by omega)).1)⟩, (by exact ((rdM_end i1 (by omega)).1 h_133 (by omega)).2), rfl⟩) dX11_reads_152
                  · obtain ⟨hb1, k, hk1, hk2, hk3, hk4, hk5⟩ := rdM_get i1 h_85
                    subst hb1
                    have htb := tE_bd hk1
                    have hcz := chA_out (c := TX) (n := tyd) (i := a)
                    refine z_aload_n E 0 rfl rfl dX11_reads_107 ?_
                    refine z_bipush E dX11_reads_108 (by decide) ?_
                    refine z_callVi (As := [.int (zi 44)]) (rest := []) (wr := [(mr, ai κ 21 R)]) E (c_X11_passes l D κ m0 ms mp pn mt tyd mT mO mU ld up lw ua la bU bL sv xn yn a 1 e mr TX 44 (by omega) (hC) (by omega) (by omega)) m_X11_197 ⟨Nat.le_of_ble_eq_true rfl, Nat.le_of_ble_eq_true rfl⟩ ⟨rfl, rfl⟩ [0, 2] [1] rfl rfl rfl rfl (by decide) rfl rfl rfl rfl (Nat.le_of_ble_eq_true rfl) dX11_reads_110 ⟨Nat.le_of_ble_eq_true rfl, Nat.le_of_ble_eq_true rfl⟩ (fun z110 w1 hq => ?_)
                    obtain ⟨sp'_9, ⟨rfl, hc_110⟩ | ⟨rfl, hc_110⟩, hs_110, rfl⟩ := hq
                    · refine z_if_eq (tgt := 127) E (by omega) dX11_reads_113 (by decide) (fun h => absurd h (by decide)) (fun _ => ?_)
                      refine z_aload_n E 0 rfl rfl dX11_reads_116 ?_
                      refine z_callVi (As := []) (rest := []) (wr := []) E (c_X11_later l D κ m0 ms mp pn mt tyd mT mO mU ld up lw ua la bU bL sv xn yn sp'_9 1 e mr TX R (by omega) (hC) (by omega) (by omega)) m_X11_200 ⟨Nat.le_of_ble_eq_true rfl, Nat.le_of_ble_eq_true rfl⟩ ⟨rfl, rfl⟩ [1, 2, 0] [] rfl rfl rfl rfl (by decide) rfl rfl rfl rfl (Nat.le_of_ble_eq_true rfl) dX11_reads_117 ⟨Nat.le_of_ble_eq_true rfl, Nat.le_of_ble_eq_true rfl⟩ (fun z117 w1 hq => ?_)
                      obtain ⟨sp'_10, rs'_11, pt'_12, RW'_13, ⟨rfl, hc_117⟩ | ⟨rfl, hc_117⟩, h2_117, rfl⟩ := hq
                      · refine z_if_eq (tgt := 127) E (by omega) dX11_reads_120 (by decide) (fun h => absurd h (by decide)) (fun _ => ?_)
                        refine z_iconst E dX11_reads_123 ?_
                        refine z_goto (tgt := 128) E dX11_reads_124 (by decide) ?_
                        refine z_istore_n (lv' := [(2, .int (zi 1)), (0, .ref m0)]) E dX11_reads_128 rfl (Nat.le_of_ble_eq_true rfl) rfl ?_
                        refine z_goto (tgt := 84) E dX11_reads_129 (by decide) ?_
                        refine Zg.sub (lv' := [(0, .ref m0), (2, .int (zi 1))]) [1, 0] rfl ?_
                        refine Zg.perm (ws' := [(m0, .inr (11, [.ref ms, .ref mp, .int (zi pn), .ref mt, .int (zi tyd), .ref mT, .ref mO, .ref mU, .int (zi ld), .long (zl up), .long (zl lw), .long (zl ua), .long (zl la), .long (zl bU), .int (zi bL), .int (zi sv), .int (zi xn), .int (zi yn), .int (zi sp'_10), .int (zi rs'_11), .int (zi pt'_12), .ref mr])), (mr, ai κ 21 RW'_13), (mt, ai κ 40 TX)]) [0, 2, 1] rfl rfl ?_
                        exact ih_84 1 sp'_10 rs'_11 pt'_12 RW'_13 (by have := laR_bd h2_117 (by omega); omega) ((rd_later hk1 hk2 (by omega) hk3 hk4 (by unfold due; rw [if_neg (by omega)]; exact hc_110) (by omega) h2_117).1 hc_117) (by have := rdM_b i1; have := h2_117.2; omega)
                      · refine z_if_eq (tgt := 127) E (by omega) dX11_reads_120 (by decide) (fun _ => ?_) (fun h => absurd h (by decide))
                        refine z_iconst E dX11_reads_127 ?_
                        refine z_istore_n (lv' := [(2, .int (zi 0)), (0, .ref m0)]) E dX11_reads_128 rfl (Nat.le_of_ble_eq_true rfl) rfl ?_
                        refine z_goto (tgt := 84) E dX11_reads_129 (by decide) ?_
                        refine Zg.sub (lv' := [(0, .ref m0), (2, .int (zi 0))]) [1, 0] rfl ?_
                        refine Zg.perm (ws' := [(m0, .inr (11, [.ref ms, .ref mp, .int (zi pn), .ref mt, .int (zi tyd), .ref mT, .ref mO, .ref mU, .int (zi ld), .long (zl up), .long (zl lw), .long (zl ua), .long (zl la), .long (zl bU), .int (zi bL), .int (zi sv), .int (zi xn), .int (zi yn), .int (zi sp'_10), .int (zi rs'_11), .int (zi pt'_12), .ref mr])), (mr, ai κ 21 RW'_13), (mt, ai κ 40 TX)]) [0, 2, 1] rfl rfl ?_
                        exact ih_84 0 sp'_10 rs'_11 pt'_12 RW'_13 (by have := laR_bd h2_117 (by omega); omega) ((rd_later hk1 hk2 (by omega) hk3 hk4 (by unfold due; rw [if_neg (by omega)]; exact hc_110) (by omega) h2_117).2 hc_117) (by have := rdM_b i1; have := h2_117.2; omega)
                    · refine z_if_eq (tgt := 127) E (by omega) dX11_reads_113 (by decide) (fun _ => ?_) (fun h => absurd h (by decide))
                      refine z_iconst E dX11_reads_127 ?_
                      refine z_istore_n (lv' := [(2, .int (zi 0)), (0, .ref m0)]) E dX11_reads_128 rfl (Nat.le_of_ble_eq_true rfl) rfl ?_
                      refine z_goto (tgt := 84) E dX11_reads_129 (by decide) ?_
                      refine Zg.sub (lv' := [(0, .ref m0), (2, .int (zi 0))]) [1, 0] rfl ?_
                      refine Zg.perm (ws' := [(m0, .inr (11, [.ref ms, .ref mp, .int (zi pn), .ref mt, .int (zi tyd), .ref mT, .ref mO, .ref mU, .int (zi ld), .long (zl up), .long (zl lw), .long (zl ua), .long (zl la), .long (zl bU), .int (zi bL), .int (zi sv), .int (zi xn), .int (zi yn), .int (zi sp'_9), .int (zi 1), .int (zi e), .ref mr])), (mr, ai κ 21 R), (mt, ai κ 40 TX)]) [1, 0, 2] rfl rfl ?_
                      exact ih_84 0 sp'_9 1 e R (by omega) (by rw [show (sp'_9 : Int) = a by omega]; exact rd_stop hk1 hk2 (by omega) (by unfold due; rw [if_neg (by omega)]; exact hc_110)) (by have := rdM_b i1; omega)
          refine Zg.sub (lv' := [(0, .ref m0), (2, .int (zi 1))]) [2, 0] rfl ?_
          refine Zg.perm (ws' := [(m0, .inr (11, [.ref ms, .ref mp, .int (zi pn), .ref mt, .int (zi tyd), .ref mT, .ref mO, .ref mU, .int (zi ld), .long (zl up), .long (zl lw), .long (zl ua), .long (zl la), .long (zl bU), .int (zi bL), .int (zi sv), .int (zi xn), .int (zi yn), .int (zi sp'_5), .int (zi rs'_6), .int (zi pt'_7), .ref mr])), (mr, ai κ 21 RW'_8), (mt, ai κ 40 TX)]) [0, 2, 1] rfl rfl ?_
          exact lp_84 ((2 * 1 + (22 - pt'_7) : Int).toNat + 1) 1 sp'_5 rs'_6 pt'_7 RW'_8 (by omega) (hrm) (by omega)
        · refine z_if_eq (tgt := 82) E (by omega) dX11_reads_75 (by decide) (fun _ => ?_) (fun h => absurd h (by decide))
          refine z_iconst E dX11_reads_82 ?_
          have hrm := (rd_later (k := 0) hft.1 hft.2.1 (by omega) (by omega) hrow0 (by rw [hd2]; exact hc_65) (by omega) h2_72).2 hc_72
          have hlb := laR_bd h2_72 (by omega)
          refine z_istore_n (lv' := [(2, .int (zi 0)), (1, .int (zi 1)), (0, .ref m0)]) E dX11_reads_83 rfl (Nat.le_of_ble_eq_true rfl) rfl ?_
          have lp_84 : ∀ (n_84 : Nat) (is : Int) (a : Int) (b : Int) (e : Int) (R : Int → Int), ((0 ≤ a ∧ a ≤ tyd) ∧ 0 ≤ e ∧ e ≤ 21) → (rdM TX tyd is a b e R) → (2 * is + (22 - e)) < (n_84 : Int) → Zg X [(m0, .inr (11, [.ref ms, .ref mp, .int (zi pn), .ref mt, .int (zi tyd), .ref mT, .ref mO, .ref mU, .int (zi ld), .long (zl up), .long (zl lw), .long (zl ua), .long (zl la), .long (zl bU), .int (zi bL), .int (zi sv), .int (zi xn), .int (zi yn), .int (zi a), .int (zi b), .int (zi e), .ref mr])), (mr, ai κ 21 R), (mt, ai κ 40 TX)] 0 0 84 [(0, .ref m0), (2, .int (zi is))] [] := by
            intro n_84
            induction n_84 with
            | zero =>
              intro is a b e R i0 i1 hmu
              exact absurd hmu (by have := rdM_b i1; omega)
            | succ n_84 ih_84 =>
              intro is a b e R i0 i1 hmu_84
              have hib0 := rdM_b i1
              refine z_iload_n E 1 rfl rfl dX11_reads_84 ?_
              refine z_if_eq (tgt := 132) E (by omega) dX11_reads_85 (by decide) (fun h_85 => ?_) (fun h_85 => ?_)
              · have hib := rdM_b i1
                refine z_iload_n E 1 rfl rfl dX11_reads_132 ?_
                refine z_if_eq (tgt := 151) E (by omega) dX11_reads_133 (by decide) (fun h_133 => ?_) (fun h_133 => ?_)
                · refine z_iconst E dX11_reads_151 ?_
                  refine Zg.perm (ws' := [(m0, .inr (11, [.ref ms, .ref mp, .int (zi pn), .ref mt, .int (zi tyd), .ref mT, .ref mO, .ref mU, .int (zi ld), .long (zl up), .long (zl lw), .long (zl ua), .long (zl la), .long (zl bU), .int (zi bL), .int (zi sv), .int (zi xn), .int (zi yn), .int (zi a), .int (zi b), .int (zi e), .ref mr])), (mt, ai κ 40 TX), (mr, ai κ 21 R)]) [0, 2, 1] rfl rfl ?_
                  exact fin _ _ _ _ rfl (⟨_, _, _, _, Or.inr ⟨rfl, (by exact ((rdM_end i1 (by omega)).2 (by omega)).1)⟩, (by exact ((rdM_end i1 (by omega)).2 (by omega)).2), rfl⟩) dX11_reads_152
                · refine z_aload_n E 0 rfl rfl dX11_reads_136 ?_
                  refine z_get E f_X11_177 0 rfl rfl dX11_reads_137 ?_
                  refine z_aload_n E 0 rfl rfl dX11_reads_140 ?_
                  refine z_get E f_X11_180 0 rfl rfl dX11_reads_141 ?_
                  refine z_ic_ne (tgt := 151) E (by omega) (by omega) dX11_reads_144 (by decide) (fun h_144 => ?_) (fun h_144 => ?_)
                  · refine z_iconst E dX11_reads_151 ?_
                    refine Zg.perm (ws' := [(m0, .inr (11, [.ref ms, .ref mp, .int (zi pn), .ref mt, .int (zi tyd), .ref mT, .ref mO, .ref mU, .int (zi ld), .long (zl up), .long (zl lw), .long (zl ua), .long (zl la), .long (zl bU), .int (zi bL), .int (zi sv), .int (zi xn), .int (zi yn), .int (zi a), .int (zi b), .int (zi e), .ref mr])), (mt, ai κ 40 TX), (mr, ai κ 21 R)]) [0, 2, 1] rfl rfl ?_
                    exact fin _ _ _ _ rfl (⟨_, _, _, _, Or.inr ⟨rfl, (by exact ((rdM_end i1 (by omega)).2 (by omega)).1)⟩, (by exact ((rdM_end i1 (by omega)).2 (by omega)).2), rfl⟩) dX11_reads_152
                  · refine z_iconst E dX11_reads_147 ?_
                    refine z_goto (tgt := 152) E dX11_reads_148 (by decide) ?_
                    refine Zg.perm (ws' := [(m0, .inr (11, [.ref ms, .ref mp, .int (zi pn), .ref mt, .int (zi tyd), .ref mT, .ref mO, .ref mU, .int (zi ld), .long (zl up), .long (zl lw), .long (zl ua), .long (zl la), .long (zl bU), .int (zi bL), .int (zi sv), .int (zi xn), .int (zi yn), .int (zi a), .int (zi b), .int (zi e), .ref mr])), (mt, ai κ 40 TX), (mr, ai κ 21 R)]) [0, 2, 1] rfl rfl ?_
                    exact fin _ _ _ _ rfl (⟨_, _, _, _, Or.inl ⟨rfl, (by exact ((rdM_end i1 (by omega)).1 h_133 (by omega)).1)⟩, (by exact ((rdM_end i1 (by omega)).1 h_133 (by omega)).2), rfl⟩) dX11_reads_152
              · refine z_aload_n E 0 rfl rfl dX11_reads_88 ?_
                refine z_get E f_X11_187 0 rfl rfl dX11_reads_89 ?_
                refine z_iconst E dX11_reads_92 ?_
                refine z_ic_le (tgt := 132) E (by omega) (by omega) dX11_reads_93 (by decide) (fun h_93 => ?_) (fun h_93 => ?_)
                · have hib := rdM_b i1
                  refine z_iload_n E 1 rfl rfl dX11_reads_132 ?_
                  refine z_if_eq (tgt := 151) E (by omega) dX11_reads_133 (by decide) (fun h_133 => ?_) (fun h_133 => ?_)
                  · refine z_iconst E dX11_reads_151 ?_
                    refine Zg.perm (ws' := [(m0, .inr (11, [.ref ms, .ref mp, .int (zi pn), .ref mt, .int (zi tyd), .ref mT, .ref mO, .ref mU, .int (zi ld), .long (zl up), .long (zl lw), .long (zl ua), .long (zl la), .long (zl bU), .int (zi bL), .int (zi sv), .int (zi xn), .int (zi yn), .int (zi a), .int (zi b), .int (zi e), .ref mr])), (mt, ai κ 40 TX), (mr, ai κ 21 R)]) [0, 2, 1] rfl rfl ?_
                    exact fin _ _ _ _ rfl (⟨_, _, _, _, Or.inr ⟨rfl, (by exact ((rdM_end i1 (by omega)).2 (by omega)).1)⟩, (by exact ((rdM_end i1 (by omega)).2 (by omega)).2), rfl⟩) dX11_reads_152
                  · refine z_aload_n E 0 rfl rfl dX11_reads_136 ?_
                    refine z_get E f_X11_177 0 rfl rfl dX11_reads_137 ?_
                    refine z_aload_n E 0 rfl rfl dX11_reads_140 ?_
                    refine z_get E f_X11_180 0 rfl rfl dX11_reads_141 ?_
                    refine z_ic_ne (tgt := 151) E (by omega) (by omega) dX11_reads_144 (by decide) (fun h_144 => ?_) (fun h_144 => ?_)
                    · refine z_iconst E dX11_reads_151 ?_
                      refine Zg.perm (ws' := [(m0, .inr (11, [.ref ms, .ref mp, .int (zi pn), .ref mt, .int (zi tyd), .ref mT, .ref mO, .ref mU, .int (zi ld), .long (zl up), .long (zl lw), .long (zl ua), .long (zl la), .long (zl bU), .int (zi bL), .int (zi sv), .int (zi xn), .int (zi yn), .int (zi a), .int (zi b), .int (zi e), .ref mr])), (mt, ai κ 40 TX), (mr, ai κ 21 R)]) [0, 2, 1] rfl rfl ?_
                      exact fin _ _ _ _ rfl (⟨_, _, _, _, Or.inr ⟨rfl, (by exact ((rdM_end i1 (by omega)).2 (by omega)).1)⟩, (by exact ((rdM_end i1 (by omega)).2 (by omega)).2), rfl⟩) dX11_reads_152
                    · refine z_iconst E dX11_reads_147 ?_
                      refine z_goto (tgt := 152) E dX11_reads_148 (by decide) ?_
                      refine Zg.perm (ws' := [(m0, .inr (11, [.ref ms, .ref mp, .int (zi pn), .ref mt, .int (zi tyd), .ref mT, .ref mO, .ref mU, .int (zi ld), .long (zl up), .long (zl lw), .long (zl ua), .long (zl la), .long (zl bU), .int (zi bL), .int (zi sv), .int (zi xn), .int (zi yn), .int (zi a), .int (zi b), .int (zi e), .ref mr])), (mt, ai κ 40 TX), (mr, ai κ 21 R)]) [0, 2, 1] rfl rfl ?_
                      exact fin _ _ _ _ rfl (⟨_, _, _, _, Or.inl ⟨rfl, (by exact ((rdM_end i1 (by omega)).1 h_133 (by omega)).1)⟩, (by exact ((rdM_end i1 (by omega)).1 h_133 (by omega)).2), rfl⟩) dX11_reads_152
                · refine z_aload_n E 0 rfl rfl dX11_reads_96 ?_
                  refine z_get E f_X11_177 0 rfl rfl dX11_reads_97 ?_
                  refine z_aload_n E 0 rfl rfl dX11_reads_100 ?_
                  refine z_get E f_X11_180 0 rfl rfl dX11_reads_101 ?_
                  refine z_ic_ge (tgt := 132) E (by omega) (by omega) dX11_reads_104 (by decide) (fun h_104 => ?_) (fun h_104 => ?_)
                  · have hib := rdM_b i1
                    refine z_iload_n E 1 rfl rfl dX11_reads_132 ?_
                    refine z_if_eq (tgt := 151) E (by omega) dX11_reads_133 (by decide) (fun h_133 => ?_) (fun h_133 => ?_)
                    · refine z_iconst E dX11_reads_151 ?_
                      refine Zg.perm (ws' := [(m0, .inr (11, [.ref ms, .ref mp, .int (zi pn), .ref mt, .int (zi tyd), .ref mT, .ref mO, .ref mU, .int (zi ld), .long (zl up), .long (zl lw), .long (zl ua), .long (zl la), .long (zl bU), .int (zi bL), .int (zi sv), .int (zi xn), .int (zi yn), .int (zi a), .int (zi b), .int (zi e), .ref mr])), (mt, ai κ 40 TX), (mr, ai κ 21 R)]) [0, 2, 1] rfl rfl ?_
                      exact fin _ _ _ _ rfl (⟨_, _, _, _, Or.inr ⟨rfl, (by exact ((rdM_end i1 (by omega)).2 (by omega)).1)⟩, (by exact ((rdM_end i1 (by omega)).2 (by omega)).2), rfl⟩) dX11_reads_152
                    · refine z_aload_n E 0 rfl rfl dX11_reads_136 ?_
                      refine z_get E f_X11_177 0 rfl rfl dX11_reads_137 ?_
                      refine z_aload_n E 0 rfl rfl dX11_reads_140 ?_
                      refine z_get E f_X11_180 0 rfl rfl dX11_reads_141 ?_
                      refine z_ic_ne (tgt := 151) E (by omega) (by omega) dX11_reads_144 (by decide) (fun h_144 => ?_) (fun h_144 => ?_)
                      · refine z_iconst E dX11_reads_151 ?_
                        refine Zg.perm (ws' := [(m0, .inr (11, [.ref ms, .ref mp, .int (zi pn), .ref mt, .int (zi tyd), .ref mT, .ref mO, .ref mU, .int (zi ld), .long (zl up), .long (zl lw), .long (zl ua), .long (zl la), .long (zl bU), .int (zi bL), .int (zi sv), .int (zi xn), .int (zi yn), .int (zi a), .int (zi b), .int (zi e), .ref mr])), (mt, ai κ 40 TX), (mr, ai κ 21 R)]) [0, 2, 1] rfl rfl ?_
                        exact fin _ _ _ _ rfl (⟨_, _, _, _, Or.inr ⟨rfl, (by exact ((rdM_end i1 (by omega)).2 (by omega)).1)⟩, (by exact ((rdM_end i1 (by omega)).2 (by omega)).2), rfl⟩) dX11_reads_152
                      · refine z_iconst E dX11_reads_147 ?_
                        refine z_goto (tgt := 152) E dX11_reads_148 (by decide) ?_
                        refine Zg.perm (ws' := [(m0, .inr (11, [.ref ms, .ref mp, .int (zi pn), .ref mt, .int (zi tyd), .ref mT, .ref mO, .ref mU, .int (zi ld), .long (zl up), .long (zl lw), .long (zl ua), .long (zl la), .long (zl bU), .int (zi bL), .int (zi sv), .int (zi xn), .int (zi yn), .int (zi a), .int (zi b), .int (zi e), .ref mr])), (mt, ai κ 40 TX), (mr, ai κ 21 R)]) [0, 2, 1] rfl rfl ?_
                        exact fin _ _ _ _ rfl (⟨_, _, _, _, Or.inl ⟨rfl, (by exact ((rdM_end i1 (by omega)).1 h_133 (by omega)).1)⟩, (by exact ((rdM_end i1 (by omega)).1 h_133 (by omega)).2), rfl⟩) dX11_reads_152
                  · obtain ⟨hb1, k, hk1, hk2, hk3, hk4, hk5⟩ := rdM_get i1 h_85
                    subst hb1
                    have htb := tE_bd hk1
                    have hcz := chA_out (c := TX) (n := tyd) (i := a)
                    refine z_aload_n E 0 rfl rfl dX11_reads_107 ?_
                    refine z_bipush E dX11_reads_108 (by decide) ?_
                    refine z_callVi (As := [.int (zi 44)]) (rest := []) (wr := [(mr, ai κ 21 R)]) E (c_X11_passes l D κ m0 ms mp pn mt tyd mT mO mU ld up lw ua la bU bL sv xn yn a 1 e mr TX 44 (by omega) (hC) (by omega) (by omega)) m_X11_197 ⟨Nat.le_of_ble_eq_true rfl, Nat.le_of_ble_eq_true rfl⟩ ⟨rfl, rfl⟩ [0, 2] [1] rfl rfl rfl rfl (by decide) rfl rfl rfl rfl (Nat.le_of_ble_eq_true rfl) dX11_reads_110 ⟨Nat.le_of_ble_eq_true rfl, Nat.le_of_ble_eq_true rfl⟩ (fun z110 w1 hq => ?_)
                    obtain ⟨sp'_14, ⟨rfl, hc_110⟩ | ⟨rfl, hc_110⟩, hs_110, rfl⟩ := hq
                    · refine z_if_eq (tgt := 127) E (by omega) dX11_reads_113 (by decide) (fun h => absurd h (by decide)) (fun _ => ?_)
                      refine z_aload_n E 0 rfl rfl dX11_reads_116 ?_
                      refine z_callVi (As := []) (rest := []) (wr := []) E (c_X11_later l D κ m0 ms mp pn mt tyd mT mO mU ld up lw ua la bU bL sv xn yn sp'_14 1 e mr TX R (by omega) (hC) (by omega) (by omega)) m_X11_200 ⟨Nat.le_of_ble_eq_true rfl, Nat.le_of_ble_eq_true rfl⟩ ⟨rfl, rfl⟩ [1, 2, 0] [] rfl rfl rfl rfl (by decide) rfl rfl rfl rfl (Nat.le_of_ble_eq_true rfl) dX11_reads_117 ⟨Nat.le_of_ble_eq_true rfl, Nat.le_of_ble_eq_true rfl⟩ (fun z117 w1 hq => ?_)
                      obtain ⟨sp'_15, rs'_16, pt'_17, RW'_18, ⟨rfl, hc_117⟩ | ⟨rfl, hc_117⟩, h2_117, rfl⟩ := hq
                      · refine z_if_eq (tgt := 127) E (by omega) dX11_reads_120 (by decide) (fun h => absurd h (by decide)) (fun _ => ?_)
                        refine z_iconst E dX11_reads_123 ?_
                        refine z_goto (tgt := 128) E dX11_reads_124 (by decide) ?_
                        refine z_istore_n (lv' := [(2, .int (zi 1)), (0, .ref m0)]) E dX11_reads_128 rfl (Nat.le_of_ble_eq_true rfl) rfl ?_
                        refine z_goto (tgt := 84) E dX11_reads_129 (by decide) ?_
                        refine Zg.sub (lv' := [(0, .ref m0), (2, .int (zi 1))]) [1, 0] rfl ?_
                        refine Zg.perm (ws' := [(m0, .inr (11, [.ref ms, .ref mp, .int (zi pn), .ref mt, .int (zi tyd), .ref mT, .ref mO, .ref mU, .int (zi ld), .long (zl up), .long (zl lw), .long (zl ua), .long (zl la), .long (zl bU), .int (zi bL), .int (zi sv), .int (zi xn), .int (zi yn), .int (zi sp'_15), .int (zi rs'_16), .int (zi pt'_17), .ref mr])), (mr, ai κ 21 RW'_18), (mt, ai κ 40 TX)]) [0, 2, 1] rfl rfl ?_
                        exact ih_84 1 sp'_15 rs'_16 pt'_17 RW'_18 (by have := laR_bd h2_117 (by omega); omega) ((rd_later hk1 hk2 (by omega) hk3 hk4 (by unfold due; rw [if_neg (by omega)]; exact hc_110) (by omega) h2_117).1 hc_117) (by have := rdM_b i1; have := h2_117.2; omega)
                      · refine z_if_eq (tgt := 127) E (by omega) dX11_reads_120 (by decide) (fun _ => ?_) (fun h => absurd h (by decide))
                        refine z_iconst E dX11_reads_127 ?_
                        refine z_istore_n (lv' := [(2, .int (zi 0)), (0, .ref m0)]) E dX11_reads_128 rfl (Nat.le_of_ble_eq_true rfl) rfl ?_
                        refine z_goto (tgt := 84) E dX11_reads_129 (by decide) ?_
                        refine Zg.sub (lv' := [(0, .ref m0), (2, .int (zi 0))]) [1, 0] rfl ?_
                        refine Zg.perm (ws' := [(m0, .inr (11, [.ref ms, .ref mp, .int (zi pn), .ref mt, .int (zi tyd), .ref mT, .ref mO, .ref mU, .int (zi ld), .long (zl up), .long (zl lw), .long (zl ua), .long (zl la), .long (zl bU), .int (zi bL), .int (zi sv), .int (zi xn), .int (zi yn), .int (zi sp'_15), .int (zi rs'_16), .int (zi pt'_17), .ref mr])), (mr, ai κ 21 RW'_18), (mt, ai κ 40 TX)]) [0, 2, 1] rfl rfl ?_
                        exact ih_84 0 sp'_15 rs'_16 pt'_17 RW'_18 (by have := laR_bd h2_117 (by omega); omega) ((rd_later hk1 hk2 (by omega) hk3 hk4 (by unfold due; rw [if_neg (by omega)]; exact hc_110) (by omega) h2_117).2 hc_117) (by have := rdM_b i1; have := h2_117.2; omega)
                    · refine z_if_eq (tgt := 127) E (by omega) dX11_reads_113 (by decide) (fun _ => ?_) (fun h => absurd h (by decide))
                      refine z_iconst E dX11_reads_127 ?_
                      refine z_istore_n (lv' := [(2, .int (zi 0)), (0, .ref m0)]) E dX11_reads_128 rfl (Nat.le_of_ble_eq_true rfl) rfl ?_
                      refine z_goto (tgt := 84) E dX11_reads_129 (by decide) ?_
                      refine Zg.sub (lv' := [(0, .ref m0), (2, .int (zi 0))]) [1, 0] rfl ?_
                      refine Zg.perm (ws' := [(m0, .inr (11, [.ref ms, .ref mp, .int (zi pn), .ref mt, .int (zi tyd), .ref mT, .ref mO, .ref mU, .int (zi ld), .long (zl up), .long (zl lw), .long (zl ua), .long (zl la), .long (zl bU), .int (zi bL), .int (zi sv), .int (zi xn), .int (zi yn), .int (zi sp'_14), .int (zi 1), .int (zi e), .ref mr])), (mr, ai κ 21 R), (mt, ai κ 40 TX)]) [1, 0, 2] rfl rfl ?_
                      exact ih_84 0 sp'_14 1 e R (by omega) (by rw [show (sp'_14 : Int) = a by omega]; exact rd_stop hk1 hk2 (by omega) (by unfold due; rw [if_neg (by omega)]; exact hc_110)) (by have := rdM_b i1; omega)
          refine Zg.sub (lv' := [(0, .ref m0), (2, .int (zi 0))]) [2, 0] rfl ?_
          refine Zg.perm (ws' := [(m0, .inr (11, [.ref ms, .ref mp, .int (zi pn), .ref mt, .int (zi tyd), .ref mT, .ref mO, .ref mU, .int (zi ld), .long (zl up), .long (zl lw), .long (zl ua), .long (zl la), .long (zl bU), .int (zi bL), .int (zi sv), .int (zi xn), .int (zi yn), .int (zi sp'_5), .int (zi rs'_6), .int (zi pt'_7), .ref mr])), (mr, ai κ 21 RW'_8), (mt, ai κ 40 TX)]) [0, 2, 1] rfl rfl ?_
          exact lp_84 ((2 * 0 + (22 - pt'_7) : Int).toNat + 1) 0 sp'_5 rs'_6 pt'_7 RW'_8 (by omega) (hrm) (by omega)
      · refine z_if_eq (tgt := 78) E (by omega) dX11_reads_68 (by decide) (fun _ => ?_) (fun h => absurd h (by decide))
        refine z_iconst E dX11_reads_78 ?_
        refine z_goto (tgt := 83) E dX11_reads_79 (by decide) ?_
        have hsq : sp'_4 = tE TX tyd 0 := by have := hft.2.1; omega
        have hrm : rdM TX tyd 1 (sp'_4) 1 1 (zu (zu RW 0 v'_3) 0 (-v'_3)) := Or.inl ⟨rfl, rfl, 0, hft.1, hsq, by omega, hrow0, fun _ => by rw [hsq, ← hft.2.1]; exact hc_65⟩
        refine z_istore_n (lv' := [(2, .int (zi 1)), (1, .int (zi 1)), (0, .ref m0)]) E dX11_reads_83 rfl (Nat.le_of_ble_eq_true rfl) rfl ?_
        have lp_84 : ∀ (n_84 : Nat) (is : Int) (a : Int) (b : Int) (e : Int) (R : Int → Int), ((0 ≤ a ∧ a ≤ tyd) ∧ 0 ≤ e ∧ e ≤ 21) → (rdM TX tyd is a b e R) → (2 * is + (22 - e)) < (n_84 : Int) → Zg X [(m0, .inr (11, [.ref ms, .ref mp, .int (zi pn), .ref mt, .int (zi tyd), .ref mT, .ref mO, .ref mU, .int (zi ld), .long (zl up), .long (zl lw), .long (zl ua), .long (zl la), .long (zl bU), .int (zi bL), .int (zi sv), .int (zi xn), .int (zi yn), .int (zi a), .int (zi b), .int (zi e), .ref mr])), (mr, ai κ 21 R), (mt, ai κ 40 TX)] 0 0 84 [(0, .ref m0), (2, .int (zi is))] [] := by
          intro n_84
          induction n_84 with
          | zero =>
            intro is a b e R i0 i1 hmu
            exact absurd hmu (by have := rdM_b i1; omega)
          | succ n_84 ih_84 =>
            intro is a b e R i0 i1 hmu_84
            have hib0 := rdM_b i1
            refine z_iload_n E 1 rfl rfl dX11_reads_84 ?_
            refine z_if_eq (tgt := 132) E (by omega) dX11_reads_85 (by decide) (fun h_85 => ?_) (fun h_85 => ?_)
            · have hib := rdM_b i1
              refine z_iload_n E 1 rfl rfl dX11_reads_132 ?_
              refine z_if_eq (tgt := 151) E (by omega) dX11_reads_133 (by decide) (fun h_133 => ?_) (fun h_133 => ?_)
              · refine z_iconst E dX11_reads_151 ?_
                refine Zg.perm (ws' := [(m0, .inr (11, [.ref ms, .ref mp, .int (zi pn), .ref mt, .int (zi tyd), .ref mT, .ref mO, .ref mU, .int (zi ld), .long (zl up), .long (zl lw), .long (zl ua), .long (zl la), .long (zl bU), .int (zi bL), .int (zi sv), .int (zi xn), .int (zi yn), .int (zi a), .int (zi b), .int (zi e), .ref mr])), (mt, ai κ 40 TX), (mr, ai κ 21 R)]) [0, 2, 1] rfl rfl ?_
                exact fin _ _ _ _ rfl (⟨_, _, _, _, Or.inr ⟨rfl, (by exact ((rdM_end i1 (by omega)).2 (by omega)).1)⟩, (by exact ((rdM_end i1 (by omega)).2 (by omega)).2), rfl⟩) dX11_reads_152
              · refine z_aload_n E 0 rfl rfl dX11_reads_136 ?_
                refine z_get E f_X11_177 0 rfl rfl dX11_reads_137 ?_
                refine z_aload_n E 0 rfl rfl dX11_reads_140 ?_
                refine z_get E f_X11_180 0 rfl rfl dX11_reads_141 ?_
                refine z_ic_ne (tgt := 151) E (by omega) (by omega) dX11_reads_144 (by decide) (fun h_144 => ?_) (fun h_144 => ?_)
                · refine z_iconst E dX11_reads_151 ?_
                  refine Zg.perm (ws' := [(m0, .inr (11, [.ref ms, .ref mp, .int (zi pn), .ref mt, .int (zi tyd), .ref mT, .ref mO, .ref mU, .int (zi ld), .long (zl up), .long (zl lw), .long (zl ua), .long (zl la), .long (zl bU), .int (zi bL), .int (zi sv), .int (zi xn), .int (zi yn), .int (zi a), .int (zi b), .int (zi e), .ref mr])), (mt, ai κ 40 TX), (mr, ai κ 21 R)]) [0, 2, 1] rfl rfl ?_
                  exact fin _ _ _ _ rfl (⟨_, _, _, _, Or.inr ⟨rfl, (by exact ((rdM_end i1 (by omega)).2 (by omega)).1)⟩, (by exact ((rdM_end i1 (by omega)).2 (by omega)).2), rfl⟩) dX11_reads_152
                · refine z_iconst E dX11_reads_147 ?_
                  refine z_goto (tgt := 152) E dX11_reads_148 (by decide) ?_
                  refine Zg.perm (ws' := [(m0, .inr (11, [.ref ms, .ref mp, .int (zi pn), .ref mt, .int (zi tyd), .ref mT, .ref mO, .ref mU, .int (zi ld), .long (zl up), .long (zl lw), .long (zl ua), .long (zl la), .long (zl bU), .int (zi bL), .int (zi sv), .int (zi xn), .int (zi yn), .int (zi a), .int (zi b), .int (zi e), .ref mr])), (mt, ai κ 40 TX), (mr, ai κ 21 R)]) [0, 2, 1] rfl rfl ?_
                  exact fin _ _ _ _ rfl (⟨_, _, _, _, Or.inl ⟨rfl, (by exact ((rdM_end i1 (by omega)).1 h_133 (by omega)).1)⟩, (by exact ((rdM_end i1 (by omega)).1 h_133 (by omega)).2), rfl⟩) dX11_reads_152
            · refine z_aload_n E 0 rfl rfl dX11_reads_88 ?_
              refine z_get E f_X11_187 0 rfl rfl dX11_reads_89 ?_
              refine z_iconst E dX11_reads_92 ?_
              refine z_ic_le (tgt := 132) E (by omega) (by omega) dX11_reads_93 (by decide) (fun h_93 => ?_) (fun h_93 => ?_)
              · have hib := rdM_b i1
                refine z_iload_n E 1 rfl rfl dX11_reads_132 ?_
                refine z_if_eq (tgt := 151) E (by omega) dX11_reads_133 (by decide) (fun h_133 => ?_) (fun h_133 => ?_)
                · refine z_iconst E dX11_reads_151 ?_
                  refine Zg.perm (ws' := [(m0, .inr (11, [.ref ms, .ref mp, .int (zi pn), .ref mt, .int (zi tyd), .ref mT, .ref mO, .ref mU, .int (zi ld), .long (zl up), .long (zl lw), .long (zl ua), .long (zl la), .long (zl bU), .int (zi bL), .int (zi sv), .int (zi xn), .int (zi yn), .int (zi a), .int (zi b), .int (zi e), .ref mr])), (mt, ai κ 40 TX), (mr, ai κ 21 R)]) [0, 2, 1] rfl rfl ?_
                  exact fin _ _ _ _ rfl (⟨_, _, _, _, Or.inr ⟨rfl, (by exact ((rdM_end i1 (by omega)).2 (by omega)).1)⟩, (by exact ((rdM_end i1 (by omega)).2 (by omega)).2), rfl⟩) dX11_reads_152
                · refine z_aload_n E 0 rfl rfl dX11_reads_136 ?_
                  refine z_get E f_X11_177 0 rfl rfl dX11_reads_137 ?_
                  refine z_aload_n E 0 rfl rfl dX11_reads_140 ?_
                  refine z_get E f_X11_180 0 rfl rfl dX11_reads_141 ?_
                  refine z_ic_ne (tgt := 151) E (by omega) (by omega) dX11_reads_144 (by decide) (fun h_144 => ?_) (fun h_144 => ?_)
                  · refine z_iconst E dX11_reads_151 ?_
                    refine Zg.perm (ws' := [(m0, .inr (11, [.ref ms, .ref mp, .int (zi pn), .ref mt, .int (zi tyd), .ref mT, .ref mO, .ref mU, .int (zi ld), .long (zl up), .long (zl lw), .long (zl ua), .long (zl la), .long (zl bU), .int (zi bL), .int (zi sv), .int (zi xn), .int (zi yn), .int (zi a), .int (zi b), .int (zi e), .ref mr])), (mt, ai κ 40 TX), (mr, ai κ 21 R)]) [0, 2, 1] rfl rfl ?_
                    exact fin _ _ _ _ rfl (⟨_, _, _, _, Or.inr ⟨rfl, (by exact ((rdM_end i1 (by omega)).2 (by omega)).1)⟩, (by exact ((rdM_end i1 (by omega)).2 (by omega)).2), rfl⟩) dX11_reads_152
                  · refine z_iconst E dX11_reads_147 ?_
                    refine z_goto (tgt := 152) E dX11_reads_148 (by decide) ?_
                    refine Zg.perm (ws' := [(m0, .inr (11, [.ref ms, .ref mp, .int (zi pn), .ref mt, .int (zi tyd), .ref mT, .ref mO, .ref mU, .int (zi ld), .long (zl up), .long (zl lw), .long (zl ua), .long (zl la), .long (zl bU), .int (zi bL), .int (zi sv), .int (zi xn), .int (zi yn), .int (zi a), .int (zi b), .int (zi e), .ref mr])), (mt, ai κ 40 TX), (mr, ai κ 21 R)]) [0, 2, 1] rfl rfl ?_
                    exact fin _ _ _ _ rfl (⟨_, _, _, _, Or.inl ⟨rfl, (by exact ((rdM_end i1 (by omega)).1 h_133 (by omega)).1)⟩, (by exact ((rdM_end i1 (by omega)).1 h_133 (by omega)).2), rfl⟩) dX11_reads_152
              · refine z_aload_n E 0 rfl rfl dX11_reads_96 ?_
                refine z_get E f_X11_177 0 rfl rfl dX11_reads_97 ?_
                refine z_aload_n E 0 rfl rfl dX11_reads_100 ?_
                refine z_get E f_X11_180 0 rfl rfl dX11_reads_101 ?_
                refine z_ic_ge (tgt := 132) E (by omega) (by omega) dX11_reads_104 (by decide) (fun h_104 => ?_) (fun h_104 => ?_)
                · have hib := rdM_b i1
                  refine z_iload_n E 1 rfl rfl dX11_reads_132 ?_
                  refine z_if_eq (tgt := 151) E (by omega) dX11_reads_133 (by decide) (fun h_133 => ?_) (fun h_133 => ?_)
                  · refine z_iconst E dX11_reads_151 ?_
                    refine Zg.perm (ws' := [(m0, .inr (11, [.ref ms, .ref mp, .int (zi pn), .ref mt, .int (zi tyd), .ref mT, .ref mO, .ref mU, .int (zi ld), .long (zl up), .long (zl lw), .long (zl ua), .long (zl la), .long (zl bU), .int (zi bL), .int (zi sv), .int (zi xn), .int (zi yn), .int (zi a), .int (zi b), .int (zi e), .ref mr])), (mt, ai κ 40 TX), (mr, ai κ 21 R)]) [0, 2, 1] rfl rfl ?_
                    exact fin _ _ _ _ rfl (⟨_, _, _, _, Or.inr ⟨rfl, (by exact ((rdM_end i1 (by omega)).2 (by omega)).1)⟩, (by exact ((rdM_end i1 (by omega)).2 (by omega)).2), rfl⟩) dX11_reads_152
                  · refine z_aload_n E 0 rfl rfl dX11_reads_136 ?_
                    refine z_get E f_X11_177 0 rfl rfl dX11_reads_137 ?_
                    refine z_aload_n E 0 rfl rfl dX11_reads_140 ?_
                    refine z_get E f_X11_180 0 rfl rfl dX11_reads_141 ?_
                    refine z_ic_ne (tgt := 151) E (by omega) (by omega) dX11_reads_144 (by decide) (fun h_144 => ?_) (fun h_144 => ?_)
                    · refine z_iconst E dX11_reads_151 ?_
                      refine Zg.perm (ws' := [(m0, .inr (11, [.ref ms, .ref mp, .int (zi pn), .ref mt, .int (zi tyd), .ref mT, .ref mO, .ref mU, .int (zi ld), .long (zl up), .long (zl lw), .long (zl ua), .long (zl la), .long (zl bU), .int (zi bL), .int (zi sv), .int (zi xn), .int (zi yn), .int (zi a), .int (zi b), .int (zi e), .ref mr])), (mt, ai κ 40 TX), (mr, ai κ 21 R)]) [0, 2, 1] rfl rfl ?_
                      exact fin _ _ _ _ rfl (⟨_, _, _, _, Or.inr ⟨rfl, (by exact ((rdM_end i1 (by omega)).2 (by omega)).1)⟩, (by exact ((rdM_end i1 (by omega)).2 (by omega)).2), rfl⟩) dX11_reads_152
                    · refine z_iconst E dX11_reads_147 ?_
                      refine z_goto (tgt := 152) E dX11_reads_148 (by decide) ?_
                      refine Zg.perm (ws' := [(m0, .inr (11, [.ref ms, .ref mp, .int (zi pn), .ref mt, .int (zi tyd), .ref mT, .ref mO, .ref mU, .int (zi ld), .long (zl up), .long (zl lw), .long (zl ua), .long (zl la), .long (zl bU), .int (zi bL), .int (zi sv), .int (zi xn), .int (zi yn), .int (zi a), .int (zi b), .int (zi e), .ref mr])), (mt, ai κ 40 TX), (mr, ai κ 21 R)]) [0, 2, 1] rfl rfl ?_
                      exact fin _ _ _ _ rfl (⟨_, _, _, _, Or.inl ⟨rfl, (by exact ((rdM_end i1 (by omega)).1 h_133 (by omega)).1)⟩, (by exact ((rdM_end i1 (by omega)).1 h_133 (by omega)).2), rfl⟩) dX11_reads_152
                · obtain ⟨hb1, k, hk1, hk2, hk3, hk4, hk5⟩ := rdM_get i1 h_85
                  subst hb1
                  have htb := tE_bd hk1
                  have hcz := chA_out (c := TX) (n := tyd) (i := a)
                  refine z_aload_n E 0 rfl rfl dX11_reads_107 ?_
                  refine z_bipush E dX11_reads_108 (by decide) ?_
                  refine z_callVi (As := [.int (zi 44)]) (rest := []) (wr := [(mr, ai κ 21 R)]) E (c_X11_passes l D κ m0 ms mp pn mt tyd mT mO mU ld up lw ua la bU bL sv xn yn a 1 e mr TX 44 (by omega) (hC) (by omega) (by omega)) m_X11_197 ⟨Nat.le_of_ble_eq_true rfl, Nat.le_of_ble_eq_true rfl⟩ ⟨rfl, rfl⟩ [0, 2] [1] rfl rfl rfl rfl (by decide) rfl rfl rfl rfl (Nat.le_of_ble_eq_true rfl) dX11_reads_110 ⟨Nat.le_of_ble_eq_true rfl, Nat.le_of_ble_eq_true rfl⟩ (fun z110 w1 hq => ?_)
                  obtain ⟨sp'_19, ⟨rfl, hc_110⟩ | ⟨rfl, hc_110⟩, hs_110, rfl⟩ := hq
                  · refine z_if_eq (tgt := 127) E (by omega) dX11_reads_113 (by decide) (fun h => absurd h (by decide)) (fun _ => ?_)
                    refine z_aload_n E 0 rfl rfl dX11_reads_116 ?_
                    refine z_callVi (As := []) (rest := []) (wr := []) E (c_X11_later l D κ m0 ms mp pn mt tyd mT mO mU ld up lw ua la bU bL sv xn yn sp'_19 1 e mr TX R (by omega) (hC) (by omega) (by omega)) m_X11_200 ⟨Nat.le_of_ble_eq_true rfl, Nat.le_of_ble_eq_true rfl⟩ ⟨rfl, rfl⟩ [1, 2, 0] [] rfl rfl rfl rfl (by decide) rfl rfl rfl rfl (Nat.le_of_ble_eq_true rfl) dX11_reads_117 ⟨Nat.le_of_ble_eq_true rfl, Nat.le_of_ble_eq_true rfl⟩ (fun z117 w1 hq => ?_)
                    obtain ⟨sp'_20, rs'_21, pt'_22, RW'_23, ⟨rfl, hc_117⟩ | ⟨rfl, hc_117⟩, h2_117, rfl⟩ := hq
                    · refine z_if_eq (tgt := 127) E (by omega) dX11_reads_120 (by decide) (fun h => absurd h (by decide)) (fun _ => ?_)
                      refine z_iconst E dX11_reads_123 ?_
                      refine z_goto (tgt := 128) E dX11_reads_124 (by decide) ?_
                      refine z_istore_n (lv' := [(2, .int (zi 1)), (0, .ref m0)]) E dX11_reads_128 rfl (Nat.le_of_ble_eq_true rfl) rfl ?_
                      refine z_goto (tgt := 84) E dX11_reads_129 (by decide) ?_
                      refine Zg.sub (lv' := [(0, .ref m0), (2, .int (zi 1))]) [1, 0] rfl ?_
                      refine Zg.perm (ws' := [(m0, .inr (11, [.ref ms, .ref mp, .int (zi pn), .ref mt, .int (zi tyd), .ref mT, .ref mO, .ref mU, .int (zi ld), .long (zl up), .long (zl lw), .long (zl ua), .long (zl la), .long (zl bU), .int (zi bL), .int (zi sv), .int (zi xn), .int (zi yn), .int (zi sp'_20), .int (zi rs'_21), .int (zi pt'_22), .ref mr])), (mr, ai κ 21 RW'_23), (mt, ai κ 40 TX)]) [0, 2, 1] rfl rfl ?_
                      exact ih_84 1 sp'_20 rs'_21 pt'_22 RW'_23 (by have := laR_bd h2_117 (by omega); omega) ((rd_later hk1 hk2 (by omega) hk3 hk4 (by unfold due; rw [if_neg (by omega)]; exact hc_110) (by omega) h2_117).1 hc_117) (by have := rdM_b i1; have := h2_117.2; omega)
                    · refine z_if_eq (tgt := 127) E (by omega) dX11_reads_120 (by decide) (fun _ => ?_) (fun h => absurd h (by decide))
                      refine z_iconst E dX11_reads_127 ?_
                      refine z_istore_n (lv' := [(2, .int (zi 0)), (0, .ref m0)]) E dX11_reads_128 rfl (Nat.le_of_ble_eq_true rfl) rfl ?_
                      refine z_goto (tgt := 84) E dX11_reads_129 (by decide) ?_
                      refine Zg.sub (lv' := [(0, .ref m0), (2, .int (zi 0))]) [1, 0] rfl ?_
                      refine Zg.perm (ws' := [(m0, .inr (11, [.ref ms, .ref mp, .int (zi pn), .ref mt, .int (zi tyd), .ref mT, .ref mO, .ref mU, .int (zi ld), .long (zl up), .long (zl lw), .long (zl ua), .long (zl la), .long (zl bU), .int (zi bL), .int (zi sv), .int (zi xn), .int (zi yn), .int (zi sp'_20), .int (zi rs'_21), .int (zi pt'_22), .ref mr])), (mr, ai κ 21 RW'_23), (mt, ai κ 40 TX)]) [0, 2, 1] rfl rfl ?_
                      exact ih_84 0 sp'_20 rs'_21 pt'_22 RW'_23 (by have := laR_bd h2_117 (by omega); omega) ((rd_later hk1 hk2 (by omega) hk3 hk4 (by unfold due; rw [if_neg (by omega)]; exact hc_110) (by omega) h2_117).2 hc_117) (by have := rdM_b i1; have := h2_117.2; omega)
                  · refine z_if_eq (tgt := 127) E (by omega) dX11_reads_113 (by decide) (fun _ => ?_) (fun h => absurd h (by decide))
                    refine z_iconst E dX11_reads_127 ?_
                    refine z_istore_n (lv' := [(2, .int (zi 0)), (0, .ref m0)]) E dX11_reads_128 rfl (Nat.le_of_ble_eq_true rfl) rfl ?_
                    refine z_goto (tgt := 84) E dX11_reads_129 (by decide) ?_
                    refine Zg.sub (lv' := [(0, .ref m0), (2, .int (zi 0))]) [1, 0] rfl ?_
                    refine Zg.perm (ws' := [(m0, .inr (11, [.ref ms, .ref mp, .int (zi pn), .ref mt, .int (zi tyd), .ref mT, .ref mO, .ref mU, .int (zi ld), .long (zl up), .long (zl lw), .long (zl ua), .long (zl la), .long (zl bU), .int (zi bL), .int (zi sv), .int (zi xn), .int (zi yn), .int (zi sp'_19), .int (zi 1), .int (zi e), .ref mr])), (mr, ai κ 21 R), (mt, ai κ 40 TX)]) [1, 0, 2] rfl rfl ?_
                    exact ih_84 0 sp'_19 1 e R (by omega) (by rw [show (sp'_19 : Int) = a by omega]; exact rd_stop hk1 hk2 (by omega) (by unfold due; rw [if_neg (by omega)]; exact hc_110)) (by have := rdM_b i1; omega)
        refine Zg.sub (lv' := [(0, .ref m0), (2, .int (zi 1))]) [2, 0] rfl ?_
        refine Zg.perm (ws' := [(m0, .inr (11, [.ref ms, .ref mp, .int (zi pn), .ref mt, .int (zi tyd), .ref mT, .ref mO, .ref mU, .int (zi ld), .long (zl up), .long (zl lw), .long (zl ua), .long (zl la), .long (zl bU), .int (zi bL), .int (zi sv), .int (zi xn), .int (zi yn), .int (zi sp'_4), .int (zi 1), .int (zi 1), .ref mr])), (mr, ai κ 21 (zu (zu RW 0 v'_3) 0 (-v'_3))), (mt, ai κ 40 TX)]) [1, 0, 2] rfl rfl ?_
        exact lp_84 ((2 * 1 + (22 - 1) : Int).toNat + 1) 1 sp'_4 1 1 (zu (zu RW 0 v'_3) 0 (-v'_3)) (by omega) (hrm) (by omega)
    · have hnb := nuR_bd hr_23 (by omega)
      have hfi := rd_first (by omega) hr_23
      refine z_if_ne (tgt := 31) E (by omega) dX11_reads_26 (by decide) (fun h => absurd h (by decide)) (fun _ => ?_)
      refine z_iconst E dX11_reads_29 ?_
      exact fin _ _ _ _ rfl (⟨_, _, _, _, Or.inr ⟨rfl, (by exact fun ⟨k, hk⟩ => tFine_bad hk (hfi.1 hc_23))⟩, (by exact Or.inr (hfi.1 hc_23)), rfl⟩) dX11_reads_30
  · refine z_istore_n (lv' := [(1, .int (zi 0)), (0, .ref m0)]) E dX11_reads_21 rfl (Nat.le_of_ble_eq_true rfl) rfl ?_
    have hcz0 := chA_out (c := TX) (n := tyd) (i := 0)
    refine z_aload_n E 1 rfl rfl dX11_reads_22 ?_
    refine z_callVi (As := []) (rest := []) (wr := []) E (c_X11_number l D κ m0 ms mp pn mt tyd mT mO mU ld up lw ua la bU bL sv xn yn sp'_1 1 0 mr TX RW (by omega) (hC) (by omega) (by omega)) m_X11_190 ⟨Nat.le_of_ble_eq_true rfl, Nat.le_of_ble_eq_true rfl⟩ ⟨rfl, rfl⟩ [1, 2, 0] [] rfl rfl rfl rfl (by decide) rfl rfl rfl rfl (Nat.le_of_ble_eq_true rfl) dX11_reads_23 ⟨Nat.le_of_ble_eq_true rfl, Nat.le_of_ble_eq_true rfl⟩ (fun z23 w1 hq => ?_)
    obtain ⟨sp'_24, v'_25, ⟨rfl, hc_23⟩ | ⟨rfl, hc_23⟩, hr_23, rfl⟩ := hq
    · have hnb := nuR_bd hr_23 (by omega)
      have hfi := rd_first (by omega) hr_23
      refine z_if_ne (tgt := 31) E (by omega) dX11_reads_26 (by decide) (fun _ => ?_) (fun h => absurd h (by decide))
      refine z_aload_n E 1 rfl rfl dX11_reads_31 ?_
      refine z_get E f_X11_29 0 rfl rfl dX11_reads_32 ?_
      refine z_iconst E dX11_reads_35 ?_
      refine z_iload_n E 0 rfl rfl dX11_reads_36 ?_
      refine z_if_eq (tgt := 50) E (by omega) dX11_reads_37 (by decide) (fun _ => ?_) (fun h => absurd h (by decide))
      refine z_aload_n E 1 rfl rfl dX11_reads_50 ?_
      refine z_get E f_X11_29 0 rfl rfl dX11_reads_51 ?_
      refine z_iconst E dX11_reads_54 ?_
      refine z_iald E 2 rfl (Nat.le_of_ble_eq_true rfl) (by omega) (by omega) dX11_reads_55 ?_
      rw [zu_s]
      refine z_iast (ws' := [(m0, .inr (11, [.ref ms, .ref mp, .int (zi pn), .ref mt, .int (zi tyd), .ref mT, .ref mO, .ref mU, .int (zi ld), .long (zl up), .long (zl lw), .long (zl ua), .long (zl la), .long (zl bU), .int (zi bL), .int (zi sv), .int (zi xn), .int (zi yn), .int (zi sp'_24), .int (zi 1), .int (zi 0), .ref mr])), (mt, ai κ 40 TX), (mr, ai κ 21 (zu (zu RW 0 v'_25) 0 v'_25))]) E 2 rfl (Nat.le_of_ble_eq_true rfl) (by omega) (by omega) rfl dX11_reads_56 ?_
      have hft := hfi.2 hc_23
      have hrow0 : ∀ i : Int, 0 ≤ i → i ≤ ((0 : Nat) : Int) → (zu (zu RW 0 v'_25) 0 v'_25) i = tV TX tyd i.toNat := fun i i1 i2 => by
        have e : i = 0 := by omega
        subst e
        rw [zu_s]
        show _ = tV TX tyd 0
        rw [hft.2.2, if_neg hc_18]
      have hcz := chA_out (c := TX) (n := tyd) (i := sp'_24)
      have hd2 : due 0 = 59 := rfl
      refine z_aload_n E 1 rfl rfl dX11_reads_57 ?_
      refine z_iconst E dX11_reads_58 ?_
      refine z_put (ws' := [(m0, .inr (11, [.ref ms, .ref mp, .int (zi pn), .ref mt, .int (zi tyd), .ref mT, .ref mO, .ref mU, .int (zi ld), .long (zl up), .long (zl lw), .long (zl ua), .long (zl la), .long (zl bU), .int (zi bL), .int (zi sv), .int (zi xn), .int (zi yn), .int (zi sp'_24), .int (zi 1), .int (zi 1), .ref mr])), (mt, ai κ 40 TX), (mr, ai κ 21 (zu (zu RW 0 v'_25) 0 v'_25))]) E f_X11_187 t_X11_20 0 rfl rfl rfl (Nat.le_of_ble_eq_true rfl) rfl dX11_reads_59 ?_
      refine z_aload_n E 1 rfl rfl dX11_reads_62 ?_
      refine z_bipush E dX11_reads_63 (by decide) ?_
      refine z_callVi (As := [.int (zi 59)]) (rest := []) (wr := [(mr, ai κ 21 (zu (zu RW 0 v'_25) 0 v'_25))]) E (c_X11_passes l D κ m0 ms mp pn mt tyd mT mO mU ld up lw ua la bU bL sv xn yn sp'_24 1 1 mr TX 59 (by omega) (hC) (by omega) (by omega)) m_X11_197 ⟨Nat.le_of_ble_eq_true rfl, Nat.le_of_ble_eq_true rfl⟩ ⟨rfl, rfl⟩ [0, 1] [2] rfl rfl rfl rfl (by decide) rfl rfl rfl rfl (Nat.le_of_ble_eq_true rfl) dX11_reads_65 ⟨Nat.le_of_ble_eq_true rfl, Nat.le_of_ble_eq_true rfl⟩ (fun z65 w1 hq => ?_)
      obtain ⟨sp'_26, ⟨rfl, hc_65⟩ | ⟨rfl, hc_65⟩, hs_65, rfl⟩ := hq
      · refine z_if_eq (tgt := 78) E (by omega) dX11_reads_68 (by decide) (fun h => absurd h (by decide)) (fun _ => ?_)
        refine z_aload_n E 1 rfl rfl dX11_reads_71 ?_
        refine z_callVi (As := []) (rest := []) (wr := []) E (c_X11_later l D κ m0 ms mp pn mt tyd mT mO mU ld up lw ua la bU bL sv xn yn sp'_26 1 1 mr TX (zu (zu RW 0 v'_25) 0 v'_25) (by omega) (hC) (by omega) (by omega)) m_X11_200 ⟨Nat.le_of_ble_eq_true rfl, Nat.le_of_ble_eq_true rfl⟩ ⟨rfl, rfl⟩ [1, 2, 0] [] rfl rfl rfl rfl (by decide) rfl rfl rfl rfl (Nat.le_of_ble_eq_true rfl) dX11_reads_72 ⟨Nat.le_of_ble_eq_true rfl, Nat.le_of_ble_eq_true rfl⟩ (fun z72 w1 hq => ?_)
        obtain ⟨sp'_27, rs'_28, pt'_29, RW'_30, ⟨rfl, hc_72⟩ | ⟨rfl, hc_72⟩, h2_72, rfl⟩ := hq
        · refine z_if_eq (tgt := 82) E (by omega) dX11_reads_75 (by decide) (fun h => absurd h (by decide)) (fun _ => ?_)
          refine z_iconst E dX11_reads_78 ?_
          refine z_goto (tgt := 83) E dX11_reads_79 (by decide) ?_
          have hrm := (rd_later (k := 0) hft.1 hft.2.1 (by omega) (by omega) hrow0 (by rw [hd2]; exact hc_65) (by omega) h2_72).1 hc_72
          have hlb := laR_bd h2_72 (by omega)
          refine z_istore_n (lv' := [(2, .int (zi 1)), (1, .int (zi 0)), (0, .ref m0)]) E dX11_reads_83 rfl (Nat.le_of_ble_eq_true rfl) rfl ?_
          have lp_84 : ∀ (n_84 : Nat) (is : Int) (a : Int) (b : Int) (e : Int) (R : Int → Int), ((0 ≤ a ∧ a ≤ tyd) ∧ 0 ≤ e ∧ e ≤ 21) → (rdM TX tyd is a b e R) → (2 * is + (22 - e)) < (n_84 : Int) → Zg X [(m0, .inr (11, [.ref ms, .ref mp, .int (zi pn), .ref mt, .int (zi tyd), .ref mT, .ref mO, .ref mU, .int (zi ld), .long (zl up), .long (zl lw), .long (zl ua), .long (zl la), .long (zl bU), .int (zi bL), .int (zi sv), .int (zi xn), .int (zi yn), .int (zi a), .int (zi b), .int (zi e), .ref mr])), (mr, ai κ 21 R), (mt, ai κ 40 TX)] 0 0 84 [(0, .ref m0), (2, .int (zi is))] [] := by
            intro n_84
            induction n_84 with
            | zero =>
              intro is a b e R i0 i1 hmu
              exact absurd hmu (by have := rdM_b i1; omega)
            | succ n_84 ih_84 =>
              intro is a b e R i0 i1 hmu_84
              have hib0 := rdM_b i1
              refine z_iload_n E 1 rfl rfl dX11_reads_84 ?_
              refine z_if_eq (tgt := 132) E (by omega) dX11_reads_85 (by decide) (fun h_85 => ?_) (fun h_85 => ?_)
              · have hib := rdM_b i1
                refine z_iload_n E 1 rfl rfl dX11_reads_132 ?_
                refine z_if_eq (tgt := 151) E (by omega) dX11_reads_133 (by decide) (fun h_133 => ?_) (fun h_133 => ?_)
                · refine z_iconst E dX11_reads_151 ?_
                  refine Zg.perm (ws' := [(m0, .inr (11, [.ref ms, .ref mp, .int (zi pn), .ref mt, .int (zi tyd), .ref mT, .ref mO, .ref mU, .int (zi ld), .long (zl up), .long (zl lw), .long (zl ua), .long (zl la), .long (zl bU), .int (zi bL), .int (zi sv), .int (zi xn), .int (zi yn), .int (zi a), .int (zi b), .int (zi e), .ref mr])), (mt, ai κ 40 TX), (mr, ai κ 21 R)]) [0, 2, 1] rfl rfl ?_
                  exact fin _ _ _ _ rfl (⟨_, _, _, _, Or.inr ⟨rfl, (by exact ((rdM_end i1 (by omega)).2 (by omega)).1)⟩, (by exact ((rdM_end i1 (by omega)).2 (by omega)).2), rfl⟩) dX11_reads_152
                · refine z_aload_n E 0 rfl rfl dX11_reads_136 ?_
                  refine z_get E f_X11_177 0 rfl rfl dX11_reads_137 ?_
                  refine z_aload_n E 0 rfl rfl dX11_reads_140 ?_
                  refine z_get E f_X11_180 0 rfl rfl dX11_reads_141 ?_
                  refine z_ic_ne (tgt := 151) E (by omega) (by omega) dX11_reads_144 (by decide) (fun h_144 => ?_) (fun h_144 => ?_)
                  · refine z_iconst E dX11_reads_151 ?_
                    refine Zg.perm (ws' := [(m0, .inr (11, [.ref ms, .ref mp, .int (zi pn), .ref mt, .int (zi tyd), .ref mT, .ref mO, .ref mU, .int (zi ld), .long (zl up), .long (zl lw), .long (zl ua), .long (zl la), .long (zl bU), .int (zi bL), .int (zi sv), .int (zi xn), .int (zi yn), .int (zi a), .int (zi b), .int (zi e), .ref mr])), (mt, ai κ 40 TX), (mr, ai κ 21 R)]) [0, 2, 1] rfl rfl ?_
                    exact fin _ _ _ _ rfl (⟨_, _, _, _, Or.inr ⟨rfl, (by exact ((rdM_end i1 (by omega)).2 (by omega)).1)⟩, (by exact ((rdM_end i1 (by omega)).2 (by omega)).2), rfl⟩) dX11_reads_152
                  · refine z_iconst E dX11_reads_147 ?_
                    refine z_goto (tgt := 152) E dX11_reads_148 (by decide) ?_
                    refine Zg.perm (ws' := [(m0, .inr (11, [.ref ms, .ref mp, .int (zi pn), .ref mt, .int (zi tyd), .ref mT, .ref mO, .ref mU, .int (zi ld), .long (zl up), .long (zl lw), .long (zl ua), .long (zl la), .long (zl bU), .int (zi bL), .int (zi sv), .int (zi xn), .int (zi yn), .int (zi a), .int (zi b), .int (zi e), .ref mr])), (mt, ai κ 40 TX), (mr, ai κ 21 R)]) [0, 2, 1] rfl rfl ?_
                    exact fin _ _ _ _ rfl (⟨_, _, _, _, Or.inl ⟨rfl, (by exact ((rdM_end i1 (by omega)).1 h_133 (by omega)).1)⟩, (by exact ((rdM_end i1 (by omega)).1 h_133 (by omega)).2), rfl⟩) dX11_reads_152
              · refine z_aload_n E 0 rfl rfl dX11_reads_88 ?_
                refine z_get E f_X11_187 0 rfl rfl dX11_reads_89 ?_
                refine z_iconst E dX11_reads_92 ?_
                refine z_ic_le (tgt := 132) E (by omega) (by omega) dX11_reads_93 (by decide) (fun h_93 => ?_) (fun h_93 => ?_)
                · have hib := rdM_b i1
                  refine z_iload_n E 1 rfl rfl dX11_reads_132 ?_
                  refine z_if_eq (tgt := 151) E (by omega) dX11_reads_133 (by decide) (fun h_133 => ?_) (fun h_133 => ?_)
                  · refine z_iconst E dX11_reads_151 ?_
                    refine Zg.perm (ws' := [(m0, .inr (11, [.ref ms, .ref mp, .int (zi pn), .ref mt, .int (zi tyd), .ref mT, .ref mO, .ref mU, .int (zi ld), .long (zl up), .long (zl lw), .long (zl ua), .long (zl la), .long (zl bU), .int (zi bL), .int (zi sv), .int (zi xn), .int (zi yn), .int (zi a), .int (zi b), .int (zi e), .ref mr])), (mt, ai κ 40 TX), (mr, ai κ 21 R)]) [0, 2, 1] rfl rfl ?_
                    exact fin _ _ _ _ rfl (⟨_, _, _, _, Or.inr ⟨rfl, (by exact ((rdM_end i1 (by omega)).2 (by omega)).1)⟩, (by exact ((rdM_end i1 (by omega)).2 (by omega)).2), rfl⟩) dX11_reads_152
                  · refine z_aload_n E 0 rfl rfl dX11_reads_136 ?_
                    refine z_get E f_X11_177 0 rfl rfl dX11_reads_137 ?_
                    refine z_aload_n E 0 rfl rfl dX11_reads_140 ?_
                    refine z_get E f_X11_180 0 rfl rfl dX11_reads_141 ?_
                    refine z_ic_ne (tgt := 151) E (by omega) (by omega) dX11_reads_144 (by decide) (fun h_144 => ?_) (fun h_144 => ?_)
                    · refine z_iconst E dX11_reads_151 ?_
                      refine Zg.perm (ws' := [(m0, .inr (11, [.ref ms, .ref mp, .int (zi pn), .ref mt, .int (zi tyd), .ref mT, .ref mO, .ref mU, .int (zi ld), .long (zl up), .long (zl lw), .long (zl ua), .long (zl la), .long (zl bU), .int (zi bL), .int (zi sv), .int (zi xn), .int (zi yn), .int (zi a), .int (zi b), .int (zi e), .ref mr])), (mt, ai κ 40 TX), (mr, ai κ 21 R)]) [0, 2, 1] rfl rfl ?_
                      exact fin _ _ _ _ rfl (⟨_, _, _, _, Or.inr ⟨rfl, (by exact ((rdM_end i1 (by omega)).2 (by omega)).1)⟩, (by exact ((rdM_end i1 (by omega)).2 (by omega)).2), rfl⟩) dX11_reads_152
                    · refine z_iconst E dX11_reads_147 ?_
                      refine z_goto (tgt := 152) E dX11_reads_148 (by decide) ?_
                      refine Zg.perm (ws' := [(m0, .inr (11, [.ref ms, .ref mp, .int (zi pn), .ref mt, .int (zi tyd), .ref mT, .ref mO, .ref mU, .int (zi ld), .long (zl up), .long (zl lw), .long (zl ua), .long (zl la), .long (zl bU), .int (zi bL), .int (zi sv), .int (zi xn), .int (zi yn), .int (zi a), .int (zi b), .int (zi e), .ref mr])), (mt, ai κ 40 TX), (mr, ai κ 21 R)]) [0, 2, 1] rfl rfl ?_
                      exact fin _ _ _ _ rfl (⟨_, _, _, _, Or.inl ⟨rfl, (by exact ((rdM_end i1 (by omega)).1 h_133 (by omega)).1)⟩, (by exact ((rdM_end i1 (by omega)).1 h_133 (by omega)).2), rfl⟩) dX11_reads_152
                · refine z_aload_n E 0 rfl rfl dX11_reads_96 ?_
                  refine z_get E f_X11_177 0 rfl rfl dX11_reads_97 ?_
                  refine z_aload_n E 0 rfl rfl dX11_reads_100 ?_
                  refine z_get E f_X11_180 0 rfl rfl dX11_reads_101 ?_
                  refine z_ic_ge (tgt := 132) E (by omega) (by omega) dX11_reads_104 (by decide) (fun h_104 => ?_) (fun h_104 => ?_)
                  · have hib := rdM_b i1
                    refine z_iload_n E 1 rfl rfl dX11_reads_132 ?_
                    refine z_if_eq (tgt := 151) E (by omega) dX11_reads_133 (by decide) (fun h_133 => ?_) (fun h_133 => ?_)
                    · refine z_iconst E dX11_reads_151 ?_
                      refine Zg.perm (ws' := [(m0, .inr (11, [.ref ms, .ref mp, .int (zi pn), .ref mt, .int (zi tyd), .ref mT, .ref mO, .ref mU, .int (zi ld), .long (zl up), .long (zl lw), .long (zl ua), .long (zl la), .long (zl bU), .int (zi bL), .int (zi sv), .int (zi xn), .int (zi yn), .int (zi a), .int (zi b), .int (zi e), .ref mr])), (mt, ai κ 40 TX), (mr, ai κ 21 R)]) [0, 2, 1] rfl rfl ?_
                      exact fin _ _ _ _ rfl (⟨_, _, _, _, Or.inr ⟨rfl, (by exact ((rdM_end i1 (by omega)).2 (by omega)).1)⟩, (by exact ((rdM_end i1 (by omega)).2 (by omega)).2), rfl⟩) dX11_reads_152
                    · refine z_aload_n E 0 rfl rfl dX11_reads_136 ?_
                      refine z_get E f_X11_177 0 rfl rfl dX11_reads_137 ?_
                      refine z_aload_n E 0 rfl rfl dX11_reads_140 ?_
                      refine z_get E f_X11_180 0 rfl rfl dX11_reads_141 ?_
                      refine z_ic_ne (tgt := 151) E (by omega) (by omega) dX11_reads_144 (by decide) (fun h_144 => ?_) (fun h_144 => ?_)
                      · refine z_iconst E dX11_reads_151 ?_
                        refine Zg.perm (ws' := [(m0, .inr (11, [.ref ms, .ref mp, .int (zi pn), .ref mt, .int (zi tyd), .ref mT, .ref mO, .ref mU, .int (zi ld), .long (zl up), .long (zl lw), .long (zl ua), .long (zl la), .long (zl bU), .int (zi bL), .int (zi sv), .int (zi xn), .int (zi yn), .int (zi a), .int (zi b), .int (zi e), .ref mr])), (mt, ai κ 40 TX), (mr, ai κ 21 R)]) [0, 2, 1] rfl rfl ?_
                        exact fin _ _ _ _ rfl (⟨_, _, _, _, Or.inr ⟨rfl, (by exact ((rdM_end i1 (by omega)).2 (by omega)).1)⟩, (by exact ((rdM_end i1 (by omega)).2 (by omega)).2), rfl⟩) dX11_reads_152
                      · refine z_iconst E dX11_reads_147 ?_
                        refine z_goto (tgt := 152) E dX11_reads_148 (by decide) ?_
                        refine Zg.perm (ws' := [(m0, .inr (11, [.ref ms, .ref mp, .int (zi pn), .ref mt, .int (zi tyd), .ref mT, .ref mO, .ref mU, .int (zi ld), .long (zl up), .long (zl lw), .long (zl ua), .long (zl la), .long (zl bU), .int (zi bL), .int (zi sv), .int (zi xn), .int (zi yn), .int (zi a), .int (zi b), .int (zi e), .ref mr])), (mt, ai κ 40 TX), (mr, ai κ 21 R)]) [0, 2, 1] rfl rfl ?_
                        exact fin _ _ _ _ rfl (⟨_, _, _, _, Or.inl ⟨rfl, (by exact ((rdM_end i1 (by omega)).1 h_133 (by omega)).1)⟩, (by exact ((rdM_end i1 (by omega)).1 h_133 (by omega)).2), rfl⟩) dX11_reads_152
                  · obtain ⟨hb1, k, hk1, hk2, hk3, hk4, hk5⟩ := rdM_get i1 h_85
                    subst hb1
                    have htb := tE_bd hk1
                    have hcz := chA_out (c := TX) (n := tyd) (i := a)
                    refine z_aload_n E 0 rfl rfl dX11_reads_107 ?_
                    refine z_bipush E dX11_reads_108 (by decide) ?_
                    refine z_callVi (As := [.int (zi 44)]) (rest := []) (wr := [(mr, ai κ 21 R)]) E (c_X11_passes l D κ m0 ms mp pn mt tyd mT mO mU ld up lw ua la bU bL sv xn yn a 1 e mr TX 44 (by omega) (hC) (by omega) (by omega)) m_X11_197 ⟨Nat.le_of_ble_eq_true rfl, Nat.le_of_ble_eq_true rfl⟩ ⟨rfl, rfl⟩ [0, 2] [1] rfl rfl rfl rfl (by decide) rfl rfl rfl rfl (Nat.le_of_ble_eq_true rfl) dX11_reads_110 ⟨Nat.le_of_ble_eq_true rfl, Nat.le_of_ble_eq_true rfl⟩ (fun z110 w1 hq => ?_)
                    obtain ⟨sp'_31, ⟨rfl, hc_110⟩ | ⟨rfl, hc_110⟩, hs_110, rfl⟩ := hq
                    · refine z_if_eq (tgt := 127) E (by omega) dX11_reads_113 (by decide) (fun h => absurd h (by decide)) (fun _ => ?_)
                      refine z_aload_n E 0 rfl rfl dX11_reads_116 ?_
                      refine z_callVi (As := []) (rest := []) (wr := []) E (c_X11_later l D κ m0 ms mp pn mt tyd mT mO mU ld up lw ua la bU bL sv xn yn sp'_31 1 e mr TX R (by omega) (hC) (by omega) (by omega)) m_X11_200 ⟨Nat.le_of_ble_eq_true rfl, Nat.le_of_ble_eq_true rfl⟩ ⟨rfl, rfl⟩ [1, 2, 0] [] rfl rfl rfl rfl (by decide) rfl rfl rfl rfl (Nat.le_of_ble_eq_true rfl) dX11_reads_117 ⟨Nat.le_of_ble_eq_true rfl, Nat.le_of_ble_eq_true rfl⟩ (fun z117 w1 hq => ?_)
                      obtain ⟨sp'_32, rs'_33, pt'_34, RW'_35, ⟨rfl, hc_117⟩ | ⟨rfl, hc_117⟩, h2_117, rfl⟩ := hq
                      · refine z_if_eq (tgt := 127) E (by omega) dX11_reads_120 (by decide) (fun h => absurd h (by decide)) (fun _ => ?_)
                        refine z_iconst E dX11_reads_123 ?_
                        refine z_goto (tgt := 128) E dX11_reads_124 (by decide) ?_
                        refine z_istore_n (lv' := [(2, .int (zi 1)), (0, .ref m0)]) E dX11_reads_128 rfl (Nat.le_of_ble_eq_true rfl) rfl ?_
                        refine z_goto (tgt := 84) E dX11_reads_129 (by decide) ?_
                        refine Zg.sub (lv' := [(0, .ref m0), (2, .int (zi 1))]) [1, 0] rfl ?_
                        refine Zg.perm (ws' := [(m0, .inr (11, [.ref ms, .ref mp, .int (zi pn), .ref mt, .int (zi tyd), .ref mT, .ref mO, .ref mU, .int (zi ld), .long (zl up), .long (zl lw), .long (zl ua), .long (zl la), .long (zl bU), .int (zi bL), .int (zi sv), .int (zi xn), .int (zi yn), .int (zi sp'_32), .int (zi rs'_33), .int (zi pt'_34), .ref mr])), (mr, ai κ 21 RW'_35), (mt, ai κ 40 TX)]) [0, 2, 1] rfl rfl ?_
                        exact ih_84 1 sp'_32 rs'_33 pt'_34 RW'_35 (by have := laR_bd h2_117 (by omega); omega) ((rd_later hk1 hk2 (by omega) hk3 hk4 (by unfold due; rw [if_neg (by omega)]; exact hc_110) (by omega) h2_117).1 hc_117) (by have := rdM_b i1; have := h2_117.2; omega)
                      · refine z_if_eq (tgt := 127) E (by omega) dX11_reads_120 (by decide) (fun _ => ?_) (fun h => absurd h (by decide))
                        refine z_iconst E dX11_reads_127 ?_
                        refine z_istore_n (lv' := [(2, .int (zi 0)), (0, .ref m0)]) E dX11_reads_128 rfl (Nat.le_of_ble_eq_true rfl) rfl ?_
                        refine z_goto (tgt := 84) E dX11_reads_129 (by decide) ?_
                        refine Zg.sub (lv' := [(0, .ref m0), (2, .int (zi 0))]) [1, 0] rfl ?_
                        refine Zg.perm (ws' := [(m0, .inr (11, [.ref ms, .ref mp, .int (zi pn), .ref mt, .int (zi tyd), .ref mT, .ref mO, .ref mU, .int (zi ld), .long (zl up), .long (zl lw), .long (zl ua), .long (zl la), .long (zl bU), .int (zi bL), .int (zi sv), .int (zi xn), .int (zi yn), .int (zi sp'_32), .int (zi rs'_33), .int (zi pt'_34), .ref mr])), (mr, ai κ 21 RW'_35), (mt, ai κ 40 TX)]) [0, 2, 1] rfl rfl ?_
                        exact ih_84 0 sp'_32 rs'_33 pt'_34 RW'_35 (by have := laR_bd h2_117 (by omega); omega) ((rd_later hk1 hk2 (by omega) hk3 hk4 (by unfold due; rw [if_neg (by omega)]; exact hc_110) (by omega) h2_117).2 hc_117) (by have := rdM_b i1; have := h2_117.2; omega)
                    · refine z_if_eq (tgt := 127) E (by omega) dX11_reads_113 (by decide) (fun _ => ?_) (fun h => absurd h (by decide))
                      refine z_iconst E dX11_reads_127 ?_
                      refine z_istore_n (lv' := [(2, .int (zi 0)), (0, .ref m0)]) E dX11_reads_128 rfl (Nat.le_of_ble_eq_true rfl) rfl ?_
                      refine z_goto (tgt := 84) E dX11_reads_129 (by decide) ?_
                      refine Zg.sub (lv' := [(0, .ref m0), (2, .int (zi 0))]) [1, 0] rfl ?_
                      refine Zg.perm (ws' := [(m0, .inr (11, [.ref ms, .ref mp, .int (zi pn), .ref mt, .int (zi tyd), .ref mT, .ref mO, .ref mU, .int (zi ld), .long (zl up), .long (zl lw), .long (zl ua), .long (zl la), .long (zl bU), .int (zi bL), .int (zi sv), .int (zi xn), .int (zi yn), .int (zi sp'_31), .int (zi 1), .int (zi e), .ref mr])), (mr, ai κ 21 R), (mt, ai κ 40 TX)]) [1, 0, 2] rfl rfl ?_
                      exact ih_84 0 sp'_31 1 e R (by omega) (by rw [show (sp'_31 : Int) = a by omega]; exact rd_stop hk1 hk2 (by omega) (by unfold due; rw [if_neg (by omega)]; exact hc_110)) (by have := rdM_b i1; omega)
          refine Zg.sub (lv' := [(0, .ref m0), (2, .int (zi 1))]) [2, 0] rfl ?_
          refine Zg.perm (ws' := [(m0, .inr (11, [.ref ms, .ref mp, .int (zi pn), .ref mt, .int (zi tyd), .ref mT, .ref mO, .ref mU, .int (zi ld), .long (zl up), .long (zl lw), .long (zl ua), .long (zl la), .long (zl bU), .int (zi bL), .int (zi sv), .int (zi xn), .int (zi yn), .int (zi sp'_27), .int (zi rs'_28), .int (zi pt'_29), .ref mr])), (mr, ai κ 21 RW'_30), (mt, ai κ 40 TX)]) [0, 2, 1] rfl rfl ?_
          exact lp_84 ((2 * 1 + (22 - pt'_29) : Int).toNat + 1) 1 sp'_27 rs'_28 pt'_29 RW'_30 (by omega) (hrm) (by omega)
        · refine z_if_eq (tgt := 82) E (by omega) dX11_reads_75 (by decide) (fun _ => ?_) (fun h => absurd h (by decide))
          refine z_iconst E dX11_reads_82 ?_
          have hrm := (rd_later (k := 0) hft.1 hft.2.1 (by omega) (by omega) hrow0 (by rw [hd2]; exact hc_65) (by omega) h2_72).2 hc_72
          have hlb := laR_bd h2_72 (by omega)
          refine z_istore_n (lv' := [(2, .int (zi 0)), (1, .int (zi 0)), (0, .ref m0)]) E dX11_reads_83 rfl (Nat.le_of_ble_eq_true rfl) rfl ?_
          have lp_84 : ∀ (n_84 : Nat) (is : Int) (a : Int) (b : Int) (e : Int) (R : Int → Int), ((0 ≤ a ∧ a ≤ tyd) ∧ 0 ≤ e ∧ e ≤ 21) → (rdM TX tyd is a b e R) → (2 * is + (22 - e)) < (n_84 : Int) → Zg X [(m0, .inr (11, [.ref ms, .ref mp, .int (zi pn), .ref mt, .int (zi tyd), .ref mT, .ref mO, .ref mU, .int (zi ld), .long (zl up), .long (zl lw), .long (zl ua), .long (zl la), .long (zl bU), .int (zi bL), .int (zi sv), .int (zi xn), .int (zi yn), .int (zi a), .int (zi b), .int (zi e), .ref mr])), (mr, ai κ 21 R), (mt, ai κ 40 TX)] 0 0 84 [(0, .ref m0), (2, .int (zi is))] [] := by
            intro n_84
            induction n_84 with
            | zero =>
              intro is a b e R i0 i1 hmu
              exact absurd hmu (by have := rdM_b i1; omega)
            | succ n_84 ih_84 =>
              intro is a b e R i0 i1 hmu_84
              have hib0 := rdM_b i1
              refine z_iload_n E 1 rfl rfl dX11_reads_84 ?_
              refine z_if_eq (tgt := 132) E (by omega) dX11_reads_85 (by decide) (fun h_85 => ?_) (fun h_85 => ?_)
              · have hib := rdM_b i1
                refine z_iload_n E 1 rfl rfl dX11_reads_132 ?_
                refine z_if_eq (tgt := 151) E (by omega) dX11_reads_133 (by decide) (fun h_133 => ?_) (fun h_133 => ?_)
                · refine z_iconst E dX11_reads_151 ?_
                  refine Zg.perm (ws' := [(m0, .inr (11, [.ref ms, .ref mp, .int (zi pn), .ref mt, .int (zi tyd), .ref mT, .ref mO, .ref mU, .int (zi ld), .long (zl up), .long (zl lw), .long (zl ua), .long (zl la), .long (zl bU), .int (zi bL), .int (zi sv), .int (zi xn), .int (zi yn), .int (zi a), .int (zi b), .int (zi e), .ref mr])), (mt, ai κ 40 TX), (mr, ai κ 21 R)]) [0, 2, 1] rfl rfl ?_
                  exact fin _ _ _ _ rfl (⟨_, _, _, _, Or.inr ⟨rfl, (by exact ((rdM_end i1 (by omega)).2 (by omega)).1)⟩, (by exact ((rdM_end i1 (by omega)).2 (by omega)).2), rfl⟩) dX11_reads_152
                · refine z_aload_n E 0 rfl rfl dX11_reads_136 ?_
                  refine z_get E f_X11_177 0 rfl rfl dX11_reads_137 ?_
                  refine z_aload_n E 0 rfl rfl dX11_reads_140 ?_
                  refine z_get E f_X11_180 0 rfl rfl dX11_reads_141 ?_
                  refine z_ic_ne (tgt := 151) E (by omega) (by omega) dX11_reads_144 (by decide) (fun h_144 => ?_) (fun h_144 => ?_)
                  · refine z_iconst E dX11_reads_151 ?_
                    refine Zg.perm (ws' := [(m0, .inr (11, [.ref ms, .ref mp, .int (zi pn), .ref mt, .int (zi tyd), .ref mT, .ref mO, .ref mU, .int (zi ld), .long (zl up), .long (zl lw), .long (zl ua), .long (zl la), .long (zl bU), .int (zi bL), .int (zi sv), .int (zi xn), .int (zi yn), .int (zi a), .int (zi b), .int (zi e), .ref mr])), (mt, ai κ 40 TX), (mr, ai κ 21 R)]) [0, 2, 1] rfl rfl ?_
                    exact fin _ _ _ _ rfl (⟨_, _, _, _, Or.inr ⟨rfl, (by exact ((rdM_end i1 (by omega)).2 (by omega)).1)⟩, (by exact ((rdM_end i1 (by omega)).2 (by omega)).2), rfl⟩) dX11_reads_152
                  · refine z_iconst E dX11_reads_147 ?_
                    refine z_goto (tgt := 152) E dX11_reads_148 (by decide) ?_
                    refine Zg.perm (ws' := [(m0, .inr (11, [.ref ms, .ref mp, .int (zi pn), .ref mt, .int (zi tyd), .ref mT, .ref mO, .ref mU, .int (zi ld), .long (zl up), .long (zl lw), .long (zl ua), .long (zl la), .long (zl bU), .int (zi bL), .int (zi sv), .int (zi xn), .int (zi yn), .int (zi a), .int (zi b), .int (zi e), .ref mr])), (mt, ai κ 40 TX), (mr, ai κ 21 R)]) [0, 2, 1] rfl rfl ?_
                    exact fin _ _ _ _ rfl (⟨_, _, _, _, Or.inl ⟨rfl, (by exact ((rdM_end i1 (by omega)).1 h_133 (by omega)).1)⟩, (by exact ((rdM_end i1 (by omega)).1 h_133 (by omega)).2), rfl⟩) dX11_reads_152
              · refine z_aload_n E 0 rfl rfl dX11_reads_88 ?_
                refine z_get E f_X11_187 0 rfl rfl dX11_reads_89 ?_
                refine z_iconst E dX11_reads_92 ?_
                refine z_ic_le (tgt := 132) E (by omega) (by omega) dX11_reads_93 (by decide) (fun h_93 => ?_) (fun h_93 => ?_)
                · have hib := rdM_b i1
                  refine z_iload_n E 1 rfl rfl dX11_reads_132 ?_
                  refine z_if_eq (tgt := 151) E (by omega) dX11_reads_133 (by decide) (fun h_133 => ?_) (fun h_133 => ?_)
                  · refine z_iconst E dX11_reads_151 ?_
                    refine Zg.perm (ws' := [(m0, .inr (11, [.ref ms, .ref mp, .int (zi pn), .ref mt, .int (zi tyd), .ref mT, .ref mO, .ref mU, .int (zi ld), .long (zl up), .long (zl lw), .long (zl ua), .long (zl la), .long (zl bU), .int (zi bL), .int (zi sv), .int (zi xn), .int (zi yn), .int (zi a), .int (zi b), .int (zi e), .ref mr])), (mt, ai κ 40 TX), (mr, ai κ 21 R)]) [0, 2, 1] rfl rfl ?_
                    exact fin _ _ _ _ rfl (⟨_, _, _, _, Or.inr ⟨rfl, (by exact ((rdM_end i1 (by omega)).2 (by omega)).1)⟩, (by exact ((rdM_end i1 (by omega)).2 (by omega)).2), rfl⟩) dX11_reads_152
                  · refine z_aload_n E 0 rfl rfl dX11_reads_136 ?_
                    refine z_get E f_X11_177 0 rfl rfl dX11_reads_137 ?_
                    refine z_aload_n E 0 rfl rfl dX11_reads_140 ?_
                    refine z_get E f_X11_180 0 rfl rfl dX11_reads_141 ?_
                    refine z_ic_ne (tgt := 151) E (by omega) (by omega) dX11_reads_144 (by decide) (fun h_144 => ?_) (fun h_144 => ?_)
                    · refine z_iconst E dX11_reads_151 ?_
                      refine Zg.perm (ws' := [(m0, .inr (11, [.ref ms, .ref mp, .int (zi pn), .ref mt, .int (zi tyd), .ref mT, .ref mO, .ref mU, .int (zi ld), .long (zl up), .long (zl lw), .long (zl ua), .long (zl la), .long (zl bU), .int (zi bL), .int (zi sv), .int (zi xn), .int (zi yn), .int (zi a), .int (zi b), .int (zi e), .ref mr])), (mt, ai κ 40 TX), (mr, ai κ 21 R)]) [0, 2, 1] rfl rfl ?_
                      exact fin _ _ _ _ rfl (⟨_, _, _, _, Or.inr ⟨rfl, (by exact ((rdM_end i1 (by omega)).2 (by omega)).1)⟩, (by exact ((rdM_end i1 (by omega)).2 (by omega)).2), rfl⟩) dX11_reads_152
                    · refine z_iconst E dX11_reads_147 ?_
                      refine z_goto (tgt := 152) E dX11_reads_148 (by decide) ?_
                      refine Zg.perm (ws' := [(m0, .inr (11, [.ref ms, .ref mp, .int (zi pn), .ref mt, .int (zi tyd), .ref mT, .ref mO, .ref mU, .int (zi ld), .long (zl up), .long (zl lw), .long (zl ua), .long (zl la), .long (zl bU), .int (zi bL), .int (zi sv), .int (zi xn), .int (zi yn), .int (zi a), .int (zi b), .int (zi e), .ref mr])), (mt, ai κ 40 TX), (mr, ai κ 21 R)]) [0, 2, 1] rfl rfl ?_
                      exact fin _ _ _ _ rfl (⟨_, _, _, _, Or.inl ⟨rfl, (by exact ((rdM_end i1 (by omega)).1 h_133 (by omega)).1)⟩, (by exact ((rdM_end i1 (by omega)).1 h_133 (by omega)).2), rfl⟩) dX11_reads_152
                · refine z_aload_n E 0 rfl rfl dX11_reads_96 ?_
                  refine z_get E f_X11_177 0 rfl rfl dX11_reads_97 ?_
                  refine z_aload_n E 0 rfl rfl dX11_reads_100 ?_
                  refine z_get E f_X11_180 0 rfl rfl dX11_reads_101 ?_
                  refine z_ic_ge (tgt := 132) E (by omega) (by omega) dX11_reads_104 (by decide) (fun h_104 => ?_) (fun h_104 => ?_)
                  · have hib := rdM_b i1
                    refine z_iload_n E 1 rfl rfl dX11_reads_132 ?_
                    refine z_if_eq (tgt := 151) E (by omega) dX11_reads_133 (by decide) (fun h_133 => ?_) (fun h_133 => ?_)
                    · refine z_iconst E dX11_reads_151 ?_
                      refine Zg.perm (ws' := [(m0, .inr (11, [.ref ms, .ref mp, .int (zi pn), .ref mt, .int (zi tyd), .ref mT, .ref mO, .ref mU, .int (zi ld), .long (zl up), .long (zl lw), .long (zl ua), .long (zl la), .long (zl bU), .int (zi bL), .int (zi sv), .int (zi xn), .int (zi yn), .int (zi a), .int (zi b), .int (zi e), .ref mr])), (mt, ai κ 40 TX), (mr, ai κ 21 R)]) [0, 2, 1] rfl rfl ?_
                      exact fin _ _ _ _ rfl (⟨_, _, _, _, Or.inr ⟨rfl, (by exact ((rdM_end i1 (by omega)).2 (by omega)).1)⟩, (by exact ((rdM_end i1 (by omega)).2 (by omega)).2), rfl⟩) dX11_reads_152
                    · refine z_aload_n E 0 rfl rfl dX11_reads_136 ?_
                      refine z_get E f_X11_177 0 rfl rfl dX11_reads_137 ?_
                      refine z_aload_n E 0 rfl rfl dX11_reads_140 ?_
                      refine z_get E f_X11_180 0 rfl rfl dX11_reads_141 ?_
                      refine z_ic_ne (tgt := 151) E (by omega) (by omega) dX11_reads_144 (by decide) (fun h_144 => ?_) (fun h_144 => ?_)
                      · refine z_iconst E dX11_reads_151 ?_
                        refine Zg.perm (ws' := [(m0, .inr (11, [.ref ms, .ref mp, .int (zi pn), .ref mt, .int (zi tyd), .ref mT, .ref mO, .ref mU, .int (zi ld), .long (zl up), .long (zl lw), .long (zl ua), .long (zl la), .long (zl bU), .int (zi bL), .int (zi sv), .int (zi xn), .int (zi yn), .int (zi a), .int (zi b), .int (zi e), .ref mr])), (mt, ai κ 40 TX), (mr, ai κ 21 R)]) [0, 2, 1] rfl rfl ?_
                        exact fin _ _ _ _ rfl (⟨_, _, _, _, Or.inr ⟨rfl, (by exact ((rdM_end i1 (by omega)).2 (by omega)).1)⟩, (by exact ((rdM_end i1 (by omega)).2 (by omega)).2), rfl⟩) dX11_reads_152
                      · refine z_iconst E dX11_reads_147 ?_
                        refine z_goto (tgt := 152) E dX11_reads_148 (by decide) ?_
                        refine Zg.perm (ws' := [(m0, .inr (11, [.ref ms, .ref mp, .int (zi pn), .ref mt, .int (zi tyd), .ref mT, .ref mO, .ref mU, .int (zi ld), .long (zl up), .long (zl lw), .long (zl ua), .long (zl la), .long (zl bU), .int (zi bL), .int (zi sv), .int (zi xn), .int (zi yn), .int (zi a), .int (zi b), .int (zi e), .ref mr])), (mt, ai κ 40 TX), (mr, ai κ 21 R)]) [0, 2, 1] rfl rfl ?_
                        exact fin _ _ _ _ rfl (⟨_, _, _, _, Or.inl ⟨rfl, (by exact ((rdM_end i1 (by omega)).1 h_133 (by omega)).1)⟩, (by exact ((rdM_end i1 (by omega)).1 h_133 (by omega)).2), rfl⟩) dX11_reads_152
                  · obtain ⟨hb1, k, hk1, hk2, hk3, hk4, hk5⟩ := rdM_get i1 h_85
                    subst hb1
                    have htb := tE_bd hk1
                    have hcz := chA_out (c := TX) (n := tyd) (i := a)
                    refine z_aload_n E 0 rfl rfl dX11_reads_107 ?_
                    refine z_bipush E dX11_reads_108 (by decide) ?_
                    refine z_callVi (As := [.int (zi 44)]) (rest := []) (wr := [(mr, ai κ 21 R)]) E (c_X11_passes l D κ m0 ms mp pn mt tyd mT mO mU ld up lw ua la bU bL sv xn yn a 1 e mr TX 44 (by omega) (hC) (by omega) (by omega)) m_X11_197 ⟨Nat.le_of_ble_eq_true rfl, Nat.le_of_ble_eq_true rfl⟩ ⟨rfl, rfl⟩ [0, 2] [1] rfl rfl rfl rfl (by decide) rfl rfl rfl rfl (Nat.le_of_ble_eq_true rfl) dX11_reads_110 ⟨Nat.le_of_ble_eq_true rfl, Nat.le_of_ble_eq_true rfl⟩ (fun z110 w1 hq => ?_)
                    obtain ⟨sp'_36, ⟨rfl, hc_110⟩ | ⟨rfl, hc_110⟩, hs_110, rfl⟩ := hq
                    · refine z_if_eq (tgt := 127) E (by omega) dX11_reads_113 (by decide) (fun h => absurd h (by decide)) (fun _ => ?_)
                      refine z_aload_n E 0 rfl rfl dX11_reads_116 ?_
                      refine z_callVi (As := []) (rest := []) (wr := []) E (c_X11_later l D κ m0 ms mp pn mt tyd mT mO mU ld up lw ua la bU bL sv xn yn sp'_36 1 e mr TX R (by omega) (hC) (by omega) (by omega)) m_X11_200 ⟨Nat.le_of_ble_eq_true rfl, Nat.le_of_ble_eq_true rfl⟩ ⟨rfl, rfl⟩ [1, 2, 0] [] rfl rfl rfl rfl (by decide) rfl rfl rfl rfl (Nat.le_of_ble_eq_true rfl) dX11_reads_117 ⟨Nat.le_of_ble_eq_true rfl, Nat.le_of_ble_eq_true rfl⟩ (fun z117 w1 hq => ?_)
                      obtain ⟨sp'_37, rs'_38, pt'_39, RW'_40, ⟨rfl, hc_117⟩ | ⟨rfl, hc_117⟩, h2_117, rfl⟩ := hq
                      · refine z_if_eq (tgt := 127) E (by omega) dX11_reads_120 (by decide) (fun h => absurd h (by decide)) (fun _ => ?_)
                        refine z_iconst E dX11_reads_123 ?_
                        refine z_goto (tgt := 128) E dX11_reads_124 (by decide) ?_
                        refine z_istore_n (lv' := [(2, .int (zi 1)), (0, .ref m0)]) E dX11_reads_128 rfl (Nat.le_of_ble_eq_true rfl) rfl ?_
                        refine z_goto (tgt := 84) E dX11_reads_129 (by decide) ?_
                        refine Zg.sub (lv' := [(0, .ref m0), (2, .int (zi 1))]) [1, 0] rfl ?_
                        refine Zg.perm (ws' := [(m0, .inr (11, [.ref ms, .ref mp, .int (zi pn), .ref mt, .int (zi tyd), .ref mT, .ref mO, .ref mU, .int (zi ld), .long (zl up), .long (zl lw), .long (zl ua), .long (zl la), .long (zl bU), .int (zi bL), .int (zi sv), .int (zi xn), .int (zi yn), .int (zi sp'_37), .int (zi rs'_38), .int (zi pt'_39), .ref mr])), (mr, ai κ 21 RW'_40), (mt, ai κ 40 TX)]) [0, 2, 1] rfl rfl ?_
                        exact ih_84 1 sp'_37 rs'_38 pt'_39 RW'_40 (by have := laR_bd h2_117 (by omega); omega) ((rd_later hk1 hk2 (by omega) hk3 hk4 (by unfold due; rw [if_neg (by omega)]; exact hc_110) (by omega) h2_117).1 hc_117) (by have := rdM_b i1; have := h2_117.2; omega)
                      · refine z_if_eq (tgt := 127) E (by omega) dX11_reads_120 (by decide) (fun _ => ?_) (fun h => absurd h (by decide))
                        refine z_iconst E dX11_reads_127 ?_
                        refine z_istore_n (lv' := [(2, .int (zi 0)), (0, .ref m0)]) E dX11_reads_128 rfl (Nat.le_of_ble_eq_true rfl) rfl ?_
                        refine z_goto (tgt := 84) E dX11_reads_129 (by decide) ?_
                        refine Zg.sub (lv' := [(0, .ref m0), (2, .int (zi 0))]) [1, 0] rfl ?_
                        refine Zg.perm (ws' := [(m0, .inr (11, [.ref ms, .ref mp, .int (zi pn), .ref mt, .int (zi tyd), .ref mT, .ref mO, .ref mU, .int (zi ld), .long (zl up), .long (zl lw), .long (zl ua), .long (zl la), .long (zl bU), .int (zi bL), .int (zi sv), .int (zi xn), .int (zi yn), .int (zi sp'_37), .int (zi rs'_38), .int (zi pt'_39), .ref mr])), (mr, ai κ 21 RW'_40), (mt, ai κ 40 TX)]) [0, 2, 1] rfl rfl ?_
                        exact ih_84 0 sp'_37 rs'_38 pt'_39 RW'_40 (by have := laR_bd h2_117 (by omega); omega) ((rd_later hk1 hk2 (by omega) hk3 hk4 (by unfold due; rw [if_neg (by omega)]; exact hc_110) (by omega) h2_117).2 hc_117) (by have := rdM_b i1; have := h2_117.2; omega)
                    · refine z_if_eq (tgt := 127) E (by omega) dX11_reads_113 (by decide) (fun _ => ?_) (fun h => absurd h (by decide))
                      refine z_iconst E dX11_reads_127 ?_
                      refine z_istore_n (lv' := [(2, .int (zi 0)), (0, .ref m0)]) E dX11_reads_128 rfl (Nat.le_of_ble_eq_true rfl) rfl ?_
                      refine z_goto (tgt := 84) E dX11_reads_129 (by decide) ?_
                      refine Zg.sub (lv' := [(0, .ref m0), (2, .int (zi 0))]) [1, 0] rfl ?_
                      refine Zg.perm (ws' := [(m0, .inr (11, [.ref ms, .ref mp, .int (zi pn), .ref mt, .int (zi tyd), .ref mT, .ref mO, .ref mU, .int (zi ld), .long (zl up), .long (zl lw), .long (zl ua), .long (zl la), .long (zl bU), .int (zi bL), .int (zi sv), .int (zi xn), .int (zi yn), .int (zi sp'_36), .int (zi 1), .int (zi e), .ref mr])), (mr, ai κ 21 R), (mt, ai κ 40 TX)]) [1, 0, 2] rfl rfl ?_
                      exact ih_84 0 sp'_36 1 e R (by omega) (by rw [show (sp'_36 : Int) = a by omega]; exact rd_stop hk1 hk2 (by omega) (by unfold due; rw [if_neg (by omega)]; exact hc_110)) (by have := rdM_b i1; omega)
          refine Zg.sub (lv' := [(0, .ref m0), (2, .int (zi 0))]) [2, 0] rfl ?_
          refine Zg.perm (ws' := [(m0, .inr (11, [.ref ms, .ref mp, .int (zi pn), .ref mt, .int (zi tyd), .ref mT, .ref mO, .ref mU, .int (zi ld), .long (zl up), .long (zl lw), .long (zl ua), .long (zl la), .long (zl bU), .int (zi bL), .int (zi sv), .int (zi xn), .int (zi yn), .int (zi sp'_27), .int (zi rs'_28), .int (zi pt'_29), .ref mr])), (mr, ai κ 21 RW'_30), (mt, ai κ 40 TX)]) [0, 2, 1] rfl rfl ?_
          exact lp_84 ((2 * 0 + (22 - pt'_29) : Int).toNat + 1) 0 sp'_27 rs'_28 pt'_29 RW'_30 (by omega) (hrm) (by omega)
      · refine z_if_eq (tgt := 78) E (by omega) dX11_reads_68 (by decide) (fun _ => ?_) (fun h => absurd h (by decide))
        refine z_iconst E dX11_reads_78 ?_
        refine z_goto (tgt := 83) E dX11_reads_79 (by decide) ?_
        have hsq : sp'_26 = tE TX tyd 0 := by have := hft.2.1; omega
        have hrm : rdM TX tyd 1 (sp'_26) 1 1 (zu (zu RW 0 v'_25) 0 v'_25) := Or.inl ⟨rfl, rfl, 0, hft.1, hsq, by omega, hrow0, fun _ => by rw [hsq, ← hft.2.1]; exact hc_65⟩
        refine z_istore_n (lv' := [(2, .int (zi 1)), (1, .int (zi 0)), (0, .ref m0)]) E dX11_reads_83 rfl (Nat.le_of_ble_eq_true rfl) rfl ?_
        have lp_84 : ∀ (n_84 : Nat) (is : Int) (a : Int) (b : Int) (e : Int) (R : Int → Int), ((0 ≤ a ∧ a ≤ tyd) ∧ 0 ≤ e ∧ e ≤ 21) → (rdM TX tyd is a b e R) → (2 * is + (22 - e)) < (n_84 : Int) → Zg X [(m0, .inr (11, [.ref ms, .ref mp, .int (zi pn), .ref mt, .int (zi tyd), .ref mT, .ref mO, .ref mU, .int (zi ld), .long (zl up), .long (zl lw), .long (zl ua), .long (zl la), .long (zl bU), .int (zi bL), .int (zi sv), .int (zi xn), .int (zi yn), .int (zi a), .int (zi b), .int (zi e), .ref mr])), (mr, ai κ 21 R), (mt, ai κ 40 TX)] 0 0 84 [(0, .ref m0), (2, .int (zi is))] [] := by
          intro n_84
          induction n_84 with
          | zero =>
            intro is a b e R i0 i1 hmu
            exact absurd hmu (by have := rdM_b i1; omega)
          | succ n_84 ih_84 =>
            intro is a b e R i0 i1 hmu_84
            have hib0 := rdM_b i1
            refine z_iload_n E 1 rfl rfl dX11_reads_84 ?_
            refine z_if_eq (tgt := 132) E (by omega) dX11_reads_85 (by decide) (fun h_85 => ?_) (fun h_85 => ?_)
            · have hib := rdM_b i1
              refine z_iload_n E 1 rfl rfl dX11_reads_132 ?_
              refine z_if_eq (tgt := 151) E (by omega) dX11_reads_133 (by decide) (fun h_133 => ?_) (fun h_133 => ?_)
              · refine z_iconst E dX11_reads_151 ?_
                refine Zg.perm (ws' := [(m0, .inr (11, [.ref ms, .ref mp, .int (zi pn), .ref mt, .int (zi tyd), .ref mT, .ref mO, .ref mU, .int (zi ld), .long (zl up), .long (zl lw), .long (zl ua), .long (zl la), .long (zl bU), .int (zi bL), .int (zi sv), .int (zi xn), .int (zi yn), .int (zi a), .int (zi b), .int (zi e), .ref mr])), (mt, ai κ 40 TX), (mr, ai κ 21 R)]) [0, 2, 1] rfl rfl ?_
                exact fin _ _ _ _ rfl (⟨_, _, _, _, Or.inr ⟨rfl, (by exact ((rdM_end i1 (by omega)).2 (by omega)).1)⟩, (by exact ((rdM_end i1 (by omega)).2 (by omega)).2), rfl⟩) dX11_reads_152
              · refine z_aload_n E 0 rfl rfl dX11_reads_136 ?_
                refine z_get E f_X11_177 0 rfl rfl dX11_reads_137 ?_
                refine z_aload_n E 0 rfl rfl dX11_reads_140 ?_
                refine z_get E f_X11_180 0 rfl rfl dX11_reads_141 ?_
                refine z_ic_ne (tgt := 151) E (by omega) (by omega) dX11_reads_144 (by decide) (fun h_144 => ?_) (fun h_144 => ?_)
                · refine z_iconst E dX11_reads_151 ?_
                  refine Zg.perm (ws' := [(m0, .inr (11, [.ref ms, .ref mp, .int (zi pn), .ref mt, .int (zi tyd), .ref mT, .ref mO, .ref mU, .int (zi ld), .long (zl up), .long (zl lw), .long (zl ua), .long (zl la), .long (zl bU), .int (zi bL), .int (zi sv), .int (zi xn), .int (zi yn), .int (zi a), .int (zi b), .int (zi e), .ref mr])), (mt, ai κ 40 TX), (mr, ai κ 21 R)]) [0, 2, 1] rfl rfl ?_
                  exact fin _ _ _ _ rfl (⟨_, _, _, _, Or.inr ⟨rfl, (by exact ((rdM_end i1 (by omega)).2 (by omega)).1)⟩, (by exact ((rdM_end i1 (by omega)).2 (by omega)).2), rfl⟩) dX11_reads_152
                · refine z_iconst E dX11_reads_147 ?_
                  refine z_goto (tgt := 152) E dX11_reads_148 (by decide) ?_
                  refine Zg.perm (ws' := [(m0, .inr (11, [.ref ms, .ref mp, .int (zi pn), .ref mt, .int (zi tyd), .ref mT, .ref mO, .ref mU, .int (zi ld), .long (zl up), .long (zl lw), .long (zl ua), .long (zl la), .long (zl bU), .int (zi bL), .int (zi sv), .int (zi xn), .int (zi yn), .int (zi a), .int (zi b), .int (zi e), .ref mr])), (mt, ai κ 40 TX), (mr, ai κ 21 R)]) [0, 2, 1] rfl rfl ?_
                  exact fin _ _ _ _ rfl (⟨_, _, _, _, Or.inl ⟨rfl, (by exact ((rdM_end i1 (by omega)).1 h_133 (by omega)).1)⟩, (by exact ((rdM_end i1 (by omega)).1 h_133 (by omega)).2), rfl⟩) dX11_reads_152
            · refine z_aload_n E 0 rfl rfl dX11_reads_88 ?_
              refine z_get E f_X11_187 0 rfl rfl dX11_reads_89 ?_
              refine z_iconst E dX11_reads_92 ?_
              refine z_ic_le (tgt := 132) E (by omega) (by omega) dX11_reads_93 (by decide) (fun h_93 => ?_) (fun h_93 => ?_)
              · have hib := rdM_b i1
                refine z_iload_n E 1 rfl rfl dX11_reads_132 ?_
                refine z_if_eq (tgt := 151) E (by omega) dX11_reads_133 (by decide) (fun h_133 => ?_) (fun h_133 => ?_)
                · refine z_iconst E dX11_reads_151 ?_
                  refine Zg.perm (ws' := [(m0, .inr (11, [.ref ms, .ref mp, .int (zi pn), .ref mt, .int (zi tyd), .ref mT, .ref mO, .ref mU, .int (zi ld), .long (zl up), .long (zl lw), .long (zl ua), .long (zl la), .long (zl bU), .int (zi bL), .int (zi sv), .int (zi xn), .int (zi yn), .int (zi a), .int (zi b), .int (zi e), .ref mr])), (mt, ai κ 40 TX), (mr, ai κ 21 R)]) [0, 2, 1] rfl rfl ?_
                  exact fin _ _ _ _ rfl (⟨_, _, _, _, Or.inr ⟨rfl, (by exact ((rdM_end i1 (by omega)).2 (by omega)).1)⟩, (by exact ((rdM_end i1 (by omega)).2 (by omega)).2), rfl⟩) dX11_reads_152
                · refine z_aload_n E 0 rfl rfl dX11_reads_136 ?_
                  refine z_get E f_X11_177 0 rfl rfl dX11_reads_137 ?_
                  refine z_aload_n E 0 rfl rfl dX11_reads_140 ?_
                  refine z_get E f_X11_180 0 rfl rfl dX11_reads_141 ?_
                  refine z_ic_ne (tgt := 151) E (by omega) (by omega) dX11_reads_144 (by decide) (fun h_144 => ?_) (fun h_144 => ?_)
                  · refine z_iconst E dX11_reads_151 ?_
                    refine Zg.perm (ws' := [(m0, .inr (11, [.ref ms, .ref mp, .int (zi pn), .ref mt, .int (zi tyd), .ref mT, .ref mO, .ref mU, .int (zi ld), .long (zl up), .long (zl lw), .long (zl ua), .long (zl la), .long (zl bU), .int (zi bL), .int (zi sv), .int (zi xn), .int (zi yn), .int (zi a), .int (zi b), .int (zi e), .ref mr])), (mt, ai κ 40 TX), (mr, ai κ 21 R)]) [0, 2, 1] rfl rfl ?_
                    exact fin _ _ _ _ rfl (⟨_, _, _, _, Or.inr ⟨rfl, (by exact ((rdM_end i1 (by omega)).2 (by omega)).1)⟩, (by exact ((rdM_end i1 (by omega)).2 (by omega)).2), rfl⟩) dX11_reads_152
                  · refine z_iconst E dX11_reads_147 ?_
                    refine z_goto (tgt := 152) E dX11_reads_148 (by decide) ?_
                    refine Zg.perm (ws' := [(m0, .inr (11, [.ref ms, .ref mp, .int (zi pn), .ref mt, .int (zi tyd), .ref mT, .ref mO, .ref mU, .int (zi ld), .long (zl up), .long (zl lw), .long (zl ua), .long (zl la), .long (zl bU), .int (zi bL), .int (zi sv), .int (zi xn), .int (zi yn), .int (zi a), .int (zi b), .int (zi e), .ref mr])), (mt, ai κ 40 TX), (mr, ai κ 21 R)]) [0, 2, 1] rfl rfl ?_
                    exact fin _ _ _ _ rfl (⟨_, _, _, _, Or.inl ⟨rfl, (by exact ((rdM_end i1 (by omega)).1 h_133 (by omega)).1)⟩, (by exact ((rdM_end i1 (by omega)).1 h_133 (by omega)).2), rfl⟩) dX11_reads_152
              · refine z_aload_n E 0 rfl rfl dX11_reads_96 ?_
                refine z_get E f_X11_177 0 rfl rfl dX11_reads_97 ?_
                refine z_aload_n E 0 rfl rfl dX11_reads_100 ?_
                refine z_get E f_X11_180 0 rfl rfl dX11_reads_101 ?_
                refine z_ic_ge (tgt := 132) E (by omega) (by omega) dX11_reads_104 (by decide) (fun h_104 => ?_) (fun h_104 => ?_)
                · have hib := rdM_b i1
                  refine z_iload_n E 1 rfl rfl dX11_reads_132 ?_
                  refine z_if_eq (tgt := 151) E (by omega) dX11_reads_133 (by decide) (fun h_133 => ?_) (fun h_133 => ?_)
                  · refine z_iconst E dX11_reads_151 ?_
                    refine Zg.perm (ws' := [(m0, .inr (11, [.ref ms, .ref mp, .int (zi pn), .ref mt, .int (zi tyd), .ref mT, .ref mO, .ref mU, .int (zi ld), .long (zl up), .long (zl lw), .long (zl ua), .long (zl la), .long (zl bU), .int (zi bL), .int (zi sv), .int (zi xn), .int (zi yn), .int (zi a), .int (zi b), .int (zi e), .ref mr])), (mt, ai κ 40 TX), (mr, ai κ 21 R)]) [0, 2, 1] rfl rfl ?_
                    exact fin _ _ _ _ rfl (⟨_, _, _, _, Or.inr ⟨rfl, (by exact ((rdM_end i1 (by omega)).2 (by omega)).1)⟩, (by exact ((rdM_end i1 (by omega)).2 (by omega)).2), rfl⟩) dX11_reads_152
                  · refine z_aload_n E 0 rfl rfl dX11_reads_136 ?_
                    refine z_get E f_X11_177 0 rfl rfl dX11_reads_137 ?_
                    refine z_aload_n E 0 rfl rfl dX11_reads_140 ?_
                    refine z_get E f_X11_180 0 rfl rfl dX11_reads_141 ?_
                    refine z_ic_ne (tgt := 151) E (by omega) (by omega) dX11_reads_144 (by decide) (fun h_144 => ?_) (fun h_144 => ?_)
                    · refine z_iconst E dX11_reads_151 ?_
                      refine Zg.perm (ws' := [(m0, .inr (11, [.ref ms, .ref mp, .int (zi pn), .ref mt, .int (zi tyd), .ref mT, .ref mO, .ref mU, .int (zi ld), .long (zl up), .long (zl lw), .long (zl ua), .long (zl la), .long (zl bU), .int (zi bL), .int (zi sv), .int (zi xn), .int (zi yn), .int (zi a), .int (zi b), .int (zi e), .ref mr])), (mt, ai κ 40 TX), (mr, ai κ 21 R)]) [0, 2, 1] rfl rfl ?_
                      exact fin _ _ _ _ rfl (⟨_, _, _, _, Or.inr ⟨rfl, (by exact ((rdM_end i1 (by omega)).2 (by omega)).1)⟩, (by exact ((rdM_end i1 (by omega)).2 (by omega)).2), rfl⟩) dX11_reads_152
                    · refine z_iconst E dX11_reads_147 ?_
                      refine z_goto (tgt := 152) E dX11_reads_148 (by decide) ?_
                      refine Zg.perm (ws' := [(m0, .inr (11, [.ref ms, .ref mp, .int (zi pn), .ref mt, .int (zi tyd), .ref mT, .ref mO, .ref mU, .int (zi ld), .long (zl up), .long (zl lw), .long (zl ua), .long (zl la), .long (zl bU), .int (zi bL), .int (zi sv), .int (zi xn), .int (zi yn), .int (zi a), .int (zi b), .int (zi e), .ref mr])), (mt, ai κ 40 TX), (mr, ai κ 21 R)]) [0, 2, 1] rfl rfl ?_
                      exact fin _ _ _ _ rfl (⟨_, _, _, _, Or.inl ⟨rfl, (by exact ((rdM_end i1 (by omega)).1 h_133 (by omega)).1)⟩, (by exact ((rdM_end i1 (by omega)).1 h_133 (by omega)).2), rfl⟩) dX11_reads_152
                · obtain ⟨hb1, k, hk1, hk2, hk3, hk4, hk5⟩ := rdM_get i1 h_85
                  subst hb1
                  have htb := tE_bd hk1
                  have hcz := chA_out (c := TX) (n := tyd) (i := a)
                  refine z_aload_n E 0 rfl rfl dX11_reads_107 ?_
                  refine z_bipush E dX11_reads_108 (by decide) ?_
                  refine z_callVi (As := [.int (zi 44)]) (rest := []) (wr := [(mr, ai κ 21 R)]) E (c_X11_passes l D κ m0 ms mp pn mt tyd mT mO mU ld up lw ua la bU bL sv xn yn a 1 e mr TX 44 (by omega) (hC) (by omega) (by omega)) m_X11_197 ⟨Nat.le_of_ble_eq_true rfl, Nat.le_of_ble_eq_true rfl⟩ ⟨rfl, rfl⟩ [0, 2] [1] rfl rfl rfl rfl (by decide) rfl rfl rfl rfl (Nat.le_of_ble_eq_true rfl) dX11_reads_110 ⟨Nat.le_of_ble_eq_true rfl, Nat.le_of_ble_eq_true rfl⟩ (fun z110 w1 hq => ?_)
                  obtain ⟨sp'_41, ⟨rfl, hc_110⟩ | ⟨rfl, hc_110⟩, hs_110, rfl⟩ := hq
                  · refine z_if_eq (tgt := 127) E (by omega) dX11_reads_113 (by decide) (fun h => absurd h (by decide)) (fun _ => ?_)
                    refine z_aload_n E 0 rfl rfl dX11_reads_116 ?_
                    refine z_callVi (As := []) (rest := []) (wr := []) E (c_X11_later l D κ m0 ms mp pn mt tyd mT mO mU ld up lw ua la bU bL sv xn yn sp'_41 1 e mr TX R (by omega) (hC) (by omega) (by omega)) m_X11_200 ⟨Nat.le_of_ble_eq_true rfl, Nat.le_of_ble_eq_true rfl⟩ ⟨rfl, rfl⟩ [1, 2, 0] [] rfl rfl rfl rfl (by decide) rfl rfl rfl rfl (Nat.le_of_ble_eq_true rfl) dX11_reads_117 ⟨Nat.le_of_ble_eq_true rfl, Nat.le_of_ble_eq_true rfl⟩ (fun z117 w1 hq => ?_)
                    obtain ⟨sp'_42, rs'_43, pt'_44, RW'_45, ⟨rfl, hc_117⟩ | ⟨rfl, hc_117⟩, h2_117, rfl⟩ := hq
                    · refine z_if_eq (tgt := 127) E (by omega) dX11_reads_120 (by decide) (fun h => absurd h (by decide)) (fun _ => ?_)
                      refine z_iconst E dX11_reads_123 ?_
                      refine z_goto (tgt := 128) E dX11_reads_124 (by decide) ?_
                      refine z_istore_n (lv' := [(2, .int (zi 1)), (0, .ref m0)]) E dX11_reads_128 rfl (Nat.le_of_ble_eq_true rfl) rfl ?_
                      refine z_goto (tgt := 84) E dX11_reads_129 (by decide) ?_
                      refine Zg.sub (lv' := [(0, .ref m0), (2, .int (zi 1))]) [1, 0] rfl ?_
                      refine Zg.perm (ws' := [(m0, .inr (11, [.ref ms, .ref mp, .int (zi pn), .ref mt, .int (zi tyd), .ref mT, .ref mO, .ref mU, .int (zi ld), .long (zl up), .long (zl lw), .long (zl ua), .long (zl la), .long (zl bU), .int (zi bL), .int (zi sv), .int (zi xn), .int (zi yn), .int (zi sp'_42), .int (zi rs'_43), .int (zi pt'_44), .ref mr])), (mr, ai κ 21 RW'_45), (mt, ai κ 40 TX)]) [0, 2, 1] rfl rfl ?_
                      exact ih_84 1 sp'_42 rs'_43 pt'_44 RW'_45 (by have := laR_bd h2_117 (by omega); omega) ((rd_later hk1 hk2 (by omega) hk3 hk4 (by unfold due; rw [if_neg (by omega)]; exact hc_110) (by omega) h2_117).1 hc_117) (by have := rdM_b i1; have := h2_117.2; omega)
                    · refine z_if_eq (tgt := 127) E (by omega) dX11_reads_120 (by decide) (fun _ => ?_) (fun h => absurd h (by decide))
                      refine z_iconst E dX11_reads_127 ?_
                      refine z_istore_n (lv' := [(2, .int (zi 0)), (0, .ref m0)]) E dX11_reads_128 rfl (Nat.le_of_ble_eq_true rfl) rfl ?_
                      refine z_goto (tgt := 84) E dX11_reads_129 (by decide) ?_
                      refine Zg.sub (lv' := [(0, .ref m0), (2, .int (zi 0))]) [1, 0] rfl ?_
                      refine Zg.perm (ws' := [(m0, .inr (11, [.ref ms, .ref mp, .int (zi pn), .ref mt, .int (zi tyd), .ref mT, .ref mO, .ref mU, .int (zi ld), .long (zl up), .long (zl lw), .long (zl ua), .long (zl la), .long (zl bU), .int (zi bL), .int (zi sv), .int (zi xn), .int (zi yn), .int (zi sp'_42), .int (zi rs'_43), .int (zi pt'_44), .ref mr])), (mr, ai κ 21 RW'_45), (mt, ai κ 40 TX)]) [0, 2, 1] rfl rfl ?_
                      exact ih_84 0 sp'_42 rs'_43 pt'_44 RW'_45 (by have := laR_bd h2_117 (by omega); omega) ((rd_later hk1 hk2 (by omega) hk3 hk4 (by unfold due; rw [if_neg (by omega)]; exact hc_110) (by omega) h2_117).2 hc_117) (by have := rdM_b i1; have := h2_117.2; omega)
                  · refine z_if_eq (tgt := 127) E (by omega) dX11_reads_113 (by decide) (fun _ => ?_) (fun h => absurd h (by decide))
                    refine z_iconst E dX11_reads_127 ?_
                    refine z_istore_n (lv' := [(2, .int (zi 0)), (0, .ref m0)]) E dX11_reads_128 rfl (Nat.le_of_ble_eq_true rfl) rfl ?_
                    refine z_goto (tgt := 84) E dX11_reads_129 (by decide) ?_
                    refine Zg.sub (lv' := [(0, .ref m0), (2, .int (zi 0))]) [1, 0] rfl ?_
                    refine Zg.perm (ws' := [(m0, .inr (11, [.ref ms, .ref mp, .int (zi pn), .ref mt, .int (zi tyd), .ref mT, .ref mO, .ref mU, .int (zi ld), .long (zl up), .long (zl lw), .long (zl ua), .long (zl la), .long (zl bU), .int (zi bL), .int (zi sv), .int (zi xn), .int (zi yn), .int (zi sp'_41), .int (zi 1), .int (zi e), .ref mr])), (mr, ai κ 21 R), (mt, ai κ 40 TX)]) [1, 0, 2] rfl rfl ?_
                    exact ih_84 0 sp'_41 1 e R (by omega) (by rw [show (sp'_41 : Int) = a by omega]; exact rd_stop hk1 hk2 (by omega) (by unfold due; rw [if_neg (by omega)]; exact hc_110)) (by have := rdM_b i1; omega)
        refine Zg.sub (lv' := [(0, .ref m0), (2, .int (zi 1))]) [2, 0] rfl ?_
        refine Zg.perm (ws' := [(m0, .inr (11, [.ref ms, .ref mp, .int (zi pn), .ref mt, .int (zi tyd), .ref mT, .ref mO, .ref mU, .int (zi ld), .long (zl up), .long (zl lw), .long (zl ua), .long (zl la), .long (zl bU), .int (zi bL), .int (zi sv), .int (zi xn), .int (zi yn), .int (zi sp'_26), .int (zi 1), .int (zi 1), .ref mr])), (mr, ai κ 21 (zu (zu RW 0 v'_25) 0 v'_25)), (mt, ai κ 40 TX)]) [1, 0, 2] rfl rfl ?_
        exact lp_84 ((2 * 1 + (22 - 1) : Int).toNat + 1) 1 sp'_26 1 1 (zu (zu RW 0 v'_25) 0 v'_25) (by omega) (hrm) (by omega)
    · have hnb := nuR_bd hr_23 (by omega)
      have hfi := rd_first (by omega) hr_23
      refine z_if_ne (tgt := 31) E (by omega) dX11_reads_26 (by decide) (fun h => absurd h (by decide)) (fun _ => ?_)
      refine z_iconst E dX11_reads_29 ?_
      exact fin _ _ _ _ rfl (⟨_, _, _, _, Or.inr ⟨rfl, (by exact fun ⟨k, hk⟩ => tFine_bad hk (hfi.1 hc_23))⟩, (by exact Or.inr (hfi.1 hc_23)), rfl⟩) dX11_reads_30
abbrev rm_X11_fault : Room := { frames := 5, cells := 0, slots := 0, locals := 112 }
set_option maxRecDepth 100000 in
theorem c_X11_fault (l : Launch) (D : va_G) (κ : Nat → ClassId) (m0 : Nat) (ms : Nat) (mp : Nat) (pn : Int) (mt : Nat) (tyd : Int) (mT : Nat) (mO : Nat) (mU : Nat) (ld : Int) (up : Int) (lw : Int) (ua : Int) (la : Int) (bU : Int) (bL : Int) (sv : Int) (xn : Int) (yn : Int) (sp : Int) (rs : Int) (pt : Int) (mr : Nat) (TX : Int → Int) (RW : Int → Int) (wt : Int) (hr0 : -2147483648 ≤ wt ∧ wt ≤ 2147483647) (hty : 0 ≤ tyd ∧ tyd ≤ 40) (hC : ∀ i : Int, 0 ≤ i → i < tyd → 32 ≤ TX i ∧ TX i ≤ 126) : ZI l yX11_fault cX11_fault 2 .int rm_X11_fault D κ [.ref m0, .int (zi wt)] [(m0, .inr (11, [.ref ms, .ref mp, .int (zi pn), .ref mt, .int (zi tyd), .ref mT, .ref mO, .ref mU, .int (zi ld), .long (zl up), .long (zl lw), .long (zl ua), .long (zl la), .long (zl bU), .int (zi bL), .int (zi sv), .int (zi xn), .int (zi yn), .int (zi sp), .int (zi rs), .int (zi pt), .ref mr])), (mt, ai κ 40 TX), (mr, ai κ 21 RW)] (fun z w => ∃ r : Int, ∃ sp' : Int, ∃ rs' : Int, ∃ pt' : Int, ∃ RW' : Int → Int, (ftC TX tyd wt r) ∧ r = z ∧ [(m0, .inr (11, [.ref ms, .ref mp, .int (zi pn), .ref mt, .int (zi tyd), .ref mT, .ref mO, .ref mU, .int (zi ld), .long (zl up), .long (zl lw), .long (zl ua), .long (zl la), .long (zl bU), .int (zi bL), .int (zi sv), .int (zi xn), .int (zi yn), .int (zi sp'), .int (zi rs'), .int (zi pt'), .ref mr])), (mt, ai κ 40 TX), (mr, ai κ 21 RW')] = w) := by
  refine ZI.enter (own := RX11) rfl pn_X11_fault (Nat.le_of_ble_eq_true rfl) (fun X E fin => ?_)
  show Zg X [(m0, .inr (11, [.ref ms, .ref mp, .int (zi pn), .ref mt, .int (zi tyd), .ref mT, .ref mO, .ref mU, .int (zi ld), .long (zl up), .long (zl lw), .long (zl ua), .long (zl la), .long (zl bU), .int (zi bL), .int (zi sv), .int (zi xn), .int (zi yn), .int (zi sp), .int (zi rs), .int (zi pt), .ref mr])), (mt, ai κ 40 TX), (mr, ai κ 21 RW)] 0 0 0 [(0, .ref m0), (1, .int (zi wt))] []
  refine z_iload_n E 1 rfl rfl dX11_fault_0 ?_
  refine z_i2l E (by omega) dX11_fault_1 ?_
  refine z_lconst0 E dX11_fault_2 ?_
  refine z_lconst1 E dX11_fault_3 ?_
  refine z_callSi (As := [.long (zl wt), .long (zl 0), .long (zl 1)]) (rest := []) (wr := [(m0, .inr (11, [.ref ms, .ref mp, .int (zi pn), .ref mt, .int (zi tyd), .ref mT, .ref mO, .ref mU, .int (zi ld), .long (zl up), .long (zl lw), .long (zl ua), .long (zl la), .long (zl bU), .int (zi bL), .int (zi sv), .int (zi xn), .int (zi yn), .int (zi sp), .int (zi rs), .int (zi pt), .ref mr])), (mt, ai κ 40 TX), (mr, ai κ 21 RW)]) E (c_X11_in l D κ wt 0 1 (by omega) (by omega) (by omega)) m_X11_44 ⟨Nat.le_of_ble_eq_true rfl, Nat.le_of_ble_eq_true rfl⟩ ⟨rfl, rfl⟩ [] [0, 1, 2] rfl rfl rfl rfl (by decide) rfl rfl (Nat.le_of_ble_eq_true rfl) dX11_fault_4 ⟨Nat.le_of_ble_eq_true rfl, Nat.le_of_ble_eq_true rfl⟩ (fun z4 w1 hq => ?_)
  obtain ⟨⟨rfl, hc_4⟩ | ⟨rfl, hc_4⟩, rfl⟩ := hq
  · refine z_if_ne (tgt := 13) E (by omega) dX11_fault_7 (by decide) (fun _ => ?_) (fun h => absurd h (by decide))
    refine z_aload_n E 0 rfl rfl dX11_fault_13 ?_
    refine z_callVi (As := []) (rest := []) (wr := []) E (c_X11_reads l D κ m0 ms mp pn mt tyd mT mO mU ld up lw ua la bU bL sv xn yn sp rs pt mr TX RW (by omega) (hC)) m_X11_203 ⟨Nat.le_of_ble_eq_true rfl, Nat.le_of_ble_eq_true rfl⟩ ⟨rfl, rfl⟩ [0, 1, 2] [] rfl rfl rfl rfl (by decide) rfl rfl rfl rfl (Nat.le_of_ble_eq_true rfl) dX11_fault_14 ⟨Nat.le_of_ble_eq_true rfl, Nat.le_of_ble_eq_true rfl⟩ (fun z14 w1 hq => ?_)
    obtain ⟨sp'_1, rs'_2, pt'_3, RW'_4, ⟨rfl, hc_14⟩ | ⟨rfl, hc_14⟩, hd_14, rfl⟩ := hq
    · refine z_if_eq (tgt := 25) E (by omega) dX11_fault_17 (by decide) (fun h => absurd h (by decide)) (fun _ => ?_)
      refine z_ldc E k_X11_176 dX11_fault_20 ?_
      refine z_goto (tgt := 40) E dX11_fault_22 (by decide) ?_
      exact fin _ _ _ _ rfl (⟨_, _, _, _, _, (by exact Or.inr (Or.inl ⟨hc_4, hc_14, rfl⟩)), rfl, rfl⟩) dX11_fault_40
    · refine z_if_eq (tgt := 25) E (by omega) dX11_fault_17 (by decide) (fun _ => ?_) (fun h => absurd h (by decide))
      refine z_iload_n E 1 rfl rfl dX11_fault_25 ?_
      refine z_if_ne (tgt := 36) E (by omega) dX11_fault_26 (by decide) (fun h_26 => ?_) (fun h_26 => ?_)
      · refine z_aload_n E 0 rfl rfl dX11_fault_36 ?_
        refine z_get E f_X11_194 0 rfl rfl dX11_fault_37 ?_
        exact fin _ _ _ _ rfl (⟨_, _, _, _, _, (by exact Or.inr (Or.inr ⟨hc_4, _, _, rdF_bad hd_14 hc_14, Or.inr ⟨by omega, rfl⟩⟩)), rfl, rfl⟩) dX11_fault_40
      · refine z_aload_n E 0 rfl rfl dX11_fault_29 ?_
        refine z_get E f_X11_177 0 rfl rfl dX11_fault_30 ?_
        refine z_goto (tgt := 40) E dX11_fault_33 (by decide) ?_
        exact fin _ _ _ _ rfl (⟨_, _, _, _, _, (by exact Or.inr (Or.inr ⟨hc_4, _, _, rdF_bad hd_14 hc_14, Or.inl ⟨by omega, rfl⟩⟩)), rfl, rfl⟩) dX11_fault_40
  · refine z_if_ne (tgt := 13) E (by omega) dX11_fault_7 (by decide) (fun h => absurd h (by decide)) (fun _ => ?_)
    refine z_ldc E k_X11_50 dX11_fault_10 ?_
    exact fin _ _ _ _ rfl (⟨_, _, _, _, _, (by exact Or.inl ⟨hc_4, rfl⟩), rfl, rfl⟩) dX11_fault_12
abbrev rm_X11_tells : Room := { frames := 2, cells := 0, slots := 0, locals := 49 }
set_option maxRecDepth 100000 in
theorem c_X11_tells (l : Launch) (D : va_G) (κ : Nat → ClassId) (m0 : Nat) (ms : Nat) (mp : Nat) (pn : Int) (mt : Nat) (tyd : Int) (mT : Nat) (mO : Nat) (mU : Nat) (ld : Int) (up : Int) (lw : Int) (ua : Int) (la : Int) (bU : Int) (bL : Int) (sv : Int) (xn : Int) (yn : Int) (sp : Int) (rs : Int) (pt : Int) (mr : Nat) (RW : Int → Int) (hpt : 1 ≤ pt ∧ pt ≤ 20) (hf : fPos RW pt) : ZI l yX11_tells cX11_tells 3 .boolean rm_X11_tells D κ [.ref m0] [(m0, .inr (11, [.ref ms, .ref mp, .int (zi pn), .ref mt, .int (zi tyd), .ref mT, .ref mO, .ref mU, .int (zi ld), .long (zl up), .long (zl lw), .long (zl ua), .long (zl la), .long (zl bU), .int (zi bL), .int (zi sv), .int (zi xn), .int (zi yn), .int (zi sp), .int (zi rs), .int (zi pt), .ref mr])), (mr, ai κ 21 RW)] (fun z w => ∃ up' : Int, ∃ lw' : Int, ∃ ua' : Int, ∃ la' : Int, ((1 = z ∧ ((chRun RW pt.toNat).2.2.1 = 0)) ∨ (0 = z ∧ ¬ ((chRun RW pt.toNat).2.2.1 = 0))) ∧ ((chRun RW pt.toNat).2.2.1 = 0 → chRun RW pt.toNat = (up', lw', 0, ua', la')) ∧ [(m0, .inr (11, [.ref ms, .ref mp, .int (zi pn), .ref mt, .int (zi tyd), .ref mT, .ref mO, .ref mU, .int (zi ld), .long (zl up'), .long (zl lw'), .long (zl ua'), .long (zl la'), .long (zl bU), .int (zi bL), .int (zi sv), .int (zi xn), .int (zi yn), .int (zi sp), .int (zi rs), .int (zi pt), .ref mr])), (mr, ai κ 21 RW)] = w) := by
  refine ZI.enter (own := RX11) rfl pn_X11_tells (Nat.le_of_ble_eq_true rfl) (fun X E fin => ?_)
  show Zg X [(m0, .inr (11, [.ref ms, .ref mp, .int (zi pn), .ref mt, .int (zi tyd), .ref mT, .ref mO, .ref mU, .int (zi ld), .long (zl up), .long (zl lw), .long (zl ua), .long (zl la), .long (zl bU), .int (zi bL), .int (zi sv), .int (zi xn), .int (zi yn), .int (zi sp), .int (zi rs), .int (zi pt), .ref mr])), (mr, ai κ 21 RW)] 0 0 0 [(0, .ref m0)] []
  refine z_aload_n E 0 rfl rfl dX11_tells_0 ?_
  refine z_callVv (As := []) (rest := []) (wr := [(mr, ai κ 21 RW)]) E (c_X11_begins l D κ m0 ms mp pn mt tyd mT mO mU ld up lw ua la bU bL sv xn yn sp rs pt mr ) m_X11_113 ⟨Nat.le_of_ble_eq_true rfl, Nat.le_of_ble_eq_true rfl⟩ ⟨rfl, rfl⟩ [0] [1] rfl rfl rfl rfl (by decide) rfl rfl rfl rfl (Nat.le_of_ble_eq_true rfl) dX11_tells_1 ⟨Nat.le_of_ble_eq_true rfl, Nat.le_of_ble_eq_true rfl⟩ (fun  w1 hq => ?_)
  obtain rfl := hq
  refine z_iconst E dX11_tells_4 ?_
  refine z_istore_n (lv' := [(1, .int (zi 1)), (0, .ref m0)]) E dX11_tells_5 rfl (Nat.le_of_ble_eq_true rfl) rfl ?_
  refine z_iconst E dX11_tells_6 ?_
  refine z_istore_n (lv' := [(2, .int (zi 0)), (1, .int (zi 1)), (0, .ref m0)]) E dX11_tells_7 rfl (Nat.le_of_ble_eq_true rfl) rfl ?_
  have lp_8 : ∀ (n_8 : Nat) (is : Int) (k : Int) (a : Int) (b : Int) (e : Int) (g : Int), (0 ≤ k ∧ k ≤ pt) → (goI RW k is a b e g) → ((pt - k) + 1) < (n_8 : Int) → Zg X [(m0, .inr (11, [.ref ms, .ref mp, .int (zi pn), .ref mt, .int (zi tyd), .ref mT, .ref mO, .ref mU, .int (zi ld), .long (zl a), .long (zl b), .long (zl e), .long (zl g), .long (zl bU), .int (zi bL), .int (zi sv), .int (zi xn), .int (zi yn), .int (zi sp), .int (zi rs), .int (zi pt), .ref mr])), (mr, ai κ 21 RW)] 0 0 8 [(0, .ref m0), (1, .int (zi is)), (2, .int (zi k))] [] := by
    intro n_8
    induction n_8 with
    | zero =>
      intro is k a b e g i0 i1 hmu
      exact absurd hmu (by omega)
    | succ n_8 ih_8 =>
      intro is k a b e g i0 i1 hmu_8
      refine z_iload_n E 2 rfl rfl dX11_tells_8 ?_
      refine z_aload_n E 0 rfl rfl dX11_tells_9 ?_
      refine z_get E f_X11_187 0 rfl rfl dX11_tells_10 ?_
      refine z_ic_ge (tgt := 38) E (by omega) (by omega) dX11_tells_13 (by decide) (fun h_13 => ?_) (fun h_13 => ?_)
      · have hib2 := goI_b i1
        refine z_iload_n E 1 rfl rfl dX11_tells_38 ?_
        exact fin _ _ _ _ (nar_bool (by omega)) (⟨_, _, _, _, (goI_fin i1 (by omega) (by omega)).1, (goI_fin i1 (by omega) (by omega)).2, rfl⟩) dX11_tells_39
      · have hib := goI_b i1
        refine z_iload_n E 1 rfl rfl dX11_tells_16 ?_
        refine z_if_eq (tgt := 38) E (by omega) dX11_tells_17 (by decide) (fun h_17 => ?_) (fun h_17 => ?_)
        · have hib2 := goI_b i1
          refine z_iload_n E 1 rfl rfl dX11_tells_38 ?_
          exact fin _ _ _ _ (nar_bool (by omega)) (⟨_, _, _, _, (goI_fin i1 (by omega) (by omega)).1, (goI_fin i1 (by omega) (by omega)).2, rfl⟩) dX11_tells_39
        · have hgr := goI_get i1 (by omega)
          have hgb := chRun_nn hf i0.1 (by omega) hgr
          refine z_aload_n E 0 rfl rfl dX11_tells_20 ?_
          refine z_aload_n E 0 rfl rfl dX11_tells_21 ?_
          refine z_get E f_X11_29 0 rfl rfl dX11_tells_22 ?_
          refine z_iload_n E 2 rfl rfl dX11_tells_25 ?_
          refine z_iald E 1 rfl (Nat.le_of_ble_eq_true rfl) (by omega) (by omega) dX11_tells_26 ?_
          refine z_i2l E (by omega) dX11_tells_27 ?_
          refine z_callVi (As := [.long (zl (RW k))]) (rest := []) (wr := [(mr, ai κ 21 RW)]) E (c_X11_goesOn l D κ m0 ms mp pn mt tyd mT mO mU ld a b e g bU bL sv xn yn sp rs pt mr (RW k) (hgb.2.2.2.2.2.1) (hgb.1) (hgb.2.1) (hgb.2.2.1) (hgb.2.2.2.1) (hgb.2.2.2.2.1)) m_X11_116 ⟨Nat.le_of_ble_eq_true rfl, Nat.le_of_ble_eq_true rfl⟩ ⟨rfl, rfl⟩ [0] [1] rfl rfl rfl rfl (by decide) rfl rfl rfl rfl (Nat.le_of_ble_eq_true rfl) dX11_tells_28 ⟨Nat.le_of_ble_eq_true rfl, Nat.le_of_ble_eq_true rfl⟩ (fun z28 w1 hq => ?_)
          obtain ⟨up'_1, lw'_2, ua'_3, la'_4, o'_5, ⟨rfl, hc_28⟩ | ⟨rfl, hc_28⟩, hh_28, rfl⟩ := hq
          · refine z_istore_n (lv' := [(1, .int (zi 1)), (0, .ref m0), (2, .int (zi k))]) E dX11_tells_31 rfl (Nat.le_of_ble_eq_true rfl) rfl ?_
            refine z_iinc (lv' := [(2, .int (zi (k + 1))), (1, .int (zi 1)), (0, .ref m0)]) E 2 rfl dX11_tells_32 (Nat.le_of_ble_eq_true rfl) rfl ?_
            refine z_goto (tgt := 8) E dX11_tells_35 (by decide) ?_
            refine Zg.sub (lv' := [(0, .ref m0), (1, .int (zi 1)), (2, .int (zi (k + 1)))]) [2, 1, 0] rfl ?_
            refine Zg.perm (ws' := [(m0, .inr (11, [.ref ms, .ref mp, .int (zi pn), .ref mt, .int (zi tyd), .ref mT, .ref mO, .ref mU, .int (zi ld), .long (zl up'_1), .long (zl lw'_2), .long (zl ua'_3), .long (zl la'_4), .long (zl bU), .int (zi bL), .int (zi sv), .int (zi xn), .int (zi yn), .int (zi sp), .int (zi rs), .int (zi pt), .ref mr])), (mr, ai κ 21 RW)]) [1, 0] rfl rfl ?_
            exact ih_8 1 (k + 1) up'_1 lw'_2 ua'_3 la'_4 (by omega) ((goI_s i0.1 hgr rfl hh_28).1 hc_28) (by omega)
          · refine z_istore_n (lv' := [(1, .int (zi 0)), (0, .ref m0), (2, .int (zi k))]) E dX11_tells_31 rfl (Nat.le_of_ble_eq_true rfl) rfl ?_
            refine z_iinc (lv' := [(2, .int (zi (k + 1))), (1, .int (zi 0)), (0, .ref m0)]) E 2 rfl dX11_tells_32 (Nat.le_of_ble_eq_true rfl) rfl ?_
            refine z_goto (tgt := 8) E dX11_tells_35 (by decide) ?_
            refine Zg.sub (lv' := [(0, .ref m0), (1, .int (zi 0)), (2, .int (zi (k + 1)))]) [2, 1, 0] rfl ?_
            refine Zg.perm (ws' := [(m0, .inr (11, [.ref ms, .ref mp, .int (zi pn), .ref mt, .int (zi tyd), .ref mT, .ref mO, .ref mU, .int (zi ld), .long (zl up'_1), .long (zl lw'_2), .long (zl ua'_3), .long (zl la'_4), .long (zl bU), .int (zi bL), .int (zi sv), .int (zi xn), .int (zi yn), .int (zi sp), .int (zi rs), .int (zi pt), .ref mr])), (mr, ai κ 21 RW)]) [1, 0] rfl rfl ?_
            exact ih_8 0 (k + 1) up'_1 lw'_2 ua'_3 la'_4 (by omega) ((goI_s i0.1 hgr rfl hh_28).2 hc_28) (by omega)
  refine Zg.sub (lv' := [(0, .ref m0), (1, .int (zi 1)), (2, .int (zi 0))]) [2, 1, 0] rfl ?_
  refine Zg.perm (ws' := [(m0, .inr (11, [.ref ms, .ref mp, .int (zi pn), .ref mt, .int (zi tyd), .ref mT, .ref mO, .ref mU, .int (zi ld), .long (zl 1), .long (zl 0), .long (zl 0), .long (zl 1), .long (zl bU), .int (zi bL), .int (zi sv), .int (zi xn), .int (zi yn), .int (zi sp), .int (zi rs), .int (zi pt), .ref mr])), (mr, ai κ 21 RW)]) [1, 0] rfl rfl ?_
  exact lp_8 (((pt - 0) + 1 : Int).toNat + 1) 1 0 1 0 0 1 (by omega) (goI_0) (by omega)
abbrev rm_X11_fits : Room := { frames := 1, cells := 0, slots := 0, locals := 25 }
set_option maxRecDepth 100000 in
theorem c_X11_fits (l : Launch) (D : va_G) (κ : Nat → ClassId) (m0 : Nat) (ms : Nat) (mp : Nat) (pn : Int) (mt : Nat) (tyd : Int) (mT : Nat) (mO : Nat) (mU : Nat) (ld : Int) (up : Int) (lw : Int) (ua : Int) (la : Int) (bU : Int) (bL : Int) (sv : Int) (xn : Int) (yn : Int) (sp : Int) (rs : Int) (pt : Int) (mr : Nat) (hup : -9000000000000000 ≤ up ∧ up ≤ 9000000000000000) (hlw : -9000000000000000 ≤ lw ∧ lw ≤ 9000000000000000) : ZI l yX11_fits cX11_fits 1 .boolean rm_X11_fits D κ [.ref m0] [(m0, .inr (11, [.ref ms, .ref mp, .int (zi pn), .ref mt, .int (zi tyd), .ref mT, .ref mO, .ref mU, .int (zi ld), .long (zl up), .long (zl lw), .long (zl ua), .long (zl la), .long (zl bU), .int (zi bL), .int (zi sv), .int (zi xn), .int (zi yn), .int (zi sp), .int (zi rs), .int (zi pt), .ref mr]))] (fun z w => ((1 = z ∧ ((-30000 ≤ up ∧ up ≤ 30000) ∧ 1 ≤ lw ∧ lw ≤ 200)) ∨ (0 = z ∧ ¬ ((-30000 ≤ up ∧ up ≤ 30000) ∧ 1 ≤ lw ∧ lw ≤ 200))) ∧ [(m0, .inr (11, [.ref ms, .ref mp, .int (zi pn), .ref mt, .int (zi tyd), .ref mT, .ref mO, .ref mU, .int (zi ld), .long (zl up), .long (zl lw), .long (zl ua), .long (zl la), .long (zl bU), .int (zi bL), .int (zi sv), .int (zi xn), .int (zi yn), .int (zi sp), .int (zi rs), .int (zi pt), .ref mr]))] = w) := by
  refine ZI.enter (own := RX11) rfl pn_X11_fits (Nat.le_of_ble_eq_true rfl) (fun X E fin => ?_)
  show Zg X [(m0, .inr (11, [.ref ms, .ref mp, .int (zi pn), .ref mt, .int (zi tyd), .ref mT, .ref mO, .ref mU, .int (zi ld), .long (zl up), .long (zl lw), .long (zl ua), .long (zl la), .long (zl bU), .int (zi bL), .int (zi sv), .int (zi xn), .int (zi yn), .int (zi sp), .int (zi rs), .int (zi pt), .ref mr]))] 0 0 0 [(0, .ref m0)] []
  refine z_aload_n E 0 rfl rfl dX11_fits_0 ?_
  refine z_get E f_X11_93 0 rfl rfl dX11_fits_1 ?_
  refine z_ldc2 E k_X11_206 dX11_fits_4 ?_
  refine z_ldc2 E k_X11_208 dX11_fits_7 ?_
  refine z_callSi (As := [.long (zl up), .long (zl (-30000)), .long (zl 30000)]) (rest := []) (wr := [(m0, .inr (11, [.ref ms, .ref mp, .int (zi pn), .ref mt, .int (zi tyd), .ref mT, .ref mO, .ref mU, .int (zi ld), .long (zl up), .long (zl lw), .long (zl ua), .long (zl la), .long (zl bU), .int (zi bL), .int (zi sv), .int (zi xn), .int (zi yn), .int (zi sp), .int (zi rs), .int (zi pt), .ref mr]))]) E (c_X11_in l D κ up (-30000) 30000 (by omega) (by omega) (by omega)) m_X11_44 ⟨Nat.le_of_ble_eq_true rfl, Nat.le_of_ble_eq_true rfl⟩ ⟨rfl, rfl⟩ [] [0] rfl rfl rfl rfl (by decide) rfl rfl (Nat.le_of_ble_eq_true rfl) dX11_fits_10 ⟨Nat.le_of_ble_eq_true rfl, Nat.le_of_ble_eq_true rfl⟩ (fun z10 w1 hq => ?_)
  obtain ⟨⟨rfl, hc_10⟩ | ⟨rfl, hc_10⟩, rfl⟩ := hq
  · refine z_if_eq (tgt := 34) E (by omega) dX11_fits_13 (by decide) (fun h => absurd h (by decide)) (fun _ => ?_)
    refine z_aload_n E 0 rfl rfl dX11_fits_16 ?_
    refine z_get E f_X11_97 0 rfl rfl dX11_fits_17 ?_
    refine z_lconst1 E dX11_fits_20 ?_
    refine z_ldc2 E k_X11_146 dX11_fits_21 ?_
    refine z_callSi (As := [.long (zl lw), .long (zl 1), .long (zl 200)]) (rest := []) (wr := [(m0, .inr (11, [.ref ms, .ref mp, .int (zi pn), .ref mt, .int (zi tyd), .ref mT, .ref mO, .ref mU, .int (zi ld), .long (zl up), .long (zl lw), .long (zl ua), .long (zl la), .long (zl bU), .int (zi bL), .int (zi sv), .int (zi xn), .int (zi yn), .int (zi sp), .int (zi rs), .int (zi pt), .ref mr]))]) E (c_X11_in l D κ lw 1 200 (by omega) (by omega) (by omega)) m_X11_44 ⟨Nat.le_of_ble_eq_true rfl, Nat.le_of_ble_eq_true rfl⟩ ⟨rfl, rfl⟩ [] [0] rfl rfl rfl rfl (by decide) rfl rfl (Nat.le_of_ble_eq_true rfl) dX11_fits_24 ⟨Nat.le_of_ble_eq_true rfl, Nat.le_of_ble_eq_true rfl⟩ (fun z24 w1 hq => ?_)
    obtain ⟨⟨rfl, hc_24⟩ | ⟨rfl, hc_24⟩, rfl⟩ := hq
    · refine z_if_eq (tgt := 34) E (by omega) dX11_fits_27 (by decide) (fun h => absurd h (by decide)) (fun _ => ?_)
      refine z_iconst E dX11_fits_30 ?_
      refine z_goto (tgt := 35) E dX11_fits_31 (by decide) ?_
      exact fin _ _ _ _ rfl (⟨Or.inl ⟨rfl, (by exact ⟨hc_10, hc_24⟩)⟩, rfl⟩) dX11_fits_35
    · refine z_if_eq (tgt := 34) E (by omega) dX11_fits_27 (by decide) (fun _ => ?_) (fun h => absurd h (by decide))
      refine z_iconst E dX11_fits_34 ?_
      exact fin _ _ _ _ rfl (⟨Or.inr ⟨rfl, (by exact fun z => hc_24 z.2)⟩, rfl⟩) dX11_fits_35
  · refine z_if_eq (tgt := 34) E (by omega) dX11_fits_13 (by decide) (fun _ => ?_) (fun h => absurd h (by decide))
    refine z_iconst E dX11_fits_34 ?_
    exact fin _ _ _ _ rfl (⟨Or.inr ⟨rfl, (by exact fun z => hc_10 z.1)⟩, rfl⟩) dX11_fits_35
abbrev rm_X11_alike : Room := { frames := 3, cells := 0, slots := 0, locals := 85 }
set_option maxRecDepth 100000 in
theorem c_X11_alike (l : Launch) (D : va_G) (κ : Nat → ClassId) (m0 : Nat) (ms : Nat) (mp : Nat) (pn : Int) (mt : Nat) (tyd : Int) (mT : Nat) (mO : Nat) (mU : Nat) (ld : Int) (up : Int) (lw : Int) (ua : Int) (la : Int) (bU : Int) (bL : Int) (sv : Int) (xn : Int) (yn : Int) (sp : Int) (rs : Int) (pt : Int) (mr : Nat) (S : Int → Int) (T : Int → Int) (OV : Int → Int) (UN : Int → Int) (RW : Int → Int) (hv : vS (S 0) (S 1) (S 2)) (hpt : 0 ≤ pt ∧ pt ≤ 20) (hg : ∀ i : Int, 0 ≤ i → i < pt → -1000000 ≤ RW i ∧ RW i ≤ 1000000) : ZI l yX11_alike cX11_alike 2 .int rm_X11_alike D κ [.ref m0] [(m0, .inr (11, [.ref ms, .ref mp, .int (zi pn), .ref mt, .int (zi tyd), .ref mT, .ref mO, .ref mU, .int (zi ld), .long (zl up), .long (zl lw), .long (zl ua), .long (zl la), .long (zl bU), .int (zi bL), .int (zi sv), .int (zi xn), .int (zi yn), .int (zi sp), .int (zi rs), .int (zi pt), .ref mr])), (ms, ai κ 20 S), (mT, ai κ 401 T), (mO, al κ 402 OV), (mU, al κ 402 UN), (mr, ai κ 21 RW)] (fun z w => ∃ r : Int, ∃ T' : Int → Int, ∃ OV' : Int → Int, ∃ UN' : Int → Int, (shP RW (tm (S 0) (S 1) (S 2)) pt r) ∧ r = z ∧ [(m0, .inr (11, [.ref ms, .ref mp, .int (zi pn), .ref mt, .int (zi tyd), .ref mT, .ref mO, .ref mU, .int (zi ld), .long (zl up), .long (zl lw), .long (zl ua), .long (zl la), .long (zl bU), .int (zi bL), .int (zi sv), .int (zi xn), .int (zi yn), .int (zi sp), .int (zi rs), .int (zi pt), .ref mr])), (ms, ai κ 20 S), (mT, ai κ 401 T'), (mO, al κ 402 OV'), (mU, al κ 402 UN'), (mr, ai κ 21 RW)] = w) := by
  refine ZI.enter (own := RX11) rfl pn_X11_alike (Nat.le_of_ble_eq_true rfl) (fun X E fin => ?_)
  show Zg X [(m0, .inr (11, [.ref ms, .ref mp, .int (zi pn), .ref mt, .int (zi tyd), .ref mT, .ref mO, .ref mU, .int (zi ld), .long (zl up), .long (zl lw), .long (zl ua), .long (zl la), .long (zl bU), .int (zi bL), .int (zi sv), .int (zi xn), .int (zi yn), .int (zi sp), .int (zi rs), .int (zi pt), .ref mr])), (ms, ai κ 20 S), (mT, ai κ 401 T), (mO, al κ 402 OV), (mU, al κ 402 UN), (mr, ai κ 21 RW)] 0 0 0 [(0, .ref m0)] []
  refine z_aload_n E 0 rfl rfl dX11_alike_0 ?_
  refine z_callVv (As := []) (rest := []) (wr := [(mr, ai κ 21 RW)]) E (c_X11_lays l D κ m0 ms mp pn mt tyd mT mO mU ld up lw ua la bU bL sv xn yn sp rs pt mr S T OV UN (hv)) m_X11_69 ⟨Nat.le_of_ble_eq_true rfl, Nat.le_of_ble_eq_true rfl⟩ ⟨rfl, rfl⟩ [0, 1, 2, 3, 4] [5] rfl rfl rfl rfl (by decide) rfl rfl rfl rfl (Nat.le_of_ble_eq_true rfl) dX11_alike_1 ⟨Nat.le_of_ble_eq_true rfl, Nat.le_of_ble_eq_true rfl⟩ (fun  w1 hq => ?_)
  obtain ⟨T'_1, OV'_2, UN'_3, hT_1, hO_1, rfl⟩ := hq
  refine z_iconst E dX11_alike_4 ?_
  refine z_istore_n (lv' := [(1, .int (zi 0)), (0, .ref m0)]) E dX11_alike_5 rfl (Nat.le_of_ble_eq_true rfl) rfl ?_
  have lp_6 : ∀ (n_6 : Nat) (i : Int), (0 ≤ i ∧ i ≤ pt) → (∀ k : Int, 0 ≤ k → k < i → RW k = tm (S 0) (S 1) (S 2) k) → (pt - i) < (n_6 : Int) → Zg X [(m0, .inr (11, [.ref ms, .ref mp, .int (zi pn), .ref mt, .int (zi tyd), .ref mT, .ref mO, .ref mU, .int (zi ld), .long (zl up), .long (zl lw), .long (zl ua), .long (zl la), .long (zl bU), .int (zi bL), .int (zi sv), .int (zi xn), .int (zi yn), .int (zi sp), .int (zi rs), .int (zi pt), .ref mr])), (mO, al κ 402 OV'_2), (mT, ai κ 401 T'_1), (mU, al κ 402 UN'_3), (mr, ai κ 21 RW), (ms, ai κ 20 S)] 0 0 6 [(0, .ref m0), (1, .int (zi i))] [] := by
    intro n_6
    induction n_6 with
    | zero =>
      intro i i0 i1 hmu
      exact absurd hmu (by omega)
    | succ n_6 ih_6 =>
      intro i i0 i1 hmu_6
      refine z_iload_n E 1 rfl rfl dX11_alike_6 ?_
      refine z_aload_n E 0 rfl rfl dX11_alike_7 ?_
      refine z_get E f_X11_187 0 rfl rfl dX11_alike_8 ?_
      refine z_ic_ge (tgt := 35) E (by omega) (by omega) dX11_alike_11 (by decide) (fun h_11 => ?_) (fun h_11 => ?_)
      · refine z_iload_n E 1 rfl rfl dX11_alike_35 ?_
        refine Zg.perm (ws' := [(m0, .inr (11, [.ref ms, .ref mp, .int (zi pn), .ref mt, .int (zi tyd), .ref mT, .ref mO, .ref mU, .int (zi ld), .long (zl up), .long (zl lw), .long (zl ua), .long (zl la), .long (zl bU), .int (zi bL), .int (zi sv), .int (zi xn), .int (zi yn), .int (zi sp), .int (zi rs), .int (zi pt), .ref mr])), (ms, ai κ 20 S), (mT, ai κ 401 T'_1), (mO, al κ 402 OV'_2), (mU, al κ 402 UN'_3), (mr, ai κ 21 RW)]) [0, 5, 2, 1, 3, 4] rfl rfl ?_
        exact fin _ _ _ _ rfl (⟨_, _, _, _, (by exact ⟨i0.1, i0.2, i1, fun _ => by omega⟩), rfl, rfl⟩) dX11_alike_36
      · have e1 := hg i i0.1 (by omega)
        have e2 := hT_1 i i0.1 (by omega)
        have e3 := tm_bd hv i
        refine z_aload_n E 0 rfl rfl dX11_alike_14 ?_
        refine z_get E f_X11_29 0 rfl rfl dX11_alike_15 ?_
        refine z_iload_n E 1 rfl rfl dX11_alike_18 ?_
        refine z_iald E 4 rfl (Nat.le_of_ble_eq_true rfl) (by omega) (by omega) dX11_alike_19 ?_
        refine z_aload_n E 0 rfl rfl dX11_alike_20 ?_
        refine z_get E f_X11_19 0 rfl rfl dX11_alike_21 ?_
        refine z_iload_n E 1 rfl rfl dX11_alike_24 ?_
        refine z_iald E 2 rfl (Nat.le_of_ble_eq_true rfl) (by omega) (by omega) dX11_alike_25 ?_
        refine z_ic_ne (tgt := 35) E (by omega) (by omega) dX11_alike_26 (by decide) (fun h_26 => ?_) (fun h_26 => ?_)
        · refine z_iload_n E 1 rfl rfl dX11_alike_35 ?_
          refine Zg.perm (ws' := [(m0, .inr (11, [.ref ms, .ref mp, .int (zi pn), .ref mt, .int (zi tyd), .ref mT, .ref mO, .ref mU, .int (zi ld), .long (zl up), .long (zl lw), .long (zl ua), .long (zl la), .long (zl bU), .int (zi bL), .int (zi sv), .int (zi xn), .int (zi yn), .int (zi sp), .int (zi rs), .int (zi pt), .ref mr])), (ms, ai κ 20 S), (mT, ai κ 401 T'_1), (mO, al κ 402 OV'_2), (mU, al κ 402 UN'_3), (mr, ai κ 21 RW)]) [0, 5, 2, 1, 3, 4] rfl rfl ?_
          exact fin _ _ _ _ rfl (⟨_, _, _, _, (by exact ⟨i0.1, i0.2, i1, fun _ => by omega⟩), rfl, rfl⟩) dX11_alike_36
        · refine z_iinc (lv' := [(1, .int (zi (i + 1))), (0, .ref m0)]) E 1 rfl dX11_alike_29 (Nat.le_of_ble_eq_true rfl) rfl ?_
          refine z_goto (tgt := 6) E dX11_alike_32 (by decide) ?_
          refine Zg.sub (lv' := [(0, .ref m0), (1, .int (zi (i + 1)))]) [1, 0] rfl ?_
          exact ih_6 (i + 1) (by omega) (lt_si i1 (by omega)) (by omega)
  refine Zg.sub (lv' := [(0, .ref m0), (1, .int (zi 0))]) [1, 0] rfl ?_
  refine Zg.perm (ws' := [(m0, .inr (11, [.ref ms, .ref mp, .int (zi pn), .ref mt, .int (zi tyd), .ref mT, .ref mO, .ref mU, .int (zi ld), .long (zl up), .long (zl lw), .long (zl ua), .long (zl la), .long (zl bU), .int (zi bL), .int (zi sv), .int (zi xn), .int (zi yn), .int (zi sp), .int (zi rs), .int (zi pt), .ref mr])), (mO, al κ 402 OV'_2), (mT, ai κ 401 T'_1), (mU, al κ 402 UN'_3), (mr, ai κ 21 RW), (ms, ai κ 20 S)]) [1, 4, 3, 5, 0, 2] rfl rfl ?_
  exact lp_6 ((pt - 0 : Int).toNat + 1) 0 (by omega) (fun k h1 h2 => absurd h1 (by omega)) (by omega)
abbrev rm_X11_told : Room := { frames := 5, cells := 0, slots := 0, locals := 112 }
set_option maxRecDepth 100000 in
theorem c_X11_told (l : Launch) (D : va_G) (κ : Nat → ClassId) (m0 : Nat) (ms : Nat) (mp : Nat) (pn : Int) (mt : Nat) (tyd : Int) (mT : Nat) (mO : Nat) (mU : Nat) (ld : Int) (up : Int) (lw : Int) (ua : Int) (la : Int) (bU : Int) (bL : Int) (sv : Int) (xn : Int) (yn : Int) (sp : Int) (rs : Int) (pt : Int) (mr : Nat) (TX : Int → Int) (RW : Int → Int) (S : Int → Int) (T : Int → Int) (OV : Int → Int) (UN : Int → Int) (wt : Int) (hr0 : -2147483648 ≤ wt ∧ wt ≤ 2147483647) (hty : 0 ≤ tyd ∧ tyd ≤ 40) (hC : ∀ i : Int, 0 ≤ i → i < tyd → 32 ≤ TX i ∧ TX i ≤ 126) (hv : vS (S 0) (S 1) (S 2)) : ZL l yX11_told cX11_told 2 rm_X11_told D κ [.ref m0, .int (zi wt)] [(m0, .inr (11, [.ref ms, .ref mp, .int (zi pn), .ref mt, .int (zi tyd), .ref mT, .ref mO, .ref mU, .int (zi ld), .long (zl up), .long (zl lw), .long (zl ua), .long (zl la), .long (zl bU), .int (zi bL), .int (zi sv), .int (zi xn), .int (zi yn), .int (zi sp), .int (zi rs), .int (zi pt), .ref mr])), (mt, ai κ 40 TX), (mr, ai κ 21 RW), (ms, ai κ 20 S), (mT, ai κ 401 T), (mO, al κ 402 OV), (mU, al κ 402 UN)] (fun z w => ∃ r : Int, ∃ sp' : Int, ∃ rs' : Int, ∃ pt' : Int, ∃ RW' : Int → Int, ∃ up' : Int, ∃ lw' : Int, ∃ ua' : Int, ∃ la' : Int, ∃ T' : Int → Int, ∃ OV' : Int → Int, ∃ UN' : Int → Int, (tdC (S 0) (S 1) (S 2) (tm (S 0) (S 1) (S 2)) TX tyd wt r) ∧ r = z ∧ [(m0, .inr (11, [.ref ms, .ref mp, .int (zi pn), .ref mt, .int (zi tyd), .ref mT, .ref mO, .ref mU, .int (zi ld), .long (zl up'), .long (zl lw'), .long (zl ua'), .long (zl la'), .long (zl bU), .int (zi bL), .int (zi sv), .int (zi xn), .int (zi yn), .int (zi sp'), .int (zi rs'), .int (zi pt'), .ref mr])), (mt, ai κ 40 TX), (mr, ai κ 21 RW'), (ms, ai κ 20 S), (mT, ai κ 401 T'), (mO, al κ 402 OV'), (mU, al κ 402 UN')] = w) := by
  refine ZL.enter (own := RX11) rfl pn_X11_told (Nat.le_of_ble_eq_true rfl) (fun X E fin => ?_)
  show Zg X [(m0, .inr (11, [.ref ms, .ref mp, .int (zi pn), .ref mt, .int (zi tyd), .ref mT, .ref mO, .ref mU, .int (zi ld), .long (zl up), .long (zl lw), .long (zl ua), .long (zl la), .long (zl bU), .int (zi bL), .int (zi sv), .int (zi xn), .int (zi yn), .int (zi sp), .int (zi rs), .int (zi pt), .ref mr])), (mt, ai κ 40 TX), (mr, ai κ 21 RW), (ms, ai κ 20 S), (mT, ai κ 401 T), (mO, al κ 402 OV), (mU, al κ 402 UN)] 0 0 0 [(0, .ref m0), (1, .int (zi wt))] []
  refine z_iload_n E 1 rfl rfl dX11_told_0 ?_
  refine z_i2l E (by omega) dX11_told_1 ?_
  refine z_lconst0 E dX11_told_2 ?_
  refine z_ldc2 E k_X11_75 dX11_told_3 ?_
  refine z_callSi (As := [.long (zl wt), .long (zl 0), .long (zl 4)]) (rest := []) (wr := [(m0, .inr (11, [.ref ms, .ref mp, .int (zi pn), .ref mt, .int (zi tyd), .ref mT, .ref mO, .ref mU, .int (zi ld), .long (zl up), .long (zl lw), .long (zl ua), .long (zl la), .long (zl bU), .int (zi bL), .int (zi sv), .int (zi xn), .int (zi yn), .int (zi sp), .int (zi rs), .int (zi pt), .ref mr])), (mt, ai κ 40 TX), (mr, ai κ 21 RW), (ms, ai κ 20 S), (mT, ai κ 401 T), (mO, al κ 402 OV), (mU, al κ 402 UN)]) E (c_X11_in l D κ wt 0 4 (by omega) (by omega) (by omega)) m_X11_44 ⟨Nat.le_of_ble_eq_true rfl, Nat.le_of_ble_eq_true rfl⟩ ⟨rfl, rfl⟩ [] [0, 1, 2, 3, 4, 5, 6] rfl rfl rfl rfl (by decide) rfl rfl (Nat.le_of_ble_eq_true rfl) dX11_told_6 ⟨Nat.le_of_ble_eq_true rfl, Nat.le_of_ble_eq_true rfl⟩ (fun z6 w1 hq => ?_)
  obtain ⟨⟨rfl, hc_6⟩ | ⟨rfl, hc_6⟩, rfl⟩ := hq
  · refine z_if_ne (tgt := 16) E (by omega) dX11_told_9 (by decide) (fun _ => ?_) (fun h => absurd h (by decide))
    refine z_aload_n E 0 rfl rfl dX11_told_16 ?_
    refine z_callVi (As := []) (rest := []) (wr := [(ms, ai κ 20 S), (mT, ai κ 401 T), (mO, al κ 402 OV), (mU, al κ 402 UN)]) E (c_X11_reads l D κ m0 ms mp pn mt tyd mT mO mU ld up lw ua la bU bL sv xn yn sp rs pt mr TX RW (by omega) (hC)) m_X11_203 ⟨Nat.le_of_ble_eq_true rfl, Nat.le_of_ble_eq_true rfl⟩ ⟨rfl, rfl⟩ [0, 1, 2] [3, 4, 5, 6] rfl rfl rfl rfl (by decide) rfl rfl rfl rfl (Nat.le_of_ble_eq_true rfl) dX11_told_17 ⟨Nat.le_of_ble_eq_true rfl, Nat.le_of_ble_eq_true rfl⟩ (fun z17 w1 hq => ?_)
    obtain ⟨sp'_1, rs'_2, pt'_3, RW'_4, ⟨rfl, hc_17⟩ | ⟨rfl, hc_17⟩, hd_17, rfl⟩ := hq
    · refine z_if_ne (tgt := 27) E (by omega) dX11_told_20 (by decide) (fun _ => ?_) (fun h => absurd h (by decide))
      obtain ⟨k, hk1, hk2, hk3, hk4, hk5, hk6⟩ := rdF_fine hd_17 hc_17
      refine z_iload_n E 1 rfl rfl dX11_told_27 ?_
      refine z_iconst E dX11_told_28 ?_
      refine z_ic_eq (tgt := 37) E (by omega) (by omega) dX11_told_29 (by decide) (fun h_29 => ?_) (fun h_29 => ?_)
      · refine z_iload_n E 1 rfl rfl dX11_told_37 ?_
        refine z_iconst E dX11_told_38 ?_
        refine z_ic_ne (tgt := 50) E (by omega) (by omega) dX11_told_39 (by decide) (fun h_39 => ?_) (fun h_39 => ?_)
        · refine z_aload_n E 0 rfl rfl dX11_told_50 ?_
          refine z_callVi (As := []) (rest := []) (wr := [(mt, ai κ 40 TX)]) E (c_X11_alike l D κ m0 ms mp pn mt tyd mT mO mU ld up lw ua la bU bL sv xn yn sp'_1 rs'_2 pt'_3 mr S T OV UN RW'_4 (hv) (by omega) (hk4.1)) m_X11_212 ⟨Nat.le_of_ble_eq_true rfl, Nat.le_of_ble_eq_true rfl⟩ ⟨rfl, rfl⟩ [4, 0, 1, 2, 3, 6] [5] rfl rfl rfl rfl (by decide) rfl rfl rfl rfl (Nat.le_of_ble_eq_true rfl) dX11_told_51 ⟨Nat.le_of_ble_eq_true rfl, Nat.le_of_ble_eq_true rfl⟩ (fun z51 w1 hq => ?_)
          obtain ⟨r_5, T'_6, OV'_7, UN'_8, hr_51, rfl, rfl⟩ := hq
          have hs1 := hr_51.1
          have hs2 := hr_51.2.1
          refine z_i2l E (by omega) dX11_told_54 ?_
          refine Zg.perm (ws' := [(m0, .inr (11, [.ref ms, .ref mp, .int (zi pn), .ref mt, .int (zi tyd), .ref mT, .ref mO, .ref mU, .int (zi ld), .long (zl up), .long (zl lw), .long (zl ua), .long (zl la), .long (zl bU), .int (zi bL), .int (zi sv), .int (zi xn), .int (zi yn), .int (zi sp'_1), .int (zi rs'_2), .int (zi pt'_3), .ref mr])), (mt, ai κ 40 TX), (mr, ai κ 21 RW'_4), (ms, ai κ 20 S), (mT, ai κ 401 T'_6), (mO, al κ 402 OV'_7), (mU, al κ 402 UN'_8)]) [1, 0, 6, 2, 3, 4, 5] rfl rfl ?_
          exact fin _ _ _ _ (⟨_, _, _, _, _, _, _, _, _, _, _, _, (by exact Or.inr (Or.inr ⟨hc_6, k, hk1, Or.inr (Or.inl ⟨by omega, _, hk3, by rw [← hk2]; exact hr_51⟩)⟩)), rfl, rfl⟩) dX11_told_55
        · refine z_aload_n E 0 rfl rfl dX11_told_42 ?_
          refine z_get E f_X11_187 4 rfl rfl dX11_told_43 ?_
          refine z_i2l E (by omega) dX11_told_46 ?_
          refine z_goto (tgt := 55) E dX11_told_47 (by decide) ?_
          refine Zg.perm (ws' := [(m0, .inr (11, [.ref ms, .ref mp, .int (zi pn), .ref mt, .int (zi tyd), .ref mT, .ref mO, .ref mU, .int (zi ld), .long (zl up), .long (zl lw), .long (zl ua), .long (zl la), .long (zl bU), .int (zi bL), .int (zi sv), .int (zi xn), .int (zi yn), .int (zi sp'_1), .int (zi rs'_2), .int (zi pt'_3), .ref mr])), (mt, ai κ 40 TX), (mr, ai κ 21 RW'_4), (ms, ai κ 20 S), (mT, ai κ 401 T), (mO, al κ 402 OV), (mU, al κ 402 UN)]) [4, 5, 6, 0, 1, 2, 3] rfl rfl ?_
          exact fin _ _ _ _ (⟨_, _, _, _, _, _, _, _, _, _, _, _, (by exact Or.inr (Or.inr ⟨hc_6, k, hk1, Or.inl ⟨by omega, by omega⟩⟩)), rfl, rfl⟩) dX11_told_55
      · refine z_iload_n E 1 rfl rfl dX11_told_32 ?_
        refine z_iconst E dX11_told_33 ?_
        refine z_ic_ne (tgt := 56) E (by omega) (by omega) dX11_told_34 (by decide) (fun h_34 => ?_) (fun h_34 => ?_)
        · refine z_aload_n E 0 rfl rfl dX11_told_56 ?_
          refine z_callVi (As := []) (rest := []) (wr := [(ms, ai κ 20 S), (mT, ai κ 401 T), (mO, al κ 402 OV), (mU, al κ 402 UN), (mt, ai κ 40 TX)]) E (c_X11_tells l D κ m0 ms mp pn mt tyd mT mO mU ld up lw ua la bU bL sv xn yn sp'_1 rs'_2 pt'_3 mr RW'_4 (by omega) (hk4)) m_X11_215 ⟨Nat.le_of_ble_eq_true rfl, Nat.le_of_ble_eq_true rfl⟩ ⟨rfl, rfl⟩ [4, 6] [0, 1, 2, 3, 5] rfl rfl rfl rfl (by decide) rfl rfl rfl rfl (Nat.le_of_ble_eq_true rfl) dX11_told_57 ⟨Nat.le_of_ble_eq_true rfl, Nat.le_of_ble_eq_true rfl⟩ (fun z57 w1 hq => ?_)
          obtain ⟨up'_9, lw'_10, ua'_11, la'_12, ⟨rfl, hc_57⟩ | ⟨rfl, hc_57⟩, hr_57, rfl⟩ := hq
          · have hcR : chRun (RW'_4) (pt'_3 : Int).toNat = tCh TX tyd k := by rw [show (pt'_3 : Int).toNat = k + 1 by omega]; exact tCh_of hk3
            have hch := hcR.symm.trans (hr_57 hc_57)
            have hbd := chRun_bd (hr_57 hc_57)
            have hps := tCh_pos hk6
            rw [hch] at hps
            dsimp only at hps
            refine z_if_eq (tgt := 75) E (by omega) dX11_told_60 (by decide) (fun h => absurd h (by decide)) (fun _ => ?_)
            refine z_iload_n E 1 rfl rfl dX11_told_63 ?_
            refine z_iconst E dX11_told_64 ?_
            refine z_ic_ne (tgt := 79) E (by omega) (by omega) dX11_told_65 (by decide) (fun h_65 => ?_) (fun h_65 => ?_)
            · refine z_iload_n E 1 rfl rfl dX11_told_79 ?_
              refine z_if_ne (tgt := 94) E (by omega) dX11_told_80 (by decide) (fun h_80 => ?_) (fun h_80 => ?_)
              · refine z_iload_n E 1 rfl rfl dX11_told_94 ?_
                refine z_iconst E dX11_told_95 ?_
                refine z_ic_ne (tgt := 106) E (by omega) (by omega) dX11_told_96 (by decide) (fun h_96 => absurd h_96 (by omega)) (fun h_96 => ?_)
                refine z_aload_n E 0 rfl rfl dX11_told_99 ?_
                refine z_get E f_X11_97 5 rfl rfl dX11_told_100 ?_
                refine z_goto (tgt := 126) E dX11_told_103 (by decide) ?_
                refine Zg.perm (ws' := [(m0, .inr (11, [.ref ms, .ref mp, .int (zi pn), .ref mt, .int (zi tyd), .ref mT, .ref mO, .ref mU, .int (zi ld), .long (zl up'_9), .long (zl lw'_10), .long (zl ua'_11), .long (zl la'_12), .long (zl bU), .int (zi bL), .int (zi sv), .int (zi xn), .int (zi yn), .int (zi sp'_1), .int (zi rs'_2), .int (zi pt'_3), .ref mr])), (mt, ai κ 40 TX), (mr, ai κ 21 RW'_4), (ms, ai κ 20 S), (mT, ai κ 401 T), (mO, al κ 402 OV), (mU, al κ 402 UN)]) [5, 4, 6, 0, 1, 2, 3] rfl rfl ?_
                exact fin _ _ _ _ (⟨_, _, _, _, _, _, _, _, _, _, _, _, (by exact Or.inr (Or.inr ⟨hc_6, k, hk1, Or.inr (Or.inr (Or.inr ⟨by omega, Or.inr (Or.inr ⟨by rw [hch], by omega, by rw [hch]⟩)⟩))⟩)), rfl, rfl⟩) dX11_told_126
              · refine z_aload_n E 0 rfl rfl dX11_told_83 ?_
                refine z_get E f_X11_93 5 rfl rfl dX11_told_84 ?_
                refine z_ldc2 E k_X11_111 dX11_told_87 ?_
                refine z_ladd E dX11_told_90 ?_
                refine z_goto (tgt := 126) E dX11_told_91 (by decide) ?_
                refine Zg.perm (ws' := [(m0, .inr (11, [.ref ms, .ref mp, .int (zi pn), .ref mt, .int (zi tyd), .ref mT, .ref mO, .ref mU, .int (zi ld), .long (zl up'_9), .long (zl lw'_10), .long (zl ua'_11), .long (zl la'_12), .long (zl bU), .int (zi bL), .int (zi sv), .int (zi xn), .int (zi yn), .int (zi sp'_1), .int (zi rs'_2), .int (zi pt'_3), .ref mr])), (mt, ai κ 40 TX), (mr, ai κ 21 RW'_4), (ms, ai κ 20 S), (mT, ai κ 401 T), (mO, al κ 402 OV), (mU, al κ 402 UN)]) [5, 4, 6, 0, 1, 2, 3] rfl rfl ?_
                exact fin _ _ _ _ (⟨_, _, _, _, _, _, _, _, _, _, _, _, (by exact Or.inr (Or.inr ⟨hc_6, k, hk1, Or.inr (Or.inr (Or.inr ⟨by omega, Or.inr (Or.inl ⟨by rw [hch], by omega, by rw [hch]⟩)⟩))⟩)), rfl, rfl⟩) dX11_told_126
            · refine z_aload_n E 0 rfl rfl dX11_told_68 ?_
              refine z_callVi (As := []) (rest := []) (wr := [(ms, ai κ 20 S), (mT, ai κ 401 T), (mO, al κ 402 OV), (mU, al κ 402 UN), (mt, ai κ 40 TX), (mr, ai κ 21 RW'_4)]) E (c_X11_fits l D κ m0 ms mp pn mt tyd mT mO mU ld up'_9 lw'_10 ua'_11 la'_12 bU bL sv xn yn sp'_1 rs'_2 pt'_3 mr (by omega) (by omega)) m_X11_218 ⟨Nat.le_of_ble_eq_true rfl, Nat.le_of_ble_eq_true rfl⟩ ⟨rfl, rfl⟩ [5] [0, 1, 2, 3, 4, 6] rfl rfl rfl rfl (by decide) rfl rfl rfl rfl (Nat.le_of_ble_eq_true rfl) dX11_told_69 ⟨Nat.le_of_ble_eq_true rfl, Nat.le_of_ble_eq_true rfl⟩ (fun z69 w1 hq => ?_)
              obtain ⟨⟨rfl, hc_69⟩ | ⟨rfl, hc_69⟩, rfl⟩ := hq
              · refine z_if_ne (tgt := 79) E (by omega) dX11_told_72 (by decide) (fun _ => ?_) (fun h => absurd h (by decide))
                refine z_iload_n E 1 rfl rfl dX11_told_79 ?_
                refine z_if_ne (tgt := 94) E (by omega) dX11_told_80 (by decide) (fun h_80 => ?_) (fun h_80 => absurd h_80 (by omega))
                refine z_iload_n E 1 rfl rfl dX11_told_94 ?_
                refine z_iconst E dX11_told_95 ?_
                refine z_ic_ne (tgt := 106) E (by omega) (by omega) dX11_told_96 (by decide) (fun h_96 => ?_) (fun h_96 => absurd h_96 (by omega))
                refine z_aload_n E 0 rfl rfl dX11_told_106 ?_
                refine z_aload_n E 0 rfl rfl dX11_told_107 ?_
                refine z_get E f_X11_93 6 rfl rfl dX11_told_108 ?_
                refine z_aload_n E 0 rfl rfl dX11_told_111 ?_
                refine z_get E f_X11_97 6 rfl rfl dX11_told_112 ?_
                refine z_callVi (As := [.long (zl up'_9), .long (zl lw'_10)]) (rest := []) (wr := [(mT, ai κ 401 T), (mO, al κ 402 OV), (mU, al κ 402 UN), (mt, ai κ 40 TX), (mr, ai κ 21 RW'_4)]) E (c_X11_isAbove l D κ m0 ms mp pn mt tyd mT mO mU ld up'_9 lw'_10 ua'_11 la'_12 bU bL sv xn yn sp'_1 rs'_2 pt'_3 mr S up'_9 lw'_10 (hv) (by omega) (by omega)) m_X11_127 ⟨Nat.le_of_ble_eq_true rfl, Nat.le_of_ble_eq_true rfl⟩ ⟨rfl, rfl⟩ [6, 0] [1, 2, 3, 4, 5] rfl rfl rfl rfl (by decide) rfl rfl rfl rfl (Nat.le_of_ble_eq_true rfl) dX11_told_115 ⟨Nat.le_of_ble_eq_true rfl, Nat.le_of_ble_eq_true rfl⟩ (fun z115 w1 hq => ?_)
                obtain ⟨⟨rfl, hc_115⟩ | ⟨rfl, hc_115⟩, rfl⟩ := hq
                · refine z_if_eq (tgt := 125) E (by omega) dX11_told_118 (by decide) (fun h => absurd h (by decide)) (fun _ => ?_)
                  refine z_lconst0 E dX11_told_121 ?_
                  refine z_goto (tgt := 126) E dX11_told_122 (by decide) ?_
                  refine Zg.perm (ws' := [(m0, .inr (11, [.ref ms, .ref mp, .int (zi pn), .ref mt, .int (zi tyd), .ref mT, .ref mO, .ref mU, .int (zi ld), .long (zl up'_9), .long (zl lw'_10), .long (zl ua'_11), .long (zl la'_12), .long (zl bU), .int (zi bL), .int (zi sv), .int (zi xn), .int (zi yn), .int (zi sp'_1), .int (zi rs'_2), .int (zi pt'_3), .ref mr])), (mt, ai κ 40 TX), (mr, ai κ 21 RW'_4), (ms, ai κ 20 S), (mT, ai κ 401 T), (mO, al κ 402 OV), (mU, al κ 402 UN)]) [5, 3, 4, 6, 0, 1, 2] rfl rfl ?_
                  exact fin _ _ _ _ (⟨_, _, _, _, _, _, _, _, _, _, _, _, (by exact Or.inr (Or.inr ⟨hc_6, k, hk1, Or.inr (Or.inr (Or.inl ⟨by omega, Or.inr ⟨by rw [hch]; exact ⟨rfl, hc_69.1, hc_69.2.2⟩, by rw [hch]; exact Or.inr ⟨rfl, hc_115⟩⟩⟩))⟩)), rfl, rfl⟩) dX11_told_126
                · refine z_if_eq (tgt := 125) E (by omega) dX11_told_118 (by decide) (fun _ => ?_) (fun h => absurd h (by decide))
                  refine z_lconst1 E dX11_told_125 ?_
                  refine Zg.perm (ws' := [(m0, .inr (11, [.ref ms, .ref mp, .int (zi pn), .ref mt, .int (zi tyd), .ref mT, .ref mO, .ref mU, .int (zi ld), .long (zl up'_9), .long (zl lw'_10), .long (zl ua'_11), .long (zl la'_12), .long (zl bU), .int (zi bL), .int (zi sv), .int (zi xn), .int (zi yn), .int (zi sp'_1), .int (zi rs'_2), .int (zi pt'_3), .ref mr])), (mt, ai κ 40 TX), (mr, ai κ 21 RW'_4), (ms, ai κ 20 S), (mT, ai κ 401 T), (mO, al κ 402 OV), (mU, al κ 402 UN)]) [5, 3, 4, 6, 0, 1, 2] rfl rfl ?_
                  exact fin _ _ _ _ (⟨_, _, _, _, _, _, _, _, _, _, _, _, (by exact Or.inr (Or.inr ⟨hc_6, k, hk1, Or.inr (Or.inr (Or.inl ⟨by omega, Or.inr ⟨by rw [hch]; exact ⟨rfl, hc_69.1, hc_69.2.2⟩, by rw [hch]; exact Or.inl ⟨rfl, Decidable.not_not.mp hc_115⟩⟩⟩))⟩)), rfl, rfl⟩) dX11_told_126
              · refine z_if_ne (tgt := 79) E (by omega) dX11_told_72 (by decide) (fun h => absurd h (by decide)) (fun _ => ?_)
                refine z_ldc2 E k_X11_125 dX11_told_75 ?_
                refine Zg.perm (ws' := [(m0, .inr (11, [.ref ms, .ref mp, .int (zi pn), .ref mt, .int (zi tyd), .ref mT, .ref mO, .ref mU, .int (zi ld), .long (zl up'_9), .long (zl lw'_10), .long (zl ua'_11), .long (zl la'_12), .long (zl bU), .int (zi bL), .int (zi sv), .int (zi xn), .int (zi yn), .int (zi sp'_1), .int (zi rs'_2), .int (zi pt'_3), .ref mr])), (mt, ai κ 40 TX), (mr, ai κ 21 RW'_4), (ms, ai κ 20 S), (mT, ai κ 401 T), (mO, al κ 402 OV), (mU, al κ 402 UN)]) [6, 4, 5, 0, 1, 2, 3] rfl rfl ?_
                exact fin _ _ _ _ (⟨_, _, _, _, _, _, _, _, _, _, _, _, (by exact Or.inr (Or.inr ⟨hc_6, k, hk1, Or.inr (Or.inr (Or.inl ⟨by omega, Or.inl ⟨fun z => hc_69 (by have z1 := z.2; rw [hch] at z1; exact ⟨z1.1, hps, z1.2⟩), rfl⟩⟩))⟩)), rfl, rfl⟩) dX11_told_78
          · have hcR : chRun (RW'_4) (pt'_3 : Int).toNat = tCh TX tyd k := by rw [show (pt'_3 : Int).toNat = k + 1 by omega]; exact tCh_of hk3
            have hov : ¬ (tCh TX tyd k).2.2.1 = 0 := by rw [← hcR]; exact hc_57
            have hov1 : (tCh TX tyd k).2.2.1 = 1 := by rw [← hcR] at hov ⊢; have := (chRun_ok (RW'_4) (pt'_3 : Int).toNat).2.2.1; omega
            refine z_if_eq (tgt := 75) E (by omega) dX11_told_60 (by decide) (fun _ => ?_) (fun h => absurd h (by decide))
            refine z_ldc2 E k_X11_125 dX11_told_75 ?_
            refine Zg.perm (ws' := [(m0, .inr (11, [.ref ms, .ref mp, .int (zi pn), .ref mt, .int (zi tyd), .ref mT, .ref mO, .ref mU, .int (zi ld), .long (zl up'_9), .long (zl lw'_10), .long (zl ua'_11), .long (zl la'_12), .long (zl bU), .int (zi bL), .int (zi sv), .int (zi xn), .int (zi yn), .int (zi sp'_1), .int (zi rs'_2), .int (zi pt'_3), .ref mr])), (mt, ai κ 40 TX), (mr, ai κ 21 RW'_4), (ms, ai κ 20 S), (mT, ai κ 401 T), (mO, al κ 402 OV), (mU, al κ 402 UN)]) [5, 4, 6, 0, 1, 2, 3] rfl rfl ?_
            exact fin _ _ _ _ (⟨_, _, _, _, _, _, _, _, _, _, _, _, (by exact Or.inr (Or.inr ⟨hc_6, k, hk1, (if q4 : wt = 4 then Or.inr (Or.inr (Or.inl ⟨q4, Or.inl ⟨fun z => hov z.1, rfl⟩⟩)) else Or.inr (Or.inr (Or.inr ⟨by omega, Or.inl ⟨hov1, rfl⟩⟩)))⟩)), rfl, rfl⟩) dX11_told_78
        · refine z_iload_n E 1 rfl rfl dX11_told_37 ?_
          refine z_iconst E dX11_told_38 ?_
          refine z_ic_ne (tgt := 50) E (by omega) (by omega) dX11_told_39 (by decide) (fun h_39 => ?_) (fun h_39 => ?_)
          · refine z_aload_n E 0 rfl rfl dX11_told_50 ?_
            refine z_callVi (As := []) (rest := []) (wr := [(mt, ai κ 40 TX)]) E (c_X11_alike l D κ m0 ms mp pn mt tyd mT mO mU ld up lw ua la bU bL sv xn yn sp'_1 rs'_2 pt'_3 mr S T OV UN RW'_4 (hv) (by omega) (hk4.1)) m_X11_212 ⟨Nat.le_of_ble_eq_true rfl, Nat.le_of_ble_eq_true rfl⟩ ⟨rfl, rfl⟩ [4, 0, 1, 2, 3, 6] [5] rfl rfl rfl rfl (by decide) rfl rfl rfl rfl (Nat.le_of_ble_eq_true rfl) dX11_told_51 ⟨Nat.le_of_ble_eq_true rfl, Nat.le_of_ble_eq_true rfl⟩ (fun z51 w1 hq => ?_)
            obtain ⟨r_13, T'_14, OV'_15, UN'_16, hr_51, rfl, rfl⟩ := hq
            have hs1 := hr_51.1
            have hs2 := hr_51.2.1
            refine z_i2l E (by omega) dX11_told_54 ?_
            refine Zg.perm (ws' := [(m0, .inr (11, [.ref ms, .ref mp, .int (zi pn), .ref mt, .int (zi tyd), .ref mT, .ref mO, .ref mU, .int (zi ld), .long (zl up), .long (zl lw), .long (zl ua), .long (zl la), .long (zl bU), .int (zi bL), .int (zi sv), .int (zi xn), .int (zi yn), .int (zi sp'_1), .int (zi rs'_2), .int (zi pt'_3), .ref mr])), (mt, ai κ 40 TX), (mr, ai κ 21 RW'_4), (ms, ai κ 20 S), (mT, ai κ 401 T'_14), (mO, al κ 402 OV'_15), (mU, al κ 402 UN'_16)]) [1, 0, 6, 2, 3, 4, 5] rfl rfl ?_
            exact fin _ _ _ _ (⟨_, _, _, _, _, _, _, _, _, _, _, _, (by exact Or.inr (Or.inr ⟨hc_6, k, hk1, Or.inr (Or.inl ⟨by omega, _, hk3, by rw [← hk2]; exact hr_51⟩)⟩)), rfl, rfl⟩) dX11_told_55
          · refine z_aload_n E 0 rfl rfl dX11_told_42 ?_
            refine z_get E f_X11_187 4 rfl rfl dX11_told_43 ?_
            refine z_i2l E (by omega) dX11_told_46 ?_
            refine z_goto (tgt := 55) E dX11_told_47 (by decide) ?_
            refine Zg.perm (ws' := [(m0, .inr (11, [.ref ms, .ref mp, .int (zi pn), .ref mt, .int (zi tyd), .ref mT, .ref mO, .ref mU, .int (zi ld), .long (zl up), .long (zl lw), .long (zl ua), .long (zl la), .long (zl bU), .int (zi bL), .int (zi sv), .int (zi xn), .int (zi yn), .int (zi sp'_1), .int (zi rs'_2), .int (zi pt'_3), .ref mr])), (mt, ai κ 40 TX), (mr, ai κ 21 RW'_4), (ms, ai κ 20 S), (mT, ai κ 401 T), (mO, al κ 402 OV), (mU, al κ 402 UN)]) [4, 5, 6, 0, 1, 2, 3] rfl rfl ?_
            exact fin _ _ _ _ (⟨_, _, _, _, _, _, _, _, _, _, _, _, (by exact Or.inr (Or.inr ⟨hc_6, k, hk1, Or.inl ⟨by omega, by omega⟩⟩)), rfl, rfl⟩) dX11_told_55
    · refine z_if_ne (tgt := 27) E (by omega) dX11_told_20 (by decide) (fun h => absurd h (by decide)) (fun _ => ?_)
      refine z_ldc2 E k_X11_210 dX11_told_23 ?_
      refine Zg.perm (ws' := [(m0, .inr (11, [.ref ms, .ref mp, .int (zi pn), .ref mt, .int (zi tyd), .ref mT, .ref mO, .ref mU, .int (zi ld), .long (zl up), .long (zl lw), .long (zl ua), .long (zl la), .long (zl bU), .int (zi bL), .int (zi sv), .int (zi xn), .int (zi yn), .int (zi sp'_1), .int (zi rs'_2), .int (zi pt'_3), .ref mr])), (mt, ai κ 40 TX), (mr, ai κ 21 RW'_4), (ms, ai κ 20 S), (mT, ai κ 401 T), (mO, al κ 402 OV), (mU, al κ 402 UN)]) [4, 5, 6, 0, 1, 2, 3] rfl rfl ?_
      exact fin _ _ _ _ (⟨_, _, _, _, _, _, _, _, _, _, _, _, (by exact Or.inr (Or.inl ⟨hc_6, ⟨_, _, rdF_bad hd_17 hc_17⟩, rfl⟩)), rfl, rfl⟩) dX11_told_26
  · refine z_if_ne (tgt := 16) E (by omega) dX11_told_9 (by decide) (fun h => absurd h (by decide)) (fun _ => ?_)
    refine z_ldc2 E k_X11_120 dX11_told_12 ?_
    exact fin _ _ _ _ (⟨_, _, _, _, _, _, _, _, _, _, _, _, (by exact Or.inl ⟨hc_6, rfl⟩), rfl, rfl⟩) dX11_told_15
abbrev rm_X11_upOf : Room := { frames := 0, cells := 0, slots := 0, locals := 0 }
set_option maxRecDepth 100000 in
theorem c_X11_upOf (l : Launch) (D : va_G) (κ : Nat → ClassId) (m0 : Nat) (ms : Nat) (mp : Nat) (pn : Int) (mt : Nat) (tyd : Int) (mT : Nat) (mO : Nat) (mU : Nat) (ld : Int) (up : Int) (lw : Int) (ua : Int) (la : Int) (bU : Int) (bL : Int) (sv : Int) (xn : Int) (yn : Int) (sp : Int) (rs : Int) (pt : Int) (mr : Nat) (S : Int → Int) (k : Int) (hk : 0 ≤ k ∧ k ≤ 7) : ZI l yX11_upOf cX11_upOf 2 .int rm_X11_upOf D κ [.ref m0, .int (zi k)] [(m0, .inr (11, [.ref ms, .ref mp, .int (zi pn), .ref mt, .int (zi tyd), .ref mT, .ref mO, .ref mU, .int (zi ld), .long (zl up), .long (zl lw), .long (zl ua), .long (zl la), .long (zl bU), .int (zi bL), .int (zi sv), .int (zi xn), .int (zi yn), .int (zi sp), .int (zi rs), .int (zi pt), .ref mr])), (ms, ai κ 20 S)] (fun z w => (S (4 + (2 * k))) = z ∧ [(m0, .inr (11, [.ref ms, .ref mp, .int (zi pn), .ref mt, .int (zi tyd), .ref mT, .ref mO, .ref mU, .int (zi ld), .long (zl up), .long (zl lw), .long (zl ua), .long (zl la), .long (zl bU), .int (zi bL), .int (zi sv), .int (zi xn), .int (zi yn), .int (zi sp), .int (zi rs), .int (zi pt), .ref mr])), (ms, ai κ 20 S)] = w) := by
  refine ZI.enter (own := RX11) rfl pn_X11_upOf (Nat.le_of_ble_eq_true rfl) (fun X E fin => ?_)
  show Zg X [(m0, .inr (11, [.ref ms, .ref mp, .int (zi pn), .ref mt, .int (zi tyd), .ref mT, .ref mO, .ref mU, .int (zi ld), .long (zl up), .long (zl lw), .long (zl ua), .long (zl la), .long (zl bU), .int (zi bL), .int (zi sv), .int (zi xn), .int (zi yn), .int (zi sp), .int (zi rs), .int (zi pt), .ref mr])), (ms, ai κ 20 S)] 0 0 0 [(0, .ref m0), (1, .int (zi k))] []
  refine z_aload_n E 0 rfl rfl dX11_upOf_0 ?_
  refine z_get E f_X11_7 0 rfl rfl dX11_upOf_1 ?_
  refine z_iconst E dX11_upOf_4 ?_
  refine z_iconst E dX11_upOf_5 ?_
  refine z_iload_n E 1 rfl rfl dX11_upOf_6 ?_
  refine z_imul E dX11_upOf_7 ?_
  refine z_iadd E dX11_upOf_8 ?_
  refine z_iald E 1 rfl (Nat.le_of_ble_eq_true rfl) (by omega) (by omega) dX11_upOf_9 ?_
  exact fin _ _ _ _ rfl (by first | exact ⟨rfl, rfl⟩ | omega) dX11_upOf_10
abbrev rm_X11_lowOf : Room := { frames := 0, cells := 0, slots := 0, locals := 0 }
set_option maxRecDepth 100000 in
theorem c_X11_lowOf (l : Launch) (D : va_G) (κ : Nat → ClassId) (m0 : Nat) (ms : Nat) (mp : Nat) (pn : Int) (mt : Nat) (tyd : Int) (mT : Nat) (mO : Nat) (mU : Nat) (ld : Int) (up : Int) (lw : Int) (ua : Int) (la : Int) (bU : Int) (bL : Int) (sv : Int) (xn : Int) (yn : Int) (sp : Int) (rs : Int) (pt : Int) (mr : Nat) (S : Int → Int) (k : Int) (hk : 0 ≤ k ∧ k ≤ 7) : ZI l yX11_lowOf cX11_lowOf 2 .int rm_X11_lowOf D κ [.ref m0, .int (zi k)] [(m0, .inr (11, [.ref ms, .ref mp, .int (zi pn), .ref mt, .int (zi tyd), .ref mT, .ref mO, .ref mU, .int (zi ld), .long (zl up), .long (zl lw), .long (zl ua), .long (zl la), .long (zl bU), .int (zi bL), .int (zi sv), .int (zi xn), .int (zi yn), .int (zi sp), .int (zi rs), .int (zi pt), .ref mr])), (ms, ai κ 20 S)] (fun z w => (S (5 + (2 * k))) = z ∧ [(m0, .inr (11, [.ref ms, .ref mp, .int (zi pn), .ref mt, .int (zi tyd), .ref mT, .ref mO, .ref mU, .int (zi ld), .long (zl up), .long (zl lw), .long (zl ua), .long (zl la), .long (zl bU), .int (zi bL), .int (zi sv), .int (zi xn), .int (zi yn), .int (zi sp), .int (zi rs), .int (zi pt), .ref mr])), (ms, ai κ 20 S)] = w) := by
  refine ZI.enter (own := RX11) rfl pn_X11_lowOf (Nat.le_of_ble_eq_true rfl) (fun X E fin => ?_)
  show Zg X [(m0, .inr (11, [.ref ms, .ref mp, .int (zi pn), .ref mt, .int (zi tyd), .ref mT, .ref mO, .ref mU, .int (zi ld), .long (zl up), .long (zl lw), .long (zl ua), .long (zl la), .long (zl bU), .int (zi bL), .int (zi sv), .int (zi xn), .int (zi yn), .int (zi sp), .int (zi rs), .int (zi pt), .ref mr])), (ms, ai κ 20 S)] 0 0 0 [(0, .ref m0), (1, .int (zi k))] []
  refine z_aload_n E 0 rfl rfl dX11_lowOf_0 ?_
  refine z_get E f_X11_7 0 rfl rfl dX11_lowOf_1 ?_
  refine z_iconst E dX11_lowOf_4 ?_
  refine z_iconst E dX11_lowOf_5 ?_
  refine z_iload_n E 1 rfl rfl dX11_lowOf_6 ?_
  refine z_imul E dX11_lowOf_7 ?_
  refine z_iadd E dX11_lowOf_8 ?_
  refine z_iconst E dX11_lowOf_9 ?_
  refine z_iadd E dX11_lowOf_10 ?_
  refine z_iald E 1 rfl (Nat.le_of_ble_eq_true rfl) (by omega) (by omega) dX11_lowOf_11 ?_
  exact fin _ _ _ _ rfl (⟨(by rw [show (4 + (2 * k)) + 1 = 5 + (2 * k) by omega]), rfl⟩) dX11_lowOf_12
abbrev rm_X11_placeOf : Room := { frames := 2, cells := 0, slots := 0, locals := 58 }
set_option maxRecDepth 100000 in
theorem c_X11_placeOf (l : Launch) (D : va_G) (κ : Nat → ClassId) (m0 : Nat) (ms : Nat) (mp : Nat) (pn : Int) (mt : Nat) (tyd : Int) (mT : Nat) (mO : Nat) (mU : Nat) (ld : Int) (up : Int) (lw : Int) (ua : Int) (la : Int) (bU : Int) (bL : Int) (sv : Int) (xn : Int) (yn : Int) (sp : Int) (rs : Int) (pt : Int) (mr : Nat) (S : Int → Int) (k : Int) (hv : vS (S 0) (S 1) (S 2)) (hok : okS S) (hk : 0 ≤ k ∧ k < S 3) : ZI l yX11_placeOf cX11_placeOf 4 .int rm_X11_placeOf D κ [.ref m0, .int (zi k)] [(m0, .inr (11, [.ref ms, .ref mp, .int (zi pn), .ref mt, .int (zi tyd), .ref mT, .ref mO, .ref mU, .int (zi ld), .long (zl up), .long (zl lw), .long (zl ua), .long (zl la), .long (zl bU), .int (zi bL), .int (zi sv), .int (zi xn), .int (zi yn), .int (zi sp), .int (zi rs), .int (zi pt), .ref mr])), (ms, ai κ 20 S)] (fun z w => (plM S k (S 3).toNat) = z ∧ [(m0, .inr (11, [.ref ms, .ref mp, .int (zi pn), .ref mt, .int (zi tyd), .ref mT, .ref mO, .ref mU, .int (zi ld), .long (zl up), .long (zl lw), .long (zl ua), .long (zl la), .long (zl bU), .int (zi bL), .int (zi sv), .int (zi xn), .int (zi yn), .int (zi sp), .int (zi rs), .int (zi pt), .ref mr])), (ms, ai κ 20 S)] = w) := by
  refine ZI.enter (own := RX11) rfl pn_X11_placeOf (Nat.le_of_ble_eq_true rfl) (fun X E fin => ?_)
  show Zg X [(m0, .inr (11, [.ref ms, .ref mp, .int (zi pn), .ref mt, .int (zi tyd), .ref mT, .ref mO, .ref mU, .int (zi ld), .long (zl up), .long (zl lw), .long (zl ua), .long (zl la), .long (zl bU), .int (zi bL), .int (zi sv), .int (zi xn), .int (zi yn), .int (zi sp), .int (zi rs), .int (zi pt), .ref mr])), (ms, ai κ 20 S)] 0 0 0 [(0, .ref m0), (1, .int (zi k))] []
  have hb2 := hok.1
  refine z_iconst E dX11_placeOf_0 ?_
  refine z_istore_n (lv' := [(2, .int (zi 0)), (0, .ref m0), (1, .int (zi k))]) E dX11_placeOf_1 rfl (Nat.le_of_ble_eq_true rfl) rfl ?_
  refine z_iconst E dX11_placeOf_2 ?_
  refine z_istore_n (lv' := [(3, .int (zi 0)), (2, .int (zi 0)), (0, .ref m0), (1, .int (zi k))]) E dX11_placeOf_3 rfl (Nat.le_of_ble_eq_true rfl) rfl ?_
  have lp_4 : ∀ (n_4 : Nat) (x : Int) (j : Int), (0 ≤ j ∧ j ≤ S 3) → (x = plM S k j.toNat) → (0 ≤ x ∧ x ≤ j) → (S 3 - j) < (n_4 : Int) → Zg X [(m0, .inr (11, [.ref ms, .ref mp, .int (zi pn), .ref mt, .int (zi tyd), .ref mT, .ref mO, .ref mU, .int (zi ld), .long (zl up), .long (zl lw), .long (zl ua), .long (zl la), .long (zl bU), .int (zi bL), .int (zi sv), .int (zi xn), .int (zi yn), .int (zi sp), .int (zi rs), .int (zi pt), .ref mr])), (ms, ai κ 20 S)] 0 0 4 [(0, .ref m0), (1, .int (zi k)), (2, .int (zi x)), (3, .int (zi j))] [] := by
    intro n_4
    induction n_4 with
    | zero =>
      intro x j i0 i1 i2 hmu
      exact absurd hmu (by omega)
    | succ n_4 ih_4 =>
      intro x j i0 i1 i2 hmu_4
      refine z_iload_n E 3 rfl rfl dX11_placeOf_4 ?_
      refine z_aload_n E 0 rfl rfl dX11_placeOf_5 ?_
      refine z_get E f_X11_7 0 rfl rfl dX11_placeOf_6 ?_
      refine z_iconst E dX11_placeOf_9 ?_
      refine z_iald E 1 rfl (Nat.le_of_ble_eq_true rfl) (by omega) (by omega) dX11_placeOf_10 ?_
      refine z_ic_ge (tgt := 64) E (by omega) (by omega) dX11_placeOf_11 (by decide) (fun h_11 => ?_) (fun h_11 => ?_)
      · refine z_iload_n E 2 rfl rfl dX11_placeOf_64 ?_
        exact fin _ _ _ _ rfl (⟨by rw [i1, show S 3 = j by omega], rfl⟩) dX11_placeOf_65
      · refine z_iload_n E 2 rfl rfl dX11_placeOf_14 ?_
        refine z_iload_n E 3 rfl rfl dX11_placeOf_15 ?_
        refine z_iload_n E 1 rfl rfl dX11_placeOf_16 ?_
        refine z_ic_eq (tgt := 55) E (by omega) (by omega) dX11_placeOf_17 (by decide) (fun h_17 => ?_) (fun h_17 => ?_)
        · refine z_iconst E dX11_placeOf_55 ?_
          refine z_iadd E dX11_placeOf_56 ?_
          refine z_istore_n (lv' := [(2, .int (zi (x + 0))), (0, .ref m0), (1, .int (zi k)), (3, .int (zi j))]) E dX11_placeOf_57 rfl (Nat.le_of_ble_eq_true rfl) rfl ?_
          refine z_iinc (lv' := [(3, .int (zi (j + 1))), (2, .int (zi (x + 0))), (0, .ref m0), (1, .int (zi k))]) E 3 rfl dX11_placeOf_58 (Nat.le_of_ble_eq_true rfl) rfl ?_
          refine z_goto (tgt := 4) E dX11_placeOf_61 (by decide) ?_
          refine Zg.sub (lv' := [(0, .ref m0), (1, .int (zi k)), (2, .int (zi (x + 0))), (3, .int (zi (j + 1)))]) [2, 3, 1, 0] rfl ?_
          exact ih_4 (x + 0) (j + 1) (by omega) (by have e := plM_f i0.1 i1 (Or.inl (by omega)); omega) (by omega) (by omega)
        · have hk1 := hok.2 j i0.1 (by omega)
          have hk2 := hok.2 k hk.1 hk.2
          have hk1b := hk1
          have hk2b := hk2
          unfold okF at hk1b hk2b
          refine z_aload_n E 0 rfl rfl dX11_placeOf_20 ?_
          refine z_aload_n E 0 rfl rfl dX11_placeOf_21 ?_
          refine z_iload_n E 3 rfl rfl dX11_placeOf_22 ?_
          refine z_callVi (As := [.int (zi j)]) (rest := [.ref m0, .int (zi x)]) (wr := []) E (c_X11_upOf l D κ m0 ms mp pn mt tyd mT mO mU ld up lw ua la bU bL sv xn yn sp rs pt mr S j (by omega)) m_X11_221 ⟨Nat.le_of_ble_eq_true rfl, Nat.le_of_ble_eq_true rfl⟩ ⟨rfl, rfl⟩ [0, 1] [] rfl rfl rfl rfl (by decide) rfl rfl rfl rfl (Nat.le_of_ble_eq_true rfl) dX11_placeOf_23 ⟨Nat.le_of_ble_eq_true rfl, Nat.le_of_ble_eq_true rfl⟩ (fun z23 w1 hq => ?_)
          obtain ⟨rfl, rfl⟩ := hq
          refine z_i2l E (by omega) dX11_placeOf_26 ?_
          refine z_aload_n E 0 rfl rfl dX11_placeOf_27 ?_
          refine z_iload_n E 3 rfl rfl dX11_placeOf_28 ?_
          refine z_callVi (As := [.int (zi j)]) (rest := [.long (zl (S (4 + (2 * j)))), .ref m0, .int (zi x)]) (wr := []) E (c_X11_lowOf l D κ m0 ms mp pn mt tyd mT mO mU ld up lw ua la bU bL sv xn yn sp rs pt mr S j (by omega)) m_X11_224 ⟨Nat.le_of_ble_eq_true rfl, Nat.le_of_ble_eq_true rfl⟩ ⟨rfl, rfl⟩ [0, 1] [] rfl rfl rfl rfl (by decide) rfl rfl rfl rfl (Nat.le_of_ble_eq_true rfl) dX11_placeOf_29 ⟨Nat.le_of_ble_eq_true rfl, Nat.le_of_ble_eq_true rfl⟩ (fun z29 w1 hq => ?_)
          obtain ⟨rfl, rfl⟩ := hq
          refine z_i2l E (by omega) dX11_placeOf_32 ?_
          refine z_aload_n E 0 rfl rfl dX11_placeOf_33 ?_
          refine z_iload_n E 1 rfl rfl dX11_placeOf_34 ?_
          refine z_callVi (As := [.int (zi k)]) (rest := [.long (zl (S (5 + (2 * j)))), .long (zl (S (4 + (2 * j)))), .ref m0, .int (zi x)]) (wr := []) E (c_X11_upOf l D κ m0 ms mp pn mt tyd mT mO mU ld up lw ua la bU bL sv xn yn sp rs pt mr S k (by omega)) m_X11_221 ⟨Nat.le_of_ble_eq_true rfl, Nat.le_of_ble_eq_true rfl⟩ ⟨rfl, rfl⟩ [0, 1] [] rfl rfl rfl rfl (by decide) rfl rfl rfl rfl (Nat.le_of_ble_eq_true rfl) dX11_placeOf_35 ⟨Nat.le_of_ble_eq_true rfl, Nat.le_of_ble_eq_true rfl⟩ (fun z35 w1 hq => ?_)
          obtain ⟨rfl, rfl⟩ := hq
          refine z_i2l E (by omega) dX11_placeOf_38 ?_
          refine z_aload_n E 0 rfl rfl dX11_placeOf_39 ?_
          refine z_iload_n E 1 rfl rfl dX11_placeOf_40 ?_
          refine z_callVi (As := [.int (zi k)]) (rest := [.long (zl (S (4 + (2 * k)))), .long (zl (S (5 + (2 * j)))), .long (zl (S (4 + (2 * j)))), .ref m0, .int (zi x)]) (wr := []) E (c_X11_lowOf l D κ m0 ms mp pn mt tyd mT mO mU ld up lw ua la bU bL sv xn yn sp rs pt mr S k (by omega)) m_X11_224 ⟨Nat.le_of_ble_eq_true rfl, Nat.le_of_ble_eq_true rfl⟩ ⟨rfl, rfl⟩ [0, 1] [] rfl rfl rfl rfl (by decide) rfl rfl rfl rfl (Nat.le_of_ble_eq_true rfl) dX11_placeOf_41 ⟨Nat.le_of_ble_eq_true rfl, Nat.le_of_ble_eq_true rfl⟩ (fun z41 w1 hq => ?_)
          obtain ⟨rfl, rfl⟩ := hq
          refine z_i2l E (by omega) dX11_placeOf_44 ?_
          refine z_callVi (As := [.long (zl (S (4 + (2 * j)))), .long (zl (S (5 + (2 * j)))), .long (zl (S (4 + (2 * k)))), .long (zl (S (5 + (2 * k))))]) (rest := [.int (zi x)]) (wr := []) E (c_X11_isNearer l D κ m0 ms mp pn mt tyd mT mO mU ld up lw ua la bU bL sv xn yn sp rs pt mr S (S (4 + (2 * j))) (S (5 + (2 * j))) (S (4 + (2 * k))) (S (5 + (2 * k))) (hv) (hk1) (hk2)) m_X11_135 ⟨Nat.le_of_ble_eq_true rfl, Nat.le_of_ble_eq_true rfl⟩ ⟨rfl, rfl⟩ [0, 1] [] rfl rfl rfl rfl (by decide) rfl rfl rfl rfl (Nat.le_of_ble_eq_true rfl) dX11_placeOf_45 ⟨Nat.le_of_ble_eq_true rfl, Nat.le_of_ble_eq_true rfl⟩ (fun z45 w1 hq => ?_)
          obtain ⟨⟨rfl, hc_45⟩ | ⟨rfl, hc_45⟩, rfl⟩ := hq
          · refine z_if_eq (tgt := 55) E (by omega) dX11_placeOf_48 (by decide) (fun h => absurd h (by decide)) (fun _ => ?_)
            refine z_iconst E dX11_placeOf_51 ?_
            refine z_goto (tgt := 56) E dX11_placeOf_52 (by decide) ?_
            refine z_iadd E dX11_placeOf_56 ?_
            refine z_istore_n (lv' := [(2, .int (zi (x + 1))), (0, .ref m0), (1, .int (zi k)), (3, .int (zi j))]) E dX11_placeOf_57 rfl (Nat.le_of_ble_eq_true rfl) rfl ?_
            refine z_iinc (lv' := [(3, .int (zi (j + 1))), (2, .int (zi (x + 1))), (0, .ref m0), (1, .int (zi k))]) E 3 rfl dX11_placeOf_58 (Nat.le_of_ble_eq_true rfl) rfl ?_
            refine z_goto (tgt := 4) E dX11_placeOf_61 (by decide) ?_
            refine Zg.sub (lv' := [(0, .ref m0), (1, .int (zi k)), (2, .int (zi (x + 1))), (3, .int (zi (j + 1)))]) [2, 3, 1, 0] rfl ?_
            exact ih_4 (x + 1) (j + 1) (by omega) (plM_t i0.1 i1 h_17 hc_45) (by omega) (by omega)
          · refine z_if_eq (tgt := 55) E (by omega) dX11_placeOf_48 (by decide) (fun _ => ?_) (fun h => absurd h (by decide))
            refine z_iconst E dX11_placeOf_55 ?_
            refine z_iadd E dX11_placeOf_56 ?_
            refine z_istore_n (lv' := [(2, .int (zi (x + 0))), (0, .ref m0), (1, .int (zi k)), (3, .int (zi j))]) E dX11_placeOf_57 rfl (Nat.le_of_ble_eq_true rfl) rfl ?_
            refine z_iinc (lv' := [(3, .int (zi (j + 1))), (2, .int (zi (x + 0))), (0, .ref m0), (1, .int (zi k))]) E 3 rfl dX11_placeOf_58 (Nat.le_of_ble_eq_true rfl) rfl ?_
            refine z_goto (tgt := 4) E dX11_placeOf_61 (by decide) ?_
            refine Zg.sub (lv' := [(0, .ref m0), (1, .int (zi k)), (2, .int (zi (x + 0))), (3, .int (zi (j + 1)))]) [2, 3, 1, 0] rfl ?_
            exact ih_4 (x + 0) (j + 1) (by omega) (by have e := plM_f i0.1 i1 (Or.inr hc_45); omega) (by omega) (by omega)
  refine Zg.sub (lv' := [(0, .ref m0), (1, .int (zi k)), (2, .int (zi 0)), (3, .int (zi 0))]) [2, 3, 1, 0] rfl ?_
  exact lp_4 ((S 3 - 0 : Int).toNat + 1) 0 0 (by omega) (rfl) (by omega) (by omega)
abbrev rm_X11_at : Room := { frames := 3, cells := 0, slots := 0, locals := 81 }
set_option maxRecDepth 100000 in
theorem c_X11_at (l : Launch) (D : va_G) (κ : Nat → ClassId) (m0 : Nat) (ms : Nat) (mp : Nat) (pn : Int) (mt : Nat) (tyd : Int) (mT : Nat) (mO : Nat) (mU : Nat) (ld : Int) (up : Int) (lw : Int) (ua : Int) (la : Int) (bU : Int) (bL : Int) (sv : Int) (xn : Int) (yn : Int) (sp : Int) (rs : Int) (pt : Int) (mr : Nat) (S : Int → Int) (pl : Int) (hr0 : -2147483648 ≤ pl ∧ pl ≤ 2147483647) (hv : vS (S 0) (S 1) (S 2)) (hok : okS S) : ZI l yX11_at cX11_at 4 .int rm_X11_at D κ [.ref m0, .int (zi pl)] [(m0, .inr (11, [.ref ms, .ref mp, .int (zi pn), .ref mt, .int (zi tyd), .ref mT, .ref mO, .ref mU, .int (zi ld), .long (zl up), .long (zl lw), .long (zl ua), .long (zl la), .long (zl bU), .int (zi bL), .int (zi sv), .int (zi xn), .int (zi yn), .int (zi sp), .int (zi rs), .int (zi pt), .ref mr])), (ms, ai κ 20 S)] (fun z w => ∃ r : Int, (atP S pl r) ∧ r = z ∧ [(m0, .inr (11, [.ref ms, .ref mp, .int (zi pn), .ref mt, .int (zi tyd), .ref mT, .ref mO, .ref mU, .int (zi ld), .long (zl up), .long (zl lw), .long (zl ua), .long (zl la), .long (zl bU), .int (zi bL), .int (zi sv), .int (zi xn), .int (zi yn), .int (zi sp), .int (zi rs), .int (zi pt), .ref mr])), (ms, ai κ 20 S)] = w) := by
  refine ZI.enter (own := RX11) rfl pn_X11_at (Nat.le_of_ble_eq_true rfl) (fun X E fin => ?_)
  show Zg X [(m0, .inr (11, [.ref ms, .ref mp, .int (zi pn), .ref mt, .int (zi tyd), .ref mT, .ref mO, .ref mU, .int (zi ld), .long (zl up), .long (zl lw), .long (zl ua), .long (zl la), .long (zl bU), .int (zi bL), .int (zi sv), .int (zi xn), .int (zi yn), .int (zi sp), .int (zi rs), .int (zi pt), .ref mr])), (ms, ai κ 20 S)] 0 0 0 [(0, .ref m0), (1, .int (zi pl))] []
  have hb2 := hok.1
  refine z_ldc E k_X11_176 dX11_at_0 ?_
  refine z_istore_n (lv' := [(2, .int (zi (-1000004))), (0, .ref m0), (1, .int (zi pl))]) E dX11_at_2 rfl (Nat.le_of_ble_eq_true rfl) rfl ?_
  refine z_iconst E dX11_at_3 ?_
  refine z_istore_n (lv' := [(3, .int (zi 0)), (2, .int (zi (-1000004))), (0, .ref m0), (1, .int (zi pl))]) E dX11_at_4 rfl (Nat.le_of_ble_eq_true rfl) rfl ?_
  have lp_5 : ∀ (n_5 : Nat) (r : Int) (i : Int), (0 ≤ i ∧ i ≤ S 3) → (atI S pl i r) → (S 3 - i) < (n_5 : Int) → Zg X [(m0, .inr (11, [.ref ms, .ref mp, .int (zi pn), .ref mt, .int (zi tyd), .ref mT, .ref mO, .ref mU, .int (zi ld), .long (zl up), .long (zl lw), .long (zl ua), .long (zl la), .long (zl bU), .int (zi bL), .int (zi sv), .int (zi xn), .int (zi yn), .int (zi sp), .int (zi rs), .int (zi pt), .ref mr])), (ms, ai κ 20 S)] 0 0 5 [(0, .ref m0), (1, .int (zi pl)), (2, .int (zi r)), (3, .int (zi i))] [] := by
    intro n_5
    induction n_5 with
    | zero =>
      intro r i i0 i1 hmu
      exact absurd hmu (by omega)
    | succ n_5 ih_5 =>
      intro r i i0 i1 hmu_5
      refine z_iload_n E 3 rfl rfl dX11_at_5 ?_
      refine z_aload_n E 0 rfl rfl dX11_at_6 ?_
      refine z_get E f_X11_7 0 rfl rfl dX11_at_7 ?_
      refine z_iconst E dX11_at_10 ?_
      refine z_iald E 1 rfl (Nat.le_of_ble_eq_true rfl) (by omega) (by omega) dX11_at_11 ?_
      refine z_ic_ge (tgt := 36) E (by omega) (by omega) dX11_at_12 (by decide) (fun h_12 => ?_) (fun h_12 => ?_)
      · refine z_iload_n E 2 rfl rfl dX11_at_36 ?_
        exact fin _ _ _ _ rfl (⟨_, (by exact atI_end i1 (by omega)), rfl, rfl⟩) dX11_at_37
      · refine z_aload_n E 0 rfl rfl dX11_at_15 ?_
        refine z_iload_n E 3 rfl rfl dX11_at_16 ?_
        refine z_callVi (As := [.int (zi i)]) (rest := []) (wr := []) E (c_X11_placeOf l D κ m0 ms mp pn mt tyd mT mO mU ld up lw ua la bU bL sv xn yn sp rs pt mr S i (hv) (hok) (by omega)) m_X11_227 ⟨Nat.le_of_ble_eq_true rfl, Nat.le_of_ble_eq_true rfl⟩ ⟨rfl, rfl⟩ [0, 1] [] rfl rfl rfl rfl (by decide) rfl rfl rfl rfl (Nat.le_of_ble_eq_true rfl) dX11_at_17 ⟨Nat.le_of_ble_eq_true rfl, Nat.le_of_ble_eq_true rfl⟩ (fun z17 w1 hq => ?_)
        obtain ⟨rfl, rfl⟩ := hq
        have hpb := plM_bd S i (S 3).toNat
        refine z_iload_n E 1 rfl rfl dX11_at_20 ?_
        refine z_ic_ne (tgt := 28) E (by omega) (by omega) dX11_at_21 (by decide) (fun h_21 => ?_) (fun h_21 => ?_)
        · refine z_iload_n E 2 rfl rfl dX11_at_28 ?_
          refine z_istore_n (lv' := [(2, .int (zi r)), (0, .ref m0), (1, .int (zi pl)), (3, .int (zi i))]) E dX11_at_29 rfl (Nat.le_of_ble_eq_true rfl) rfl ?_
          refine z_iinc (lv' := [(3, .int (zi (i + 1))), (2, .int (zi r)), (0, .ref m0), (1, .int (zi pl))]) E 3 rfl dX11_at_30 (Nat.le_of_ble_eq_true rfl) rfl ?_
          refine z_goto (tgt := 5) E dX11_at_33 (by decide) ?_
          refine Zg.sub (lv' := [(0, .ref m0), (1, .int (zi pl)), (2, .int (zi r)), (3, .int (zi (i + 1)))]) [2, 3, 1, 0] rfl ?_
          exact ih_5 r (i + 1) (by omega) (atI_f i1 (by omega)) (by omega)
        · refine z_iload_n E 3 rfl rfl dX11_at_24 ?_
          refine z_goto (tgt := 29) E dX11_at_25 (by decide) ?_
          refine z_istore_n (lv' := [(2, .int (zi i)), (0, .ref m0), (1, .int (zi pl)), (3, .int (zi i))]) E dX11_at_29 rfl (Nat.le_of_ble_eq_true rfl) rfl ?_
          refine z_iinc (lv' := [(3, .int (zi (i + 1))), (2, .int (zi i)), (0, .ref m0), (1, .int (zi pl))]) E 3 rfl dX11_at_30 (Nat.le_of_ble_eq_true rfl) rfl ?_
          refine z_goto (tgt := 5) E dX11_at_33 (by decide) ?_
          refine Zg.sub (lv' := [(0, .ref m0), (1, .int (zi pl)), (2, .int (zi i)), (3, .int (zi (i + 1)))]) [2, 3, 1, 0] rfl ?_
          exact ih_5 i (i + 1) (by omega) (atI_t i0.1 (by omega)) (by omega)
  refine Zg.sub (lv' := [(0, .ref m0), (1, .int (zi pl)), (2, .int (zi (-1000004))), (3, .int (zi 0))]) [2, 3, 1, 0] rfl ?_
  exact lp_5 ((S 3 - 0 : Int).toNat + 1) (-1000004) 0 (by omega) (Or.inr ⟨fun j j1 j2 => absurd j1 (by omega), rfl⟩) (by omega)
abbrev rm_X11_isNoted : Room := { frames := 1, cells := 0, slots := 0, locals := 21 }
set_option maxRecDepth 100000 in
theorem c_X11_isNoted (l : Launch) (D : va_G) (κ : Nat → ClassId) (m0 : Nat) (ms : Nat) (mp : Nat) (pn : Int) (mt : Nat) (tyd : Int) (mT : Nat) (mO : Nat) (mU : Nat) (ld : Int) (up : Int) (lw : Int) (ua : Int) (la : Int) (bU : Int) (bL : Int) (sv : Int) (xn : Int) (yn : Int) (sp : Int) (rs : Int) (pt : Int) (mr : Nat) (S : Int → Int) (a : Int) (b : Int) (hok : okS S) (ha : -9000000000000000 ≤ a ∧ a ≤ 9000000000000000) (hb : -9000000000000000 ≤ b ∧ b ≤ 9000000000000000) : ZI l yX11_isNoted cX11_isNoted 7 .boolean rm_X11_isNoted D κ [.ref m0, .long (zl a), .long (zl b)] [(m0, .inr (11, [.ref ms, .ref mp, .int (zi pn), .ref mt, .int (zi tyd), .ref mT, .ref mO, .ref mU, .int (zi ld), .long (zl up), .long (zl lw), .long (zl ua), .long (zl la), .long (zl bU), .int (zi bL), .int (zi sv), .int (zi xn), .int (zi yn), .int (zi sp), .int (zi rs), .int (zi pt), .ref mr])), (ms, ai κ 20 S)] (fun z w => ((1 = z ∧ (inB S a b (S 3))) ∨ (0 = z ∧ ¬ (inB S a b (S 3)))) ∧ [(m0, .inr (11, [.ref ms, .ref mp, .int (zi pn), .ref mt, .int (zi tyd), .ref mT, .ref mO, .ref mU, .int (zi ld), .long (zl up), .long (zl lw), .long (zl ua), .long (zl la), .long (zl bU), .int (zi bL), .int (zi sv), .int (zi xn), .int (zi yn), .int (zi sp), .int (zi rs), .int (zi pt), .ref mr])), (ms, ai κ 20 S)] = w) := by
  refine ZI.enter (own := RX11) rfl pn_X11_isNoted (Nat.le_of_ble_eq_true rfl) (fun X E fin => ?_)
  show Zg X [(m0, .inr (11, [.ref ms, .ref mp, .int (zi pn), .ref mt, .int (zi tyd), .ref mT, .ref mO, .ref mU, .int (zi ld), .long (zl up), .long (zl lw), .long (zl ua), .long (zl la), .long (zl bU), .int (zi bL), .int (zi sv), .int (zi xn), .int (zi yn), .int (zi sp), .int (zi rs), .int (zi pt), .ref mr])), (ms, ai κ 20 S)] 0 0 0 [(0, .ref m0), (1, .long (zl a)), (3, .long (zl b))] []
  have hb2 := hok.1
  refine z_iconst E dX11_isNoted_0 ?_
  refine z_istore (lv' := [(5, .int (zi 0)), (0, .ref m0), (1, .long (zl a)), (3, .long (zl b))]) E dX11_isNoted_1 (Nat.le_of_ble_eq_true rfl) rfl ?_
  refine z_iconst E dX11_isNoted_3 ?_
  refine z_istore (lv' := [(6, .int (zi 0)), (5, .int (zi 0)), (0, .ref m0), (1, .long (zl a)), (3, .long (zl b))]) E dX11_isNoted_4 (Nat.le_of_ble_eq_true rfl) rfl ?_
  have lp_6 : ∀ (n_6 : Nat) (is : Int) (i : Int), (0 ≤ i ∧ i ≤ S 3) → (inI S a b i is) → (S 3 - i) < (n_6 : Int) → Zg X [(m0, .inr (11, [.ref ms, .ref mp, .int (zi pn), .ref mt, .int (zi tyd), .ref mT, .ref mO, .ref mU, .int (zi ld), .long (zl up), .long (zl lw), .long (zl ua), .long (zl la), .long (zl bU), .int (zi bL), .int (zi sv), .int (zi xn), .int (zi yn), .int (zi sp), .int (zi rs), .int (zi pt), .ref mr])), (ms, ai κ 20 S)] 0 0 6 [(0, .ref m0), (1, .long (zl a)), (3, .long (zl b)), (5, .int (zi is)), (6, .int (zi i))] [] := by
    intro n_6
    induction n_6 with
    | zero =>
      intro is i i0 i1 hmu
      exact absurd hmu (by omega)
    | succ n_6 ih_6 =>
      intro is i i0 i1 hmu_6
      refine z_iload E 4 rfl dX11_isNoted_6 ?_
      refine z_aload_n E 0 rfl rfl dX11_isNoted_8 ?_
      refine z_get E f_X11_7 0 rfl rfl dX11_isNoted_9 ?_
      refine z_iconst E dX11_isNoted_12 ?_
      refine z_iald E 1 rfl (Nat.le_of_ble_eq_true rfl) (by omega) (by omega) dX11_isNoted_13 ?_
      refine z_ic_ge (tgt := 59) E (by omega) (by omega) dX11_isNoted_14 (by decide) (fun h_14 => ?_) (fun h_14 => ?_)
      · have hib2 := i1.1
        refine z_iload E 3 rfl dX11_isNoted_59 ?_
        exact fin _ _ _ _ (nar_bool (by omega)) (⟨inI_end i1 (by omega), rfl⟩) dX11_isNoted_61
      · have hib := i1.1
        have hk1 := hok.2 i i0.1 (by omega)
        unfold okF at hk1
        refine z_iload E 3 rfl dX11_isNoted_17 ?_
        refine z_if_ne (tgt := 46) E (by omega) dX11_isNoted_19 (by decide) (fun h_19 => ?_) (fun h_19 => ?_)
        · refine z_iconst E dX11_isNoted_46 ?_
          refine z_goto (tgt := 51) E dX11_isNoted_47 (by decide) ?_
          refine z_istore (lv' := [(5, .int (zi 1)), (0, .ref m0), (1, .long (zl a)), (3, .long (zl b)), (6, .int (zi i))]) E dX11_isNoted_51 (Nat.le_of_ble_eq_true rfl) rfl ?_
          refine z_iinc (lv' := [(6, .int (zi (i + 1))), (5, .int (zi 1)), (0, .ref m0), (1, .long (zl a)), (3, .long (zl b))]) E 4 rfl dX11_isNoted_53 (Nat.le_of_ble_eq_true rfl) rfl ?_
          refine z_goto (tgt := 6) E dX11_isNoted_56 (by decide) ?_
          refine Zg.sub (lv' := [(0, .ref m0), (1, .long (zl a)), (3, .long (zl b)), (5, .int (zi 1)), (6, .int (zi (i + 1)))]) [2, 3, 4, 1, 0] rfl ?_
          exact ih_6 1 (i + 1) (by omega) (inI_t i1 i0.1 (Or.inl (by omega))) (by omega)
        · refine z_aload_n E 0 rfl rfl dX11_isNoted_22 ?_
          refine z_iload E 4 rfl dX11_isNoted_23 ?_
          refine z_callVi (As := [.int (zi i)]) (rest := []) (wr := []) E (c_X11_upOf l D κ m0 ms mp pn mt tyd mT mO mU ld up lw ua la bU bL sv xn yn sp rs pt mr S i (by omega)) m_X11_221 ⟨Nat.le_of_ble_eq_true rfl, Nat.le_of_ble_eq_true rfl⟩ ⟨rfl, rfl⟩ [0, 1] [] rfl rfl rfl rfl (by decide) rfl rfl rfl rfl (Nat.le_of_ble_eq_true rfl) dX11_isNoted_25 ⟨Nat.le_of_ble_eq_true rfl, Nat.le_of_ble_eq_true rfl⟩ (fun z25 w1 hq => ?_)
          obtain ⟨rfl, rfl⟩ := hq
          refine z_i2l E (by omega) dX11_isNoted_28 ?_
          refine z_lload_n E 1 rfl rfl dX11_isNoted_29 ?_
          refine z_lc_ne (tgt := 50) E (by omega) (by omega) dX11_isNoted_30 dX11_isNoted_31 (by decide) (fun h_30 => ?_) (fun h_30 => ?_)
          · refine z_iconst E dX11_isNoted_50 ?_
            refine z_istore (lv' := [(5, .int (zi 0)), (0, .ref m0), (1, .long (zl a)), (3, .long (zl b)), (6, .int (zi i))]) E dX11_isNoted_51 (Nat.le_of_ble_eq_true rfl) rfl ?_
            refine z_iinc (lv' := [(6, .int (zi (i + 1))), (5, .int (zi 0)), (0, .ref m0), (1, .long (zl a)), (3, .long (zl b))]) E 4 rfl dX11_isNoted_53 (Nat.le_of_ble_eq_true rfl) rfl ?_
            refine z_goto (tgt := 6) E dX11_isNoted_56 (by decide) ?_
            refine Zg.sub (lv' := [(0, .ref m0), (1, .long (zl a)), (3, .long (zl b)), (5, .int (zi 0)), (6, .int (zi (i + 1)))]) [2, 3, 4, 1, 0] rfl ?_
            exact ih_6 0 (i + 1) (by omega) (inI_f i1 (by omega) (fun z => by have z1 := z.1; have z2 := z.2; omega)) (by omega)
          · refine z_aload_n E 0 rfl rfl dX11_isNoted_34 ?_
            refine z_iload E 4 rfl dX11_isNoted_35 ?_
            refine z_callVi (As := [.int (zi i)]) (rest := []) (wr := []) E (c_X11_lowOf l D κ m0 ms mp pn mt tyd mT mO mU ld up lw ua la bU bL sv xn yn sp rs pt mr S i (by omega)) m_X11_224 ⟨Nat.le_of_ble_eq_true rfl, Nat.le_of_ble_eq_true rfl⟩ ⟨rfl, rfl⟩ [0, 1] [] rfl rfl rfl rfl (by decide) rfl rfl rfl rfl (Nat.le_of_ble_eq_true rfl) dX11_isNoted_37 ⟨Nat.le_of_ble_eq_true rfl, Nat.le_of_ble_eq_true rfl⟩ (fun z37 w1 hq => ?_)
            obtain ⟨rfl, rfl⟩ := hq
            refine z_i2l E (by omega) dX11_isNoted_40 ?_
            refine z_lload_n E 2 rfl rfl dX11_isNoted_41 ?_
            refine z_lc_ne (tgt := 50) E (by omega) (by omega) dX11_isNoted_42 dX11_isNoted_43 (by decide) (fun h_42 => ?_) (fun h_42 => ?_)
            · refine z_iconst E dX11_isNoted_50 ?_
              refine z_istore (lv' := [(5, .int (zi 0)), (0, .ref m0), (1, .long (zl a)), (3, .long (zl b)), (6, .int (zi i))]) E dX11_isNoted_51 (Nat.le_of_ble_eq_true rfl) rfl ?_
              refine z_iinc (lv' := [(6, .int (zi (i + 1))), (5, .int (zi 0)), (0, .ref m0), (1, .long (zl a)), (3, .long (zl b))]) E 4 rfl dX11_isNoted_53 (Nat.le_of_ble_eq_true rfl) rfl ?_
              refine z_goto (tgt := 6) E dX11_isNoted_56 (by decide) ?_
              refine Zg.sub (lv' := [(0, .ref m0), (1, .long (zl a)), (3, .long (zl b)), (5, .int (zi 0)), (6, .int (zi (i + 1)))]) [2, 3, 4, 1, 0] rfl ?_
              exact ih_6 0 (i + 1) (by omega) (inI_f i1 (by omega) (fun z => by have z1 := z.1; have z2 := z.2; omega)) (by omega)
            · refine z_iconst E dX11_isNoted_46 ?_
              refine z_goto (tgt := 51) E dX11_isNoted_47 (by decide) ?_
              refine z_istore (lv' := [(5, .int (zi 1)), (0, .ref m0), (1, .long (zl a)), (3, .long (zl b)), (6, .int (zi i))]) E dX11_isNoted_51 (Nat.le_of_ble_eq_true rfl) rfl ?_
              refine z_iinc (lv' := [(6, .int (zi (i + 1))), (5, .int (zi 1)), (0, .ref m0), (1, .long (zl a)), (3, .long (zl b))]) E 4 rfl dX11_isNoted_53 (Nat.le_of_ble_eq_true rfl) rfl ?_
              refine z_goto (tgt := 6) E dX11_isNoted_56 (by decide) ?_
              refine Zg.sub (lv' := [(0, .ref m0), (1, .long (zl a)), (3, .long (zl b)), (5, .int (zi 1)), (6, .int (zi (i + 1)))]) [2, 3, 4, 1, 0] rfl ?_
              exact ih_6 1 (i + 1) (by omega) (inI_t i1 i0.1 (Or.inr ⟨by omega, by omega⟩)) (by omega)
  refine Zg.sub (lv' := [(0, .ref m0), (1, .long (zl a)), (3, .long (zl b)), (5, .int (zi 0)), (6, .int (zi 0))]) [2, 3, 4, 1, 0] rfl ?_
  exact lp_6 ((S 3 - 0 : Int).toNat + 1) 0 0 (by omega) (inI_0) (by omega)
