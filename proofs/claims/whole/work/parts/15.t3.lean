abbrev rm_X0_putInOrder : Room := { frames := 3, cells := 0, slots := 0, locals := 84 }
set_option maxRecDepth 100000 in
theorem c_X0_putInOrder (l : Launch) (D : va_G) (κ : Nat → ClassId) (h0 : Nat) (hu : Nat) (hl : Nat) (n : Int) (u : Int → Int) (lo : Int → Int) (h1 : Nat) (p : Int) (d : Int) (q : Int) (hn : 0 ≤ n ∧ n ≤ 8) (hB : ∀ i : Int, 0 ≤ i → i < n → okF (u i) (lo i)) (hp : -99 ≤ p ∧ p ≤ 99) (hd : 2 ≤ d ∧ d ≤ 999) (hq : -99 ≤ q ∧ q ≤ 99) : ZV l yX0_putInOrder cX0_putInOrder 4 rm_X0_putInOrder D κ [.ref h0, .ref h1] [(h0, .inr (0, [.ref hu, .ref hl, .int (zi n)])), (hu, ai κ 8 u), (hl, ai κ 8 lo), (h1, .inr (8, [.int (zi p), .int (zi d), .int (zi q)]))] (fun w => ∃ u' : Int → Int, ∃ lo' : Int → Int, (ordP p d q u lo n.toNat u' lo') ∧ [(h0, .inr (0, [.ref hu, .ref hl, .int (zi n)])), (hu, ai κ 8 u'), (hl, ai κ 8 lo'), (h1, .inr (8, [.int (zi p), .int (zi d), .int (zi q)]))] = w) := by
  refine ZV.enter (own := RX0) rfl pn_X0_putInOrder (Nat.le_of_ble_eq_true rfl) (fun X E fin => ?_)
  show Zg X [(h0, .inr (0, [.ref hu, .ref hl, .int (zi n)])), (hu, ai κ 8 u), (hl, ai κ 8 lo), (h1, .inr (8, [.int (zi p), .int (zi d), .int (zi q)]))] 0 0 0 [(0, .ref h0), (1, .ref h1)] []
  refine z_aload_n E 0 rfl rfl dX0_putInOrder_0 ?_
  refine z_get E f_X0_18 0 rfl rfl dX0_putInOrder_1 ?_
  refine z_istore_n (lv' := [(2, .int (zi n)), (0, .ref h0), (1, .ref h1)]) E dX0_putInOrder_4 rfl (Nat.le_of_ble_eq_true rfl) rfl ?_
  refine z_aload_n E 1 rfl rfl dX0_putInOrder_5 ?_
  refine z_iconst E dX0_putInOrder_6 ?_
  refine z_put (ws' := [(h0, .inr (0, [.ref hu, .ref hl, .int (zi 0)])), (hu, ai κ 8 u), (hl, ai κ 8 lo), (h1, .inr (8, [.int (zi p), .int (zi d), .int (zi q)]))]) E f_X0_18 t_X0_2 0 rfl rfl rfl (Nat.le_of_ble_eq_true rfl) rfl dX0_putInOrder_7 ?_
  refine z_iconst E dX0_putInOrder_10 ?_
  refine z_istore_n (lv' := [(3, .int (zi 0)), (2, .int (zi n)), (0, .ref h0), (1, .ref h1)]) E dX0_putInOrder_11 rfl (Nat.le_of_ble_eq_true rfl) rfl ?_
  have lp_12 : ∀ (n_12 : Nat) (i : Int) (v : Int → Int) (w : Int → Int), (0 ≤ i ∧ i ≤ n) → (ordP p d q u lo i.toNat v w) → (n - i) < (n_12 : Int) → Zg X [(h0, .inr (0, [.ref hu, .ref hl, .int (zi i)])), (h1, .inr (8, [.int (zi p), .int (zi d), .int (zi q)])), (hl, ai κ 8 w), (hu, ai κ 8 v)] 0 0 12 [(0, .ref h0), (1, .ref h1), (2, .int (zi n)), (3, .int (zi i))] [] := by
    intro n_12
    induction n_12 with
    | zero =>
      intro i v w i1 i2 hmu
      exact absurd hmu (by omega)
    | succ n_12 ih_12 =>
      intro i v w i1 i2 hmu_12
      refine z_iload_n E 3 rfl rfl dX0_putInOrder_12 ?_
      refine z_iload_n E 2 rfl rfl dX0_putInOrder_13 ?_
      refine z_ic_ge (tgt := 39) E (by omega) (by omega) dX0_putInOrder_14 (by decide) (fun h_14 => ?_) (fun h_14 => ?_)
      · have hin : n = i := by omega
        subst hin
        refine Zg.perm (ws' := [(h0, .inr (0, [.ref hu, .ref hl, .int (zi n)])), (hu, ai κ 8 v), (hl, ai κ 8 w), (h1, .inr (8, [.int (zi p), .int (zi d), .int (zi q)]))]) [0, 3, 2, 1] rfl rfl ?_
        exact fin _ _ _ (⟨_, _, i2, rfl⟩) dX0_putInOrder_39
      · have hk := ordP_hi i2 i (by omega)
        have hok := hB i (by omega) (by omega)
        rw [← hk.1, ← hk.2] at hok
        have hB2 := ordP_okF hB (by omega) i2
        refine z_aload_n E 0 rfl rfl dX0_putInOrder_17 ?_
        refine z_aload_n E 1 rfl rfl dX0_putInOrder_18 ?_
        refine z_aload_n E 0 rfl rfl dX0_putInOrder_19 ?_
        refine z_iload_n E 3 rfl rfl dX0_putInOrder_20 ?_
        refine z_callVi (As := [.int (zi i)]) (rest := [.ref h1, .ref h0]) (wr := [(h1, .inr (8, [.int (zi p), .int (zi d), .int (zi q)])), (hl, ai κ 8 w)]) E (c_X0_upperAt l D κ h0 hu hl i v i (by omega)) m_X0_22 ⟨Nat.le_of_ble_eq_true rfl, Nat.le_of_ble_eq_true rfl⟩ ⟨rfl, rfl⟩ [0, 3] [1, 2] rfl rfl rfl rfl (by decide) rfl rfl rfl rfl (Nat.le_of_ble_eq_true rfl) dX0_putInOrder_21 ⟨Nat.le_of_ble_eq_true rfl, Nat.le_of_ble_eq_true rfl⟩ (fun z21 w1 hq => ?_)
        obtain ⟨rfl, rfl⟩ := hq
        refine z_aload_n E 0 rfl rfl dX0_putInOrder_24 ?_
        refine z_iload_n E 3 rfl rfl dX0_putInOrder_25 ?_
        refine z_callVi (As := [.int (zi i)]) (rest := [.int (zi (v i)), .ref h1, .ref h0]) (wr := [(h1, .inr (8, [.int (zi p), .int (zi d), .int (zi q)])), (hu, ai κ 8 v)]) E (c_X0_lowerAt l D κ h0 hu hl i w i (by omega)) m_X0_26 ⟨Nat.le_of_ble_eq_true rfl, Nat.le_of_ble_eq_true rfl⟩ ⟨rfl, rfl⟩ [2, 1] [0, 3] rfl rfl rfl rfl (by decide) rfl rfl rfl rfl (Nat.le_of_ble_eq_true rfl) dX0_putInOrder_26 ⟨Nat.le_of_ble_eq_true rfl, Nat.le_of_ble_eq_true rfl⟩ (fun z26 w1 hq => ?_)
        obtain ⟨rfl, rfl⟩ := hq
        refine z_callVi (As := [.ref h1, .int (zi (v i)), .int (zi (w i))]) (rest := []) (wr := []) E (c_X0_add l D κ h0 hu hl i v w h1 p d q (v i) (w i) (by omega) (fun k k1 k2 => hB2 k k1 (by omega)) (by omega) (by omega) (by omega) (hok)) m_X0_39 ⟨Nat.le_of_ble_eq_true rfl, Nat.le_of_ble_eq_true rfl⟩ ⟨rfl, rfl⟩ [2, 1, 3, 0] [] rfl rfl rfl rfl (by decide) rfl rfl rfl rfl (Nat.le_of_ble_eq_true rfl) dX0_putInOrder_29 ⟨Nat.le_of_ble_eq_true rfl, Nat.le_of_ble_eq_true rfl⟩ (fun z29 w1 hq => ?_)
        obtain ⟨u'_1, lo'_2, j_3, hj_29, rfl, rfl⟩ := hq
        refine z_pop E rfl dX0_putInOrder_32 ?_
        refine z_iinc (lv' := [(3, .int (zi (i + 1))), (0, .ref h0), (1, .ref h1), (2, .int (zi n))]) E 3 rfl dX0_putInOrder_33 (Nat.le_of_ble_eq_true rfl) rfl ?_
        refine z_goto (tgt := 12) E dX0_putInOrder_36 (by decide) ?_
        refine Zg.sub (lv' := [(0, .ref h0), (1, .ref h1), (2, .int (zi n)), (3, .int (zi (i + 1)))]) [1, 2, 3, 0] rfl ?_
        refine Zg.perm (ws' := [(h0, .inr (0, [.ref hu, .ref hl, .int (zi (i + 1))])), (h1, .inr (8, [.int (zi p), .int (zi d), .int (zi q)])), (hl, ai κ 8 lo'_2), (hu, ai κ 8 u'_1)]) [0, 3, 2, 1] rfl rfl ?_
        exact ih_12 (i + 1) u'_1 lo'_2 (by omega) (ordP_s i1.1 i2 hj_29) (by omega)
  refine Zg.sub (lv' := [(0, .ref h0), (1, .ref h1), (2, .int (zi n)), (3, .int (zi 0))]) [2, 3, 1, 0] rfl ?_
  refine Zg.perm (ws' := [(h0, .inr (0, [.ref hu, .ref hl, .int (zi 0)])), (h1, .inr (8, [.int (zi p), .int (zi d), .int (zi q)])), (hl, ai κ 8 lo), (hu, ai κ 8 u)]) [0, 3, 2, 1] rfl rfl ?_
  exact lp_12 ((n - 0 : Int).toNat + 1) 0 u lo (by omega) (⟨rfl, rfl⟩) (by omega)
abbrev rm_X6_init : Room := { frames := 2, cells := 4, slots := 22, locals := 32 }
set_option maxRecDepth 100000 in
theorem c_X6_init (l : Launch) (D : va_G) (κ : Nat → ClassId) (h0 : Nat)  : ZV l yX6_init cX6_init 1 rm_X6_init D κ [.ref h0] [(h0, .inr (6, [.null, .null]))] (fun w => ∃ su : Nat, ∃ bk : Nat, ∃ bu : Nat, ∃ bl : Nat, [(h0, .inr (6, [.ref su, .ref bk])), (su, .inr (8, [.int (zi 0), .int (zi 2), .int (zi 1)])), (bk, .inr (0, [.ref bu, .ref bl, .int (zi 0)])), (bu, ai κ 8 (fun _ => 0)), (bl, ai κ 8 (fun _ => 0))] = w) := by
  refine ZV.enter0 (own := RX6) rfl pn_X6_init (Nat.le_of_ble_eq_true rfl) (fun X E hini fin => ?_)
  have hini := hini rfl
  show Zg X [(h0, .inr (6, [.null, .null]))] 0 0 0 [(0, .ref h0)] []
  refine z_aload_n E 0 rfl rfl dX6_init_0 ?_
  refine z_objInit E m_X6_1 in_obj co_obj (Nat.le_of_ble_eq_true rfl) (Nat.le_of_ble_eq_true rfl) dX6_init_1 ?_
  refine z_aload_n E 0 rfl rfl dX6_init_4 ?_
  refine z_new E n_X6_7 (Nat.le_of_ble_eq_true rfl) (Nat.le_of_ble_eq_true rfl) dX6_init_5 (fun q1 => ?_)
  show Zg X [(h0, .inr (6, [.null, .null])), (q1, .inr (8, [.int (zi 0), .int (zi 0), .int (zi 0)]))] 1 3 8 [(0, .ref h0)] [.ref q1, .ref h0]
  refine z_dup E rfl dX6_init_8 ?_
  refine z_callNv (k' := 1) (n' := 3) (As := []) (rest := [.ref q1, .ref h0]) (wr := [(h0, .inr (6, [.null, .null]))]) E (c_X8_init l D κ q1 ) m_X6_9 ⟨Nat.le_of_ble_eq_true rfl, Nat.le_of_ble_eq_true rfl⟩ [1] [0] rfl rfl rfl rfl (by decide) rfl rfl (Nat.le_of_ble_eq_true rfl) dX6_init_9 ⟨Nat.le_of_ble_eq_true rfl, Nat.le_of_ble_eq_true rfl⟩ rfl rfl (fun  w1 hq => ?_)
  obtain rfl := hq
  refine z_putF (ws' := [(h0, .inr (6, [.ref q1, .null])), (q1, .inr (8, [.int (zi 0), .int (zi 2), .int (zi 1)]))]) E hini f_X6_10 t_X6_0 (fun q h => by cases h; rfl) 0 rfl rfl rfl (Nat.le_of_ble_eq_true rfl) rfl dX6_init_12 ?_
  refine z_aload_n E 0 rfl rfl dX6_init_15 ?_
  refine z_new E n_X6_16 (Nat.le_of_ble_eq_true rfl) (Nat.le_of_ble_eq_true rfl) dX6_init_16 (fun q2 => ?_)
  show Zg X [(h0, .inr (6, [.ref q1, .null])), (q1, .inr (8, [.int (zi 0), .int (zi 2), .int (zi 1)])), (q2, .inr (0, [.null, .null, .int (zi 0)]))] 2 6 19 [(0, .ref h0)] [.ref q2, .ref h0]
  refine z_dup E rfl dX6_init_19 ?_
  refine z_callNv (k' := 4) (n' := 22) (As := []) (rest := [.ref q2, .ref h0]) (wr := [(h0, .inr (6, [.ref q1, .null])), (q1, .inr (8, [.int (zi 0), .int (zi 2), .int (zi 1)]))]) E (c_X0_init l D κ q2 ) m_X6_18 ⟨Nat.le_of_ble_eq_true rfl, Nat.le_of_ble_eq_true rfl⟩ [2] [0, 1] rfl rfl rfl rfl (by decide) rfl rfl (Nat.le_of_ble_eq_true rfl) dX6_init_20 ⟨Nat.le_of_ble_eq_true rfl, Nat.le_of_ble_eq_true rfl⟩ rfl rfl (fun  w1 hq => ?_)
  obtain ⟨hu_3, hl_4, rfl⟩ := hq
  refine z_putF (ws' := [(h0, .inr (6, [.ref q1, .ref q2])), (q1, .inr (8, [.int (zi 0), .int (zi 2), .int (zi 1)])), (q2, .inr (0, [.ref hu_3, .ref hl_4, .int (zi 0)])), (hu_3, ai κ 8 (fun _ => 0)), (hl_4, ai κ 8 (fun _ => 0))]) E hini f_X6_19 t_X6_1 (fun q h => by cases h; rfl) 0 rfl rfl rfl (Nat.le_of_ble_eq_true rfl) rfl dX6_init_23 ?_
  exact fin _ _ _ (by first | exact ⟨_, _, _, _, rfl⟩ | omega) dX6_init_26
abbrev rm_X6_copyFrom : Room := { frames := 2, cells := 0, slots := 0, locals := 45 }
set_option maxRecDepth 100000 in
theorem c_X6_copyFrom (l : Launch) (D : va_G) (κ : Nat → ClassId) (st0 : Nat) (su0 : Nat) (bk0 : Nat) (bu0 : Nat) (bl0 : Nat) (p0 : Int) (d0 : Int) (q0 : Int) (n0 : Int) (u0 : Int → Int) (lo0 : Int → Int) (st1 : Nat) (su1 : Nat) (bk1 : Nat) (bu1 : Nat) (bl1 : Nat) (p1 : Int) (d1 : Int) (q1 : Int) (n1 : Int) (u1 : Int → Int) (lo1 : Int → Int) (hn : 0 ≤ n1 ∧ n1 ≤ 8) : ZV l yX6_copyFrom cX6_copyFrom 2 rm_X6_copyFrom D κ [.ref st0, .ref st1] [(st0, .inr (6, [.ref su0, .ref bk0])), (su0, .inr (8, [.int (zi p0), .int (zi d0), .int (zi q0)])), (bk0, .inr (0, [.ref bu0, .ref bl0, .int (zi n0)])), (bu0, ai κ 8 u0), (bl0, ai κ 8 lo0), (st1, .inr (6, [.ref su1, .ref bk1])), (su1, .inr (8, [.int (zi p1), .int (zi d1), .int (zi q1)])), (bk1, .inr (0, [.ref bu1, .ref bl1, .int (zi n1)])), (bu1, ai κ 8 u1), (bl1, ai κ 8 lo1)] (fun w => ∃ u' : Int → Int, ∃ lo' : Int → Int, (∀ i : Int, 0 ≤ i → i < n1 → u' i = u1 i ∧ lo' i = lo1 i) ∧ [(st0, .inr (6, [.ref su0, .ref bk0])), (su0, .inr (8, [.int (zi p1), .int (zi d1), .int (zi q1)])), (bk0, .inr (0, [.ref bu0, .ref bl0, .int (zi n1)])), (bu0, ai κ 8 u'), (bl0, ai κ 8 lo'), (st1, .inr (6, [.ref su1, .ref bk1])), (su1, .inr (8, [.int (zi p1), .int (zi d1), .int (zi q1)])), (bk1, .inr (0, [.ref bu1, .ref bl1, .int (zi n1)])), (bu1, ai κ 8 u1), (bl1, ai κ 8 lo1)] = w) := by
  refine ZV.enter (own := RX6) rfl pn_X6_copyFrom (Nat.le_of_ble_eq_true rfl) (fun X E fin => ?_)
  show Zg X [(st0, .inr (6, [.ref su0, .ref bk0])), (su0, .inr (8, [.int (zi p0), .int (zi d0), .int (zi q0)])), (bk0, .inr (0, [.ref bu0, .ref bl0, .int (zi n0)])), (bu0, ai κ 8 u0), (bl0, ai κ 8 lo0), (st1, .inr (6, [.ref su1, .ref bk1])), (su1, .inr (8, [.int (zi p1), .int (zi d1), .int (zi q1)])), (bk1, .inr (0, [.ref bu1, .ref bl1, .int (zi n1)])), (bu1, ai κ 8 u1), (bl1, ai κ 8 lo1)] 0 0 0 [(0, .ref st0), (1, .ref st1)] []
  refine z_aload_n E 0 rfl rfl dX6_copyFrom_0 ?_
  refine z_get E f_X6_10 0 rfl rfl dX6_copyFrom_1 ?_
  refine z_aload_n E 1 rfl rfl dX6_copyFrom_4 ?_
  refine z_get E f_X6_10 5 rfl rfl dX6_copyFrom_5 ?_
  refine z_get E f_X6_23 6 rfl rfl dX6_copyFrom_8 ?_
  refine z_aload_n E 1 rfl rfl dX6_copyFrom_11 ?_
  refine z_get E f_X6_10 5 rfl rfl dX6_copyFrom_12 ?_
  refine z_get E f_X6_27 6 rfl rfl dX6_copyFrom_15 ?_
  refine z_aload_n E 1 rfl rfl dX6_copyFrom_18 ?_
  refine z_get E f_X6_10 5 rfl rfl dX6_copyFrom_19 ?_
  refine z_get E f_X6_30 6 rfl rfl dX6_copyFrom_22 ?_
  refine z_callVv (As := [.int (zi p1), .int (zi d1), .int (zi q1)]) (rest := []) (wr := [(st0, .inr (6, [.ref su0, .ref bk0])), (bk0, .inr (0, [.ref bu0, .ref bl0, .int (zi n0)])), (bu0, ai κ 8 u0), (bl0, ai κ 8 lo0), (st1, .inr (6, [.ref su1, .ref bk1])), (su1, .inr (8, [.int (zi p1), .int (zi d1), .int (zi q1)])), (bk1, .inr (0, [.ref bu1, .ref bl1, .int (zi n1)])), (bu1, ai κ 8 u1), (bl1, ai κ 8 lo1)]) E (c_X8_set l D κ su0 p0 d0 q0 p1 d1 q1 ) m_X6_33 ⟨Nat.le_of_ble_eq_true rfl, Nat.le_of_ble_eq_true rfl⟩ ⟨rfl, rfl⟩ [1] [0, 2, 3, 4, 5, 6, 7, 8, 9] rfl rfl rfl rfl (by decide) rfl rfl rfl rfl (Nat.le_of_ble_eq_true rfl) dX6_copyFrom_25 ⟨Nat.le_of_ble_eq_true rfl, Nat.le_of_ble_eq_true rfl⟩ (fun  w1 hq => ?_)
  obtain rfl := hq
  refine z_aload_n E 0 rfl rfl dX6_copyFrom_28 ?_
  refine z_get E f_X6_19 0 rfl rfl dX6_copyFrom_29 ?_
  refine z_aload_n E 1 rfl rfl dX6_copyFrom_32 ?_
  refine z_get E f_X6_19 4 rfl rfl dX6_copyFrom_33 ?_
  refine z_callVv (As := [.ref bk1]) (rest := []) (wr := [(st0, .inr (6, [.ref su0, .ref bk0])), (st1, .inr (6, [.ref su1, .ref bk1])), (su1, .inr (8, [.int (zi p1), .int (zi d1), .int (zi q1)])), (su0, .inr (8, [.int (zi p1), .int (zi d1), .int (zi q1)]))]) E (c_X0_copyFrom l D κ bk0 bu0 bl0 n0 u0 lo0 bk1 bu1 bl1 n1 u1 lo1 (by omega)) m_X6_37 ⟨Nat.le_of_ble_eq_true rfl, Nat.le_of_ble_eq_true rfl⟩ ⟨rfl, rfl⟩ [1, 2, 3, 6, 7, 8] [0, 4, 5, 9] rfl rfl rfl rfl (by decide) rfl rfl rfl rfl (Nat.le_of_ble_eq_true rfl) dX6_copyFrom_36 ⟨Nat.le_of_ble_eq_true rfl, Nat.le_of_ble_eq_true rfl⟩ (fun  w1 hq => ?_)
  obtain ⟨u'_1, lo'_2, hj_36, rfl⟩ := hq
  refine Zg.perm (ws' := [(st0, .inr (6, [.ref su0, .ref bk0])), (su0, .inr (8, [.int (zi p1), .int (zi d1), .int (zi q1)])), (bk0, .inr (0, [.ref bu0, .ref bl0, .int (zi n1)])), (bu0, ai κ 8 u'_1), (bl0, ai κ 8 lo'_2), (st1, .inr (6, [.ref su1, .ref bk1])), (su1, .inr (8, [.int (zi p1), .int (zi d1), .int (zi q1)])), (bk1, .inr (0, [.ref bu1, .ref bl1, .int (zi n1)])), (bu1, ai κ 8 u1), (bl1, ai κ 8 lo1)]) [0, 3, 4, 5, 6, 1, 2, 7, 8, 9] rfl rfl ?_
  exact fin _ _ _ (⟨_, _, hj_36, rfl⟩) dX6_copyFrom_39
abbrev rm_X3_init : Room := { frames := 3, cells := 21, slots := 100, locals := 52 }
set_option maxRecDepth 100000 in
theorem c_X3_init (l : Launch) (D : va_G) (κ : Nat → ClassId) (h0 : Nat)  : ZV l yX3_init cX3_init 2 rm_X3_init D κ [.ref h0] [(h0, .inr (3, [.null, .int (zi 0)]))] (fun w => ∃ ha : Nat, ∃ st0 : Nat, ∃ su0 : Nat, ∃ bk0 : Nat, ∃ bu0 : Nat, ∃ bl0 : Nat, ∃ st1 : Nat, ∃ su1 : Nat, ∃ bk1 : Nat, ∃ bu1 : Nat, ∃ bl1 : Nat, ∃ st2 : Nat, ∃ su2 : Nat, ∃ bk2 : Nat, ∃ bu2 : Nat, ∃ bl2 : Nat, ∃ st3 : Nat, ∃ su3 : Nat, ∃ bk3 : Nat, ∃ bu3 : Nat, ∃ bl3 : Nat, [(h0, .inr (3, [.ref ha, .int (zi 0)])), (ha, ar κ 4 (rf4 (some st0) (some st1) (some st2) (some st3))), (st0, .inr (6, [.ref su0, .ref bk0])), (su0, .inr (8, [.int (zi 0), .int (zi 2), .int (zi 1)])), (bk0, .inr (0, [.ref bu0, .ref bl0, .int (zi 0)])), (bu0, ai κ 8 (fun _ => 0)), (bl0, ai κ 8 (fun _ => 0)), (st1, .inr (6, [.ref su1, .ref bk1])), (su1, .inr (8, [.int (zi 0), .int (zi 2), .int (zi 1)])), (bk1, .inr (0, [.ref bu1, .ref bl1, .int (zi 0)])), (bu1, ai κ 8 (fun _ => 0)), (bl1, ai κ 8 (fun _ => 0)), (st2, .inr (6, [.ref su2, .ref bk2])), (su2, .inr (8, [.int (zi 0), .int (zi 2), .int (zi 1)])), (bk2, .inr (0, [.ref bu2, .ref bl2, .int (zi 0)])), (bu2, ai κ 8 (fun _ => 0)), (bl2, ai κ 8 (fun _ => 0)), (st3, .inr (6, [.ref su3, .ref bk3])), (su3, .inr (8, [.int (zi 0), .int (zi 2), .int (zi 1)])), (bk3, .inr (0, [.ref bu3, .ref bl3, .int (zi 0)])), (bu3, ai κ 8 (fun _ => 0)), (bl3, ai κ 8 (fun _ => 0))] = w) := by
  refine ZV.enter0 (own := RX3) rfl pn_X3_init (Nat.le_of_ble_eq_true rfl) (fun X E hini fin => ?_)
  have hini := hini rfl
  show Zg X [(h0, .inr (3, [.null, .int (zi 0)]))] 0 0 0 [(0, .ref h0)] []
  refine z_aload_n E 0 rfl rfl dX3_init_0 ?_
  refine z_objInit E m_X3_3 in_obj co_obj (Nat.le_of_ble_eq_true rfl) (Nat.le_of_ble_eq_true rfl) dX3_init_1 ?_
  refine z_aload_n E 0 rfl rfl dX3_init_4 ?_
  refine z_iconst E dX3_init_5 ?_
  refine z_newq (N := 4) E (Nat.le_of_ble_eq_true rfl) cl_X3_9 (Nat.le_of_ble_eq_true rfl) (Nat.le_of_ble_eq_true rfl) dX3_init_6 (fun q1 => ?_)
  show Zg X [(h0, .inr (3, [.null, .int (zi 0)])), (q1, ar κ 4 (fun _ => none))] 1 4 9 [(0, .ref h0)] [.ref q1, .ref h0]
  rw [rf4_none]
  refine z_putF (ws' := [(h0, .inr (3, [.ref q1, .int (zi 0)])), (q1, ar κ 4 (rf4 none none none none))]) E hini f_X3_11 t_X3_0 (fun q h => by cases h; rfl) 0 rfl rfl rfl (Nat.le_of_ble_eq_true rfl) rfl dX3_init_9 ?_
  refine z_iconst E dX3_init_12 ?_
  refine z_istore_n (lv' := [(1, .int (zi 0)), (0, .ref h0)]) E dX3_init_13 rfl (Nat.le_of_ble_eq_true rfl) rfl ?_
  refine z_iload_n E 0 rfl rfl dX3_init_14 ?_
  refine z_aload_n E 1 rfl rfl dX3_init_15 ?_
  refine z_get E f_X3_11 0 rfl rfl dX3_init_16 ?_
  refine z_alen_ar E 1 rfl dX3_init_19 ?_
  refine z_ic_ge (tgt := 42) E (by omega) (by omega) dX3_init_20 (by decide) (fun h => absurd h (by decide)) (fun _ => ?_)
  refine z_aload_n E 1 rfl rfl dX3_init_23 ?_
  refine z_get E f_X3_11 0 rfl rfl dX3_init_24 ?_
  refine z_iload_n E 0 rfl rfl dX3_init_27 ?_
  refine z_new E n_X3_9 (Nat.le_of_ble_eq_true rfl) (Nat.le_of_ble_eq_true rfl) dX3_init_28 (fun q2 => ?_)
  show Zg X [(h0, .inr (3, [.ref q1, .int (zi 0)])), (q1, ar κ 4 (rf4 none none none none)), (q2, .inr (6, [.null, .null]))] 2 6 31 [(1, .int (zi 0)), (0, .ref h0)] [.ref q2, .int (zi 0), .ref q1]
  refine z_dup E rfl dX3_init_31 ?_
  refine z_callNv (k' := 6) (n' := 28) (As := []) (rest := [.ref q2, .int (zi 0), .ref q1]) (wr := [(h0, .inr (3, [.ref q1, .int (zi 0)])), (q1, ar κ 4 (rf4 none none none none))]) E (c_X6_init l D κ q2 ) m_X3_17 ⟨Nat.le_of_ble_eq_true rfl, Nat.le_of_ble_eq_true rfl⟩ [2] [0, 1] rfl rfl rfl rfl (by decide) rfl rfl (Nat.le_of_ble_eq_true rfl) dX3_init_32 ⟨Nat.le_of_ble_eq_true rfl, Nat.le_of_ble_eq_true rfl⟩ rfl rfl (fun  w1 hq => ?_)
  obtain ⟨su_3, bk_4, bu_5, bl_6, rfl⟩ := hq
  refine z_aast (ws' := [(h0, .inr (3, [.ref q1, .int (zi 0)])), (q1, ar κ 4 (zu (rf4 none none none none) 0 (some q2))), (q2, .inr (6, [.ref su_3, .ref bk_4])), (su_3, .inr (8, [.int (zi 0), .int (zi 2), .int (zi 1)])), (bk_4, .inr (0, [.ref bu_5, .ref bl_6, .int (zi 0)])), (bu_5, ai κ 8 (fun _ => 0)), (bl_6, ai κ 8 (fun _ => 0))]) E 1 2 rfl rfl (Nat.le_of_ble_eq_true rfl) (by decide) (by decide) rfl dX3_init_35 ?_
  rw [rf4_0]
  refine z_iinc (lv' := [(1, .int (zi 1)), (0, .ref h0)]) E 0 rfl dX3_init_36 (Nat.le_of_ble_eq_true rfl) rfl ?_
  refine z_goto (tgt := 14) E dX3_init_39 (by decide) ?_
  refine z_iload_n E 0 rfl rfl dX3_init_14 ?_
  refine z_aload_n E 1 rfl rfl dX3_init_15 ?_
  refine z_get E f_X3_11 0 rfl rfl dX3_init_16 ?_
  refine z_alen_ar E 1 rfl dX3_init_19 ?_
  refine z_ic_ge (tgt := 42) E (by omega) (by omega) dX3_init_20 (by decide) (fun h => absurd h (by decide)) (fun _ => ?_)
  refine z_aload_n E 1 rfl rfl dX3_init_23 ?_
  refine z_get E f_X3_11 0 rfl rfl dX3_init_24 ?_
  refine z_iload_n E 0 rfl rfl dX3_init_27 ?_
  refine z_new E n_X3_9 (Nat.le_of_ble_eq_true rfl) (Nat.le_of_ble_eq_true rfl) dX3_init_28 (fun q7 => ?_)
  show Zg X [(h0, .inr (3, [.ref q1, .int (zi 0)])), (q1, ar κ 4 (rf4 (some q2) none none none)), (q2, .inr (6, [.ref su_3, .ref bk_4])), (su_3, .inr (8, [.int (zi 0), .int (zi 2), .int (zi 1)])), (bk_4, .inr (0, [.ref bu_5, .ref bl_6, .int (zi 0)])), (bu_5, ai κ 8 (fun _ => 0)), (bl_6, ai κ 8 (fun _ => 0)), (q7, .inr (6, [.null, .null]))] 7 30 31 [(1, .int (zi 1)), (0, .ref h0)] [.ref q7, .int (zi 1), .ref q1]
  refine z_dup E rfl dX3_init_31 ?_
  refine z_callNv (k' := 11) (n' := 52) (As := []) (rest := [.ref q7, .int (zi 1), .ref q1]) (wr := [(h0, .inr (3, [.ref q1, .int (zi 0)])), (q1, ar κ 4 (rf4 (some q2) none none none)), (q2, .inr (6, [.ref su_3, .ref bk_4])), (su_3, .inr (8, [.int (zi 0), .int (zi 2), .int (zi 1)])), (bk_4, .inr (0, [.ref bu_5, .ref bl_6, .int (zi 0)])), (bu_5, ai κ 8 (fun _ => 0)), (bl_6, ai κ 8 (fun _ => 0))]) E (c_X6_init l D κ q7 ) m_X3_17 ⟨Nat.le_of_ble_eq_true rfl, Nat.le_of_ble_eq_true rfl⟩ [7] [0, 1, 2, 3, 4, 5, 6] rfl rfl rfl rfl (by decide) rfl rfl (Nat.le_of_ble_eq_true rfl) dX3_init_32 ⟨Nat.le_of_ble_eq_true rfl, Nat.le_of_ble_eq_true rfl⟩ rfl rfl (fun  w1 hq => ?_)
  obtain ⟨su_8, bk_9, bu_10, bl_11, rfl⟩ := hq
  refine z_aast (ws' := [(h0, .inr (3, [.ref q1, .int (zi 0)])), (q1, ar κ 4 (zu (rf4 (some q2) none none none) 1 (some q7))), (q2, .inr (6, [.ref su_3, .ref bk_4])), (su_3, .inr (8, [.int (zi 0), .int (zi 2), .int (zi 1)])), (bk_4, .inr (0, [.ref bu_5, .ref bl_6, .int (zi 0)])), (bu_5, ai κ 8 (fun _ => 0)), (bl_6, ai κ 8 (fun _ => 0)), (q7, .inr (6, [.ref su_8, .ref bk_9])), (su_8, .inr (8, [.int (zi 0), .int (zi 2), .int (zi 1)])), (bk_9, .inr (0, [.ref bu_10, .ref bl_11, .int (zi 0)])), (bu_10, ai κ 8 (fun _ => 0)), (bl_11, ai κ 8 (fun _ => 0))]) E 1 7 rfl rfl (Nat.le_of_ble_eq_true rfl) (by decide) (by decide) rfl dX3_init_35 ?_
  rw [rf4_1]
  refine z_iinc (lv' := [(1, .int (zi 2)), (0, .ref h0)]) E 0 rfl dX3_init_36 (Nat.le_of_ble_eq_true rfl) rfl ?_
  refine z_goto (tgt := 14) E dX3_init_39 (by decide) ?_
  refine z_iload_n E 0 rfl rfl dX3_init_14 ?_
  refine z_aload_n E 1 rfl rfl dX3_init_15 ?_
  refine z_get E f_X3_11 0 rfl rfl dX3_init_16 ?_
  refine z_alen_ar E 1 rfl dX3_init_19 ?_
  refine z_ic_ge (tgt := 42) E (by omega) (by omega) dX3_init_20 (by decide) (fun h => absurd h (by decide)) (fun _ => ?_)
  refine z_aload_n E 1 rfl rfl dX3_init_23 ?_
  refine z_get E f_X3_11 0 rfl rfl dX3_init_24 ?_
  refine z_iload_n E 0 rfl rfl dX3_init_27 ?_
  refine z_new E n_X3_9 (Nat.le_of_ble_eq_true rfl) (Nat.le_of_ble_eq_true rfl) dX3_init_28 (fun q12 => ?_)
  show Zg X [(h0, .inr (3, [.ref q1, .int (zi 0)])), (q1, ar κ 4 (rf4 (some q2) (some q7) none none)), (q2, .inr (6, [.ref su_3, .ref bk_4])), (su_3, .inr (8, [.int (zi 0), .int (zi 2), .int (zi 1)])), (bk_4, .inr (0, [.ref bu_5, .ref bl_6, .int (zi 0)])), (bu_5, ai κ 8 (fun _ => 0)), (bl_6, ai κ 8 (fun _ => 0)), (q7, .inr (6, [.ref su_8, .ref bk_9])), (su_8, .inr (8, [.int (zi 0), .int (zi 2), .int (zi 1)])), (bk_9, .inr (0, [.ref bu_10, .ref bl_11, .int (zi 0)])), (bu_10, ai κ 8 (fun _ => 0)), (bl_11, ai κ 8 (fun _ => 0)), (q12, .inr (6, [.null, .null]))] 12 54 31 [(1, .int (zi 2)), (0, .ref h0)] [.ref q12, .int (zi 2), .ref q1]
  refine z_dup E rfl dX3_init_31 ?_
  refine z_callNv (k' := 16) (n' := 76) (As := []) (rest := [.ref q12, .int (zi 2), .ref q1]) (wr := [(h0, .inr (3, [.ref q1, .int (zi 0)])), (q1, ar κ 4 (rf4 (some q2) (some q7) none none)), (q2, .inr (6, [.ref su_3, .ref bk_4])), (su_3, .inr (8, [.int (zi 0), .int (zi 2), .int (zi 1)])), (bk_4, .inr (0, [.ref bu_5, .ref bl_6, .int (zi 0)])), (bu_5, ai κ 8 (fun _ => 0)), (bl_6, ai κ 8 (fun _ => 0)), (q7, .inr (6, [.ref su_8, .ref bk_9])), (su_8, .inr (8, [.int (zi 0), .int (zi 2), .int (zi 1)])), (bk_9, .inr (0, [.ref bu_10, .ref bl_11, .int (zi 0)])), (bu_10, ai κ 8 (fun _ => 0)), (bl_11, ai κ 8 (fun _ => 0))]) E (c_X6_init l D κ q12 ) m_X3_17 ⟨Nat.le_of_ble_eq_true rfl, Nat.le_of_ble_eq_true rfl⟩ [12] [0, 1, 2, 3, 4, 5, 6, 7, 8, 9, 10, 11] rfl rfl rfl rfl (by decide) rfl rfl (Nat.le_of_ble_eq_true rfl) dX3_init_32 ⟨Nat.le_of_ble_eq_true rfl, Nat.le_of_ble_eq_true rfl⟩ rfl rfl (fun  w1 hq => ?_)
  obtain ⟨su_13, bk_14, bu_15, bl_16, rfl⟩ := hq
  refine z_aast (ws' := [(h0, .inr (3, [.ref q1, .int (zi 0)])), (q1, ar κ 4 (zu (rf4 (some q2) (some q7) none none) 2 (some q12))), (q2, .inr (6, [.ref su_3, .ref bk_4])), (su_3, .inr (8, [.int (zi 0), .int (zi 2), .int (zi 1)])), (bk_4, .inr (0, [.ref bu_5, .ref bl_6, .int (zi 0)])), (bu_5, ai κ 8 (fun _ => 0)), (bl_6, ai κ 8 (fun _ => 0)), (q7, .inr (6, [.ref su_8, .ref bk_9])), (su_8, .inr (8, [.int (zi 0), .int (zi 2), .int (zi 1)])), (bk_9, .inr (0, [.ref bu_10, .ref bl_11, .int (zi 0)])), (bu_10, ai κ 8 (fun _ => 0)), (bl_11, ai κ 8 (fun _ => 0)), (q12, .inr (6, [.ref su_13, .ref bk_14])), (su_13, .inr (8, [.int (zi 0), .int (zi 2), .int (zi 1)])), (bk_14, .inr (0, [.ref bu_15, .ref bl_16, .int (zi 0)])), (bu_15, ai κ 8 (fun _ => 0)), (bl_16, ai κ 8 (fun _ => 0))]) E 1 12 rfl rfl (Nat.le_of_ble_eq_true rfl) (by decide) (by decide) rfl dX3_init_35 ?_
  rw [rf4_2]
  refine z_iinc (lv' := [(1, .int (zi 3)), (0, .ref h0)]) E 0 rfl dX3_init_36 (Nat.le_of_ble_eq_true rfl) rfl ?_
  refine z_goto (tgt := 14) E dX3_init_39 (by decide) ?_
  refine z_iload_n E 0 rfl rfl dX3_init_14 ?_
  refine z_aload_n E 1 rfl rfl dX3_init_15 ?_
  refine z_get E f_X3_11 0 rfl rfl dX3_init_16 ?_
  refine z_alen_ar E 1 rfl dX3_init_19 ?_
  refine z_ic_ge (tgt := 42) E (by omega) (by omega) dX3_init_20 (by decide) (fun h => absurd h (by decide)) (fun _ => ?_)
  refine z_aload_n E 1 rfl rfl dX3_init_23 ?_
  refine z_get E f_X3_11 0 rfl rfl dX3_init_24 ?_
  refine z_iload_n E 0 rfl rfl dX3_init_27 ?_
  refine z_new E n_X3_9 (Nat.le_of_ble_eq_true rfl) (Nat.le_of_ble_eq_true rfl) dX3_init_28 (fun q17 => ?_)
  show Zg X [(h0, .inr (3, [.ref q1, .int (zi 0)])), (q1, ar κ 4 (rf4 (some q2) (some q7) (some q12) none)), (q2, .inr (6, [.ref su_3, .ref bk_4])), (su_3, .inr (8, [.int (zi 0), .int (zi 2), .int (zi 1)])), (bk_4, .inr (0, [.ref bu_5, .ref bl_6, .int (zi 0)])), (bu_5, ai κ 8 (fun _ => 0)), (bl_6, ai κ 8 (fun _ => 0)), (q7, .inr (6, [.ref su_8, .ref bk_9])), (su_8, .inr (8, [.int (zi 0), .int (zi 2), .int (zi 1)])), (bk_9, .inr (0, [.ref bu_10, .ref bl_11, .int (zi 0)])), (bu_10, ai κ 8 (fun _ => 0)), (bl_11, ai κ 8 (fun _ => 0)), (q12, .inr (6, [.ref su_13, .ref bk_14])), (su_13, .inr (8, [.int (zi 0), .int (zi 2), .int (zi 1)])), (bk_14, .inr (0, [.ref bu_15, .ref bl_16, .int (zi 0)])), (bu_15, ai κ 8 (fun _ => 0)), (bl_16, ai κ 8 (fun _ => 0)), (q17, .inr (6, [.null, .null]))] 17 78 31 [(1, .int (zi 3)), (0, .ref h0)] [.ref q17, .int (zi 3), .ref q1]
  refine z_dup E rfl dX3_init_31 ?_
  refine z_callNv (k' := 21) (n' := 100) (As := []) (rest := [.ref q17, .int (zi 3), .ref q1]) (wr := [(h0, .inr (3, [.ref q1, .int (zi 0)])), (q1, ar κ 4 (rf4 (some q2) (some q7) (some q12) none)), (q2, .inr (6, [.ref su_3, .ref bk_4])), (su_3, .inr (8, [.int (zi 0), .int (zi 2), .int (zi 1)])), (bk_4, .inr (0, [.ref bu_5, .ref bl_6, .int (zi 0)])), (bu_5, ai κ 8 (fun _ => 0)), (bl_6, ai κ 8 (fun _ => 0)), (q7, .inr (6, [.ref su_8, .ref bk_9])), (su_8, .inr (8, [.int (zi 0), .int (zi 2), .int (zi 1)])), (bk_9, .inr (0, [.ref bu_10, .ref bl_11, .int (zi 0)])), (bu_10, ai κ 8 (fun _ => 0)), (bl_11, ai κ 8 (fun _ => 0)), (q12, .inr (6, [.ref su_13, .ref bk_14])), (su_13, .inr (8, [.int (zi 0), .int (zi 2), .int (zi 1)])), (bk_14, .inr (0, [.ref bu_15, .ref bl_16, .int (zi 0)])), (bu_15, ai κ 8 (fun _ => 0)), (bl_16, ai κ 8 (fun _ => 0))]) E (c_X6_init l D κ q17 ) m_X3_17 ⟨Nat.le_of_ble_eq_true rfl, Nat.le_of_ble_eq_true rfl⟩ [17] [0, 1, 2, 3, 4, 5, 6, 7, 8, 9, 10, 11, 12, 13, 14, 15, 16] rfl rfl rfl rfl (by decide) rfl rfl (Nat.le_of_ble_eq_true rfl) dX3_init_32 ⟨Nat.le_of_ble_eq_true rfl, Nat.le_of_ble_eq_true rfl⟩ rfl rfl (fun  w1 hq => ?_)
  obtain ⟨su_18, bk_19, bu_20, bl_21, rfl⟩ := hq
  refine z_aast (ws' := [(h0, .inr (3, [.ref q1, .int (zi 0)])), (q1, ar κ 4 (zu (rf4 (some q2) (some q7) (some q12) none) 3 (some q17))), (q2, .inr (6, [.ref su_3, .ref bk_4])), (su_3, .inr (8, [.int (zi 0), .int (zi 2), .int (zi 1)])), (bk_4, .inr (0, [.ref bu_5, .ref bl_6, .int (zi 0)])), (bu_5, ai κ 8 (fun _ => 0)), (bl_6, ai κ 8 (fun _ => 0)), (q7, .inr (6, [.ref su_8, .ref bk_9])), (su_8, .inr (8, [.int (zi 0), .int (zi 2), .int (zi 1)])), (bk_9, .inr (0, [.ref bu_10, .ref bl_11, .int (zi 0)])), (bu_10, ai κ 8 (fun _ => 0)), (bl_11, ai κ 8 (fun _ => 0)), (q12, .inr (6, [.ref su_13, .ref bk_14])), (su_13, .inr (8, [.int (zi 0), .int (zi 2), .int (zi 1)])), (bk_14, .inr (0, [.ref bu_15, .ref bl_16, .int (zi 0)])), (bu_15, ai κ 8 (fun _ => 0)), (bl_16, ai κ 8 (fun _ => 0)), (q17, .inr (6, [.ref su_18, .ref bk_19])), (su_18, .inr (8, [.int (zi 0), .int (zi 2), .int (zi 1)])), (bk_19, .inr (0, [.ref bu_20, .ref bl_21, .int (zi 0)])), (bu_20, ai κ 8 (fun _ => 0)), (bl_21, ai κ 8 (fun _ => 0))]) E 1 17 rfl rfl (Nat.le_of_ble_eq_true rfl) (by decide) (by decide) rfl dX3_init_35 ?_
  rw [rf4_3]
  refine z_iinc (lv' := [(1, .int (zi 4)), (0, .ref h0)]) E 0 rfl dX3_init_36 (Nat.le_of_ble_eq_true rfl) rfl ?_
  refine z_goto (tgt := 14) E dX3_init_39 (by decide) ?_
  refine z_iload_n E 0 rfl rfl dX3_init_14 ?_
  refine z_aload_n E 1 rfl rfl dX3_init_15 ?_
  refine z_get E f_X3_11 0 rfl rfl dX3_init_16 ?_
  refine z_alen_ar E 1 rfl dX3_init_19 ?_
  refine z_ic_ge (tgt := 42) E (by omega) (by omega) dX3_init_20 (by decide) (fun _ => ?_) (fun h => absurd h (by decide))
  exact fin _ _ _ (by first | exact ⟨_, _, _, _, _, _, _, _, _, _, _, _, _, _, _, _, _, _, _, _, _, rfl⟩ | omega) dX3_init_42
abbrev rm_X3_dropOldest : Room := { frames := 0, cells := 0, slots := 0, locals := 0 }
set_option maxRecDepth 100000 in
theorem c_X3_dropOldest (l : Launch) (D : va_G) (κ : Nat → ClassId) (h0 : Nat) (ha : Nat) (n : Int) (st0 : Nat) (su0 : Nat) (bk0 : Nat) (st1 : Nat) (su1 : Nat) (bk1 : Nat) (st2 : Nat) (su2 : Nat) (bk2 : Nat) (st3 : Nat) (su3 : Nat) (bk3 : Nat)  : ZV l yX3_dropOldest cX3_dropOldest 3 rm_X3_dropOldest D κ [.ref h0] [(h0, .inr (3, [.ref ha, .int (zi n)])), (ha, ar κ 4 (rf4 (some st0) (some st1) (some st2) (some st3))), (st0, .inr (6, [.ref su0, .ref bk0])), (st1, .inr (6, [.ref su1, .ref bk1])), (st2, .inr (6, [.ref su2, .ref bk2])), (st3, .inr (6, [.ref su3, .ref bk3]))] (fun w => [(h0, .inr (3, [.ref ha, .int (zi 3)])), (ha, ar κ 4 (rf4 (some st1) (some st2) (some st3) (some st0))), (st0, .inr (6, [.ref su0, .ref bk0])), (st1, .inr (6, [.ref su1, .ref bk1])), (st2, .inr (6, [.ref su2, .ref bk2])), (st3, .inr (6, [.ref su3, .ref bk3]))] = w) := by
  refine ZV.enter (own := RX3) rfl pn_X3_dropOldest (Nat.le_of_ble_eq_true rfl) (fun X E fin => ?_)
  show Zg X [(h0, .inr (3, [.ref ha, .int (zi n)])), (ha, ar κ 4 (rf4 (some st0) (some st1) (some st2) (some st3))), (st0, .inr (6, [.ref su0, .ref bk0])), (st1, .inr (6, [.ref su1, .ref bk1])), (st2, .inr (6, [.ref su2, .ref bk2])), (st3, .inr (6, [.ref su3, .ref bk3]))] 0 0 0 [(0, .ref h0)] []
  refine z_aload_n E 0 rfl rfl dX3_dropOldest_0 ?_
  refine z_get E f_X3_11 0 rfl rfl dX3_dropOldest_1 ?_
  refine z_alen_ar E 1 rfl dX3_dropOldest_4 ?_
  refine z_if_ne (tgt := 9) E (by omega) dX3_dropOldest_5 (by decide) (fun _ => ?_) (fun h => absurd h (by decide))
  refine z_aload_n E 0 rfl rfl dX3_dropOldest_9 ?_
  refine z_get E f_X3_11 0 rfl rfl dX3_dropOldest_10 ?_
  refine z_iconst E dX3_dropOldest_13 ?_
  refine z_aald (v := st0) E 1 rfl (Nat.le_of_ble_eq_true rfl) (by decide) (by decide) rfl dX3_dropOldest_14 ?_
  refine z_astore_n (lv' := [(1, .ref st0), (0, .ref h0)]) E dX3_dropOldest_15 rfl (Nat.le_of_ble_eq_true rfl) rfl ?_
  refine z_iconst E dX3_dropOldest_16 ?_
  refine z_istore_n (lv' := [(2, .int (zi 1)), (1, .ref st0), (0, .ref h0)]) E dX3_dropOldest_17 rfl (Nat.le_of_ble_eq_true rfl) rfl ?_
  refine z_iload_n E 0 rfl rfl dX3_dropOldest_18 ?_
  refine z_aload_n E 2 rfl rfl dX3_dropOldest_19 ?_
  refine z_get E f_X3_11 0 rfl rfl dX3_dropOldest_20 ?_
  refine z_alen_ar E 1 rfl dX3_dropOldest_23 ?_
  refine z_ic_ge (tgt := 47) E (by omega) (by omega) dX3_dropOldest_24 (by decide) (fun h => absurd h (by decide)) (fun _ => ?_)
  refine z_aload_n E 2 rfl rfl dX3_dropOldest_27 ?_
  refine z_get E f_X3_11 0 rfl rfl dX3_dropOldest_28 ?_
  refine z_iload_n E 0 rfl rfl dX3_dropOldest_31 ?_
  refine z_iconst E dX3_dropOldest_32 ?_
  refine z_isub E dX3_dropOldest_33 ?_
  refine z_aload_n E 2 rfl rfl dX3_dropOldest_34 ?_
  refine z_get E f_X3_11 0 rfl rfl dX3_dropOldest_35 ?_
  refine z_iload_n E 0 rfl rfl dX3_dropOldest_38 ?_
  refine z_aald (v := st1) E 1 rfl (Nat.le_of_ble_eq_true rfl) (by decide) (by decide) rfl dX3_dropOldest_39 ?_
  refine z_aast (ws' := [(h0, .inr (3, [.ref ha, .int (zi n)])), (ha, ar κ 4 (zu (rf4 (some st0) (some st1) (some st2) (some st3)) 0 (some st1))), (st0, .inr (6, [.ref su0, .ref bk0])), (st1, .inr (6, [.ref su1, .ref bk1])), (st2, .inr (6, [.ref su2, .ref bk2])), (st3, .inr (6, [.ref su3, .ref bk3]))]) E 1 3 rfl rfl (Nat.le_of_ble_eq_true rfl) (by decide) (by decide) rfl dX3_dropOldest_40 ?_
  rw [rf4_0]
  refine z_iinc (lv' := [(2, .int (zi 2)), (1, .ref st0), (0, .ref h0)]) E 0 rfl dX3_dropOldest_41 (Nat.le_of_ble_eq_true rfl) rfl ?_
  refine z_goto (tgt := 18) E dX3_dropOldest_44 (by decide) ?_
  refine z_iload_n E 0 rfl rfl dX3_dropOldest_18 ?_
  refine z_aload_n E 2 rfl rfl dX3_dropOldest_19 ?_
  refine z_get E f_X3_11 0 rfl rfl dX3_dropOldest_20 ?_
  refine z_alen_ar E 1 rfl dX3_dropOldest_23 ?_
  refine z_ic_ge (tgt := 47) E (by omega) (by omega) dX3_dropOldest_24 (by decide) (fun h => absurd h (by decide)) (fun _ => ?_)
  refine z_aload_n E 2 rfl rfl dX3_dropOldest_27 ?_
  refine z_get E f_X3_11 0 rfl rfl dX3_dropOldest_28 ?_
  refine z_iload_n E 0 rfl rfl dX3_dropOldest_31 ?_
  refine z_iconst E dX3_dropOldest_32 ?_
  refine z_isub E dX3_dropOldest_33 ?_
  refine z_aload_n E 2 rfl rfl dX3_dropOldest_34 ?_
  refine z_get E f_X3_11 0 rfl rfl dX3_dropOldest_35 ?_
  refine z_iload_n E 0 rfl rfl dX3_dropOldest_38 ?_
  refine z_aald (v := st2) E 1 rfl (Nat.le_of_ble_eq_true rfl) (by decide) (by decide) rfl dX3_dropOldest_39 ?_
  refine z_aast (ws' := [(h0, .inr (3, [.ref ha, .int (zi n)])), (ha, ar κ 4 (zu (rf4 (some st1) (some st1) (some st2) (some st3)) 1 (some st2))), (st0, .inr (6, [.ref su0, .ref bk0])), (st1, .inr (6, [.ref su1, .ref bk1])), (st2, .inr (6, [.ref su2, .ref bk2])), (st3, .inr (6, [.ref su3, .ref bk3]))]) E 1 4 rfl rfl (Nat.le_of_ble_eq_true rfl) (by decide) (by decide) rfl dX3_dropOldest_40 ?_
  rw [rf4_1]
  refine z_iinc (lv' := [(2, .int (zi 3)), (1, .ref st0), (0, .ref h0)]) E 0 rfl dX3_dropOldest_41 (Nat.le_of_ble_eq_true rfl) rfl ?_
  refine z_goto (tgt := 18) E dX3_dropOldest_44 (by decide) ?_
  refine z_iload_n E 0 rfl rfl dX3_dropOldest_18 ?_
  refine z_aload_n E 2 rfl rfl dX3_dropOldest_19 ?_
  refine z_get E f_X3_11 0 rfl rfl dX3_dropOldest_20 ?_
  refine z_alen_ar E 1 rfl dX3_dropOldest_23 ?_
  refine z_ic_ge (tgt := 47) E (by omega) (by omega) dX3_dropOldest_24 (by decide) (fun h => absurd h (by decide)) (fun _ => ?_)
  refine z_aload_n E 2 rfl rfl dX3_dropOldest_27 ?_
  refine z_get E f_X3_11 0 rfl rfl dX3_dropOldest_28 ?_
  refine z_iload_n E 0 rfl rfl dX3_dropOldest_31 ?_
  refine z_iconst E dX3_dropOldest_32 ?_
  refine z_isub E dX3_dropOldest_33 ?_
  refine z_aload_n E 2 rfl rfl dX3_dropOldest_34 ?_
  refine z_get E f_X3_11 0 rfl rfl dX3_dropOldest_35 ?_
  refine z_iload_n E 0 rfl rfl dX3_dropOldest_38 ?_
  refine z_aald (v := st3) E 1 rfl (Nat.le_of_ble_eq_true rfl) (by decide) (by decide) rfl dX3_dropOldest_39 ?_
  refine z_aast (ws' := [(h0, .inr (3, [.ref ha, .int (zi n)])), (ha, ar κ 4 (zu (rf4 (some st1) (some st2) (some st2) (some st3)) 2 (some st3))), (st0, .inr (6, [.ref su0, .ref bk0])), (st1, .inr (6, [.ref su1, .ref bk1])), (st2, .inr (6, [.ref su2, .ref bk2])), (st3, .inr (6, [.ref su3, .ref bk3]))]) E 1 5 rfl rfl (Nat.le_of_ble_eq_true rfl) (by decide) (by decide) rfl dX3_dropOldest_40 ?_
  rw [rf4_2]
  refine z_iinc (lv' := [(2, .int (zi 4)), (1, .ref st0), (0, .ref h0)]) E 0 rfl dX3_dropOldest_41 (Nat.le_of_ble_eq_true rfl) rfl ?_
  refine z_goto (tgt := 18) E dX3_dropOldest_44 (by decide) ?_
  refine z_iload_n E 0 rfl rfl dX3_dropOldest_18 ?_
  refine z_aload_n E 2 rfl rfl dX3_dropOldest_19 ?_
  refine z_get E f_X3_11 0 rfl rfl dX3_dropOldest_20 ?_
  refine z_alen_ar E 1 rfl dX3_dropOldest_23 ?_
  refine z_ic_ge (tgt := 47) E (by omega) (by omega) dX3_dropOldest_24 (by decide) (fun _ => ?_) (fun h => absurd h (by decide))
  refine z_aload_n E 2 rfl rfl dX3_dropOldest_47 ?_
  refine z_get E f_X3_11 0 rfl rfl dX3_dropOldest_48 ?_
  refine z_aload_n E 2 rfl rfl dX3_dropOldest_51 ?_
  refine z_get E f_X3_11 0 rfl rfl dX3_dropOldest_52 ?_
  refine z_alen_ar E 1 rfl dX3_dropOldest_55 ?_
  refine z_iconst E dX3_dropOldest_56 ?_
  refine z_isub E dX3_dropOldest_57 ?_
  refine z_aload_n E 1 rfl rfl dX3_dropOldest_58 ?_
  refine z_aast (ws' := [(h0, .inr (3, [.ref ha, .int (zi n)])), (ha, ar κ 4 (zu (rf4 (some st1) (some st2) (some st3) (some st3)) 3 (some st0))), (st0, .inr (6, [.ref su0, .ref bk0])), (st1, .inr (6, [.ref su1, .ref bk1])), (st2, .inr (6, [.ref su2, .ref bk2])), (st3, .inr (6, [.ref su3, .ref bk3]))]) E 1 2 rfl rfl (Nat.le_of_ble_eq_true rfl) (by decide) (by decide) rfl dX3_dropOldest_59 ?_
  rw [rf4_3]
  refine z_aload_n E 2 rfl rfl dX3_dropOldest_60 ?_
  refine z_aload_n E 2 rfl rfl dX3_dropOldest_61 ?_
  refine z_get E f_X3_11 0 rfl rfl dX3_dropOldest_62 ?_
  refine z_alen_ar E 1 rfl dX3_dropOldest_65 ?_
  refine z_iconst E dX3_dropOldest_66 ?_
  refine z_isub E dX3_dropOldest_67 ?_
  refine z_put (ws' := [(h0, .inr (3, [.ref ha, .int (zi 3)])), (ha, ar κ 4 (rf4 (some st1) (some st2) (some st3) (some st0))), (st0, .inr (6, [.ref su0, .ref bk0])), (st1, .inr (6, [.ref su1, .ref bk1])), (st2, .inr (6, [.ref su2, .ref bk2])), (st3, .inr (6, [.ref su3, .ref bk3]))]) E f_X3_18 t_X3_1 0 rfl rfl rfl (Nat.le_of_ble_eq_true rfl) rfl dX3_dropOldest_68 ?_
  exact fin _ _ _ (by first | exact rfl | omega) dX3_dropOldest_71
abbrev rm_X3_keep0 : Room := { frames := 3, cells := 0, slots := 0, locals := 66 }
set_option maxRecDepth 100000 in
theorem c_X3_keep0 (l : Launch) (D : va_G) (κ : Nat → ClassId) (h0 : Nat) (ha : Nat) (st0 : Nat) (su0 : Nat) (bk0 : Nat) (bu0 : Nat) (bl0 : Nat) (p0 : Int) (d0 : Int) (q0 : Int) (n0 : Int) (u0 : Int → Int) (lo0 : Int → Int) (st1 : Nat) (su1 : Nat) (bk1 : Nat) (bu1 : Nat) (bl1 : Nat) (p1 : Int) (d1 : Int) (q1 : Int) (n1 : Int) (u1 : Int → Int) (lo1 : Int → Int) (st2 : Nat) (su2 : Nat) (bk2 : Nat) (bu2 : Nat) (bl2 : Nat) (p2 : Int) (d2 : Int) (q2 : Int) (n2 : Int) (u2 : Int → Int) (lo2 : Int → Int) (st3 : Nat) (su3 : Nat) (bk3 : Nat) (bu3 : Nat) (bl3 : Nat) (p3 : Int) (d3 : Int) (q3 : Int) (n3 : Int) (u3 : Int → Int) (lo3 : Int → Int) (st : Nat) (su : Nat) (bk : Nat) (bu : Nat) (bl : Nat) (p : Int) (d : Int) (q : Int) (n : Int) (u : Int → Int) (lo : Int → Int) (hn : 0 ≤ n ∧ n ≤ 8) : ZV l yX3_keep cX3_keep 2 rm_X3_keep0 D κ [.ref h0, .ref st] [(h0, .inr (3, [.ref ha, .int (zi 0)])), (ha, ar κ 4 (rf4 (some st0) (some st1) (some st2) (some st3))), (st0, .inr (6, [.ref su0, .ref bk0])), (su0, .inr (8, [.int (zi p0), .int (zi d0), .int (zi q0)])), (bk0, .inr (0, [.ref bu0, .ref bl0, .int (zi n0)])), (bu0, ai κ 8 u0), (bl0, ai κ 8 lo0), (st1, .inr (6, [.ref su1, .ref bk1])), (su1, .inr (8, [.int (zi p1), .int (zi d1), .int (zi q1)])), (bk1, .inr (0, [.ref bu1, .ref bl1, .int (zi n1)])), (bu1, ai κ 8 u1), (bl1, ai κ 8 lo1), (st2, .inr (6, [.ref su2, .ref bk2])), (su2, .inr (8, [.int (zi p2), .int (zi d2), .int (zi q2)])), (bk2, .inr (0, [.ref bu2, .ref bl2, .int (zi n2)])), (bu2, ai κ 8 u2), (bl2, ai κ 8 lo2), (st3, .inr (6, [.ref su3, .ref bk3])), (su3, .inr (8, [.int (zi p3), .int (zi d3), .int (zi q3)])), (bk3, .inr (0, [.ref bu3, .ref bl3, .int (zi n3)])), (bu3, ai κ 8 u3), (bl3, ai κ 8 lo3), (st, .inr (6, [.ref su, .ref bk])), (su, .inr (8, [.int (zi p), .int (zi d), .int (zi q)])), (bk, .inr (0, [.ref bu, .ref bl, .int (zi n)])), (bu, ai κ 8 u), (bl, ai κ 8 lo)] (fun w => ∃ u' : Int → Int, ∃ lo' : Int → Int, (∀ i : Int, 0 ≤ i → i < n → u' i = u i ∧ lo' i = lo i) ∧ [(h0, .inr (3, [.ref ha, .int (zi 1)])), (ha, ar κ 4 (rf4 (some st0) (some st1) (some st2) (some st3))), (st0, .inr (6, [.ref su0, .ref bk0])), (su0, .inr (8, [.int (zi p), .int (zi d), .int (zi q)])), (bk0, .inr (0, [.ref bu0, .ref bl0, .int (zi n)])), (bu0, ai κ 8 u'), (bl0, ai κ 8 lo'), (st1, .inr (6, [.ref su1, .ref bk1])), (su1, .inr (8, [.int (zi p1), .int (zi d1), .int (zi q1)])), (bk1, .inr (0, [.ref bu1, .ref bl1, .int (zi n1)])), (bu1, ai κ 8 u1), (bl1, ai κ 8 lo1), (st2, .inr (6, [.ref su2, .ref bk2])), (su2, .inr (8, [.int (zi p2), .int (zi d2), .int (zi q2)])), (bk2, .inr (0, [.ref bu2, .ref bl2, .int (zi n2)])), (bu2, ai κ 8 u2), (bl2, ai κ 8 lo2), (st3, .inr (6, [.ref su3, .ref bk3])), (su3, .inr (8, [.int (zi p3), .int (zi d3), .int (zi q3)])), (bk3, .inr (0, [.ref bu3, .ref bl3, .int (zi n3)])), (bu3, ai κ 8 u3), (bl3, ai κ 8 lo3), (st, .inr (6, [.ref su, .ref bk])), (su, .inr (8, [.int (zi p), .int (zi d), .int (zi q)])), (bk, .inr (0, [.ref bu, .ref bl, .int (zi n)])), (bu, ai κ 8 u), (bl, ai κ 8 lo)] = w) := by
  refine ZV.enter (own := RX3) rfl pn_X3_keep (Nat.le_of_ble_eq_true rfl) (fun X E fin => ?_)
  show Zg X [(h0, .inr (3, [.ref ha, .int (zi 0)])), (ha, ar κ 4 (rf4 (some st0) (some st1) (some st2) (some st3))), (st0, .inr (6, [.ref su0, .ref bk0])), (su0, .inr (8, [.int (zi p0), .int (zi d0), .int (zi q0)])), (bk0, .inr (0, [.ref bu0, .ref bl0, .int (zi n0)])), (bu0, ai κ 8 u0), (bl0, ai κ 8 lo0), (st1, .inr (6, [.ref su1, .ref bk1])), (su1, .inr (8, [.int (zi p1), .int (zi d1), .int (zi q1)])), (bk1, .inr (0, [.ref bu1, .ref bl1, .int (zi n1)])), (bu1, ai κ 8 u1), (bl1, ai κ 8 lo1), (st2, .inr (6, [.ref su2, .ref bk2])), (su2, .inr (8, [.int (zi p2), .int (zi d2), .int (zi q2)])), (bk2, .inr (0, [.ref bu2, .ref bl2, .int (zi n2)])), (bu2, ai κ 8 u2), (bl2, ai κ 8 lo2), (st3, .inr (6, [.ref su3, .ref bk3])), (su3, .inr (8, [.int (zi p3), .int (zi d3), .int (zi q3)])), (bk3, .inr (0, [.ref bu3, .ref bl3, .int (zi n3)])), (bu3, ai κ 8 u3), (bl3, ai κ 8 lo3), (st, .inr (6, [.ref su, .ref bk])), (su, .inr (8, [.int (zi p), .int (zi d), .int (zi q)])), (bk, .inr (0, [.ref bu, .ref bl, .int (zi n)])), (bu, ai κ 8 u), (bl, ai κ 8 lo)] 0 0 0 [(0, .ref h0), (1, .ref st)] []
  refine z_aload_n E 0 rfl rfl dX3_keep_0 ?_
  refine z_get E f_X3_18 0 rfl rfl dX3_keep_1 ?_
  refine z_aload_n E 0 rfl rfl dX3_keep_4 ?_
  refine z_get E f_X3_11 0 rfl rfl dX3_keep_5 ?_
  refine z_alen_ar E 1 rfl dX3_keep_8 ?_
  refine z_ic_lt (tgt := 16) E (by omega) (by omega) dX3_keep_9 (by decide) (fun _ => ?_) (fun h => absurd h (by decide))
  refine z_aload_n E 0 rfl rfl dX3_keep_16 ?_
  refine z_get E f_X3_18 0 rfl rfl dX3_keep_17 ?_
  refine z_if_lt (tgt := 70) E (by omega) dX3_keep_20 (by decide) (fun h => absurd h (by decide)) (fun _ => ?_)
  refine z_aload_n E 0 rfl rfl dX3_keep_23 ?_
  refine z_get E f_X3_18 0 rfl rfl dX3_keep_24 ?_
  refine z_aload_n E 0 rfl rfl dX3_keep_27 ?_
  refine z_get E f_X3_11 0 rfl rfl dX3_keep_28 ?_
  refine z_alen_ar E 1 rfl dX3_keep_31 ?_
  refine z_ic_ge (tgt := 70) E (by omega) (by omega) dX3_keep_32 (by decide) (fun h => absurd h (by decide)) (fun _ => ?_)
  refine z_aload_n E 0 rfl rfl dX3_keep_35 ?_
  refine z_get E f_X3_11 0 rfl rfl dX3_keep_36 ?_
  refine z_aload_n E 0 rfl rfl dX3_keep_39 ?_
  refine z_get E f_X3_18 0 rfl rfl dX3_keep_40 ?_
  refine z_aald (v := st0) E 1 rfl (Nat.le_of_ble_eq_true rfl) (by decide) (by decide) rfl dX3_keep_43 ?_
  refine z_ifnull E dX3_keep_44 ?_
  refine z_aload_n E 0 rfl rfl dX3_keep_47 ?_
  refine z_get E f_X3_11 0 rfl rfl dX3_keep_48 ?_
  refine z_aload_n E 0 rfl rfl dX3_keep_51 ?_
  refine z_get E f_X3_18 0 rfl rfl dX3_keep_52 ?_
  refine z_aald (v := st0) E 1 rfl (Nat.le_of_ble_eq_true rfl) (by decide) (by decide) rfl dX3_keep_55 ?_
  refine z_aload_n E 1 rfl rfl dX3_keep_56 ?_
  refine z_callVv (As := [.ref st]) (rest := []) (wr := [(h0, .inr (3, [.ref ha, .int (zi 0)])), (ha, ar κ 4 (rf4 (some st0) (some st1) (some st2) (some st3))), (st1, .inr (6, [.ref su1, .ref bk1])), (su1, .inr (8, [.int (zi p1), .int (zi d1), .int (zi q1)])), (bk1, .inr (0, [.ref bu1, .ref bl1, .int (zi n1)])), (bu1, ai κ 8 u1), (bl1, ai κ 8 lo1), (st2, .inr (6, [.ref su2, .ref bk2])), (su2, .inr (8, [.int (zi p2), .int (zi d2), .int (zi q2)])), (bk2, .inr (0, [.ref bu2, .ref bl2, .int (zi n2)])), (bu2, ai κ 8 u2), (bl2, ai κ 8 lo2), (st3, .inr (6, [.ref su3, .ref bk3])), (su3, .inr (8, [.int (zi p3), .int (zi d3), .int (zi q3)])), (bk3, .inr (0, [.ref bu3, .ref bl3, .int (zi n3)])), (bu3, ai κ 8 u3), (bl3, ai κ 8 lo3)]) E (c_X6_copyFrom l D κ st0 su0 bk0 bu0 bl0 p0 d0 q0 n0 u0 lo0 st su bk bu bl p d q n u lo (by omega)) m_X3_25 ⟨Nat.le_of_ble_eq_true rfl, Nat.le_of_ble_eq_true rfl⟩ ⟨rfl, rfl⟩ [2, 3, 4, 5, 6, 22, 23, 24, 25, 26] [0, 1, 7, 8, 9, 10, 11, 12, 13, 14, 15, 16, 17, 18, 19, 20, 21] rfl rfl rfl rfl (by decide) rfl rfl rfl rfl (Nat.le_of_ble_eq_true rfl) dX3_keep_57 ⟨Nat.le_of_ble_eq_true rfl, Nat.le_of_ble_eq_true rfl⟩ (fun  w1 hq => ?_)
  obtain ⟨u'_1, lo'_2, hj_57, rfl⟩ := hq
  refine z_aload_n E 0 rfl rfl dX3_keep_60 ?_
  refine z_dup E rfl dX3_keep_61 ?_
  refine z_get E f_X3_18 0 rfl rfl dX3_keep_62 ?_
  refine z_iconst E dX3_keep_65 ?_
  refine z_iadd E dX3_keep_66 ?_
  refine z_put (ws' := [(h0, .inr (3, [.ref ha, .int (zi 1)])), (ha, ar κ 4 (rf4 (some st0) (some st1) (some st2) (some st3))), (st1, .inr (6, [.ref su1, .ref bk1])), (su1, .inr (8, [.int (zi p1), .int (zi d1), .int (zi q1)])), (bk1, .inr (0, [.ref bu1, .ref bl1, .int (zi n1)])), (bu1, ai κ 8 u1), (bl1, ai κ 8 lo1), (st2, .inr (6, [.ref su2, .ref bk2])), (su2, .inr (8, [.int (zi p2), .int (zi d2), .int (zi q2)])), (bk2, .inr (0, [.ref bu2, .ref bl2, .int (zi n2)])), (bu2, ai κ 8 u2), (bl2, ai κ 8 lo2), (st3, .inr (6, [.ref su3, .ref bk3])), (su3, .inr (8, [.int (zi p3), .int (zi d3), .int (zi q3)])), (bk3, .inr (0, [.ref bu3, .ref bl3, .int (zi n3)])), (bu3, ai κ 8 u3), (bl3, ai κ 8 lo3), (st0, .inr (6, [.ref su0, .ref bk0])), (su0, .inr (8, [.int (zi p), .int (zi d), .int (zi q)])), (bk0, .inr (0, [.ref bu0, .ref bl0, .int (zi n)])), (bu0, ai κ 8 u'_1), (bl0, ai κ 8 lo'_2), (st, .inr (6, [.ref su, .ref bk])), (su, .inr (8, [.int (zi p), .int (zi d), .int (zi q)])), (bk, .inr (0, [.ref bu, .ref bl, .int (zi n)])), (bu, ai κ 8 u), (bl, ai κ 8 lo)]) E f_X3_18 t_X3_1 0 rfl rfl rfl (Nat.le_of_ble_eq_true rfl) rfl dX3_keep_67 ?_
  refine Zg.perm (ws' := [(h0, .inr (3, [.ref ha, .int (zi 1)])), (ha, ar κ 4 (rf4 (some st0) (some st1) (some st2) (some st3))), (st0, .inr (6, [.ref su0, .ref bk0])), (su0, .inr (8, [.int (zi p), .int (zi d), .int (zi q)])), (bk0, .inr (0, [.ref bu0, .ref bl0, .int (zi n)])), (bu0, ai κ 8 u'_1), (bl0, ai κ 8 lo'_2), (st1, .inr (6, [.ref su1, .ref bk1])), (su1, .inr (8, [.int (zi p1), .int (zi d1), .int (zi q1)])), (bk1, .inr (0, [.ref bu1, .ref bl1, .int (zi n1)])), (bu1, ai κ 8 u1), (bl1, ai κ 8 lo1), (st2, .inr (6, [.ref su2, .ref bk2])), (su2, .inr (8, [.int (zi p2), .int (zi d2), .int (zi q2)])), (bk2, .inr (0, [.ref bu2, .ref bl2, .int (zi n2)])), (bu2, ai κ 8 u2), (bl2, ai κ 8 lo2), (st3, .inr (6, [.ref su3, .ref bk3])), (su3, .inr (8, [.int (zi p3), .int (zi d3), .int (zi q3)])), (bk3, .inr (0, [.ref bu3, .ref bl3, .int (zi n3)])), (bu3, ai κ 8 u3), (bl3, ai κ 8 lo3), (st, .inr (6, [.ref su, .ref bk])), (su, .inr (8, [.int (zi p), .int (zi d), .int (zi q)])), (bk, .inr (0, [.ref bu, .ref bl, .int (zi n)])), (bu, ai κ 8 u), (bl, ai κ 8 lo)]) [0, 1, 17, 18, 19, 20, 21, 2, 3, 4, 5, 6, 7, 8, 9, 10, 11, 12, 13, 14, 15, 16, 22, 23, 24, 25, 26] rfl rfl ?_
  exact fin _ _ _ (⟨_, _, hj_57, rfl⟩) dX3_keep_70
abbrev rm_X3_keep1 : Room := { frames := 3, cells := 0, slots := 0, locals := 66 }
set_option maxRecDepth 100000 in
theorem c_X3_keep1 (l : Launch) (D : va_G) (κ : Nat → ClassId) (h0 : Nat) (ha : Nat) (st0 : Nat) (su0 : Nat) (bk0 : Nat) (bu0 : Nat) (bl0 : Nat) (p0 : Int) (d0 : Int) (q0 : Int) (n0 : Int) (u0 : Int → Int) (lo0 : Int → Int) (st1 : Nat) (su1 : Nat) (bk1 : Nat) (bu1 : Nat) (bl1 : Nat) (p1 : Int) (d1 : Int) (q1 : Int) (n1 : Int) (u1 : Int → Int) (lo1 : Int → Int) (st2 : Nat) (su2 : Nat) (bk2 : Nat) (bu2 : Nat) (bl2 : Nat) (p2 : Int) (d2 : Int) (q2 : Int) (n2 : Int) (u2 : Int → Int) (lo2 : Int → Int) (st3 : Nat) (su3 : Nat) (bk3 : Nat) (bu3 : Nat) (bl3 : Nat) (p3 : Int) (d3 : Int) (q3 : Int) (n3 : Int) (u3 : Int → Int) (lo3 : Int → Int) (st : Nat) (su : Nat) (bk : Nat) (bu : Nat) (bl : Nat) (p : Int) (d : Int) (q : Int) (n : Int) (u : Int → Int) (lo : Int → Int) (hn : 0 ≤ n ∧ n ≤ 8) : ZV l yX3_keep cX3_keep 2 rm_X3_keep1 D κ [.ref h0, .ref st] [(h0, .inr (3, [.ref ha, .int (zi 1)])), (ha, ar κ 4 (rf4 (some st0) (some st1) (some st2) (some st3))), (st0, .inr (6, [.ref su0, .ref bk0])), (su0, .inr (8, [.int (zi p0), .int (zi d0), .int (zi q0)])), (bk0, .inr (0, [.ref bu0, .ref bl0, .int (zi n0)])), (bu0, ai κ 8 u0), (bl0, ai κ 8 lo0), (st1, .inr (6, [.ref su1, .ref bk1])), (su1, .inr (8, [.int (zi p1), .int (zi d1), .int (zi q1)])), (bk1, .inr (0, [.ref bu1, .ref bl1, .int (zi n1)])), (bu1, ai κ 8 u1), (bl1, ai κ 8 lo1), (st2, .inr (6, [.ref su2, .ref bk2])), (su2, .inr (8, [.int (zi p2), .int (zi d2), .int (zi q2)])), (bk2, .inr (0, [.ref bu2, .ref bl2, .int (zi n2)])), (bu2, ai κ 8 u2), (bl2, ai κ 8 lo2), (st3, .inr (6, [.ref su3, .ref bk3])), (su3, .inr (8, [.int (zi p3), .int (zi d3), .int (zi q3)])), (bk3, .inr (0, [.ref bu3, .ref bl3, .int (zi n3)])), (bu3, ai κ 8 u3), (bl3, ai κ 8 lo3), (st, .inr (6, [.ref su, .ref bk])), (su, .inr (8, [.int (zi p), .int (zi d), .int (zi q)])), (bk, .inr (0, [.ref bu, .ref bl, .int (zi n)])), (bu, ai κ 8 u), (bl, ai κ 8 lo)] (fun w => ∃ u' : Int → Int, ∃ lo' : Int → Int, (∀ i : Int, 0 ≤ i → i < n → u' i = u i ∧ lo' i = lo i) ∧ [(h0, .inr (3, [.ref ha, .int (zi 2)])), (ha, ar κ 4 (rf4 (some st0) (some st1) (some st2) (some st3))), (st0, .inr (6, [.ref su0, .ref bk0])), (su0, .inr (8, [.int (zi p0), .int (zi d0), .int (zi q0)])), (bk0, .inr (0, [.ref bu0, .ref bl0, .int (zi n0)])), (bu0, ai κ 8 u0), (bl0, ai κ 8 lo0), (st1, .inr (6, [.ref su1, .ref bk1])), (su1, .inr (8, [.int (zi p), .int (zi d), .int (zi q)])), (bk1, .inr (0, [.ref bu1, .ref bl1, .int (zi n)])), (bu1, ai κ 8 u'), (bl1, ai κ 8 lo'), (st2, .inr (6, [.ref su2, .ref bk2])), (su2, .inr (8, [.int (zi p2), .int (zi d2), .int (zi q2)])), (bk2, .inr (0, [.ref bu2, .ref bl2, .int (zi n2)])), (bu2, ai κ 8 u2), (bl2, ai κ 8 lo2), (st3, .inr (6, [.ref su3, .ref bk3])), (su3, .inr (8, [.int (zi p3), .int (zi d3), .int (zi q3)])), (bk3, .inr (0, [.ref bu3, .ref bl3, .int (zi n3)])), (bu3, ai κ 8 u3), (bl3, ai κ 8 lo3), (st, .inr (6, [.ref su, .ref bk])), (su, .inr (8, [.int (zi p), .int (zi d), .int (zi q)])), (bk, .inr (0, [.ref bu, .ref bl, .int (zi n)])), (bu, ai κ 8 u), (bl, ai κ 8 lo)] = w) := by
  refine ZV.enter (own := RX3) rfl pn_X3_keep (Nat.le_of_ble_eq_true rfl) (fun X E fin => ?_)
  show Zg X [(h0, .inr (3, [.ref ha, .int (zi 1)])), (ha, ar κ 4 (rf4 (some st0) (some st1) (some st2) (some st3))), (st0, .inr (6, [.ref su0, .ref bk0])), (su0, .inr (8, [.int (zi p0), .int (zi d0), .int (zi q0)])), (bk0, .inr (0, [.ref bu0, .ref bl0, .int (zi n0)])), (bu0, ai κ 8 u0), (bl0, ai κ 8 lo0), (st1, .inr (6, [.ref su1, .ref bk1])), (su1, .inr (8, [.int (zi p1), .int (zi d1), .int (zi q1)])), (bk1, .inr (0, [.ref bu1, .ref bl1, .int (zi n1)])), (bu1, ai κ 8 u1), (bl1, ai κ 8 lo1), (st2, .inr (6, [.ref su2, .ref bk2])), (su2, .inr (8, [.int (zi p2), .int (zi d2), .int (zi q2)])), (bk2, .inr (0, [.ref bu2, .ref bl2, .int (zi n2)])), (bu2, ai κ 8 u2), (bl2, ai κ 8 lo2), (st3, .inr (6, [.ref su3, .ref bk3])), (su3, .inr (8, [.int (zi p3), .int (zi d3), .int (zi q3)])), (bk3, .inr (0, [.ref bu3, .ref bl3, .int (zi n3)])), (bu3, ai κ 8 u3), (bl3, ai κ 8 lo3), (st, .inr (6, [.ref su, .ref bk])), (su, .inr (8, [.int (zi p), .int (zi d), .int (zi q)])), (bk, .inr (0, [.ref bu, .ref bl, .int (zi n)])), (bu, ai κ 8 u), (bl, ai κ 8 lo)] 0 0 0 [(0, .ref h0), (1, .ref st)] []
  refine z_aload_n E 0 rfl rfl dX3_keep_0 ?_
  refine z_get E f_X3_18 0 rfl rfl dX3_keep_1 ?_
  refine z_aload_n E 0 rfl rfl dX3_keep_4 ?_
  refine z_get E f_X3_11 0 rfl rfl dX3_keep_5 ?_
  refine z_alen_ar E 1 rfl dX3_keep_8 ?_
  refine z_ic_lt (tgt := 16) E (by omega) (by omega) dX3_keep_9 (by decide) (fun _ => ?_) (fun h => absurd h (by decide))
  refine z_aload_n E 0 rfl rfl dX3_keep_16 ?_
  refine z_get E f_X3_18 0 rfl rfl dX3_keep_17 ?_
  refine z_if_lt (tgt := 70) E (by omega) dX3_keep_20 (by decide) (fun h => absurd h (by decide)) (fun _ => ?_)
  refine z_aload_n E 0 rfl rfl dX3_keep_23 ?_
  refine z_get E f_X3_18 0 rfl rfl dX3_keep_24 ?_
  refine z_aload_n E 0 rfl rfl dX3_keep_27 ?_
  refine z_get E f_X3_11 0 rfl rfl dX3_keep_28 ?_
  refine z_alen_ar E 1 rfl dX3_keep_31 ?_
  refine z_ic_ge (tgt := 70) E (by omega) (by omega) dX3_keep_32 (by decide) (fun h => absurd h (by decide)) (fun _ => ?_)
  refine z_aload_n E 0 rfl rfl dX3_keep_35 ?_
  refine z_get E f_X3_11 0 rfl rfl dX3_keep_36 ?_
  refine z_aload_n E 0 rfl rfl dX3_keep_39 ?_
  refine z_get E f_X3_18 0 rfl rfl dX3_keep_40 ?_
  refine z_aald (v := st1) E 1 rfl (Nat.le_of_ble_eq_true rfl) (by decide) (by decide) rfl dX3_keep_43 ?_
  refine z_ifnull E dX3_keep_44 ?_
  refine z_aload_n E 0 rfl rfl dX3_keep_47 ?_
  refine z_get E f_X3_11 0 rfl rfl dX3_keep_48 ?_
  refine z_aload_n E 0 rfl rfl dX3_keep_51 ?_
  refine z_get E f_X3_18 0 rfl rfl dX3_keep_52 ?_
  refine z_aald (v := st1) E 1 rfl (Nat.le_of_ble_eq_true rfl) (by decide) (by decide) rfl dX3_keep_55 ?_
  refine z_aload_n E 1 rfl rfl dX3_keep_56 ?_
  refine z_callVv (As := [.ref st]) (rest := []) (wr := [(h0, .inr (3, [.ref ha, .int (zi 1)])), (ha, ar κ 4 (rf4 (some st0) (some st1) (some st2) (some st3))), (st0, .inr (6, [.ref su0, .ref bk0])), (su0, .inr (8, [.int (zi p0), .int (zi d0), .int (zi q0)])), (bk0, .inr (0, [.ref bu0, .ref bl0, .int (zi n0)])), (bu0, ai κ 8 u0), (bl0, ai κ 8 lo0), (st2, .inr (6, [.ref su2, .ref bk2])), (su2, .inr (8, [.int (zi p2), .int (zi d2), .int (zi q2)])), (bk2, .inr (0, [.ref bu2, .ref bl2, .int (zi n2)])), (bu2, ai κ 8 u2), (bl2, ai κ 8 lo2), (st3, .inr (6, [.ref su3, .ref bk3])), (su3, .inr (8, [.int (zi p3), .int (zi d3), .int (zi q3)])), (bk3, .inr (0, [.ref bu3, .ref bl3, .int (zi n3)])), (bu3, ai κ 8 u3), (bl3, ai κ 8 lo3)]) E (c_X6_copyFrom l D κ st1 su1 bk1 bu1 bl1 p1 d1 q1 n1 u1 lo1 st su bk bu bl p d q n u lo (by omega)) m_X3_25 ⟨Nat.le_of_ble_eq_true rfl, Nat.le_of_ble_eq_true rfl⟩ ⟨rfl, rfl⟩ [7, 8, 9, 10, 11, 22, 23, 24, 25, 26] [0, 1, 2, 3, 4, 5, 6, 12, 13, 14, 15, 16, 17, 18, 19, 20, 21] rfl rfl rfl rfl (by decide) rfl rfl rfl rfl (Nat.le_of_ble_eq_true rfl) dX3_keep_57 ⟨Nat.le_of_ble_eq_true rfl, Nat.le_of_ble_eq_true rfl⟩ (fun  w1 hq => ?_)
  obtain ⟨u'_1, lo'_2, hj_57, rfl⟩ := hq
  refine z_aload_n E 0 rfl rfl dX3_keep_60 ?_
  refine z_dup E rfl dX3_keep_61 ?_
  refine z_get E f_X3_18 0 rfl rfl dX3_keep_62 ?_
  refine z_iconst E dX3_keep_65 ?_
  refine z_iadd E dX3_keep_66 ?_
  refine z_put (ws' := [(h0, .inr (3, [.ref ha, .int (zi 2)])), (ha, ar κ 4 (rf4 (some st0) (some st1) (some st2) (some st3))), (st0, .inr (6, [.ref su0, .ref bk0])), (su0, .inr (8, [.int (zi p0), .int (zi d0), .int (zi q0)])), (bk0, .inr (0, [.ref bu0, .ref bl0, .int (zi n0)])), (bu0, ai κ 8 u0), (bl0, ai κ 8 lo0), (st2, .inr (6, [.ref su2, .ref bk2])), (su2, .inr (8, [.int (zi p2), .int (zi d2), .int (zi q2)])), (bk2, .inr (0, [.ref bu2, .ref bl2, .int (zi n2)])), (bu2, ai κ 8 u2), (bl2, ai κ 8 lo2), (st3, .inr (6, [.ref su3, .ref bk3])), (su3, .inr (8, [.int (zi p3), .int (zi d3), .int (zi q3)])), (bk3, .inr (0, [.ref bu3, .ref bl3, .int (zi n3)])), (bu3, ai κ 8 u3), (bl3, ai κ 8 lo3), (st1, .inr (6, [.ref su1, .ref bk1])), (su1, .inr (8, [.int (zi p), .int (zi d), .int (zi q)])), (bk1, .inr (0, [.ref bu1, .ref bl1, .int (zi n)])), (bu1, ai κ 8 u'_1), (bl1, ai κ 8 lo'_2), (st, .inr (6, [.ref su, .ref bk])), (su, .inr (8, [.int (zi p), .int (zi d), .int (zi q)])), (bk, .inr (0, [.ref bu, .ref bl, .int (zi n)])), (bu, ai κ 8 u), (bl, ai κ 8 lo)]) E f_X3_18 t_X3_1 0 rfl rfl rfl (Nat.le_of_ble_eq_true rfl) rfl dX3_keep_67 ?_
  refine Zg.perm (ws' := [(h0, .inr (3, [.ref ha, .int (zi 2)])), (ha, ar κ 4 (rf4 (some st0) (some st1) (some st2) (some st3))), (st0, .inr (6, [.ref su0, .ref bk0])), (su0, .inr (8, [.int (zi p0), .int (zi d0), .int (zi q0)])), (bk0, .inr (0, [.ref bu0, .ref bl0, .int (zi n0)])), (bu0, ai κ 8 u0), (bl0, ai κ 8 lo0), (st1, .inr (6, [.ref su1, .ref bk1])), (su1, .inr (8, [.int (zi p), .int (zi d), .int (zi q)])), (bk1, .inr (0, [.ref bu1, .ref bl1, .int (zi n)])), (bu1, ai κ 8 u'_1), (bl1, ai κ 8 lo'_2), (st2, .inr (6, [.ref su2, .ref bk2])), (su2, .inr (8, [.int (zi p2), .int (zi d2), .int (zi q2)])), (bk2, .inr (0, [.ref bu2, .ref bl2, .int (zi n2)])), (bu2, ai κ 8 u2), (bl2, ai κ 8 lo2), (st3, .inr (6, [.ref su3, .ref bk3])), (su3, .inr (8, [.int (zi p3), .int (zi d3), .int (zi q3)])), (bk3, .inr (0, [.ref bu3, .ref bl3, .int (zi n3)])), (bu3, ai κ 8 u3), (bl3, ai κ 8 lo3), (st, .inr (6, [.ref su, .ref bk])), (su, .inr (8, [.int (zi p), .int (zi d), .int (zi q)])), (bk, .inr (0, [.ref bu, .ref bl, .int (zi n)])), (bu, ai κ 8 u), (bl, ai κ 8 lo)]) [0, 1, 2, 3, 4, 5, 6, 17, 18, 19, 20, 21, 7, 8, 9, 10, 11, 12, 13, 14, 15, 16, 22, 23, 24, 25, 26] rfl rfl ?_
  exact fin _ _ _ (⟨_, _, hj_57, rfl⟩) dX3_keep_70
abbrev rm_X3_keep2 : Room := { frames := 3, cells := 0, slots := 0, locals := 66 }
set_option maxRecDepth 100000 in
theorem c_X3_keep2 (l : Launch) (D : va_G) (κ : Nat → ClassId) (h0 : Nat) (ha : Nat) (st0 : Nat) (su0 : Nat) (bk0 : Nat) (bu0 : Nat) (bl0 : Nat) (p0 : Int) (d0 : Int) (q0 : Int) (n0 : Int) (u0 : Int → Int) (lo0 : Int → Int) (st1 : Nat) (su1 : Nat) (bk1 : Nat) (bu1 : Nat) (bl1 : Nat) (p1 : Int) (d1 : Int) (q1 : Int) (n1 : Int) (u1 : Int → Int) (lo1 : Int → Int) (st2 : Nat) (su2 : Nat) (bk2 : Nat) (bu2 : Nat) (bl2 : Nat) (p2 : Int) (d2 : Int) (q2 : Int) (n2 : Int) (u2 : Int → Int) (lo2 : Int → Int) (st3 : Nat) (su3 : Nat) (bk3 : Nat) (bu3 : Nat) (bl3 : Nat) (p3 : Int) (d3 : Int) (q3 : Int) (n3 : Int) (u3 : Int → Int) (lo3 : Int → Int) (st : Nat) (su : Nat) (bk : Nat) (bu : Nat) (bl : Nat) (p : Int) (d : Int) (q : Int) (n : Int) (u : Int → Int) (lo : Int → Int) (hn : 0 ≤ n ∧ n ≤ 8) : ZV l yX3_keep cX3_keep 2 rm_X3_keep2 D κ [.ref h0, .ref st] [(h0, .inr (3, [.ref ha, .int (zi 2)])), (ha, ar κ 4 (rf4 (some st0) (some st1) (some st2) (some st3))), (st0, .inr (6, [.ref su0, .ref bk0])), (su0, .inr (8, [.int (zi p0), .int (zi d0), .int (zi q0)])), (bk0, .inr (0, [.ref bu0, .ref bl0, .int (zi n0)])), (bu0, ai κ 8 u0), (bl0, ai κ 8 lo0), (st1, .inr (6, [.ref su1, .ref bk1])), (su1, .inr (8, [.int (zi p1), .int (zi d1), .int (zi q1)])), (bk1, .inr (0, [.ref bu1, .ref bl1, .int (zi n1)])), (bu1, ai κ 8 u1), (bl1, ai κ 8 lo1), (st2, .inr (6, [.ref su2, .ref bk2])), (su2, .inr (8, [.int (zi p2), .int (zi d2), .int (zi q2)])), (bk2, .inr (0, [.ref bu2, .ref bl2, .int (zi n2)])), (bu2, ai κ 8 u2), (bl2, ai κ 8 lo2), (st3, .inr (6, [.ref su3, .ref bk3])), (su3, .inr (8, [.int (zi p3), .int (zi d3), .int (zi q3)])), (bk3, .inr (0, [.ref bu3, .ref bl3, .int (zi n3)])), (bu3, ai κ 8 u3), (bl3, ai κ 8 lo3), (st, .inr (6, [.ref su, .ref bk])), (su, .inr (8, [.int (zi p), .int (zi d), .int (zi q)])), (bk, .inr (0, [.ref bu, .ref bl, .int (zi n)])), (bu, ai κ 8 u), (bl, ai κ 8 lo)] (fun w => ∃ u' : Int → Int, ∃ lo' : Int → Int, (∀ i : Int, 0 ≤ i → i < n → u' i = u i ∧ lo' i = lo i) ∧ [(h0, .inr (3, [.ref ha, .int (zi 3)])), (ha, ar κ 4 (rf4 (some st0) (some st1) (some st2) (some st3))), (st0, .inr (6, [.ref su0, .ref bk0])), (su0, .inr (8, [.int (zi p0), .int (zi d0), .int (zi q0)])), (bk0, .inr (0, [.ref bu0, .ref bl0, .int (zi n0)])), (bu0, ai κ 8 u0), (bl0, ai κ 8 lo0), (st1, .inr (6, [.ref su1, .ref bk1])), (su1, .inr (8, [.int (zi p1), .int (zi d1), .int (zi q1)])), (bk1, .inr (0, [.ref bu1, .ref bl1, .int (zi n1)])), (bu1, ai κ 8 u1), (bl1, ai κ 8 lo1), (st2, .inr (6, [.ref su2, .ref bk2])), (su2, .inr (8, [.int (zi p), .int (zi d), .int (zi q)])), (bk2, .inr (0, [.ref bu2, .ref bl2, .int (zi n)])), (bu2, ai κ 8 u'), (bl2, ai κ 8 lo'), (st3, .inr (6, [.ref su3, .ref bk3])), (su3, .inr (8, [.int (zi p3), .int (zi d3), .int (zi q3)])), (bk3, .inr (0, [.ref bu3, .ref bl3, .int (zi n3)])), (bu3, ai κ 8 u3), (bl3, ai κ 8 lo3), (st, .inr (6, [.ref su, .ref bk])), (su, .inr (8, [.int (zi p), .int (zi d), .int (zi q)])), (bk, .inr (0, [.ref bu, .ref bl, .int (zi n)])), (bu, ai κ 8 u), (bl, ai κ 8 lo)] = w) := by
  refine ZV.enter (own := RX3) rfl pn_X3_keep (Nat.le_of_ble_eq_true rfl) (fun X E fin => ?_)
  show Zg X [(h0, .inr (3, [.ref ha, .int (zi 2)])), (ha, ar κ 4 (rf4 (some st0) (some st1) (some st2) (some st3))), (st0, .inr (6, [.ref su0, .ref bk0])), (su0, .inr (8, [.int (zi p0), .int (zi d0), .int (zi q0)])), (bk0, .inr (0, [.ref bu0, .ref bl0, .int (zi n0)])), (bu0, ai κ 8 u0), (bl0, ai κ 8 lo0), (st1, .inr (6, [.ref su1, .ref bk1])), (su1, .inr (8, [.int (zi p1), .int (zi d1), .int (zi q1)])), (bk1, .inr (0, [.ref bu1, .ref bl1, .int (zi n1)])), (bu1, ai κ 8 u1), (bl1, ai κ 8 lo1), (st2, .inr (6, [.ref su2, .ref bk2])), (su2, .inr (8, [.int (zi p2), .int (zi d2), .int (zi q2)])), (bk2, .inr (0, [.ref bu2, .ref bl2, .int (zi n2)])), (bu2, ai κ 8 u2), (bl2, ai κ 8 lo2), (st3, .inr (6, [.ref su3, .ref bk3])), (su3, .inr (8, [.int (zi p3), .int (zi d3), .int (zi q3)])), (bk3, .inr (0, [.ref bu3, .ref bl3, .int (zi n3)])), (bu3, ai κ 8 u3), (bl3, ai κ 8 lo3), (st, .inr (6, [.ref su, .ref bk])), (su, .inr (8, [.int (zi p), .int (zi d), .int (zi q)])), (bk, .inr (0, [.ref bu, .ref bl, .int (zi n)])), (bu, ai κ 8 u), (bl, ai κ 8 lo)] 0 0 0 [(0, .ref h0), (1, .ref st)] []
  refine z_aload_n E 0 rfl rfl dX3_keep_0 ?_
  refine z_get E f_X3_18 0 rfl rfl dX3_keep_1 ?_
  refine z_aload_n E 0 rfl rfl dX3_keep_4 ?_
  refine z_get E f_X3_11 0 rfl rfl dX3_keep_5 ?_
  refine z_alen_ar E 1 rfl dX3_keep_8 ?_
  refine z_ic_lt (tgt := 16) E (by omega) (by omega) dX3_keep_9 (by decide) (fun _ => ?_) (fun h => absurd h (by decide))
  refine z_aload_n E 0 rfl rfl dX3_keep_16 ?_
  refine z_get E f_X3_18 0 rfl rfl dX3_keep_17 ?_
  refine z_if_lt (tgt := 70) E (by omega) dX3_keep_20 (by decide) (fun h => absurd h (by decide)) (fun _ => ?_)
  refine z_aload_n E 0 rfl rfl dX3_keep_23 ?_
  refine z_get E f_X3_18 0 rfl rfl dX3_keep_24 ?_
  refine z_aload_n E 0 rfl rfl dX3_keep_27 ?_
  refine z_get E f_X3_11 0 rfl rfl dX3_keep_28 ?_
  refine z_alen_ar E 1 rfl dX3_keep_31 ?_
  refine z_ic_ge (tgt := 70) E (by omega) (by omega) dX3_keep_32 (by decide) (fun h => absurd h (by decide)) (fun _ => ?_)
  refine z_aload_n E 0 rfl rfl dX3_keep_35 ?_
  refine z_get E f_X3_11 0 rfl rfl dX3_keep_36 ?_
  refine z_aload_n E 0 rfl rfl dX3_keep_39 ?_
  refine z_get E f_X3_18 0 rfl rfl dX3_keep_40 ?_
  refine z_aald (v := st2) E 1 rfl (Nat.le_of_ble_eq_true rfl) (by decide) (by decide) rfl dX3_keep_43 ?_
  refine z_ifnull E dX3_keep_44 ?_
  refine z_aload_n E 0 rfl rfl dX3_keep_47 ?_
  refine z_get E f_X3_11 0 rfl rfl dX3_keep_48 ?_
  refine z_aload_n E 0 rfl rfl dX3_keep_51 ?_
  refine z_get E f_X3_18 0 rfl rfl dX3_keep_52 ?_
  refine z_aald (v := st2) E 1 rfl (Nat.le_of_ble_eq_true rfl) (by decide) (by decide) rfl dX3_keep_55 ?_
  refine z_aload_n E 1 rfl rfl dX3_keep_56 ?_
  refine z_callVv (As := [.ref st]) (rest := []) (wr := [(h0, .inr (3, [.ref ha, .int (zi 2)])), (ha, ar κ 4 (rf4 (some st0) (some st1) (some st2) (some st3))), (st0, .inr (6, [.ref su0, .ref bk0])), (su0, .inr (8, [.int (zi p0), .int (zi d0), .int (zi q0)])), (bk0, .inr (0, [.ref bu0, .ref bl0, .int (zi n0)])), (bu0, ai κ 8 u0), (bl0, ai κ 8 lo0), (st1, .inr (6, [.ref su1, .ref bk1])), (su1, .inr (8, [.int (zi p1), .int (zi d1), .int (zi q1)])), (bk1, .inr (0, [.ref bu1, .ref bl1, .int (zi n1)])), (bu1, ai κ 8 u1), (bl1, ai κ 8 lo1), (st3, .inr (6, [.ref su3, .ref bk3])), (su3, .inr (8, [.int (zi p3), .int (zi d3), .int (zi q3)])), (bk3, .inr (0, [.ref bu3, .ref bl3, .int (zi n3)])), (bu3, ai κ 8 u3), (bl3, ai κ 8 lo3)]) E (c_X6_copyFrom l D κ st2 su2 bk2 bu2 bl2 p2 d2 q2 n2 u2 lo2 st su bk bu bl p d q n u lo (by omega)) m_X3_25 ⟨Nat.le_of_ble_eq_true rfl, Nat.le_of_ble_eq_true rfl⟩ ⟨rfl, rfl⟩ [12, 13, 14, 15, 16, 22, 23, 24, 25, 26] [0, 1, 2, 3, 4, 5, 6, 7, 8, 9, 10, 11, 17, 18, 19, 20, 21] rfl rfl rfl rfl (by decide) rfl rfl rfl rfl (Nat.le_of_ble_eq_true rfl) dX3_keep_57 ⟨Nat.le_of_ble_eq_true rfl, Nat.le_of_ble_eq_true rfl⟩ (fun  w1 hq => ?_)
  obtain ⟨u'_1, lo'_2, hj_57, rfl⟩ := hq
  refine z_aload_n E 0 rfl rfl dX3_keep_60 ?_
  refine z_dup E rfl dX3_keep_61 ?_
  refine z_get E f_X3_18 0 rfl rfl dX3_keep_62 ?_
  refine z_iconst E dX3_keep_65 ?_
  refine z_iadd E dX3_keep_66 ?_
  refine z_put (ws' := [(h0, .inr (3, [.ref ha, .int (zi 3)])), (ha, ar κ 4 (rf4 (some st0) (some st1) (some st2) (some st3))), (st0, .inr (6, [.ref su0, .ref bk0])), (su0, .inr (8, [.int (zi p0), .int (zi d0), .int (zi q0)])), (bk0, .inr (0, [.ref bu0, .ref bl0, .int (zi n0)])), (bu0, ai κ 8 u0), (bl0, ai κ 8 lo0), (st1, .inr (6, [.ref su1, .ref bk1])), (su1, .inr (8, [.int (zi p1), .int (zi d1), .int (zi q1)])), (bk1, .inr (0, [.ref bu1, .ref bl1, .int (zi n1)])), (bu1, ai κ 8 u1), (bl1, ai κ 8 lo1), (st3, .inr (6, [.ref su3, .ref bk3])), (su3, .inr (8, [.int (zi p3), .int (zi d3), .int (zi q3)])), (bk3, .inr (0, [.ref bu3, .ref bl3, .int (zi n3)])), (bu3, ai κ 8 u3), (bl3, ai κ 8 lo3), (st2, .inr (6, [.ref su2, .ref bk2])), (su2, .inr (8, [.int (zi p), .int (zi d), .int (zi q)])), (bk2, .inr (0, [.ref bu2, .ref bl2, .int (zi n)])), (bu2, ai κ 8 u'_1), (bl2, ai κ 8 lo'_2), (st, .inr (6, [.ref su, .ref bk])), (su, .inr (8, [.int (zi p), .int (zi d), .int (zi q)])), (bk, .inr (0, [.ref bu, .ref bl, .int (zi n)])), (bu, ai κ 8 u), (bl, ai κ 8 lo)]) E f_X3_18 t_X3_1 0 rfl rfl rfl (Nat.le_of_ble_eq_true rfl) rfl dX3_keep_67 ?_
  refine Zg.perm (ws' := [(h0, .inr (3, [.ref ha, .int (zi 3)])), (ha, ar κ 4 (rf4 (some st0) (some st1) (some st2) (some st3))), (st0, .inr (6, [.ref su0, .ref bk0])), (su0, .inr (8, [.int (zi p0), .int (zi d0), .int (zi q0)])), (bk0, .inr (0, [.ref bu0, .ref bl0, .int (zi n0)])), (bu0, ai κ 8 u0), (bl0, ai κ 8 lo0), (st1, .inr (6, [.ref su1, .ref bk1])), (su1, .inr (8, [.int (zi p1), .int (zi d1), .int (zi q1)])), (bk1, .inr (0, [.ref bu1, .ref bl1, .int (zi n1)])), (bu1, ai κ 8 u1), (bl1, ai κ 8 lo1), (st2, .inr (6, [.ref su2, .ref bk2])), (su2, .inr (8, [.int (zi p), .int (zi d), .int (zi q)])), (bk2, .inr (0, [.ref bu2, .ref bl2, .int (zi n)])), (bu2, ai κ 8 u'_1), (bl2, ai κ 8 lo'_2), (st3, .inr (6, [.ref su3, .ref bk3])), (su3, .inr (8, [.int (zi p3), .int (zi d3), .int (zi q3)])), (bk3, .inr (0, [.ref bu3, .ref bl3, .int (zi n3)])), (bu3, ai κ 8 u3), (bl3, ai κ 8 lo3), (st, .inr (6, [.ref su, .ref bk])), (su, .inr (8, [.int (zi p), .int (zi d), .int (zi q)])), (bk, .inr (0, [.ref bu, .ref bl, .int (zi n)])), (bu, ai κ 8 u), (bl, ai κ 8 lo)]) [0, 1, 2, 3, 4, 5, 6, 7, 8, 9, 10, 11, 17, 18, 19, 20, 21, 12, 13, 14, 15, 16, 22, 23, 24, 25, 26] rfl rfl ?_
  exact fin _ _ _ (⟨_, _, hj_57, rfl⟩) dX3_keep_70
abbrev rm_X3_keep3 : Room := { frames := 3, cells := 0, slots := 0, locals := 66 }
set_option maxRecDepth 100000 in
theorem c_X3_keep3 (l : Launch) (D : va_G) (κ : Nat → ClassId) (h0 : Nat) (ha : Nat) (st0 : Nat) (su0 : Nat) (bk0 : Nat) (bu0 : Nat) (bl0 : Nat) (p0 : Int) (d0 : Int) (q0 : Int) (n0 : Int) (u0 : Int → Int) (lo0 : Int → Int) (st1 : Nat) (su1 : Nat) (bk1 : Nat) (bu1 : Nat) (bl1 : Nat) (p1 : Int) (d1 : Int) (q1 : Int) (n1 : Int) (u1 : Int → Int) (lo1 : Int → Int) (st2 : Nat) (su2 : Nat) (bk2 : Nat) (bu2 : Nat) (bl2 : Nat) (p2 : Int) (d2 : Int) (q2 : Int) (n2 : Int) (u2 : Int → Int) (lo2 : Int → Int) (st3 : Nat) (su3 : Nat) (bk3 : Nat) (bu3 : Nat) (bl3 : Nat) (p3 : Int) (d3 : Int) (q3 : Int) (n3 : Int) (u3 : Int → Int) (lo3 : Int → Int) (st : Nat) (su : Nat) (bk : Nat) (bu : Nat) (bl : Nat) (p : Int) (d : Int) (q : Int) (n : Int) (u : Int → Int) (lo : Int → Int) (hn : 0 ≤ n ∧ n ≤ 8) : ZV l yX3_keep cX3_keep 2 rm_X3_keep3 D κ [.ref h0, .ref st] [(h0, .inr (3, [.ref ha, .int (zi 3)])), (ha, ar κ 4 (rf4 (some st0) (some st1) (some st2) (some st3))), (st0, .inr (6, [.ref su0, .ref bk0])), (su0, .inr (8, [.int (zi p0), .int (zi d0), .int (zi q0)])), (bk0, .inr (0, [.ref bu0, .ref bl0, .int (zi n0)])), (bu0, ai κ 8 u0), (bl0, ai κ 8 lo0), (st1, .inr (6, [.ref su1, .ref bk1])), (su1, .inr (8, [.int (zi p1), .int (zi d1), .int (zi q1)])), (bk1, .inr (0, [.ref bu1, .ref bl1, .int (zi n1)])), (bu1, ai κ 8 u1), (bl1, ai κ 8 lo1), (st2, .inr (6, [.ref su2, .ref bk2])), (su2, .inr (8, [.int (zi p2), .int (zi d2), .int (zi q2)])), (bk2, .inr (0, [.ref bu2, .ref bl2, .int (zi n2)])), (bu2, ai κ 8 u2), (bl2, ai κ 8 lo2), (st3, .inr (6, [.ref su3, .ref bk3])), (su3, .inr (8, [.int (zi p3), .int (zi d3), .int (zi q3)])), (bk3, .inr (0, [.ref bu3, .ref bl3, .int (zi n3)])), (bu3, ai κ 8 u3), (bl3, ai κ 8 lo3), (st, .inr (6, [.ref su, .ref bk])), (su, .inr (8, [.int (zi p), .int (zi d), .int (zi q)])), (bk, .inr (0, [.ref bu, .ref bl, .int (zi n)])), (bu, ai κ 8 u), (bl, ai κ 8 lo)] (fun w => ∃ u' : Int → Int, ∃ lo' : Int → Int, (∀ i : Int, 0 ≤ i → i < n → u' i = u i ∧ lo' i = lo i) ∧ [(h0, .inr (3, [.ref ha, .int (zi 4)])), (ha, ar κ 4 (rf4 (some st0) (some st1) (some st2) (some st3))), (st0, .inr (6, [.ref su0, .ref bk0])), (su0, .inr (8, [.int (zi p0), .int (zi d0), .int (zi q0)])), (bk0, .inr (0, [.ref bu0, .ref bl0, .int (zi n0)])), (bu0, ai κ 8 u0), (bl0, ai κ 8 lo0), (st1, .inr (6, [.ref su1, .ref bk1])), (su1, .inr (8, [.int (zi p1), .int (zi d1), .int (zi q1)])), (bk1, .inr (0, [.ref bu1, .ref bl1, .int (zi n1)])), (bu1, ai κ 8 u1), (bl1, ai κ 8 lo1), (st2, .inr (6, [.ref su2, .ref bk2])), (su2, .inr (8, [.int (zi p2), .int (zi d2), .int (zi q2)])), (bk2, .inr (0, [.ref bu2, .ref bl2, .int (zi n2)])), (bu2, ai κ 8 u2), (bl2, ai κ 8 lo2), (st3, .inr (6, [.ref su3, .ref bk3])), (su3, .inr (8, [.int (zi p), .int (zi d), .int (zi q)])), (bk3, .inr (0, [.ref bu3, .ref bl3, .int (zi n)])), (bu3, ai κ 8 u'), (bl3, ai κ 8 lo'), (st, .inr (6, [.ref su, .ref bk])), (su, .inr (8, [.int (zi p), .int (zi d), .int (zi q)])), (bk, .inr (0, [.ref bu, .ref bl, .int (zi n)])), (bu, ai κ 8 u), (bl, ai κ 8 lo)] = w) := by
  refine ZV.enter (own := RX3) rfl pn_X3_keep (Nat.le_of_ble_eq_true rfl) (fun X E fin => ?_)
  show Zg X [(h0, .inr (3, [.ref ha, .int (zi 3)])), (ha, ar κ 4 (rf4 (some st0) (some st1) (some st2) (some st3))), (st0, .inr (6, [.ref su0, .ref bk0])), (su0, .inr (8, [.int (zi p0), .int (zi d0), .int (zi q0)])), (bk0, .inr (0, [.ref bu0, .ref bl0, .int (zi n0)])), (bu0, ai κ 8 u0), (bl0, ai κ 8 lo0), (st1, .inr (6, [.ref su1, .ref bk1])), (su1, .inr (8, [.int (zi p1), .int (zi d1), .int (zi q1)])), (bk1, .inr (0, [.ref bu1, .ref bl1, .int (zi n1)])), (bu1, ai κ 8 u1), (bl1, ai κ 8 lo1), (st2, .inr (6, [.ref su2, .ref bk2])), (su2, .inr (8, [.int (zi p2), .int (zi d2), .int (zi q2)])), (bk2, .inr (0, [.ref bu2, .ref bl2, .int (zi n2)])), (bu2, ai κ 8 u2), (bl2, ai κ 8 lo2), (st3, .inr (6, [.ref su3, .ref bk3])), (su3, .inr (8, [.int (zi p3), .int (zi d3), .int (zi q3)])), (bk3, .inr (0, [.ref bu3, .ref bl3, .int (zi n3)])), (bu3, ai κ 8 u3), (bl3, ai κ 8 lo3), (st, .inr (6, [.ref su, .ref bk])), (su, .inr (8, [.int (zi p), .int (zi d), .int (zi q)])), (bk, .inr (0, [.ref bu, .ref bl, .int (zi n)])), (bu, ai κ 8 u), (bl, ai κ 8 lo)] 0 0 0 [(0, .ref h0), (1, .ref st)] []
  refine z_aload_n E 0 rfl rfl dX3_keep_0 ?_
  refine z_get E f_X3_18 0 rfl rfl dX3_keep_1 ?_
  refine z_aload_n E 0 rfl rfl dX3_keep_4 ?_
  refine z_get E f_X3_11 0 rfl rfl dX3_keep_5 ?_
  refine z_alen_ar E 1 rfl dX3_keep_8 ?_
  refine z_ic_lt (tgt := 16) E (by omega) (by omega) dX3_keep_9 (by decide) (fun _ => ?_) (fun h => absurd h (by decide))
  refine z_aload_n E 0 rfl rfl dX3_keep_16 ?_
  refine z_get E f_X3_18 0 rfl rfl dX3_keep_17 ?_
  refine z_if_lt (tgt := 70) E (by omega) dX3_keep_20 (by decide) (fun h => absurd h (by decide)) (fun _ => ?_)
  refine z_aload_n E 0 rfl rfl dX3_keep_23 ?_
  refine z_get E f_X3_18 0 rfl rfl dX3_keep_24 ?_
  refine z_aload_n E 0 rfl rfl dX3_keep_27 ?_
  refine z_get E f_X3_11 0 rfl rfl dX3_keep_28 ?_
  refine z_alen_ar E 1 rfl dX3_keep_31 ?_
  refine z_ic_ge (tgt := 70) E (by omega) (by omega) dX3_keep_32 (by decide) (fun h => absurd h (by decide)) (fun _ => ?_)
  refine z_aload_n E 0 rfl rfl dX3_keep_35 ?_
  refine z_get E f_X3_11 0 rfl rfl dX3_keep_36 ?_
  refine z_aload_n E 0 rfl rfl dX3_keep_39 ?_
  refine z_get E f_X3_18 0 rfl rfl dX3_keep_40 ?_
  refine z_aald (v := st3) E 1 rfl (Nat.le_of_ble_eq_true rfl) (by decide) (by decide) rfl dX3_keep_43 ?_
  refine z_ifnull E dX3_keep_44 ?_
  refine z_aload_n E 0 rfl rfl dX3_keep_47 ?_
  refine z_get E f_X3_11 0 rfl rfl dX3_keep_48 ?_
  refine z_aload_n E 0 rfl rfl dX3_keep_51 ?_
  refine z_get E f_X3_18 0 rfl rfl dX3_keep_52 ?_
  refine z_aald (v := st3) E 1 rfl (Nat.le_of_ble_eq_true rfl) (by decide) (by decide) rfl dX3_keep_55 ?_
  refine z_aload_n E 1 rfl rfl dX3_keep_56 ?_
  refine z_callVv (As := [.ref st]) (rest := []) (wr := [(h0, .inr (3, [.ref ha, .int (zi 3)])), (ha, ar κ 4 (rf4 (some st0) (some st1) (some st2) (some st3))), (st0, .inr (6, [.ref su0, .ref bk0])), (su0, .inr (8, [.int (zi p0), .int (zi d0), .int (zi q0)])), (bk0, .inr (0, [.ref bu0, .ref bl0, .int (zi n0)])), (bu0, ai κ 8 u0), (bl0, ai κ 8 lo0), (st1, .inr (6, [.ref su1, .ref bk1])), (su1, .inr (8, [.int (zi p1), .int (zi d1), .int (zi q1)])), (bk1, .inr (0, [.ref bu1, .ref bl1, .int (zi n1)])), (bu1, ai κ 8 u1), (bl1, ai κ 8 lo1), (st2, .inr (6, [.ref su2, .ref bk2])), (su2, .inr (8, [.int (zi p2), .int (zi d2), .int (zi q2)])), (bk2, .inr (0, [.ref bu2, .ref bl2, .int (zi n2)])), (bu2, ai κ 8 u2), (bl2, ai κ 8 lo2)]) E (c_X6_copyFrom l D κ st3 su3 bk3 bu3 bl3 p3 d3 q3 n3 u3 lo3 st su bk bu bl p d q n u lo (by omega)) m_X3_25 ⟨Nat.le_of_ble_eq_true rfl, Nat.le_of_ble_eq_true rfl⟩ ⟨rfl, rfl⟩ [17, 18, 19, 20, 21, 22, 23, 24, 25, 26] [0, 1, 2, 3, 4, 5, 6, 7, 8, 9, 10, 11, 12, 13, 14, 15, 16] rfl rfl rfl rfl (by decide) rfl rfl rfl rfl (Nat.le_of_ble_eq_true rfl) dX3_keep_57 ⟨Nat.le_of_ble_eq_true rfl, Nat.le_of_ble_eq_true rfl⟩ (fun  w1 hq => ?_)
  obtain ⟨u'_1, lo'_2, hj_57, rfl⟩ := hq
  refine z_aload_n E 0 rfl rfl dX3_keep_60 ?_
  refine z_dup E rfl dX3_keep_61 ?_
  refine z_get E f_X3_18 0 rfl rfl dX3_keep_62 ?_
  refine z_iconst E dX3_keep_65 ?_
  refine z_iadd E dX3_keep_66 ?_
  refine z_put (ws' := [(h0, .inr (3, [.ref ha, .int (zi 4)])), (ha, ar κ 4 (rf4 (some st0) (some st1) (some st2) (some st3))), (st0, .inr (6, [.ref su0, .ref bk0])), (su0, .inr (8, [.int (zi p0), .int (zi d0), .int (zi q0)])), (bk0, .inr (0, [.ref bu0, .ref bl0, .int (zi n0)])), (bu0, ai κ 8 u0), (bl0, ai κ 8 lo0), (st1, .inr (6, [.ref su1, .ref bk1])), (su1, .inr (8, [.int (zi p1), .int (zi d1), .int (zi q1)])), (bk1, .inr (0, [.ref bu1, .ref bl1, .int (zi n1)])), (bu1, ai κ 8 u1), (bl1, ai κ 8 lo1), (st2, .inr (6, [.ref su2, .ref bk2])), (su2, .inr (8, [.int (zi p2), .int (zi d2), .int (zi q2)])), (bk2, .inr (0, [.ref bu2, .ref bl2, .int (zi n2)])), (bu2, ai κ 8 u2), (bl2, ai κ 8 lo2), (st3, .inr (6, [.ref su3, .ref bk3])), (su3, .inr (8, [.int (zi p), .int (zi d), .int (zi q)])), (bk3, .inr (0, [.ref bu3, .ref bl3, .int (zi n)])), (bu3, ai κ 8 u'_1), (bl3, ai κ 8 lo'_2), (st, .inr (6, [.ref su, .ref bk])), (su, .inr (8, [.int (zi p), .int (zi d), .int (zi q)])), (bk, .inr (0, [.ref bu, .ref bl, .int (zi n)])), (bu, ai κ 8 u), (bl, ai κ 8 lo)]) E f_X3_18 t_X3_1 0 rfl rfl rfl (Nat.le_of_ble_eq_true rfl) rfl dX3_keep_67 ?_
  exact fin _ _ _ (⟨_, _, hj_57, rfl⟩) dX3_keep_70
abbrev rm_X3_keep4 : Room := { frames := 3, cells := 0, slots := 0, locals := 66 }
set_option maxRecDepth 100000 in
theorem c_X3_keep4 (l : Launch) (D : va_G) (κ : Nat → ClassId) (h0 : Nat) (ha : Nat) (st0 : Nat) (su0 : Nat) (bk0 : Nat) (bu0 : Nat) (bl0 : Nat) (p0 : Int) (d0 : Int) (q0 : Int) (n0 : Int) (u0 : Int → Int) (lo0 : Int → Int) (st1 : Nat) (su1 : Nat) (bk1 : Nat) (bu1 : Nat) (bl1 : Nat) (p1 : Int) (d1 : Int) (q1 : Int) (n1 : Int) (u1 : Int → Int) (lo1 : Int → Int) (st2 : Nat) (su2 : Nat) (bk2 : Nat) (bu2 : Nat) (bl2 : Nat) (p2 : Int) (d2 : Int) (q2 : Int) (n2 : Int) (u2 : Int → Int) (lo2 : Int → Int) (st3 : Nat) (su3 : Nat) (bk3 : Nat) (bu3 : Nat) (bl3 : Nat) (p3 : Int) (d3 : Int) (q3 : Int) (n3 : Int) (u3 : Int → Int) (lo3 : Int → Int) (st : Nat) (su : Nat) (bk : Nat) (bu : Nat) (bl : Nat) (p : Int) (d : Int) (q : Int) (n : Int) (u : Int → Int) (lo : Int → Int) (hn : 0 ≤ n ∧ n ≤ 8) : ZV l yX3_keep cX3_keep 2 rm_X3_keep4 D κ [.ref h0, .ref st] [(h0, .inr (3, [.ref ha, .int (zi 4)])), (ha, ar κ 4 (rf4 (some st0) (some st1) (some st2) (some st3))), (st0, .inr (6, [.ref su0, .ref bk0])), (su0, .inr (8, [.int (zi p0), .int (zi d0), .int (zi q0)])), (bk0, .inr (0, [.ref bu0, .ref bl0, .int (zi n0)])), (bu0, ai κ 8 u0), (bl0, ai κ 8 lo0), (st1, .inr (6, [.ref su1, .ref bk1])), (su1, .inr (8, [.int (zi p1), .int (zi d1), .int (zi q1)])), (bk1, .inr (0, [.ref bu1, .ref bl1, .int (zi n1)])), (bu1, ai κ 8 u1), (bl1, ai κ 8 lo1), (st2, .inr (6, [.ref su2, .ref bk2])), (su2, .inr (8, [.int (zi p2), .int (zi d2), .int (zi q2)])), (bk2, .inr (0, [.ref bu2, .ref bl2, .int (zi n2)])), (bu2, ai κ 8 u2), (bl2, ai κ 8 lo2), (st3, .inr (6, [.ref su3, .ref bk3])), (su3, .inr (8, [.int (zi p3), .int (zi d3), .int (zi q3)])), (bk3, .inr (0, [.ref bu3, .ref bl3, .int (zi n3)])), (bu3, ai κ 8 u3), (bl3, ai κ 8 lo3), (st, .inr (6, [.ref su, .ref bk])), (su, .inr (8, [.int (zi p), .int (zi d), .int (zi q)])), (bk, .inr (0, [.ref bu, .ref bl, .int (zi n)])), (bu, ai κ 8 u), (bl, ai κ 8 lo)] (fun w => ∃ u' : Int → Int, ∃ lo' : Int → Int, (∀ i : Int, 0 ≤ i → i < n → u' i = u i ∧ lo' i = lo i) ∧ [(h0, .inr (3, [.ref ha, .int (zi 4)])), (ha, ar κ 4 (rf4 (some st1) (some st2) (some st3) (some st0))), (st1, .inr (6, [.ref su1, .ref bk1])), (su1, .inr (8, [.int (zi p1), .int (zi d1), .int (zi q1)])), (bk1, .inr (0, [.ref bu1, .ref bl1, .int (zi n1)])), (bu1, ai κ 8 u1), (bl1, ai κ 8 lo1), (st2, .inr (6, [.ref su2, .ref bk2])), (su2, .inr (8, [.int (zi p2), .int (zi d2), .int (zi q2)])), (bk2, .inr (0, [.ref bu2, .ref bl2, .int (zi n2)])), (bu2, ai κ 8 u2), (bl2, ai κ 8 lo2), (st3, .inr (6, [.ref su3, .ref bk3])), (su3, .inr (8, [.int (zi p3), .int (zi d3), .int (zi q3)])), (bk3, .inr (0, [.ref bu3, .ref bl3, .int (zi n3)])), (bu3, ai κ 8 u3), (bl3, ai κ 8 lo3), (st0, .inr (6, [.ref su0, .ref bk0])), (su0, .inr (8, [.int (zi p), .int (zi d), .int (zi q)])), (bk0, .inr (0, [.ref bu0, .ref bl0, .int (zi n)])), (bu0, ai κ 8 u'), (bl0, ai κ 8 lo'), (st, .inr (6, [.ref su, .ref bk])), (su, .inr (8, [.int (zi p), .int (zi d), .int (zi q)])), (bk, .inr (0, [.ref bu, .ref bl, .int (zi n)])), (bu, ai κ 8 u), (bl, ai κ 8 lo)] = w) := by
  refine ZV.enter (own := RX3) rfl pn_X3_keep (Nat.le_of_ble_eq_true rfl) (fun X E fin => ?_)
  show Zg X [(h0, .inr (3, [.ref ha, .int (zi 4)])), (ha, ar κ 4 (rf4 (some st0) (some st1) (some st2) (some st3))), (st0, .inr (6, [.ref su0, .ref bk0])), (su0, .inr (8, [.int (zi p0), .int (zi d0), .int (zi q0)])), (bk0, .inr (0, [.ref bu0, .ref bl0, .int (zi n0)])), (bu0, ai κ 8 u0), (bl0, ai κ 8 lo0), (st1, .inr (6, [.ref su1, .ref bk1])), (su1, .inr (8, [.int (zi p1), .int (zi d1), .int (zi q1)])), (bk1, .inr (0, [.ref bu1, .ref bl1, .int (zi n1)])), (bu1, ai κ 8 u1), (bl1, ai κ 8 lo1), (st2, .inr (6, [.ref su2, .ref bk2])), (su2, .inr (8, [.int (zi p2), .int (zi d2), .int (zi q2)])), (bk2, .inr (0, [.ref bu2, .ref bl2, .int (zi n2)])), (bu2, ai κ 8 u2), (bl2, ai κ 8 lo2), (st3, .inr (6, [.ref su3, .ref bk3])), (su3, .inr (8, [.int (zi p3), .int (zi d3), .int (zi q3)])), (bk3, .inr (0, [.ref bu3, .ref bl3, .int (zi n3)])), (bu3, ai κ 8 u3), (bl3, ai κ 8 lo3), (st, .inr (6, [.ref su, .ref bk])), (su, .inr (8, [.int (zi p), .int (zi d), .int (zi q)])), (bk, .inr (0, [.ref bu, .ref bl, .int (zi n)])), (bu, ai κ 8 u), (bl, ai κ 8 lo)] 0 0 0 [(0, .ref h0), (1, .ref st)] []
  refine z_aload_n E 0 rfl rfl dX3_keep_0 ?_
  refine z_get E f_X3_18 0 rfl rfl dX3_keep_1 ?_
  refine z_aload_n E 0 rfl rfl dX3_keep_4 ?_
  refine z_get E f_X3_11 0 rfl rfl dX3_keep_5 ?_
  refine z_alen_ar E 1 rfl dX3_keep_8 ?_
  refine z_ic_lt (tgt := 16) E (by omega) (by omega) dX3_keep_9 (by decide) (fun h => absurd h (by decide)) (fun _ => ?_)
  refine z_aload_n E 0 rfl rfl dX3_keep_12 ?_
  refine z_callVv (As := []) (rest := []) (wr := [(su0, .inr (8, [.int (zi p0), .int (zi d0), .int (zi q0)])), (bk0, .inr (0, [.ref bu0, .ref bl0, .int (zi n0)])), (bu0, ai κ 8 u0), (bl0, ai κ 8 lo0), (su1, .inr (8, [.int (zi p1), .int (zi d1), .int (zi q1)])), (bk1, .inr (0, [.ref bu1, .ref bl1, .int (zi n1)])), (bu1, ai κ 8 u1), (bl1, ai κ 8 lo1), (su2, .inr (8, [.int (zi p2), .int (zi d2), .int (zi q2)])), (bk2, .inr (0, [.ref bu2, .ref bl2, .int (zi n2)])), (bu2, ai κ 8 u2), (bl2, ai κ 8 lo2), (su3, .inr (8, [.int (zi p3), .int (zi d3), .int (zi q3)])), (bk3, .inr (0, [.ref bu3, .ref bl3, .int (zi n3)])), (bu3, ai κ 8 u3), (bl3, ai κ 8 lo3), (st, .inr (6, [.ref su, .ref bk])), (su, .inr (8, [.int (zi p), .int (zi d), .int (zi q)])), (bk, .inr (0, [.ref bu, .ref bl, .int (zi n)])), (bu, ai κ 8 u), (bl, ai κ 8 lo)]) E (c_X3_dropOldest l D κ h0 ha 4 st0 su0 bk0 st1 su1 bk1 st2 su2 bk2 st3 su3 bk3 ) m_X3_22 ⟨Nat.le_of_ble_eq_true rfl, Nat.le_of_ble_eq_true rfl⟩ ⟨rfl, rfl⟩ [0, 1, 2, 7, 12, 17] [3, 4, 5, 6, 8, 9, 10, 11, 13, 14, 15, 16, 18, 19, 20, 21, 22, 23, 24, 25, 26] rfl rfl rfl rfl (by decide) rfl rfl rfl rfl (Nat.le_of_ble_eq_true rfl) dX3_keep_13 ⟨Nat.le_of_ble_eq_true rfl, Nat.le_of_ble_eq_true rfl⟩ (fun  w1 hq => ?_)
  obtain rfl := hq
  refine z_aload_n E 0 rfl rfl dX3_keep_16 ?_
  refine z_get E f_X3_18 21 rfl rfl dX3_keep_17 ?_
  refine z_if_lt (tgt := 70) E (by omega) dX3_keep_20 (by decide) (fun h => absurd h (by decide)) (fun _ => ?_)
  refine z_aload_n E 0 rfl rfl dX3_keep_23 ?_
  refine z_get E f_X3_18 21 rfl rfl dX3_keep_24 ?_
  refine z_aload_n E 0 rfl rfl dX3_keep_27 ?_
  refine z_get E f_X3_11 21 rfl rfl dX3_keep_28 ?_
  refine z_alen_ar E 22 rfl dX3_keep_31 ?_
  refine z_ic_ge (tgt := 70) E (by omega) (by omega) dX3_keep_32 (by decide) (fun h => absurd h (by decide)) (fun _ => ?_)
  refine z_aload_n E 0 rfl rfl dX3_keep_35 ?_
  refine z_get E f_X3_11 21 rfl rfl dX3_keep_36 ?_
  refine z_aload_n E 0 rfl rfl dX3_keep_39 ?_
  refine z_get E f_X3_18 21 rfl rfl dX3_keep_40 ?_
  refine z_aald (v := st0) E 22 rfl (Nat.le_of_ble_eq_true rfl) (by decide) (by decide) rfl dX3_keep_43 ?_
  refine z_ifnull E dX3_keep_44 ?_
  refine z_aload_n E 0 rfl rfl dX3_keep_47 ?_
  refine z_get E f_X3_11 21 rfl rfl dX3_keep_48 ?_
  refine z_aload_n E 0 rfl rfl dX3_keep_51 ?_
  refine z_get E f_X3_18 21 rfl rfl dX3_keep_52 ?_
  refine z_aald (v := st0) E 22 rfl (Nat.le_of_ble_eq_true rfl) (by decide) (by decide) rfl dX3_keep_55 ?_
  refine z_aload_n E 1 rfl rfl dX3_keep_56 ?_
  refine z_callVv (As := [.ref st]) (rest := []) (wr := [(su1, .inr (8, [.int (zi p1), .int (zi d1), .int (zi q1)])), (bk1, .inr (0, [.ref bu1, .ref bl1, .int (zi n1)])), (bu1, ai κ 8 u1), (bl1, ai κ 8 lo1), (su2, .inr (8, [.int (zi p2), .int (zi d2), .int (zi q2)])), (bk2, .inr (0, [.ref bu2, .ref bl2, .int (zi n2)])), (bu2, ai κ 8 u2), (bl2, ai κ 8 lo2), (su3, .inr (8, [.int (zi p3), .int (zi d3), .int (zi q3)])), (bk3, .inr (0, [.ref bu3, .ref bl3, .int (zi n3)])), (bu3, ai κ 8 u3), (bl3, ai κ 8 lo3), (h0, .inr (3, [.ref ha, .int (zi 3)])), (ha, ar κ 4 (rf4 (some st1) (some st2) (some st3) (some st0))), (st1, .inr (6, [.ref su1, .ref bk1])), (st2, .inr (6, [.ref su2, .ref bk2])), (st3, .inr (6, [.ref su3, .ref bk3]))]) E (c_X6_copyFrom l D κ st0 su0 bk0 bu0 bl0 p0 d0 q0 n0 u0 lo0 st su bk bu bl p d q n u lo (by omega)) m_X3_25 ⟨Nat.le_of_ble_eq_true rfl, Nat.le_of_ble_eq_true rfl⟩ ⟨rfl, rfl⟩ [23, 0, 1, 2, 3, 16, 17, 18, 19, 20] [4, 5, 6, 7, 8, 9, 10, 11, 12, 13, 14, 15, 21, 22, 24, 25, 26] rfl rfl rfl rfl (by decide) rfl rfl rfl rfl (Nat.le_of_ble_eq_true rfl) dX3_keep_57 ⟨Nat.le_of_ble_eq_true rfl, Nat.le_of_ble_eq_true rfl⟩ (fun  w1 hq => ?_)
  obtain ⟨u'_1, lo'_2, hj_57, rfl⟩ := hq
  refine z_aload_n E 0 rfl rfl dX3_keep_60 ?_
  refine z_dup E rfl dX3_keep_61 ?_
  refine z_get E f_X3_18 12 rfl rfl dX3_keep_62 ?_
  refine z_iconst E dX3_keep_65 ?_
  refine z_iadd E dX3_keep_66 ?_
  refine z_put (ws' := [(su1, .inr (8, [.int (zi p1), .int (zi d1), .int (zi q1)])), (bk1, .inr (0, [.ref bu1, .ref bl1, .int (zi n1)])), (bu1, ai κ 8 u1), (bl1, ai κ 8 lo1), (su2, .inr (8, [.int (zi p2), .int (zi d2), .int (zi q2)])), (bk2, .inr (0, [.ref bu2, .ref bl2, .int (zi n2)])), (bu2, ai κ 8 u2), (bl2, ai κ 8 lo2), (su3, .inr (8, [.int (zi p3), .int (zi d3), .int (zi q3)])), (bk3, .inr (0, [.ref bu3, .ref bl3, .int (zi n3)])), (bu3, ai κ 8 u3), (bl3, ai κ 8 lo3), (h0, .inr (3, [.ref ha, .int (zi 4)])), (ha, ar κ 4 (rf4 (some st1) (some st2) (some st3) (some st0))), (st1, .inr (6, [.ref su1, .ref bk1])), (st2, .inr (6, [.ref su2, .ref bk2])), (st3, .inr (6, [.ref su3, .ref bk3])), (st0, .inr (6, [.ref su0, .ref bk0])), (su0, .inr (8, [.int (zi p), .int (zi d), .int (zi q)])), (bk0, .inr (0, [.ref bu0, .ref bl0, .int (zi n)])), (bu0, ai κ 8 u'_1), (bl0, ai κ 8 lo'_2), (st, .inr (6, [.ref su, .ref bk])), (su, .inr (8, [.int (zi p), .int (zi d), .int (zi q)])), (bk, .inr (0, [.ref bu, .ref bl, .int (zi n)])), (bu, ai κ 8 u), (bl, ai κ 8 lo)]) E f_X3_18 t_X3_1 12 rfl rfl rfl (Nat.le_of_ble_eq_true rfl) rfl dX3_keep_67 ?_
  refine Zg.perm (ws' := [(h0, .inr (3, [.ref ha, .int (zi 4)])), (ha, ar κ 4 (rf4 (some st1) (some st2) (some st3) (some st0))), (st1, .inr (6, [.ref su1, .ref bk1])), (su1, .inr (8, [.int (zi p1), .int (zi d1), .int (zi q1)])), (bk1, .inr (0, [.ref bu1, .ref bl1, .int (zi n1)])), (bu1, ai κ 8 u1), (bl1, ai κ 8 lo1), (st2, .inr (6, [.ref su2, .ref bk2])), (su2, .inr (8, [.int (zi p2), .int (zi d2), .int (zi q2)])), (bk2, .inr (0, [.ref bu2, .ref bl2, .int (zi n2)])), (bu2, ai κ 8 u2), (bl2, ai κ 8 lo2), (st3, .inr (6, [.ref su3, .ref bk3])), (su3, .inr (8, [.int (zi p3), .int (zi d3), .int (zi q3)])), (bk3, .inr (0, [.ref bu3, .ref bl3, .int (zi n3)])), (bu3, ai κ 8 u3), (bl3, ai κ 8 lo3), (st0, .inr (6, [.ref su0, .ref bk0])), (su0, .inr (8, [.int (zi p), .int (zi d), .int (zi q)])), (bk0, .inr (0, [.ref bu0, .ref bl0, .int (zi n)])), (bu0, ai κ 8 u'_1), (bl0, ai κ 8 lo'_2), (st, .inr (6, [.ref su, .ref bk])), (su, .inr (8, [.int (zi p), .int (zi d), .int (zi q)])), (bk, .inr (0, [.ref bu, .ref bl, .int (zi n)])), (bu, ai κ 8 u), (bl, ai κ 8 lo)]) [12, 13, 14, 0, 1, 2, 3, 15, 4, 5, 6, 7, 16, 8, 9, 10, 11, 17, 18, 19, 20, 21, 22, 23, 24, 25, 26] rfl rfl ?_
  exact fin _ _ _ (⟨_, _, hj_57, rfl⟩) dX3_keep_70
abbrev rm_X3_takeBack1 : Room := { frames := 3, cells := 0, slots := 0, locals := 66 }
set_option maxRecDepth 100000 in
theorem c_X3_takeBack1 (l : Launch) (D : va_G) (κ : Nat → ClassId) (h0 : Nat) (ha : Nat) (st0 : Nat) (su0 : Nat) (bk0 : Nat) (bu0 : Nat) (bl0 : Nat) (p0 : Int) (d0 : Int) (q0 : Int) (n0 : Int) (u0 : Int → Int) (lo0 : Int → Int) (st1 : Nat) (su1 : Nat) (bk1 : Nat) (bu1 : Nat) (bl1 : Nat) (p1 : Int) (d1 : Int) (q1 : Int) (n1 : Int) (u1 : Int → Int) (lo1 : Int → Int) (st2 : Nat) (su2 : Nat) (bk2 : Nat) (bu2 : Nat) (bl2 : Nat) (p2 : Int) (d2 : Int) (q2 : Int) (n2 : Int) (u2 : Int → Int) (lo2 : Int → Int) (st3 : Nat) (su3 : Nat) (bk3 : Nat) (bu3 : Nat) (bl3 : Nat) (p3 : Int) (d3 : Int) (q3 : Int) (n3 : Int) (u3 : Int → Int) (lo3 : Int → Int) (st : Nat) (su : Nat) (bk : Nat) (bu : Nat) (bl : Nat) (p : Int) (d : Int) (q : Int) (n : Int) (u : Int → Int) (lo : Int → Int) (hn : 0 ≤ n0 ∧ n0 ≤ 8) : ZV l yX3_takeBack cX3_takeBack 2 rm_X3_takeBack1 D κ [.ref h0, .ref st] [(h0, .inr (3, [.ref ha, .int (zi 1)])), (ha, ar κ 4 (rf4 (some st0) (some st1) (some st2) (some st3))), (st0, .inr (6, [.ref su0, .ref bk0])), (su0, .inr (8, [.int (zi p0), .int (zi d0), .int (zi q0)])), (bk0, .inr (0, [.ref bu0, .ref bl0, .int (zi n0)])), (bu0, ai κ 8 u0), (bl0, ai κ 8 lo0), (st1, .inr (6, [.ref su1, .ref bk1])), (su1, .inr (8, [.int (zi p1), .int (zi d1), .int (zi q1)])), (bk1, .inr (0, [.ref bu1, .ref bl1, .int (zi n1)])), (bu1, ai κ 8 u1), (bl1, ai κ 8 lo1), (st2, .inr (6, [.ref su2, .ref bk2])), (su2, .inr (8, [.int (zi p2), .int (zi d2), .int (zi q2)])), (bk2, .inr (0, [.ref bu2, .ref bl2, .int (zi n2)])), (bu2, ai κ 8 u2), (bl2, ai κ 8 lo2), (st3, .inr (6, [.ref su3, .ref bk3])), (su3, .inr (8, [.int (zi p3), .int (zi d3), .int (zi q3)])), (bk3, .inr (0, [.ref bu3, .ref bl3, .int (zi n3)])), (bu3, ai κ 8 u3), (bl3, ai κ 8 lo3), (st, .inr (6, [.ref su, .ref bk])), (su, .inr (8, [.int (zi p), .int (zi d), .int (zi q)])), (bk, .inr (0, [.ref bu, .ref bl, .int (zi n)])), (bu, ai κ 8 u), (bl, ai κ 8 lo)] (fun w => ∃ u' : Int → Int, ∃ lo' : Int → Int, (∀ i : Int, 0 ≤ i → i < n0 → u' i = u0 i ∧ lo' i = lo0 i) ∧ [(h0, .inr (3, [.ref ha, .int (zi 0)])), (ha, ar κ 4 (rf4 (some st0) (some st1) (some st2) (some st3))), (st0, .inr (6, [.ref su0, .ref bk0])), (su0, .inr (8, [.int (zi p0), .int (zi d0), .int (zi q0)])), (bk0, .inr (0, [.ref bu0, .ref bl0, .int (zi n0)])), (bu0, ai κ 8 u0), (bl0, ai κ 8 lo0), (st1, .inr (6, [.ref su1, .ref bk1])), (su1, .inr (8, [.int (zi p1), .int (zi d1), .int (zi q1)])), (bk1, .inr (0, [.ref bu1, .ref bl1, .int (zi n1)])), (bu1, ai κ 8 u1), (bl1, ai κ 8 lo1), (st2, .inr (6, [.ref su2, .ref bk2])), (su2, .inr (8, [.int (zi p2), .int (zi d2), .int (zi q2)])), (bk2, .inr (0, [.ref bu2, .ref bl2, .int (zi n2)])), (bu2, ai κ 8 u2), (bl2, ai κ 8 lo2), (st3, .inr (6, [.ref su3, .ref bk3])), (su3, .inr (8, [.int (zi p3), .int (zi d3), .int (zi q3)])), (bk3, .inr (0, [.ref bu3, .ref bl3, .int (zi n3)])), (bu3, ai κ 8 u3), (bl3, ai κ 8 lo3), (st, .inr (6, [.ref su, .ref bk])), (su, .inr (8, [.int (zi p0), .int (zi d0), .int (zi q0)])), (bk, .inr (0, [.ref bu, .ref bl, .int (zi n0)])), (bu, ai κ 8 u'), (bl, ai κ 8 lo')] = w) := by
  refine ZV.enter (own := RX3) rfl pn_X3_takeBack (Nat.le_of_ble_eq_true rfl) (fun X E fin => ?_)
  show Zg X [(h0, .inr (3, [.ref ha, .int (zi 1)])), (ha, ar κ 4 (rf4 (some st0) (some st1) (some st2) (some st3))), (st0, .inr (6, [.ref su0, .ref bk0])), (su0, .inr (8, [.int (zi p0), .int (zi d0), .int (zi q0)])), (bk0, .inr (0, [.ref bu0, .ref bl0, .int (zi n0)])), (bu0, ai κ 8 u0), (bl0, ai κ 8 lo0), (st1, .inr (6, [.ref su1, .ref bk1])), (su1, .inr (8, [.int (zi p1), .int (zi d1), .int (zi q1)])), (bk1, .inr (0, [.ref bu1, .ref bl1, .int (zi n1)])), (bu1, ai κ 8 u1), (bl1, ai κ 8 lo1), (st2, .inr (6, [.ref su2, .ref bk2])), (su2, .inr (8, [.int (zi p2), .int (zi d2), .int (zi q2)])), (bk2, .inr (0, [.ref bu2, .ref bl2, .int (zi n2)])), (bu2, ai κ 8 u2), (bl2, ai κ 8 lo2), (st3, .inr (6, [.ref su3, .ref bk3])), (su3, .inr (8, [.int (zi p3), .int (zi d3), .int (zi q3)])), (bk3, .inr (0, [.ref bu3, .ref bl3, .int (zi n3)])), (bu3, ai κ 8 u3), (bl3, ai κ 8 lo3), (st, .inr (6, [.ref su, .ref bk])), (su, .inr (8, [.int (zi p), .int (zi d), .int (zi q)])), (bk, .inr (0, [.ref bu, .ref bl, .int (zi n)])), (bu, ai κ 8 u), (bl, ai κ 8 lo)] 0 0 0 [(0, .ref h0), (1, .ref st)] []
  refine z_aload_n E 0 rfl rfl dX3_takeBack_0 ?_
  refine z_get E f_X3_18 0 rfl rfl dX3_takeBack_1 ?_
  refine z_if_le (tgt := 56) E (by omega) dX3_takeBack_4 (by decide) (fun h => absurd h (by decide)) (fun _ => ?_)
  refine z_aload_n E 0 rfl rfl dX3_takeBack_7 ?_
  refine z_get E f_X3_18 0 rfl rfl dX3_takeBack_8 ?_
  refine z_aload_n E 0 rfl rfl dX3_takeBack_11 ?_
  refine z_get E f_X3_11 0 rfl rfl dX3_takeBack_12 ?_
  refine z_alen_ar E 1 rfl dX3_takeBack_15 ?_
  refine z_ic_gt (tgt := 56) E (by omega) (by omega) dX3_takeBack_16 (by decide) (fun h => absurd h (by decide)) (fun _ => ?_)
  refine z_aload_n E 0 rfl rfl dX3_takeBack_19 ?_
  refine z_get E f_X3_11 0 rfl rfl dX3_takeBack_20 ?_
  refine z_aload_n E 0 rfl rfl dX3_takeBack_23 ?_
  refine z_get E f_X3_18 0 rfl rfl dX3_takeBack_24 ?_
  refine z_iconst E dX3_takeBack_27 ?_
  refine z_isub E dX3_takeBack_28 ?_
  refine z_aald (v := st0) E 1 rfl (Nat.le_of_ble_eq_true rfl) (by decide) (by decide) rfl dX3_takeBack_29 ?_
  refine z_ifnull E dX3_takeBack_30 ?_
  refine z_aload_n E 0 rfl rfl dX3_takeBack_33 ?_
  refine z_dup E rfl dX3_takeBack_34 ?_
  refine z_get E f_X3_18 0 rfl rfl dX3_takeBack_35 ?_
  refine z_iconst E dX3_takeBack_38 ?_
  refine z_isub E dX3_takeBack_39 ?_
  refine z_put (ws' := [(h0, .inr (3, [.ref ha, .int (zi 0)])), (ha, ar κ 4 (rf4 (some st0) (some st1) (some st2) (some st3))), (st0, .inr (6, [.ref su0, .ref bk0])), (su0, .inr (8, [.int (zi p0), .int (zi d0), .int (zi q0)])), (bk0, .inr (0, [.ref bu0, .ref bl0, .int (zi n0)])), (bu0, ai κ 8 u0), (bl0, ai κ 8 lo0), (st1, .inr (6, [.ref su1, .ref bk1])), (su1, .inr (8, [.int (zi p1), .int (zi d1), .int (zi q1)])), (bk1, .inr (0, [.ref bu1, .ref bl1, .int (zi n1)])), (bu1, ai κ 8 u1), (bl1, ai κ 8 lo1), (st2, .inr (6, [.ref su2, .ref bk2])), (su2, .inr (8, [.int (zi p2), .int (zi d2), .int (zi q2)])), (bk2, .inr (0, [.ref bu2, .ref bl2, .int (zi n2)])), (bu2, ai κ 8 u2), (bl2, ai κ 8 lo2), (st3, .inr (6, [.ref su3, .ref bk3])), (su3, .inr (8, [.int (zi p3), .int (zi d3), .int (zi q3)])), (bk3, .inr (0, [.ref bu3, .ref bl3, .int (zi n3)])), (bu3, ai κ 8 u3), (bl3, ai κ 8 lo3), (st, .inr (6, [.ref su, .ref bk])), (su, .inr (8, [.int (zi p), .int (zi d), .int (zi q)])), (bk, .inr (0, [.ref bu, .ref bl, .int (zi n)])), (bu, ai κ 8 u), (bl, ai κ 8 lo)]) E f_X3_18 t_X3_1 0 rfl rfl rfl (Nat.le_of_ble_eq_true rfl) rfl dX3_takeBack_40 ?_
  refine z_aload_n E 1 rfl rfl dX3_takeBack_43 ?_
  refine z_aload_n E 0 rfl rfl dX3_takeBack_44 ?_
  refine z_get E f_X3_11 0 rfl rfl dX3_takeBack_45 ?_
  refine z_aload_n E 0 rfl rfl dX3_takeBack_48 ?_
  refine z_get E f_X3_18 0 rfl rfl dX3_takeBack_49 ?_
  refine z_aald (v := st0) E 1 rfl (Nat.le_of_ble_eq_true rfl) (by decide) (by decide) rfl dX3_takeBack_52 ?_
  refine z_callVv (As := [.ref st0]) (rest := []) (wr := [(h0, .inr (3, [.ref ha, .int (zi 0)])), (ha, ar κ 4 (rf4 (some st0) (some st1) (some st2) (some st3))), (st1, .inr (6, [.ref su1, .ref bk1])), (su1, .inr (8, [.int (zi p1), .int (zi d1), .int (zi q1)])), (bk1, .inr (0, [.ref bu1, .ref bl1, .int (zi n1)])), (bu1, ai κ 8 u1), (bl1, ai κ 8 lo1), (st2, .inr (6, [.ref su2, .ref bk2])), (su2, .inr (8, [.int (zi p2), .int (zi d2), .int (zi q2)])), (bk2, .inr (0, [.ref bu2, .ref bl2, .int (zi n2)])), (bu2, ai κ 8 u2), (bl2, ai κ 8 lo2), (st3, .inr (6, [.ref su3, .ref bk3])), (su3, .inr (8, [.int (zi p3), .int (zi d3), .int (zi q3)])), (bk3, .inr (0, [.ref bu3, .ref bl3, .int (zi n3)])), (bu3, ai κ 8 u3), (bl3, ai κ 8 lo3)]) E (c_X6_copyFrom l D κ st su bk bu bl p d q n u lo st0 su0 bk0 bu0 bl0 p0 d0 q0 n0 u0 lo0 (by omega)) m_X3_25 ⟨Nat.le_of_ble_eq_true rfl, Nat.le_of_ble_eq_true rfl⟩ ⟨rfl, rfl⟩ [22, 23, 24, 25, 26, 2, 3, 4, 5, 6] [0, 1, 7, 8, 9, 10, 11, 12, 13, 14, 15, 16, 17, 18, 19, 20, 21] rfl rfl rfl rfl (by decide) rfl rfl rfl rfl (Nat.le_of_ble_eq_true rfl) dX3_takeBack_53 ⟨Nat.le_of_ble_eq_true rfl, Nat.le_of_ble_eq_true rfl⟩ (fun  w1 hq => ?_)
  obtain ⟨u'_1, lo'_2, hj_53, rfl⟩ := hq
  refine Zg.perm (ws' := [(h0, .inr (3, [.ref ha, .int (zi 0)])), (ha, ar κ 4 (rf4 (some st0) (some st1) (some st2) (some st3))), (st0, .inr (6, [.ref su0, .ref bk0])), (su0, .inr (8, [.int (zi p0), .int (zi d0), .int (zi q0)])), (bk0, .inr (0, [.ref bu0, .ref bl0, .int (zi n0)])), (bu0, ai κ 8 u0), (bl0, ai κ 8 lo0), (st1, .inr (6, [.ref su1, .ref bk1])), (su1, .inr (8, [.int (zi p1), .int (zi d1), .int (zi q1)])), (bk1, .inr (0, [.ref bu1, .ref bl1, .int (zi n1)])), (bu1, ai κ 8 u1), (bl1, ai κ 8 lo1), (st2, .inr (6, [.ref su2, .ref bk2])), (su2, .inr (8, [.int (zi p2), .int (zi d2), .int (zi q2)])), (bk2, .inr (0, [.ref bu2, .ref bl2, .int (zi n2)])), (bu2, ai κ 8 u2), (bl2, ai κ 8 lo2), (st3, .inr (6, [.ref su3, .ref bk3])), (su3, .inr (8, [.int (zi p3), .int (zi d3), .int (zi q3)])), (bk3, .inr (0, [.ref bu3, .ref bl3, .int (zi n3)])), (bu3, ai κ 8 u3), (bl3, ai κ 8 lo3), (st, .inr (6, [.ref su, .ref bk])), (su, .inr (8, [.int (zi p0), .int (zi d0), .int (zi q0)])), (bk, .inr (0, [.ref bu, .ref bl, .int (zi n0)])), (bu, ai κ 8 u'_1), (bl, ai κ 8 lo'_2)]) [0, 1, 22, 23, 24, 25, 26, 2, 3, 4, 5, 6, 7, 8, 9, 10, 11, 12, 13, 14, 15, 16, 17, 18, 19, 20, 21] rfl rfl ?_
  exact fin _ _ _ (⟨_, _, hj_53, rfl⟩) dX3_takeBack_56
abbrev rm_X3_takeBack2 : Room := { frames := 3, cells := 0, slots := 0, locals := 66 }
set_option maxRecDepth 100000 in
theorem c_X3_takeBack2 (l : Launch) (D : va_G) (κ : Nat → ClassId) (h0 : Nat) (ha : Nat) (st0 : Nat) (su0 : Nat) (bk0 : Nat) (bu0 : Nat) (bl0 : Nat) (p0 : Int) (d0 : Int) (q0 : Int) (n0 : Int) (u0 : Int → Int) (lo0 : Int → Int) (st1 : Nat) (su1 : Nat) (bk1 : Nat) (bu1 : Nat) (bl1 : Nat) (p1 : Int) (d1 : Int) (q1 : Int) (n1 : Int) (u1 : Int → Int) (lo1 : Int → Int) (st2 : Nat) (su2 : Nat) (bk2 : Nat) (bu2 : Nat) (bl2 : Nat) (p2 : Int) (d2 : Int) (q2 : Int) (n2 : Int) (u2 : Int → Int) (lo2 : Int → Int) (st3 : Nat) (su3 : Nat) (bk3 : Nat) (bu3 : Nat) (bl3 : Nat) (p3 : Int) (d3 : Int) (q3 : Int) (n3 : Int) (u3 : Int → Int) (lo3 : Int → Int) (st : Nat) (su : Nat) (bk : Nat) (bu : Nat) (bl : Nat) (p : Int) (d : Int) (q : Int) (n : Int) (u : Int → Int) (lo : Int → Int) (hn : 0 ≤ n1 ∧ n1 ≤ 8) : ZV l yX3_takeBack cX3_takeBack 2 rm_X3_takeBack2 D κ [.ref h0, .ref st] [(h0, .inr (3, [.ref ha, .int (zi 2)])), (ha, ar κ 4 (rf4 (some st0) (some st1) (some st2) (some st3))), (st0, .inr (6, [.ref su0, .ref bk0])), (su0, .inr (8, [.int (zi p0), .int (zi d0), .int (zi q0)])), (bk0, .inr (0, [.ref bu0, .ref bl0, .int (zi n0)])), (bu0, ai κ 8 u0), (bl0, ai κ 8 lo0), (st1, .inr (6, [.ref su1, .ref bk1])), (su1, .inr (8, [.int (zi p1), .int (zi d1), .int (zi q1)])), (bk1, .inr (0, [.ref bu1, .ref bl1, .int (zi n1)])), (bu1, ai κ 8 u1), (bl1, ai κ 8 lo1), (st2, .inr (6, [.ref su2, .ref bk2])), (su2, .inr (8, [.int (zi p2), .int (zi d2), .int (zi q2)])), (bk2, .inr (0, [.ref bu2, .ref bl2, .int (zi n2)])), (bu2, ai κ 8 u2), (bl2, ai κ 8 lo2), (st3, .inr (6, [.ref su3, .ref bk3])), (su3, .inr (8, [.int (zi p3), .int (zi d3), .int (zi q3)])), (bk3, .inr (0, [.ref bu3, .ref bl3, .int (zi n3)])), (bu3, ai κ 8 u3), (bl3, ai κ 8 lo3), (st, .inr (6, [.ref su, .ref bk])), (su, .inr (8, [.int (zi p), .int (zi d), .int (zi q)])), (bk, .inr (0, [.ref bu, .ref bl, .int (zi n)])), (bu, ai κ 8 u), (bl, ai κ 8 lo)] (fun w => ∃ u' : Int → Int, ∃ lo' : Int → Int, (∀ i : Int, 0 ≤ i → i < n1 → u' i = u1 i ∧ lo' i = lo1 i) ∧ [(h0, .inr (3, [.ref ha, .int (zi 1)])), (ha, ar κ 4 (rf4 (some st0) (some st1) (some st2) (some st3))), (st0, .inr (6, [.ref su0, .ref bk0])), (su0, .inr (8, [.int (zi p0), .int (zi d0), .int (zi q0)])), (bk0, .inr (0, [.ref bu0, .ref bl0, .int (zi n0)])), (bu0, ai κ 8 u0), (bl0, ai κ 8 lo0), (st1, .inr (6, [.ref su1, .ref bk1])), (su1, .inr (8, [.int (zi p1), .int (zi d1), .int (zi q1)])), (bk1, .inr (0, [.ref bu1, .ref bl1, .int (zi n1)])), (bu1, ai κ 8 u1), (bl1, ai κ 8 lo1), (st2, .inr (6, [.ref su2, .ref bk2])), (su2, .inr (8, [.int (zi p2), .int (zi d2), .int (zi q2)])), (bk2, .inr (0, [.ref bu2, .ref bl2, .int (zi n2)])), (bu2, ai κ 8 u2), (bl2, ai κ 8 lo2), (st3, .inr (6, [.ref su3, .ref bk3])), (su3, .inr (8, [.int (zi p3), .int (zi d3), .int (zi q3)])), (bk3, .inr (0, [.ref bu3, .ref bl3, .int (zi n3)])), (bu3, ai κ 8 u3), (bl3, ai κ 8 lo3), (st, .inr (6, [.ref su, .ref bk])), (su, .inr (8, [.int (zi p1), .int (zi d1), .int (zi q1)])), (bk, .inr (0, [.ref bu, .ref bl, .int (zi n1)])), (bu, ai κ 8 u'), (bl, ai κ 8 lo')] = w) := by
  refine ZV.enter (own := RX3) rfl pn_X3_takeBack (Nat.le_of_ble_eq_true rfl) (fun X E fin => ?_)
  show Zg X [(h0, .inr (3, [.ref ha, .int (zi 2)])), (ha, ar κ 4 (rf4 (some st0) (some st1) (some st2) (some st3))), (st0, .inr (6, [.ref su0, .ref bk0])), (su0, .inr (8, [.int (zi p0), .int (zi d0), .int (zi q0)])), (bk0, .inr (0, [.ref bu0, .ref bl0, .int (zi n0)])), (bu0, ai κ 8 u0), (bl0, ai κ 8 lo0), (st1, .inr (6, [.ref su1, .ref bk1])), (su1, .inr (8, [.int (zi p1), .int (zi d1), .int (zi q1)])), (bk1, .inr (0, [.ref bu1, .ref bl1, .int (zi n1)])), (bu1, ai κ 8 u1), (bl1, ai κ 8 lo1), (st2, .inr (6, [.ref su2, .ref bk2])), (su2, .inr (8, [.int (zi p2), .int (zi d2), .int (zi q2)])), (bk2, .inr (0, [.ref bu2, .ref bl2, .int (zi n2)])), (bu2, ai κ 8 u2), (bl2, ai κ 8 lo2), (st3, .inr (6, [.ref su3, .ref bk3])), (su3, .inr (8, [.int (zi p3), .int (zi d3), .int (zi q3)])), (bk3, .inr (0, [.ref bu3, .ref bl3, .int (zi n3)])), (bu3, ai κ 8 u3), (bl3, ai κ 8 lo3), (st, .inr (6, [.ref su, .ref bk])), (su, .inr (8, [.int (zi p), .int (zi d), .int (zi q)])), (bk, .inr (0, [.ref bu, .ref bl, .int (zi n)])), (bu, ai κ 8 u), (bl, ai κ 8 lo)] 0 0 0 [(0, .ref h0), (1, .ref st)] []
  refine z_aload_n E 0 rfl rfl dX3_takeBack_0 ?_
  refine z_get E f_X3_18 0 rfl rfl dX3_takeBack_1 ?_
  refine z_if_le (tgt := 56) E (by omega) dX3_takeBack_4 (by decide) (fun h => absurd h (by decide)) (fun _ => ?_)
  refine z_aload_n E 0 rfl rfl dX3_takeBack_7 ?_
  refine z_get E f_X3_18 0 rfl rfl dX3_takeBack_8 ?_
  refine z_aload_n E 0 rfl rfl dX3_takeBack_11 ?_
  refine z_get E f_X3_11 0 rfl rfl dX3_takeBack_12 ?_
  refine z_alen_ar E 1 rfl dX3_takeBack_15 ?_
  refine z_ic_gt (tgt := 56) E (by omega) (by omega) dX3_takeBack_16 (by decide) (fun h => absurd h (by decide)) (fun _ => ?_)
  refine z_aload_n E 0 rfl rfl dX3_takeBack_19 ?_
  refine z_get E f_X3_11 0 rfl rfl dX3_takeBack_20 ?_
  refine z_aload_n E 0 rfl rfl dX3_takeBack_23 ?_
  refine z_get E f_X3_18 0 rfl rfl dX3_takeBack_24 ?_
  refine z_iconst E dX3_takeBack_27 ?_
  refine z_isub E dX3_takeBack_28 ?_
  refine z_aald (v := st1) E 1 rfl (Nat.le_of_ble_eq_true rfl) (by decide) (by decide) rfl dX3_takeBack_29 ?_
  refine z_ifnull E dX3_takeBack_30 ?_
  refine z_aload_n E 0 rfl rfl dX3_takeBack_33 ?_
  refine z_dup E rfl dX3_takeBack_34 ?_
  refine z_get E f_X3_18 0 rfl rfl dX3_takeBack_35 ?_
  refine z_iconst E dX3_takeBack_38 ?_
  refine z_isub E dX3_takeBack_39 ?_
  refine z_put (ws' := [(h0, .inr (3, [.ref ha, .int (zi 1)])), (ha, ar κ 4 (rf4 (some st0) (some st1) (some st2) (some st3))), (st0, .inr (6, [.ref su0, .ref bk0])), (su0, .inr (8, [.int (zi p0), .int (zi d0), .int (zi q0)])), (bk0, .inr (0, [.ref bu0, .ref bl0, .int (zi n0)])), (bu0, ai κ 8 u0), (bl0, ai κ 8 lo0), (st1, .inr (6, [.ref su1, .ref bk1])), (su1, .inr (8, [.int (zi p1), .int (zi d1), .int (zi q1)])), (bk1, .inr (0, [.ref bu1, .ref bl1, .int (zi n1)])), (bu1, ai κ 8 u1), (bl1, ai κ 8 lo1), (st2, .inr (6, [.ref su2, .ref bk2])), (su2, .inr (8, [.int (zi p2), .int (zi d2), .int (zi q2)])), (bk2, .inr (0, [.ref bu2, .ref bl2, .int (zi n2)])), (bu2, ai κ 8 u2), (bl2, ai κ 8 lo2), (st3, .inr (6, [.ref su3, .ref bk3])), (su3, .inr (8, [.int (zi p3), .int (zi d3), .int (zi q3)])), (bk3, .inr (0, [.ref bu3, .ref bl3, .int (zi n3)])), (bu3, ai κ 8 u3), (bl3, ai κ 8 lo3), (st, .inr (6, [.ref su, .ref bk])), (su, .inr (8, [.int (zi p), .int (zi d), .int (zi q)])), (bk, .inr (0, [.ref bu, .ref bl, .int (zi n)])), (bu, ai κ 8 u), (bl, ai κ 8 lo)]) E f_X3_18 t_X3_1 0 rfl rfl rfl (Nat.le_of_ble_eq_true rfl) rfl dX3_takeBack_40 ?_
  refine z_aload_n E 1 rfl rfl dX3_takeBack_43 ?_
  refine z_aload_n E 0 rfl rfl dX3_takeBack_44 ?_
  refine z_get E f_X3_11 0 rfl rfl dX3_takeBack_45 ?_
  refine z_aload_n E 0 rfl rfl dX3_takeBack_48 ?_
  refine z_get E f_X3_18 0 rfl rfl dX3_takeBack_49 ?_
  refine z_aald (v := st1) E 1 rfl (Nat.le_of_ble_eq_true rfl) (by decide) (by decide) rfl dX3_takeBack_52 ?_
  refine z_callVv (As := [.ref st1]) (rest := []) (wr := [(h0, .inr (3, [.ref ha, .int (zi 1)])), (ha, ar κ 4 (rf4 (some st0) (some st1) (some st2) (some st3))), (st0, .inr (6, [.ref su0, .ref bk0])), (su0, .inr (8, [.int (zi p0), .int (zi d0), .int (zi q0)])), (bk0, .inr (0, [.ref bu0, .ref bl0, .int (zi n0)])), (bu0, ai κ 8 u0), (bl0, ai κ 8 lo0), (st2, .inr (6, [.ref su2, .ref bk2])), (su2, .inr (8, [.int (zi p2), .int (zi d2), .int (zi q2)])), (bk2, .inr (0, [.ref bu2, .ref bl2, .int (zi n2)])), (bu2, ai κ 8 u2), (bl2, ai κ 8 lo2), (st3, .inr (6, [.ref su3, .ref bk3])), (su3, .inr (8, [.int (zi p3), .int (zi d3), .int (zi q3)])), (bk3, .inr (0, [.ref bu3, .ref bl3, .int (zi n3)])), (bu3, ai κ 8 u3), (bl3, ai κ 8 lo3)]) E (c_X6_copyFrom l D κ st su bk bu bl p d q n u lo st1 su1 bk1 bu1 bl1 p1 d1 q1 n1 u1 lo1 (by omega)) m_X3_25 ⟨Nat.le_of_ble_eq_true rfl, Nat.le_of_ble_eq_true rfl⟩ ⟨rfl, rfl⟩ [22, 23, 24, 25, 26, 7, 8, 9, 10, 11] [0, 1, 2, 3, 4, 5, 6, 12, 13, 14, 15, 16, 17, 18, 19, 20, 21] rfl rfl rfl rfl (by decide) rfl rfl rfl rfl (Nat.le_of_ble_eq_true rfl) dX3_takeBack_53 ⟨Nat.le_of_ble_eq_true rfl, Nat.le_of_ble_eq_true rfl⟩ (fun  w1 hq => ?_)
  obtain ⟨u'_1, lo'_2, hj_53, rfl⟩ := hq
  refine Zg.perm (ws' := [(h0, .inr (3, [.ref ha, .int (zi 1)])), (ha, ar κ 4 (rf4 (some st0) (some st1) (some st2) (some st3))), (st0, .inr (6, [.ref su0, .ref bk0])), (su0, .inr (8, [.int (zi p0), .int (zi d0), .int (zi q0)])), (bk0, .inr (0, [.ref bu0, .ref bl0, .int (zi n0)])), (bu0, ai κ 8 u0), (bl0, ai κ 8 lo0), (st1, .inr (6, [.ref su1, .ref bk1])), (su1, .inr (8, [.int (zi p1), .int (zi d1), .int (zi q1)])), (bk1, .inr (0, [.ref bu1, .ref bl1, .int (zi n1)])), (bu1, ai κ 8 u1), (bl1, ai κ 8 lo1), (st2, .inr (6, [.ref su2, .ref bk2])), (su2, .inr (8, [.int (zi p2), .int (zi d2), .int (zi q2)])), (bk2, .inr (0, [.ref bu2, .ref bl2, .int (zi n2)])), (bu2, ai κ 8 u2), (bl2, ai κ 8 lo2), (st3, .inr (6, [.ref su3, .ref bk3])), (su3, .inr (8, [.int (zi p3), .int (zi d3), .int (zi q3)])), (bk3, .inr (0, [.ref bu3, .ref bl3, .int (zi n3)])), (bu3, ai κ 8 u3), (bl3, ai κ 8 lo3), (st, .inr (6, [.ref su, .ref bk])), (su, .inr (8, [.int (zi p1), .int (zi d1), .int (zi q1)])), (bk, .inr (0, [.ref bu, .ref bl, .int (zi n1)])), (bu, ai κ 8 u'_1), (bl, ai κ 8 lo'_2)]) [0, 1, 2, 3, 4, 5, 6, 22, 23, 24, 25, 26, 7, 8, 9, 10, 11, 12, 13, 14, 15, 16, 17, 18, 19, 20, 21] rfl rfl ?_
  exact fin _ _ _ (⟨_, _, hj_53, rfl⟩) dX3_takeBack_56
abbrev rm_X3_takeBack3 : Room := { frames := 3, cells := 0, slots := 0, locals := 66 }
set_option maxRecDepth 100000 in
theorem c_X3_takeBack3 (l : Launch) (D : va_G) (κ : Nat → ClassId) (h0 : Nat) (ha : Nat) (st0 : Nat) (su0 : Nat) (bk0 : Nat) (bu0 : Nat) (bl0 : Nat) (p0 : Int) (d0 : Int) (q0 : Int) (n0 : Int) (u0 : Int → Int) (lo0 : Int → Int) (st1 : Nat) (su1 : Nat) (bk1 : Nat) (bu1 : Nat) (bl1 : Nat) (p1 : Int) (d1 : Int) (q1 : Int) (n1 : Int) (u1 : Int → Int) (lo1 : Int → Int) (st2 : Nat) (su2 : Nat) (bk2 : Nat) (bu2 : Nat) (bl2 : Nat) (p2 : Int) (d2 : Int) (q2 : Int) (n2 : Int) (u2 : Int → Int) (lo2 : Int → Int) (st3 : Nat) (su3 : Nat) (bk3 : Nat) (bu3 : Nat) (bl3 : Nat) (p3 : Int) (d3 : Int) (q3 : Int) (n3 : Int) (u3 : Int → Int) (lo3 : Int → Int) (st : Nat) (su : Nat) (bk : Nat) (bu : Nat) (bl : Nat) (p : Int) (d : Int) (q : Int) (n : Int) (u : Int → Int) (lo : Int → Int) (hn : 0 ≤ n2 ∧ n2 ≤ 8) : ZV l yX3_takeBack cX3_takeBack 2 rm_X3_takeBack3 D κ [.ref h0, .ref st] [(h0, .inr (3, [.ref ha, .int (zi 3)])), (ha, ar κ 4 (rf4 (some st0) (some st1) (some st2) (some st3))), (st0, .inr (6, [.ref su0, .ref bk0])), (su0, .inr (8, [.int (zi p0), .int (zi d0), .int (zi q0)])), (bk0, .inr (0, [.ref bu0, .ref bl0, .int (zi n0)])), (bu0, ai κ 8 u0), (bl0, ai κ 8 lo0), (st1, .inr (6, [.ref su1, .ref bk1])), (su1, .inr (8, [.int (zi p1), .int (zi d1), .int (zi q1)])), (bk1, .inr (0, [.ref bu1, .ref bl1, .int (zi n1)])), (bu1, ai κ 8 u1), (bl1, ai κ 8 lo1), (st2, .inr (6, [.ref su2, .ref bk2])), (su2, .inr (8, [.int (zi p2), .int (zi d2), .int (zi q2)])), (bk2, .inr (0, [.ref bu2, .ref bl2, .int (zi n2)])), (bu2, ai κ 8 u2), (bl2, ai κ 8 lo2), (st3, .inr (6, [.ref su3, .ref bk3])), (su3, .inr (8, [.int (zi p3), .int (zi d3), .int (zi q3)])), (bk3, .inr (0, [.ref bu3, .ref bl3, .int (zi n3)])), (bu3, ai κ 8 u3), (bl3, ai κ 8 lo3), (st, .inr (6, [.ref su, .ref bk])), (su, .inr (8, [.int (zi p), .int (zi d), .int (zi q)])), (bk, .inr (0, [.ref bu, .ref bl, .int (zi n)])), (bu, ai κ 8 u), (bl, ai κ 8 lo)] (fun w => ∃ u' : Int → Int, ∃ lo' : Int → Int, (∀ i : Int, 0 ≤ i → i < n2 → u' i = u2 i ∧ lo' i = lo2 i) ∧ [(h0, .inr (3, [.ref ha, .int (zi 2)])), (ha, ar κ 4 (rf4 (some st0) (some st1) (some st2) (some st3))), (st0, .inr (6, [.ref su0, .ref bk0])), (su0, .inr (8, [.int (zi p0), .int (zi d0), .int (zi q0)])), (bk0, .inr (0, [.ref bu0, .ref bl0, .int (zi n0)])), (bu0, ai κ 8 u0), (bl0, ai κ 8 lo0), (st1, .inr (6, [.ref su1, .ref bk1])), (su1, .inr (8, [.int (zi p1), .int (zi d1), .int (zi q1)])), (bk1, .inr (0, [.ref bu1, .ref bl1, .int (zi n1)])), (bu1, ai κ 8 u1), (bl1, ai κ 8 lo1), (st2, .inr (6, [.ref su2, .ref bk2])), (su2, .inr (8, [.int (zi p2), .int (zi d2), .int (zi q2)])), (bk2, .inr (0, [.ref bu2, .ref bl2, .int (zi n2)])), (bu2, ai κ 8 u2), (bl2, ai κ 8 lo2), (st3, .inr (6, [.ref su3, .ref bk3])), (su3, .inr (8, [.int (zi p3), .int (zi d3), .int (zi q3)])), (bk3, .inr (0, [.ref bu3, .ref bl3, .int (zi n3)])), (bu3, ai κ 8 u3), (bl3, ai κ 8 lo3), (st, .inr (6, [.ref su, .ref bk])), (su, .inr (8, [.int (zi p2), .int (zi d2), .int (zi q2)])), (bk, .inr (0, [.ref bu, .ref bl, .int (zi n2)])), (bu, ai κ 8 u'), (bl, ai κ 8 lo')] = w) := by
  refine ZV.enter (own := RX3) rfl pn_X3_takeBack (Nat.le_of_ble_eq_true rfl) (fun X E fin => ?_)
  show Zg X [(h0, .inr (3, [.ref ha, .int (zi 3)])), (ha, ar κ 4 (rf4 (some st0) (some st1) (some st2) (some st3))), (st0, .inr (6, [.ref su0, .ref bk0])), (su0, .inr (8, [.int (zi p0), .int (zi d0), .int (zi q0)])), (bk0, .inr (0, [.ref bu0, .ref bl0, .int (zi n0)])), (bu0, ai κ 8 u0), (bl0, ai κ 8 lo0), (st1, .inr (6, [.ref su1, .ref bk1])), (su1, .inr (8, [.int (zi p1), .int (zi d1), .int (zi q1)])), (bk1, .inr (0, [.ref bu1, .ref bl1, .int (zi n1)])), (bu1, ai κ 8 u1), (bl1, ai κ 8 lo1), (st2, .inr (6, [.ref su2, .ref bk2])), (su2, .inr (8, [.int (zi p2), .int (zi d2), .int (zi q2)])), (bk2, .inr (0, [.ref bu2, .ref bl2, .int (zi n2)])), (bu2, ai κ 8 u2), (bl2, ai κ 8 lo2), (st3, .inr (6, [.ref su3, .ref bk3])), (su3, .inr (8, [.int (zi p3), .int (zi d3), .int (zi q3)])), (bk3, .inr (0, [.ref bu3, .ref bl3, .int (zi n3)])), (bu3, ai κ 8 u3), (bl3, ai κ 8 lo3), (st, .inr (6, [.ref su, .ref bk])), (su, .inr (8, [.int (zi p), .int (zi d), .int (zi q)])), (bk, .inr (0, [.ref bu, .ref bl, .int (zi n)])), (bu, ai κ 8 u), (bl, ai κ 8 lo)] 0 0 0 [(0, .ref h0), (1, .ref st)] []
  refine z_aload_n E 0 rfl rfl dX3_takeBack_0 ?_
  refine z_get E f_X3_18 0 rfl rfl dX3_takeBack_1 ?_
  refine z_if_le (tgt := 56) E (by omega) dX3_takeBack_4 (by decide) (fun h => absurd h (by decide)) (fun _ => ?_)
  refine z_aload_n E 0 rfl rfl dX3_takeBack_7 ?_
  refine z_get E f_X3_18 0 rfl rfl dX3_takeBack_8 ?_
  refine z_aload_n E 0 rfl rfl dX3_takeBack_11 ?_
  refine z_get E f_X3_11 0 rfl rfl dX3_takeBack_12 ?_
  refine z_alen_ar E 1 rfl dX3_takeBack_15 ?_
  refine z_ic_gt (tgt := 56) E (by omega) (by omega) dX3_takeBack_16 (by decide) (fun h => absurd h (by decide)) (fun _ => ?_)
  refine z_aload_n E 0 rfl rfl dX3_takeBack_19 ?_
  refine z_get E f_X3_11 0 rfl rfl dX3_takeBack_20 ?_
  refine z_aload_n E 0 rfl rfl dX3_takeBack_23 ?_
  refine z_get E f_X3_18 0 rfl rfl dX3_takeBack_24 ?_
  refine z_iconst E dX3_takeBack_27 ?_
  refine z_isub E dX3_takeBack_28 ?_
  refine z_aald (v := st2) E 1 rfl (Nat.le_of_ble_eq_true rfl) (by decide) (by decide) rfl dX3_takeBack_29 ?_
  refine z_ifnull E dX3_takeBack_30 ?_
  refine z_aload_n E 0 rfl rfl dX3_takeBack_33 ?_
  refine z_dup E rfl dX3_takeBack_34 ?_
  refine z_get E f_X3_18 0 rfl rfl dX3_takeBack_35 ?_
  refine z_iconst E dX3_takeBack_38 ?_
  refine z_isub E dX3_takeBack_39 ?_
  refine z_put (ws' := [(h0, .inr (3, [.ref ha, .int (zi 2)])), (ha, ar κ 4 (rf4 (some st0) (some st1) (some st2) (some st3))), (st0, .inr (6, [.ref su0, .ref bk0])), (su0, .inr (8, [.int (zi p0), .int (zi d0), .int (zi q0)])), (bk0, .inr (0, [.ref bu0, .ref bl0, .int (zi n0)])), (bu0, ai κ 8 u0), (bl0, ai κ 8 lo0), (st1, .inr (6, [.ref su1, .ref bk1])), (su1, .inr (8, [.int (zi p1), .int (zi d1), .int (zi q1)])), (bk1, .inr (0, [.ref bu1, .ref bl1, .int (zi n1)])), (bu1, ai κ 8 u1), (bl1, ai κ 8 lo1), (st2, .inr (6, [.ref su2, .ref bk2])), (su2, .inr (8, [.int (zi p2), .int (zi d2), .int (zi q2)])), (bk2, .inr (0, [.ref bu2, .ref bl2, .int (zi n2)])), (bu2, ai κ 8 u2), (bl2, ai κ 8 lo2), (st3, .inr (6, [.ref su3, .ref bk3])), (su3, .inr (8, [.int (zi p3), .int (zi d3), .int (zi q3)])), (bk3, .inr (0, [.ref bu3, .ref bl3, .int (zi n3)])), (bu3, ai κ 8 u3), (bl3, ai κ 8 lo3), (st, .inr (6, [.ref su, .ref bk])), (su, .inr (8, [.int (zi p), .int (zi d), .int (zi q)])), (bk, .inr (0, [.ref bu, .ref bl, .int (zi n)])), (bu, ai κ 8 u), (bl, ai κ 8 lo)]) E f_X3_18 t_X3_1 0 rfl rfl rfl (Nat.le_of_ble_eq_true rfl) rfl dX3_takeBack_40 ?_
  refine z_aload_n E 1 rfl rfl dX3_takeBack_43 ?_
  refine z_aload_n E 0 rfl rfl dX3_takeBack_44 ?_
  refine z_get E f_X3_11 0 rfl rfl dX3_takeBack_45 ?_
  refine z_aload_n E 0 rfl rfl dX3_takeBack_48 ?_
  refine z_get E f_X3_18 0 rfl rfl dX3_takeBack_49 ?_
  refine z_aald (v := st2) E 1 rfl (Nat.le_of_ble_eq_true rfl) (by decide) (by decide) rfl dX3_takeBack_52 ?_
  refine z_callVv (As := [.ref st2]) (rest := []) (wr := [(h0, .inr (3, [.ref ha, .int (zi 2)])), (ha, ar κ 4 (rf4 (some st0) (some st1) (some st2) (some st3))), (st0, .inr (6, [.ref su0, .ref bk0])), (su0, .inr (8, [.int (zi p0), .int (zi d0), .int (zi q0)])), (bk0, .inr (0, [.ref bu0, .ref bl0, .int (zi n0)])), (bu0, ai κ 8 u0), (bl0, ai κ 8 lo0), (st1, .inr (6, [.ref su1, .ref bk1])), (su1, .inr (8, [.int (zi p1), .int (zi d1), .int (zi q1)])), (bk1, .inr (0, [.ref bu1, .ref bl1, .int (zi n1)])), (bu1, ai κ 8 u1), (bl1, ai κ 8 lo1), (st3, .inr (6, [.ref su3, .ref bk3])), (su3, .inr (8, [.int (zi p3), .int (zi d3), .int (zi q3)])), (bk3, .inr (0, [.ref bu3, .ref bl3, .int (zi n3)])), (bu3, ai κ 8 u3), (bl3, ai κ 8 lo3)]) E (c_X6_copyFrom l D κ st su bk bu bl p d q n u lo st2 su2 bk2 bu2 bl2 p2 d2 q2 n2 u2 lo2 (by omega)) m_X3_25 ⟨Nat.le_of_ble_eq_true rfl, Nat.le_of_ble_eq_true rfl⟩ ⟨rfl, rfl⟩ [22, 23, 24, 25, 26, 12, 13, 14, 15, 16] [0, 1, 2, 3, 4, 5, 6, 7, 8, 9, 10, 11, 17, 18, 19, 20, 21] rfl rfl rfl rfl (by decide) rfl rfl rfl rfl (Nat.le_of_ble_eq_true rfl) dX3_takeBack_53 ⟨Nat.le_of_ble_eq_true rfl, Nat.le_of_ble_eq_true rfl⟩ (fun  w1 hq => ?_)
  obtain ⟨u'_1, lo'_2, hj_53, rfl⟩ := hq
  refine Zg.perm (ws' := [(h0, .inr (3, [.ref ha, .int (zi 2)])), (ha, ar κ 4 (rf4 (some st0) (some st1) (some st2) (some st3))), (st0, .inr (6, [.ref su0, .ref bk0])), (su0, .inr (8, [.int (zi p0), .int (zi d0), .int (zi q0)])), (bk0, .inr (0, [.ref bu0, .ref bl0, .int (zi n0)])), (bu0, ai κ 8 u0), (bl0, ai κ 8 lo0), (st1, .inr (6, [.ref su1, .ref bk1])), (su1, .inr (8, [.int (zi p1), .int (zi d1), .int (zi q1)])), (bk1, .inr (0, [.ref bu1, .ref bl1, .int (zi n1)])), (bu1, ai κ 8 u1), (bl1, ai κ 8 lo1), (st2, .inr (6, [.ref su2, .ref bk2])), (su2, .inr (8, [.int (zi p2), .int (zi d2), .int (zi q2)])), (bk2, .inr (0, [.ref bu2, .ref bl2, .int (zi n2)])), (bu2, ai κ 8 u2), (bl2, ai κ 8 lo2), (st3, .inr (6, [.ref su3, .ref bk3])), (su3, .inr (8, [.int (zi p3), .int (zi d3), .int (zi q3)])), (bk3, .inr (0, [.ref bu3, .ref bl3, .int (zi n3)])), (bu3, ai κ 8 u3), (bl3, ai κ 8 lo3), (st, .inr (6, [.ref su, .ref bk])), (su, .inr (8, [.int (zi p2), .int (zi d2), .int (zi q2)])), (bk, .inr (0, [.ref bu, .ref bl, .int (zi n2)])), (bu, ai κ 8 u'_1), (bl, ai κ 8 lo'_2)]) [0, 1, 2, 3, 4, 5, 6, 7, 8, 9, 10, 11, 22, 23, 24, 25, 26, 12, 13, 14, 15, 16, 17, 18, 19, 20, 21] rfl rfl ?_
  exact fin _ _ _ (⟨_, _, hj_53, rfl⟩) dX3_takeBack_56
abbrev rm_X3_takeBack4 : Room := { frames := 3, cells := 0, slots := 0, locals := 66 }
set_option maxRecDepth 100000 in
theorem c_X3_takeBack4 (l : Launch) (D : va_G) (κ : Nat → ClassId) (h0 : Nat) (ha : Nat) (st0 : Nat) (su0 : Nat) (bk0 : Nat) (bu0 : Nat) (bl0 : Nat) (p0 : Int) (d0 : Int) (q0 : Int) (n0 : Int) (u0 : Int → Int) (lo0 : Int → Int) (st1 : Nat) (su1 : Nat) (bk1 : Nat) (bu1 : Nat) (bl1 : Nat) (p1 : Int) (d1 : Int) (q1 : Int) (n1 : Int) (u1 : Int → Int) (lo1 : Int → Int) (st2 : Nat) (su2 : Nat) (bk2 : Nat) (bu2 : Nat) (bl2 : Nat) (p2 : Int) (d2 : Int) (q2 : Int) (n2 : Int) (u2 : Int → Int) (lo2 : Int → Int) (st3 : Nat) (su3 : Nat) (bk3 : Nat) (bu3 : Nat) (bl3 : Nat) (p3 : Int) (d3 : Int) (q3 : Int) (n3 : Int) (u3 : Int → Int) (lo3 : Int → Int) (st : Nat) (su : Nat) (bk : Nat) (bu : Nat) (bl : Nat) (p : Int) (d : Int) (q : Int) (n : Int) (u : Int → Int) (lo : Int → Int) (hn : 0 ≤ n3 ∧ n3 ≤ 8) : ZV l yX3_takeBack cX3_takeBack 2 rm_X3_takeBack4 D κ [.ref h0, .ref st] [(h0, .inr (3, [.ref ha, .int (zi 4)])), (ha, ar κ 4 (rf4 (some st0) (some st1) (some st2) (some st3))), (st0, .inr (6, [.ref su0, .ref bk0])), (su0, .inr (8, [.int (zi p0), .int (zi d0), .int (zi q0)])), (bk0, .inr (0, [.ref bu0, .ref bl0, .int (zi n0)])), (bu0, ai κ 8 u0), (bl0, ai κ 8 lo0), (st1, .inr (6, [.ref su1, .ref bk1])), (su1, .inr (8, [.int (zi p1), .int (zi d1), .int (zi q1)])), (bk1, .inr (0, [.ref bu1, .ref bl1, .int (zi n1)])), (bu1, ai κ 8 u1), (bl1, ai κ 8 lo1), (st2, .inr (6, [.ref su2, .ref bk2])), (su2, .inr (8, [.int (zi p2), .int (zi d2), .int (zi q2)])), (bk2, .inr (0, [.ref bu2, .ref bl2, .int (zi n2)])), (bu2, ai κ 8 u2), (bl2, ai κ 8 lo2), (st3, .inr (6, [.ref su3, .ref bk3])), (su3, .inr (8, [.int (zi p3), .int (zi d3), .int (zi q3)])), (bk3, .inr (0, [.ref bu3, .ref bl3, .int (zi n3)])), (bu3, ai κ 8 u3), (bl3, ai κ 8 lo3), (st, .inr (6, [.ref su, .ref bk])), (su, .inr (8, [.int (zi p), .int (zi d), .int (zi q)])), (bk, .inr (0, [.ref bu, .ref bl, .int (zi n)])), (bu, ai κ 8 u), (bl, ai κ 8 lo)] (fun w => ∃ u' : Int → Int, ∃ lo' : Int → Int, (∀ i : Int, 0 ≤ i → i < n3 → u' i = u3 i ∧ lo' i = lo3 i) ∧ [(h0, .inr (3, [.ref ha, .int (zi 3)])), (ha, ar κ 4 (rf4 (some st0) (some st1) (some st2) (some st3))), (st0, .inr (6, [.ref su0, .ref bk0])), (su0, .inr (8, [.int (zi p0), .int (zi d0), .int (zi q0)])), (bk0, .inr (0, [.ref bu0, .ref bl0, .int (zi n0)])), (bu0, ai κ 8 u0), (bl0, ai κ 8 lo0), (st1, .inr (6, [.ref su1, .ref bk1])), (su1, .inr (8, [.int (zi p1), .int (zi d1), .int (zi q1)])), (bk1, .inr (0, [.ref bu1, .ref bl1, .int (zi n1)])), (bu1, ai κ 8 u1), (bl1, ai κ 8 lo1), (st2, .inr (6, [.ref su2, .ref bk2])), (su2, .inr (8, [.int (zi p2), .int (zi d2), .int (zi q2)])), (bk2, .inr (0, [.ref bu2, .ref bl2, .int (zi n2)])), (bu2, ai κ 8 u2), (bl2, ai κ 8 lo2), (st3, .inr (6, [.ref su3, .ref bk3])), (su3, .inr (8, [.int (zi p3), .int (zi d3), .int (zi q3)])), (bk3, .inr (0, [.ref bu3, .ref bl3, .int (zi n3)])), (bu3, ai κ 8 u3), (bl3, ai κ 8 lo3), (st, .inr (6, [.ref su, .ref bk])), (su, .inr (8, [.int (zi p3), .int (zi d3), .int (zi q3)])), (bk, .inr (0, [.ref bu, .ref bl, .int (zi n3)])), (bu, ai κ 8 u'), (bl, ai κ 8 lo')] = w) := by
  refine ZV.enter (own := RX3) rfl pn_X3_takeBack (Nat.le_of_ble_eq_true rfl) (fun X E fin => ?_)
  show Zg X [(h0, .inr (3, [.ref ha, .int (zi 4)])), (ha, ar κ 4 (rf4 (some st0) (some st1) (some st2) (some st3))), (st0, .inr (6, [.ref su0, .ref bk0])), (su0, .inr (8, [.int (zi p0), .int (zi d0), .int (zi q0)])), (bk0, .inr (0, [.ref bu0, .ref bl0, .int (zi n0)])), (bu0, ai κ 8 u0), (bl0, ai κ 8 lo0), (st1, .inr (6, [.ref su1, .ref bk1])), (su1, .inr (8, [.int (zi p1), .int (zi d1), .int (zi q1)])), (bk1, .inr (0, [.ref bu1, .ref bl1, .int (zi n1)])), (bu1, ai κ 8 u1), (bl1, ai κ 8 lo1), (st2, .inr (6, [.ref su2, .ref bk2])), (su2, .inr (8, [.int (zi p2), .int (zi d2), .int (zi q2)])), (bk2, .inr (0, [.ref bu2, .ref bl2, .int (zi n2)])), (bu2, ai κ 8 u2), (bl2, ai κ 8 lo2), (st3, .inr (6, [.ref su3, .ref bk3])), (su3, .inr (8, [.int (zi p3), .int (zi d3), .int (zi q3)])), (bk3, .inr (0, [.ref bu3, .ref bl3, .int (zi n3)])), (bu3, ai κ 8 u3), (bl3, ai κ 8 lo3), (st, .inr (6, [.ref su, .ref bk])), (su, .inr (8, [.int (zi p), .int (zi d), .int (zi q)])), (bk, .inr (0, [.ref bu, .ref bl, .int (zi n)])), (bu, ai κ 8 u), (bl, ai κ 8 lo)] 0 0 0 [(0, .ref h0), (1, .ref st)] []
  refine z_aload_n E 0 rfl rfl dX3_takeBack_0 ?_
  refine z_get E f_X3_18 0 rfl rfl dX3_takeBack_1 ?_
  refine z_if_le (tgt := 56) E (by omega) dX3_takeBack_4 (by decide) (fun h => absurd h (by decide)) (fun _ => ?_)
  refine z_aload_n E 0 rfl rfl dX3_takeBack_7 ?_
  refine z_get E f_X3_18 0 rfl rfl dX3_takeBack_8 ?_
  refine z_aload_n E 0 rfl rfl dX3_takeBack_11 ?_
  refine z_get E f_X3_11 0 rfl rfl dX3_takeBack_12 ?_
  refine z_alen_ar E 1 rfl dX3_takeBack_15 ?_
  refine z_ic_gt (tgt := 56) E (by omega) (by omega) dX3_takeBack_16 (by decide) (fun h => absurd h (by decide)) (fun _ => ?_)
  refine z_aload_n E 0 rfl rfl dX3_takeBack_19 ?_
  refine z_get E f_X3_11 0 rfl rfl dX3_takeBack_20 ?_
  refine z_aload_n E 0 rfl rfl dX3_takeBack_23 ?_
  refine z_get E f_X3_18 0 rfl rfl dX3_takeBack_24 ?_
  refine z_iconst E dX3_takeBack_27 ?_
  refine z_isub E dX3_takeBack_28 ?_
  refine z_aald (v := st3) E 1 rfl (Nat.le_of_ble_eq_true rfl) (by decide) (by decide) rfl dX3_takeBack_29 ?_
  refine z_ifnull E dX3_takeBack_30 ?_
  refine z_aload_n E 0 rfl rfl dX3_takeBack_33 ?_
  refine z_dup E rfl dX3_takeBack_34 ?_
  refine z_get E f_X3_18 0 rfl rfl dX3_takeBack_35 ?_
  refine z_iconst E dX3_takeBack_38 ?_
  refine z_isub E dX3_takeBack_39 ?_
  refine z_put (ws' := [(h0, .inr (3, [.ref ha, .int (zi 3)])), (ha, ar κ 4 (rf4 (some st0) (some st1) (some st2) (some st3))), (st0, .inr (6, [.ref su0, .ref bk0])), (su0, .inr (8, [.int (zi p0), .int (zi d0), .int (zi q0)])), (bk0, .inr (0, [.ref bu0, .ref bl0, .int (zi n0)])), (bu0, ai κ 8 u0), (bl0, ai κ 8 lo0), (st1, .inr (6, [.ref su1, .ref bk1])), (su1, .inr (8, [.int (zi p1), .int (zi d1), .int (zi q1)])), (bk1, .inr (0, [.ref bu1, .ref bl1, .int (zi n1)])), (bu1, ai κ 8 u1), (bl1, ai κ 8 lo1), (st2, .inr (6, [.ref su2, .ref bk2])), (su2, .inr (8, [.int (zi p2), .int (zi d2), .int (zi q2)])), (bk2, .inr (0, [.ref bu2, .ref bl2, .int (zi n2)])), (bu2, ai κ 8 u2), (bl2, ai κ 8 lo2), (st3, .inr (6, [.ref su3, .ref bk3])), (su3, .inr (8, [.int (zi p3), .int (zi d3), .int (zi q3)])), (bk3, .inr (0, [.ref bu3, .ref bl3, .int (zi n3)])), (bu3, ai κ 8 u3), (bl3, ai κ 8 lo3), (st, .inr (6, [.ref su, .ref bk])), (su, .inr (8, [.int (zi p), .int (zi d), .int (zi q)])), (bk, .inr (0, [.ref bu, .ref bl, .int (zi n)])), (bu, ai κ 8 u), (bl, ai κ 8 lo)]) E f_X3_18 t_X3_1 0 rfl rfl rfl (Nat.le_of_ble_eq_true rfl) rfl dX3_takeBack_40 ?_
  refine z_aload_n E 1 rfl rfl dX3_takeBack_43 ?_
  refine z_aload_n E 0 rfl rfl dX3_takeBack_44 ?_
  refine z_get E f_X3_11 0 rfl rfl dX3_takeBack_45 ?_
  refine z_aload_n E 0 rfl rfl dX3_takeBack_48 ?_
  refine z_get E f_X3_18 0 rfl rfl dX3_takeBack_49 ?_
  refine z_aald (v := st3) E 1 rfl (Nat.le_of_ble_eq_true rfl) (by decide) (by decide) rfl dX3_takeBack_52 ?_
  refine z_callVv (As := [.ref st3]) (rest := []) (wr := [(h0, .inr (3, [.ref ha, .int (zi 3)])), (ha, ar κ 4 (rf4 (some st0) (some st1) (some st2) (some st3))), (st0, .inr (6, [.ref su0, .ref bk0])), (su0, .inr (8, [.int (zi p0), .int (zi d0), .int (zi q0)])), (bk0, .inr (0, [.ref bu0, .ref bl0, .int (zi n0)])), (bu0, ai κ 8 u0), (bl0, ai κ 8 lo0), (st1, .inr (6, [.ref su1, .ref bk1])), (su1, .inr (8, [.int (zi p1), .int (zi d1), .int (zi q1)])), (bk1, .inr (0, [.ref bu1, .ref bl1, .int (zi n1)])), (bu1, ai κ 8 u1), (bl1, ai κ 8 lo1), (st2, .inr (6, [.ref su2, .ref bk2])), (su2, .inr (8, [.int (zi p2), .int (zi d2), .int (zi q2)])), (bk2, .inr (0, [.ref bu2, .ref bl2, .int (zi n2)])), (bu2, ai κ 8 u2), (bl2, ai κ 8 lo2)]) E (c_X6_copyFrom l D κ st su bk bu bl p d q n u lo st3 su3 bk3 bu3 bl3 p3 d3 q3 n3 u3 lo3 (by omega)) m_X3_25 ⟨Nat.le_of_ble_eq_true rfl, Nat.le_of_ble_eq_true rfl⟩ ⟨rfl, rfl⟩ [22, 23, 24, 25, 26, 17, 18, 19, 20, 21] [0, 1, 2, 3, 4, 5, 6, 7, 8, 9, 10, 11, 12, 13, 14, 15, 16] rfl rfl rfl rfl (by decide) rfl rfl rfl rfl (Nat.le_of_ble_eq_true rfl) dX3_takeBack_53 ⟨Nat.le_of_ble_eq_true rfl, Nat.le_of_ble_eq_true rfl⟩ (fun  w1 hq => ?_)
  obtain ⟨u'_1, lo'_2, hj_53, rfl⟩ := hq
  refine Zg.perm (ws' := [(h0, .inr (3, [.ref ha, .int (zi 3)])), (ha, ar κ 4 (rf4 (some st0) (some st1) (some st2) (some st3))), (st0, .inr (6, [.ref su0, .ref bk0])), (su0, .inr (8, [.int (zi p0), .int (zi d0), .int (zi q0)])), (bk0, .inr (0, [.ref bu0, .ref bl0, .int (zi n0)])), (bu0, ai κ 8 u0), (bl0, ai κ 8 lo0), (st1, .inr (6, [.ref su1, .ref bk1])), (su1, .inr (8, [.int (zi p1), .int (zi d1), .int (zi q1)])), (bk1, .inr (0, [.ref bu1, .ref bl1, .int (zi n1)])), (bu1, ai κ 8 u1), (bl1, ai κ 8 lo1), (st2, .inr (6, [.ref su2, .ref bk2])), (su2, .inr (8, [.int (zi p2), .int (zi d2), .int (zi q2)])), (bk2, .inr (0, [.ref bu2, .ref bl2, .int (zi n2)])), (bu2, ai κ 8 u2), (bl2, ai κ 8 lo2), (st3, .inr (6, [.ref su3, .ref bk3])), (su3, .inr (8, [.int (zi p3), .int (zi d3), .int (zi q3)])), (bk3, .inr (0, [.ref bu3, .ref bl3, .int (zi n3)])), (bu3, ai κ 8 u3), (bl3, ai κ 8 lo3), (st, .inr (6, [.ref su, .ref bk])), (su, .inr (8, [.int (zi p3), .int (zi d3), .int (zi q3)])), (bk, .inr (0, [.ref bu, .ref bl, .int (zi n3)])), (bu, ai κ 8 u'_1), (bl, ai κ 8 lo'_2)]) [0, 1, 2, 3, 4, 5, 6, 7, 8, 9, 10, 11, 12, 13, 14, 15, 16, 22, 23, 24, 25, 26, 17, 18, 19, 20, 21] rfl rfl ?_
  exact fin _ _ _ (⟨_, _, hj_53, rfl⟩) dX3_takeBack_56
