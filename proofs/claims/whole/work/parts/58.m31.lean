/-! THE CLAIM OUT OF ONE WALK OF THE LAW'S BODY. Your part is whole_start (and what it stands on); all else here is the same for every law, but numbers. -/
def R_law : String := "SurdFractionsLaw"
def lw_P (b : Addr) (xs : List Int32) (args : Array Value) (s : State) : Prop := args = #[.ref b] ∧ s.IntsAt b xs ∧ xs.length ≤ 2048 ∧ (Jvm.Cond.and given_1 narrow_1).before args s = true
def lw_Q (_ : Array Value) (s : State) (o : Outcome) (t : State) : Prop := o = .returned (some (.int 1)) ∧ Framed s o t [] 600000 7302250
def lw_Z (below : List Frame) (a : Array Value) (s : State) : State → Prop := fun t => ∃ o, t.status = .running ∧ Ended t below o ∧ lw_Q a s o t
/-- the law's own end, with 1 on the stack, nothing written that was there before, its room as the claim has it -/
theorem lw_ret {p : Program} {l : Launch} {e : Env} {s : State} {m : MethodId} {below : List Frame} {meth : Method} {c : Code} {b : Nat} (hx : p.tables.exec = Jvm.exec) (hb : c.code = code) (hr : meth.sig.returnType = ret) (hlocks : meth.locks = false) {pc : Nat} {H : Heap} {ls : Array Slot} (hdg : decode code pc = .ok (.ireturn, 1)) : W p l e room_1 s m #[Value.ref b] below meth c H [] 600000 7302250 (lw_Z below #[Value.ref b] s) (F0 m pc ls [.int 1]) := by
  intro T hT X
  obtain ⟨fs, hret, hrun, hended, hW, hframe⟩ := X.leave (v := some (.int 1)) (hlocks := hlocks) (fun h => by rw [hr] at h; cases h)
  have hmeth' : T.vm.method? m = some meth := X.method'
  refine ⟨T.setFrames fs, ?_, .returned (some (.int 1)), hrun, hended, rfl, ⟨_, rfl⟩, hW, hframe⟩
  jvm_step X.here [X.here.top, hx, hb, hdg, hmeth', hr, ret, narrow_b1]
  (try refine ⟨rfl, ?_⟩); (try refine ⟨rfl, ?_⟩)
  first | (intro acts; rw [hret _ acts rfl rfl rfl]) | rw [hret _ _ rfl rfl rfl]
  exact Steps.refl _
/-- what holds at the law's entry: the machine, the code, the tables' words (any of lw_tbl by 'hts w (by decide +kernel)'), the script of L ints xs at the cell b, what the Statement gives of the start (any of its parts by flat_of_before) -/
def lw_At (p : Program) (s : State) (m : MethodId) (meth : Method) (c : Code) (b L : Nat) (xs : Nat → Int32) : Prop :=
  p.tables.exec = Jvm.exec ∧ c.code = code ∧ meth.sig.returnType = ret ∧ c.maxLocals = 4 ∧ s.vm.findClass R_law = some m.cls ∧ (∀ w ∈ lw_tbl, w.before #[Value.ref b] s = true) ∧ va_X b L xs s s.heap ∧ b < s.heap.size ∧ meth.locks = false ∧ (Jvm.Cond.and given_1 narrow_1).before #[Value.ref b] s = true
-- the walk of the law's entry
set_option maxRecDepth 100000 in
theorem whole_start {p : Program} {e : Env} {s : State} {m : MethodId} {below : List Frame} {meth : Method} {c : Code} (l : Launch) (hflags : l.flags = flags0) {b L : Nat} {xs : Nat → Int32} (hL : L ≤ 2048) (C0 : lw_At p s m meth c b L xs) : W p l e room_1 s m #[Value.ref b] below meth c s.heap [] 0 0 (lw_Z below #[Value.ref b] s) (entryFrame m ([Value.ref b] : List Value).toArray 4) := by
  obtain ⟨hx, hb, hr, hml, hown, hts, hX, hbl, hlocks, hgv⟩ := id C0
  have htz : ∀ w ∈ zB, w.before #[Value.ref b] s = true := fun w hw => hts w (List.mem_filter.mp hw).1
  obtain ⟨D, κ, hK⟩ := zK_of hts
  have E : ZE (p, l, e, room_1, s, m, #[Value.ref b], below, meth, c, lw_Z below #[Value.ref b] s, D, κ, (fun q : Nat => s.heap.size ≤ q), 4) RL cL_law 4 room_1 l D κ := ⟨⟨hx, hb, hml, hown, htz⟩, hlocks, hK, rfl, fun _ h => h, rfl, rfl, rfl, rfl⟩
  have Sx : ZS (p, l, e, room_1, s, m, #[Value.ref b], below, meth, c, lw_Z below #[Value.ref b] s, D, κ, (fun q : Nat => s.heap.size ≤ q), 4) b L xs := ⟨hX, hbl, Nat.not_le.mpr hbl⟩
  have fin : ∀ (ws : va_W) (lv : List (Nat × Value)), Zg (p, l, e, room_1, s, m, #[Value.ref b], below, meth, c, lw_Z below #[Value.ref b] s, D, κ, (fun q : Nat => s.heap.size ≤ q), 4) ws 50 2850 722 lv [] := fun ws lv H locs ls hP hD hS hl => by
    refine lv_iconst (v := 1) hx hb dL_law_722 (by decide) ?_
    refine va_forget (fun q hq => hS.2.2 q hq) ?_
    refine W.widen (k := 600000) (n := 7302250) (Nat.le_of_ble_eq_true rfl) (Nat.le_of_ble_eq_true rfl) ?_
    exact lw_ret hx hb hr hlocks dL_law_723
  have hP : va_P D vwCl [] s.heap := fun k q h => by rw [List.getElem?_nil] at h; cases h
  have hD : va_D (fun q : Nat => s.heap.size ≤ q) [] := ⟨fun i j p q h => (by rw [List.getElem?_nil] at h; cases h), fun k q h => (by rw [List.getElem?_nil] at h; cases h)⟩
  have hl := lv_entry ([.ref b]) (n := 4) (Nat.le_of_ble_eq_true rfl)
  rw [lg_entry_eq]
  refine (?_ : Zg (p, l, e, room_1, s, m, #[Value.ref b], below, meth, c, lw_Z below #[Value.ref b] s, D, κ, (fun q : Nat => s.heap.size ≤ q), 4) [] 0 0 0 [(0, .ref b)] []) s.heap [] _ hP hD va_S.rf hl
  generalize (p, l, e, room_1, s, m, #[Value.ref b], below, meth, c, lw_Z below #[Value.ref b] s, D, κ, (fun q : Nat => s.heap.size ≤ q), 4) = X at E Sx fin
  refine z_new E n_L_7 (Nat.le_of_ble_eq_true rfl) (Nat.le_of_ble_eq_true rfl) dL_law_0 (fun x0 => ?_)
  refine z_dup E rfl dL_law_3 ?_
  refine z_callIv (As := []) (rest := [.ref x0]) (wr := []) (k' := 42) (n' := 1462) E (RX_ini l D κ x0) m_L_9 ⟨Nat.le_of_ble_eq_true rfl, Nat.le_of_ble_eq_true rfl⟩ [0] [] rfl rfl rfl rfl (by decide) rfl rfl (Nat.le_of_ble_eq_true rfl) dL_law_4 ⟨Nat.le_of_ble_eq_true rfl, Nat.le_of_ble_eq_true rfl⟩ rfl rfl (fun w1 h1 => ?_)
  refine z_astore_n (lv' := [(1, .ref x0), (0, .ref b)]) E dL_law_7 rfl (Nat.le_of_ble_eq_true rfl) rfl ?_
  refine z_new E n_L_10 (Nat.le_of_ble_eq_true rfl) (Nat.le_of_ble_eq_true rfl) dL_law_8 (fun m0 => ?_)
  refine z_dup E rfl dL_law_11 ?_
  refine z_callIv (As := []) (rest := [.ref m0]) (wc := [(m0, .inr (11, [.null, .null, .int (zi 0), .null, .int (zi 0), .null, .null, .null, .int (zi 0), .long (zl 0), .long (zl 0), .long (zl 0), .long (zl 0), .long (zl 0), .int (zi 0), .int (zi 0), .int (zi 0), .int (zi 0), .int (zi 0), .int (zi 0), .int (zi 0), .null]))]) (wr := w1) (k' := 50) (n' := 2850) E (RM_ini l D κ m0) m_L_12 ⟨Nat.le_of_ble_eq_true rfl, Nat.le_of_ble_eq_true rfl⟩ ((List.range 1).map (fun j => w1.length + j)) (List.range w1.length) (z_app_r w1 [(m0, .inr (11, [.null, .null, .int (zi 0), .null, .int (zi 0), .null, .null, .null, .int (zi 0), .long (zl 0), .long (zl 0), .long (zl 0), .long (zl 0), .long (zl 0), .int (zi 0), .int (zi 0), .int (zi 0), .int (zi 0), .int (zi 0), .int (zi 0), .int (zi 0), .null]))]) (z_app_l w1 [(m0, .inr (11, [.null, .null, .int (zi 0), .null, .int (zi 0), .null, .null, .null, .int (zi 0), .long (zl 0), .long (zl 0), .long (zl 0), .long (zl 0), .long (zl 0), .int (zi 0), .int (zi 0), .int (zi 0), .int (zi 0), .int (zi 0), .int (zi 0), .int (zi 0), .null]))]) (z_nd_sh _ _) (z_nd_range _) (fun i hi hj => z_dis w1.length 1 i hj hi) rfl rfl (Nat.le_of_ble_eq_true rfl) dL_law_12 ⟨Nat.le_of_ble_eq_true rfl, Nat.le_of_ble_eq_true rfl⟩ rfl rfl (fun w2 h2 => ?_)
  refine z_astore_n (lv' := [(2, .ref m0), (1, .ref x0), (0, .ref b)]) E dL_law_15 rfl (Nat.le_of_ble_eq_true rfl) rfl ?_
  refine z_iconst E dL_law_16 ?_
  refine z_istore_n (lv' := [(3, .int (zi 0)), (2, .ref m0), (1, .ref x0), (0, .ref b)]) E dL_law_17 rfl (Nat.le_of_ble_eq_true rfl) rfl ?_
  exact L_loop E Sx hL ⟨Nat.le_of_ble_eq_true rfl, Nat.le_of_ble_eq_true rfl⟩ fin (L + 1) 0 w1 w2 ⟨by omega, by omega⟩ (by omega) (LI_ini h1 h2)
