/-! ===== Z-LAYER 3: entering a contract, calling by a contract ===== -/
theorem zOfW {l : Launch} {y : MethodName} {ws ws' : List Cond} {rm : Room} {Pc : Array Value → State → Prop} {Qc : Array Value → State → Outcome → State → Prop} {mc ms : Nat} {free : Addr → Prop} {cc : ByteArray} {maxL : Nat} {ret : Option FieldType}
    (hy : plainFor y = true) (hw : ws = Cond.code y cc maxL ret :: ws')
    (body : ∀ p e s m args below meth c s₁, BodyLoose p l y (headSpec ws rm) cc maxL ret e s m args below meth c s₁ → c.maxLocals = maxL → Pc args s →
      W p l e (headSpec ws rm).room s m args below meth c s.heap [] 0 0 (MQ below Qc args s mc ms free) (entryFrame m args maxL)) : Met l y ws rm Pc Qc mc ms free := by
  refine MetFree.of_bodySF (code := cc) (maxLocals := maxL) (ret := ret) hy ?_ ?_
  · intro args s m h hn
    obtain ⟨meth, c, h1, h2, h3, h4, h5, h6, -, -⟩ := Cond.code_spec hn (atoms_spec (ws := ws) h _ (by rw [hw]; exact List.mem_cons_self))
    exact ⟨meth, c, h1, h2, h3, h4, h5, h6⟩
  · intro p e s m args below meth c s₁ B hml hP _
    have hh0 : s₁.heap = s.heap := by rw [B.state]; rfl
    obtain ⟨t, a1, o, b1, b2, b3⟩ := body p e s m args below meth c s₁ B hml hP s₁ hh0 (Stand.of_body B)
    exact ⟨t, o, a1, b1, b2, ⟨b3.1, b3.2⟩⟩
section ZENTER
variable {l : Launch} {y : MethodName} {cc : ByteArray} {nL : Nat} {rmm : Room} {D : va_G} {κ : Nat → ClassId} {av : List Value} {w0 : va_W} {own : String}
theorem ZI.enter {ret : FieldType} {Q : Int → va_W → Prop} (ho : y.cls = own) (hy : plainFor y = true) (hlen : (lg_sl av).length ≤ nL)
    (body : ∀ X : zX, ZE X own cc nL rmm l D κ → (∀ (ws : va_W) (pc : Nat) (lv : List (Nat × Value)) (z : Int), narrow ret (.int (zi z)) = .int (zi z) → Q z ws → decode cc pc = .ok (.ireturn, 1) → Zg X ws rmm.cells rmm.slots pc lv [.int (zi z)]) → Zg X w0 0 0 0 (lv_args 0 av) []) : ZI l y cc nL ret rmm D κ av w0 Q := by
  intro sz
  refine zOfW (cc := cc) (maxL := nL) (ret := some ret) hy rfl ?_
  intro p e s m args below meth c s₁ B hml hv
  obtain ⟨rfl, hsz, hP, hK, hD0⟩ := hv
  have hx := B.exec
  have hb := B.bytes
  have hr := B.returns
  have hts := atoms_spec (ws := zw y cc nL (some ret)) B.pre
  have hown : s.vm.findClass y.cls = some m.cls := findClass_of_methodNamed B.named
  have hlocks := B.notSynchronized
  subst hsz
  subst ho
  have hD := hD0.self (sz := s.heap.size)
  have hA : ∀ q : Nat, s.heap.size ≤ q → va_A w0 s.heap.size q := fun q h => Or.inr h
  have hl := lv_entry av (n := nL) hlen
  rw [lg_entry_eq]
  refine body (p, l, e, rmm, s, m, av.toArray, below, meth, c, _, D, κ, va_A w0 s.heap.size, nL) ⟨⟨hx, hb, hml, hown, fun w hw => hts w (List.mem_cons_of_mem _ hw)⟩, hlocks, hK, rfl, hA, rfl, rfl, rfl, rfl⟩ ?_ s.heap [] _ hP hD va_S.rf hl
  intro ws pc lv z hn hq hdg H locs ls hP hD hS hl
  exact W.zret hx hb hr hn (fun t ht hW => ⟨⟨_, ws, rfl, ⟨z, rfl, hq⟩, by rw [ht]; exact hP, hD⟩, hS.F ht⟩) hS.2.2 hdg hlocks
theorem ZL.enter {Q : Int → va_W → Prop} (ho : y.cls = own) (hy : plainFor y = true) (hlen : (lg_sl av).length ≤ nL)
    (body : ∀ X : zX, ZE X own cc nL rmm l D κ → (∀ (ws : va_W) (pc : Nat) (lv : List (Nat × Value)) (z : Int), Q z ws → decode cc pc = .ok (.lreturn, 1) → Zg X ws rmm.cells rmm.slots pc lv [.long (zl z)]) → Zg X w0 0 0 0 (lv_args 0 av) []) : ZL l y cc nL rmm D κ av w0 Q := by
  intro sz
  refine zOfW (cc := cc) (maxL := nL) (ret := some .long) hy rfl ?_
  intro p e s m args below meth c s₁ B hml hv
  obtain ⟨rfl, hsz, hP, hK, hD0⟩ := hv
  have hx := B.exec
  have hb := B.bytes
  have hr := B.returns
  have hts := atoms_spec (ws := zw y cc nL (some .long)) B.pre
  have hown : s.vm.findClass y.cls = some m.cls := findClass_of_methodNamed B.named
  have hlocks := B.notSynchronized
  subst hsz
  subst ho
  have hD := hD0.self (sz := s.heap.size)
  have hA : ∀ q : Nat, s.heap.size ≤ q → va_A w0 s.heap.size q := fun q h => Or.inr h
  have hl := lv_entry av (n := nL) hlen
  rw [lg_entry_eq]
  refine body (p, l, e, rmm, s, m, av.toArray, below, meth, c, _, D, κ, va_A w0 s.heap.size, nL) ⟨⟨hx, hb, hml, hown, fun w hw => hts w (List.mem_cons_of_mem _ hw)⟩, hlocks, hK, rfl, hA, rfl, rfl, rfl, rfl⟩ ?_ s.heap [] _ hP hD va_S.rf hl
  intro ws pc lv z hq hdg H locs ls hP hD hS hl
  exact W.lret hx hb hr (fun t ht hW => ⟨⟨_, ws, rfl, ⟨z, rfl, hq⟩, by rw [ht]; exact hP, hD⟩, hS.F ht⟩) hS.2.2 hdg hlocks
theorem ZV.enter0 {Q : va_W → Prop} (ho : y.cls = own) (hy : plainFor y = true) (hlen : (lg_sl av).length ≤ nL)
    (body : ∀ X : zX, ZE X own cc nL rmm l D κ → (y.name = "<init>" → Zini X) → (∀ (ws : va_W) (pc : Nat) (lv : List (Nat × Value)), Q ws → decode cc pc = .ok (.return_, 1) → Zg X ws rmm.cells rmm.slots pc lv []) → Zg X w0 0 0 0 (lv_args 0 av) []) : ZV l y cc nL rmm D κ av w0 Q := by
  intro sz
  refine zOfW (cc := cc) (maxL := nL) (ret := none) hy rfl ?_
  intro p e s m args below meth c s₁ B hml hv
  obtain ⟨rfl, hsz, hP, hK, hD0⟩ := hv
  have hx := B.exec
  have hb := B.bytes
  have hr := B.returns
  have hts := atoms_spec (ws := zw y cc nL none) B.pre
  have hown : s.vm.findClass y.cls = some m.cls := findClass_of_methodNamed B.named
  have hlocks := B.notSynchronized
  have hname := (name_of_methodNamed B.named B.method).1
  subst hsz
  subst ho
  have hD := hD0.self (sz := s.heap.size)
  have hA : ∀ q : Nat, s.heap.size ≤ q → va_A w0 s.heap.size q := fun q h => Or.inr h
  have hl := lv_entry av (n := nL) hlen
  rw [lg_entry_eq]
  refine body (p, l, e, rmm, s, m, av.toArray, below, meth, c, _, D, κ, va_A w0 s.heap.size, nL) ⟨⟨hx, hb, hml, hown, fun w hw => hts w (List.mem_cons_of_mem _ hw)⟩, hlocks, hK, rfl, hA, rfl, rfl, rfl, rfl⟩ (fun h => hname.trans h) ?_ s.heap [] _ hP hD va_S.rf hl
  intro ws pc lv hq hdg H locs ls hP hD hS hl
  exact W.vret hx hb hr (fun t ht hW => ⟨⟨_, ws, rfl, ⟨rfl, hq⟩, by rw [ht]; exact hP, hD⟩, hS.F ht⟩) hS.2.2 hdg hlocks
theorem ZV.enter {Q : va_W → Prop} (ho : y.cls = own) (hy : plainFor y = true) (hlen : (lg_sl av).length ≤ nL)
    (body : ∀ X : zX, ZE X own cc nL rmm l D κ → (∀ (ws : va_W) (pc : Nat) (lv : List (Nat × Value)), Q ws → decode cc pc = .ok (.return_, 1) → Zg X ws rmm.cells rmm.slots pc lv []) → Zg X w0 0 0 0 (lv_args 0 av) []) : ZV l y cc nL rmm D κ av w0 Q :=
  ZV.enter0 ho hy hlen (fun X E _ => body X E)
end ZENTER
section ZCALL
theorem z_filterMap {ws : va_W} : ∀ (is : List Nat) (ws' : va_W), is.map (fun i => ws[i]?) = ws'.map some → is.filterMap (fun i => ws[i]?) = ws' := by
  intro is
  induction is with
  | nil => intro ws' h; cases ws' with
    | nil => rfl
    | cons a l => simp at h
  | cons i is ih =>
    intro ws' h
    cases ws' with
    | nil => simp at h
    | cons a l =>
      simp only [List.map_cons, List.cons.injEq] at h
      rw [List.filterMap_cons_some h.1, ih l h.2]
theorem z_after {p : Program} {l : Launch} {e : Env} {R : Room} {s : State} {m : MethodId} {args : Array Value} {below : List Frame} {meth : Method} {c : Code} {H : Heap} {locs : List Loc} {k n mc ms pc : Nat} {ls : Array Slot} {st0 rest : List Value} {D : va_G} {A0 A1 : Nat → Prop} {a0 : Array Value} {Qv : Option Value → va_W → Prop} {Qf : State → Prop}
    (hr : va_Run p l e R s m args below meth c H locs k n mc ms (F0 m pc ls st0) rest (zQ D A1 Qv a0) A1) (hS : va_S A0 s.heap H locs) (hA : ∀ q, A1 q → A0 q)
    (kk : ∀ (v : Option Value) (w1 : va_W) (H1 : Heap) (locs1 : List Loc), Qv v w1 → va_P D vwCl w1 H1 → va_D A1 w1 → (∀ q : Nat, q < H.size → ¬ A1 q → H1[q]? = H[q]?) → va_S A0 s.heap H1 locs1 → W p l e R s m args below meth c H1 locs1 (k + mc) (n + ms) Qf (F0 m (pc + 3) ls (v.toList ++ rest))) : W p l e R s m args below meth c H locs k n Qf (F0 m pc ls st0) := by
  intro T hT X
  obtain ⟨v, st₀, t, T', L, h0, X', hL, e1, e2, ⟨⟨v', w1, hv, hp, hP1, hD1⟩, hz, hk⟩, st⟩ := hr T hT X
  cases hv
  rw [h0] at hz hk
  obtain ⟨t2, a1, b1⟩ := kk v w1 T'.heap (locs ++ L) hp (by rw [e1]; exact hP1) hD1 (fun q h1 h2 => by rw [e1]; exact hk q h1 h2)
    ⟨Nat.le_trans hS.1 (by rw [e1]; exact hz), fun q h1 h2 => by rw [e1, hk q (Nat.lt_of_lt_of_le h1 hS.1) (fun z => h2 (hA q z))]; exact hS.2.1 q h1 h2, fun q hq => by
      rcases List.mem_append.mp hq with h | h
      · exact hS.2.2 q h
      · exact hA _ (hL q h)⟩ T' rfl X'
  exact ⟨t2, st t2 a1, b1⟩
def zPl (y : MethodName) (nA : Nat) : Prop := y.cls ≠ "java/lang/invoke/MethodHandle" ∧ y.cls ≠ "java/lang/invoke/VarHandle" ∧ (parseMethodDescriptor y.desc).map (fun d => d.parameters.length) = some nA
def zLV (own : String) (index : Nat) (y : MethodName) (bytes : ByteArray) (maxL : Nat) (ret : Option FieldType) (nA : Nat) : Prop :=
  Cond.methodLink own index y ∈ zB ∧ Cond.instanceMethod y ∈ zB ∧ Cond.selects y.cls y y ∈ zB ∧ Cond.initialized y.cls ∈ zB ∧ Cond.code y bytes maxL ret ∈ zB ∧ zPl y nA
def zLS (own : String) (index : Nat) (y : MethodName) (bytes : ByteArray) (maxL : Nat) (ret : Option FieldType) (nA : Nat) : Prop :=
  Cond.methodLink own index y ∈ zB ∧ Cond.static y ∈ zB ∧ Cond.initialized y.cls ∈ zB ∧ Cond.code y bytes maxL ret ∈ zB ∧ zPl y nA
def zLI (own : String) (index : Nat) (y : MethodName) (bytes : ByteArray) (maxL nA : Nat) : Prop :=
  Cond.methodLink own index y ∈ zB ∧ Cond.instanceMethod y ∈ zB ∧ Cond.initialized y.cls ∈ zB ∧ Cond.code y bytes maxL none ∈ zB ∧ zPl y nA ∧ y.name = "<init>"
def zLN (own : String) (index : Nat) (y : MethodName) (bytes : ByteArray) (maxL nA : Nat) : Prop :=
  (∃ host, Cond.methodLinkNest own index y host ∈ zNest) ∧ Cond.instanceMethod y ∈ zB ∧ Cond.initialized y.cls ∈ zB ∧ Cond.code y bytes maxL none ∈ zB ∧ zPl y nA ∧ y.name = "<init>"
variable {X : zX} {own : String} {cc : ByteArray} {nL : Nat} {rm : Room} {l0 : Launch} {D0 : va_G} {κ0 : Nat → ClassId} {ws wc wr : va_W} {k n pc : Nat} {lv : List (Nat × Value)} {st rest : List Value} {y : MethodName} {bytes : ByteArray} {maxL nA index : Nat} {ret : Option FieldType} {rmc : Room} {b : Nat} {As : List Value} {Q : Option Value → va_W → Prop}
theorem z_callV (E : ZE X own cc nL rm l0 D0 κ0) (hM : ZC l0 y bytes maxL ret rmc D0 κ0 (.ref b :: As) wc Q) (hL : zLV own index y bytes maxL ret nA) (hRm : rmc.frames + 1 ≤ rm.frames ∧ 8 + (maxL + 11) + rmc.locals ≤ rm.locals) (isC isR : List Nat) (hC : isC.map (fun i => ws[i]?) = wc.map some) (hR : isR.map (fun i => ws[i]?) = wr.map some) (hnC : va_nd isC = true) (hn : va_nd isR = true) (hdis : ∀ i ∈ isR, i ∉ isC)
    {ci : Nat} {fs : List Value} (hrc : wc[0]? = some (b, .inr (ci, fs))) {T : u_T} {N : Nat} (hci : vwCl[ci]? = some (y.cls, T, N)) (hst : st = As.reverse ++ .ref b :: rest) (hnA : As.length = nA) (hcat : (rest.map fun v => v.category).sum ≤ 8) (hdg : decode cc pc = .ok (.invokevirtual index, 3)) (hroom : k + rmc.cells ≤ rm.cells ∧ n + rmc.slots ≤ rm.slots)
    (kk : ∀ (v : Option Value) (w1 : va_W), Q v w1 → Zg X (wr ++ w1) (k + rmc.cells) (n + rmc.slots) (pc + 3) lv (v.toList ++ rest)) : Zg X ws k n pc lv st := by
  obtain ⟨p, l, e, R, s, m, args, below, meth, c, Qf, D, κ, A, nl⟩ := X
  obtain ⟨⟨hx, hb, hml, hown, hts⟩, hlk, hK, rfl, hA, rfl, rfl, rfl, rfl⟩ := E
  intro H locs ls hP hD hS hl
  obtain ⟨m1, m2, m3, m4, m5, m6⟩ := hL
  have hPc : va_P D vwCl wc H := hP.sub isC (z_filterMap isC wc hC)
  have hDc := hD.sub isC hnC hC
  have hFc := va_free hD hS hA isC hC
  have cw : CallW R s args own y.cls index y bytes maxL ret (zw y bytes maxL ret) rmc rmc.cells rmc.slots nA := ⟨callB_of nA hts (zB_good m5) rfl rfl rfl (hts _ m4) (hts _ m1) m6 hRm, hts _ m2, hts _ m3⟩
  have hr := va_runV (e := e) (below := below) (meth := meth) (H := H) (locs := locs) (cells := k) (slots := n) (As := As) (rest := rest) (g := F0 m pc ls st) ⟨hx, hb, hml, hown, hts⟩ (hM H.size) cw ⟨zP.blind, va_recv hK.1 hPc hci hrc, fun U hU hW => ⟨rfl, by rw [hU], by rw [hU]; exact hPc, hK.warm hW, hDc.weaken (fun _ _ _ _ => trivial)⟩⟩ rfl hnA hl.1 hst (by show 2 * 0 + _ ≤ 8; omega) hdg hroom
  refine z_after hr hS hFc (fun v w1 H1 locs1 hq hP1 hD1 hk1 hS1 => ?_)
  obtain ⟨hP2, hD2⟩ := va_join (wr := wr) hP hD isC isR hC hR hn hdis hk1 hFc hP1 hD1
  exact kk v w1 hq H1 locs1 ls hP2 hD2 hS1 hl
theorem z_callS (E : ZE X own cc nL rm l0 D0 κ0) (hM : ZC l0 y bytes maxL ret rmc D0 κ0 As wc Q) (hL : zLS own index y bytes maxL ret nA) (hRm : rmc.frames + 1 ≤ rm.frames ∧ 8 + (maxL + 11) + rmc.locals ≤ rm.locals) (isC isR : List Nat) (hC : isC.map (fun i => ws[i]?) = wc.map some) (hR : isR.map (fun i => ws[i]?) = wr.map some) (hnC : va_nd isC = true) (hn : va_nd isR = true) (hdis : ∀ i ∈ isR, i ∉ isC)
    (hst : st = As.reverse ++ rest) (hnA : As.length = nA) (hcat : (rest.map fun v => v.category).sum ≤ 8) (hdg : decode cc pc = .ok (.invokestatic index, 3)) (hroom : k + rmc.cells ≤ rm.cells ∧ n + rmc.slots ≤ rm.slots)
    (kk : ∀ (v : Option Value) (w1 : va_W), Q v w1 → Zg X (wr ++ w1) (k + rmc.cells) (n + rmc.slots) (pc + 3) lv (v.toList ++ rest)) : Zg X ws k n pc lv st := by
  obtain ⟨p, l, e, R, s, m, args, below, meth, c, Qf, D, κ, A, nl⟩ := X
  obtain ⟨⟨hx, hb, hml, hown, hts⟩, hlk, hK, rfl, hA, rfl, rfl, rfl, rfl⟩ := E
  intro H locs ls hP hD hS hl
  obtain ⟨m1, m2, m4, m5, m6⟩ := hL
  have hPc : va_P D vwCl wc H := hP.sub isC (z_filterMap isC wc hC)
  have hDc := hD.sub isC hnC hC
  have hFc := va_free hD hS hA isC hC
  have hr := va_runS (e := e) (below := below) (meth := meth) (H := H) (locs := locs) (cells := k) (slots := n) (As := As) (rest := rest) (g := F0 m pc ls st) ⟨hx, hb, hml, hown, hts⟩ (hM H.size) ⟨callB_of nA hts (zB_good m5) rfl rfl rfl (hts _ m4) (hts _ m1) m6 hRm, hts _ m2⟩ ⟨zP.blind, fun U hU hW => ⟨rfl, by rw [hU], by rw [hU]; exact hPc, hK.warm hW, hDc.weaken (fun _ _ _ _ => trivial)⟩⟩ rfl hnA hl.1 hst (by show 2 * 0 + _ ≤ 8; omega) hdg hroom
  refine z_after hr hS hFc (fun v w1 H1 locs1 hq hP1 hD1 hk1 hS1 => ?_)
  obtain ⟨hP2, hD2⟩ := va_join (wr := wr) hP hD isC isR hC hR hn hdis hk1 hFc hP1 hD1
  exact kk v w1 hq H1 locs1 ls hP2 hD2 hS1 hl
theorem z_callI (E : ZE X own cc nL rm l0 D0 κ0) (hM : ZC l0 y bytes maxL none rmc D0 κ0 (.ref b :: As) wc Q) (hL : zLI own index y bytes maxL nA) (hRm : rmc.frames + 1 ≤ rm.frames ∧ 8 + (maxL + 11) + rmc.locals ≤ rm.locals) (isC isR : List Nat) (hC : isC.map (fun i => ws[i]?) = wc.map some) (hR : isR.map (fun i => ws[i]?) = wr.map some) (hnC : va_nd isC = true) (hn : va_nd isR = true) (hdis : ∀ i ∈ isR, i ∉ isC)
    (hst : st = As.reverse ++ .ref b :: rest) (hnA : As.length = nA) (hcat : (rest.map fun v => v.category).sum ≤ 8) (hdg : decode cc pc = .ok (.invokespecial index, 3)) (hroom : k + rmc.cells ≤ rm.cells ∧ n + rmc.slots ≤ rm.slots)
    (kk : ∀ (v : Option Value) (w1 : va_W), Q v w1 → Zg X (wr ++ w1) (k + rmc.cells) (n + rmc.slots) (pc + 3) lv (v.toList ++ rest)) : Zg X ws k n pc lv st := by
  obtain ⟨p, l, e, R, s, m, args, below, meth, c, Qf, D, κ, A, nl⟩ := X
  obtain ⟨⟨hx, hb, hml, hown, hts⟩, hlk, hK, rfl, hA, rfl, rfl, rfl, rfl⟩ := E
  intro H locs ls hP hD hS hl
  obtain ⟨m1, m2, m4, m5, m6, m7⟩ := hL
  have hPc : va_P D vwCl wc H := hP.sub isC (z_filterMap isC wc hC)
  have hDc := hD.sub isC hnC hC
  have hFc := va_free hD hS hA isC hC
  have hr := va_runI (e := e) (below := below) (meth := meth) (H := H) (locs := locs) (cells := k) (slots := n) (As := As) (rest := rest) (g := F0 m pc ls st) ⟨hx, hb, hml, hown, hts⟩ (hM H.size) (cwI nA hts (zB_good m5) rfl rfl rfl (hts _ m4) (hts _ m1) (hts _ m2) m7 m6 hRm) ⟨zP.blind, fun U hU hW => ⟨rfl, by rw [hU], by rw [hU]; exact hPc, hK.warm hW, hDc.weaken (fun _ _ _ _ => trivial)⟩⟩ rfl hnA hl.1 hst (by show 2 * 0 + _ ≤ 8; omega) hdg hroom
  refine z_after hr hS hFc (fun v w1 H1 locs1 hq hP1 hD1 hk1 hS1 => ?_)
  obtain ⟨hP2, hD2⟩ := va_join (wr := wr) hP hD isC isR hC hR hn hdis hk1 hFc hP1 hD1
  exact kk v w1 hq H1 locs1 ls hP2 hD2 hS1 hl
theorem z_callN (E : ZE X own cc nL rm l0 D0 κ0) (hM : ZC l0 y bytes maxL none rmc D0 κ0 (.ref b :: As) wc Q) (hL : zLN own index y bytes maxL nA) (hRm : rmc.frames + 1 ≤ rm.frames ∧ 8 + (maxL + 11) + rmc.locals ≤ rm.locals) (isC isR : List Nat) (hC : isC.map (fun i => ws[i]?) = wc.map some) (hR : isR.map (fun i => ws[i]?) = wr.map some) (hnC : va_nd isC = true) (hn : va_nd isR = true) (hdis : ∀ i ∈ isR, i ∉ isC)
    (hst : st = As.reverse ++ .ref b :: rest) (hnA : As.length = nA) (hcat : (rest.map fun v => v.category).sum ≤ 8) (hdg : decode cc pc = .ok (.invokespecial index, 3)) (hroom : k + rmc.cells ≤ rm.cells ∧ n + rmc.slots ≤ rm.slots)
    (kk : ∀ (v : Option Value) (w1 : va_W), Q v w1 → Zg X (wr ++ w1) (k + rmc.cells) (n + rmc.slots) (pc + 3) lv (v.toList ++ rest)) : Zg X ws k n pc lv st := by
  obtain ⟨p, l, e, R, s, m, args, below, meth, c, Qf, D, κ, A, nl⟩ := X
  obtain ⟨⟨hx, hb, hml, hown, hts⟩, hlk, hK, rfl, hA, rfl, rfl, rfl, rfl⟩ := E
  intro H locs ls hP hD hS hl
  obtain ⟨⟨host, m1⟩, m2, m4, m5, m6, m7⟩ := hL
  have hPc : va_P D vwCl wc H := hP.sub isC (z_filterMap isC wc hC)
  have hDc := hD.sub isC hnC hC
  have hFc := va_free hD hS hA isC hC
  have hr := va_runIN (e := e) (below := below) (meth := meth) (H := H) (locs := locs) (cells := k) (slots := n) (As := As) (rest := rest) (g := F0 m pc ls st) ⟨hx, hb, hml, hown, hts⟩ (hM H.size) ⟨va_cnB (host := host) nA hts (zB_good m5) rfl rfl rfl (hK.2.1 _ m1) (hts _ m4) m6 hRm, m7, hts _ m2⟩ ⟨zP.blind, fun U hU hW => ⟨rfl, by rw [hU], by rw [hU]; exact hPc, hK.warm hW, hDc.weaken (fun _ _ _ _ => trivial)⟩⟩ rfl hnA hl.1 hst (by show 2 * 0 + _ ≤ 8; omega) hdg hroom
  refine z_after hr hS hFc (fun v w1 H1 locs1 hq hP1 hD1 hk1 hS1 => ?_)
  obtain ⟨hP2, hD2⟩ := va_join (wr := wr) hP hD isC isR hC hR hn hdis hk1 hFc hP1 hD1
  exact kk v w1 hq H1 locs1 ls hP2 hD2 hS1 hl
end ZCALL
section ZCALL2
variable {X : zX} {own : String} {cc : ByteArray} {nL : Nat} {rm : Room} {l0 : Launch} {D0 : va_G} {κ0 : Nat → ClassId} {ws wc wr : va_W} {k n pc : Nat} {lv : List (Nat × Value)} {st rest : List Value} {y : MethodName} {bytes : ByteArray} {maxL nA index : Nat} {ret : FieldType} {rmc : Room} {b : Nat} {As : List Value}
theorem z_callVi {Q : Int → va_W → Prop} (E : ZE X own cc nL rm l0 D0 κ0) (hM : ZI l0 y bytes maxL ret rmc D0 κ0 (.ref b :: As) wc Q) (hL : zLV own index y bytes maxL (some ret) nA) (hRm : rmc.frames + 1 ≤ rm.frames ∧ 8 + (maxL + 11) + rmc.locals ≤ rm.locals) (h0 : rmc.cells = 0 ∧ rmc.slots = 0) (isC isR : List Nat) (hC : isC.map (fun i => ws[i]?) = wc.map some) (hR : isR.map (fun i => ws[i]?) = wr.map some) (hnC : va_nd isC = true) (hn : va_nd isR = true) (hdis : ∀ i ∈ isR, i ∉ isC)
    {ci : Nat} {fs : List Value} (hrc : wc[0]? = some (b, .inr (ci, fs))) {T : u_T} {N : Nat} (hci : vwCl[ci]? = some (y.cls, T, N)) (hst : st = As.reverse ++ .ref b :: rest) (hnA : As.length = nA) (hcat : (rest.map fun v => v.category).sum ≤ 8) (hdg : decode cc pc = .ok (.invokevirtual index, 3)) (hk : k ≤ rm.cells ∧ n ≤ rm.slots)
    (kk : ∀ (z : Int) (w1 : va_W), Q z w1 → Zg X (wr ++ w1) k n (pc + 3) lv (.int (zi z) :: rest)) : Zg X ws k n pc lv st :=
  z_callV E hM hL hRm isC isR hC hR hnC hn hdis hrc hci hst hnA hcat hdg (by rw [h0.1, h0.2]; exact hk) (fun v w1 ⟨z, hv, hq⟩ => by subst hv; rw [h0.1, h0.2]; exact kk z w1 hq)
theorem z_callVl {Q : Int → va_W → Prop} (E : ZE X own cc nL rm l0 D0 κ0) (hM : ZL l0 y bytes maxL rmc D0 κ0 (.ref b :: As) wc Q) (hL : zLV own index y bytes maxL (some .long) nA) (hRm : rmc.frames + 1 ≤ rm.frames ∧ 8 + (maxL + 11) + rmc.locals ≤ rm.locals) (h0 : rmc.cells = 0 ∧ rmc.slots = 0) (isC isR : List Nat) (hC : isC.map (fun i => ws[i]?) = wc.map some) (hR : isR.map (fun i => ws[i]?) = wr.map some) (hnC : va_nd isC = true) (hn : va_nd isR = true) (hdis : ∀ i ∈ isR, i ∉ isC)
    {ci : Nat} {fs : List Value} (hrc : wc[0]? = some (b, .inr (ci, fs))) {T : u_T} {N : Nat} (hci : vwCl[ci]? = some (y.cls, T, N)) (hst : st = As.reverse ++ .ref b :: rest) (hnA : As.length = nA) (hcat : (rest.map fun v => v.category).sum ≤ 8) (hdg : decode cc pc = .ok (.invokevirtual index, 3)) (hk : k ≤ rm.cells ∧ n ≤ rm.slots)
    (kk : ∀ (z : Int) (w1 : va_W), Q z w1 → Zg X (wr ++ w1) k n (pc + 3) lv (.long (zl z) :: rest)) : Zg X ws k n pc lv st :=
  z_callV E hM hL hRm isC isR hC hR hnC hn hdis hrc hci hst hnA hcat hdg (by rw [h0.1, h0.2]; exact hk) (fun v w1 ⟨z, hv, hq⟩ => by subst hv; rw [h0.1, h0.2]; exact kk z w1 hq)
theorem z_callVv {Q : va_W → Prop} (E : ZE X own cc nL rm l0 D0 κ0) (hM : ZV l0 y bytes maxL rmc D0 κ0 (.ref b :: As) wc Q) (hL : zLV own index y bytes maxL none nA) (hRm : rmc.frames + 1 ≤ rm.frames ∧ 8 + (maxL + 11) + rmc.locals ≤ rm.locals) (h0 : rmc.cells = 0 ∧ rmc.slots = 0) (isC isR : List Nat) (hC : isC.map (fun i => ws[i]?) = wc.map some) (hR : isR.map (fun i => ws[i]?) = wr.map some) (hnC : va_nd isC = true) (hn : va_nd isR = true) (hdis : ∀ i ∈ isR, i ∉ isC)
    {ci : Nat} {fs : List Value} (hrc : wc[0]? = some (b, .inr (ci, fs))) {T : u_T} {N : Nat} (hci : vwCl[ci]? = some (y.cls, T, N)) (hst : st = As.reverse ++ .ref b :: rest) (hnA : As.length = nA) (hcat : (rest.map fun v => v.category).sum ≤ 8) (hdg : decode cc pc = .ok (.invokevirtual index, 3)) (hk : k ≤ rm.cells ∧ n ≤ rm.slots)
    (kk : ∀ (w1 : va_W), Q w1 → Zg X (wr ++ w1) k n (pc + 3) lv rest) : Zg X ws k n pc lv st :=
  z_callV E hM hL hRm isC isR hC hR hnC hn hdis hrc hci hst hnA hcat hdg (by rw [h0.1, h0.2]; exact hk) (fun v w1 ⟨hv, hq⟩ => by subst hv; rw [h0.1, h0.2]; exact kk w1 hq)
theorem z_callSi {Q : Int → va_W → Prop} (E : ZE X own cc nL rm l0 D0 κ0) (hM : ZI l0 y bytes maxL ret rmc D0 κ0 As wc Q) (hL : zLS own index y bytes maxL (some ret) nA) (hRm : rmc.frames + 1 ≤ rm.frames ∧ 8 + (maxL + 11) + rmc.locals ≤ rm.locals) (h0 : rmc.cells = 0 ∧ rmc.slots = 0) (isC isR : List Nat) (hC : isC.map (fun i => ws[i]?) = wc.map some) (hR : isR.map (fun i => ws[i]?) = wr.map some) (hnC : va_nd isC = true) (hn : va_nd isR = true) (hdis : ∀ i ∈ isR, i ∉ isC)
    (hst : st = As.reverse ++ rest) (hnA : As.length = nA) (hcat : (rest.map fun v => v.category).sum ≤ 8) (hdg : decode cc pc = .ok (.invokestatic index, 3)) (hk : k ≤ rm.cells ∧ n ≤ rm.slots)
    (kk : ∀ (z : Int) (w1 : va_W), Q z w1 → Zg X (wr ++ w1) k n (pc + 3) lv (.int (zi z) :: rest)) : Zg X ws k n pc lv st :=
  z_callS E hM hL hRm isC isR hC hR hnC hn hdis hst hnA hcat hdg (by rw [h0.1, h0.2]; exact hk) (fun v w1 ⟨z, hv, hq⟩ => by subst hv; rw [h0.1, h0.2]; exact kk z w1 hq)
theorem z_callSl {Q : Int → va_W → Prop} (E : ZE X own cc nL rm l0 D0 κ0) (hM : ZL l0 y bytes maxL rmc D0 κ0 As wc Q) (hL : zLS own index y bytes maxL (some .long) nA) (hRm : rmc.frames + 1 ≤ rm.frames ∧ 8 + (maxL + 11) + rmc.locals ≤ rm.locals) (h0 : rmc.cells = 0 ∧ rmc.slots = 0) (isC isR : List Nat) (hC : isC.map (fun i => ws[i]?) = wc.map some) (hR : isR.map (fun i => ws[i]?) = wr.map some) (hnC : va_nd isC = true) (hn : va_nd isR = true) (hdis : ∀ i ∈ isR, i ∉ isC)
    (hst : st = As.reverse ++ rest) (hnA : As.length = nA) (hcat : (rest.map fun v => v.category).sum ≤ 8) (hdg : decode cc pc = .ok (.invokestatic index, 3)) (hk : k ≤ rm.cells ∧ n ≤ rm.slots)
    (kk : ∀ (z : Int) (w1 : va_W), Q z w1 → Zg X (wr ++ w1) k n (pc + 3) lv (.long (zl z) :: rest)) : Zg X ws k n pc lv st :=
  z_callS E hM hL hRm isC isR hC hR hnC hn hdis hst hnA hcat hdg (by rw [h0.1, h0.2]; exact hk) (fun v w1 ⟨z, hv, hq⟩ => by subst hv; rw [h0.1, h0.2]; exact kk z w1 hq)
theorem z_callNv {Q : va_W → Prop} (E : ZE X own cc nL rm l0 D0 κ0) (hM : ZV l0 y bytes maxL rmc D0 κ0 (.ref b :: As) wc Q) (hL : zLN own index y bytes maxL nA) (hRm : rmc.frames + 1 ≤ rm.frames ∧ 8 + (maxL + 11) + rmc.locals ≤ rm.locals) (isC isR : List Nat) (hC : isC.map (fun i => ws[i]?) = wc.map some) (hR : isR.map (fun i => ws[i]?) = wr.map some) (hnC : va_nd isC = true) (hn : va_nd isR = true) (hdis : ∀ i ∈ isR, i ∉ isC)
    (hst : st = As.reverse ++ .ref b :: rest) (hnA : As.length = nA) (hcat : (rest.map fun v => v.category).sum ≤ 8) (hdg : decode cc pc = .ok (.invokespecial index, 3)) (hroom : k + rmc.cells ≤ rm.cells ∧ n + rmc.slots ≤ rm.slots) {k' n' : Nat} (hk' : k + rmc.cells = k') (hn' : n + rmc.slots = n')
    (kk : ∀ (w1 : va_W), Q w1 → Zg X (wr ++ w1) k' n' (pc + 3) lv rest) : Zg X ws k n pc lv st :=
  z_callN E hM hL hRm isC isR hC hR hnC hn hdis hst hnA hcat hdg hroom (fun v w1 ⟨hv, hq⟩ => by subst hv; rw [hk', hn']; exact kk w1 hq)
theorem z_callIv {Q : va_W → Prop} (E : ZE X own cc nL rm l0 D0 κ0) (hM : ZV l0 y bytes maxL rmc D0 κ0 (.ref b :: As) wc Q) (hL : zLI own index y bytes maxL nA) (hRm : rmc.frames + 1 ≤ rm.frames ∧ 8 + (maxL + 11) + rmc.locals ≤ rm.locals) (isC isR : List Nat) (hC : isC.map (fun i => ws[i]?) = wc.map some) (hR : isR.map (fun i => ws[i]?) = wr.map some) (hnC : va_nd isC = true) (hn : va_nd isR = true) (hdis : ∀ i ∈ isR, i ∉ isC)
    (hst : st = As.reverse ++ .ref b :: rest) (hnA : As.length = nA) (hcat : (rest.map fun v => v.category).sum ≤ 8) (hdg : decode cc pc = .ok (.invokespecial index, 3)) (hroom : k + rmc.cells ≤ rm.cells ∧ n + rmc.slots ≤ rm.slots) {k' n' : Nat} (hk' : k + rmc.cells = k') (hn' : n + rmc.slots = n')
    (kk : ∀ (w1 : va_W), Q w1 → Zg X (wr ++ w1) k' n' (pc + 3) lv rest) : Zg X ws k n pc lv st :=
  z_callI E hM hL hRm isC isR hC hR hnC hn hdis hst hnA hcat hdg hroom (fun v w1 ⟨hv, hq⟩ => by subst hv; rw [hk', hn']; exact kk w1 hq)
end ZCALL2
