/-! ===== Z-LAYER 1: one judgement Zg over (world, locals, stack) in whole numbers; contracts ZC, ZI, ZL, ZV ===== -/
def zi (z : Int) : Int32 := Int32.ofInt z
def zl (z : Int) : Int64 := Int64.ofInt z
theorem zi_add (a b : Int) : zi a + zi b = zi (a + b) := (Int32.ofInt_add a b).symm
theorem zi_sub (a b : Int) : zi a - zi b = zi (a - b) := (Int32.ofInt_sub a b).symm
theorem zi_mul (a b : Int) : zi a * zi b = zi (a * b) := (Int32.ofInt_mul a b).symm
theorem zi_neg (a : Int) : -zi a = zi (-a) := (Int32.ofInt_neg a).symm
theorem zl_add (a b : Int) : zl a + zl b = zl (a + b) := (Int64.ofInt_add a b).symm
theorem zl_sub (a b : Int) : zl a - zl b = zl (a - b) := (Int64.ofInt_sub a b).symm
theorem zl_mul (a b : Int) : zl a * zl b = zl (a * b) := (Int64.ofInt_mul a b).symm
theorem zl_neg (a : Int) : -zl a = zl (-a) := (Int64.ofInt_neg a).symm
theorem zi_toInt {a : Int} (h : -2147483648 ≤ a ∧ a ≤ 2147483647) : (zi a).toInt = a := Int32.toInt_ofInt_of_le (by omega) (by omega)
theorem zl_toInt {a : Int} (h : -9223372036854775808 ≤ a ∧ a ≤ 9223372036854775807) : (zl a).toInt = a := Int64.toInt_ofInt_of_le (by omega) (by omega)
theorem zi_of (x : Int32) : zi x.toInt = x := Int32.ofInt_toInt x
theorem zi_l {a : Int} (h : -2147483648 ≤ a ∧ a ≤ 2147483647) : (zi a).toInt64 = zl a := by
  rw [← Int64.ofInt_int32ToInt, zi_toInt h]; rfl
theorem zl_i (a : Int) : (zl a).toInt32 = zi a := Int64.toInt32_ofInt
theorem zi_0 : zi 0 = 0 := rfl
theorem zl_0 : zl 0 = 0 := rfl
theorem zi_lt {a b : Int} (ha : -2147483648 ≤ a ∧ a ≤ 2147483647) (hb : -2147483648 ≤ b ∧ b ≤ 2147483647) : zi a < zi b ↔ a < b := by
  rw [Int32.lt_iff_toInt_lt, zi_toInt ha, zi_toInt hb]
theorem zi_le {a b : Int} (ha : -2147483648 ≤ a ∧ a ≤ 2147483647) (hb : -2147483648 ≤ b ∧ b ≤ 2147483647) : zi a ≤ zi b ↔ a ≤ b := by
  rw [Int32.le_iff_toInt_le, zi_toInt ha, zi_toInt hb]
theorem zi_eq {a b : Int} (ha : -2147483648 ≤ a ∧ a ≤ 2147483647) (hb : -2147483648 ≤ b ∧ b ≤ 2147483647) : zi a = zi b ↔ a = b := by
  rw [← Int32.toInt_inj, zi_toInt ha, zi_toInt hb]
theorem zl_lt {a b : Int} (ha : -9223372036854775808 ≤ a ∧ a ≤ 9223372036854775807) (hb : -9223372036854775808 ≤ b ∧ b ≤ 9223372036854775807) : zl a < zl b ↔ a < b := by
  rw [Int64.lt_iff_toInt_lt, zl_toInt ha, zl_toInt hb]
theorem zl_le {a b : Int} (ha : -9223372036854775808 ≤ a ∧ a ≤ 9223372036854775807) (hb : -9223372036854775808 ≤ b ∧ b ≤ 9223372036854775807) : zl a ≤ zl b ↔ a ≤ b := by
  rw [Int64.le_iff_toInt_le, zl_toInt ha, zl_toInt hb]
theorem zl_eq {a b : Int} (ha : -9223372036854775808 ≤ a ∧ a ≤ 9223372036854775807) (hb : -9223372036854775808 ≤ b ∧ b ≤ 9223372036854775807) : zl a = zl b ↔ a = b := by
  rw [← Int64.toInt_inj, zl_toInt ha, zl_toInt hb]
theorem zi_clamp {a : Int} (h0 : 0 ≤ a) (h : a ≤ 2147483647) : ((zi a).toNatClampNeg : Int) = a := by
  have h1 := Int32.toNatClampNeg_ofInt_of_le (n := a) (by omega) (by omega)
  show (((Int32.ofInt a).toNatClampNeg : Nat) : Int) = a
  rw [h1]; omega
theorem zi_in {a : Int} {n : Nat} (h0 : 0 ≤ a) (h : a < n) (hn : n ≤ 2147483647) : vp_in (zi a) n := by
  rw [vp_in_iff, zi_toInt (by omega)]; omega
-- worlds
def zu {α : Type} (f : Int → α) (k : Int) (v : α) : Int → α := fun j => if j = k then v else f j
theorem zu_s {α : Type} (f : Int → α) (k : Int) (v : α) : zu f k v k = v := if_pos rfl
theorem zu_n {α : Type} (f : Int → α) {k j : Int} (v : α) (h : j ≠ k) : zu f k v j = f j := if_neg h
def ai (κ : Nat → ClassId) (n : Nat) (f : Int → Int) : va_E := .inl (κ 0, n, .inl (fun j => zi (f (j : Int))))
def al (κ : Nat → ClassId) (n : Nat) (f : Int → Int) : va_E := .inl (κ 1, n, .inr (.inl (fun j => zl (f (j : Int)))))
def ac (κ : Nat → ClassId) (n : Nat) (f : Int → Int) : va_E := .inl (κ 2, n, .inl (fun j => zi (f (j : Int))))
def ar (κ : Nat → ClassId) (n : Nat) (f : Int → Option Nat) : va_E := .inl (κ 3, n, .inr (.inr (.inr (.inr (fun j => f (j : Int))))))
theorem zu_clampi {f : Int → Int} {i v : Int} (h0 : 0 ≤ i) (h : i ≤ 2147483647) : upd (fun j : Nat => zi (f (j : Int))) (zi i).toNatClampNeg (zi v) = fun j : Nat => zi (zu f i v (j : Int)) := by
  have hc := zi_clamp h0 h
  funext j
  unfold upd zu
  by_cases hj : j = (zi i).toNatClampNeg
  · rw [if_pos hj, if_pos (by omega)]
  · rw [if_neg hj, if_neg (by omega)]
theorem zu_clampl {f : Int → Int} {i v : Int} (h0 : 0 ≤ i) (h : i ≤ 2147483647) : vp_updL (fun j : Nat => zl (f (j : Int))) (zi i).toNatClampNeg (zl v) = fun j : Nat => zl (zu f i v (j : Int)) := by
  have hc := zi_clamp h0 h
  funext j
  unfold vp_updL zu
  by_cases hj : j = (zi i).toNatClampNeg
  · rw [if_pos hj, if_pos (by omega)]
  · rw [if_neg hj, if_neg (by omega)]
theorem zu_clampr {f : Int → Option Nat} {i : Int} {v : Nat} (h0 : 0 ≤ i) (h : i ≤ 2147483647) : va_up (fun j : Nat => f (j : Int)) (zi i).toNatClampNeg (some v) = fun j : Nat => zu f i (some v) (j : Int) := by
  have hc := zi_clamp h0 h
  funext j
  unfold va_up zu
  by_cases hj : j = (zi i).toNatClampNeg
  · rw [if_pos hj, if_pos (by omega)]
  · rw [if_neg hj, if_neg (by omega)]
def zT (κ : Nat → ClassId) : List (ClassId × FieldType) := [(κ 0, .int), (κ 1, .long), (κ 2, .char), (κ 3, .object RX6)]
-- words: all good words of the tables
def zB : List Cond := lw_tbl.filter goodWord
theorem zB_of {w : Cond} (i : Nat) (h : lw_tbl[i]? = some w) (hg : goodWord w = true) : w ∈ zB := List.mem_filter.mpr ⟨List.mem_of_getElem? h, hg⟩
def z_isNest : Cond → Bool
  | .methodLinkNest .. => true
  | _ => false
def zNest : List Cond := lw_tbl.filter z_isNest
theorem zNest_of {w : Cond} (i : Nat) (h : lw_tbl[i]? = some w) (hg : z_isNest w = true) : w ∈ zNest := List.mem_filter.mpr ⟨List.mem_of_getElem? h, hg⟩
def zw (y : MethodName) (cc : ByteArray) (nL : Nat) (ret : Option FieldType) : List Cond := .code y cc nL ret :: zB
theorem zw_good {x y : MethodName} {cx cc : ByteArray} {nx nL : Nat} {rx ret : Option FieldType} (h : Cond.code y cc nL ret ∈ zB) : GoodIn (zw x cx nx rx) (zw y cc nL ret) := by
  intro w hw
  rcases List.mem_cons.mp hw with rfl | hw
  · exact ⟨List.mem_cons_of_mem _ h, Or.inl rfl⟩
  · exact ⟨List.mem_cons_of_mem _ hw, good_of_word (List.mem_filter.mp hw).2⟩
theorem zB_good {y : MethodName} {cc : ByteArray} {nL : Nat} {ret : Option FieldType} (h : Cond.code y cc nL ret ∈ zB) : GoodIn zB (zw y cc nL ret) := by
  intro w hw
  rcases List.mem_cons.mp hw with rfl | hw
  · exact ⟨h, Or.inl rfl⟩
  · exact ⟨hw, good_of_word (List.mem_filter.mp hw).2⟩
def zN (U : State) : Prop := (∀ w ∈ zNest, va_Nw w U) ∧ va_AO RX6 U
theorem zN.warm {s U : State} (hW : s.WarmedH U.vm) (h : zN s) : zN U := by
  refine ⟨fun w hw => ?_, h.2.moved hW.alike⟩
  have h1 := h.1 w hw
  have h2 := (List.mem_filter.mp hw).2
  cases w <;> first | exact h1.warmM hW | (simp [z_isNest] at h2; done)
def zK (D : va_G) (κ : Nat → ClassId) (U : State) : Prop := va_K D vwCl (zT κ) U ∧ zN U
theorem zK.warm {D : va_G} {κ : Nat → ClassId} {s U : State} (hW : s.WarmedH U.vm) (h : zK D κ s) : zK D κ U := ⟨va_K.moved hW.alike h.1, h.2.warm hW⟩
theorem zK.calling {D : va_G} {κ : Nat → ClassId} {U : State} {g : JFrame} {mk : MethodId} {a : Array Value} (h : zK D κ U) : zK D κ (U.calling g mk a) := by
  refine ⟨va_K.moved (u := U) (U := U.calling g mk a) (Vm.Alike.refl U.vm) h.1, fun w hw => ?_, va_AO.moved (u := U) (U := U.calling g mk a) (Vm.Alike.refl U.vm) h.2.2⟩
  have h1 := h.2.1 w hw
  have h2 := (List.mem_filter.mp hw).2
  cases w <;> first | exact va_Nw.same (u := U) (U := U.calling g mk a) rfl rfl h1 | (simp [z_isNest] at h2; done)
-- the judgement
abbrev zX : Type := Program × Launch × Env × Room × State × MethodId × Array Value × List Frame × Method × Code × (State → Prop) × va_G × (Nat → ClassId) × (Nat → Prop) × Nat
def ZE (X : zX) (own : String) (cc : ByteArray) (nL : Nat) (rm : Room) (l0 : Launch) (D0 : va_G) (κ0 : Nat → ClassId) : Prop :=
  match X with
  | (p, l, _, R, s, m, args, _, meth, c, _, D, κ, A, nl) => CallFix p m c cc nL s args zB own ∧ meth.locks = false ∧ zK D κ s ∧ nl = nL ∧ (∀ q : Nat, s.heap.size ≤ q → A q) ∧ R = rm ∧ l = l0 ∧ D = D0 ∧ κ = κ0
def Zini (X : zX) : Prop := match X with
  | (_, _, _, _, _, _, _, _, meth, _, _, _, _, _, _) => meth.name = "<init>"
def Zg (X : zX) (ws : va_W) (k n : Nat) (pc : Nat) (lv : List (Nat × Value)) (st : List Value) : Prop :=
  match X with
  | (p, l, e, R, s, m, args, below, meth, c, Q, D, _, A, nl) => ∀ (H : Heap) (locs : List Loc) (ls : Array Slot), va_P D vwCl ws H → va_D A ws → va_S A s.heap H locs → lv_has ls nl lv → W p l e R s m args below meth c H locs k n Q (F0 m pc ls st)
theorem Zg.sub {X : zX} {ws : va_W} {k n pc : Nat} {lv lv' : List (Nat × Value)} {st : List Value} (js : List Nat) (h : lv_pick lv js = lv') (kk : Zg X ws k n pc lv' st) : Zg X ws k n pc lv st := by
  obtain ⟨p, l, e, R, s, m, args, below, meth, c, Q, D, κ, A, nl⟩ := X
  intro H locs ls hP hD hS hl
  exact kk H locs ls hP hD hS (lv_sub hl js h)
theorem Zg.perm {X : zX} {ws ws' : va_W} {k n pc : Nat} {lv : List (Nat × Value)} {st : List Value} (is : List Nat) (hn : va_nd is = true) (h : is.map (fun i => ws[i]?) = ws'.map some) (kk : Zg X ws' k n pc lv st) : Zg X ws k n pc lv st := by
  obtain ⟨p, l, e, R, s, m, args, below, meth, c, Q, D, κ, A, nl⟩ := X
  intro H locs ls hP hD hS hl
  refine kk H locs ls (hP.sub is ?_) (hD.sub is hn h) hS hl
  have : ∀ (is : List Nat) (ws' : va_W), is.map (fun i => ws[i]?) = ws'.map some → is.filterMap (fun i => ws[i]?) = ws' := by
    intro is
    induction is with
    | nil => intro ws' h; cases ws' with
      | nil => rfl
      | cons a l => simp at h
    | cons i is ih =>
      intro ws' h
      cases ws' with
      | nil => simp at h
      | cons a l =>
        simp only [List.map_cons, List.cons.injEq] at h
        rw [List.filterMap_cons_some h.1, ih l h.2]
  exact this is ws' h
theorem Zg.widen {X : zX} {ws : va_W} {k n k' n' pc : Nat} {lv : List (Nat × Value)} {st : List Value} (h1 : k ≤ k') (h2 : n ≤ n') (kk : Zg X ws k' n' pc lv st) : Zg X ws k n pc lv st := by
  obtain ⟨p, l, e, R, s, m, args, below, meth, c, Q, D, κ, A, nl⟩ := X
  intro H locs ls hP hD hS hl
  exact W.widen h1 h2 (kk H locs ls hP hD hS hl)
-- contracts
def zQ (D : va_G) (A1 : Nat → Prop) (Q : Option Value → va_W → Prop) : Array Value → State → Outcome → State → Prop := fun _ st oc t => (∃ (v : Option Value) (w1 : va_W), oc = .returned v ∧ Q v w1 ∧ va_P D vwCl w1 t.heap ∧ va_D A1 w1) ∧ va_F A1 st t
def zP (D : va_G) (κ : Nat → ClassId) (av : List Value) (w0 : va_W) (sz : Nat) : Array Value → State → Prop := va_Pc av (fun U => U.heap.size = sz ∧ va_P D vwCl w0 U.heap ∧ zK D κ U ∧ va_D (fun _ => True) w0)
def ZC (l : Launch) (y : MethodName) (cc : ByteArray) (nL : Nat) (ret : Option FieldType) (rm : Room) (D : va_G) (κ : Nat → ClassId) (av : List Value) (w0 : va_W) (Q : Option Value → va_W → Prop) : Prop :=
  ∀ sz : Nat, Met l y (zw y cc nL ret) rm (zP D κ av w0 sz) (zQ D (va_A w0 sz) Q) rm.cells rm.slots (va_A w0 sz)
abbrev ZI (l : Launch) (y : MethodName) (cc : ByteArray) (nL : Nat) (ret : FieldType) (rm : Room) (D : va_G) (κ : Nat → ClassId) (av : List Value) (w0 : va_W) (Q : Int → va_W → Prop) : Prop :=
  ZC l y cc nL (some ret) rm D κ av w0 (fun v w => ∃ z : Int, v = some (.int (zi z)) ∧ Q z w)
abbrev ZL (l : Launch) (y : MethodName) (cc : ByteArray) (nL : Nat) (rm : Room) (D : va_G) (κ : Nat → ClassId) (av : List Value) (w0 : va_W) (Q : Int → va_W → Prop) : Prop :=
  ZC l y cc nL (some .long) rm D κ av w0 (fun v w => ∃ z : Int, v = some (.long (zl z)) ∧ Q z w)
abbrev ZV (l : Launch) (y : MethodName) (cc : ByteArray) (nL : Nat) (rm : Room) (D : va_G) (κ : Nat → ClassId) (av : List Value) (w0 : va_W) (Q : va_W → Prop) : Prop :=
  ZC l y cc nL none rm D κ av w0 (fun v w => v = none ∧ Q w)
theorem zP.blind {D : va_G} {κ : Nat → ClassId} {av : List Value} {w0 : va_W} {sz : Nat} : FrameBlind (zP D κ av w0 sz) := fun a U g mk q => by
  obtain ⟨q0, q1, qP, qK, qD⟩ := q
  exact ⟨q0, q1, qP, qK.calling, qD⟩
theorem ZC.conseq {l : Launch} {y : MethodName} {cc : ByteArray} {nL : Nat} {ret : Option FieldType} {rm : Room} {D : va_G} {κ : Nat → ClassId} {av : List Value} {w0 : va_W} {Q Q' : Option Value → va_W → Prop} (h : ZC l y cc nL ret rm D κ av w0 Q) (hq : ∀ v w, Q v w → Q' v w) : ZC l y cc nL ret rm D κ av w0 Q' := by
  intro sz p e ha h1 h2 s m args below hf hap hp hk
  obtain ⟨n, o, a1, a2, a3, ⟨⟨⟨v, w1, b1, b2, b3, b4⟩, b5⟩, b6⟩⟩ := h sz p e ha h1 h2 s m args below hf hap hp hk
  exact ⟨n, o, a1, a2, a3, ⟨⟨v, w1, b1, hq v w1 b2, b3, b4⟩, b5⟩, b6⟩
/-- the frame rule: a contract over a part of a world is one over the whole -/
theorem ZC.frame {l : Launch} {y : MethodName} {cc : ByteArray} {nL : Nat} {ret : Option FieldType} {rm : Room} {D : va_G} {κ : Nat → ClassId} {av : List Value} {wc ws wr : va_W} {Q : Option Value → va_W → Prop} (h : ZC l y cc nL ret rm D κ av wc Q) (isC isR : List Nat) (hC : isC.map (fun i => ws[i]?) = wc.map some) (hR : isR.map (fun i => ws[i]?) = wr.map some) (hnC : va_nd isC = true) (hn : va_nd isR = true) (hdis : ∀ i ∈ isR, i ∉ isC) : ZC l y cc nL ret rm D κ av ws (fun v w => ∃ w1, Q v w1 ∧ w = wr ++ w1) := by
  intro sz p e ha h1 h2 s m args below hf hap hp hk
  obtain ⟨q0, q1, qP, qK, qD⟩ := hp
  have hfm : isC.filterMap (fun i => ws[i]?) = wc := by
    have : ∀ (is : List Nat) (ws' : va_W), is.map (fun i => ws[i]?) = ws'.map some → is.filterMap (fun i => ws[i]?) = ws' := by
      intro is
      induction is with
      | nil => intro ws' h; cases ws' with
        | nil => rfl
        | cons a l => simp at h
      | cons i is ih =>
        intro ws' h
        cases ws' with
        | nil => simp at h
        | cons a l =>
          simp only [List.map_cons, List.cons.injEq] at h
          rw [List.filterMap_cons_some h.1, ih l h.2]
    exact this isC wc hC
  have hD0 := va_D.self (sz := sz) qD
  have hFc : ∀ q, va_A wc sz q → va_A ws sz q := by
    intro q hq
    rcases hq with ⟨k, e, hq⟩ | hq
    · have h3 : (isC.map (fun i => ws[i]?))[k]? = some (some (q, e)) := by rw [hC, List.getElem?_map, hq]; rfl
      rw [List.getElem?_map] at h3
      cases hi : isC[k]? with
      | none => rw [hi] at h3; cases h3
      | some i => rw [hi] at h3; exact Or.inl ⟨i, e, Option.some.inj h3⟩
    · exact Or.inr hq
  obtain ⟨n, o, a1, a2, a3, ⟨⟨⟨v, w1, b1, b2, b3, b4⟩, b5⟩, ⟨L, c1, c2⟩⟩⟩ := h sz p e ha h1 h2 s m args below hf hap ⟨q0, q1, qP.sub isC hfm, qK, qD.sub isC hnC hC⟩ hk
  subst q1
  obtain ⟨hP, hD⟩ := va_join (A0 := va_A ws s.heap.size) (wr := wr) qP hD0 isC isR hC hR hn hdis b5.2 hFc b3 b4
  exact ⟨n, o, a1, a2, a3, ⟨⟨v, wr ++ w1, b1, ⟨w1, b2, rfl⟩, hP, hD⟩, b5.1, fun q hq hA => b5.2 q hq (fun z => hA (hFc q z))⟩, ⟨L, c1, fun q hq => hFc _ (c2 q hq)⟩⟩
