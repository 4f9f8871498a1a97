/-! ===== LAW 5: rows of the law: the script, calls over two worlds, equal answers; the invariant ===== -/
section ZLAW
variable {X : zX} {own : String} {cc : ByteArray} {nL : Nat} {rm : Room} {l0 : Launch} {D0 : va_G} {κ0 : Nat → ClassId} {ws : va_W} {k n pc : Nat} {lv : List (Nat × Value)} {st : List Value} {b L : Nat} {xs : Nat → Int32}
def ZS (X : zX) (b L : Nat) (xs : Nat → Int32) : Prop := match X with
  | (_, _, _, _, s, _, _, _, _, _, _, _, _, A, _) => va_X b L xs s s.heap ∧ b < s.heap.size ∧ ¬ A b
def scv (xs : Nat → Int32) (i : Int) : Int := (xs i.toNat).toInt
theorem scv_r (xs : Nat → Int32) (i : Int) : -2147483648 ≤ scv xs i ∧ scv xs i ≤ 2147483647 := by
  have h1 : -2 ^ 31 ≤ scv xs i := Int32.le_toInt _
  have h2 : scv xs i < 2 ^ 31 := Int32.toInt_lt _
  omega
theorem z_slen (E : ZE X own cc nL rm l0 D0 κ0) (S : ZS X b L xs) (hdg : decode cc pc = .ok (.arraylength, 1)) (kk : Zg X ws k n (pc + 1) lv (.int (zi (L : Int)) :: st)) : Zg X ws k n pc lv (.ref b :: st) := by
  obtain ⟨p, l, e, R, s, m, args, below, meth, c, Q, D, κ, A, nl⟩ := X
  obtain ⟨⟨hx, hb, hml, hown, hts⟩, hlk, hK, rfl, hA, rfl, rfl, rfl, rfl⟩ := E
  obtain ⟨s1, s2, s3⟩ := S
  intro H locs ls hP hD hS hl
  refine va_slen hx hb s1 s2 s3 hS hdg ?_
  rw [← zi_nat]
  exact kk H locs ls hP hD hS hl
theorem z_sld (E : ZE X own cc nL rm l0 D0 κ0) (S : ZS X b L xs) {i : Int} (hN : L ≤ 2147483647) (h0 : 0 ≤ i) (h1 : i < (L : Int)) (hdg : decode cc pc = .ok (.iaload, 1)) (kk : Zg X ws k n (pc + 1) lv (.int (zi (scv xs i)) :: st)) : Zg X ws k n pc lv (.int (zi i) :: .ref b :: st) := by
  obtain ⟨p, l, e, R, s, m, args, below, meth, c, Q, D, κ, A, nl⟩ := X
  obtain ⟨⟨hx, hb, hml, hown, hts⟩, hlk, hK, rfl, hA, rfl, rfl, rfl, rfl⟩ := E
  obtain ⟨s1, s2, s3⟩ := S
  intro H locs ls hP hD hS hl
  have hc0 := zi_clamp (a := i) h0 (by omega)
  have hc : (zi i).toNatClampNeg = i.toNat := by omega
  have e1 : zi (scv xs i) = xs i.toNat := zi_of (xs i.toNat)
  refine va_sld hx hb s1 s2 s3 hS (zi_in h0 h1 hN) hdg ?_
  rw [hc, ← e1]
  exact kk H locs ls hP hD hS hl
theorem zi_and31 (a : Int) : ∃ c : Int, (0 ≤ c ∧ c ≤ 31) ∧ zi a &&& zi 31 = zi c := by
  refine ⟨(zi a &&& zi 31).toInt, ?_, (zi_of _).symm⟩
  have e0 : (zi 31).toBitVec = 31#32 := rfl
  have e2 : (31#32).toNat = 31 := rfl
  have e1 : (zi a &&& zi 31).toBitVec = (zi a).toBitVec &&& 31#32 := by rw [Int32.toBitVec_and, e0]
  have h1 : ((zi a).toBitVec &&& 31#32).toNat ≤ 31 := by
    rw [BitVec.toNat_and, e2]
    exact Nat.and_le_right
  have h2 : (zi a &&& zi 31).toInt = (((zi a).toBitVec &&& 31#32).toNat : Int) := by
    show (zi a &&& zi 31).toBitVec.toInt = _
    rw [e1]
    exact BitVec.toInt_eq_toNat_of_lt (Nat.lt_of_le_of_lt (Nat.mul_le_mul_left 2 h1) (by decide))
  rw [h2]
  exact ⟨Int.natCast_nonneg _, Int.ofNat_le.mpr h1⟩
theorem z_ic_same (E : ZE X own cc nL rm l0 D0 κ0) {x : Int32} {off : Int} {tgt : Nat} (hdg : decode cc pc = .ok (.if_icmp .eq off, 3)) (ht : (pc : Int) + off = (tgt : Int)) (kt : Zg X ws k n tgt lv st) : Zg X ws k n pc lv (.int x :: .int x :: st) := by
  obtain ⟨p, l, e, R, s, m, args, below, meth, c, Q, D, κ, A, nl⟩ := X
  obtain ⟨⟨hx, hb, hml, hown, hts⟩, hlk, hK, rfl, hA, rfl, rfl, rfl, rfl⟩ := E
  intro H locs ls hP hD hS hl
  exact lv_icmp_eq hx hb hdg ht (fun _ => kt H locs ls hP hD hS hl) (fun h => absurd rfl h)
theorem z_lc_same (E : ZE X own cc nL rm l0 D0 κ0) {x : Int64} {off : Int} {tgt : Nat} (hdg : decode cc pc = .ok (.lcmp, 1)) (hdg2 : decode cc (pc + 1) = .ok (.ifCond .eq off, 3)) (ht : ((pc + 1 : Nat) : Int) + off = (tgt : Int)) (kt : Zg X ws k n tgt lv st) : Zg X ws k n pc lv (.long x :: .long x :: st) := by
  obtain ⟨p, l, e, R, s, m, args, below, meth, c, Q, D, κ, A, nl⟩ := X
  obtain ⟨⟨hx, hb, hml, hown, hts⟩, hlk, hK, rfl, hA, rfl, rfl, rfl, rfl⟩ := E
  intro H locs ls hP hD hS hl
  exact W.lcmp hx hb hdg (lv_if_eq hx hb hdg2 ht (fun _ => kt H locs ls hP hD hS hl) (fun h => absurd ((lg_cmp_eq _ _).mpr rfl) h))
theorem z_app_l (a b : va_W) : (List.range a.length).map (fun i => (a ++ b)[i]?) = a.map some := by
  rw [← z_all_get a]
  refine List.map_congr_left (fun i hi => ?_)
  rw [List.getElem?_append_left (List.mem_range.mp hi)]
theorem z_app_r (a b : va_W) : ((List.range b.length).map (fun j => a.length + j)).map (fun i => (a ++ b)[i]?) = b.map some := by
  rw [← z_all_get b, List.map_map]
  refine List.map_congr_left (fun i _ => ?_)
  show (a ++ b)[a.length + i]? = b[i]?
  rw [List.getElem?_append_right (by omega)]
  congr 1
  omega
theorem z_nd_sh (a m : Nat) : va_nd ((List.range m).map (fun j => a + j)) = true := by
  refine z_nd_of ?_
  show List.Pairwise (fun x y => x ≠ y) _
  exact List.pairwise_map.mpr (List.Pairwise.imp (fun {x y} h e => h (Nat.add_left_cancel e)) (List.nodup_range (n := m)))
theorem z_dis (a m : Nat) : ∀ i ∈ (List.range m).map (fun j => a + j), i ∉ List.range a := fun i hi hj => by
  obtain ⟨j, _, rfl⟩ := List.mem_map.mp hi
  have := List.mem_range.mp hj
  omega
theorem z_lawVi {w1 w2 : va_W} {rest : List Value} {y : MethodName} {bytes : ByteArray} {maxL nA index : Nat} {ret : FieldType} {rmc : Room} {r : Nat} {As : List Value} {Q : Int → va_W → Prop} (E : ZE X own cc nL rm l0 D0 κ0) (hM : ZI l0 y bytes maxL ret rmc D0 κ0 (.ref r :: As) w1 Q) (hL : zLV own index y bytes maxL (some ret) nA) (hRm : rmc.frames + 1 ≤ rm.frames ∧ 8 + (maxL + 11) + rmc.locals ≤ rm.locals) (h0 : rmc.cells = 0 ∧ rmc.slots = 0)
    {ci : Nat} {fs : List Value} (hrc : w1[0]? = some (r, .inr (ci, fs))) {T : u_T} {N : Nat} (hci : vwCl[ci]? = some (y.cls, T, N)) (hst : st = As.reverse ++ .ref r :: rest) (hnA : As.length = nA) (hcat : (rest.map fun v => v.category).sum ≤ 8) (hdg : decode cc pc = .ok (.invokevirtual index, 3)) (hk : k ≤ rm.cells ∧ n ≤ rm.slots)
    (kk : ∀ (z : Int) (w : va_W), Q z w → Zg X (w2 ++ w) k n (pc + 3) lv (.int (zi z) :: rest)) : Zg X (w1 ++ w2) k n pc lv st :=
  z_callVi E hM hL hRm h0 (List.range w1.length) ((List.range w2.length).map (fun j => w1.length + j)) (z_app_l w1 w2) (z_app_r w1 w2) (z_nd_range _) (z_nd_sh _ _) (z_dis _ _) hrc hci hst hnA hcat hdg hk kk
theorem z_lawVl {w1 w2 : va_W} {rest : List Value} {y : MethodName} {bytes : ByteArray} {maxL nA index : Nat} {rmc : Room} {r : Nat} {As : List Value} {Q : Int → va_W → Prop} (E : ZE X own cc nL rm l0 D0 κ0) (hM : ZL l0 y bytes maxL rmc D0 κ0 (.ref r :: As) w1 Q) (hL : zLV own index y bytes maxL (some .long) nA) (hRm : rmc.frames + 1 ≤ rm.frames ∧ 8 + (maxL + 11) + rmc.locals ≤ rm.locals) (h0 : rmc.cells = 0 ∧ rmc.slots = 0)
    {ci : Nat} {fs : List Value} (hrc : w1[0]? = some (r, .inr (ci, fs))) {T : u_T} {N : Nat} (hci : vwCl[ci]? = some (y.cls, T, N)) (hst : st = As.reverse ++ .ref r :: rest) (hnA : As.length = nA) (hcat : (rest.map fun v => v.category).sum ≤ 8) (hdg : decode cc pc = .ok (.invokevirtual index, 3)) (hk : k ≤ rm.cells ∧ n ≤ rm.slots)
    (kk : ∀ (z : Int) (w : va_W), Q z w → Zg X (w2 ++ w) k n (pc + 3) lv (.long (zl z) :: rest)) : Zg X (w1 ++ w2) k n pc lv st :=
  z_callVl E hM hL hRm h0 (List.range w1.length) ((List.range w2.length).map (fun j => w1.length + j)) (z_app_l w1 w2) (z_app_r w1 w2) (z_nd_range _) (z_nd_sh _ _) (z_dis _ _) hrc hci hst hnA hcat hdg hk kk
end ZLAW
theorem RX_0 {κ : Nat → ClassId} {x0 : Nat} {e : zH} {h : List zH} {c : Int → Int} {tn : Int} {w : va_W} (hR : RX κ x0 e h c tn w) : ∃ fs : List Value, w[0]? = some (x0, .inr (10, fs)) := by
  obtain ⟨A, Z, F, hwx, -⟩ := hR
  exact ⟨_, by rw [hwx]; rfl⟩
theorem RX_txt {κ : Nat → ClassId} {x0 : Nat} {e : zH} {h : List zH} {c : Int → Int} {tn : Int} {w : va_W} (hR : RX κ x0 e h c tn w) : (0 ≤ tn ∧ tn ≤ 40) ∧ ∀ i : Int, 0 ≤ i → i < tn → 32 ≤ c i ∧ c i ≤ 126 := by
  obtain ⟨A, Z, F, -, -, -, -, -, -, htx⟩ := hR
  exact htx
theorem RM_0 {κ : Nat → ClassId} {m0 : Nat} {S PA TX : Int → Int} {pn tyd : Int} {w : va_W} (hR : RM κ m0 S PA pn TX tyd w) : ∃ fs : List Value, w[0]? = some (m0, .inr (11, fs)) := by
  obtain ⟨ms, mp, mt, mT, mO, mU, ld, up, lw, ua, la, bU, bL, sv, xn, yn, sp, rs, pt, mr, T, OV, UN, RW, hwm, -⟩ := hR
  exact ⟨_, by rw [hwm]; rfl⟩
/-- the loop's invariant: the class's world and the reference's, and how they stand to each other -/
def LI (κ : Nat → ClassId) (x0 m0 : Nat) (wx wm : va_W) : Prop := ∃ (e : zH) (h : List zH) (c : Int → Int) (tn : Int) (S PA : Int → Int) (pn : Int), RX κ x0 e h c tn wx ∧ RM κ m0 S PA pn c tn wm ∧ stR2 e S ∧ hsR h PA pn
theorem po_eq {e : zH} {S : Int → Int} {y : Int} (h : stR2 e S) : poV e.1 e.2.1 e.2.2.1 y = (if 0 ≤ y ∧ y ≤ 2 then S y + 1000 else -1000001) := by
  unfold poV
  rw [h.1.1, h.1.2.1, h.1.2.2]
  by_cases h0 : y = 0
  · rw [if_pos h0, if_pos (by omega), h0]
  · rw [if_neg h0]
    by_cases h1 : y = 1
    · rw [if_pos h1, if_pos (by omega), h1]
    · rw [if_neg h1]
      by_cases h2 : y = 2
      · rw [if_pos h2, if_pos (by omega), h2]
      · rw [if_neg h2, if_neg (by omega)]
theorem ct_eq {e : zH} {S PA : Int → Int} {h : List zH} {pn tn y : Int} (hr : stR2 e S) (hh : hsR h PA pn) : ctV (e.2.2.2.length : Int) ((e.2.2.2.countP (fun y => abv e.1 e.2.1 e.2.2.1 y.1 y.2) : Nat) : Int) (h.length : Int) tn y = ctV (S 3) (aoS S (S 3).toNat) pn tn y := by
  have h1 : ((e.2.2.2.countP (fun y => abv e.1 e.2.1 e.2.2.1 y.1 y.2) : Nat) : Int) = aoS S (S 3).toNat := by
    have hb := BK_cnt hr.2.2.2 (fun y => abv (S 0) (S 1) (S 2) y.1 y.2)
    rw [hr.1.1, hr.1.2.1, hr.1.2.2]
    unfold aoS
    rw [cntA_tk]
    exact congrArg (fun x : Nat => (x : Int)) hb
  rw [h1, st_len hr, hh.2.1]
theorem ty_eq {c c' c'' : Int → Int} {tn y z z' tn' tn'' : Int} (h : tyC c tn y z c' tn') (g : tyC c tn y z' c'' tn'') : z = z' ∧ c' = c'' ∧ tn' = tn'' := by
  rcases h with ⟨a1, a2, a3, a4⟩ | ⟨a1, a0, a2, a3, a4⟩ | ⟨a1, a0, a2, a3, a4⟩ <;> rcases g with ⟨b1, b2, b3, b4⟩ | ⟨b1, b0, b2, b3, b4⟩ | ⟨b1, b0, b2, b3, b4⟩ <;> first | exact absurd a1 b1 | exact absurd b1 a1 | (exfalso; omega) | exact ⟨a2.trans b2.symm, a3.trans b3.symm, a4.trans b4.symm⟩
