/-! ===== LAW 8: what the tables give of the classes; the first worlds ===== -/
theorem kn_of {own : String} {index ci N : Nat} {fs : List Value} {s : State} {args : Array Value} (hts : ∀ w ∈ zB, w.before args s = true) (h : zNW own index ci fs N) : ∃ (cC : ClassId) (iS : Nat → Nat), ∀ q : vw_C, vwCl[ci]? = some q → u_Kn s q.1 q.2.1 q.2.2 cC iS := by
  obtain ⟨C, T, ty, h1, h2, h3, h4, h5, h6, h7⟩ := h
  obtain ⟨cC, iS, hk⟩ := u_known (n := N) hts h2 (hts _ h5)
  exact ⟨cC, iS, fun q hq => by rw [h1] at hq; cases hq; exact hk⟩
theorem kn_all {s : State} {args : Array Value} (hts : ∀ w ∈ zB, w.before args s = true) (ci : Nat) : ∃ (cC : ClassId) (iS : Nat → Nat), ∀ q : vw_C, vwCl[ci]? = some q → u_Kn s q.1 q.2.1 q.2.2 cC iS := by
  rcases (show ci = 0 ∨ ci = 1 ∨ ci = 2 ∨ ci = 3 ∨ ci = 4 ∨ ci = 5 ∨ ci = 6 ∨ ci = 7 ∨ ci = 8 ∨ ci = 9 ∨ ci = 10 ∨ ci = 11 ∨ 12 ≤ ci by omega) with rfl | rfl | rfl | rfl | rfl | rfl | rfl | rfl | rfl | rfl | rfl | rfl | h
  · exact kn_of hts n_X6_16
  · exact kn_of hts n_X2_29
  · exact kn_of hts n_X10_23
  · exact kn_of hts n_X10_16
  · exact kn_of hts n_X10_30
  · exact kn_of hts n_X10_37
  · exact kn_of hts n_X10_7
  · exact kn_of hts n_X2_22
  · exact kn_of hts n_X6_7
  · exact kn_of hts n_X10_44
  · exact kn_of hts n_L_7
  · exact kn_of hts n_L_10
  · exact ⟨0, fun _ => 0, fun q hq => by rw [List.getElem?_eq_none (show vwCl.length ≤ ci from h)] at hq; cases hq⟩
theorem ka_of {s : State} {args : Array Value} {ty : FieldType} (h : (Cond.arrayClass ty).before args s = true) : ∃ cA : ClassId, ArrOfT s cA ty ∧ s.vm.findClass ("[" ++ ty.toString) = some cA := by
  obtain ⟨cA, kA, comp, h1, h2, h3⟩ := Cond.arrayClass_spec h
  exact ⟨cA, fun n z => ⟨fun k h => (by cases h), kA, h2, comp, h3⟩, h1⟩
theorem ko_of {s : State} {args : Array Value} {C : String} (h : (Cond.arrayOver (.object C)).before args s = true) : ∃ cA : ClassId, ArrOfT s cA (.object C) ∧ va_RA s cA (.object C) := by
  obtain ⟨comp, cA, kA, h1, h2, h3, h4, h5⟩ := Cond.arrayOver_spec h
  exact ⟨cA, fun n z => ⟨fun k h => (by cases h), kA, h3, comp, h4⟩, kA, comp, h3, h4, h1, h5⟩
theorem zK_of {s : State} {args : Array Value} (hts : ∀ w ∈ lw_tbl, w.before args s = true) : ∃ (D : va_G) (κ : Nat → ClassId), zK D κ s := by
  have htz : ∀ w ∈ zB, w.before args s = true := fun w hw => hts w (List.mem_filter.mp hw).1
  have hao : (Cond.arrayOver (.object RX6)).before args s = true := hts _ (List.mem_of_getElem? (i := 133) (by decide +kernel))
  obtain ⟨a0, b0, c0⟩ := ka_of (htz _ ac_int)
  obtain ⟨a1, b1, c1⟩ := ka_of (htz _ ac_long)
  obtain ⟨a2, b2, c2⟩ := ka_of (htz _ ac_char)
  obtain ⟨a3, b3, c3⟩ := ko_of hao
  refine ⟨(fun ci => Classical.choose (kn_all htz ci), fun ci => Classical.choose (Classical.choose_spec (kn_all htz ci))), fun i => if i = 0 then a0 else if i = 1 then a1 else if i = 2 then a2 else a3, ⟨fun ci q hq => Classical.choose_spec (Classical.choose_spec (kn_all htz ci)) q hq, fun i q hq => ?_⟩, fun w hw => ?_, va_AO.of hao⟩
  · match i, hq with
    | 0, hq => cases hq; exact ⟨b0, c0⟩
    | 1, hq => cases hq; exact ⟨b1, c1⟩
    | 2, hq => cases hq; exact ⟨b2, c2⟩
    | 3, hq => cases hq; exact ⟨b3, c3⟩
    | i + 4, hq => exact absurd hq (by rw [List.getElem?_eq_none (show (4 : Nat) ≤ i + 4 by omega)]; intro z; cases z)
  · have h2 := (List.mem_filter.mp hw).2
    have h1 := hts w (List.mem_filter.mp hw).1
    cases w <;> first | exact va_Nw.of rfl h1 | (simp [z_isNest] at h2; done)
theorem RX_ini (l : Launch) (D : va_G) (κ : Nat → ClassId) (x0 : Nat) : ZV l yX10_init cX10_init 1 rm_X10_init D κ [.ref x0] [(x0, .inr (10, [.null, .null, .null, .null, .null, .null, .null]))] (fun w => RX κ x0 (hE 0 2 1 0 (fun _ => 0) (fun _ => 0)) [] (fun _ => 0) 0 w) := by
  refine ZC.conseq (c_X10_init l D κ x0) (fun v w hq => ?_)
  obtain ⟨hv, st, hh, ex, nb, sq, tx, fr, su, bk, bu, bl, ha, st0, st1, st2, st3, su0, bk0, bu0, bl0, su1, bk1, bu1, bl1, su2, bk2, bu2, bl2, su3, bk3, bu3, bl3, hT, hU, hL, hS, hH, qs, qh, hc, ht, lt', lb', ld', pd', cv', f', U', L', e1', e2', e3', e4', e5', e6', e7', e8', e9', hx_, hpost⟩ := hq
  exact ⟨hv, (nu (nu (nu (nu (nu (nu (nu (nu (nu (nu (nu (nu (nu (nu (nu (nu (nu (nu (nu (nu (nu (nu (nu (nu (nu (nu (nu (nu (nu (nu (nu (nu (nu (nu (nu (nu (nu (nu (nu (nu (nu (fun _ => 0) 0 st) 1 hh) 2 ex) 3 nb) 4 sq) 5 tx) 6 fr) 7 su) 8 bk) 9 bu) 10 bl) 11 ha) 12 st0) 13 st1) 14 st2) 15 st3) 16 su0) 17 bk0) 18 bu0) 19 bl0) 20 su1) 21 bk1) 22 bu1) 23 bl1) 24 su2) 25 bk2) 26 bu2) 27 bl2) 28 su3) 29 bk3) 30 bu3) 31 bl3) 32 hT) 33 hU) 34 hL) 35 hS) 36 hH) 37 qs) 38 qh) 39 hc) 40 ht), (nu (nu (nu (nu (nu (nu (nu (nu (nu (nu (nu (nu (nu (nu (nu (nu (nu (nu (nu (nu (nu (nu (nu (nu (fun _ => 0) 1 2) 2 1) 6 2) 7 1) 10 2) 11 1) 14 2) 15 1) 18 2) 19 1) 21 lt') 22 lb') 23 ld') 24 pd') 25 cv') 26 e1') 27 e2') 28 e3') 29 e4') 30 e5') 31 e6') 32 e7') 33 e8') 34 e9'), (nu (nu (nu (fun _ => fun _ => 0) 10 f') 11 U') 12 L'), hpost.symm, (show (0 : Int) ≤ 0 ∧ (0 : Int) ≤ 4 from ⟨by omega, by omega⟩), ⟨(show n8 0 from ⟨by omega, by omega⟩), (show n8 0 from ⟨by omega, by omega⟩), (show n8 0 from ⟨by omega, by omega⟩), (show n8 0 from ⟨by omega, by omega⟩), (show n8 0 from ⟨by omega, by omega⟩)⟩, rfl, rfl, hx_, ⟨⟨by omega, by omega⟩, fun i i1 i2 => absurd i1 (by omega)⟩⟩
theorem RM_ini (l : Launch) (D : va_G) (κ : Nat → ClassId) (m0 : Nat) : ZV l yX11_init cX11_init 1 rm_X11_init D κ [.ref m0] [(m0, .inr (11, [.null, .null, .int (zi 0), .null, .int (zi 0), .null, .null, .null, .int (zi 0), .long (zl 0), .long (zl 0), .long (zl 0), .long (zl 0), .long (zl 0), .int (zi 0), .int (zi 0), .int (zi 0), .int (zi 0), .int (zi 0), .int (zi 0), .int (zi 0), .null]))] (fun w => RM κ m0 (zu (zu (fun _ => 0) 1 2) 2 1) (fun _ => 0) 0 (fun _ => 0) 0 w) := by
  refine ZC.conseq (c_X11_init l D κ m0) (fun v w hq => ?_)
  obtain ⟨hv, ms, mp, mt, mT, mO, mU, mr, hpost⟩ := hq
  exact ⟨hv, ms, mp, mt, mT, mO, mU, 0, 0, 0, 0, 0, 0, 0, 0, 0, 0, 0, 0, 0, mr, (fun _ => 0), (fun _ => 0), (fun _ => 0), (fun _ => 0), hpost.symm, ⟨by omega, by omega⟩⟩
theorem st_ini : stR2 (hE 0 2 1 0 (fun _ => 0) (fun _ => 0)) (zu (zu (fun _ => 0) 1 2) 2 1) :=
  ⟨⟨rfl, rfl, rfl⟩, vS_ini, ⟨⟨by decide, by decide⟩, fun i i1 i2 => absurd (show i < 0 from i2) (by omega)⟩, BK_nil _ _ _⟩
theorem LI_ini {κ : Nat → ClassId} {x0 m0 : Nat} {w1 w2 : va_W} (h1 : RX κ x0 (hE 0 2 1 0 (fun _ => 0) (fun _ => 0)) [] (fun _ => 0) 0 w1) (h2 : RM κ m0 (zu (zu (fun _ => 0) 1 2) 2 1) (fun _ => 0) 0 (fun _ => 0) 0 w2) : LI κ x0 m0 w1 w2 :=
  ⟨_, _, _, _, _, _, _, h1, h2, st_ini, hsR_0⟩
