abbrev rm_X3_keep : Room := rm_X3_keep0
set_option maxRecDepth 100000 in
theorem c_X3_keep (l : Launch) (D : va_G) (κ : Nat → ClassId) (hh : Nat) (ha : Nat) (hs : Int) (st0 : Nat) (st1 : Nat) (st2 : Nat) (st3 : Nat) (su0 : Nat) (bk0 : Nat) (p0 : Int) (d0 : Int) (q0 : Int) (bu0 : Nat) (bl0 : Nat) (n0 : Int) (u0 : Int → Int) (lo0 : Int → Int) (su1 : Nat) (bk1 : Nat) (p1 : Int) (d1 : Int) (q1 : Int) (bu1 : Nat) (bl1 : Nat) (n1 : Int) (u1 : Int → Int) (lo1 : Int → Int) (su2 : Nat) (bk2 : Nat) (p2 : Int) (d2 : Int) (q2 : Int) (bu2 : Nat) (bl2 : Nat) (n2 : Int) (u2 : Int → Int) (lo2 : Int → Int) (su3 : Nat) (bk3 : Nat) (p3 : Int) (d3 : Int) (q3 : Int) (bu3 : Nat) (bl3 : Nat) (n3 : Int) (u3 : Int → Int) (lo3 : Int → Int) (st : Nat) (su : Nat) (bk : Nat) (p : Int) (d : Int) (q : Int) (bu : Nat) (bl : Nat) (n : Int) (u : Int → Int) (lo : Int → Int) (hhs : 0 ≤ hs ∧ hs ≤ 4) (hn : n8 n) (hn0 : n8 n0) (hn1 : n8 n1) (hn2 : n8 n2) (hn3 : n8 n3) : ZV l yX3_keep cX3_keep 2 rm_X3_keep D κ [.ref hh, .ref st] [(hh, .inr (3, [.ref ha, .int (zi hs)])), (ha, ar κ 4 (rf4 (some st0) (some st1) (some st2) (some st3))), (st0, .inr (6, [.ref su0, .ref bk0])), (su0, .inr (8, [.int (zi p0), .int (zi d0), .int (zi q0)])), (bk0, .inr (0, [.ref bu0, .ref bl0, .int (zi n0)])), (bu0, ai κ 8 u0), (bl0, ai κ 8 lo0), (st1, .inr (6, [.ref su1, .ref bk1])), (su1, .inr (8, [.int (zi p1), .int (zi d1), .int (zi q1)])), (bk1, .inr (0, [.ref bu1, .ref bl1, .int (zi n1)])), (bu1, ai κ 8 u1), (bl1, ai κ 8 lo1), (st2, .inr (6, [.ref su2, .ref bk2])), (su2, .inr (8, [.int (zi p2), .int (zi d2), .int (zi q2)])), (bk2, .inr (0, [.ref bu2, .ref bl2, .int (zi n2)])), (bu2, ai κ 8 u2), (bl2, ai κ 8 lo2), (st3, .inr (6, [.ref su3, .ref bk3])), (su3, .inr (8, [.int (zi p3), .int (zi d3), .int (zi q3)])), (bk3, .inr (0, [.ref bu3, .ref bl3, .int (zi n3)])), (bu3, ai κ 8 u3), (bl3, ai κ 8 lo3), (st, .inr (6, [.ref su, .ref bk])), (su, .inr (8, [.int (zi p), .int (zi d), .int (zi q)])), (bk, .inr (0, [.ref bu, .ref bl, .int (zi n)])), (bu, ai κ 8 u), (bl, ai κ 8 lo)] (fun w => ∃ st0' : Nat, ∃ su0' : Nat, ∃ bk0' : Nat, ∃ bu0' : Nat, ∃ bl0' : Nat, ∃ st1' : Nat, ∃ su1' : Nat, ∃ bk1' : Nat, ∃ bu1' : Nat, ∃ bl1' : Nat, ∃ st2' : Nat, ∃ su2' : Nat, ∃ bk2' : Nat, ∃ bu2' : Nat, ∃ bl2' : Nat, ∃ st3' : Nat, ∃ su3' : Nat, ∃ bk3' : Nat, ∃ bu3' : Nat, ∃ bl3' : Nat, ∃ p0' : Int, ∃ d0' : Int, ∃ q0' : Int, ∃ n0' : Int, ∃ u0' : Int → Int, ∃ lo0' : Int → Int, ∃ p1' : Int, ∃ d1' : Int, ∃ q1' : Int, ∃ n1' : Int, ∃ u1' : Int → Int, ∃ lo1' : Int → Int, ∃ p2' : Int, ∃ d2' : Int, ∃ q2' : Int, ∃ n2' : Int, ∃ u2' : Int → Int, ∃ lo2' : Int → Int, ∃ p3' : Int, ∃ d3' : Int, ∃ q3' : Int, ∃ n3' : Int, ∃ u3' : Int → Int, ∃ lo3' : Int → Int, ∃ hs' : Int, (hKp hs (hE p0 d0 q0 n0 u0 lo0) (hE p1 d1 q1 n1 u1 lo1) (hE p2 d2 q2 n2 u2 lo2) (hE p3 d3 q3 n3 u3 lo3) (hE p d q n u lo) hs' (hE p0' d0' q0' n0' u0' lo0') (hE p1' d1' q1' n1' u1' lo1') (hE p2' d2' q2' n2' u2' lo2') (hE p3' d3' q3' n3' u3' lo3')) ∧ (n8 n0' ∧ n8 n1' ∧ n8 n2' ∧ n8 n3') ∧ [(hh, .inr (3, [.ref ha, .int (zi hs')])), (ha, ar κ 4 (rf4 (some st0') (some st1') (some st2') (some st3'))), (st0', .inr (6, [.ref su0', .ref bk0'])), (su0', .inr (8, [.int (zi p0'), .int (zi d0'), .int (zi q0')])), (bk0', .inr (0, [.ref bu0', .ref bl0', .int (zi n0')])), (bu0', ai κ 8 u0'), (bl0', ai κ 8 lo0'), (st1', .inr (6, [.ref su1', .ref bk1'])), (su1', .inr (8, [.int (zi p1'), .int (zi d1'), .int (zi q1')])), (bk1', .inr (0, [.ref bu1', .ref bl1', .int (zi n1')])), (bu1', ai κ 8 u1'), (bl1', ai κ 8 lo1'), (st2', .inr (6, [.ref su2', .ref bk2'])), (su2', .inr (8, [.int (zi p2'), .int (zi d2'), .int (zi q2')])), (bk2', .inr (0, [.ref bu2', .ref bl2', .int (zi n2')])), (bu2', ai κ 8 u2'), (bl2', ai κ 8 lo2'), (st3', .inr (6, [.ref su3', .ref bk3'])), (su3', .inr (8, [.int (zi p3'), .int (zi d3'), .int (zi q3')])), (bk3', .inr (0, [.ref bu3', .ref bl3', .int (zi n3')])), (bu3', ai κ 8 u3'), (bl3', ai κ 8 lo3'), (st, .inr (6, [.ref su, .ref bk])), (su, .inr (8, [.int (zi p), .int (zi d), .int (zi q)])), (bk, .inr (0, [.ref bu, .ref bl, .int (zi n)])), (bu, ai κ 8 u), (bl, ai κ 8 lo)] = w) := by
  rcases (show hs = 0 ∨ hs = 1 ∨ hs = 2 ∨ hs = 3 ∨ hs = 4 by omega) with rfl | rfl | rfl | rfl | rfl
  · refine ZC.conseq (c_X3_keep0 l D κ hh ha st0 su0 bk0 bu0 bl0 p0 d0 q0 n0 u0 lo0 st1 su1 bk1 bu1 bl1 p1 d1 q1 n1 u1 lo1 st2 su2 bk2 bu2 bl2 p2 d2 q2 n2 u2 lo2 st3 su3 bk3 bu3 bl3 p3 d3 q3 n3 u3 lo3 st su bk bu bl p d q n u lo hn) (fun v w h => ?_)
    obtain ⟨hv, u', lo', hj, hw⟩ := h
    refine ⟨hv, st0, su0, bk0, bu0, bl0, st1, su1, bk1, bu1, bl1, st2, su2, bk2, bu2, bl2, st3, su3, bk3, bu3, bl3, p, d, q, n, u', lo', p1, d1, q1, n1, u1, lo1, p2, d2, q2, n2, u2, lo2, p3, d3, q3, n3, u3, lo3, 1, ⟨⟨by decide, by decide⟩, ?_⟩, ⟨hn, hn1, hn2, hn3⟩, ?_⟩
    · rw [hE_cong hj]; rfl
    · exact hw
  · refine ZC.conseq (c_X3_keep1 l D κ hh ha st0 su0 bk0 bu0 bl0 p0 d0 q0 n0 u0 lo0 st1 su1 bk1 bu1 bl1 p1 d1 q1 n1 u1 lo1 st2 su2 bk2 bu2 bl2 p2 d2 q2 n2 u2 lo2 st3 su3 bk3 bu3 bl3 p3 d3 q3 n3 u3 lo3 st su bk bu bl p d q n u lo hn) (fun v w h => ?_)
    obtain ⟨hv, u', lo', hj, hw⟩ := h
    refine ⟨hv, st0, su0, bk0, bu0, bl0, st1, su1, bk1, bu1, bl1, st2, su2, bk2, bu2, bl2, st3, su3, bk3, bu3, bl3, p0, d0, q0, n0, u0, lo0, p, d, q, n, u', lo', p2, d2, q2, n2, u2, lo2, p3, d3, q3, n3, u3, lo3, 2, ⟨⟨by decide, by decide⟩, ?_⟩, ⟨hn0, hn, hn2, hn3⟩, ?_⟩
    · rw [hE_cong hj]; rfl
    · exact hw
  · refine ZC.conseq (c_X3_keep2 l D κ hh ha st0 su0 bk0 bu0 bl0 p0 d0 q0 n0 u0 lo0 st1 su1 bk1 bu1 bl1 p1 d1 q1 n1 u1 lo1 st2 su2 bk2 bu2 bl2 p2 d2 q2 n2 u2 lo2 st3 su3 bk3 bu3 bl3 p3 d3 q3 n3 u3 lo3 st su bk bu bl p d q n u lo hn) (fun v w h => ?_)
    obtain ⟨hv, u', lo', hj, hw⟩ := h
    refine ⟨hv, st0, su0, bk0, bu0, bl0, st1, su1, bk1, bu1, bl1, st2, su2, bk2, bu2, bl2, st3, su3, bk3, bu3, bl3, p0, d0, q0, n0, u0, lo0, p1, d1, q1, n1, u1, lo1, p, d, q, n, u', lo', p3, d3, q3, n3, u3, lo3, 3, ⟨⟨by decide, by decide⟩, ?_⟩, ⟨hn0, hn1, hn, hn3⟩, ?_⟩
    · rw [hE_cong hj]; rfl
    · exact hw
  · refine ZC.conseq (c_X3_keep3 l D κ hh ha st0 su0 bk0 bu0 bl0 p0 d0 q0 n0 u0 lo0 st1 su1 bk1 bu1 bl1 p1 d1 q1 n1 u1 lo1 st2 su2 bk2 bu2 bl2 p2 d2 q2 n2 u2 lo2 st3 su3 bk3 bu3 bl3 p3 d3 q3 n3 u3 lo3 st su bk bu bl p d q n u lo hn) (fun v w h => ?_)
    obtain ⟨hv, u', lo', hj, hw⟩ := h
    refine ⟨hv, st0, su0, bk0, bu0, bl0, st1, su1, bk1, bu1, bl1, st2, su2, bk2, bu2, bl2, st3, su3, bk3, bu3, bl3, p0, d0, q0, n0, u0, lo0, p1, d1, q1, n1, u1, lo1, p2, d2, q2, n2, u2, lo2, p, d, q, n, u', lo', 4, ⟨⟨by decide, by decide⟩, ?_⟩, ⟨hn0, hn1, hn2, hn⟩, ?_⟩
    · rw [hE_cong hj]; rfl
    · exact hw
  · refine ZC.conseq (c_X3_keep4 l D κ hh ha st0 su0 bk0 bu0 bl0 p0 d0 q0 n0 u0 lo0 st1 su1 bk1 bu1 bl1 p1 d1 q1 n1 u1 lo1 st2 su2 bk2 bu2 bl2 p2 d2 q2 n2 u2 lo2 st3 su3 bk3 bu3 bl3 p3 d3 q3 n3 u3 lo3 st su bk bu bl p d q n u lo hn) (fun v w h => ?_)
    obtain ⟨hv, u', lo', hj, hw⟩ := h
    refine ⟨hv, st1, su1, bk1, bu1, bl1, st2, su2, bk2, bu2, bl2, st3, su3, bk3, bu3, bl3, st0, su0, bk0, bu0, bl0, p1, d1, q1, n1, u1, lo1, p2, d2, q2, n2, u2, lo2, p3, d3, q3, n3, u3, lo3, p, d, q, n, u', lo', 4, ⟨⟨by decide, by decide⟩, ?_⟩, ⟨hn1, hn2, hn3, hn⟩, ?_⟩
    · rw [hE_cong hj]; rfl
    · exact hw
abbrev rm_X3_takeBack : Room := rm_X3_takeBack1
set_option maxRecDepth 100000 in
theorem c_X3_takeBack (l : Launch) (D : va_G) (κ : Nat → ClassId) (hh : Nat) (ha : Nat) (hs : Int) (st0 : Nat) (st1 : Nat) (st2 : Nat) (st3 : Nat) (su0 : Nat) (bk0 : Nat) (p0 : Int) (d0 : Int) (q0 : Int) (bu0 : Nat) (bl0 : Nat) (n0 : Int) (u0 : Int → Int) (lo0 : Int → Int) (su1 : Nat) (bk1 : Nat) (p1 : Int) (d1 : Int) (q1 : Int) (bu1 : Nat) (bl1 : Nat) (n1 : Int) (u1 : Int → Int) (lo1 : Int → Int) (su2 : Nat) (bk2 : Nat) (p2 : Int) (d2 : Int) (q2 : Int) (bu2 : Nat) (bl2 : Nat) (n2 : Int) (u2 : Int → Int) (lo2 : Int → Int) (su3 : Nat) (bk3 : Nat) (p3 : Int) (d3 : Int) (q3 : Int) (bu3 : Nat) (bl3 : Nat) (n3 : Int) (u3 : Int → Int) (lo3 : Int → Int) (st : Nat) (su : Nat) (bk : Nat) (p : Int) (d : Int) (q : Int) (bu : Nat) (bl : Nat) (n : Int) (u : Int → Int) (lo : Int → Int) (hhs : 1 ≤ hs ∧ hs ≤ 4) (hn0 : n8 n0) (hn1 : n8 n1) (hn2 : n8 n2) (hn3 : n8 n3) : ZV l yX3_takeBack cX3_takeBack 2 rm_X3_takeBack D κ [.ref hh, .ref st] [(hh, .inr (3, [.ref ha, .int (zi hs)])), (ha, ar κ 4 (rf4 (some st0) (some st1) (some st2) (some st3))), (st0, .inr (6, [.ref su0, .ref bk0])), (su0, .inr (8, [.int (zi p0), .int (zi d0), .int (zi q0)])), (bk0, .inr (0, [.ref bu0, .ref bl0, .int (zi n0)])), (bu0, ai κ 8 u0), (bl0, ai κ 8 lo0), (st1, .inr (6, [.ref su1, .ref bk1])), (su1, .inr (8, [.int (zi p1), .int (zi d1), .int (zi q1)])), (bk1, .inr (0, [.ref bu1, .ref bl1, .int (zi n1)])), (bu1, ai κ 8 u1), (bl1, ai κ 8 lo1), (st2, .inr (6, [.ref su2, .ref bk2])), (su2, .inr (8, [.int (zi p2), .int (zi d2), .int (zi q2)])), (bk2, .inr (0, [.ref bu2, .ref bl2, .int (zi n2)])), (bu2, ai κ 8 u2), (bl2, ai κ 8 lo2), (st3, .inr (6, [.ref su3, .ref bk3])), (su3, .inr (8, [.int (zi p3), .int (zi d3), .int (zi q3)])), (bk3, .inr (0, [.ref bu3, .ref bl3, .int (zi n3)])), (bu3, ai κ 8 u3), (bl3, ai κ 8 lo3), (st, .inr (6, [.ref su, .ref bk])), (su, .inr (8, [.int (zi p), .int (zi d), .int (zi q)])), (bk, .inr (0, [.ref bu, .ref bl, .int (zi n)])), (bu, ai κ 8 u), (bl, ai κ 8 lo)] (fun w => ∃ hs' : Int, ∃ p' : Int, ∃ d' : Int, ∃ q' : Int, ∃ n' : Int, ∃ u' : Int → Int, ∃ lo' : Int → Int, (hTp hs (hE p0 d0 q0 n0 u0 lo0) (hE p1 d1 q1 n1 u1 lo1) (hE p2 d2 q2 n2 u2 lo2) (hE p3 d3 q3 n3 u3 lo3) (hE p' d' q' n' u' lo') hs') ∧ (n8 n') ∧ [(hh, .inr (3, [.ref ha, .int (zi hs')])), (ha, ar κ 4 (rf4 (some st0) (some st1) (some st2) (some st3))), (st0, .inr (6, [.ref su0, .ref bk0])), (su0, .inr (8, [.int (zi p0), .int (zi d0), .int (zi q0)])), (bk0, .inr (0, [.ref bu0, .ref bl0, .int (zi n0)])), (bu0, ai κ 8 u0), (bl0, ai κ 8 lo0), (st1, .inr (6, [.ref su1, .ref bk1])), (su1, .inr (8, [.int (zi p1), .int (zi d1), .int (zi q1)])), (bk1, .inr (0, [.ref bu1, .ref bl1, .int (zi n1)])), (bu1, ai κ 8 u1), (bl1, ai κ 8 lo1), (st2, .inr (6, [.ref su2, .ref bk2])), (su2, .inr (8, [.int (zi p2), .int (zi d2), .int (zi q2)])), (bk2, .inr (0, [.ref bu2, .ref bl2, .int (zi n2)])), (bu2, ai κ 8 u2), (bl2, ai κ 8 lo2), (st3, .inr (6, [.ref su3, .ref bk3])), (su3, .inr (8, [.int (zi p3), .int (zi d3), .int (zi q3)])), (bk3, .inr (0, [.ref bu3, .ref bl3, .int (zi n3)])), (bu3, ai κ 8 u3), (bl3, ai κ 8 lo3), (st, .inr (6, [.ref su, .ref bk])), (su, .inr (8, [.int (zi p'), .int (zi d'), .int (zi q')])), (bk, .inr (0, [.ref bu, .ref bl, .int (zi n')])), (bu, ai κ 8 u'), (bl, ai κ 8 lo')] = w) := by
  rcases (show hs = 1 ∨ hs = 2 ∨ hs = 3 ∨ hs = 4 by omega) with rfl | rfl | rfl | rfl
  · refine ZC.conseq (c_X3_takeBack1 l D κ hh ha st0 su0 bk0 bu0 bl0 p0 d0 q0 n0 u0 lo0 st1 su1 bk1 bu1 bl1 p1 d1 q1 n1 u1 lo1 st2 su2 bk2 bu2 bl2 p2 d2 q2 n2 u2 lo2 st3 su3 bk3 bu3 bl3 p3 d3 q3 n3 u3 lo3 st su bk bu bl p d q n u lo hn0) (fun v w h => ?_)
    obtain ⟨hv, u', lo', hj, hw⟩ := h
    exact ⟨hv, 0, p0, d0, q0, n0, u', lo', ⟨rfl, by rw [hE_cong hj]; rfl⟩, hn0, hw⟩
  · refine ZC.conseq (c_X3_takeBack2 l D κ hh ha st0 su0 bk0 bu0 bl0 p0 d0 q0 n0 u0 lo0 st1 su1 bk1 bu1 bl1 p1 d1 q1 n1 u1 lo1 st2 su2 bk2 bu2 bl2 p2 d2 q2 n2 u2 lo2 st3 su3 bk3 bu3 bl3 p3 d3 q3 n3 u3 lo3 st su bk bu bl p d q n u lo hn1) (fun v w h => ?_)
    obtain ⟨hv, u', lo', hj, hw⟩ := h
    exact ⟨hv, 1, p1, d1, q1, n1, u', lo', ⟨rfl, by rw [hE_cong hj]; rfl⟩, hn1, hw⟩
  · refine ZC.conseq (c_X3_takeBack3 l D κ hh ha st0 su0 bk0 bu0 bl0 p0 d0 q0 n0 u0 lo0 st1 su1 bk1 bu1 bl1 p1 d1 q1 n1 u1 lo1 st2 su2 bk2 bu2 bl2 p2 d2 q2 n2 u2 lo2 st3 su3 bk3 bu3 bl3 p3 d3 q3 n3 u3 lo3 st su bk bu bl p d q n u lo hn2) (fun v w h => ?_)
    obtain ⟨hv, u', lo', hj, hw⟩ := h
    exact ⟨hv, 2, p2, d2, q2, n2, u', lo', ⟨rfl, by rw [hE_cong hj]; rfl⟩, hn2, hw⟩
  · refine ZC.conseq (c_X3_takeBack4 l D κ hh ha st0 su0 bk0 bu0 bl0 p0 d0 q0 n0 u0 lo0 st1 su1 bk1 bu1 bl1 p1 d1 q1 n1 u1 lo1 st2 su2 bk2 bu2 bl2 p2 d2 q2 n2 u2 lo2 st3 su3 bk3 bu3 bl3 p3 d3 q3 n3 u3 lo3 st su bk bu bl p d q n u lo hn3) (fun v w h => ?_)
    obtain ⟨hv, u', lo', hj, hw⟩ := h
    exact ⟨hv, 3, p3, d3, q3, n3, u', lo', ⟨rfl, by rw [hE_cong hj]; rfl⟩, hn3, hw⟩
abbrev rm_X10_isRightSide : Room := { frames := 1, cells := 0, slots := 0, locals := 22 }
set_option maxRecDepth 100000 in
theorem c_X10_isRightSide (l : Launch) (D : va_G) (κ : Nat → ClassId) (n : Int) (hn : -2147483648 ≤ n ∧ n ≤ 2147483647) : ZI l yX10_isRightSide cX10_isRightSide 1 .boolean rm_X10_isRightSide D κ [.int (zi n)] [] (fun z w => ((1 = z ∧ (rsP n)) ∨ (0 = z ∧ ¬ (rsP n))) ∧ [] = w) := by
  refine ZI.enter (own := RX10) rfl pn_X10_isRightSide (Nat.le_of_ble_eq_true rfl) (fun X E fin => ?_)
  show Zg X [] 0 0 0 [(0, .int (zi n))] []
  refine z_iload_n E 0 rfl rfl dX10_isRightSide_0 ?_
  refine z_bipush E dX10_isRightSide_1 (by decide) ?_
  refine z_bipush E dX10_isRightSide_3 (by decide) ?_
  refine z_callSi (As := [.int (zi n), .int (zi (-60)), .int (zi 60)]) (rest := []) (wr := []) E (c_X10_isWithin l D κ n (-60) 60 (by omega) (by omega) (by omega)) m_X10_66 ⟨Nat.le_of_ble_eq_true rfl, Nat.le_of_ble_eq_true rfl⟩ ⟨rfl, rfl⟩ [] [] rfl rfl rfl rfl (by decide) rfl rfl (Nat.le_of_ble_eq_true rfl) dX10_isRightSide_5 ⟨Nat.le_of_ble_eq_true rfl, Nat.le_of_ble_eq_true rfl⟩ (fun z5 w1 hq => ?_)
  obtain ⟨⟨rfl, hc_5⟩ | ⟨rfl, hc_5⟩, rfl⟩ := hq
  · refine z_if_eq (tgt := 19) E (by omega) dX10_isRightSide_8 (by decide) (fun h => absurd h (by decide)) (fun _ => ?_)
    refine z_iload_n E 0 rfl rfl dX10_isRightSide_11 ?_
    refine z_if_eq (tgt := 19) E (by omega) dX10_isRightSide_12 (by decide) (fun h_12 => ?_) (fun h_12 => ?_)
    · refine z_iconst E dX10_isRightSide_19 ?_
      exact fin _ _ _ _ rfl (⟨Or.inr ⟨rfl, by unfold rsP; omega⟩, rfl⟩) dX10_isRightSide_20
    · refine z_iconst E dX10_isRightSide_15 ?_
      refine z_goto (tgt := 20) E dX10_isRightSide_16 (by decide) ?_
      exact fin _ _ _ _ rfl (⟨Or.inl ⟨rfl, by unfold rsP; omega⟩, rfl⟩) dX10_isRightSide_20
  · refine z_if_eq (tgt := 19) E (by omega) dX10_isRightSide_8 (by decide) (fun _ => ?_) (fun h => absurd h (by decide))
    refine z_iconst E dX10_isRightSide_19 ?_
    exact fin _ _ _ _ rfl (⟨Or.inr ⟨rfl, by unfold rsP; omega⟩, rfl⟩) dX10_isRightSide_20
abbrev rm_X10_isSquare : Room := { frames := 1, cells := 0, slots := 0, locals := 25 }
set_option maxRecDepth 100000 in
theorem c_X10_isSquare (l : Launch) (D : va_G) (κ : Nat → ClassId) (d : Int) (hd : 0 ≤ d ∧ d ≤ 999) : ZI l yX10_isSquare cX10_isSquare 3 .boolean rm_X10_isSquare D κ [.int (zi d)] [] (fun z w => ((1 = z ∧ (rt d * rt d = d)) ∨ (0 = z ∧ ¬ (rt d * rt d = d))) ∧ [] = w) := by
  refine ZI.enter (own := RX10) rfl pn_X10_isSquare (Nat.le_of_ble_eq_true rfl) (fun X E fin => ?_)
  show Zg X [] 0 0 0 [(0, .int (zi d))] []
  refine z_iload_n E 0 rfl rfl dX10_isSquare_0 ?_
  refine z_i2l E (by omega) dX10_isSquare_1 ?_
  refine z_callSl (As := [.long (zl d)]) (rest := []) (wr := []) E (c_X7_rootOf l D κ d (by omega)) m_X10_284 ⟨Nat.le_of_ble_eq_true rfl, Nat.le_of_ble_eq_true rfl⟩ ⟨rfl, rfl⟩ [] [] rfl rfl rfl rfl (by decide) rfl rfl (Nat.le_of_ble_eq_true rfl) dX10_isSquare_2 ⟨Nat.le_of_ble_eq_true rfl, Nat.le_of_ble_eq_true rfl⟩ (fun z2 w1 hq => ?_)
  obtain ⟨rfl, rfl⟩ := hq
  refine z_lstore_n (lv' := [(1, .long (zl (rt d))), (0, .int (zi d))]) E dX10_isSquare_5 rfl (Nat.le_of_ble_eq_true rfl) rfl ?_
  refine z_lload_n E 0 rfl rfl dX10_isSquare_6 ?_
  refine z_lload_n E 0 rfl rfl dX10_isSquare_7 ?_
  have h1 := rt_nonneg d
  have h2 := rt_le (x := d) (r := 31) (by omega) (by omega) (by omega)
  have h3 := sq_bd (a := rt d) (M := 31) (by omega)
  refine z_lmul E dX10_isSquare_8 ?_
  refine z_iload_n E 1 rfl rfl dX10_isSquare_9 ?_
  refine z_i2l E (by omega) dX10_isSquare_10 ?_
  refine z_lc_ne (tgt := 19) E (by omega) (by omega) dX10_isSquare_11 dX10_isSquare_12 (by decide) (fun h_11 => ?_) (fun h_11 => ?_)
  · refine z_iconst E dX10_isSquare_19 ?_
    exact fin _ _ _ _ rfl (by first | exact ⟨Or.inr ⟨rfl, by omega⟩, rfl⟩ | omega) dX10_isSquare_20
  · refine z_iconst E dX10_isSquare_15 ?_
    refine z_goto (tgt := 20) E dX10_isSquare_16 (by decide) ?_
    exact fin _ _ _ _ rfl (by first | exact ⟨Or.inl ⟨rfl, by omega⟩, rfl⟩ | omega) dX10_isSquare_20
abbrev rm_X10_fitsBook : Room := { frames := 1, cells := 0, slots := 0, locals := 13 }
set_option maxRecDepth 100000 in
theorem c_X10_fitsBook (l : Launch) (D : va_G) (κ : Nat → ClassId) (h0 : Nat) (u : Int) (v : Int) (o : Int) (ua : Int) (va : Int) (ho : o = 0 ∨ o = 1) (hu : -9000000000000000 ≤ u ∧ u ≤ 9000000000000000) (hv : -9000000000000000 ≤ v ∧ v ≤ 9000000000000000) : ZI l yX10_fitsBook cX10_fitsBook 1 .boolean rm_X10_fitsBook D κ [.ref h0] [(h0, .inr (1, [.long (zl u), .long (zl v), .int (zi o), .long (zl ua), .long (zl va)]))] (fun z w => ((1 = z ∧ (fitP o u v)) ∨ (0 = z ∧ ¬ (fitP o u v))) ∧ [(h0, .inr (1, [.long (zl u), .long (zl v), .int (zi o), .long (zl ua), .long (zl va)]))] = w) := by
  refine ZI.enter (own := RX10) rfl pn_X10_fitsBook (Nat.le_of_ble_eq_true rfl) (fun X E fin => ?_)
  show Zg X [(h0, .inr (1, [.long (zl u), .long (zl v), .int (zi o), .long (zl ua), .long (zl va)]))] 0 0 0 [(0, .ref h0)] []
  have hz := zabs_or u
  refine z_aload_n E 0 rfl rfl dX10_fitsBook_0 ?_
  refine z_get E f_X10_268 0 rfl rfl dX10_fitsBook_1 ?_
  refine z_if_ne (tgt := 36) E (by omega) dX10_fitsBook_4 (by decide) (fun h_4 => ?_) (fun h_4 => ?_)
  · refine z_iconst E dX10_fitsBook_36 ?_
    exact fin _ _ _ _ rfl (⟨Or.inr ⟨rfl, by unfold fitP; omega⟩, rfl⟩) dX10_fitsBook_37
  · refine z_aload_n E 0 rfl rfl dX10_fitsBook_7 ?_
    refine z_get E f_X10_199 0 rfl rfl dX10_fitsBook_8 ?_
    refine z_labs E (by omega) m_X10_290 st_abs i_Math co_abs (Nat.le_of_ble_eq_true rfl) (Nat.le_of_ble_eq_true rfl) (Nat.le_of_ble_eq_true rfl) (Nat.le_of_ble_eq_true rfl) dX10_fitsBook_11 ?_
    refine z_ldc2 E k_X10_295 dX10_fitsBook_14 ?_
    refine z_lc_gt (tgt := 36) E (by omega) (by omega) dX10_fitsBook_17 dX10_fitsBook_18 (by decide) (fun h_17 => ?_) (fun h_17 => ?_)
    · refine z_iconst E dX10_fitsBook_36 ?_
      exact fin _ _ _ _ rfl (⟨Or.inr ⟨rfl, by unfold fitP; omega⟩, rfl⟩) dX10_fitsBook_37
    · refine z_aload_n E 0 rfl rfl dX10_fitsBook_21 ?_
      refine z_get E f_X10_202 0 rfl rfl dX10_fitsBook_22 ?_
      refine z_ldc2 E k_X10_297 dX10_fitsBook_25 ?_
      refine z_lc_gt (tgt := 36) E (by omega) (by omega) dX10_fitsBook_28 dX10_fitsBook_29 (by decide) (fun h_28 => ?_) (fun h_28 => ?_)
      · refine z_iconst E dX10_fitsBook_36 ?_
        exact fin _ _ _ _ rfl (⟨Or.inr ⟨rfl, by unfold fitP; omega⟩, rfl⟩) dX10_fitsBook_37
      · refine z_iconst E dX10_fitsBook_32 ?_
        refine z_goto (tgt := 37) E dX10_fitsBook_33 (by decide) ?_
        exact fin _ _ _ _ rfl (⟨Or.inl ⟨rfl, by unfold fitP; omega⟩, rfl⟩) dX10_fitsBook_37
abbrev rm_X10_neighbourPart : Room := { frames := 0, cells := 0, slots := 0, locals := 0 }
set_option maxRecDepth 100000 in
theorem c_X10_neighbourPart (l : Launch) (D : va_G) (κ : Nat → ClassId) (x0 : Nat) (st : Nat) (hh : Nat) (ex : Nat) (nb : Nat) (sq : Nat) (tx : Nat) (fr : Nat) (g1 : Int) (g2 : Int) (g3 : Int) (g4 : Int) (g5 : Int) (a : Int) (b : Int) (ha : a = 0 ∨ a = 1) (hb : b = 0 ∨ b = 1) : ZI l yX10_neighbourPart cX10_neighbourPart 3 .int rm_X10_neighbourPart D κ [.ref x0, .int (zi a), .int (zi b)] [(x0, .inr (10, [.ref st, .ref hh, .ref ex, .ref nb, .ref sq, .ref tx, .ref fr])), (nb, .inr (4, [.long (zl g1), .long (zl g2), .long (zl g3), .long (zl g4), .int (zi g5)]))] (fun z w => (nbV a b g1 g2 g3 g4) = z ∧ [(x0, .inr (10, [.ref st, .ref hh, .ref ex, .ref nb, .ref sq, .ref tx, .ref fr])), (nb, .inr (4, [.long (zl g1), .long (zl g2), .long (zl g3), .long (zl g4), .int (zi g5)]))] = w) := by
  refine ZI.enter (own := RX10) rfl pn_X10_neighbourPart (Nat.le_of_ble_eq_true rfl) (fun X E fin => ?_)
  show Zg X [(x0, .inr (10, [.ref st, .ref hh, .ref ex, .ref nb, .ref sq, .ref tx, .ref fr])), (nb, .inr (4, [.long (zl g1), .long (zl g2), .long (zl g3), .long (zl g4), .int (zi g5)]))] 0 0 0 [(0, .ref x0), (1, .int (zi a)), (2, .int (zi b))] []
  refine z_iload_n E 2 rfl rfl dX10_neighbourPart_0 ?_
  refine z_if_ne (tgt := 30) E (by omega) dX10_neighbourPart_1 (by decide) (fun h_1 => ?_) (fun h_1 => ?_)
  · refine z_iload_n E 1 rfl rfl dX10_neighbourPart_30 ?_
    refine z_if_eq (tgt := 44) E (by omega) dX10_neighbourPart_31 (by decide) (fun h_31 => ?_) (fun h_31 => ?_)
    · refine z_aload_n E 0 rfl rfl dX10_neighbourPart_44 ?_
      refine z_get E f_X10_33 0 rfl rfl dX10_neighbourPart_45 ?_
      refine z_get E f_X10_281 1 rfl rfl dX10_neighbourPart_48 ?_
      refine z_l2i E dX10_neighbourPart_51 ?_
      exact fin _ _ _ _ rfl (⟨by unfold nbV; rw [if_neg (by omega), if_pos (by omega)], rfl⟩) dX10_neighbourPart_52
    · refine z_aload_n E 0 rfl rfl dX10_neighbourPart_34 ?_
      refine z_get E f_X10_33 0 rfl rfl dX10_neighbourPart_35 ?_
      refine z_get E f_X10_278 1 rfl rfl dX10_neighbourPart_38 ?_
      refine z_goto (tgt := 51) E dX10_neighbourPart_41 (by decide) ?_
      refine z_l2i E dX10_neighbourPart_51 ?_
      exact fin _ _ _ _ rfl (⟨by unfold nbV; rw [if_neg (by omega), if_neg (by omega)], rfl⟩) dX10_neighbourPart_52
  · refine z_iload_n E 1 rfl rfl dX10_neighbourPart_4 ?_
    refine z_if_eq (tgt := 18) E (by omega) dX10_neighbourPart_5 (by decide) (fun h_5 => ?_) (fun h_5 => ?_)
    · refine z_aload_n E 0 rfl rfl dX10_neighbourPart_18 ?_
      refine z_get E f_X10_33 0 rfl rfl dX10_neighbourPart_19 ?_
      refine z_get E f_X10_275 1 rfl rfl dX10_neighbourPart_22 ?_
      refine z_l2i E dX10_neighbourPart_25 ?_
      refine z_ldc E k_X10_224 dX10_neighbourPart_26 ?_
      refine z_iadd E dX10_neighbourPart_28 ?_
      exact fin _ _ _ _ rfl (⟨by unfold nbV; rw [if_pos (by omega), if_pos (by omega)], rfl⟩) dX10_neighbourPart_29
    · refine z_aload_n E 0 rfl rfl dX10_neighbourPart_8 ?_
      refine z_get E f_X10_33 0 rfl rfl dX10_neighbourPart_9 ?_
      refine z_get E f_X10_272 1 rfl rfl dX10_neighbourPart_12 ?_
      refine z_goto (tgt := 25) E dX10_neighbourPart_15 (by decide) ?_
      refine z_l2i E dX10_neighbourPart_25 ?_
      refine z_ldc E k_X10_224 dX10_neighbourPart_26 ?_
      refine z_iadd E dX10_neighbourPart_28 ?_
      exact fin _ _ _ _ rfl (⟨by unfold nbV; rw [if_pos (by omega), if_neg (by omega)], rfl⟩) dX10_neighbourPart_29
abbrev rm_X10_partOf : Room := { frames := 0, cells := 0, slots := 0, locals := 0 }
set_option maxRecDepth 100000 in
theorem c_X10_partOf (l : Launch) (D : va_G) (κ : Nat → ClassId) (x0 : Nat) (st : Nat) (hh : Nat) (ex : Nat) (nb : Nat) (sq : Nat) (tx : Nat) (fr : Nat) (su : Nat) (bk : Nat) (p : Int) (d : Int) (q : Int) (wt : Int) (hr0 : -2147483648 ≤ wt ∧ wt ≤ 2147483647) : ZI l yX10_partOf cX10_partOf 2 .int rm_X10_partOf D κ [.ref x0, .int (zi wt)] [(x0, .inr (10, [.ref st, .ref hh, .ref ex, .ref nb, .ref sq, .ref tx, .ref fr])), (st, .inr (6, [.ref su, .ref bk])), (su, .inr (8, [.int (zi p), .int (zi d), .int (zi q)]))] (fun z w => (poV p d q wt) = z ∧ [(x0, .inr (10, [.ref st, .ref hh, .ref ex, .ref nb, .ref sq, .ref tx, .ref fr])), (st, .inr (6, [.ref su, .ref bk])), (su, .inr (8, [.int (zi p), .int (zi d), .int (zi q)]))] = w) := by
  refine ZI.enter (own := RX10) rfl pn_X10_partOf (Nat.le_of_ble_eq_true rfl) (fun X E fin => ?_)
  show Zg X [(x0, .inr (10, [.ref st, .ref hh, .ref ex, .ref nb, .ref sq, .ref tx, .ref fr])), (st, .inr (6, [.ref su, .ref bk])), (su, .inr (8, [.int (zi p), .int (zi d), .int (zi q)]))] 0 0 0 [(0, .ref x0), (1, .int (zi wt))] []
  refine z_iload_n E 1 rfl rfl dX10_partOf_0 ?_
  have h_1 : wt = 0 ∨ wt = 1 ∨ wt = 2 ∨ (wt < 0 ∨ 2 < wt) := by omega
  rcases h_1 with h_1 | h_1 | h_1 | h_1
  · refine z_tswIn (a := wt) (off := 27) (tgt := 28) E (by omega) dX10_partOf_1 (by omega) (by omega) (by rw [h_1]; rfl) (by decide) ?_
    refine z_aload_n E 0 rfl rfl dX10_partOf_28 ?_
    refine z_get E f_X10_10 0 rfl rfl dX10_partOf_29 ?_
    refine z_get E f_X10_58 1 rfl rfl dX10_partOf_32 ?_
    refine z_get E f_X10_95 2 rfl rfl dX10_partOf_35 ?_
    refine z_sipush E dX10_partOf_38 (by decide) ?_
    refine z_iadd E dX10_partOf_41 ?_
    exact fin _ _ _ _ rfl (⟨by unfold poV; rw [if_pos (by omega)], rfl⟩) dX10_partOf_42
  · refine z_tswIn (a := wt) (off := 42) (tgt := 43) E (by omega) dX10_partOf_1 (by omega) (by omega) (by rw [h_1]; rfl) (by decide) ?_
    refine z_aload_n E 0 rfl rfl dX10_partOf_43 ?_
    refine z_get E f_X10_10 0 rfl rfl dX10_partOf_44 ?_
    refine z_get E f_X10_58 1 rfl rfl dX10_partOf_47 ?_
    refine z_get E f_X10_99 2 rfl rfl dX10_partOf_50 ?_
    refine z_sipush E dX10_partOf_53 (by decide) ?_
    refine z_iadd E dX10_partOf_56 ?_
    exact fin _ _ _ _ rfl (⟨by unfold poV; rw [if_neg (by omega), if_pos (by omega)], rfl⟩) dX10_partOf_57
  · refine z_tswIn (a := wt) (off := 57) (tgt := 58) E (by omega) dX10_partOf_1 (by omega) (by omega) (by rw [h_1]; rfl) (by decide) ?_
    refine z_aload_n E 0 rfl rfl dX10_partOf_58 ?_
    refine z_get E f_X10_10 0 rfl rfl dX10_partOf_59 ?_
    refine z_get E f_X10_58 1 rfl rfl dX10_partOf_62 ?_
    refine z_get E f_X10_102 2 rfl rfl dX10_partOf_65 ?_
    refine z_sipush E dX10_partOf_68 (by decide) ?_
    refine z_iadd E dX10_partOf_71 ?_
    exact fin _ _ _ _ rfl (⟨by unfold poV; rw [if_neg (by omega), if_neg (by omega), if_pos (by omega)], rfl⟩) dX10_partOf_72
  · refine z_tswOut (a := wt) (tgt := 73) E (by omega) dX10_partOf_1 (by omega) (by decide) ?_
    refine z_ldc E k_X10_70 dX10_partOf_73 ?_
    exact fin _ _ _ _ rfl (⟨by unfold poV; rw [if_neg (by omega), if_neg (by omega), if_neg (by omega)], rfl⟩) dX10_partOf_75
abbrev rm_X10_term : Room := { frames := 1, cells := 0, slots := 0, locals := 22 }
set_option maxRecDepth 100000 in
theorem c_X10_term (l : Launch) (D : va_G) (κ : Nat → ClassId) (x0 : Nat) (st : Nat) (hh : Nat) (ex : Nat) (nb : Nat) (sq : Nat) (tx : Nat) (fr : Nat) (hT : Nat) (hU : Nat) (hL : Nat) (hS : Nat) (hH : Nat) (lt : Int) (lb : Int) (ld : Int) (pd : Int) (cv : Int) (f : Int → Int) (i : Int) (hr0 : -2147483648 ≤ i ∧ i ≤ 2147483647) : ZI l yX10_term cX10_term 2 .int rm_X10_term D κ [.ref x0, .int (zi i)] [(x0, .inr (10, [.ref st, .ref hh, .ref ex, .ref nb, .ref sq, .ref tx, .ref fr])), (ex, .inr (2, [.ref hT, .ref hU, .ref hL, .ref hS, .ref hH, .long (zl lt), .long (zl lb), .int (zi ld), .int (zi pd), .int (zi cv)])), (hT, ai κ 400 f)] (fun z w => (if 0 ≤ i ∧ i ≤ 399 then f i + 1000 else -1000001) = z ∧ [(x0, .inr (10, [.ref st, .ref hh, .ref ex, .ref nb, .ref sq, .ref tx, .ref fr])), (ex, .inr (2, [.ref hT, .ref hU, .ref hL, .ref hS, .ref hH, .long (zl lt), .long (zl lb), .int (zi ld), .int (zi pd), .int (zi cv)])), (hT, ai κ 400 f)] = w) := by
  refine ZI.enter (own := RX10) rfl pn_X10_term (Nat.le_of_ble_eq_true rfl) (fun X E fin => ?_)
  show Zg X [(x0, .inr (10, [.ref st, .ref hh, .ref ex, .ref nb, .ref sq, .ref tx, .ref fr])), (ex, .inr (2, [.ref hT, .ref hU, .ref hL, .ref hS, .ref hH, .long (zl lt), .long (zl lb), .int (zi ld), .int (zi pd), .int (zi cv)])), (hT, ai κ 400 f)] 0 0 0 [(0, .ref x0), (1, .int (zi i))] []
  refine z_iload_n E 1 rfl rfl dX10_term_0 ?_
  refine z_iconst E dX10_term_1 ?_
  refine z_sipush E dX10_term_2 (by decide) ?_
  refine z_callSi (As := [.int (zi i), .int (zi 0), .int (zi 399)]) (rest := []) (wr := [(x0, .inr (10, [.ref st, .ref hh, .ref ex, .ref nb, .ref sq, .ref tx, .ref fr])), (ex, .inr (2, [.ref hT, .ref hU, .ref hL, .ref hS, .ref hH, .long (zl lt), .long (zl lb), .int (zi ld), .int (zi pd), .int (zi cv)])), (hT, ai κ 400 f)]) E (c_X10_isWithin l D κ i 0 399 (by omega) (by omega) (by omega)) m_X10_66 ⟨Nat.le_of_ble_eq_true rfl, Nat.le_of_ble_eq_true rfl⟩ ⟨rfl, rfl⟩ [] [0, 1, 2] rfl rfl rfl rfl (by decide) rfl rfl (Nat.le_of_ble_eq_true rfl) dX10_term_5 ⟨Nat.le_of_ble_eq_true rfl, Nat.le_of_ble_eq_true rfl⟩ (fun z5 w1 hq => ?_)
  obtain ⟨⟨rfl, hc_5⟩ | ⟨rfl, hc_5⟩, rfl⟩ := hq
  · refine z_if_ne (tgt := 14) E (by omega) dX10_term_8 (by decide) (fun _ => ?_) (fun h => absurd h (by decide))
    refine z_aload_n E 0 rfl rfl dX10_term_14 ?_
    refine z_get E f_X10_26 0 rfl rfl dX10_term_15 ?_
    refine z_iload_n E 1 rfl rfl dX10_term_18 ?_
    refine z_callVi (As := [.int (zi i)]) (rest := []) (wr := [(x0, .inr (10, [.ref st, .ref hh, .ref ex, .ref nb, .ref sq, .ref tx, .ref fr]))]) E (c_X2_termAt l D κ ex hT hU hL hS hH lt lb ld pd cv f i (by omega)) m_X10_105 ⟨Nat.le_of_ble_eq_true rfl, Nat.le_of_ble_eq_true rfl⟩ ⟨rfl, rfl⟩ [1, 2] [0] rfl rfl rfl rfl (by decide) rfl rfl rfl rfl (Nat.le_of_ble_eq_true rfl) dX10_term_19 ⟨Nat.le_of_ble_eq_true rfl, Nat.le_of_ble_eq_true rfl⟩ (fun z19 w1 hq => ?_)
    obtain ⟨rfl, rfl⟩ := hq
    refine z_sipush E dX10_term_22 (by decide) ?_
    refine z_iadd E dX10_term_25 ?_
    exact fin _ _ _ _ rfl (⟨if_pos (by omega), rfl⟩) dX10_term_26
  · refine z_if_ne (tgt := 14) E (by omega) dX10_term_8 (by decide) (fun h => absurd h (by decide)) (fun _ => ?_)
    refine z_ldc E k_X10_70 dX10_term_11 ?_
    exact fin _ _ _ _ rfl (⟨if_neg (by omega), rfl⟩) dX10_term_13
abbrev rm_X10_again : Room := { frames := 3, cells := 0, slots := 0, locals := 65 }
set_option maxRecDepth 100000 in
theorem c_X10_again (l : Launch) (D : va_G) (κ : Nat → ClassId) (x0 : Nat) (st : Nat) (hh : Nat) (ex : Nat) (nb : Nat) (sq : Nat) (tx : Nat) (fr : Nat) (hT : Nat) (hU : Nat) (hL : Nat) (hS : Nat) (hH : Nat) (lt : Int) (lb : Int) (ld : Int) (pd : Int) (cv : Int) (f : Int → Int) (wt : Int) (hr0 : -2147483648 ≤ wt ∧ wt ≤ 2147483647) (hpd : 0 < pd → 0 ≤ ld ∧ ld + pd ≤ 400) (hpd0 : 0 ≤ pd ∧ pd ≤ 400) (hf : ∀ i : Int, 0 ≤ i → i < 400 → -100000 ≤ f i ∧ f i ≤ 100000) : ZI l yX10_again cX10_again 2 .int rm_X10_again D κ [.ref x0, .int (zi wt)] [(x0, .inr (10, [.ref st, .ref hh, .ref ex, .ref nb, .ref sq, .ref tx, .ref fr])), (ex, .inr (2, [.ref hT, .ref hU, .ref hL, .ref hS, .ref hH, .long (zl lt), .long (zl lb), .int (zi ld), .int (zi pd), .int (zi cv)])), (hT, ai κ 400 f)] (fun z w => ∃ r : Int, (agC f ld pd wt r) ∧ r = z ∧ [(x0, .inr (10, [.ref st, .ref hh, .ref ex, .ref nb, .ref sq, .ref tx, .ref fr])), (ex, .inr (2, [.ref hT, .ref hU, .ref hL, .ref hS, .ref hH, .long (zl lt), .long (zl lb), .int (zi ld), .int (zi pd), .int (zi cv)])), (hT, ai κ 400 f)] = w) := by
  refine ZI.enter (own := RX10) rfl pn_X10_again (Nat.le_of_ble_eq_true rfl) (fun X E fin => ?_)
  show Zg X [(x0, .inr (10, [.ref st, .ref hh, .ref ex, .ref nb, .ref sq, .ref tx, .ref fr])), (ex, .inr (2, [.ref hT, .ref hU, .ref hL, .ref hS, .ref hH, .long (zl lt), .long (zl lb), .int (zi ld), .int (zi pd), .int (zi cv)])), (hT, ai κ 400 f)] 0 0 0 [(0, .ref x0), (1, .int (zi wt))] []
  refine z_iload_n E 1 rfl rfl dX10_again_0 ?_
  refine z_iconst E dX10_again_1 ?_
  refine z_iconst E dX10_again_2 ?_
  refine z_callSi (As := [.int (zi wt), .int (zi 0), .int (zi 4)]) (rest := []) (wr := [(x0, .inr (10, [.ref st, .ref hh, .ref ex, .ref nb, .ref sq, .ref tx, .ref fr])), (ex, .inr (2, [.ref hT, .ref hU, .ref hL, .ref hS, .ref hH, .long (zl lt), .long (zl lb), .int (zi ld), .int (zi pd), .int (zi cv)])), (hT, ai κ 400 f)]) E (c_X10_isWithin l D κ wt 0 4 (by omega) (by omega) (by omega)) m_X10_66 ⟨Nat.le_of_ble_eq_true rfl, Nat.le_of_ble_eq_true rfl⟩ ⟨rfl, rfl⟩ [] [0, 1, 2] rfl rfl rfl rfl (by decide) rfl rfl (Nat.le_of_ble_eq_true rfl) dX10_again_3 ⟨Nat.le_of_ble_eq_true rfl, Nat.le_of_ble_eq_true rfl⟩ (fun z3 w1 hq => ?_)
  obtain ⟨⟨rfl, hc_3⟩ | ⟨rfl, hc_3⟩, rfl⟩ := hq
  · refine z_if_ne (tgt := 12) E (by omega) dX10_again_6 (by decide) (fun _ => ?_) (fun h => absurd h (by decide))
    refine z_aload_n E 0 rfl rfl dX10_again_12 ?_
    refine z_get E f_X10_26 0 rfl rfl dX10_again_13 ?_
    refine z_callVi (As := []) (rest := []) (wr := [(x0, .inr (10, [.ref st, .ref hh, .ref ex, .ref nb, .ref sq, .ref tx, .ref fr])), (hT, ai κ 400 f)]) E (c_X2_comesAgain l D κ ex hT hU hL hS hH lt lb ld pd cv (by omega)) m_X10_109 ⟨Nat.le_of_ble_eq_true rfl, Nat.le_of_ble_eq_true rfl⟩ ⟨rfl, rfl⟩ [1] [0, 2] rfl rfl rfl rfl (by decide) rfl rfl rfl rfl (Nat.le_of_ble_eq_true rfl) dX10_again_16 ⟨Nat.le_of_ble_eq_true rfl, Nat.le_of_ble_eq_true rfl⟩ (fun z16 w1 hq => ?_)
    obtain ⟨⟨rfl, hc_16⟩ | ⟨rfl, hc_16⟩, rfl⟩ := hq
    · refine z_if_ne (tgt := 25) E (by omega) dX10_again_19 (by decide) (fun _ => ?_) (fun h => absurd h (by decide))
      have hpq := hpd (by omega)
      refine z_iload_n E 1 rfl rfl dX10_again_25 ?_
      have h_26 : wt = 0 ∨ wt = 1 ∨ wt = 2 ∨ wt = 3 ∨ (wt < 0 ∨ 3 < wt) := by omega
      rcases h_26 with h_26 | h_26 | h_26 | h_26 | h_26
      · refine z_tswIn (a := wt) (off := 30) (tgt := 56) E (by omega) dX10_again_26 (by omega) (by omega) (by rw [h_26]; rfl) (by decide) ?_
        refine z_aload_n E 0 rfl rfl dX10_again_56 ?_
        refine z_get E f_X10_26 0 rfl rfl dX10_again_57 ?_
        refine z_get E f_X10_114 2 rfl rfl dX10_again_60 ?_
        refine Zg.perm (ws' := [(x0, .inr (10, [.ref st, .ref hh, .ref ex, .ref nb, .ref sq, .ref tx, .ref fr])), (ex, .inr (2, [.ref hT, .ref hU, .ref hL, .ref hS, .ref hH, .long (zl lt), .long (zl lb), .int (zi ld), .int (zi pd), .int (zi cv)])), (hT, ai κ 400 f)]) [0, 2, 1] rfl rfl ?_
        exact fin _ _ _ _ rfl (⟨_, Or.inr (Or.inr ⟨by omega, by omega, Or.inl ⟨h_26, rfl⟩⟩), rfl, rfl⟩) dX10_again_63
      · refine z_tswIn (a := wt) (off := 38) (tgt := 64) E (by omega) dX10_again_26 (by omega) (by omega) (by rw [h_26]; rfl) (by decide) ?_
        refine z_aload_n E 0 rfl rfl dX10_again_64 ?_
        refine z_get E f_X10_26 0 rfl rfl dX10_again_65 ?_
        refine z_get E f_X10_117 2 rfl rfl dX10_again_68 ?_
        refine Zg.perm (ws' := [(x0, .inr (10, [.ref st, .ref hh, .ref ex, .ref nb, .ref sq, .ref tx, .ref fr])), (ex, .inr (2, [.ref hT, .ref hU, .ref hL, .ref hS, .ref hH, .long (zl lt), .long (zl lb), .int (zi ld), .int (zi pd), .int (zi cv)])), (hT, ai κ 400 f)]) [0, 2, 1] rfl rfl ?_
        exact fin _ _ _ _ rfl (⟨_, Or.inr (Or.inr ⟨by omega, by omega, Or.inr (Or.inl ⟨h_26, rfl⟩)⟩), rfl, rfl⟩) dX10_again_71
      · refine z_tswIn (a := wt) (off := 46) (tgt := 72) E (by omega) dX10_again_26 (by omega) (by omega) (by rw [h_26]; rfl) (by decide) ?_
        refine z_aload_n E 0 rfl rfl dX10_again_72 ?_
        refine z_get E f_X10_26 0 rfl rfl dX10_again_73 ?_
        refine z_callVi (As := []) (rest := []) (wr := [(x0, .inr (10, [.ref st, .ref hh, .ref ex, .ref nb, .ref sq, .ref tx, .ref fr]))]) E (c_X2_greatestOfPeriod l D κ ex hT hU hL hS hH lt lb ld pd cv f (by omega) (hf)) m_X10_120 ⟨Nat.le_of_ble_eq_true rfl, Nat.le_of_ble_eq_true rfl⟩ ⟨rfl, rfl⟩ [2, 1] [0] rfl rfl rfl rfl (by decide) rfl rfl rfl rfl (Nat.le_of_ble_eq_true rfl) dX10_again_76 ⟨Nat.le_of_ble_eq_true rfl, Nat.le_of_ble_eq_true rfl⟩ (fun z76 w1 hq => ?_)
        obtain ⟨rfl, rfl⟩ := hq
        exact fin _ _ _ _ rfl (⟨_, Or.inr (Or.inr ⟨by omega, by omega, Or.inr (Or.inr (Or.inl ⟨h_26, rfl⟩))⟩), rfl, rfl⟩) dX10_again_79
      · refine z_tswIn (a := wt) (off := 54) (tgt := 80) E (by omega) dX10_again_26 (by omega) (by omega) (by rw [h_26]; rfl) (by decide) ?_
        refine z_aload_n E 0 rfl rfl dX10_again_80 ?_
        refine z_get E f_X10_26 0 rfl rfl dX10_again_81 ?_
        refine z_callVi (As := []) (rest := []) (wr := [(x0, .inr (10, [.ref st, .ref hh, .ref ex, .ref nb, .ref sq, .ref tx, .ref fr]))]) E (c_X2_unlikeOfPeriod l D κ ex hT hU hL hS hH lt lb ld pd cv f (by omega) (hf)) m_X10_124 ⟨Nat.le_of_ble_eq_true rfl, Nat.le_of_ble_eq_true rfl⟩ ⟨rfl, rfl⟩ [2, 1] [0] rfl rfl rfl rfl (by decide) rfl rfl rfl rfl (Nat.le_of_ble_eq_true rfl) dX10_again_84 ⟨Nat.le_of_ble_eq_true rfl, Nat.le_of_ble_eq_true rfl⟩ (fun z84 w1 hq => ?_)
        obtain ⟨rfl, rfl⟩ := hq
        exact fin _ _ _ _ rfl (⟨_, Or.inr (Or.inr ⟨by omega, by omega, Or.inr (Or.inr (Or.inr (Or.inl ⟨h_26, rfl⟩)))⟩), rfl, rfl⟩) dX10_again_87
      · refine z_tswOut (a := wt) (tgt := 88) E (by omega) dX10_again_26 (by omega) (by decide) ?_
        refine z_aload_n E 0 rfl rfl dX10_again_88 ?_
        refine z_get E f_X10_26 0 rfl rfl dX10_again_89 ?_
        refine z_callVi (As := []) (rest := []) (wr := [(x0, .inr (10, [.ref st, .ref hh, .ref ex, .ref nb, .ref sq, .ref tx, .ref fr]))]) E (c_X2_isPeriodMirrored l D κ ex hT hU hL hS hH lt lb ld pd cv f (by omega) (hf)) m_X10_127 ⟨Nat.le_of_ble_eq_true rfl, Nat.le_of_ble_eq_true rfl⟩ ⟨rfl, rfl⟩ [2, 1] [0] rfl rfl rfl rfl (by decide) rfl rfl rfl rfl (Nat.le_of_ble_eq_true rfl) dX10_again_92 ⟨Nat.le_of_ble_eq_true rfl, Nat.le_of_ble_eq_true rfl⟩ (fun z92 w1 hq => ?_)
        obtain ⟨⟨rfl, hc_92⟩ | ⟨rfl, hc_92⟩, rfl⟩ := hq
        · refine z_callSi (As := [.int (zi 1)]) (rest := []) (wr := [(x0, .inr (10, [.ref st, .ref hh, .ref ex, .ref nb, .ref sq, .ref tx, .ref fr])), (ex, .inr (2, [.ref hT, .ref hU, .ref hL, .ref hS, .ref hH, .long (zl lt), .long (zl lb), .int (zi ld), .int (zi pd), .int (zi cv)])), (hT, ai κ 400 f)]) E (c_X10_oneIf l D κ 1 (by omega)) m_X10_130 ⟨Nat.le_of_ble_eq_true rfl, Nat.le_of_ble_eq_true rfl⟩ ⟨rfl, rfl⟩ [] [0, 1, 2] rfl rfl rfl rfl (by decide) rfl rfl (Nat.le_of_ble_eq_true rfl) dX10_again_95 ⟨Nat.le_of_ble_eq_true rfl, Nat.le_of_ble_eq_true rfl⟩ (fun z95 w1 hq => ?_)
          obtain ⟨rfl, rfl⟩ := hq
          exact fin _ _ _ _ rfl (⟨_, Or.inr (Or.inr ⟨by omega, by omega, Or.inr (Or.inr (Or.inr (Or.inr ⟨by omega, Or.inl ⟨rfl, hc_92⟩⟩)))⟩), rfl, rfl⟩) dX10_again_98
        · refine z_callSi (As := [.int (zi 0)]) (rest := []) (wr := [(x0, .inr (10, [.ref st, .ref hh, .ref ex, .ref nb, .ref sq, .ref tx, .ref fr])), (ex, .inr (2, [.ref hT, .ref hU, .ref hL, .ref hS, .ref hH, .long (zl lt), .long (zl lb), .int (zi ld), .int (zi pd), .int (zi cv)])), (hT, ai κ 400 f)]) E (c_X10_oneIf l D κ 0 (by omega)) m_X10_130 ⟨Nat.le_of_ble_eq_true rfl, Nat.le_of_ble_eq_true rfl⟩ ⟨rfl, rfl⟩ [] [0, 1, 2] rfl rfl rfl rfl (by decide) rfl rfl (Nat.le_of_ble_eq_true rfl) dX10_again_95 ⟨Nat.le_of_ble_eq_true rfl, Nat.le_of_ble_eq_true rfl⟩ (fun z95 w1 hq => ?_)
          obtain ⟨rfl, rfl⟩ := hq
          exact fin _ _ _ _ rfl (⟨_, Or.inr (Or.inr ⟨by omega, by omega, Or.inr (Or.inr (Or.inr (Or.inr ⟨by omega, Or.inr ⟨rfl, hc_92⟩⟩)))⟩), rfl, rfl⟩) dX10_again_98
    · refine z_if_ne (tgt := 25) E (by omega) dX10_again_19 (by decide) (fun h => absurd h (by decide)) (fun _ => ?_)
      refine z_ldc E k_X10_113 dX10_again_22 ?_
      refine Zg.perm (ws' := [(x0, .inr (10, [.ref st, .ref hh, .ref ex, .ref nb, .ref sq, .ref tx, .ref fr])), (ex, .inr (2, [.ref hT, .ref hU, .ref hL, .ref hS, .ref hH, .long (zl lt), .long (zl lb), .int (zi ld), .int (zi pd), .int (zi cv)])), (hT, ai κ 400 f)]) [0, 2, 1] rfl rfl ?_
      exact fin _ _ _ _ rfl (⟨_, Or.inr (Or.inl ⟨by omega, by omega, rfl⟩), rfl, rfl⟩) dX10_again_24
  · refine z_if_ne (tgt := 12) E (by omega) dX10_again_6 (by decide) (fun h => absurd h (by decide)) (fun _ => ?_)
    refine z_ldc E k_X10_70 dX10_again_9 ?_
    exact fin _ _ _ _ rfl (⟨_, Or.inl ⟨by omega, rfl⟩, rfl, rfl⟩) dX10_again_11
abbrev rm_X10_convergent : Room := { frames := 1, cells := 0, slots := 0, locals := 22 }
set_option maxRecDepth 100000 in
theorem c_X10_convergent (l : Launch) (D : va_G) (κ : Nat → ClassId) (x0 : Nat) (st : Nat) (hh : Nat) (ex : Nat) (nb : Nat) (sq : Nat) (tx : Nat) (fr : Nat) (hT : Nat) (hU : Nat) (hL : Nat) (hS : Nat) (hH : Nat) (lt : Int) (lb : Int) (ld : Int) (pd : Int) (cv : Int) (U : Int → Int) (L : Int → Int) (i : Int) (pt : Int) (hr0 : -2147483648 ≤ i ∧ i ≤ 2147483647) (hr1 : -2147483648 ≤ pt ∧ pt ≤ 2147483647) (hcv : 0 ≤ cv ∧ cv ≤ 400) : ZL l yX10_convergent cX10_convergent 3 rm_X10_convergent D κ [.ref x0, .int (zi i), .int (zi pt)] [(x0, .inr (10, [.ref st, .ref hh, .ref ex, .ref nb, .ref sq, .ref tx, .ref fr])), (ex, .inr (2, [.ref hT, .ref hU, .ref hL, .ref hS, .ref hH, .long (zl lt), .long (zl lb), .int (zi ld), .int (zi pd), .int (zi cv)])), (hU, al κ 400 U), (hL, al κ 400 L)] (fun z w => ∃ r : Int, (cvC cv U L i pt r) ∧ r = z ∧ [(x0, .inr (10, [.ref st, .ref hh, .ref ex, .ref nb, .ref sq, .ref tx, .ref fr])), (ex, .inr (2, [.ref hT, .ref hU, .ref hL, .ref hS, .ref hH, .long (zl lt), .long (zl lb), .int (zi ld), .int (zi pd), .int (zi cv)])), (hU, al κ 400 U), (hL, al κ 400 L)] = w) := by
  refine ZL.enter (own := RX10) rfl pn_X10_convergent (Nat.le_of_ble_eq_true rfl) (fun X E fin => ?_)
  show Zg X [(x0, .inr (10, [.ref st, .ref hh, .ref ex, .ref nb, .ref sq, .ref tx, .ref fr])), (ex, .inr (2, [.ref hT, .ref hU, .ref hL, .ref hS, .ref hH, .long (zl lt), .long (zl lb), .int (zi ld), .int (zi pd), .int (zi cv)])), (hU, al κ 400 U), (hL, al κ 400 L)] 0 0 0 [(0, .ref x0), (1, .int (zi i)), (2, .int (zi pt))] []
  refine z_iload_n E 1 rfl rfl dX10_convergent_0 ?_
  refine z_iconst E dX10_convergent_1 ?_
  refine z_sipush E dX10_convergent_2 (by decide) ?_
  refine z_callSi (As := [.int (zi i), .int (zi 0), .int (zi 399)]) (rest := []) (wr := [(x0, .inr (10, [.ref st, .ref hh, .ref ex, .ref nb, .ref sq, .ref tx, .ref fr])), (ex, .inr (2, [.ref hT, .ref hU, .ref hL, .ref hS, .ref hH, .long (zl lt), .long (zl lb), .int (zi ld), .int (zi pd), .int (zi cv)])), (hU, al κ 400 U), (hL, al κ 400 L)]) E (c_X10_isWithin l D κ i 0 399 (by omega) (by omega) (by omega)) m_X10_66 ⟨Nat.le_of_ble_eq_true rfl, Nat.le_of_ble_eq_true rfl⟩ ⟨rfl, rfl⟩ [] [0, 1, 2, 3] rfl rfl rfl rfl (by decide) rfl rfl (Nat.le_of_ble_eq_true rfl) dX10_convergent_5 ⟨Nat.le_of_ble_eq_true rfl, Nat.le_of_ble_eq_true rfl⟩ (fun z5 w1 hq => ?_)
  obtain ⟨⟨rfl, hc_5⟩ | ⟨rfl, hc_5⟩, rfl⟩ := hq
  · refine z_if_eq (tgt := 20) E (by omega) dX10_convergent_8 (by decide) (fun h => absurd h (by decide)) (fun _ => ?_)
    refine z_iload_n E 2 rfl rfl dX10_convergent_11 ?_
    refine z_iconst E dX10_convergent_12 ?_
    refine z_iconst E dX10_convergent_13 ?_
    refine z_callSi (As := [.int (zi pt), .int (zi 0), .int (zi 1)]) (rest := []) (wr := [(x0, .inr (10, [.ref st, .ref hh, .ref ex, .ref nb, .ref sq, .ref tx, .ref fr])), (ex, .inr (2, [.ref hT, .ref hU, .ref hL, .ref hS, .ref hH, .long (zl lt), .long (zl lb), .int (zi ld), .int (zi pd), .int (zi cv)])), (hU, al κ 400 U), (hL, al κ 400 L)]) E (c_X10_isWithin l D κ pt 0 1 (by omega) (by omega) (by omega)) m_X10_66 ⟨Nat.le_of_ble_eq_true rfl, Nat.le_of_ble_eq_true rfl⟩ ⟨rfl, rfl⟩ [] [0, 1, 2, 3] rfl rfl rfl rfl (by decide) rfl rfl (Nat.le_of_ble_eq_true rfl) dX10_convergent_14 ⟨Nat.le_of_ble_eq_true rfl, Nat.le_of_ble_eq_true rfl⟩ (fun z14 w1 hq => ?_)
    obtain ⟨⟨rfl, hc_14⟩ | ⟨rfl, hc_14⟩, rfl⟩ := hq
    · refine z_if_ne (tgt := 24) E (by omega) dX10_convergent_17 (by decide) (fun _ => ?_) (fun h => absurd h (by decide))
      refine z_iload_n E 1 rfl rfl dX10_convergent_24 ?_
      refine z_aload_n E 0 rfl rfl dX10_convergent_25 ?_
      refine z_get E f_X10_26 0 rfl rfl dX10_convergent_26 ?_
      refine z_get E f_X10_136 1 rfl rfl dX10_convergent_29 ?_
      refine z_ic_lt (tgt := 39) E (by omega) (by omega) dX10_convergent_32 (by decide) (fun h_32 => ?_) (fun h_32 => ?_)
      · refine z_iload_n E 2 rfl rfl dX10_convergent_39 ?_
        refine z_if_ne (tgt := 58) E (by omega) dX10_convergent_40 (by decide) (fun h_40 => ?_) (fun h_40 => ?_)
        · refine z_aload_n E 0 rfl rfl dX10_convergent_58 ?_
          refine z_get E f_X10_26 0 rfl rfl dX10_convergent_59 ?_
          refine z_iload_n E 1 rfl rfl dX10_convergent_62 ?_
          refine z_callVl (As := [.int (zi i)]) (rest := []) (wr := [(x0, .inr (10, [.ref st, .ref hh, .ref ex, .ref nb, .ref sq, .ref tx, .ref fr])), (hU, al κ 400 U)]) E (c_X2_lowerAt l D κ ex hT hU hL hS hH lt lb ld pd cv L i (by omega)) m_X10_147 ⟨Nat.le_of_ble_eq_true rfl, Nat.le_of_ble_eq_true rfl⟩ ⟨rfl, rfl⟩ [1, 3] [0, 2] rfl rfl rfl rfl (by decide) rfl rfl rfl rfl (Nat.le_of_ble_eq_true rfl) dX10_convergent_63 ⟨Nat.le_of_ble_eq_true rfl, Nat.le_of_ble_eq_true rfl⟩ (fun z63 w1 hq => ?_)
          obtain ⟨rfl, rfl⟩ := hq
          refine Zg.perm (ws' := [(x0, .inr (10, [.ref st, .ref hh, .ref ex, .ref nb, .ref sq, .ref tx, .ref fr])), (ex, .inr (2, [.ref hT, .ref hU, .ref hL, .ref hS, .ref hH, .long (zl lt), .long (zl lb), .int (zi ld), .int (zi pd), .int (zi cv)])), (hU, al κ 400 U), (hL, al κ 400 L)]) [0, 2, 1, 3] rfl rfl ?_
          exact fin _ _ _ _ (⟨_, Or.inr (Or.inr ⟨by omega, by omega, Or.inr ⟨by omega, rfl⟩⟩), rfl, rfl⟩) dX10_convergent_66
        · refine z_aload_n E 0 rfl rfl dX10_convergent_43 ?_
          refine z_get E f_X10_26 0 rfl rfl dX10_convergent_44 ?_
          refine z_iload_n E 1 rfl rfl dX10_convergent_47 ?_
          refine z_callVl (As := [.int (zi i)]) (rest := []) (wr := [(x0, .inr (10, [.ref st, .ref hh, .ref ex, .ref nb, .ref sq, .ref tx, .ref fr])), (hL, al κ 400 L)]) E (c_X2_upperAt l D κ ex hT hU hL hS hH lt lb ld pd cv U i (by omega)) m_X10_141 ⟨Nat.le_of_ble_eq_true rfl, Nat.le_of_ble_eq_true rfl⟩ ⟨rfl, rfl⟩ [1, 2] [0, 3] rfl rfl rfl rfl (by decide) rfl rfl rfl rfl (Nat.le_of_ble_eq_true rfl) dX10_convergent_48 ⟨Nat.le_of_ble_eq_true rfl, Nat.le_of_ble_eq_true rfl⟩ (fun z48 w1 hq => ?_)
          obtain ⟨rfl, rfl⟩ := hq
          refine z_ldc2 E k_X10_145 dX10_convergent_51 ?_
          refine z_ladd E dX10_convergent_54 ?_
          refine z_goto (tgt := 66) E dX10_convergent_55 (by decide) ?_
          refine Zg.perm (ws' := [(x0, .inr (10, [.ref st, .ref hh, .ref ex, .ref nb, .ref sq, .ref tx, .ref fr])), (ex, .inr (2, [.ref hT, .ref hU, .ref hL, .ref hS, .ref hH, .long (zl lt), .long (zl lb), .int (zi ld), .int (zi pd), .int (zi cv)])), (hU, al κ 400 U), (hL, al κ 400 L)]) [0, 2, 3, 1] rfl rfl ?_
          exact fin _ _ _ _ (⟨_, Or.inr (Or.inr ⟨by omega, by omega, Or.inl ⟨by omega, rfl⟩⟩), rfl, rfl⟩) dX10_convergent_66
      · refine z_ldc2 E k_X10_139 dX10_convergent_35 ?_
        exact fin _ _ _ _ (⟨_, Or.inr (Or.inl ⟨by omega, by omega, rfl⟩), rfl, rfl⟩) dX10_convergent_38
    · refine z_if_ne (tgt := 24) E (by omega) dX10_convergent_17 (by decide) (fun h => absurd h (by decide)) (fun _ => ?_)
      refine z_ldc2 E k_X10_134 dX10_convergent_20 ?_
      exact fin _ _ _ _ (⟨_, Or.inl ⟨by omega, rfl⟩, rfl, rfl⟩) dX10_convergent_23
  · refine z_if_eq (tgt := 20) E (by omega) dX10_convergent_8 (by decide) (fun _ => ?_) (fun h => absurd h (by decide))
    refine z_ldc2 E k_X10_134 dX10_convergent_20 ?_
    exact fin _ _ _ _ (⟨_, Or.inl ⟨by omega, rfl⟩, rfl, rfl⟩) dX10_convergent_23
abbrev rm_X10_between : Room := { frames := 1, cells := 0, slots := 0, locals := 22 }
set_option maxRecDepth 100000 in
theorem c_X10_between (l : Launch) (D : va_G) (κ : Nat → ClassId) (x0 : Nat) (st : Nat) (hh : Nat) (ex : Nat) (nb : Nat) (sq : Nat) (tx : Nat) (fr : Nat) (hT : Nat) (hU : Nat) (hL : Nat) (hS : Nat) (hH : Nat) (lt : Int) (lb : Int) (ld : Int) (pd : Int) (cv : Int) (f : Int → Int) (U : Int → Int) (L : Int → Int) (i : Int) (by_ : Int) (pt : Int) (hr0 : -2147483648 ≤ i ∧ i ≤ 2147483647) (hr1 : -2147483648 ≤ by_ ∧ by_ ≤ 2147483647) (hr2 : -2147483648 ≤ pt ∧ pt ≤ 2147483647) (hcv : 0 ≤ cv ∧ cv ≤ 400) (hf : ∀ i : Int, 0 ≤ i → i < 400 → -100000 ≤ f i ∧ f i ≤ 100000) : ZL l yX10_between cX10_between 4 rm_X10_between D κ [.ref x0, .int (zi i), .int (zi by_), .int (zi pt)] [(x0, .inr (10, [.ref st, .ref hh, .ref ex, .ref nb, .ref sq, .ref tx, .ref fr])), (ex, .inr (2, [.ref hT, .ref hU, .ref hL, .ref hS, .ref hH, .long (zl lt), .long (zl lb), .int (zi ld), .int (zi pd), .int (zi cv)])), (hT, ai κ 400 f), (hU, al κ 400 U), (hL, al κ 400 L)] (fun z w => ∃ r : Int, (btC cv f U L i by_ pt r) ∧ r = z ∧ [(x0, .inr (10, [.ref st, .ref hh, .ref ex, .ref nb, .ref sq, .ref tx, .ref fr])), (ex, .inr (2, [.ref hT, .ref hU, .ref hL, .ref hS, .ref hH, .long (zl lt), .long (zl lb), .int (zi ld), .int (zi pd), .int (zi cv)])), (hT, ai κ 400 f), (hU, al κ 400 U), (hL, al κ 400 L)] = w) := by
  refine ZL.enter (own := RX10) rfl pn_X10_between (Nat.le_of_ble_eq_true rfl) (fun X E fin => ?_)
  show Zg X [(x0, .inr (10, [.ref st, .ref hh, .ref ex, .ref nb, .ref sq, .ref tx, .ref fr])), (ex, .inr (2, [.ref hT, .ref hU, .ref hL, .ref hS, .ref hH, .long (zl lt), .long (zl lb), .int (zi ld), .int (zi pd), .int (zi cv)])), (hT, ai κ 400 f), (hU, al κ 400 U), (hL, al κ 400 L)] 0 0 0 [(0, .ref x0), (1, .int (zi i)), (2, .int (zi by_)), (3, .int (zi pt))] []
  refine z_iload_n E 1 rfl rfl dX10_between_0 ?_
  refine z_iconst E dX10_between_1 ?_
  refine z_sipush E dX10_between_2 (by decide) ?_
  refine z_callSi (As := [.int (zi i), .int (zi 2), .int (zi 399)]) (rest := []) (wr := [(x0, .inr (10, [.ref st, .ref hh, .ref ex, .ref nb, .ref sq, .ref tx, .ref fr])), (ex, .inr (2, [.ref hT, .ref hU, .ref hL, .ref hS, .ref hH, .long (zl lt), .long (zl lb), .int (zi ld), .int (zi pd), .int (zi cv)])), (hT, ai κ 400 f), (hU, al κ 400 U), (hL, al κ 400 L)]) E (c_X10_isWithin l D κ i 2 399 (by omega) (by omega) (by omega)) m_X10_66 ⟨Nat.le_of_ble_eq_true rfl, Nat.le_of_ble_eq_true rfl⟩ ⟨rfl, rfl⟩ [] [0, 1, 2, 3, 4] rfl rfl rfl rfl (by decide) rfl rfl (Nat.le_of_ble_eq_true rfl) dX10_between_5 ⟨Nat.le_of_ble_eq_true rfl, Nat.le_of_ble_eq_true rfl⟩ (fun z5 w1 hq => ?_)
  obtain ⟨⟨rfl, hc_5⟩ | ⟨rfl, hc_5⟩, rfl⟩ := hq
  · refine z_if_eq (tgt := 38) E (by omega) dX10_between_8 (by decide) (fun h => absurd h (by decide)) (fun _ => ?_)
    refine z_iload_n E 3 rfl rfl dX10_between_11 ?_
    refine z_iconst E dX10_between_12 ?_
    refine z_iconst E dX10_between_13 ?_
    refine z_callSi (As := [.int (zi pt), .int (zi 0), .int (zi 1)]) (rest := []) (wr := [(x0, .inr (10, [.ref st, .ref hh, .ref ex, .ref nb, .ref sq, .ref tx, .ref fr])), (ex, .inr (2, [.ref hT, .ref hU, .ref hL, .ref hS, .ref hH, .long (zl lt), .long (zl lb), .int (zi ld), .int (zi pd), .int (zi cv)])), (hT, ai κ 400 f), (hU, al κ 400 U), (hL, al κ 400 L)]) E (c_X10_isWithin l D κ pt 0 1 (by omega) (by omega) (by omega)) m_X10_66 ⟨Nat.le_of_ble_eq_true rfl, Nat.le_of_ble_eq_true rfl⟩ ⟨rfl, rfl⟩ [] [0, 1, 2, 3, 4] rfl rfl rfl rfl (by decide) rfl rfl (Nat.le_of_ble_eq_true rfl) dX10_between_14 ⟨Nat.le_of_ble_eq_true rfl, Nat.le_of_ble_eq_true rfl⟩ (fun z14 w1 hq => ?_)
    obtain ⟨⟨rfl, hc_14⟩ | ⟨rfl, hc_14⟩, rfl⟩ := hq
    · refine z_if_eq (tgt := 38) E (by omega) dX10_between_17 (by decide) (fun h => absurd h (by decide)) (fun _ => ?_)
      refine z_iload_n E 2 rfl rfl dX10_between_20 ?_
      refine z_iconst E dX10_between_21 ?_
      refine z_aload_n E 0 rfl rfl dX10_between_22 ?_
      refine z_get E f_X10_26 0 rfl rfl dX10_between_23 ?_
      refine z_iload_n E 1 rfl rfl dX10_between_26 ?_
      have hfi := hf i (by omega) (by omega)
      refine z_callVi (As := [.int (zi i)]) (rest := [.int (zi 1), .int (zi by_)]) (wr := [(x0, .inr (10, [.ref st, .ref hh, .ref ex, .ref nb, .ref sq, .ref tx, .ref fr])), (hU, al κ 400 U), (hL, al κ 400 L)]) E (c_X2_termAt l D κ ex hT hU hL hS hH lt lb ld pd cv f i (by omega)) m_X10_105 ⟨Nat.le_of_ble_eq_true rfl, Nat.le_of_ble_eq_true rfl⟩ ⟨rfl, rfl⟩ [1, 2] [0, 3, 4] rfl rfl rfl rfl (by decide) rfl rfl rfl rfl (Nat.le_of_ble_eq_true rfl) dX10_between_27 ⟨Nat.le_of_ble_eq_true rfl, Nat.le_of_ble_eq_true rfl⟩ (fun z27 w1 hq => ?_)
      obtain ⟨rfl, rfl⟩ := hq
      refine z_iconst E dX10_between_30 ?_
      refine z_isub E dX10_between_31 ?_
      refine z_callSi (As := [.int (zi by_), .int (zi 1), .int (zi ((f i) - 1))]) (rest := []) (wr := [(x0, .inr (10, [.ref st, .ref hh, .ref ex, .ref nb, .ref sq, .ref tx, .ref fr])), (hU, al κ 400 U), (hL, al κ 400 L), (ex, .inr (2, [.ref hT, .ref hU, .ref hL, .ref hS, .ref hH, .long (zl lt), .long (zl lb), .int (zi ld), .int (zi pd), .int (zi cv)])), (hT, ai κ 400 f)]) E (c_X10_isWithin l D κ by_ 1 ((f i) - 1) (by omega) (by omega) (by omega)) m_X10_66 ⟨Nat.le_of_ble_eq_true rfl, Nat.le_of_ble_eq_true rfl⟩ ⟨rfl, rfl⟩ [] [0, 1, 2, 3, 4] rfl rfl rfl rfl (by decide) rfl rfl (Nat.le_of_ble_eq_true rfl) dX10_between_32 ⟨Nat.le_of_ble_eq_true rfl, Nat.le_of_ble_eq_true rfl⟩ (fun z32 w1 hq => ?_)
      obtain ⟨⟨rfl, hc_32⟩ | ⟨rfl, hc_32⟩, rfl⟩ := hq
      · refine z_if_ne (tgt := 42) E (by omega) dX10_between_35 (by decide) (fun _ => ?_) (fun h => absurd h (by decide))
        refine z_iload_n E 1 rfl rfl dX10_between_42 ?_
        refine z_aload_n E 0 rfl rfl dX10_between_43 ?_
        refine z_get E f_X10_26 0 rfl rfl dX10_between_44 ?_
        refine z_get E f_X10_136 3 rfl rfl dX10_between_47 ?_
        refine z_ic_lt (tgt := 57) E (by omega) (by omega) dX10_between_50 (by decide) (fun h_50 => ?_) (fun h_50 => ?_)
        · refine z_iload_n E 3 rfl rfl dX10_between_57 ?_
          refine z_if_ne (tgt := 90) E (by omega) dX10_between_58 (by decide) (fun h_58 => ?_) (fun h_58 => ?_)
          · refine z_iload_n E 2 rfl rfl dX10_between_90 ?_
            refine z_i2l E (by omega) dX10_between_91 ?_
            refine z_aload_n E 0 rfl rfl dX10_between_92 ?_
            refine z_get E f_X10_26 0 rfl rfl dX10_between_93 ?_
            refine z_iload_n E 1 rfl rfl dX10_between_96 ?_
            refine z_iconst E dX10_between_97 ?_
            refine z_isub E dX10_between_98 ?_
            refine z_callVl (As := [.int (zi (i - 1))]) (rest := [.long (zl by_)]) (wr := [(x0, .inr (10, [.ref st, .ref hh, .ref ex, .ref nb, .ref sq, .ref tx, .ref fr])), (hU, al κ 400 U), (hT, ai κ 400 f)]) E (c_X2_lowerAt l D κ ex hT hU hL hS hH lt lb ld pd cv L (i - 1) (by omega)) m_X10_147 ⟨Nat.le_of_ble_eq_true rfl, Nat.le_of_ble_eq_true rfl⟩ ⟨rfl, rfl⟩ [3, 2] [0, 1, 4] rfl rfl rfl rfl (by decide) rfl rfl rfl rfl (Nat.le_of_ble_eq_true rfl) dX10_between_99 ⟨Nat.le_of_ble_eq_true rfl, Nat.le_of_ble_eq_true rfl⟩ (fun z99 w1 hq => ?_)
            obtain ⟨rfl, rfl⟩ := hq
            refine z_lmul E dX10_between_102 ?_
            refine z_aload_n E 0 rfl rfl dX10_between_103 ?_
            refine z_get E f_X10_26 0 rfl rfl dX10_between_104 ?_
            refine z_iload_n E 1 rfl rfl dX10_between_107 ?_
            refine z_iconst E dX10_between_108 ?_
            refine z_isub E dX10_between_109 ?_
            refine z_callVl (As := [.int (zi (i - 2))]) (rest := [.long (zl (by_ * (L (i - 1))))]) (wr := [(x0, .inr (10, [.ref st, .ref hh, .ref ex, .ref nb, .ref sq, .ref tx, .ref fr])), (hU, al κ 400 U), (hT, ai κ 400 f)]) E (c_X2_lowerAt l D κ ex hT hU hL hS hH lt lb ld pd cv L (i - 2) (by omega)) m_X10_147 ⟨Nat.le_of_ble_eq_true rfl, Nat.le_of_ble_eq_true rfl⟩ ⟨rfl, rfl⟩ [3, 4] [0, 1, 2] rfl rfl rfl rfl (by decide) rfl rfl rfl rfl (Nat.le_of_ble_eq_true rfl) dX10_between_110 ⟨Nat.le_of_ble_eq_true rfl, Nat.le_of_ble_eq_true rfl⟩ (fun z110 w1 hq => ?_)
            obtain ⟨rfl, rfl⟩ := hq
            refine z_ladd E dX10_between_113 ?_
            refine Zg.perm (ws' := [(x0, .inr (10, [.ref st, .ref hh, .ref ex, .ref nb, .ref sq, .ref tx, .ref fr])), (ex, .inr (2, [.ref hT, .ref hU, .ref hL, .ref hS, .ref hH, .long (zl lt), .long (zl lb), .int (zi ld), .int (zi pd), .int (zi cv)])), (hT, ai κ 400 f), (hU, al κ 400 U), (hL, al κ 400 L)]) [0, 3, 2, 1, 4] rfl rfl ?_
            exact fin _ _ _ _ (⟨_, Or.inr (Or.inr ⟨⟨by omega, by omega, by omega⟩, by omega, Or.inr ⟨by omega, rfl⟩⟩), rfl, rfl⟩) dX10_between_114
          · refine z_iload_n E 2 rfl rfl dX10_between_61 ?_
            refine z_i2l E (by omega) dX10_between_62 ?_
            refine z_aload_n E 0 rfl rfl dX10_between_63 ?_
            refine z_get E f_X10_26 0 rfl rfl dX10_between_64 ?_
            refine z_iload_n E 1 rfl rfl dX10_between_67 ?_
            refine z_iconst E dX10_between_68 ?_
            refine z_isub E dX10_between_69 ?_
            refine z_callVl (As := [.int (zi (i - 1))]) (rest := [.long (zl by_)]) (wr := [(x0, .inr (10, [.ref st, .ref hh, .ref ex, .ref nb, .ref sq, .ref tx, .ref fr])), (hL, al κ 400 L), (hT, ai κ 400 f)]) E (c_X2_upperAt l D κ ex hT hU hL hS hH lt lb ld pd cv U (i - 1) (by omega)) m_X10_141 ⟨Nat.le_of_ble_eq_true rfl, Nat.le_of_ble_eq_true rfl⟩ ⟨rfl, rfl⟩ [3, 1] [0, 2, 4] rfl rfl rfl rfl (by decide) rfl rfl rfl rfl (Nat.le_of_ble_eq_true rfl) dX10_between_70 ⟨Nat.le_of_ble_eq_true rfl, Nat.le_of_ble_eq_true rfl⟩ (fun z70 w1 hq => ?_)
            obtain ⟨rfl, rfl⟩ := hq
            refine z_lmul E dX10_between_73 ?_
            refine z_aload_n E 0 rfl rfl dX10_between_74 ?_
            refine z_get E f_X10_26 0 rfl rfl dX10_between_75 ?_
            refine z_iload_n E 1 rfl rfl dX10_between_78 ?_
            refine z_iconst E dX10_between_79 ?_
            refine z_isub E dX10_between_80 ?_
            refine z_callVl (As := [.int (zi (i - 2))]) (rest := [.long (zl (by_ * (U (i - 1))))]) (wr := [(x0, .inr (10, [.ref st, .ref hh, .ref ex, .ref nb, .ref sq, .ref tx, .ref fr])), (hL, al κ 400 L), (hT, ai κ 400 f)]) E (c_X2_upperAt l D κ ex hT hU hL hS hH lt lb ld pd cv U (i - 2) (by omega)) m_X10_141 ⟨Nat.le_of_ble_eq_true rfl, Nat.le_of_ble_eq_true rfl⟩ ⟨rfl, rfl⟩ [3, 4] [0, 1, 2] rfl rfl rfl rfl (by decide) rfl rfl rfl rfl (Nat.le_of_ble_eq_true rfl) dX10_between_81 ⟨Nat.le_of_ble_eq_true rfl, Nat.le_of_ble_eq_true rfl⟩ (fun z81 w1 hq => ?_)
            obtain ⟨rfl, rfl⟩ := hq
            refine z_ladd E dX10_between_84 ?_
            refine z_ldc2 E k_X10_145 dX10_between_85 ?_
            refine z_ladd E dX10_between_88 ?_
            refine Zg.perm (ws' := [(x0, .inr (10, [.ref st, .ref hh, .ref ex, .ref nb, .ref sq, .ref tx, .ref fr])), (ex, .inr (2, [.ref hT, .ref hU, .ref hL, .ref hS, .ref hH, .long (zl lt), .long (zl lb), .int (zi ld), .int (zi pd), .int (zi cv)])), (hT, ai κ 400 f), (hU, al κ 400 U), (hL, al κ 400 L)]) [0, 3, 2, 4, 1] rfl rfl ?_
            exact fin _ _ _ _ (⟨_, Or.inr (Or.inr ⟨⟨by omega, by omega, by omega⟩, by omega, Or.inl ⟨by omega, rfl⟩⟩), rfl, rfl⟩) dX10_between_89
        · refine z_ldc2 E k_X10_139 dX10_between_53 ?_
          refine Zg.perm (ws' := [(x0, .inr (10, [.ref st, .ref hh, .ref ex, .ref nb, .ref sq, .ref tx, .ref fr])), (ex, .inr (2, [.ref hT, .ref hU, .ref hL, .ref hS, .ref hH, .long (zl lt), .long (zl lb), .int (zi ld), .int (zi pd), .int (zi cv)])), (hT, ai κ 400 f), (hU, al κ 400 U), (hL, al κ 400 L)]) [0, 3, 4, 1, 2] rfl rfl ?_
          exact fin _ _ _ _ (⟨_, Or.inr (Or.inl ⟨⟨by omega, by omega, by omega⟩, by omega, rfl⟩), rfl, rfl⟩) dX10_between_56
      · refine z_if_ne (tgt := 42) E (by omega) dX10_between_35 (by decide) (fun h => absurd h (by decide)) (fun _ => ?_)
        refine z_ldc2 E k_X10_134 dX10_between_38 ?_
        refine Zg.perm (ws' := [(x0, .inr (10, [.ref st, .ref hh, .ref ex, .ref nb, .ref sq, .ref tx, .ref fr])), (ex, .inr (2, [.ref hT, .ref hU, .ref hL, .ref hS, .ref hH, .long (zl lt), .long (zl lb), .int (zi ld), .int (zi pd), .int (zi cv)])), (hT, ai κ 400 f), (hU, al κ 400 U), (hL, al κ 400 L)]) [0, 3, 4, 1, 2] rfl rfl ?_
        exact fin _ _ _ _ (⟨_, Or.inl ⟨fun z => by unfold btOk at z; omega, rfl⟩, rfl, rfl⟩) dX10_between_41
    · refine z_if_eq (tgt := 38) E (by omega) dX10_between_17 (by decide) (fun _ => ?_) (fun h => absurd h (by decide))
      refine z_ldc2 E k_X10_134 dX10_between_38 ?_
      exact fin _ _ _ _ (⟨_, Or.inl ⟨fun z => by unfold btOk at z; omega, rfl⟩, rfl, rfl⟩) dX10_between_41
  · refine z_if_eq (tgt := 38) E (by omega) dX10_between_8 (by decide) (fun _ => ?_) (fun h => absurd h (by decide))
    refine z_ldc2 E k_X10_134 dX10_between_38 ?_
    exact fin _ _ _ _ (⟨_, Or.inl ⟨fun z => by unfold btOk at z; omega, rfl⟩, rfl, rfl⟩) dX10_between_41
abbrev rm_X10_nearest : Room := { frames := 4, cells := 0, slots := 0, locals := 109 }
set_option maxRecDepth 100000 in
theorem c_X10_nearest (l : Launch) (D : va_G) (κ : Nat → ClassId) (x0 : Nat) (st : Nat) (hh : Nat) (ex : Nat) (nb : Nat) (sq : Nat) (tx : Nat) (fr : Nat) (su : Nat) (bk : Nat) (p : Int) (d : Int) (q : Int) (hT : Nat) (hU : Nat) (hL : Nat) (hS : Nat) (hH : Nat) (lt : Int) (lb : Int) (ld : Int) (pd : Int) (cv : Int) (f : Int → Int) (g1 : Int) (g2 : Int) (g3 : Int) (g4 : Int) (g5 : Int) (bd : Int) (pt : Int) (hr0 : -2147483648 ≤ bd ∧ bd ≤ 2147483647) (hr1 : -2147483648 ≤ pt ∧ pt ≤ 2147483647) (hp : -99 ≤ p ∧ p ≤ 99) (hd : 2 ≤ d ∧ d ≤ 999) (hq : -99 ≤ q ∧ q ≤ 99) (hw : -141 ≤ f 0 ∧ f 0 ≤ 140) : ZI l yX10_nearest cX10_nearest 3 .int rm_X10_nearest D κ [.ref x0, .int (zi bd), .int (zi pt)] [(x0, .inr (10, [.ref st, .ref hh, .ref ex, .ref nb, .ref sq, .ref tx, .ref fr])), (st, .inr (6, [.ref su, .ref bk])), (su, .inr (8, [.int (zi p), .int (zi d), .int (zi q)])), (ex, .inr (2, [.ref hT, .ref hU, .ref hL, .ref hS, .ref hH, .long (zl lt), .long (zl lb), .int (zi ld), .int (zi pd), .int (zi cv)])), (hT, ai κ 400 f), (nb, .inr (4, [.long (zl g1), .long (zl g2), .long (zl g3), .long (zl g4), .int (zi g5)]))] (fun z w => ∃ r : Int, ∃ g1' : Int, ∃ g2' : Int, ∃ g3' : Int, ∃ g4' : Int, ∃ g5' : Int, (neC p d q (f 0) bd pt r) ∧ r = z ∧ [(x0, .inr (10, [.ref st, .ref hh, .ref ex, .ref nb, .ref sq, .ref tx, .ref fr])), (st, .inr (6, [.ref su, .ref bk])), (su, .inr (8, [.int (zi p), .int (zi d), .int (zi q)])), (ex, .inr (2, [.ref hT, .ref hU, .ref hL, .ref hS, .ref hH, .long (zl lt), .long (zl lb), .int (zi ld), .int (zi pd), .int (zi cv)])), (hT, ai κ 400 f), (nb, .inr (4, [.long (zl g1'), .long (zl g2'), .long (zl g3'), .long (zl g4'), .int (zi g5')]))] = w) := by
  refine ZI.enter (own := RX10) rfl pn_X10_nearest (Nat.le_of_ble_eq_true rfl) (fun X E fin => ?_)
  show Zg X [(x0, .inr (10, [.ref st, .ref hh, .ref ex, .ref nb, .ref sq, .ref tx, .ref fr])), (st, .inr (6, [.ref su, .ref bk])), (su, .inr (8, [.int (zi p), .int (zi d), .int (zi q)])), (ex, .inr (2, [.ref hT, .ref hU, .ref hL, .ref hS, .ref hH, .long (zl lt), .long (zl lb), .int (zi ld), .int (zi pd), .int (zi cv)])), (hT, ai κ 400 f), (nb, .inr (4, [.long (zl g1), .long (zl g2), .long (zl g3), .long (zl g4), .int (zi g5)]))] 0 0 0 [(0, .ref x0), (1, .int (zi bd)), (2, .int (zi pt))] []
  refine z_iload_n E 1 rfl rfl dX10_nearest_0 ?_
  refine z_iconst E dX10_nearest_1 ?_
  refine z_sipush E dX10_nearest_2 (by decide) ?_
  refine z_callSi (As := [.int (zi bd), .int (zi 1), .int (zi 200)]) (rest := []) (wr := [(x0, .inr (10, [.ref st, .ref hh, .ref ex, .ref nb, .ref sq, .ref tx, .ref fr])), (st, .inr (6, [.ref su, .ref bk])), (su, .inr (8, [.int (zi p), .int (zi d), .int (zi q)])), (ex, .inr (2, [.ref hT, .ref hU, .ref hL, .ref hS, .ref hH, .long (zl lt), .long (zl lb), .int (zi ld), .int (zi pd), .int (zi cv)])), (hT, ai κ 400 f), (nb, .inr (4, [.long (zl g1), .long (zl g2), .long (zl g3), .long (zl g4), .int (zi g5)]))]) E (c_X10_isWithin l D κ bd 1 200 (by omega) (by omega) (by omega)) m_X10_66 ⟨Nat.le_of_ble_eq_true rfl, Nat.le_of_ble_eq_true rfl⟩ ⟨rfl, rfl⟩ [] [0, 1, 2, 3, 4, 5] rfl rfl rfl rfl (by decide) rfl rfl (Nat.le_of_ble_eq_true rfl) dX10_nearest_5 ⟨Nat.le_of_ble_eq_true rfl, Nat.le_of_ble_eq_true rfl⟩ (fun z5 w1 hq => ?_)
  obtain ⟨⟨rfl, hc_5⟩ | ⟨rfl, hc_5⟩, rfl⟩ := hq
  · refine z_if_eq (tgt := 20) E (by omega) dX10_nearest_8 (by decide) (fun h => absurd h (by decide)) (fun _ => ?_)
    refine z_iload_n E 2 rfl rfl dX10_nearest_11 ?_
    refine z_iconst E dX10_nearest_12 ?_
    refine z_iconst E dX10_nearest_13 ?_
    refine z_callSi (As := [.int (zi pt), .int (zi 0), .int (zi 1)]) (rest := []) (wr := [(x0, .inr (10, [.ref st, .ref hh, .ref ex, .ref nb, .ref sq, .ref tx, .ref fr])), (st, .inr (6, [.ref su, .ref bk])), (su, .inr (8, [.int (zi p), .int (zi d), .int (zi q)])), (ex, .inr (2, [.ref hT, .ref hU, .ref hL, .ref hS, .ref hH, .long (zl lt), .long (zl lb), .int (zi ld), .int (zi pd), .int (zi cv)])), (hT, ai κ 400 f), (nb, .inr (4, [.long (zl g1), .long (zl g2), .long (zl g3), .long (zl g4), .int (zi g5)]))]) E (c_X10_isWithin l D κ pt 0 1 (by omega) (by omega) (by omega)) m_X10_66 ⟨Nat.le_of_ble_eq_true rfl, Nat.le_of_ble_eq_true rfl⟩ ⟨rfl, rfl⟩ [] [0, 1, 2, 3, 4, 5] rfl rfl rfl rfl (by decide) rfl rfl (Nat.le_of_ble_eq_true rfl) dX10_nearest_14 ⟨Nat.le_of_ble_eq_true rfl, Nat.le_of_ble_eq_true rfl⟩ (fun z14 w1 hq => ?_)
    obtain ⟨⟨rfl, hc_14⟩ | ⟨rfl, hc_14⟩, rfl⟩ := hq
    · refine z_if_ne (tgt := 23) E (by omega) dX10_nearest_17 (by decide) (fun _ => ?_) (fun h => absurd h (by decide))
      refine z_aload_n E 0 rfl rfl dX10_nearest_23 ?_
      refine z_get E f_X10_33 0 rfl rfl dX10_nearest_24 ?_
      refine z_aload_n E 0 rfl rfl dX10_nearest_27 ?_
      refine z_get E f_X10_10 0 rfl rfl dX10_nearest_28 ?_
      refine z_get E f_X10_58 1 rfl rfl dX10_nearest_31 ?_
      refine z_aload_n E 0 rfl rfl dX10_nearest_34 ?_
      refine z_get E f_X10_26 0 rfl rfl dX10_nearest_35 ?_
      refine z_iconst E dX10_nearest_38 ?_
      refine z_callVi (As := [.int (zi 0)]) (rest := [.ref su, .ref nb]) (wr := [(x0, .inr (10, [.ref st, .ref hh, .ref ex, .ref nb, .ref sq, .ref tx, .ref fr])), (st, .inr (6, [.ref su, .ref bk])), (su, .inr (8, [.int (zi p), .int (zi d), .int (zi q)])), (nb, .inr (4, [.long (zl g1), .long (zl g2), .long (zl g3), .long (zl g4), .int (zi g5)]))]) E (c_X2_termAt l D κ ex hT hU hL hS hH lt lb ld pd cv f 0 (by omega)) m_X10_105 ⟨Nat.le_of_ble_eq_true rfl, Nat.le_of_ble_eq_true rfl⟩ ⟨rfl, rfl⟩ [3, 4] [0, 1, 2, 5] rfl rfl rfl rfl (by decide) rfl rfl rfl rfl (Nat.le_of_ble_eq_true rfl) dX10_nearest_39 ⟨Nat.le_of_ble_eq_true rfl, Nat.le_of_ble_eq_true rfl⟩ (fun z39 w1 hq => ?_)
      obtain ⟨rfl, rfl⟩ := hq
      refine z_iload_n E 1 rfl rfl dX10_nearest_42 ?_
      refine z_callVv (As := [.ref su, .int (zi (f 0)), .int (zi bd)]) (rest := []) (wr := [(x0, .inr (10, [.ref st, .ref hh, .ref ex, .ref nb, .ref sq, .ref tx, .ref fr])), (st, .inr (6, [.ref su, .ref bk])), (ex, .inr (2, [.ref hT, .ref hU, .ref hL, .ref hS, .ref hH, .long (zl lt), .long (zl lb), .int (zi ld), .int (zi pd), .int (zi cv)])), (hT, ai κ 400 f)]) E (c_X4_find l D κ nb g1 g2 g3 g4 g5 su p d q (f 0) bd (by omega) (by omega) (by omega) (by omega) (by omega)) m_X10_150 ⟨Nat.le_of_ble_eq_true rfl, Nat.le_of_ble_eq_true rfl⟩ ⟨rfl, rfl⟩ [3, 2] [0, 1, 4, 5] rfl rfl rfl rfl (by decide) rfl rfl rfl rfl (Nat.le_of_ble_eq_true rfl) dX10_nearest_43 ⟨Nat.le_of_ble_eq_true rfl, Nat.le_of_ble_eq_true rfl⟩ (fun  w1 hq => ?_)
      obtain ⟨bu'_1, bl'_2, au'_3, al'_4, r'_5, k_6, hm_43, rfl⟩ := hq
      obtain ⟨hk0, hk1, hk2, hk3, hk4⟩ := hm_43
      have hg := medN_get hk0 hk1
      refine z_aload_n E 0 rfl rfl dX10_nearest_46 ?_
      refine z_aload_n E 0 rfl rfl dX10_nearest_47 ?_
      refine z_get E f_X10_33 0 rfl rfl dX10_nearest_48 ?_
      refine z_aload_n E 0 rfl rfl dX10_nearest_51 ?_
      refine z_get E f_X10_10 0 rfl rfl dX10_nearest_52 ?_
      refine z_get E f_X10_58 1 rfl rfl dX10_nearest_55 ?_
      refine z_callVi (As := [.ref su]) (rest := [.ref x0]) (wr := [(x0, .inr (10, [.ref st, .ref hh, .ref ex, .ref nb, .ref sq, .ref tx, .ref fr])), (st, .inr (6, [.ref su, .ref bk])), (ex, .inr (2, [.ref hT, .ref hU, .ref hL, .ref hS, .ref hH, .long (zl lt), .long (zl lb), .int (zi ld), .int (zi pd), .int (zi cv)])), (hT, ai κ 400 f)]) E (c_X4_isAboveNearer l D κ nb bu'_1 bl'_2 au'_3 al'_4 r'_5 su p d q (okF_nb (by omega) hg.1 (by omega) hg.2.2.2.1) (okF_nb (by omega) hg.2.1 (by omega) hg.2.2.2.2) (by omega) (by omega) (by omega)) m_X10_154 ⟨Nat.le_of_ble_eq_true rfl, Nat.le_of_ble_eq_true rfl⟩ ⟨rfl, rfl⟩ [4, 5] [0, 1, 2, 3] rfl rfl rfl rfl (by decide) rfl rfl rfl rfl (Nat.le_of_ble_eq_true rfl) dX10_nearest_58 ⟨Nat.le_of_ble_eq_true rfl, Nat.le_of_ble_eq_true rfl⟩ (fun z58 w1 hq => ?_)
      obtain ⟨⟨rfl, hc_58⟩ | ⟨rfl, hc_58⟩, rfl⟩ := hq
      · refine z_iload_n E 2 rfl rfl dX10_nearest_61 ?_
        refine z_callVi (As := [.int (zi 1), .int (zi pt)]) (rest := []) (wr := [(st, .inr (6, [.ref su, .ref bk])), (ex, .inr (2, [.ref hT, .ref hU, .ref hL, .ref hS, .ref hH, .long (zl lt), .long (zl lb), .int (zi ld), .int (zi pd), .int (zi cv)])), (hT, ai κ 400 f), (su, .inr (8, [.int (zi p), .int (zi d), .int (zi q)]))]) E (c_X10_neighbourPart l D κ x0 st hh ex nb sq tx fr bu'_1 bl'_2 au'_3 al'_4 r'_5 1 pt (by omega) (by omega)) m_X10_158 ⟨Nat.le_of_ble_eq_true rfl, Nat.le_of_ble_eq_true rfl⟩ ⟨rfl, rfl⟩ [0, 4] [1, 2, 3, 5] rfl rfl rfl rfl (by decide) rfl rfl rfl rfl (Nat.le_of_ble_eq_true rfl) dX10_nearest_62 ⟨Nat.le_of_ble_eq_true rfl, Nat.le_of_ble_eq_true rfl⟩ (fun z62 w1 hq => ?_)
        obtain ⟨rfl, rfl⟩ := hq
        refine Zg.perm (ws' := [(x0, .inr (10, [.ref st, .ref hh, .ref ex, .ref nb, .ref sq, .ref tx, .ref fr])), (st, .inr (6, [.ref su, .ref bk])), (su, .inr (8, [.int (zi p), .int (zi d), .int (zi q)])), (ex, .inr (2, [.ref hT, .ref hU, .ref hL, .ref hS, .ref hH, .long (zl lt), .long (zl lb), .int (zi ld), .int (zi pd), .int (zi cv)])), (hT, ai κ 400 f), (nb, .inr (4, [.long (zl bu'_1), .long (zl bl'_2), .long (zl au'_3), .long (zl al'_4), .int (zi r'_5)]))]) [4, 0, 3, 1, 2, 5] rfl rfl ?_
        exact fin _ _ _ _ rfl (⟨_, _, _, _, _, _, Or.inr ⟨by omega, _, _, _, _, _, ⟨_, hk0, hk1, hk2, hk3, hk4⟩, Or.inl ⟨hc_58, rfl⟩⟩, rfl, rfl⟩) dX10_nearest_65
      · refine z_iload_n E 2 rfl rfl dX10_nearest_61 ?_
        refine z_callVi (As := [.int (zi 0), .int (zi pt)]) (rest := []) (wr := [(st, .inr (6, [.ref su, .ref bk])), (ex, .inr (2, [.ref hT, .ref hU, .ref hL, .ref hS, .ref hH, .long (zl lt), .long (zl lb), .int (zi ld), .int (zi pd), .int (zi cv)])), (hT, ai κ 400 f), (su, .inr (8, [.int (zi p), .int (zi d), .int (zi q)]))]) E (c_X10_neighbourPart l D κ x0 st hh ex nb sq tx fr bu'_1 bl'_2 au'_3 al'_4 r'_5 0 pt (by omega) (by omega)) m_X10_158 ⟨Nat.le_of_ble_eq_true rfl, Nat.le_of_ble_eq_true rfl⟩ ⟨rfl, rfl⟩ [0, 4] [1, 2, 3, 5] rfl rfl rfl rfl (by decide) rfl rfl rfl rfl (Nat.le_of_ble_eq_true rfl) dX10_nearest_62 ⟨Nat.le_of_ble_eq_true rfl, Nat.le_of_ble_eq_true rfl⟩ (fun z62 w1 hq => ?_)
        obtain ⟨rfl, rfl⟩ := hq
        refine Zg.perm (ws' := [(x0, .inr (10, [.ref st, .ref hh, .ref ex, .ref nb, .ref sq, .ref tx, .ref fr])), (st, .inr (6, [.ref su, .ref bk])), (su, .inr (8, [.int (zi p), .int (zi d), .int (zi q)])), (ex, .inr (2, [.ref hT, .ref hU, .ref hL, .ref hS, .ref hH, .long (zl lt), .long (zl lb), .int (zi ld), .int (zi pd), .int (zi cv)])), (hT, ai κ 400 f), (nb, .inr (4, [.long (zl bu'_1), .long (zl bl'_2), .long (zl au'_3), .long (zl al'_4), .int (zi r'_5)]))]) [4, 0, 3, 1, 2, 5] rfl rfl ?_
        exact fin _ _ _ _ rfl (⟨_, _, _, _, _, _, Or.inr ⟨by omega, _, _, _, _, _, ⟨_, hk0, hk1, hk2, hk3, hk4⟩, Or.inr ⟨hc_58, rfl⟩⟩, rfl, rfl⟩) dX10_nearest_65
    · refine z_if_ne (tgt := 23) E (by omega) dX10_nearest_17 (by decide) (fun h => absurd h (by decide)) (fun _ => ?_)
      refine z_ldc E k_X10_70 dX10_nearest_20 ?_
      exact fin _ _ _ _ rfl (⟨_, _, _, _, _, _, Or.inl ⟨by omega, rfl⟩, rfl, rfl⟩) dX10_nearest_22
  · refine z_if_eq (tgt := 20) E (by omega) dX10_nearest_8 (by decide) (fun _ => ?_) (fun h => absurd h (by decide))
    refine z_ldc E k_X10_70 dX10_nearest_20 ?_
    exact fin _ _ _ _ rfl (⟨_, _, _, _, _, _, Or.inl ⟨by omega, rfl⟩, rfl, rfl⟩) dX10_nearest_22
abbrev rm_X10_beside : Room := { frames := 4, cells := 0, slots := 0, locals := 109 }
set_option maxRecDepth 100000 in
theorem c_X10_beside (l : Launch) (D : va_G) (κ : Nat → ClassId) (x0 : Nat) (st : Nat) (hh : Nat) (ex : Nat) (nb : Nat) (sq : Nat) (tx : Nat) (fr : Nat) (su : Nat) (bk : Nat) (p : Int) (d : Int) (q : Int) (hT : Nat) (hU : Nat) (hL : Nat) (hS : Nat) (hH : Nat) (lt : Int) (lb : Int) (ld : Int) (pd : Int) (cv : Int) (f : Int → Int) (g1 : Int) (g2 : Int) (g3 : Int) (g4 : Int) (g5 : Int) (bd : Int) (ab : Int) (pt : Int) (hr0 : -2147483648 ≤ bd ∧ bd ≤ 2147483647) (hr1 : -2147483648 ≤ ab ∧ ab ≤ 2147483647) (hr2 : -2147483648 ≤ pt ∧ pt ≤ 2147483647) (hp : -99 ≤ p ∧ p ≤ 99) (hd : 2 ≤ d ∧ d ≤ 999) (hq : -99 ≤ q ∧ q ≤ 99) (hw : -141 ≤ f 0 ∧ f 0 ≤ 140) : ZI l yX10_beside cX10_beside 4 .int rm_X10_beside D κ [.ref x0, .int (zi bd), .int (zi ab), .int (zi pt)] [(x0, .inr (10, [.ref st, .ref hh, .ref ex, .ref nb, .ref sq, .ref tx, .ref fr])), (st, .inr (6, [.ref su, .ref bk])), (su, .inr (8, [.int (zi p), .int (zi d), .int (zi q)])), (ex, .inr (2, [.ref hT, .ref hU, .ref hL, .ref hS, .ref hH, .long (zl lt), .long (zl lb), .int (zi ld), .int (zi pd), .int (zi cv)])), (hT, ai κ 400 f), (nb, .inr (4, [.long (zl g1), .long (zl g2), .long (zl g3), .long (zl g4), .int (zi g5)]))] (fun z w => ∃ r : Int, ∃ g1' : Int, ∃ g2' : Int, ∃ g3' : Int, ∃ g4' : Int, ∃ g5' : Int, (beC p d q (f 0) bd ab pt r) ∧ r = z ∧ [(x0, .inr (10, [.ref st, .ref hh, .ref ex, .ref nb, .ref sq, .ref tx, .ref fr])), (st, .inr (6, [.ref su, .ref bk])), (su, .inr (8, [.int (zi p), .int (zi d), .int (zi q)])), (ex, .inr (2, [.ref hT, .ref hU, .ref hL, .ref hS, .ref hH, .long (zl lt), .long (zl lb), .int (zi ld), .int (zi pd), .int (zi cv)])), (hT, ai κ 400 f), (nb, .inr (4, [.long (zl g1'), .long (zl g2'), .long (zl g3'), .long (zl g4'), .int (zi g5')]))] = w) := by
  refine ZI.enter (own := RX10) rfl pn_X10_beside (Nat.le_of_ble_eq_true rfl) (fun X E fin => ?_)
  show Zg X [(x0, .inr (10, [.ref st, .ref hh, .ref ex, .ref nb, .ref sq, .ref tx, .ref fr])), (st, .inr (6, [.ref su, .ref bk])), (su, .inr (8, [.int (zi p), .int (zi d), .int (zi q)])), (ex, .inr (2, [.ref hT, .ref hU, .ref hL, .ref hS, .ref hH, .long (zl lt), .long (zl lb), .int (zi ld), .int (zi pd), .int (zi cv)])), (hT, ai κ 400 f), (nb, .inr (4, [.long (zl g1), .long (zl g2), .long (zl g3), .long (zl g4), .int (zi g5)]))] 0 0 0 [(0, .ref x0), (1, .int (zi bd)), (2, .int (zi ab)), (3, .int (zi pt))] []
  refine z_iload_n E 1 rfl rfl dX10_beside_0 ?_
  refine z_iconst E dX10_beside_1 ?_
  refine z_sipush E dX10_beside_2 (by decide) ?_
  refine z_callSi (As := [.int (zi bd), .int (zi 1), .int (zi 200)]) (rest := []) (wr := [(x0, .inr (10, [.ref st, .ref hh, .ref ex, .ref nb, .ref sq, .ref tx, .ref fr])), (st, .inr (6, [.ref su, .ref bk])), (su, .inr (8, [.int (zi p), .int (zi d), .int (zi q)])), (ex, .inr (2, [.ref hT, .ref hU, .ref hL, .ref hS, .ref hH, .long (zl lt), .long (zl lb), .int (zi ld), .int (zi pd), .int (zi cv)])), (hT, ai κ 400 f), (nb, .inr (4, [.long (zl g1), .long (zl g2), .long (zl g3), .long (zl g4), .int (zi g5)]))]) E (c_X10_isWithin l D κ bd 1 200 (by omega) (by omega) (by omega)) m_X10_66 ⟨Nat.le_of_ble_eq_true rfl, Nat.le_of_ble_eq_true rfl⟩ ⟨rfl, rfl⟩ [] [0, 1, 2, 3, 4, 5] rfl rfl rfl rfl (by decide) rfl rfl (Nat.le_of_ble_eq_true rfl) dX10_beside_5 ⟨Nat.le_of_ble_eq_true rfl, Nat.le_of_ble_eq_true rfl⟩ (fun z5 w1 hq => ?_)
  obtain ⟨⟨rfl, hc_5⟩ | ⟨rfl, hc_5⟩, rfl⟩ := hq
  · refine z_if_eq (tgt := 29) E (by omega) dX10_beside_8 (by decide) (fun h => absurd h (by decide)) (fun _ => ?_)
    refine z_iload_n E 2 rfl rfl dX10_beside_11 ?_
    refine z_iconst E dX10_beside_12 ?_
    refine z_iconst E dX10_beside_13 ?_
    refine z_callSi (As := [.int (zi ab), .int (zi 0), .int (zi 1)]) (rest := []) (wr := [(x0, .inr (10, [.ref st, .ref hh, .ref ex, .ref nb, .ref sq, .ref tx, .ref fr])), (st, .inr (6, [.ref su, .ref bk])), (su, .inr (8, [.int (zi p), .int (zi d), .int (zi q)])), (ex, .inr (2, [.ref hT, .ref hU, .ref hL, .ref hS, .ref hH, .long (zl lt), .long (zl lb), .int (zi ld), .int (zi pd), .int (zi cv)])), (hT, ai κ 400 f), (nb, .inr (4, [.long (zl g1), .long (zl g2), .long (zl g3), .long (zl g4), .int (zi g5)]))]) E (c_X10_isWithin l D κ ab 0 1 (by omega) (by omega) (by omega)) m_X10_66 ⟨Nat.le_of_ble_eq_true rfl, Nat.le_of_ble_eq_true rfl⟩ ⟨rfl, rfl⟩ [] [0, 1, 2, 3, 4, 5] rfl rfl rfl rfl (by decide) rfl rfl (Nat.le_of_ble_eq_true rfl) dX10_beside_14 ⟨Nat.le_of_ble_eq_true rfl, Nat.le_of_ble_eq_true rfl⟩ (fun z14 w1 hq => ?_)
    obtain ⟨⟨rfl, hc_14⟩ | ⟨rfl, hc_14⟩, rfl⟩ := hq
    · refine z_if_eq (tgt := 29) E (by omega) dX10_beside_17 (by decide) (fun h => absurd h (by decide)) (fun _ => ?_)
      refine z_iload_n E 3 rfl rfl dX10_beside_20 ?_
      refine z_iconst E dX10_beside_21 ?_
      refine z_iconst E dX10_beside_22 ?_
      refine z_callSi (As := [.int (zi pt), .int (zi 0), .int (zi 1)]) (rest := []) (wr := [(x0, .inr (10, [.ref st, .ref hh, .ref ex, .ref nb, .ref sq, .ref tx, .ref fr])), (st, .inr (6, [.ref su, .ref bk])), (su, .inr (8, [.int (zi p), .int (zi d), .int (zi q)])), (ex, .inr (2, [.ref hT, .ref hU, .ref hL, .ref hS, .ref hH, .long (zl lt), .long (zl lb), .int (zi ld), .int (zi pd), .int (zi cv)])), (hT, ai κ 400 f), (nb, .inr (4, [.long (zl g1), .long (zl g2), .long (zl g3), .long (zl g4), .int (zi g5)]))]) E (c_X10_isWithin l D κ pt 0 1 (by omega) (by omega) (by omega)) m_X10_66 ⟨Nat.le_of_ble_eq_true rfl, Nat.le_of_ble_eq_true rfl⟩ ⟨rfl, rfl⟩ [] [0, 1, 2, 3, 4, 5] rfl rfl rfl rfl (by decide) rfl rfl (Nat.le_of_ble_eq_true rfl) dX10_beside_23 ⟨Nat.le_of_ble_eq_true rfl, Nat.le_of_ble_eq_true rfl⟩ (fun z23 w1 hq => ?_)
      obtain ⟨⟨rfl, hc_23⟩ | ⟨rfl, hc_23⟩, rfl⟩ := hq
      · refine z_if_ne (tgt := 32) E (by omega) dX10_beside_26 (by decide) (fun _ => ?_) (fun h => absurd h (by decide))
        refine z_aload_n E 0 rfl rfl dX10_beside_32 ?_
        refine z_get E f_X10_33 0 rfl rfl dX10_beside_33 ?_
        refine z_aload_n E 0 rfl rfl dX10_beside_36 ?_
        refine z_get E f_X10_10 0 rfl rfl dX10_beside_37 ?_
        refine z_get E f_X10_58 1 rfl rfl dX10_beside_40 ?_
        refine z_aload_n E 0 rfl rfl dX10_beside_43 ?_
        refine z_get E f_X10_26 0 rfl rfl dX10_beside_44 ?_
        refine z_iconst E dX10_beside_47 ?_
        refine z_callVi (As := [.int (zi 0)]) (rest := [.ref su, .ref nb]) (wr := [(x0, .inr (10, [.ref st, .ref hh, .ref ex, .ref nb, .ref sq, .ref tx, .ref fr])), (st, .inr (6, [.ref su, .ref bk])), (su, .inr (8, [.int (zi p), .int (zi d), .int (zi q)])), (nb, .inr (4, [.long (zl g1), .long (zl g2), .long (zl g3), .long (zl g4), .int (zi g5)]))]) E (c_X2_termAt l D κ ex hT hU hL hS hH lt lb ld pd cv f 0 (by omega)) m_X10_105 ⟨Nat.le_of_ble_eq_true rfl, Nat.le_of_ble_eq_true rfl⟩ ⟨rfl, rfl⟩ [3, 4] [0, 1, 2, 5] rfl rfl rfl rfl (by decide) rfl rfl rfl rfl (Nat.le_of_ble_eq_true rfl) dX10_beside_48 ⟨Nat.le_of_ble_eq_true rfl, Nat.le_of_ble_eq_true rfl⟩ (fun z48 w1 hq => ?_)
        obtain ⟨rfl, rfl⟩ := hq
        refine z_iload_n E 1 rfl rfl dX10_beside_51 ?_
        refine z_callVv (As := [.ref su, .int (zi (f 0)), .int (zi bd)]) (rest := []) (wr := [(x0, .inr (10, [.ref st, .ref hh, .ref ex, .ref nb, .ref sq, .ref tx, .ref fr])), (st, .inr (6, [.ref su, .ref bk])), (ex, .inr (2, [.ref hT, .ref hU, .ref hL, .ref hS, .ref hH, .long (zl lt), .long (zl lb), .int (zi ld), .int (zi pd), .int (zi cv)])), (hT, ai κ 400 f)]) E (c_X4_find l D κ nb g1 g2 g3 g4 g5 su p d q (f 0) bd (by omega) (by omega) (by omega) (by omega) (by omega)) m_X10_150 ⟨Nat.le_of_ble_eq_true rfl, Nat.le_of_ble_eq_true rfl⟩ ⟨rfl, rfl⟩ [3, 2] [0, 1, 4, 5] rfl rfl rfl rfl (by decide) rfl rfl rfl rfl (Nat.le_of_ble_eq_true rfl) dX10_beside_52 ⟨Nat.le_of_ble_eq_true rfl, Nat.le_of_ble_eq_true rfl⟩ (fun  w1 hq => ?_)
        obtain ⟨bu'_1, bl'_2, au'_3, al'_4, r'_5, k_6, hm_52, rfl⟩ := hq
        obtain ⟨hk0, hk1, hk2, hk3, hk4⟩ := hm_52
        refine z_aload_n E 0 rfl rfl dX10_beside_55 ?_
        refine z_iload_n E 2 rfl rfl dX10_beside_56 ?_
        refine z_iconst E dX10_beside_57 ?_
        refine z_ic_ne (tgt := 65) E (by omega) (by omega) dX10_beside_58 (by decide) (fun h_58 => ?_) (fun h_58 => ?_)
        · refine z_iconst E dX10_beside_65 ?_
          refine z_iload_n E 3 rfl rfl dX10_beside_66 ?_
          refine z_callVi (As := [.int (zi 0), .int (zi pt)]) (rest := []) (wr := [(st, .inr (6, [.ref su, .ref bk])), (ex, .inr (2, [.ref hT, .ref hU, .ref hL, .ref hS, .ref hH, .long (zl lt), .long (zl lb), .int (zi ld), .int (zi pd), .int (zi cv)])), (hT, ai κ 400 f), (su, .inr (8, [.int (zi p), .int (zi d), .int (zi q)]))]) E (c_X10_neighbourPart l D κ x0 st hh ex nb sq tx fr bu'_1 bl'_2 au'_3 al'_4 r'_5 0 pt (by omega) (by omega)) m_X10_158 ⟨Nat.le_of_ble_eq_true rfl, Nat.le_of_ble_eq_true rfl⟩ ⟨rfl, rfl⟩ [0, 4] [1, 2, 3, 5] rfl rfl rfl rfl (by decide) rfl rfl rfl rfl (Nat.le_of_ble_eq_true rfl) dX10_beside_67 ⟨Nat.le_of_ble_eq_true rfl, Nat.le_of_ble_eq_true rfl⟩ (fun z67 w1 hq => ?_)
          obtain ⟨rfl, rfl⟩ := hq
          refine Zg.perm (ws' := [(x0, .inr (10, [.ref st, .ref hh, .ref ex, .ref nb, .ref sq, .ref tx, .ref fr])), (st, .inr (6, [.ref su, .ref bk])), (su, .inr (8, [.int (zi p), .int (zi d), .int (zi q)])), (ex, .inr (2, [.ref hT, .ref hU, .ref hL, .ref hS, .ref hH, .long (zl lt), .long (zl lb), .int (zi ld), .int (zi pd), .int (zi cv)])), (hT, ai κ 400 f), (nb, .inr (4, [.long (zl bu'_1), .long (zl bl'_2), .long (zl au'_3), .long (zl al'_4), .int (zi r'_5)]))]) [4, 0, 3, 1, 2, 5] rfl rfl ?_
          exact fin _ _ _ _ rfl (⟨_, _, _, _, _, _, Or.inr ⟨by omega, _, _, _, _, _, ⟨_, hk0, hk1, hk2, hk3, hk4⟩, by rw [show ab = 0 by omega]⟩, rfl, rfl⟩) dX10_beside_70
        · refine z_iconst E dX10_beside_61 ?_
          refine z_goto (tgt := 66) E dX10_beside_62 (by decide) ?_
          refine z_iload_n E 3 rfl rfl dX10_beside_66 ?_
          refine z_callVi (As := [.int (zi 1), .int (zi pt)]) (rest := []) (wr := [(st, .inr (6, [.ref su, .ref bk])), (ex, .inr (2, [.ref hT, .ref hU, .ref hL, .ref hS, .ref hH, .long (zl lt), .long (zl lb), .int (zi ld), .int (zi pd), .int (zi cv)])), (hT, ai κ 400 f), (su, .inr (8, [.int (zi p), .int (zi d), .int (zi q)]))]) E (c_X10_neighbourPart l D κ x0 st hh ex nb sq tx fr bu'_1 bl'_2 au'_3 al'_4 r'_5 1 pt (by omega) (by omega)) m_X10_158 ⟨Nat.le_of_ble_eq_true rfl, Nat.le_of_ble_eq_true rfl⟩ ⟨rfl, rfl⟩ [0, 4] [1, 2, 3, 5] rfl rfl rfl rfl (by decide) rfl rfl rfl rfl (Nat.le_of_ble_eq_true rfl) dX10_beside_67 ⟨Nat.le_of_ble_eq_true rfl, Nat.le_of_ble_eq_true rfl⟩ (fun z67 w1 hq => ?_)
          obtain ⟨rfl, rfl⟩ := hq
          refine Zg.perm (ws' := [(x0, .inr (10, [.ref st, .ref hh, .ref ex, .ref nb, .ref sq, .ref tx, .ref fr])), (st, .inr (6, [.ref su, .ref bk])), (su, .inr (8, [.int (zi p), .int (zi d), .int (zi q)])), (ex, .inr (2, [.ref hT, .ref hU, .ref hL, .ref hS, .ref hH, .long (zl lt), .long (zl lb), .int (zi ld), .int (zi pd), .int (zi cv)])), (hT, ai κ 400 f), (nb, .inr (4, [.long (zl bu'_1), .long (zl bl'_2), .long (zl au'_3), .long (zl al'_4), .int (zi r'_5)]))]) [4, 0, 3, 1, 2, 5] rfl rfl ?_
          exact fin _ _ _ _ rfl (⟨_, _, _, _, _, _, Or.inr ⟨by omega, _, _, _, _, _, ⟨_, hk0, hk1, hk2, hk3, hk4⟩, by rw [show ab = 1 by omega]⟩, rfl, rfl⟩) dX10_beside_70
      · refine z_if_ne (tgt := 32) E (by omega) dX10_beside_26 (by decide) (fun h => absurd h (by decide)) (fun _ => ?_)
        refine z_ldc E k_X10_70 dX10_beside_29 ?_
        exact fin _ _ _ _ rfl (⟨_, _, _, _, _, _, Or.inl ⟨by omega, rfl⟩, rfl, rfl⟩) dX10_beside_31
    · refine z_if_eq (tgt := 29) E (by omega) dX10_beside_17 (by decide) (fun _ => ?_) (fun h => absurd h (by decide))
      refine z_ldc E k_X10_70 dX10_beside_29 ?_
      exact fin _ _ _ _ rfl (⟨_, _, _, _, _, _, Or.inl ⟨by omega, rfl⟩, rfl, rfl⟩) dX10_beside_31
  · refine z_if_eq (tgt := 29) E (by omega) dX10_beside_8 (by decide) (fun _ => ?_) (fun h => absurd h (by decide))
    refine z_ldc E k_X10_70 dX10_beside_29 ?_
    exact fin _ _ _ _ rfl (⟨_, _, _, _, _, _, Or.inl ⟨by omega, rfl⟩, rfl, rfl⟩) dX10_beside_31
abbrev rm_X10_records : Room := { frames := 4, cells := 0, slots := 0, locals := 109 }
set_option maxRecDepth 100000 in
theorem c_X10_records (l : Launch) (D : va_G) (κ : Nat → ClassId) (x0 : Nat) (st : Nat) (hh : Nat) (ex : Nat) (nb : Nat) (sq : Nat) (tx : Nat) (fr : Nat) (su : Nat) (bk : Nat) (p : Int) (d : Int) (q : Int) (hT : Nat) (hU : Nat) (hL : Nat) (hS : Nat) (hH : Nat) (lt : Int) (lb : Int) (ld : Int) (pd : Int) (cv : Int) (f : Int → Int) (g1 : Int) (g2 : Int) (g3 : Int) (g4 : Int) (g5 : Int) (bd : Int) (hr0 : -2147483648 ≤ bd ∧ bd ≤ 2147483647) (hp : -99 ≤ p ∧ p ≤ 99) (hd : 2 ≤ d ∧ d ≤ 999) (hq : -99 ≤ q ∧ q ≤ 99) (hw : -141 ≤ f 0 ∧ f 0 ≤ 140) : ZI l yX10_records cX10_records 2 .int rm_X10_records D κ [.ref x0, .int (zi bd)] [(x0, .inr (10, [.ref st, .ref hh, .ref ex, .ref nb, .ref sq, .ref tx, .ref fr])), (st, .inr (6, [.ref su, .ref bk])), (su, .inr (8, [.int (zi p), .int (zi d), .int (zi q)])), (ex, .inr (2, [.ref hT, .ref hU, .ref hL, .ref hS, .ref hH, .long (zl lt), .long (zl lb), .int (zi ld), .int (zi pd), .int (zi cv)])), (hT, ai κ 400 f), (nb, .inr (4, [.long (zl g1), .long (zl g2), .long (zl g3), .long (zl g4), .int (zi g5)]))] (fun z w => ∃ r : Int, ∃ g1' : Int, ∃ g2' : Int, ∃ g3' : Int, ∃ g4' : Int, ∃ g5' : Int, (reC p d q (f 0) bd r) ∧ r = z ∧ [(x0, .inr (10, [.ref st, .ref hh, .ref ex, .ref nb, .ref sq, .ref tx, .ref fr])), (st, .inr (6, [.ref su, .ref bk])), (su, .inr (8, [.int (zi p), .int (zi d), .int (zi q)])), (ex, .inr (2, [.ref hT, .ref hU, .ref hL, .ref hS, .ref hH, .long (zl lt), .long (zl lb), .int (zi ld), .int (zi pd), .int (zi cv)])), (hT, ai κ 400 f), (nb, .inr (4, [.long (zl g1'), .long (zl g2'), .long (zl g3'), .long (zl g4'), .int (zi g5')]))] = w) := by
  refine ZI.enter (own := RX10) rfl pn_X10_records (Nat.le_of_ble_eq_true rfl) (fun X E fin => ?_)
  show Zg X [(x0, .inr (10, [.ref st, .ref hh, .ref ex, .ref nb, .ref sq, .ref tx, .ref fr])), (st, .inr (6, [.ref su, .ref bk])), (su, .inr (8, [.int (zi p), .int (zi d), .int (zi q)])), (ex, .inr (2, [.ref hT, .ref hU, .ref hL, .ref hS, .ref hH, .long (zl lt), .long (zl lb), .int (zi ld), .int (zi pd), .int (zi cv)])), (hT, ai κ 400 f), (nb, .inr (4, [.long (zl g1), .long (zl g2), .long (zl g3), .long (zl g4), .int (zi g5)]))] 0 0 0 [(0, .ref x0), (1, .int (zi bd))] []
  refine z_iload_n E 1 rfl rfl dX10_records_0 ?_
  refine z_iconst E dX10_records_1 ?_
  refine z_sipush E dX10_records_2 (by decide) ?_
  refine z_callSi (As := [.int (zi bd), .int (zi 1), .int (zi 200)]) (rest := []) (wr := [(x0, .inr (10, [.ref st, .ref hh, .ref ex, .ref nb, .ref sq, .ref tx, .ref fr])), (st, .inr (6, [.ref su, .ref bk])), (su, .inr (8, [.int (zi p), .int (zi d), .int (zi q)])), (ex, .inr (2, [.ref hT, .ref hU, .ref hL, .ref hS, .ref hH, .long (zl lt), .long (zl lb), .int (zi ld), .int (zi pd), .int (zi cv)])), (hT, ai κ 400 f), (nb, .inr (4, [.long (zl g1), .long (zl g2), .long (zl g3), .long (zl g4), .int (zi g5)]))]) E (c_X10_isWithin l D κ bd 1 200 (by omega) (by omega) (by omega)) m_X10_66 ⟨Nat.le_of_ble_eq_true rfl, Nat.le_of_ble_eq_true rfl⟩ ⟨rfl, rfl⟩ [] [0, 1, 2, 3, 4, 5] rfl rfl rfl rfl (by decide) rfl rfl (Nat.le_of_ble_eq_true rfl) dX10_records_5 ⟨Nat.le_of_ble_eq_true rfl, Nat.le_of_ble_eq_true rfl⟩ (fun z5 w1 hq => ?_)
  obtain ⟨⟨rfl, hc_5⟩ | ⟨rfl, hc_5⟩, rfl⟩ := hq
  · refine z_if_ne (tgt := 14) E (by omega) dX10_records_8 (by decide) (fun _ => ?_) (fun h => absurd h (by decide))
    refine z_aload_n E 0 rfl rfl dX10_records_14 ?_
    refine z_get E f_X10_33 0 rfl rfl dX10_records_15 ?_
    refine z_aload_n E 0 rfl rfl dX10_records_18 ?_
    refine z_get E f_X10_10 0 rfl rfl dX10_records_19 ?_
    refine z_get E f_X10_58 1 rfl rfl dX10_records_22 ?_
    refine z_aload_n E 0 rfl rfl dX10_records_25 ?_
    refine z_get E f_X10_26 0 rfl rfl dX10_records_26 ?_
    refine z_iconst E dX10_records_29 ?_
    refine z_callVi (As := [.int (zi 0)]) (rest := [.ref su, .ref nb]) (wr := [(x0, .inr (10, [.ref st, .ref hh, .ref ex, .ref nb, .ref sq, .ref tx, .ref fr])), (st, .inr (6, [.ref su, .ref bk])), (su, .inr (8, [.int (zi p), .int (zi d), .int (zi q)])), (nb, .inr (4, [.long (zl g1), .long (zl g2), .long (zl g3), .long (zl g4), .int (zi g5)]))]) E (c_X2_termAt l D κ ex hT hU hL hS hH lt lb ld pd cv f 0 (by omega)) m_X10_105 ⟨Nat.le_of_ble_eq_true rfl, Nat.le_of_ble_eq_true rfl⟩ ⟨rfl, rfl⟩ [3, 4] [0, 1, 2, 5] rfl rfl rfl rfl (by decide) rfl rfl rfl rfl (Nat.le_of_ble_eq_true rfl) dX10_records_30 ⟨Nat.le_of_ble_eq_true rfl, Nat.le_of_ble_eq_true rfl⟩ (fun z30 w1 hq => ?_)
    obtain ⟨rfl, rfl⟩ := hq
    refine z_iload_n E 1 rfl rfl dX10_records_33 ?_
    refine z_callVv (As := [.ref su, .int (zi (f 0)), .int (zi bd)]) (rest := []) (wr := [(x0, .inr (10, [.ref st, .ref hh, .ref ex, .ref nb, .ref sq, .ref tx, .ref fr])), (st, .inr (6, [.ref su, .ref bk])), (ex, .inr (2, [.ref hT, .ref hU, .ref hL, .ref hS, .ref hH, .long (zl lt), .long (zl lb), .int (zi ld), .int (zi pd), .int (zi cv)])), (hT, ai κ 400 f)]) E (c_X4_find l D κ nb g1 g2 g3 g4 g5 su p d q (f 0) bd (by omega) (by omega) (by omega) (by omega) (by omega)) m_X10_150 ⟨Nat.le_of_ble_eq_true rfl, Nat.le_of_ble_eq_true rfl⟩ ⟨rfl, rfl⟩ [3, 2] [0, 1, 4, 5] rfl rfl rfl rfl (by decide) rfl rfl rfl rfl (Nat.le_of_ble_eq_true rfl) dX10_records_34 ⟨Nat.le_of_ble_eq_true rfl, Nat.le_of_ble_eq_true rfl⟩ (fun  w1 hq => ?_)
    obtain ⟨bu'_1, bl'_2, au'_3, al'_4, r'_5, k_6, hm_34, rfl⟩ := hq
    obtain ⟨hk0, hk1, hk2, hk3, hk4⟩ := hm_34
    refine z_aload_n E 0 rfl rfl dX10_records_37 ?_
    refine z_get E f_X10_33 0 rfl rfl dX10_records_38 ?_
    refine z_get E f_X10_162 4 rfl rfl dX10_records_41 ?_
    refine Zg.perm (ws' := [(x0, .inr (10, [.ref st, .ref hh, .ref ex, .ref nb, .ref sq, .ref tx, .ref fr])), (st, .inr (6, [.ref su, .ref bk])), (su, .inr (8, [.int (zi p), .int (zi d), .int (zi q)])), (ex, .inr (2, [.ref hT, .ref hU, .ref hL, .ref hS, .ref hH, .long (zl lt), .long (zl lb), .int (zi ld), .int (zi pd), .int (zi cv)])), (hT, ai κ 400 f), (nb, .inr (4, [.long (zl bu'_1), .long (zl bl'_2), .long (zl au'_3), .long (zl al'_4), .int (zi r'_5)]))]) [0, 1, 5, 2, 3, 4] rfl rfl ?_
    exact fin _ _ _ _ rfl (⟨_, _, _, _, _, _, Or.inr ⟨by omega, _, _, _, _, _, ⟨_, hk0, hk1, hk2, hk3, hk4⟩, rfl⟩, rfl, rfl⟩) dX10_records_44
  · refine z_if_ne (tgt := 14) E (by omega) dX10_records_8 (by decide) (fun h => absurd h (by decide)) (fun _ => ?_)
    refine z_ldc E k_X10_70 dX10_records_11 ?_
    exact fin _ _ _ _ rfl (⟨_, _, _, _, _, _, Or.inl ⟨by omega, rfl⟩, rfl, rfl⟩) dX10_records_13
abbrev rm_X10_solution : Room := { frames := 2, cells := 0, slots := 0, locals := 52 }
set_option maxRecDepth 100000 in
theorem c_X10_solution (l : Launch) (D : va_G) (κ : Nat → ClassId) (x0 : Nat) (st : Nat) (hh : Nat) (ex : Nat) (nb : Nat) (sq : Nat) (tx : Nat) (fr : Nat) (su : Nat) (bk : Nat) (p : Int) (d : Int) (q : Int) (qs : Nat) (qh : Nat) (s1 : Int) (s2 : Int) (s3 : Int) (nn : Int) (ix : Int) (pt : Int) (hr0 : -2147483648 ≤ nn ∧ nn ≤ 2147483647) (hr1 : -2147483648 ≤ ix ∧ ix ≤ 2147483647) (hr2 : -2147483648 ≤ pt ∧ pt ≤ 2147483647) (hd : 2 ≤ d ∧ d ≤ 999) : ZI l yX10_solution cX10_solution 4 .int rm_X10_solution D κ [.ref x0, .int (zi nn), .int (zi ix), .int (zi pt)] [(x0, .inr (10, [.ref st, .ref hh, .ref ex, .ref nb, .ref sq, .ref tx, .ref fr])), (st, .inr (6, [.ref su, .ref bk])), (su, .inr (8, [.int (zi p), .int (zi d), .int (zi q)])), (sq, .inr (5, [.ref qs, .ref qh, .int (zi s1), .long (zl s2), .long (zl s3)]))] (fun z w => ∃ r : Int, ∃ s1' : Int, ∃ s2' : Int, ∃ s3' : Int, (slC d nn ix pt r) ∧ r = z ∧ [(x0, .inr (10, [.ref st, .ref hh, .ref ex, .ref nb, .ref sq, .ref tx, .ref fr])), (st, .inr (6, [.ref su, .ref bk])), (su, .inr (8, [.int (zi p), .int (zi d), .int (zi q)])), (sq, .inr (5, [.ref qs, .ref qh, .int (zi s1'), .long (zl s2'), .long (zl s3')]))] = w) := by
  refine ZI.enter (own := RX10) rfl pn_X10_solution (Nat.le_of_ble_eq_true rfl) (fun X E fin => ?_)
  show Zg X [(x0, .inr (10, [.ref st, .ref hh, .ref ex, .ref nb, .ref sq, .ref tx, .ref fr])), (st, .inr (6, [.ref su, .ref bk])), (su, .inr (8, [.int (zi p), .int (zi d), .int (zi q)])), (sq, .inr (5, [.ref qs, .ref qh, .int (zi s1), .long (zl s2), .long (zl s3)]))] 0 0 0 [(0, .ref x0), (1, .int (zi nn)), (2, .int (zi ix)), (3, .int (zi pt))] []
  refine z_iload_n E 1 rfl rfl dX10_solution_0 ?_
  refine z_callSi (As := [.int (zi nn)]) (rest := []) (wr := [(x0, .inr (10, [.ref st, .ref hh, .ref ex, .ref nb, .ref sq, .ref tx, .ref fr])), (st, .inr (6, [.ref su, .ref bk])), (su, .inr (8, [.int (zi p), .int (zi d), .int (zi q)])), (sq, .inr (5, [.ref qs, .ref qh, .int (zi s1), .long (zl s2), .long (zl s3)]))]) E (c_X10_isRightSide l D κ nn (by omega)) m_X10_165 ⟨Nat.le_of_ble_eq_true rfl, Nat.le_of_ble_eq_true rfl⟩ ⟨rfl, rfl⟩ [] [0, 1, 2, 3] rfl rfl rfl rfl (by decide) rfl rfl (Nat.le_of_ble_eq_true rfl) dX10_solution_1 ⟨Nat.le_of_ble_eq_true rfl, Nat.le_of_ble_eq_true rfl⟩ (fun z1 w1 hq => ?_)
  obtain ⟨⟨rfl, hc_1⟩ | ⟨rfl, hc_1⟩, rfl⟩ := hq
  · refine z_if_eq (tgt := 20) E (by omega) dX10_solution_4 (by decide) (fun h => absurd h (by decide)) (fun _ => ?_)
    refine z_iload_n E 2 rfl rfl dX10_solution_7 ?_
    refine z_if_lt (tgt := 20) E (by omega) dX10_solution_8 (by decide) (fun h_8 => ?_) (fun h_8 => ?_)
    · refine z_ldc E k_X10_70 dX10_solution_20 ?_
      exact fin _ _ _ _ rfl (⟨_, _, _, _, Or.inl ⟨fun z => by omega, rfl⟩, rfl, rfl⟩) dX10_solution_22
    · refine z_iload_n E 3 rfl rfl dX10_solution_11 ?_
      refine z_iconst E dX10_solution_12 ?_
      refine z_iconst E dX10_solution_13 ?_
      refine z_callSi (As := [.int (zi pt), .int (zi 0), .int (zi 1)]) (rest := []) (wr := [(x0, .inr (10, [.ref st, .ref hh, .ref ex, .ref nb, .ref sq, .ref tx, .ref fr])), (st, .inr (6, [.ref su, .ref bk])), (su, .inr (8, [.int (zi p), .int (zi d), .int (zi q)])), (sq, .inr (5, [.ref qs, .ref qh, .int (zi s1), .long (zl s2), .long (zl s3)]))]) E (c_X10_isWithin l D κ pt 0 1 (by omega) (by omega) (by omega)) m_X10_66 ⟨Nat.le_of_ble_eq_true rfl, Nat.le_of_ble_eq_true rfl⟩ ⟨rfl, rfl⟩ [] [0, 1, 2, 3] rfl rfl rfl rfl (by decide) rfl rfl (Nat.le_of_ble_eq_true rfl) dX10_solution_14 ⟨Nat.le_of_ble_eq_true rfl, Nat.le_of_ble_eq_true rfl⟩ (fun z14 w1 hq => ?_)
      obtain ⟨⟨rfl, hc_14⟩ | ⟨rfl, hc_14⟩, rfl⟩ := hq
      · refine z_if_ne (tgt := 23) E (by omega) dX10_solution_17 (by decide) (fun _ => ?_) (fun h => absurd h (by decide))
        have hc1b := hc_1
        refine z_aload_n E 0 rfl rfl dX10_solution_23 ?_
        refine z_get E f_X10_40 0 rfl rfl dX10_solution_24 ?_
        refine z_aload_n E 0 rfl rfl dX10_solution_27 ?_
        refine z_get E f_X10_10 0 rfl rfl dX10_solution_28 ?_
        refine z_get E f_X10_58 1 rfl rfl dX10_solution_31 ?_
        refine z_get E f_X10_99 2 rfl rfl dX10_solution_34 ?_
        refine z_iload_n E 1 rfl rfl dX10_solution_37 ?_
        refine z_iload_n E 2 rfl rfl dX10_solution_38 ?_
        unfold rsP at hc1b
        refine z_callVi (As := [.int (zi d), .int (zi nn), .int (zi ix)]) (rest := []) (wr := [(x0, .inr (10, [.ref st, .ref hh, .ref ex, .ref nb, .ref sq, .ref tx, .ref fr])), (st, .inr (6, [.ref su, .ref bk])), (su, .inr (8, [.int (zi p), .int (zi d), .int (zi q)]))]) E (c_X5_find l D κ sq qs qh s1 s2 s3 d nn ix (by omega) (by omega) (by omega)) m_X10_168 ⟨Nat.le_of_ble_eq_true rfl, Nat.le_of_ble_eq_true rfl⟩ ⟨rfl, rfl⟩ [3] [0, 1, 2] rfl rfl rfl rfl (by decide) rfl rfl rfl rfl (Nat.le_of_ble_eq_true rfl) dX10_solution_39 ⟨Nat.le_of_ble_eq_true rfl, Nat.le_of_ble_eq_true rfl⟩ (fun z39 w1 hq => ?_)
        obtain ⟨m'_1, x'_2, y'_3, ⟨rfl, hc_39⟩ | ⟨rfl, hc_39⟩, hf_39, rfl⟩ := hq
        · refine z_if_ne (tgt := 48) E (by omega) dX10_solution_42 (by decide) (fun _ => ?_) (fun h => absurd h (by decide))
          have hy := hf_39.1 hc_39
          refine z_iload_n E 3 rfl rfl dX10_solution_48 ?_
          refine z_if_ne (tgt := 62) E (by omega) dX10_solution_49 (by decide) (fun h_49 => ?_) (fun h_49 => ?_)
          · refine z_aload_n E 0 rfl rfl dX10_solution_62 ?_
            refine z_get E f_X10_40 0 rfl rfl dX10_solution_63 ?_
            refine z_get E f_X10_175 3 rfl rfl dX10_solution_66 ?_
            refine z_l2i E dX10_solution_69 ?_
            exact fin _ _ _ _ rfl (⟨_, _, _, _, Or.inr (Or.inr ⟨⟨hc_1, by omega, by omega⟩, _, hy.1, hy.2.1, hy.2.2.1, hy.2.2.2.1, Or.inr ⟨by omega, rfl⟩⟩), rfl, rfl⟩) dX10_solution_70
          · refine z_aload_n E 0 rfl rfl dX10_solution_52 ?_
            refine z_get E f_X10_40 0 rfl rfl dX10_solution_53 ?_
            refine z_get E f_X10_171 3 rfl rfl dX10_solution_56 ?_
            refine z_goto (tgt := 69) E dX10_solution_59 (by decide) ?_
            refine z_l2i E dX10_solution_69 ?_
            exact fin _ _ _ _ rfl (⟨_, _, _, _, Or.inr (Or.inr ⟨⟨hc_1, by omega, by omega⟩, _, hy.1, hy.2.1, hy.2.2.1, hy.2.2.2.1, Or.inl ⟨by omega, hy.2.2.2.2⟩⟩), rfl, rfl⟩) dX10_solution_70
        · refine z_if_ne (tgt := 48) E (by omega) dX10_solution_42 (by decide) (fun h => absurd h (by decide)) (fun _ => ?_)
          refine z_ldc E k_X10_170 dX10_solution_45 ?_
          exact fin _ _ _ _ rfl (⟨_, _, _, _, Or.inr (Or.inl ⟨⟨hc_1, by omega, by omega⟩, hc_39, rfl⟩), rfl, rfl⟩) dX10_solution_47
      · refine z_if_ne (tgt := 23) E (by omega) dX10_solution_17 (by decide) (fun h => absurd h (by decide)) (fun _ => ?_)
        refine z_ldc E k_X10_70 dX10_solution_20 ?_
        exact fin _ _ _ _ rfl (⟨_, _, _, _, Or.inl ⟨fun z => by omega, rfl⟩, rfl, rfl⟩) dX10_solution_22
  · refine z_if_eq (tgt := 20) E (by omega) dX10_solution_4 (by decide) (fun _ => ?_) (fun h => absurd h (by decide))
    refine z_ldc E k_X10_70 dX10_solution_20 ?_
    exact fin _ _ _ _ rfl (⟨_, _, _, _, Or.inl ⟨fun z => by exact hc_1 z.1, rfl⟩, rfl, rfl⟩) dX10_solution_22
abbrev rm_X10_solutions : Room := { frames := 3, cells := 0, slots := 0, locals := 74 }
set_option maxRecDepth 100000 in
theorem c_X10_solutions (l : Launch) (D : va_G) (κ : Nat → ClassId) (x0 : Nat) (st : Nat) (hh : Nat) (ex : Nat) (nb : Nat) (sq : Nat) (tx : Nat) (fr : Nat) (su : Nat) (bk : Nat) (p : Int) (d : Int) (q : Int) (qs : Nat) (qh : Nat) (s1 : Int) (s2 : Int) (s3 : Int) (nn : Int) (hr0 : -2147483648 ≤ nn ∧ nn ≤ 2147483647) (hd : 2 ≤ d ∧ d ≤ 999) : ZI l yX10_solutions cX10_solutions 2 .int rm_X10_solutions D κ [.ref x0, .int (zi nn)] [(x0, .inr (10, [.ref st, .ref hh, .ref ex, .ref nb, .ref sq, .ref tx, .ref fr])), (st, .inr (6, [.ref su, .ref bk])), (su, .inr (8, [.int (zi p), .int (zi d), .int (zi q)])), (sq, .inr (5, [.ref qs, .ref qh, .int (zi s1), .long (zl s2), .long (zl s3)]))] (fun z w => ∃ r : Int, ∃ s1' : Int, ∃ s2' : Int, ∃ s3' : Int, (snC d nn r) ∧ r = z ∧ [(x0, .inr (10, [.ref st, .ref hh, .ref ex, .ref nb, .ref sq, .ref tx, .ref fr])), (st, .inr (6, [.ref su, .ref bk])), (su, .inr (8, [.int (zi p), .int (zi d), .int (zi q)])), (sq, .inr (5, [.ref qs, .ref qh, .int (zi s1'), .long (zl s2'), .long (zl s3')]))] = w) := by
  refine ZI.enter (own := RX10) rfl pn_X10_solutions (Nat.le_of_ble_eq_true rfl) (fun X E fin => ?_)
  show Zg X [(x0, .inr (10, [.ref st, .ref hh, .ref ex, .ref nb, .ref sq, .ref tx, .ref fr])), (st, .inr (6, [.ref su, .ref bk])), (su, .inr (8, [.int (zi p), .int (zi d), .int (zi q)])), (sq, .inr (5, [.ref qs, .ref qh, .int (zi s1), .long (zl s2), .long (zl s3)]))] 0 0 0 [(0, .ref x0), (1, .int (zi nn))] []
  refine z_iload_n E 1 rfl rfl dX10_solutions_0 ?_
  refine z_callSi (As := [.int (zi nn)]) (rest := []) (wr := [(x0, .inr (10, [.ref st, .ref hh, .ref ex, .ref nb, .ref sq, .ref tx, .ref fr])), (st, .inr (6, [.ref su, .ref bk])), (su, .inr (8, [.int (zi p), .int (zi d), .int (zi q)])), (sq, .inr (5, [.ref qs, .ref qh, .int (zi s1), .long (zl s2), .long (zl s3)]))]) E (c_X10_isRightSide l D κ nn (by omega)) m_X10_165 ⟨Nat.le_of_ble_eq_true rfl, Nat.le_of_ble_eq_true rfl⟩ ⟨rfl, rfl⟩ [] [0, 1, 2, 3] rfl rfl rfl rfl (by decide) rfl rfl (Nat.le_of_ble_eq_true rfl) dX10_solutions_1 ⟨Nat.le_of_ble_eq_true rfl, Nat.le_of_ble_eq_true rfl⟩ (fun z1 w1 hq => ?_)
  obtain ⟨⟨rfl, hc_1⟩ | ⟨rfl, hc_1⟩, rfl⟩ := hq
  · refine z_if_ne (tgt := 10) E (by omega) dX10_solutions_4 (by decide) (fun _ => ?_) (fun h => absurd h (by decide))
    have hc1b := hc_1
    unfold rsP at hc1b
    refine z_aload_n E 0 rfl rfl dX10_solutions_10 ?_
    refine z_get E f_X10_40 0 rfl rfl dX10_solutions_11 ?_
    refine z_aload_n E 0 rfl rfl dX10_solutions_14 ?_
    refine z_get E f_X10_10 0 rfl rfl dX10_solutions_15 ?_
    refine z_get E f_X10_58 1 rfl rfl dX10_solutions_18 ?_
    refine z_get E f_X10_99 2 rfl rfl dX10_solutions_21 ?_
    refine z_iload_n E 1 rfl rfl dX10_solutions_24 ?_
    refine z_callVi (As := [.int (zi d), .int (zi nn)]) (rest := []) (wr := [(x0, .inr (10, [.ref st, .ref hh, .ref ex, .ref nb, .ref sq, .ref tx, .ref fr])), (st, .inr (6, [.ref su, .ref bk])), (su, .inr (8, [.int (zi p), .int (zi d), .int (zi q)]))]) E (c_X5_countAll l D κ sq qs qh s1 s2 s3 d nn (by omega) (by omega)) m_X10_178 ⟨Nat.le_of_ble_eq_true rfl, Nat.le_of_ble_eq_true rfl⟩ ⟨rfl, rfl⟩ [3] [0, 1, 2] rfl rfl rfl rfl (by decide) rfl rfl rfl rfl (Nat.le_of_ble_eq_true rfl) dX10_solutions_25 ⟨Nat.le_of_ble_eq_true rfl, Nat.le_of_ble_eq_true rfl⟩ (fun z25 w1 hq => ?_)
    obtain ⟨m'_1, x'_2, y'_3, hm_25, rfl, rfl⟩ := hq
    exact fin _ _ _ _ rfl (⟨_, _, _, _, Or.inr ⟨hc_1, hm_25⟩, rfl, rfl⟩) dX10_solutions_28
  · refine z_if_ne (tgt := 10) E (by omega) dX10_solutions_4 (by decide) (fun h => absurd h (by decide)) (fun _ => ?_)
    refine z_ldc E k_X10_70 dX10_solutions_7 ?_
    exact fin _ _ _ _ rfl (⟨_, _, _, _, Or.inl ⟨hc_1, rfl⟩, rfl, rfl⟩) dX10_solutions_9
abbrev rm_X10_leastSolution : Room := { frames := 4, cells := 0, slots := 0, locals := 92 }
set_option maxRecDepth 100000 in
theorem c_X10_leastSolution (l : Launch) (D : va_G) (κ : Nat → ClassId) (x0 : Nat) (st : Nat) (hh : Nat) (ex : Nat) (nb : Nat) (sq : Nat) (tx : Nat) (fr : Nat) (su : Nat) (bk : Nat) (p : Int) (d : Int) (q : Int) (qs : Nat) (qh : Nat) (s1 : Int) (s2 : Int) (s3 : Int) (s4 : Int) (s5 : Int) (s6 : Int) (s7 : Int) (s8 : Int) (s9 : Int) (s10 : Int) (s11 : Int) (s12 : Int) (pt : Int) (hr0 : -2147483648 ≤ pt ∧ pt ≤ 2147483647) (hv : vS 0 d 1) : ZL l yX10_leastSolution cX10_leastSolution 2 rm_X10_leastSolution D κ [.ref x0, .int (zi pt)] [(x0, .inr (10, [.ref st, .ref hh, .ref ex, .ref nb, .ref sq, .ref tx, .ref fr])), (st, .inr (6, [.ref su, .ref bk])), (su, .inr (8, [.int (zi p), .int (zi d), .int (zi q)])), (sq, .inr (5, [.ref qs, .ref qh, .int (zi s1), .long (zl s2), .long (zl s3)])), (qs, .inr (7, [.long (zl s4), .long (zl s5), .long (zl s6), .long (zl s7)])), (qh, .inr (1, [.long (zl s8), .long (zl s9), .int (zi s10), .long (zl s11), .long (zl s12)]))] (fun z w => ∃ r : Int, ∃ s2' : Int, ∃ s3' : Int, ∃ s4' : Int, ∃ s5' : Int, ∃ s6' : Int, ∃ s7' : Int, ∃ s8' : Int, ∃ s9' : Int, ∃ s10' : Int, ∃ s11' : Int, ∃ s12' : Int, (lsC d pt r) ∧ r = z ∧ [(x0, .inr (10, [.ref st, .ref hh, .ref ex, .ref nb, .ref sq, .ref tx, .ref fr])), (st, .inr (6, [.ref su, .ref bk])), (su, .inr (8, [.int (zi p), .int (zi d), .int (zi q)])), (sq, .inr (5, [.ref qs, .ref qh, .int (zi s1), .long (zl s2'), .long (zl s3')])), (qs, .inr (7, [.long (zl s4'), .long (zl s5'), .long (zl s6'), .long (zl s7')])), (qh, .inr (1, [.long (zl s8'), .long (zl s9'), .int (zi s10'), .long (zl s11'), .long (zl s12')]))] = w) := by
  refine ZL.enter (own := RX10) rfl pn_X10_leastSolution (Nat.le_of_ble_eq_true rfl) (fun X E fin => ?_)
  show Zg X [(x0, .inr (10, [.ref st, .ref hh, .ref ex, .ref nb, .ref sq, .ref tx, .ref fr])), (st, .inr (6, [.ref su, .ref bk])), (su, .inr (8, [.int (zi p), .int (zi d), .int (zi q)])), (sq, .inr (5, [.ref qs, .ref qh, .int (zi s1), .long (zl s2), .long (zl s3)])), (qs, .inr (7, [.long (zl s4), .long (zl s5), .long (zl s6), .long (zl s7)])), (qh, .inr (1, [.long (zl s8), .long (zl s9), .int (zi s10), .long (zl s11), .long (zl s12)]))] 0 0 0 [(0, .ref x0), (1, .int (zi pt))] []
  refine z_iload_n E 1 rfl rfl dX10_leastSolution_0 ?_
  refine z_iconst E dX10_leastSolution_1 ?_
  refine z_iconst E dX10_leastSolution_2 ?_
  refine z_callSi (As := [.int (zi pt), .int (zi 0), .int (zi 1)]) (rest := []) (wr := [(x0, .inr (10, [.ref st, .ref hh, .ref ex, .ref nb, .ref sq, .ref tx, .ref fr])), (st, .inr (6, [.ref su, .ref bk])), (su, .inr (8, [.int (zi p), .int (zi d), .int (zi q)])), (sq, .inr (5, [.ref qs, .ref qh, .int (zi s1), .long (zl s2), .long (zl s3)])), (qs, .inr (7, [.long (zl s4), .long (zl s5), .long (zl s6), .long (zl s7)])), (qh, .inr (1, [.long (zl s8), .long (zl s9), .int (zi s10), .long (zl s11), .long (zl s12)]))]) E (c_X10_isWithin l D κ pt 0 1 (by omega) (by omega) (by omega)) m_X10_66 ⟨Nat.le_of_ble_eq_true rfl, Nat.le_of_ble_eq_true rfl⟩ ⟨rfl, rfl⟩ [] [0, 1, 2, 3, 4, 5] rfl rfl rfl rfl (by decide) rfl rfl (Nat.le_of_ble_eq_true rfl) dX10_leastSolution_3 ⟨Nat.le_of_ble_eq_true rfl, Nat.le_of_ble_eq_true rfl⟩ (fun z3 w1 hq => ?_)
  obtain ⟨⟨rfl, hc_3⟩ | ⟨rfl, hc_3⟩, rfl⟩ := hq
  · refine z_if_ne (tgt := 13) E (by omega) dX10_leastSolution_6 (by decide) (fun _ => ?_) (fun h => absurd h (by decide))
    refine z_aload_n E 0 rfl rfl dX10_leastSolution_13 ?_
    refine z_get E f_X10_40 0 rfl rfl dX10_leastSolution_14 ?_
    refine z_aload_n E 0 rfl rfl dX10_leastSolution_17 ?_
    refine z_get E f_X10_10 0 rfl rfl dX10_leastSolution_18 ?_
    refine z_get E f_X10_58 1 rfl rfl dX10_leastSolution_21 ?_
    refine z_get E f_X10_99 2 rfl rfl dX10_leastSolution_24 ?_
    refine z_callVi (As := [.int (zi d)]) (rest := []) (wr := [(x0, .inr (10, [.ref st, .ref hh, .ref ex, .ref nb, .ref sq, .ref tx, .ref fr])), (st, .inr (6, [.ref su, .ref bk])), (su, .inr (8, [.int (zi p), .int (zi d), .int (zi q)]))]) E (c_X5_findLeast l D κ sq qs qh s1 s2 s3 s4 s5 s6 s7 s8 s9 s10 s11 s12 d (hv)) m_X10_182 ⟨Nat.le_of_ble_eq_true rfl, Nat.le_of_ble_eq_true rfl⟩ ⟨rfl, rfl⟩ [3, 4, 5] [0, 1, 2] rfl rfl rfl rfl (by decide) rfl rfl rfl rfl (Nat.le_of_ble_eq_true rfl) dX10_leastSolution_27 ⟨Nat.le_of_ble_eq_true rfl, Nat.le_of_ble_eq_true rfl⟩ (fun z27 w1 hq => ?_)
    obtain ⟨x'_1, y'_2, t'_3, b'_4, s'_5, r'_6, u'_7, v'_8, o'_9, ua'_10, va'_11, ⟨rfl, hc_27⟩ | ⟨rfl, hc_27⟩, hf_27, rfl⟩ := hq
    · refine z_if_ne (tgt := 37) E (by omega) dX10_leastSolution_30 (by decide) (fun _ => ?_) (fun h => absurd h (by decide))
      obtain ⟨j, hj1, hj2, hj3, hj4, hj5⟩ := hf_27 hc_27
      refine z_iload_n E 1 rfl rfl dX10_leastSolution_37 ?_
      refine z_if_ne (tgt := 51) E (by omega) dX10_leastSolution_38 (by decide) (fun h_38 => ?_) (fun h_38 => ?_)
      · refine z_aload_n E 0 rfl rfl dX10_leastSolution_51 ?_
        refine z_get E f_X10_40 0 rfl rfl dX10_leastSolution_52 ?_
        refine z_get E f_X10_175 3 rfl rfl dX10_leastSolution_55 ?_
        exact fin _ _ _ _ (⟨_, _, _, _, _, _, _, _, _, _, _, _, Or.inr (Or.inr ⟨by omega, j, hj1, hj2, hj3, Or.inr ⟨by omega, hj5⟩⟩), rfl, rfl⟩) dX10_leastSolution_58
      · refine z_aload_n E 0 rfl rfl dX10_leastSolution_41 ?_
        refine z_get E f_X10_40 0 rfl rfl dX10_leastSolution_42 ?_
        refine z_get E f_X10_171 3 rfl rfl dX10_leastSolution_45 ?_
        refine z_goto (tgt := 58) E dX10_leastSolution_48 (by decide) ?_
        exact fin _ _ _ _ (⟨_, _, _, _, _, _, _, _, _, _, _, _, Or.inr (Or.inr ⟨by omega, j, hj1, hj2, hj3, Or.inl ⟨by omega, hj4⟩⟩), rfl, rfl⟩) dX10_leastSolution_58
    · refine z_if_ne (tgt := 37) E (by omega) dX10_leastSolution_30 (by decide) (fun h => absurd h (by decide)) (fun _ => ?_)
      refine z_ldc2 E k_X10_139 dX10_leastSolution_33 ?_
      exact fin _ _ _ _ (⟨_, _, _, _, _, _, _, _, _, _, _, _, Or.inr (Or.inl ⟨by omega, hc_27, rfl⟩), rfl, rfl⟩) dX10_leastSolution_36
  · refine z_if_ne (tgt := 13) E (by omega) dX10_leastSolution_6 (by decide) (fun h => absurd h (by decide)) (fun _ => ?_)
    refine z_ldc2 E k_X10_134 dX10_leastSolution_9 ?_
    exact fin _ _ _ _ (⟨_, _, _, _, _, _, _, _, _, _, _, _, Or.inl ⟨by omega, rfl⟩, rfl, rfl⟩) dX10_leastSolution_12
abbrev rm_X10_count : Room := { frames := 2, cells := 0, slots := 0, locals := 50 }
set_option maxRecDepth 100000 in
theorem c_X10_count (l : Launch) (D : va_G) (κ : Nat → ClassId) (x0 : Nat) (st : Nat) (hh : Nat) (ex : Nat) (nb : Nat) (sq : Nat) (tx : Nat) (fr : Nat) (su : Nat) (bk : Nat) (p : Int) (d : Int) (q : Int) (bu : Nat) (bl : Nat) (n : Int) (u : Int → Int) (lo : Int → Int) (ha : Nat) (hs : Int) (hc : Nat) (ht : Nat) (tn : Int) (tc : Int) (fp : Int) (ft : Int) (wt : Int) (hr0 : -2147483648 ≤ wt ∧ wt ≤ 2147483647) (hn : 0 ≤ n ∧ n ≤ 8) (hB : ∀ i : Int, 0 ≤ i → i < n → okF (u i) (lo i)) (hp : -99 ≤ p ∧ p ≤ 99) (hd : 2 ≤ d ∧ d ≤ 999) (hq : -99 ≤ q ∧ q ≤ 99) : ZI l yX10_count cX10_count 2 .int rm_X10_count D κ [.ref x0, .int (zi wt)] [(x0, .inr (10, [.ref st, .ref hh, .ref ex, .ref nb, .ref sq, .ref tx, .ref fr])), (st, .inr (6, [.ref su, .ref bk])), (su, .inr (8, [.int (zi p), .int (zi d), .int (zi q)])), (bk, .inr (0, [.ref bu, .ref bl, .int (zi n)])), (bu, ai κ 8 u), (bl, ai κ 8 lo), (hh, .inr (3, [.ref ha, .int (zi hs)])), (tx, .inr (9, [.ref hc, .ref ht, .int (zi tn), .int (zi tc), .int (zi fp), .int (zi ft)]))] (fun z w => (ctV n (cntA p d q u lo n.toNat) hs tn wt) = z ∧ [(x0, .inr (10, [.ref st, .ref hh, .ref ex, .ref nb, .ref sq, .ref tx, .ref fr])), (st, .inr (6, [.ref su, .ref bk])), (su, .inr (8, [.int (zi p), .int (zi d), .int (zi q)])), (bk, .inr (0, [.ref bu, .ref bl, .int (zi n)])), (bu, ai κ 8 u), (bl, ai κ 8 lo), (hh, .inr (3, [.ref ha, .int (zi hs)])), (tx, .inr (9, [.ref hc, .ref ht, .int (zi tn), .int (zi tc), .int (zi fp), .int (zi ft)]))] = w) := by
  refine ZI.enter (own := RX10) rfl pn_X10_count (Nat.le_of_ble_eq_true rfl) (fun X E fin => ?_)
  show Zg X [(x0, .inr (10, [.ref st, .ref hh, .ref ex, .ref nb, .ref sq, .ref tx, .ref fr])), (st, .inr (6, [.ref su, .ref bk])), (su, .inr (8, [.int (zi p), .int (zi d), .int (zi q)])), (bk, .inr (0, [.ref bu, .ref bl, .int (zi n)])), (bu, ai κ 8 u), (bl, ai κ 8 lo), (hh, .inr (3, [.ref ha, .int (zi hs)])), (tx, .inr (9, [.ref hc, .ref ht, .int (zi tn), .int (zi tc), .int (zi fp), .int (zi ft)]))] 0 0 0 [(0, .ref x0), (1, .int (zi wt))] []
  refine z_iload_n E 1 rfl rfl dX10_count_0 ?_
  have h_1 : wt = 0 ∨ wt = 1 ∨ wt = 2 ∨ wt = 3 ∨ (wt < 0 ∨ 3 < wt) := by omega
  rcases h_1 with h_1 | h_1 | h_1 | h_1 | h_1
  · refine z_tswIn (a := wt) (off := 31) (tgt := 32) E (by omega) dX10_count_1 (by omega) (by omega) (by rw [h_1]; rfl) (by decide) ?_
    refine z_aload_n E 0 rfl rfl dX10_count_32 ?_
    refine z_get E f_X10_10 0 rfl rfl dX10_count_33 ?_
    refine z_get E f_X10_86 1 rfl rfl dX10_count_36 ?_
    refine z_get E f_X10_209 3 rfl rfl dX10_count_39 ?_
    exact fin _ _ _ _ rfl (⟨by unfold ctV; rw [if_pos (by omega)], rfl⟩) dX10_count_42
  · refine z_tswIn (a := wt) (off := 42) (tgt := 43) E (by omega) dX10_count_1 (by omega) (by omega) (by rw [h_1]; rfl) (by decide) ?_
    refine z_aload_n E 0 rfl rfl dX10_count_43 ?_
    refine z_get E f_X10_10 0 rfl rfl dX10_count_44 ?_
    refine z_get E f_X10_86 1 rfl rfl dX10_count_47 ?_
    refine z_aload_n E 0 rfl rfl dX10_count_50 ?_
    refine z_get E f_X10_10 0 rfl rfl dX10_count_51 ?_
    refine z_get E f_X10_58 1 rfl rfl dX10_count_54 ?_
    refine z_callVi (As := [.ref su]) (rest := []) (wr := [(x0, .inr (10, [.ref st, .ref hh, .ref ex, .ref nb, .ref sq, .ref tx, .ref fr])), (st, .inr (6, [.ref su, .ref bk])), (hh, .inr (3, [.ref ha, .int (zi hs)])), (tx, .inr (9, [.ref hc, .ref ht, .int (zi tn), .int (zi tc), .int (zi fp), .int (zi ft)]))]) E (c_X0_countAbove l D κ bk bu bl n u lo su p d q (by omega) (hB) (by omega) (by omega) (by omega)) m_X10_231 ⟨Nat.le_of_ble_eq_true rfl, Nat.le_of_ble_eq_true rfl⟩ ⟨rfl, rfl⟩ [3, 4, 5, 2] [0, 1, 6, 7] rfl rfl rfl rfl (by decide) rfl rfl rfl rfl (Nat.le_of_ble_eq_true rfl) dX10_count_57 ⟨Nat.le_of_ble_eq_true rfl, Nat.le_of_ble_eq_true rfl⟩ (fun z57 w1 hq => ?_)
    obtain ⟨rfl, rfl⟩ := hq
    refine Zg.perm (ws' := [(x0, .inr (10, [.ref st, .ref hh, .ref ex, .ref nb, .ref sq, .ref tx, .ref fr])), (st, .inr (6, [.ref su, .ref bk])), (su, .inr (8, [.int (zi p), .int (zi d), .int (zi q)])), (bk, .inr (0, [.ref bu, .ref bl, .int (zi n)])), (bu, ai κ 8 u), (bl, ai κ 8 lo), (hh, .inr (3, [.ref ha, .int (zi hs)])), (tx, .inr (9, [.ref hc, .ref ht, .int (zi tn), .int (zi tc), .int (zi fp), .int (zi ft)]))]) [0, 1, 7, 4, 5, 6, 2, 3] rfl rfl ?_
    exact fin _ _ _ _ rfl (⟨by unfold ctV; rw [if_neg (by omega), if_pos (by omega)], rfl⟩) dX10_count_60
  · refine z_tswIn (a := wt) (off := 60) (tgt := 61) E (by omega) dX10_count_1 (by omega) (by omega) (by rw [h_1]; rfl) (by decide) ?_
    refine z_aload_n E 0 rfl rfl dX10_count_61 ?_
    refine z_get E f_X10_19 0 rfl rfl dX10_count_62 ?_
    refine z_get E f_X10_235 6 rfl rfl dX10_count_65 ?_
    exact fin _ _ _ _ rfl (⟨by unfold ctV; rw [if_neg (by omega), if_neg (by omega), if_pos (by omega)], rfl⟩) dX10_count_68
  · refine z_tswIn (a := wt) (off := 68) (tgt := 69) E (by omega) dX10_count_1 (by omega) (by omega) (by rw [h_1]; rfl) (by decide) ?_
    refine z_aload_n E 0 rfl rfl dX10_count_69 ?_
    refine z_get E f_X10_47 0 rfl rfl dX10_count_70 ?_
    refine z_get E f_X10_236 7 rfl rfl dX10_count_73 ?_
    exact fin _ _ _ _ rfl (⟨by unfold ctV; rw [if_neg (by omega), if_neg (by omega), if_neg (by omega), if_pos (by omega)], rfl⟩) dX10_count_76
  · refine z_tswOut (a := wt) (tgt := 77) E (by omega) dX10_count_1 (by omega) (by decide) ?_
    refine z_ldc E k_X10_70 dX10_count_77 ?_
    exact fin _ _ _ _ rfl (⟨by unfold ctV; rw [if_neg (by omega), if_neg (by omega), if_neg (by omega), if_neg (by omega)], rfl⟩) dX10_count_79
abbrev rm_X10_type : Room := { frames := 1, cells := 0, slots := 0, locals := 22 }
set_option maxRecDepth 100000 in
theorem c_X10_type (l : Launch) (D : va_G) (κ : Nat → ClassId) (x0 : Nat) (st : Nat) (hh : Nat) (ex : Nat) (nb : Nat) (sq : Nat) (tx : Nat) (fr : Nat) (hc : Nat) (ht : Nat) (tn : Int) (tc : Int) (fp : Int) (ft : Int) (c : Int → Int) (ch : Int) (hr0 : -2147483648 ≤ ch ∧ ch ≤ 2147483647) (htn : 0 ≤ tn ∧ tn ≤ 40) : ZI l yX10_type cX10_type 2 .int rm_X10_type D κ [.ref x0, .int (zi ch)] [(x0, .inr (10, [.ref st, .ref hh, .ref ex, .ref nb, .ref sq, .ref tx, .ref fr])), (tx, .inr (9, [.ref hc, .ref ht, .int (zi tn), .int (zi tc), .int (zi fp), .int (zi ft)])), (hc, ac κ 40 c)] (fun z w => ∃ r : Int, ∃ tn' : Int, ∃ c' : Int → Int, (tyC c tn ch r c' tn') ∧ r = z ∧ [(x0, .inr (10, [.ref st, .ref hh, .ref ex, .ref nb, .ref sq, .ref tx, .ref fr])), (tx, .inr (9, [.ref hc, .ref ht, .int (zi tn'), .int (zi tc), .int (zi fp), .int (zi ft)])), (hc, ac κ 40 c')] = w) := by
  refine ZI.enter (own := RX10) rfl pn_X10_type (Nat.le_of_ble_eq_true rfl) (fun X E fin => ?_)
  show Zg X [(x0, .inr (10, [.ref st, .ref hh, .ref ex, .ref nb, .ref sq, .ref tx, .ref fr])), (tx, .inr (9, [.ref hc, .ref ht, .int (zi tn), .int (zi tc), .int (zi fp), .int (zi ft)])), (hc, ac κ 40 c)] 0 0 0 [(0, .ref x0), (1, .int (zi ch))] []
  refine z_iload_n E 1 rfl rfl dX10_type_0 ?_
  refine z_bipush E dX10_type_1 (by decide) ?_
  refine z_bipush E dX10_type_3 (by decide) ?_
  refine z_callSi (As := [.int (zi ch), .int (zi 32), .int (zi 126)]) (rest := []) (wr := [(x0, .inr (10, [.ref st, .ref hh, .ref ex, .ref nb, .ref sq, .ref tx, .ref fr])), (tx, .inr (9, [.ref hc, .ref ht, .int (zi tn), .int (zi tc), .int (zi fp), .int (zi ft)])), (hc, ac κ 40 c)]) E (c_X10_isWithin l D κ ch 32 126 (by omega) (by omega) (by omega)) m_X10_66 ⟨Nat.le_of_ble_eq_true rfl, Nat.le_of_ble_eq_true rfl⟩ ⟨rfl, rfl⟩ [] [0, 1, 2] rfl rfl rfl rfl (by decide) rfl rfl (Nat.le_of_ble_eq_true rfl) dX10_type_5 ⟨Nat.le_of_ble_eq_true rfl, Nat.le_of_ble_eq_true rfl⟩ (fun z5 w1 hq => ?_)
  obtain ⟨⟨rfl, hc_5⟩ | ⟨rfl, hc_5⟩, rfl⟩ := hq
  · refine z_if_ne (tgt := 14) E (by omega) dX10_type_8 (by decide) (fun _ => ?_) (fun h => absurd h (by decide))
    refine z_aload_n E 0 rfl rfl dX10_type_14 ?_
    refine z_get E f_X10_47 0 rfl rfl dX10_type_15 ?_
    refine z_get E f_X10_236 1 rfl rfl dX10_type_18 ?_
    refine z_bipush E dX10_type_21 (by decide) ?_
    refine z_ic_lt (tgt := 29) E (by omega) (by omega) dX10_type_23 (by decide) (fun h_23 => ?_) (fun h_23 => ?_)
    · refine z_aload_n E 0 rfl rfl dX10_type_29 ?_
      refine z_get E f_X10_47 0 rfl rfl dX10_type_30 ?_
      refine z_iload_n E 1 rfl rfl dX10_type_33 ?_
      refine z_i2c E (by omega) dX10_type_34 ?_
      refine z_callVv (As := [.int (zi ch)]) (rest := []) (wr := [(x0, .inr (10, [.ref st, .ref hh, .ref ex, .ref nb, .ref sq, .ref tx, .ref fr]))]) E (c_X9_append l D κ tx hc ht tn tc fp ft c ch (by omega) (by omega)) m_X10_242 ⟨Nat.le_of_ble_eq_true rfl, Nat.le_of_ble_eq_true rfl⟩ ⟨rfl, rfl⟩ [1, 2] [0] rfl rfl rfl rfl (by decide) rfl rfl rfl rfl (Nat.le_of_ble_eq_true rfl) dX10_type_35 ⟨Nat.le_of_ble_eq_true rfl, Nat.le_of_ble_eq_true rfl⟩ (fun  w1 hq => ?_)
      obtain rfl := hq
      refine z_aload_n E 0 rfl rfl dX10_type_38 ?_
      refine z_get E f_X10_47 0 rfl rfl dX10_type_39 ?_
      refine z_get E f_X10_236 1 rfl rfl dX10_type_42 ?_
      exact fin _ _ _ _ rfl (⟨_, _, _, Or.inr (Or.inr ⟨by omega, by omega, rfl, rfl, rfl⟩), rfl, rfl⟩) dX10_type_45
    · refine z_ldc E k_X10_113 dX10_type_26 ?_
      exact fin _ _ _ _ rfl (⟨_, _, _, Or.inr (Or.inl ⟨by omega, by omega, rfl, rfl, rfl⟩), rfl, rfl⟩) dX10_type_28
  · refine z_if_ne (tgt := 14) E (by omega) dX10_type_8 (by decide) (fun h => absurd h (by decide)) (fun _ => ?_)
    refine z_ldc E k_X10_70 dX10_type_11 ?_
    exact fin _ _ _ _ rfl (⟨_, _, _, Or.inl ⟨by omega, rfl, rfl, rfl⟩, rfl, rfl⟩) dX10_type_13
abbrev rm_X10_clearText : Room := { frames := 0, cells := 0, slots := 0, locals := 0 }
set_option maxRecDepth 100000 in
theorem c_X10_clearText (l : Launch) (D : va_G) (κ : Nat → ClassId) (x0 : Nat) (st : Nat) (hh : Nat) (ex : Nat) (nb : Nat) (sq : Nat) (tx : Nat) (fr : Nat) (hc : Nat) (ht : Nat) (tn : Int) (tc : Int) (fp : Int) (ft : Int)  : ZI l yX10_clearText cX10_clearText 2 .int rm_X10_clearText D κ [.ref x0] [(x0, .inr (10, [.ref st, .ref hh, .ref ex, .ref nb, .ref sq, .ref tx, .ref fr])), (tx, .inr (9, [.ref hc, .ref ht, .int (zi tn), .int (zi tc), .int (zi fp), .int (zi ft)]))] (fun z w => tn = z ∧ [(x0, .inr (10, [.ref st, .ref hh, .ref ex, .ref nb, .ref sq, .ref tx, .ref fr])), (tx, .inr (9, [.ref hc, .ref ht, .int (zi 0), .int (zi tc), .int (zi fp), .int (zi ft)]))] = w) := by
  refine ZI.enter (own := RX10) rfl pn_X10_clearText (Nat.le_of_ble_eq_true rfl) (fun X E fin => ?_)
  show Zg X [(x0, .inr (10, [.ref st, .ref hh, .ref ex, .ref nb, .ref sq, .ref tx, .ref fr])), (tx, .inr (9, [.ref hc, .ref ht, .int (zi tn), .int (zi tc), .int (zi fp), .int (zi ft)]))] 0 0 0 [(0, .ref x0)] []
  refine z_aload_n E 0 rfl rfl dX10_clearText_0 ?_
  refine z_get E f_X10_47 0 rfl rfl dX10_clearText_1 ?_
  refine z_get E f_X10_236 1 rfl rfl dX10_clearText_4 ?_
  refine z_istore_n (lv' := [(1, .int (zi tn)), (0, .ref x0)]) E dX10_clearText_7 rfl (Nat.le_of_ble_eq_true rfl) rfl ?_
  refine z_aload_n E 1 rfl rfl dX10_clearText_8 ?_
  refine z_get E f_X10_47 0 rfl rfl dX10_clearText_9 ?_
  refine z_iconst E dX10_clearText_12 ?_
  refine z_put (ws' := [(x0, .inr (10, [.ref st, .ref hh, .ref ex, .ref nb, .ref sq, .ref tx, .ref fr])), (tx, .inr (9, [.ref hc, .ref ht, .int (zi 0), .int (zi tc), .int (zi fp), .int (zi ft)]))]) E f_X10_236 t_X9_2 1 rfl rfl rfl (Nat.le_of_ble_eq_true rfl) rfl dX10_clearText_13 ?_
  refine z_iload_n E 0 rfl rfl dX10_clearText_16 ?_
  exact fin _ _ _ _ rfl (by first | exact ⟨rfl, rfl⟩ | omega) dX10_clearText_17
abbrev rm_X10_fault : Room := { frames := 4, cells := 0, slots := 0, locals := 91 }
set_option maxRecDepth 100000 in
theorem c_X10_fault (l : Launch) (D : va_G) (κ : Nat → ClassId) (x0 : Nat) (st : Nat) (hh : Nat) (ex : Nat) (nb : Nat) (sq : Nat) (tx : Nat) (fr : Nat) (hc : Nat) (ht : Nat) (tn : Int) (tc : Int) (fp : Int) (ft : Int) (c : Int → Int) (tf : Int → Int) (wt : Int) (hr0 : -2147483648 ≤ wt ∧ wt ≤ 2147483647) (hn : 0 ≤ tn ∧ tn ≤ 40) (hC : ∀ i : Int, 0 ≤ i → i < tn → 32 ≤ c i ∧ c i ≤ 126) : ZI l yX10_fault cX10_fault 2 .int rm_X10_fault D κ [.ref x0, .int (zi wt)] [(x0, .inr (10, [.ref st, .ref hh, .ref ex, .ref nb, .ref sq, .ref tx, .ref fr])), (tx, .inr (9, [.ref hc, .ref ht, .int (zi tn), .int (zi tc), .int (zi fp), .int (zi ft)])), (hc, ac κ 40 c), (ht, ai κ 40 tf)] (fun z w => ∃ r : Int, ∃ tc' : Int, ∃ fp' : Int, ∃ ft' : Int, ∃ tf' : Int → Int, (ftC c tn wt r) ∧ r = z ∧ [(x0, .inr (10, [.ref st, .ref hh, .ref ex, .ref nb, .ref sq, .ref tx, .ref fr])), (tx, .inr (9, [.ref hc, .ref ht, .int (zi tn), .int (zi tc'), .int (zi fp'), .int (zi ft')])), (hc, ac κ 40 c), (ht, ai κ 40 tf')] = w) := by
  refine ZI.enter (own := RX10) rfl pn_X10_fault (Nat.le_of_ble_eq_true rfl) (fun X E fin => ?_)
  show Zg X [(x0, .inr (10, [.ref st, .ref hh, .ref ex, .ref nb, .ref sq, .ref tx, .ref fr])), (tx, .inr (9, [.ref hc, .ref ht, .int (zi tn), .int (zi tc), .int (zi fp), .int (zi ft)])), (hc, ac κ 40 c), (ht, ai κ 40 tf)] 0 0 0 [(0, .ref x0), (1, .int (zi wt))] []
  refine z_iload_n E 1 rfl rfl dX10_fault_0 ?_
  refine z_iconst E dX10_fault_1 ?_
  refine z_iconst E dX10_fault_2 ?_
  refine z_callSi (As := [.int (zi wt), .int (zi 0), .int (zi 1)]) (rest := []) (wr := [(x0, .inr (10, [.ref st, .ref hh, .ref ex, .ref nb, .ref sq, .ref tx, .ref fr])), (tx, .inr (9, [.ref hc, .ref ht, .int (zi tn), .int (zi tc), .int (zi fp), .int (zi ft)])), (hc, ac κ 40 c), (ht, ai κ 40 tf)]) E (c_X10_isWithin l D κ wt 0 1 (by omega) (by omega) (by omega)) m_X10_66 ⟨Nat.le_of_ble_eq_true rfl, Nat.le_of_ble_eq_true rfl⟩ ⟨rfl, rfl⟩ [] [0, 1, 2, 3] rfl rfl rfl rfl (by decide) rfl rfl (Nat.le_of_ble_eq_true rfl) dX10_fault_3 ⟨Nat.le_of_ble_eq_true rfl, Nat.le_of_ble_eq_true rfl⟩ (fun z3 w1 hq => ?_)
  obtain ⟨⟨rfl, hc_3⟩ | ⟨rfl, hc_3⟩, rfl⟩ := hq
  · refine z_if_ne (tgt := 12) E (by omega) dX10_fault_6 (by decide) (fun _ => ?_) (fun h => absurd h (by decide))
    refine z_aload_n E 0 rfl rfl dX10_fault_12 ?_
    refine z_get E f_X10_47 0 rfl rfl dX10_fault_13 ?_
    refine z_callVv (As := []) (rest := []) (wr := [(x0, .inr (10, [.ref st, .ref hh, .ref ex, .ref nb, .ref sq, .ref tx, .ref fr]))]) E (c_X9_read l D κ tx hc ht tn tc fp ft c tf (by omega) (hC)) m_X10_185 ⟨Nat.le_of_ble_eq_true rfl, Nat.le_of_ble_eq_true rfl⟩ ⟨rfl, rfl⟩ [1, 2, 3] [0] rfl rfl rfl rfl (by decide) rfl rfl rfl rfl (Nat.le_of_ble_eq_true rfl) dX10_fault_16 ⟨Nat.le_of_ble_eq_true rfl, Nat.le_of_ble_eq_true rfl⟩ (fun  w1 hq => ?_)
    obtain ⟨f'_1, tc'_2, fp'_3, fr'_4, hr_16, rfl⟩ := hq
    have hfr := rdE_fr hr_16
    refine z_aload_n E 0 rfl rfl dX10_fault_19 ?_
    refine z_get E f_X10_47 0 rfl rfl dX10_fault_20 ?_
    refine z_callVi (As := []) (rest := []) (wr := [(x0, .inr (10, [.ref st, .ref hh, .ref ex, .ref nb, .ref sq, .ref tx, .ref fr])), (hc, ac κ 40 c), (ht, ai κ 40 f'_1)]) E (c_X9_hasFault l D κ tx hc ht tn tc'_2 fp'_3 fr'_4 (by omega)) m_X10_188 ⟨Nat.le_of_ble_eq_true rfl, Nat.le_of_ble_eq_true rfl⟩ ⟨rfl, rfl⟩ [1] [0, 2, 3] rfl rfl rfl rfl (by decide) rfl rfl rfl rfl (Nat.le_of_ble_eq_true rfl) dX10_fault_23 ⟨Nat.le_of_ble_eq_true rfl, Nat.le_of_ble_eq_true rfl⟩ (fun z23 w1 hq => ?_)
    obtain ⟨⟨rfl, hc_23⟩ | ⟨rfl, hc_23⟩, rfl⟩ := hq
    · refine z_if_ne (tgt := 32) E (by omega) dX10_fault_26 (by decide) (fun _ => ?_) (fun h => absurd h (by decide))
      refine z_iload_n E 1 rfl rfl dX10_fault_32 ?_
      refine z_if_ne (tgt := 46) E (by omega) dX10_fault_33 (by decide) (fun h_33 => ?_) (fun h_33 => ?_)
      · refine z_aload_n E 0 rfl rfl dX10_fault_46 ?_
        refine z_get E f_X10_47 0 rfl rfl dX10_fault_47 ?_
        refine z_get E f_X10_249 3 rfl rfl dX10_fault_50 ?_
        refine Zg.perm (ws' := [(x0, .inr (10, [.ref st, .ref hh, .ref ex, .ref nb, .ref sq, .ref tx, .ref fr])), (tx, .inr (9, [.ref hc, .ref ht, .int (zi tn), .int (zi tc'_2), .int (zi fp'_3), .int (zi fr'_4)])), (hc, ac κ 40 c), (ht, ai κ 40 f'_1)]) [0, 3, 1, 2] rfl rfl ?_
        exact fin _ _ _ _ rfl (⟨_, _, _, _, _, Or.inr (Or.inr ⟨by omega, _, _, rdE_bad hr_16 hc_23, Or.inr ⟨by omega, rfl⟩⟩), rfl, rfl⟩) dX10_fault_53
      · refine z_aload_n E 0 rfl rfl dX10_fault_36 ?_
        refine z_get E f_X10_47 0 rfl rfl dX10_fault_37 ?_
        refine z_get E f_X10_246 3 rfl rfl dX10_fault_40 ?_
        refine z_goto (tgt := 53) E dX10_fault_43 (by decide) ?_
        refine Zg.perm (ws' := [(x0, .inr (10, [.ref st, .ref hh, .ref ex, .ref nb, .ref sq, .ref tx, .ref fr])), (tx, .inr (9, [.ref hc, .ref ht, .int (zi tn), .int (zi tc'_2), .int (zi fp'_3), .int (zi fr'_4)])), (hc, ac κ 40 c), (ht, ai κ 40 f'_1)]) [0, 3, 1, 2] rfl rfl ?_
        exact fin _ _ _ _ rfl (⟨_, _, _, _, _, Or.inr (Or.inr ⟨by omega, _, _, rdE_bad hr_16 hc_23, Or.inl ⟨by omega, rfl⟩⟩), rfl, rfl⟩) dX10_fault_53
    · refine z_if_ne (tgt := 32) E (by omega) dX10_fault_26 (by decide) (fun h => absurd h (by decide)) (fun _ => ?_)
      refine z_ldc E k_X10_170 dX10_fault_29 ?_
      refine Zg.perm (ws' := [(x0, .inr (10, [.ref st, .ref hh, .ref ex, .ref nb, .ref sq, .ref tx, .ref fr])), (tx, .inr (9, [.ref hc, .ref ht, .int (zi tn), .int (zi tc'_2), .int (zi fp'_3), .int (zi fr'_4)])), (hc, ac κ 40 c), (ht, ai κ 40 f'_1)]) [0, 3, 1, 2] rfl rfl ?_
      exact fin _ _ _ _ rfl (⟨_, _, _, _, _, Or.inr (Or.inl ⟨by omega, (by obtain ⟨k, hk, -⟩ := rdE_fine hr_16 (by omega); exact ⟨k, hk⟩), rfl⟩), rfl, rfl⟩) dX10_fault_31
  · refine z_if_ne (tgt := 12) E (by omega) dX10_fault_6 (by decide) (fun h => absurd h (by decide)) (fun _ => ?_)
    refine z_ldc E k_X10_70 dX10_fault_9 ?_
    exact fin _ _ _ _ rfl (⟨_, _, _, _, _, Or.inl ⟨by omega, rfl⟩, rfl, rfl⟩) dX10_fault_11
