/-! ===== LAW 7: the law's loop ===== -/
set_option maxRecDepth 100000 in
theorem L_loop {X : zX} {l : Launch} {D : va_G} {κ : Nat → ClassId} {b L k n : Nat} {xs : Nat → Int32} (E : ZE X RL cL_law 4 room_1 l D κ) (Sx : ZS X b L xs) (hL : L ≤ 2048) (hk : k ≤ room_1.cells ∧ n ≤ room_1.slots) {x0 m0 : Nat} (fin : ∀ (ws : va_W) (lv : List (Nat × Value)), Zg X ws k n 722 lv []) : ∀ (f : Nat) (i : Int) (wx wm : va_W), (0 ≤ i ∧ i ≤ (L : Int)) → (L : Int) - i < (f : Int) → LI κ x0 m0 wx wm → Zg X (wx ++ wm) k n 18 [(3, .int (zi i)), (2, .ref m0), (1, .ref x0), (0, .ref b)] [] := by
  intro f
  induction f with
  | zero => intro i wx wm hi hm; exact absurd hm (by omega)
  | succ f ih =>
    intro i wx wm hi hm I
    refine z_iload_n E 0 rfl rfl dL_law_18 ?_
    refine z_aload_n E 3 rfl rfl dL_law_19 ?_
    refine z_slen E Sx dL_law_20 ?_
    refine z_iconst E dL_law_21 ?_
    refine z_isub E dL_law_22 ?_
    refine z_ic_gt (tgt := 722) E (by omega) (by omega) dL_law_23 (by decide) (fun _ => fin _ _) (fun h => ?_)
    refine z_aload_n E 3 rfl rfl dL_law_26 ?_
    refine z_iload_n E 0 rfl rfl dL_law_27 ?_
    refine z_sld E Sx (by omega) (by omega) (by omega) dL_law_28 ?_
    refine z_bipush E dL_law_29 (by decide) ?_
    refine z_iand E dL_law_31 ?_
    obtain ⟨a, ha, hae⟩ := zi_and31 (scv xs i)
    rw [hae]
    have hi4 : 0 ≤ i ∧ i + 4 ≤ (L : Int) := by omega
    have kk : ∀ wx1 wm1 : va_W, LI κ x0 m0 wx1 wm1 → Zg X (wx1 ++ wm1) k n 716 [(3, .int (zi i)), (2, .ref m0), (1, .ref x0), (0, .ref b)] [] := fun wx1 wm1 I1 => by
      refine z_iinc (lv' := [(3, .int (zi (i + 4))), (2, .ref m0), (1, .ref x0), (0, .ref b)]) E 0 rfl dL_law_716 (Nat.le_of_ble_eq_true rfl) rfl ?_
      refine z_goto (tgt := 18) E dL_law_719 (by decide) ?_
      exact ih (i + 4) wx1 wm1 (by omega) (by omega) I1
    rcases (show a = 0 ∨ a = 1 ∨ a = 2 ∨ a = 3 ∨ a = 4 ∨ a = 5 ∨ a = 6 ∨ a = 7 ∨ a = 8 ∨ a = 9 ∨ a = 10 ∨ a = 11 ∨ a = 12 ∨ a = 13 ∨ a = 14 ∨ a = 15 ∨ a = 16 ∨ a = 17 ∨ a = 18 ∨ a = 19 ∨ a = 20 ∨ a = 21 ∨ 22 ≤ a by omega) with ea | ea | ea | ea | ea | ea | ea | ea | ea | ea | ea | ea | ea | ea | ea | ea | ea | ea | ea | ea | ea | ea | h22
    · exact z_tswIn (off := 104) (tgt := 136) E (by omega) dL_law_32 (by omega) (by omega) (by rw [ea]; rfl) (by decide) (L_surd E Sx hL hk hi4 I kk)
    · exact z_tswIn (off := 147) (tgt := 179) E (by omega) dL_law_32 (by omega) (by omega) (by rw [ea]; rfl) (by decide) (L_partOf E Sx hL hk hi4 I kk)
    · exact z_tswIn (off := 170) (tgt := 202) E (by omega) dL_law_32 (by omega) (by omega) (by rw [ea]; rfl) (by decide) (L_term E Sx hL hk hi4 I kk)
    · exact z_tswIn (off := 193) (tgt := 225) E (by omega) dL_law_32 (by omega) (by omega) (by rw [ea]; rfl) (by decide) (L_again E Sx hL hk hi4 I kk)
    · exact z_tswIn (off := 216) (tgt := 248) E (by omega) dL_law_32 (by omega) (by omega) (by rw [ea]; rfl) (by decide) (L_convergent E Sx hL hk hi4 I kk)
    · exact z_tswIn (off := 250) (tgt := 282) E (by omega) dL_law_32 (by omega) (by omega) (by rw [ea]; rfl) (by decide) (L_between E Sx hL hk hi4 I kk)
    · exact z_tswIn (off := 294) (tgt := 326) E (by omega) dL_law_32 (by omega) (by omega) (by rw [ea]; rfl) (by decide) (L_nearest E Sx hL hk hi4 I kk)
    · exact z_tswIn (off := 327) (tgt := 359) E (by omega) dL_law_32 (by omega) (by omega) (by rw [ea]; rfl) (by decide) (L_beside E Sx hL hk hi4 I kk)
    · exact z_tswIn (off := 370) (tgt := 402) E (by omega) dL_law_32 (by omega) (by omega) (by rw [ea]; rfl) (by decide) (L_records E Sx hL hk hi4 I kk)
    · exact z_tswIn (off := 393) (tgt := 425) E (by omega) dL_law_32 (by omega) (by omega) (by rw [ea]; rfl) (by decide) (L_solution E Sx hL hk hi4 I kk)
    · exact z_tswIn (off := 436) (tgt := 468) E (by omega) dL_law_32 (by omega) (by omega) (by rw [ea]; rfl) (by decide) (L_solutions E Sx hL hk hi4 I kk)
    · exact z_tswIn (off := 459) (tgt := 491) E (by omega) dL_law_32 (by omega) (by omega) (by rw [ea]; rfl) (by decide) (L_leastSolution E Sx hL hk hi4 I kk)
    · exact z_tswIn (off := 483) (tgt := 515) E (by omega) dL_law_32 (by omega) (by omega) (by rw [ea]; rfl) (by decide) (L_note E Sx hL hk hi4 I kk)
    · exact z_tswIn (off := 496) (tgt := 528) E (by omega) dL_law_32 (by omega) (by omega) (by rw [ea]; rfl) (by decide) (L_strike E Sx hL hk hi4 I kk)
    · exact z_tswIn (off := 519) (tgt := 551) E (by omega) dL_law_32 (by omega) (by omega) (by rw [ea]; rfl) (by decide) (L_strikeAll E Sx hL hk hi4 I kk)
    · exact z_tswIn (off := 532) (tgt := 564) E (by omega) dL_law_32 (by omega) (by omega) (by rw [ea]; rfl) (by decide) (L_noteOf E Sx hL hk hi4 I kk)
    · exact z_tswIn (off := 565) (tgt := 597) E (by omega) dL_law_32 (by omega) (by omega) (by rw [ea]; rfl) (by decide) (L_count E Sx hL hk hi4 I kk)
    · exact z_tswIn (off := 588) (tgt := 620) E (by omega) dL_law_32 (by omega) (by omega) (by rw [ea]; rfl) (by decide) (L_undo E Sx hL hk hi4 I kk)
    · exact z_tswIn (off := 601) (tgt := 633) E (by omega) dL_law_32 (by omega) (by omega) (by rw [ea]; rfl) (by decide) (L_type E Sx hL hk hi4 I kk)
    · exact z_tswIn (off := 624) (tgt := 656) E (by omega) dL_law_32 (by omega) (by omega) (by rw [ea]; rfl) (by decide) (L_clearText E Sx hL hk hi4 I kk)
    · exact z_tswIn (off := 637) (tgt := 669) E (by omega) dL_law_32 (by omega) (by omega) (by rw [ea]; rfl) (by decide) (L_fault E Sx hL hk hi4 I kk)
    · exact z_tswIn (off := 660) (tgt := 692) E (by omega) dL_law_32 (by omega) (by omega) (by rw [ea]; rfl) (by decide) (L_told E Sx hL hk hi4 I kk)
    · exact z_tswOut (tgt := 716) E (by omega) dL_law_32 (Or.inr (by omega)) (by decide) (kk _ _ I)
