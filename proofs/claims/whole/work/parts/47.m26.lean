/-! ===== MATH 26: histories on the two sides ===== -/
def blk (PA : Int → Int) (j : Int) : Int → Int := fun i => PA (20 * j + i)
def hsR (h : List zH) (PA : Int → Int) (pn : Int) : Prop := (0 ≤ pn ∧ pn ≤ 4) ∧ (h.length : Int) = pn ∧ ∀ (j : Nat) (e : zH), h[j]? = some e → stR2 e (blk PA j)
theorem hM_blk {S S' : Int → Int} (h : ∀ k : Int, 0 ≤ k → k < 20 → S' k = S k) (h8 : 0 ≤ S 3 ∧ S 3 ≤ 8) : hM S' = hM S := hM_cong (fun k h1 h2 => h k h1 (by omega)) h8.1
theorem stR2_cong {e : zH} {S S' : Int → Int} (hr : stR2 e S) (h : ∀ k : Int, 0 ≤ k → k < 20 → S' k = S k) : stR2 e S' := by
  have h8 := hr.2.2.1.1
  have h0 := h 0 (by omega) (by omega)
  have h1 := h 1 (by omega) (by omega)
  have h2 := h 2 (by omega) (by omega)
  have h3 := h 3 (by omega) (by omega)
  refine ⟨?_, ?_, ⟨by omega, fun i i1 i2 => ?_⟩, ?_⟩
  · rw [h0, h1, h2]; exact hr.1
  · rw [h0, h1, h2]; exact hr.2.1
  · rw [h3] at i2
    rw [h _ (by omega) (by omega), h _ (by omega) (by omega)]; exact hr.2.2.1.2 i i1 i2
  · rw [h0, h1, h2, hM_blk h h8]; exact hr.2.2.2
theorem hsR_0 {PA : Int → Int} : hsR [] PA 0 := ⟨by omega, rfl, fun j e h => by rw [List.getElem?_nil] at h; cases h⟩
theorem hsR_step {h h' : List zH} {e : zH} {S PA PA' : Int → Int} {pn pn' : Int} (hh : hsR h PA pn) (hr : stR2 e S) (hs : hsStep h e S PA pn h' PA' pn') : hsR h' PA' pn' := by
  rcases hs with ⟨h1, h2, h3⟩ | ⟨h1, h2, h3⟩
  · rw [h1, h2, h3]; exact hh
  · obtain ⟨a1, a2, a3⟩ := hh
    rcases h3 with ⟨b1, b2, b3, b4⟩ | ⟨b1, b2, b3, b4⟩
    · have hl : h.length = 4 := by omega
      have e1 : h' = h.tail ++ [e] := by rw [h1]; unfold kpH; rw [if_pos hl]
      have ht : h.tail.length = 3 := by rw [List.length_tail]; omega
      refine ⟨h2, by rw [e1, List.length_append, ht]; show ((3 + 1 : Nat) : Int) = _; omega, fun j x hj => ?_⟩
      rw [e1] at hj
      by_cases q : j < 3
      · rw [List.getElem?_append_left (by omega), List.getElem?_tail] at hj
        refine stR2_cong (a3 (j + 1) x hj) (fun k k1 k2 => ?_)
        show PA' (20 * (j : Int) + k) = PA (20 * ((j + 1 : Nat) : Int) + k)
        rw [b3 _ (by omega) (by omega)]
        congr 1; omega
      · rw [List.getElem?_append_right (by omega), ht] at hj
        have hj3 : j = 3 := by
          refine Decidable.byContradiction (fun z => ?_)
          rw [List.getElem?_eq_none (by show 1 ≤ _; omega)] at hj
          cases hj
        rw [hj3] at hj
        have ex : e = x := Option.some.inj hj
        rw [← ex, hj3]
        exact stR2_cong hr (fun k k1 k2 => b4 k k1 k2)
    · have hl : ¬ h.length = 4 := by omega
      have e1 : h' = h ++ [e] := by rw [h1]; unfold kpH; rw [if_neg hl]
      refine ⟨h2, by rw [e1, List.length_append]; show ((h.length + 1 : Nat) : Int) = _; omega, fun j x hj => ?_⟩
      rw [e1] at hj
      by_cases q : j < h.length
      · rw [List.getElem?_append_left q] at hj
        refine stR2_cong (a3 j x hj) (fun k k1 k2 => ?_)
        show PA' (20 * (j : Int) + k) = PA (20 * (j : Int) + k)
        exact b3 _ (by omega) (by omega)
      · rw [List.getElem?_append_right (by omega)] at hj
        have hj3 : j = h.length := by
          refine Decidable.byContradiction (fun z => ?_)
          rw [List.getElem?_eq_none (by show 1 ≤ _; omega)] at hj
          cases hj
        rw [hj3, Nat.sub_self] at hj
        have ex : e = x := Option.some.inj hj
        rw [← ex, hj3]
        refine stR2_cong hr (fun k k1 k2 => ?_)
        show PA' (20 * (h.length : Int) + k) = S k
        rw [a2]
        exact b4 k k1 k2
theorem un_eq {e e' : zH} {h h' : List zH} {S PA S' : Int → Int} {pn pn' r r' : Int} (hr : stR2 e S) (hh : hsR h PA pn) (hc : unC e h r e' h') (hm : unM S PA pn r' S' pn') : r = r' ∧ stR2 e' S' ∧ hsR h' PA pn' := by
  obtain ⟨a1, a2, a3⟩ := hh
  rcases hc with ⟨h1, h2, h3, h4⟩ | ⟨h1, h2⟩
  · rw [h1] at a2
    have e0 : (([] : List zH).length : Int) = 0 := rfl
    rcases hm with ⟨g1, g2, g3, g4⟩ | ⟨g1, -⟩
    · rw [h3, h4, g3, g4]; exact ⟨by omega, hr, ⟨a1, by rw [h1]; exact a2, a3⟩⟩
    · omega
  · have hl : (h.length : Int) = h'.length + 1 := by rw [h1, List.length_append]; rfl
    rcases hm with ⟨g1, -⟩ | ⟨g1, g2, g3, g4⟩
    · omega
    · refine ⟨by omega, ?_, ⟨by omega, by omega, fun j x hj => a3 j x ?_⟩⟩
      · have hx := a3 h'.length e' (by rw [h1, List.getElem?_append_right (Nat.le_refl _), Nat.sub_self]; rfl)
        refine stR2_cong hx (fun k k1 k2 => ?_)
        show S' k = PA (20 * (h'.length : Int) + k)
        rw [g4 k k1 k2]
        congr 1; omega
      · have hlt := (List.getElem?_eq_some_iff.mp hj).1
        rw [h1, List.getElem?_append_left hlt]; exact hj
