/-! ===== MATH 23: strike, strikeAll on the two sides ===== -/
theorem remP_tk2 {n k : Int} {u v u' v' : Int → Int} (h0 : 0 ≤ k ∧ k < n) (h : ∀ i : Int, 0 ≤ i → (i < k → u' i = u i ∧ v' i = v i) ∧ (k ≤ i → i < n - 1 → u' i = u (i + 1) ∧ v' i = v (i + 1))) : tk (pr u' v') (n - 1).toNat = (tk (pr u v) n.toNat).eraseIdx k.toNat := by
  refine List.ext_getElem? (fun i => ?_)
  rw [List.getElem?_eraseIdx]
  by_cases hi : i < (n - 1).toNat
  · rw [tk_get hi]
    have hh := h i (by omega)
    by_cases hk : i < k.toNat
    · rw [if_pos hk, tk_get (by omega)]
      have := hh.1 (by omega)
      unfold pr; rw [this.1, this.2]
    · rw [if_neg hk, tk_get (by omega)]
      have := hh.2 (by omega) (by omega)
      unfold pr; rw [this.1, this.2]; rfl
  · rw [List.getElem?_eq_none (by rw [tk_len]; omega)]
    by_cases hk : i < k.toNat
    · omega
    · rw [if_neg hk, List.getElem?_eq_none (by rw [tk_len]; omega)]
theorem stR_rows {S S' : Int → Int} {k : Int} (h : stR S k S') (hk : 0 ≤ k ∧ k < S 3) : (hM S').2.2.2 = (hM S).2.2.2.eraseIdx k.toNat ∧ (∀ i : Int, 0 ≤ i → i < S 3 - 1 → (S' (4 + 2 * i), S' (5 + 2 * i)) = (S (4 + 2 * i), S (5 + 2 * i)) ∨ (S' (4 + 2 * i), S' (5 + 2 * i)) = (S (4 + 2 * (i + 1)), S (5 + 2 * (i + 1)))) := by
  obtain ⟨a0, a1, a2, a3, a4, a5⟩ := h
  have hh : ∀ i : Int, 0 ≤ i → (i < k → S' (4 + 2 * i) = S (4 + 2 * i) ∧ S' (5 + 2 * i) = S (5 + 2 * i)) ∧ (k ≤ i → i < S 3 - 1 → S' (4 + 2 * i) = S (4 + 2 * (i + 1)) ∧ S' (5 + 2 * i) = S (5 + 2 * (i + 1))) := by
    intro i i0
    refine ⟨fun i1 => ⟨a4 _ (by omega) (by omega), a4 _ (by omega) (by omega)⟩, fun i1 i2 => ⟨?_, ?_⟩⟩
    · rw [a5 _ (by omega) (by omega)]; congr 1; omega
    · rw [a5 _ (by omega) (by omega)]; congr 1; omega
  refine ⟨?_, fun i i0 i1 => ?_⟩
  · show tk (pr (fun i => S' (4 + 2 * i)) (fun i => S' (5 + 2 * i))) (S' 3).toNat = _
    rw [a3]
    exact remP_tk2 hk hh
  · by_cases q : i < k
    · have := (hh i i0).1 q; exact Or.inl (by rw [this.1, this.2])
    · have := (hh i i0).2 (by omega) i1; exact Or.inr (by rw [this.1, this.2])
/-- what a change leaves in the two histories -/
def hsStep (h : List zH) (e : zH) (S PA : Int → Int) (pn : Int) (h' : List zH) (PA' : Int → Int) (pn' : Int) : Prop := (h' = h ∧ PA' = PA ∧ pn' = pn) ∨ (h' = kpH h e ∧ chgP pn S PA pn' PA')
theorem st_eq {e e' : zH} {h h' : List zH} {S PA S' PA' : Int → Int} {pn pn' k r r' : Int} (hr : stR2 e S) (hc : stC e h k r e' h') (hm : stM S PA pn k r' S' PA' pn') : r = r' ∧ stR2 e' S' ∧ hsStep h e S PA pn h' PA' pn' := by
  have hl := st_len hr
  rcases hc with ⟨h1, h2, h3, h4⟩ | ⟨h1, h2, h3, h4, h5⟩ | ⟨h1, h2, h3, h4, h5⟩
  · rcases hm with ⟨g1, g2, g3, g4, g5⟩ | ⟨g1, -⟩ | ⟨g1, -⟩
    · rw [h3, g3]; exact ⟨by omega, hr, Or.inl ⟨h4, g4, g5⟩⟩
    · omega
    · omega
  · rcases hm with ⟨g1, -⟩ | ⟨g1, g2, g3, g4, g5, g6⟩ | ⟨g1, ⟨j, j1, j2, j3⟩, -⟩
    · omega
    · rw [h4, g4]; exact ⟨by omega, hr, Or.inl ⟨h5, g5, g6⟩⟩
    · have := row_at hr j1; omega
  · obtain ⟨x, hx⟩ : ∃ x, e.2.2.2[k.toNat]? = some x := ⟨_, List.getElem?_eq_getElem (by omega)⟩
    obtain ⟨j', i1, i2, i3, i4⟩ := at_row hr hx
    rcases hm with ⟨g1, -⟩ | ⟨g1, g2, -⟩ | ⟨g1, ⟨j, j1, j2, j3⟩, g3, g4⟩
    · omega
    · exact absurd (by rw [i3]; omega) (g2 j' i1.1 i1.2)
    · have ha := (row_at hr j1).2.2
      rw [j2] at ha
      have hb := BK_strike hr.2.2.2 ha (row_get j1)
      have hrow := stR_rows j3 j1
      rw [h4]
      refine ⟨by omega, ⟨?_, ?_, ⟨by have := hr.2.2.1.1; have := j3.2.2.2.1; omega, fun i a1 a2 => ?_⟩, ?_⟩, Or.inr ⟨h5, g4⟩⟩
      · rw [j3.1, j3.2.1, j3.2.2.1]; exact hr.1
      · rw [j3.1, j3.2.1, j3.2.2.1]; exact hr.2.1
      · have e3 := j3.2.2.2.1
        rcases hrow.2 i a1 (by omega) with q | q
        · have e1 := congrArg Prod.fst q
          have e2 := congrArg Prod.snd q
          dsimp only at e1 e2
          rw [e1, e2]; exact hr.2.2.1.2 i a1 (by omega)
        · have e1 := congrArg Prod.fst q
          have e2 := congrArg Prod.snd q
          dsimp only at e1 e2
          rw [e1, e2]; exact hr.2.2.1.2 (i + 1) (by omega) (by omega)
      · rw [j3.1, j3.2.1, j3.2.2.1, hrow.1]
        exact hb
