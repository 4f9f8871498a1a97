/-! ===== MATH 24: surd, strikeAll on the two sides ===== -/
theorem sa_eq {e e' : zH} {h h' : List zH} {S PA PA' : Int → Int} {pn pn' r r' : Int} (hr : stR2 e S) (hc : saC e h r e' h') (hm : r' = S 3 ∧ chgP pn S PA pn' PA') : r = r' ∧ stR2 e' (zu S 3 0) ∧ hsStep h e S PA pn h' PA' pn' := by
  have hl := st_len hr
  obtain ⟨h1, h2, h3⟩ := hc
  have e0 : zu S 3 0 0 = S 0 := zu_n _ _ (by decide)
  have e1 : zu S 3 0 1 = S 1 := zu_n _ _ (by decide)
  have e2 : zu S 3 0 2 = S 2 := zu_n _ _ (by decide)
  have e3 : zu S 3 0 3 = 0 := zu_s _ _ _
  rw [h2]
  refine ⟨by omega, ⟨?_, ?_, ⟨by omega, fun i a1 a2 => by omega⟩, ?_⟩, Or.inr ⟨h3, hm.2⟩⟩
  · rw [e0, e1, e2]; exact hr.1
  · rw [e0, e1, e2]; exact hr.2.1
  · have eb : (hM (zu S 3 0)).2.2.2 = [] := by
      show tk (pr (fun i => zu S 3 0 (4 + 2 * i)) (fun i => zu S 3 0 (5 + 2 * i))) (zu S 3 0 3).toNat = []
      rw [e3]; rfl
    rw [eb]
    exact BK_nil _ _ _
theorem su_rows {S : Int → Int} {a b c : Int} (h3 : 0 ≤ S 3) : (∀ i : Int, 3 ≤ i → (zu (zu (zu S 0 a) 1 b) 2 c) i = S i) ∧ (zu (zu (zu S 0 a) 1 b) 2 c) 0 = a ∧ (zu (zu (zu S 0 a) 1 b) 2 c) 1 = b ∧ (zu (zu (zu S 0 a) 1 b) 2 c) 2 = c := by
  refine ⟨fun i hi => ?_, ?_, ?_, zu_s _ _ _⟩
  · rw [zu_n _ _ (by omega), zu_n _ _ (by omega), zu_n _ _ (by omega)]
  · rw [zu_n _ _ (by decide), zu_n _ _ (by decide), zu_s]
  · rw [zu_n _ _ (by decide), zu_s]
theorem su_eq {e e' : zH} {h h' : List zH} {S PA S' PA' : Int → Int} {pn pn' a b c r r' : Int} (hr : stR2 e S) (hc : suC e h a b c r e' h') (hm : suM S PA pn a b c r' S' PA' pn') : r = r' ∧ stR2 e' S' ∧ hsStep h e S PA pn h' PA' pn' := by
  rcases hc with ⟨h1, h2, h3, h4⟩ | ⟨h1, h2, h3, h4, h5⟩ | ⟨h1, h2, h3, h4, h5⟩
  · rcases hm with ⟨g1, g2, g3, g4, g5⟩ | ⟨g1, -⟩ | ⟨g1, -⟩
    · rw [h3, g3]; exact ⟨by omega, hr, Or.inl ⟨h4, g4, g5⟩⟩
    · exact absurd g1 h1
    · exact absurd g1 h1
  · rcases hm with ⟨g1, -⟩ | ⟨g1, g2, g3, g4, g5, g6⟩ | ⟨g1, g2, -⟩
    · exact absurd h1 g1
    · rw [h4, g4]; exact ⟨by omega, hr, Or.inl ⟨h5, g5, g6⟩⟩
    · exact absurd h2 g2
  · rcases hm with ⟨g1, -⟩ | ⟨g1, g2, -⟩ | ⟨g1, g2, g3, g4, g5⟩
    · exact absurd h1 g1
    · exact absurd g2 h2
    · have hS := su_rows (S := S) (a := a) (b := b) (c := c) hr.2.2.1.1.1
      rw [← g4] at hS
      have hv : vS a b c := ⟨h1.1, h1.2.1, h1.2.2.1, h1.2.2.2, nsq_of (by have := h1.2.1; omega) h2⟩
      have hb := BK_ord (a := a) (b := b) (c := c) hv.2.2.2.1 (by have := hv.2.1; omega) hr.2.2.2
      have eb : (hM S').2.2.2 = (hM S).2.2.2 := by
        show tk (pr (fun i => S' (4 + 2 * i)) (fun i => S' (5 + 2 * i))) (S' 3).toNat = tk (pr (fun i => S (4 + 2 * i)) (fun i => S (5 + 2 * i))) (S 3).toNat
        rw [hS.1 3 (by omega)]
        exact tk_cong (fun i i1 i2 => by
          unfold pr
          dsimp only
          rw [hS.1 _ (by omega), hS.1 _ (by omega)])
      rw [h4]
      refine ⟨by omega, ⟨?_, ?_, ⟨by rw [hS.1 3 (by omega)]; exact hr.2.2.1.1, fun i a1 a2 => ?_⟩, ?_⟩, Or.inr ⟨h5, g5⟩⟩
      · rw [hS.2.1, hS.2.2.1, hS.2.2.2]; exact ⟨rfl, rfl, rfl⟩
      · rw [hS.2.1, hS.2.2.1, hS.2.2.2]; exact hv
      · rw [hS.1 3 (by omega)] at a2
        rw [hS.1 _ (by omega), hS.1 _ (by omega)]
        exact hr.2.2.1.2 i a1 a2
      · rw [hS.2.1, hS.2.2.1, hS.2.2.2, eb]
        exact hb
