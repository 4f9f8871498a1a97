/-! ===== MATH 25: note on the two sides ===== -/
theorem chRun_det {f : Int → Int} : ∀ {k : Nat} {a b e g : Int}, chRun f k = (a, b, 0, e, g) → a * g - b * e = 1 ∨ a * g - b * e = -1
  | 0, a, b, e, g, h => by
    have e1 : (1, 0, 0, 0, 1) = (a, b, (0 : Int), e, g) := h
    simp only [Prod.mk.injEq] at e1
    obtain ⟨h1, h2, -, h3, h4⟩ := e1
    rw [← h1, ← h2, ← h3, ← h4]
    exact Or.inl rfl
  | k + 1, a, b, e, g, h => by
    have hp := chRun_prev (f := f) (i := k) (by omega) (by rw [show ((k : Int) + 1).toNat = k + 1 by omega]; exact h)
    rw [show ((k : Int)).toNat = k by omega] at hp
    have hb : (chRun f k).2.2.1 = 0 := by
      have := (chRun_ok f k).2.2.1
      have := hp.2.2.2.2
      omega
    generalize hd : chRun f k = d at *
    obtain ⟨a1, b1, o1, x1, y1⟩ := d
    dsimp only at hb hp
    rw [hb] at hd
    have ih := chRun_det hd
    obtain ⟨p1, p2, p3, p4, -⟩ := hp
    have e5 : a * g - b * e = -(a1 * y1 - b1 * x1) := by rw [p1, p2, p3, p4]; grind
    omega
theorem okC_txt {c : Int → Int} {n : Int} {k : Nat} (hg : tG c n k) (hf : fitP (tCh c n k).2.2.1 (tCh c n k).1 (tCh c n k).2.1) : okC ((tCh c n k).1, (tCh c n k).2.1) := by
  have hp := tCh_pos hg
  refine ⟨okF_fit hf hp, ?_⟩
  have hd : tCh c n k = chRun (fun i => tV c n i.toNat) (k + 1) := rfl
  generalize hc : tCh c n k = x at *
  obtain ⟨u, v, o, a, b⟩ := x
  have ho : o = 0 := hf.1
  rw [ho] at hd
  rcases chRun_det hd.symm with h | h
  · exact ⟨a, b, h⟩
  · refine ⟨-a, -b, ?_⟩
    have e1 : u * (-b) - v * (-a) = -(u * b - v * a) := by grind
    show u * (-b) - v * (-a) = 1
    omega
theorem nt_eq {e e' : zH} {h h' : List zH} {S PA S' PA' c : Int → Int} {pn pn' tn r r' : Int} (hr : stR2 e S) (hc : ntC c tn e h r e' h') (hm : ntM S PA c pn tn r' S' PA' pn') : r = r' ∧ stR2 e' S' ∧ hsStep h e S PA pn h' PA' pn' := by
  have hl := st_len hr
  have hF : ∀ k : Nat, ntF c tn k e ↔ ntF c tn k (hM S) := fun k => by
    unfold ntF
    rw [hr.2.2.2.2.1.mem_iff]
  rcases hc with ⟨⟨fp, fr, hb⟩, h3, h4, h5⟩ | ⟨k, hk, hc⟩
  · rcases hm with ⟨-, g3, g4, g5, g6⟩ | ⟨k, hk, -⟩
    · rw [h4, g4]; exact ⟨by omega, hr, Or.inl ⟨h5, g5, g6⟩⟩
    · exact absurd (tFine_bad hk hb) id
  · rcases hm with ⟨⟨fp, fr, hb⟩, -⟩ | ⟨k', hk', hm⟩
    · exact absurd (tFine_bad hk hb) id
    · rw [← tFine_uniq hk hk'] at hm
      rcases hc with ⟨h2, h3, h4, h5⟩ | ⟨h1, h2, h3, h4, h5⟩ | ⟨h1, h2, h3, h4, h5⟩
      · rw [hF] at h2
        rcases hm with ⟨g2, g3, g4, g5, g6⟩ | ⟨g1, -⟩ | ⟨g1, -⟩
        · rw [h4, g4]; exact ⟨by omega, hr, Or.inl ⟨h5, g5, g6⟩⟩
        · exact absurd g1 h2
        · exact absurd g1 h2
      · rw [hF] at h1
        rcases hm with ⟨g2, -⟩ | ⟨g1, g2, g3, g4, g5, g6⟩ | ⟨g1, g2, -⟩
        · exact absurd h1 g2
        · rw [h4, g4]; exact ⟨by omega, hr, Or.inl ⟨h5, g5, g6⟩⟩
        · omega
      · rw [hF] at h1
        rcases hm with ⟨g2, -⟩ | ⟨g1, g2, -⟩ | ⟨g1, g2, g3, g4, g5⟩
        · exact absurd h1 g2
        · omega
        · have hx := okC_txt hk.1 h1.1
          have hnin : ((tCh c tn k).1, (tCh c tn k).2.1) ∉ e.2.2.2 := fun z => h1.2 (hr.2.2.2.2.1.mem_iff.mp z)
          have hv := hr.2.1
          have hb := BK_note hv.2.2.2.1 (by have := hv.2.1; omega) hr.2.2.2 hx hnin
          have hok := nt_ok hr.2.2.1 g2 g4 hx.1
          have s0 := g4.2.2.2 0 (by have := hr.2.2.1.1; omega) (by decide)
          have s1 := g4.2.2.2 1 (by have := hr.2.2.1.1; omega) (by decide)
          have s2 := g4.2.2.2 2 (by have := hr.2.2.1.1; omega) (by decide)
          have eb : (hM S').2.2.2 = (hM S).2.2.2 ++ [((tCh c tn k).1, (tCh c tn k).2.1)] := by
            show tk (pr (fun i => S' (4 + 2 * i)) (fun i => S' (5 + 2 * i))) (S' 3).toNat = tk (pr (fun i => S (4 + 2 * i)) (fun i => S (5 + 2 * i))) (S 3).toNat ++ _
            have h30 := hr.2.2.1.1
            rw [g4.1, show (S 3 + 1).toNat = (S 3).toNat + 1 by omega]
            show tk (pr (fun i => S' (4 + 2 * i)) (fun i => S' (5 + 2 * i))) (S 3).toNat ++ [(S' (4 + 2 * ((S 3).toNat : Int)), S' (5 + 2 * ((S 3).toNat : Int)))] = _
            rw [show ((S 3).toNat : Int) = S 3 by omega, g4.2.1, g4.2.2.1]
            rw [tk_cong (g := pr (fun i => S (4 + 2 * i)) (fun i => S (5 + 2 * i))) (fun i i1 i2 => by
              unfold pr
              dsimp only
              rw [g4.2.2.2 _ (by omega) (by omega), g4.2.2.2 _ (by omega) (by omega)])]
          have hrk := plM_rk (S := S') (k := S 3) (by rw [s2]; exact hv.2.2.2.1) (by rw [s1]; have := hv.2.1; omega) (by rw [g4.2.2.1]; exact okC_pos hx) (S 3 + 1).toNat
          have e2 : tk (pr (fun i => S' (4 + 2 * i)) (fun i => S' (5 + 2 * i))) (S 3 + 1).toNat = (hM S').2.2.2 := by
            show _ = tk (pr (fun i => S' (4 + 2 * i)) (fun i => S' (5 + 2 * i))) (S' 3).toNat
            rw [g4.1]
          rw [e2, eb, s0, s1, s2, g4.2.1, g4.2.2.1, ← hb.2] at hrk
          rw [h4]
          refine ⟨?_, ⟨?_, ?_, hok, ?_⟩, Or.inr ⟨h5, g3⟩⟩
          · rw [h3, g5, hrk, hr.1.1, hr.1.2.1, hr.1.2.2]
          · rw [s0, s1, s2]; exact hr.1
          · rw [s0, s1, s2]; exact hv
          · rw [s0, s1, s2, eb, hr.1.1, hr.1.2.1, hr.1.2.2]
            exact hb.1
