/-! ===== MATH 21: the book on the two sides ===== -/
def BK (p d q : Int) (lC lM : List (Int × Int)) : Prop := srt p d q lC ∧ lC.Perm lM ∧ lM.Nodup ∧ ∀ y ∈ lM, okC y
theorem BK_nil (p d q : Int) : BK p d q [] [] := ⟨List.Pairwise.nil, List.Perm.refl _, List.nodup_nil, fun y h => absurd h List.not_mem_nil⟩
theorem BK_len {p d q : Int} {lC lM : List (Int × Int)} (h : BK p d q lC lM) : lC.length = lM.length := h.2.1.length_eq
theorem BK_note {p d q : Int} {lC lM : List (Int × Int)} {x : Int × Int} (hq : q ≠ 0) (hd : 0 ≤ d) (h : BK p d q lC lM) (hx : okC x) (hn : x ∉ lC) : BK p d q (insL p d q x lC) (lM ++ [x]) ∧ posL p d q x lC = rkL p d q x (lM ++ [x]) := by
  obtain ⟨h1, h2, h3, h4⟩ := h
  have hne : ∀ y ∈ lC, okC y ∧ x ≠ y := fun y hy => ⟨h4 y (h2.mem_iff.mp hy), fun e => hn (by rw [e]; exact hy)⟩
  have hm : x ∉ lM := fun z => hn (h2.mem_iff.mpr z)
  refine ⟨⟨insL_srt hq hd hx h1 hne, ?_, ?_, fun y hy => ?_⟩, ?_⟩
  · exact (insL_perm p d q x lC).trans ((h2.cons x).trans (List.perm_append_singleton x lM).symm)
  · refine List.nodup_append.mpr ⟨h3, List.nodup_cons.mpr ⟨List.not_mem_nil, List.nodup_nil⟩, fun a ha b hb e => ?_⟩
    rw [List.mem_singleton.mp hb] at e
    exact hm (by rw [← e]; exact ha)
  · rcases List.mem_append.mp hy with e | e
    · exact h4 y e
    · rw [List.mem_singleton.mp e]; exact hx
  · rw [posL_rk hq hd hx h1 hne, rk_perm h2]
    unfold rkL
    rw [List.countP_append, List.countP_singleton, if_neg (nrr_irr hq hd (okC_pos hx)), Nat.add_zero]
theorem BK_ord {p d q a b c : Int} {lC lM : List (Int × Int)} (hq : c ≠ 0) (hd : 0 ≤ b) (h : BK p d q lC lM) : BK a b c (ordL a b c lC) lM := by
  obtain ⟨h1, h2, h3, h4⟩ := h
  have ho := ordL_srt (p := a) (d := b) (q := c) (l := lC) hq hd (fun y hy => h4 y (h2.mem_iff.mp hy)) (h2.nodup_iff.mpr h3)
  exact ⟨ho.1, ho.2.trans h2, h3, h4⟩
/-- the row of rank pl is what stands at place pl -/
theorem BK_at {p d q : Int} {lC lM : List (Int × Int)} {y : Int × Int} {k : Nat} (hq : q ≠ 0) (hd : 0 ≤ d) (h : BK p d q lC lM) (hk : lM[k]? = some y) : 0 ≤ rkL p d q y lM ∧ rkL p d q y lM < lC.length ∧ lC[(rkL p d q y lM).toNat]? = some y := by
  obtain ⟨h1, h2, h3, h4⟩ := h
  have hy : y ∈ lC := h2.mem_iff.mpr (List.mem_of_getElem? hk)
  obtain ⟨i, hi⟩ := List.getElem?_of_mem hy
  have hr := rk_at hq hd h1 (fun z hz => h4 z (h2.mem_iff.mp hz)) hi
  rw [rk_perm h2] at hr
  have hl := (List.getElem?_eq_some_iff.mp hi).1
  rw [hr]
  exact ⟨by omega, by omega, by rw [show ((i : Int)).toNat = i by omega]; exact hi⟩
theorem BK_row {p d q : Int} {lC lM : List (Int × Int)} {x : Int × Int} {i : Nat} (hq : q ≠ 0) (hd : 0 ≤ d) (h : BK p d q lC lM) (hi : lC[i]? = some x) : ∃ k : Nat, lM[k]? = some x ∧ rkL p d q x lM = i := by
  obtain ⟨h1, h2, h3, h4⟩ := h
  have hx : x ∈ lM := h2.mem_iff.mp (List.mem_of_getElem? hi)
  obtain ⟨k, hk⟩ := List.getElem?_of_mem hx
  have hr := rk_at hq hd h1 (fun z hz => h4 z (h2.mem_iff.mp hz)) hi
  rw [rk_perm h2] at hr
  exact ⟨k, hk, hr⟩
theorem erase_perm : ∀ {l : List (Int × Int)} {i : Nat} {x : Int × Int}, l[i]? = some x → l.Perm (x :: l.eraseIdx i)
  | [], i, x, h => by rw [List.getElem?_nil] at h; cases h
  | y :: ys, 0, x, h => by
    rw [List.getElem?_cons_zero] at h
    rw [Option.some.inj h, List.eraseIdx_cons_zero]
  | y :: ys, i + 1, x, h => by
    rw [List.getElem?_cons_succ] at h
    rw [List.eraseIdx_cons_succ]
    exact ((erase_perm h).cons y).trans (List.Perm.swap x y _)
theorem BK_strike {p d q : Int} {lC lM : List (Int × Int)} {x : Int × Int} {i k : Nat} (h : BK p d q lC lM) (hi : lC[i]? = some x) (hk : lM[k]? = some x) : BK p d q (lC.eraseIdx i) (lM.eraseIdx k) := by
  obtain ⟨h1, h2, h3, h4⟩ := h
  refine ⟨List.Pairwise.sublist (List.eraseIdx_sublist _ _) h1, ?_, List.Pairwise.sublist (List.eraseIdx_sublist _ _) h3, fun y hy => h4 y ((List.eraseIdx_sublist _ _).subset hy)⟩
  exact List.Perm.cons_inv ((erase_perm hi).symm.trans (h2.trans (erase_perm hk)))
theorem BK_cnt {p d q : Int} {lC lM : List (Int × Int)} (h : BK p d q lC lM) (P : Int × Int → Bool) : lC.countP P = lM.countP P := h.2.1.countP_eq P
theorem cntA_tk {p d q : Int} {u v : Int → Int} : ∀ n : Nat, cntA p d q u v n = ((tk (pr u v) n).countP (fun y => abv p d q y.1 y.2) : Nat)
  | 0 => rfl
  | n + 1 => by
    rw [tk_cnt]
    unfold cntA
    rw [cntA_tk n]
    show _ = (((tk (pr u v) n).countP (fun y => abv p d q y.1 y.2) + (if abv p d q (u n) (v n) = true then 1 else 0) : Nat) : Int)
    by_cases h : abv p d q (u n) (v n) = true
    · rw [if_pos h, if_pos h]; omega
    · rw [if_neg h, if_neg h]; omega
