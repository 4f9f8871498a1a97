/-! ===== LAW 2: what the contracts ask, from the invariant ===== -/
theorem xE_pd {p d q lt lb ld pd cv : Int} {f U L : Int → Int} (h : xE p d q lt lb ld pd cv f U L) : (0 < pd → 0 ≤ ld ∧ ld + pd ≤ 400) ∧ (0 ≤ pd ∧ pd ≤ 400) := by
  rcases h.1 with ⟨h1, h2, h3⟩ | ⟨h1, h2, h3, h4, h5, h6⟩
  · omega
  · rcases h6 with h6 | h6
    · omega
    · have := h6.1
      have := h6.2.1
      omega
theorem xE_f {p d q lt lb ld pd cv : Int} {f U L : Int → Int} (hv : vS p d q) (h : xE p d q lt lb ld pd cv f U L) : ∀ i : Int, 0 ≤ i → i < 400 → -100000 ≤ f i ∧ f i ≤ 100000 := fun i h1 h2 => by
  rw [h.2.1 i h1 h2]
  have := tm_bd hv i
  omega
theorem xE_UL {p d q lt lb ld pd cv : Int} {f U L : Int → Int} (h : xE p d q lt lb ld pd cv f U L) : ∀ i : Int, 0 ≤ i → i < cv → (-9000000000000000 ≤ U i ∧ U i ≤ 9000000000000000) ∧ (-9000000000000000 ≤ L i ∧ L i ≤ 9000000000000000) := fun i h1 h2 => by
  have hc := h.2.2
  have hi := xE_in h h1 h2
  have ho := chRun_ok (tm p d q) (i + 1).toNat
  have o1 := ho.1
  have o2 := ho.2.1
  rw [hi.1] at o1
  rw [hi.2.1] at o2
  exact ⟨o1, o2⟩
theorem xE_f0 {p d q lt lb ld pd cv : Int} {f U L : Int → Int} (hv : vS p d q) (h : xE p d q lt lb ld pd cv f U L) : f 0 = tm p d q 0 ∧ -141 ≤ f 0 ∧ f 0 ≤ 140 := by
  have e := h.2.1 0 (by omega) (by omega)
  have e2 := tm0_fl hv
  have hd := hv.2.1
  have hp := hv.1
  have e5 := rt_le (x := (1 * 1) * d) (r := 31) (by omega) (by omega) (by omega)
  have e6 := rt_nonneg ((1 * 1) * d)
  have := wh_bd (r := rt ((1 * 1) * d)) (t := 1 * p) (b := q) (M := 130) (by omega)
  have e3 : flV p d q 1 = wh (rt ((1 * 1) * d)) (1 * p) q := rfl
  refine ⟨e, ?_⟩
  omega
theorem zOk_st {e : zH} {S : Int → Int} (h : stR2 e S) : zOk e := by
  have hl := st_len h
  refine ⟨by rw [h.1.1, h.1.2.1, h.1.2.2]; exact h.2.1, by have := h.2.2.1.1; omega, fun x hx => ?_⟩
  exact (h.2.2.2.2.2.2 x (h.2.2.2.2.1.mem_iff.mp hx)).1
theorem zOk_hs {h : List zH} {PA : Int → Int} {pn : Int} (hh : hsR h PA pn) : ∀ e ∈ h, zOk e := fun e he => by
  obtain ⟨i, hi⟩ := List.getElem?_of_mem he
  exact zOk_st (hh.2.2 i e hi)
