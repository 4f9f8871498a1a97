/-! ===== MATH 18: one mediant more; the two ways agree ===== -/
theorem md_btw {bu bl au al : Int} (hdet : au * bl - bu * al = 1) : (bu + au) * bl - bu * (bl + al) = 1 ∧ au * (bl + al) - (bu + au) * al = 1 := by
  have e1 : (bu + au) * bl - bu * (bl + al) = au * bl - bu * al := by grind
  have e2 : au * (bl + al) - (bu + au) * al = au * bl - bu * al := by grind
  omega
theorem nbJ_med {p d q : Int} {c : zNb} (h : nbJ p d q c) : nbJ p d q (med p d q c) := by
  obtain ⟨bu, bl, au, al, r⟩ := c
  obtain ⟨h1, h2, h3, h4, h5⟩ := h
  dsimp only at h1 h2 h3 h4 h5
  have hm := md_btw h5
  unfold med
  dsimp only
  by_cases g : abv p d q (bu + au) (bl + al) = true
  · rw [if_pos g]
    exact ⟨h1, by show 1 ≤ bl + al; omega, h3, g, hm.1⟩
  · rw [if_neg g]
    exact ⟨by show 1 ≤ bl + al; omega, h2, g, h4, hm.2⟩
def mdR (p d q : Int) (bu bl au al : Int) : Prop := nrr p d q (bu + au) (bl + al) bu bl = true ∧ nrr p d q (bu + au) (bl + al) au al = true
/-- the mediant is nearer than the end on its own side -/
theorem md_own {p d q bu bl au al r : Int} (hq : q ≠ 0) (hd : 0 ≤ d) (h : nbJ p d q (bu, bl, au, al, r)) : (¬ abv p d q (bu + au) (bl + al) = true → nrr p d q (bu + au) (bl + al) bu bl = true) ∧ (abv p d q (bu + au) (bl + al) = true → nrr p d q (bu + au) (bl + al) au al = true) := by
  obtain ⟨h1, h2, h3, h4, h5⟩ := h
  dsimp only at h1 h2 h3 h4 h5
  have hm := md_btw h5
  refine ⟨fun z => ?_, fun z => ?_⟩
  · rw [nrr_ff z h3]; omega
  · rw [nrr_tt z h4]; omega
theorem md_tot {p d q bu bl au al r : Int} (hq : q ≠ 0) (hd : 0 ≤ d) (h : nbJ p d q (bu, bl, au, al, r)) : (¬ nrr p d q (bu + au) (bl + al) au al = true → nrr p d q au al (bu + au) (bl + al) = true) ∧ (¬ nrr p d q (bu + au) (bl + al) bu bl = true → nrr p d q bu bl (bu + au) (bl + al) = true) := by
  obtain ⟨h1, h2, h3, h4, h5⟩ := h
  dsimp only at h1 h2 h3 h4 h5
  have hm := md_btw h5
  refine ⟨fun z => ?_, fun z => ?_⟩
  · refine Decidable.byContradiction (fun y => ?_)
    have := nrr_tot hq hd (by omega) (by omega) z y
    omega
  · refine Decidable.byContradiction (fun y => ?_)
    have := nrr_tot hq hd (by omega) (by omega) z y
    omega
theorem nbE_med {p d q bu bl au al r : Int} (hq : q ≠ 0) (hd : 0 ≤ d) (h : nbJ p d q (bu, bl, au, al, r)) : (mdR p d q bu bl au al → nbE p d q (med p d q (bu, bl, au, al, r)) = (bu + au, bl + al) ∧ nrr p d q (bu + au) (bl + al) (nbE p d q (bu, bl, au, al, r)).1 (nbE p d q (bu, bl, au, al, r)).2 = true) ∧ (¬ mdR p d q bu bl au al → nbE p d q (med p d q (bu, bl, au, al, r)) = nbE p d q (bu, bl, au, al, r) ∧ ¬ nrr p d q (bu + au) (bl + al) (nbE p d q (bu, bl, au, al, r)).1 (nbE p d q (bu, bl, au, al, r)).2 = true) := by
  have ho := md_own hq hd h
  have ht := md_tot hq hd h
  obtain ⟨h1, h2, h3, h4, h5⟩ := h
  dsimp only at h1 h2 h3 h4 h5
  have hv : 0 < bl + al := by omega
  unfold mdR med nbE
  dsimp only
  refine ⟨fun z => ⟨?_, ?_⟩, fun z => ?_⟩
  · by_cases g : abv p d q (bu + au) (bl + al) = true
    · rw [if_pos g]
      dsimp only
      rw [if_pos z.1]
    · rw [if_neg g]
      dsimp only
      rw [if_neg (nrr_asymm hq hd hv (by omega) z.2)]
  · by_cases g : nrr p d q au al bu bl = true
    · rw [if_pos g]; exact z.2
    · rw [if_neg g]; exact z.1
  · by_cases g : abv p d q (bu + au) (bl + al) = true
    · have hA := ho.2 g
      have hB : ¬ nrr p d q (bu + au) (bl + al) bu bl = true := fun y => z ⟨y, hA⟩
      have hAB : ¬ nrr p d q au al bu bl = true := fun y => hB (nrr_trans hq hd hv (by omega) (by omega) hA y)
      rw [if_pos g, if_neg hAB]
      dsimp only
      rw [if_neg hB]
      exact ⟨rfl, hB⟩
    · have hB := ho.1 g
      have hA : ¬ nrr p d q (bu + au) (bl + al) au al = true := fun y => z ⟨hB, y⟩
      have hA2 := ht.1 hA
      have hAB : nrr p d q au al bu bl = true := nrr_trans hq hd (by omega) hv (by omega) hA2 hB
      rw [if_neg g, if_pos hAB]
      dsimp only
      rw [if_pos hA2]
      exact ⟨rfl, hA⟩
theorem medR_eq {p d q bu bl au al r : Int} : (med p d q (bu, bl, au, al, r)).2.2.2.2 = medR p d q (bu, bl, au, al, r) := by
  unfold med
  split <;> rfl
/-- where the mediant's lower part comes, its upper part is the floor or the number behind it -/
theorem md_fl {p d q bu bl au al r : Int} (hq : q ≠ 0) (hd : 0 ≤ d) (h : nbJ p d q (bu, bl, au, al, r)) : (¬ abv p d q (bu + au) (bl + al) = true → flV p d q (bl + al) = bu + au) ∧ (abv p d q (bu + au) (bl + al) = true → flV p d q (bl + al) + 1 = bu + au) := by
  have hj := h
  obtain ⟨h1, h2, h3, h4, h5⟩ := h
  dsimp only at h1 h2 h3 h4 h5
  have hm := md_btw h5
  refine ⟨fun z => ?_, fun z => ?_⟩
  · rw [abv_fl hq hd] at z
    refine Decidable.byContradiction (fun y => ?_)
    have ho := nb_out hq hd hj (n := flV p d q (bl + al)) (m := bl + al) (by omega) (Or.inr ⟨rfl, y⟩)
    have := ho.1 (by rw [abv_fl hq hd]; omega)
    have := Int.mul_le_mul_of_nonneg_right (show bu + au ≤ flV p d q (bl + al) by omega) (show 0 ≤ bl by omega)
    omega
  · rw [abv_fl hq hd] at z
    refine Decidable.byContradiction (fun y => ?_)
    have ho := nb_out hq hd hj (n := flV p d q (bl + al) + 1) (m := bl + al) (by omega) (Or.inr ⟨rfl, y⟩)
    have := ho.2 (by rw [abv_fl hq hd]; omega)
    have := Int.mul_le_mul_of_nonneg_right (show flV p d q (bl + al) + 1 ≤ bu + au by omega) (show 0 ≤ al by omega)
    omega
theorem md_skU {p d q bu bl au al r : Int} (hq : q ≠ 0) (hd : 0 ≤ d) (h : nbJ p d q (bu, bl, au, al, r)) (hr : mdR p d q bu bl au al) : skU p d q (bl + al) = bu + au := by
  have hj := h
  have hf := md_fl hq hd h
  obtain ⟨h1, h2, h3, h4, h5⟩ := h
  dsimp only at h1 h2 h3 h4 h5
  have hv : 0 < bl + al := by omega
  unfold skU
  by_cases g : abv p d q (bu + au) (bl + al) = true
  · have hfl := hf.2 g
    have hn : nrr p d q (flV p d q (bl + al) + 1) (bl + al) (flV p d q (bl + al)) (bl + al) = true := by
      refine Decidable.byContradiction (fun y => ?_)
      have hb : ¬ abv p d q (flV p d q (bl + al)) (bl + al) = true := by rw [abv_fl hq hd]; omega
      have h6 : nrr p d q (flV p d q (bl + al)) (bl + al) (flV p d q (bl + al) + 1) (bl + al) = true := by
        refine Decidable.byContradiction (fun w => ?_)
        have e := nrr_tot hq hd hv hv y w
        have e2 : (flV p d q (bl + al) + 1) * (bl + al) = flV p d q (bl + al) * (bl + al) + (bl + al) := by grind
        omega
      rw [hfl] at h6
      have h7 := nrr_trans hq hd hv hv (by omega) h6 hr.1
      rw [nrr_ff hb h3] at h7
      have ho := (nb_out hq hd hj (n := flV p d q (bl + al)) (m := bl + al) (by omega) (Or.inr ⟨rfl, by omega⟩)).1 hb
      omega
    rw [if_pos hn]; exact hfl
  · have hfl := hf.1 g
    have hn : ¬ nrr p d q (flV p d q (bl + al) + 1) (bl + al) (flV p d q (bl + al)) (bl + al) = true := by
      intro y
      have hb : abv p d q (flV p d q (bl + al) + 1) (bl + al) = true := by rw [abv_fl hq hd]; omega
      have h6 : nrr p d q (flV p d q (bl + al) + 1) (bl + al) (bu + au) (bl + al) = true := by
        have := y
        rw [show nrr p d q (flV p d q (bl + al) + 1) (bl + al) (bu + au) (bl + al) = nrr p d q (flV p d q (bl + al) + 1) (bl + al) (flV p d q (bl + al)) (bl + al) by rw [hfl]]
        exact this
      have h7 := nrr_trans hq hd hv hv (by omega) h6 hr.2
      rw [nrr_tt hb h4] at h7
      have ho := (nb_out hq hd hj (n := flV p d q (bl + al) + 1) (m := bl + al) (by omega) (Or.inr ⟨rfl, by omega⟩)).2 hb
      omega
    rw [if_neg hn]; exact hfl
/-- what trying all lower parts has found, at a place of the mediants' way -/
def nbK (p d q : Int) (c : zNb) (v : Int) : Prop := skN p d q 0 0 v.toNat = ((nbE p d q c).1, (nbE p d q c).2, c.2.2.2.2) ∧ bsN p d q 0 0 0 v.toNat = (c.1, c.2.1) ∧ bsN p d q 1 0 0 v.toNat = (c.2.2.1, c.2.2.2.1)
theorem skN_s {p d q v : Int} (h0 : 0 ≤ v) : skN p d q 0 0 (v + 1).toNat = skC p d q (v + 1) (skN p d q 0 0 v.toNat) := by
  rw [show (v + 1).toNat = v.toNat + 1 by omega]
  show skC p d q ((v.toNat : Int) + 1) _ = _
  rw [show (v.toNat : Int) = v by omega]
theorem bsN_s {p d q ab v : Int} (h0 : 0 ≤ v) : bsN p d q ab 0 0 (v + 1).toNat = bsC p d q ab (v + 1) (bsN p d q ab 0 0 v.toNat) := by
  rw [show (v + 1).toNat = v.toNat + 1 by omega]
  show bsC p d q ab ((v.toNat : Int) + 1) _ = _
  rw [show (v.toNat : Int) = v by omega]
/-- between two mediants nothing changes -/
theorem nbK_same {p d q v : Int} {c : zNb} (hq : q ≠ 0) (hd : 0 ≤ d) (h : nbJ p d q c) (hk : nbK p d q c v) (h1 : 1 ≤ v) (h2 : v + 1 < c.2.1 + c.2.2.2.1) : nbK p d q c (v + 1) := by
  obtain ⟨bu, bl, au, al, r⟩ := c
  dsimp only at h2
  have ho := fun n => nb_out hq hd h (n := n) (m := v + 1) (by omega) (Or.inl h2)
  obtain ⟨k1, k2, k3⟩ := hk
  dsimp only at k1 k2 k3
  refine ⟨?_, ?_, ?_⟩
  · rw [skN_s (by omega), k1]
    unfold skC
    have := nb_far hq hd h (n := skU p d q (v + 1)) (m := v + 1) (by omega) (ho _)
    exact if_neg (fun z => by rcases z with z | z; omega; exact this z)
  · rw [bsN_s (by omega), k2]
    unfold bsC
    have hfl : ¬ abv p d q (flV p d q (v + 1)) (v + 1) = true := by rw [abv_fl hq hd]; omega
    have := (ho _).1 hfl
    rw [Int.add_zero]
    exact if_neg (fun z => by dsimp only at z; omega)
  · rw [bsN_s (by omega), k3]
    unfold bsC
    have hfl : abv p d q (flV p d q (v + 1) + 1) (v + 1) = true := by rw [abv_fl hq hd]; omega
    have := (ho _).2 hfl
    exact if_neg (fun z => by dsimp only at z; omega)
/-- at the mediant's lower part -/
theorem nbK_med {p d q v : Int} {c : zNb} (hq : q ≠ 0) (hd : 0 ≤ d) (h : nbJ p d q c) (hk : nbK p d q c v) (h1 : 1 ≤ v) (h2 : v + 1 = c.2.1 + c.2.2.2.1) : nbK p d q (med p d q c) (v + 1) := by
  obtain ⟨bu, bl, au, al, r⟩ := c
  dsimp only at h2
  have hE := nbE_med hq hd h
  have hf := md_fl hq hd h
  obtain ⟨k1, k2, k3⟩ := hk
  dsimp only at k1 k2 k3
  have hj := h
  obtain ⟨g1, g2, g3, g4, g5⟩ := h
  dsimp only at g1 g2 g3 g4 g5
  have hm := md_btw g5
  rw [← h2] at hf hm
  refine ⟨?_, ?_, ?_⟩
  · rw [skN_s (by omega), k1]
    unfold skC
    rw [medR_eq]
    unfold medR
    dsimp only
    by_cases hr : mdR p d q bu bl au al
    · have hu := md_skU hq hd hj hr
      have e := hE.1 hr
      have hr2 := hr
      unfold mdR at hr2
      rw [e.1, h2, hu, if_pos (Or.inr e.2), if_pos hr2]
    · have e := hE.2 hr
      have hno : ¬ (v + 1 = 1 ∨ nrr p d q (skU p d q (v + 1)) (v + 1) (nbE p d q (bu, bl, au, al, r)).1 (nbE p d q (bu, bl, au, al, r)).2 = true) := by
        intro z
        rcases z with z | z
        · omega
        · by_cases hs : skU p d q (v + 1) = bu + au
          · rw [hs, h2] at z; exact e.2 z
          · exact nb_far hq hd hj (by omega) (nb_out hq hd hj (by omega) (Or.inr ⟨h2, hs⟩)) z
      have hr2 := hr
      unfold mdR at hr2
      rw [e.1, if_neg hno, if_neg hr2]
  · rw [bsN_s (by omega), k2]
    unfold bsC med
    rw [Int.add_zero]
    dsimp only
    rw [← h2]
    by_cases g : abv p d q (bu + au) (v + 1) = true
    · rw [if_pos g]
      have e := hf.2 g
      have hfl : ¬ abv p d q (flV p d q (v + 1)) (v + 1) = true := by rw [abv_fl hq hd]; omega
      have := (nb_out hq hd hj (n := flV p d q (v + 1)) (m := v + 1) (by omega) (Or.inr ⟨h2, by omega⟩)).1 hfl
      exact if_neg (fun z => by omega)
    · rw [if_neg g]
      have e := hf.1 g
      rw [e]
      exact if_pos (by omega)
  · rw [bsN_s (by omega), k3]
    unfold bsC med
    dsimp only
    rw [← h2]
    by_cases g : abv p d q (bu + au) (v + 1) = true
    · rw [if_pos g]
      have e := hf.2 g
      rw [e]
      exact if_pos (by omega)
    · rw [if_neg g]
      have e := hf.1 g
      have hfl : abv p d q (flV p d q (v + 1) + 1) (v + 1) = true := by rw [abv_fl hq hd]; omega
      have := (nb_out hq hd hj (n := flV p d q (v + 1) + 1) (m := v + 1) (by omega) (Or.inr ⟨h2, by omega⟩)).2 hfl
      exact if_neg (fun z => by omega)
theorem nb_start {p d q : Int} (h : vS p d q) : nbJ p d q (medN p d q (tm p d q 0) 0) ∧ nbK p d q (medN p d q (tm p d q 0) 0) 1 := by
  have hw := tm0_fl h
  have hq := h.2.2.2.1
  have hd : 0 ≤ d := by have := h.2.1; omega
  rw [hw]
  refine ⟨⟨by show (1 : Int) ≤ 1; omega, by show (1 : Int) ≤ 1; omega, ?_, ?_, ?_⟩, ?_, ?_, ?_⟩
  · show ¬ abv p d q (flV p d q 1) 1 = true
    rw [abv_fl hq hd]; omega
  · show abv p d q (flV p d q 1 + 1) 1 = true
    rw [abv_fl hq hd]; omega
  · show (flV p d q 1 + 1) * 1 - flV p d q 1 * 1 = 1
    omega
  · show skC p d q (((0 : Nat) : Int) + 1) (0, 0, 0) = _
    have e0 : ((0 : Nat) : Int) + 1 = 1 := by omega
    rw [e0]
    unfold skC nbE skU
    rw [if_pos (Or.inl rfl)]
    show _ = ((if nrr p d q (flV p d q 1 + 1) 1 (flV p d q 1) 1 = true then (flV p d q 1 + 1, (1 : Int)) else (flV p d q 1, 1)).1, (if nrr p d q (flV p d q 1 + 1) 1 (flV p d q 1) 1 = true then (flV p d q 1 + 1, (1 : Int)) else (flV p d q 1, 1)).2, (1 : Int))
    by_cases g : nrr p d q (flV p d q 1 + 1) 1 (flV p d q 1) 1 = true
    · rw [if_pos g, if_pos g]; rfl
    · rw [if_neg g, if_neg g]; rfl
  · show bsC p d q 0 (((0 : Nat) : Int) + 1) (0, 0) = (flV p d q 1, 1)
    have e0 : ((0 : Nat) : Int) + 1 = 1 := by omega
    rw [e0]
    unfold bsC
    rw [if_pos (Or.inl rfl), Int.add_zero]
  · show bsC p d q 1 (((0 : Nat) : Int) + 1) (0, 0) = (flV p d q 1 + 1, 1)
    have e0 : ((0 : Nat) : Int) + 1 = 1 := by omega
    rw [e0]
    unfold bsC
    rw [if_pos (Or.inl rfl)]
theorem nbK_to {p d q : Int} {c : zNb} (hq : q ≠ 0) (hd : 0 ≤ d) (h : nbJ p d q c) {v : Int} (h1 : 1 ≤ v) (hk : nbK p d q c v) : ∀ n : Nat, v + n < c.2.1 + c.2.2.2.1 → nbK p d q c (v + n)
  | 0, _ => by rw [show v + ((0 : Nat) : Int) = v by omega]; exact hk
  | n + 1, hn => by
    have ih := nbK_to hq hd h h1 hk n (by omega)
    have := nbK_same hq hd h ih (by omega) (by omega)
    rw [show v + ((n + 1 : Nat) : Int) = v + n + 1 by omega]; exact this
theorem nb_run {p d q : Int} (h : vS p d q) : ∀ k : Nat, nbJ p d q (medN p d q (tm p d q 0) k) ∧ ∀ v : Int, (medN p d q (tm p d q 0) k).2.1 ≤ v → (medN p d q (tm p d q 0) k).2.2.2.1 ≤ v → v < (medN p d q (tm p d q 0) k).2.1 + (medN p d q (tm p d q 0) k).2.2.2.1 → nbK p d q (medN p d q (tm p d q 0) k) v
  | 0 => by
    have h0 := nb_start h
    refine ⟨h0.1, fun v v1 v2 v3 => ?_⟩
    have e1 : (medN p d q (tm p d q 0) 0).2.1 = 1 := rfl
    have e2 : (medN p d q (tm p d q 0) 0).2.2.2.1 = 1 := rfl
    rw [e1] at v1 v3
    rw [e2] at v2 v3
    rw [show v = 1 by omega]; exact h0.2
  | k + 1 => by
    have hq := h.2.2.2.1
    have hd : 0 ≤ d := by have := h.2.1; omega
    have ih := nb_run h k
    have e : medN p d q (tm p d q 0) (k + 1) = med p d q (medN p d q (tm p d q 0) k) := rfl
    rw [e]
    generalize medN p d q (tm p d q 0) k = c at *
    obtain ⟨hj, hr⟩ := ih
    have hj2 := nbJ_med hj
    refine ⟨hj2, fun v v1 v2 v3 => ?_⟩
    have hb1 := hj.1
    have hb2 := hj.2.1
    have hk := hr (c.2.1 + c.2.2.2.1 - 1) (by omega) (by omega) (by omega)
    have hm := nbK_med hq hd hj hk (by omega) (by omega)
    rw [show c.2.1 + c.2.2.2.1 - 1 + 1 = c.2.1 + c.2.2.2.1 by omega] at hm
    have hge : c.2.1 + c.2.2.2.1 ≤ v := by
      obtain ⟨bu, bl, au, al, r⟩ := c
      unfold med at v1 v2
      dsimp only at v1 v2 ⊢
      by_cases g : abv p d q (bu + au) (bl + al) = true
      · rw [if_pos g] at v2; exact v2
      · rw [if_neg g] at v1; exact v1
    have := nbK_to hq hd hj2 (by omega) hm (v - (c.2.1 + c.2.2.2.1)).toNat (by omega)
    rw [show c.2.1 + c.2.2.2.1 + ((v - (c.2.1 + c.2.2.2.1)).toNat : Int) = v by omega] at this
    exact this
theorem nbP_K {p d q bd bu bl au al r : Int} (h : vS p d q) (hn : nbP p d q (tm p d q 0) bd bu bl au al r) : nbK p d q (bu, bl, au, al, r) bd := by
  obtain ⟨k, k0, k1, k2, k3, k4⟩ := hn
  have := (nb_run h k.toNat).2 bd
  rw [k1] at this
  exact this k3 k4 k2
theorem ne_eq {p d q bd pt z r : Int} (h : vS p d q) (hc : neC p d q (tm p d q 0) bd pt z) (hm : neM p d q bd pt r) : z = r := by
  rcases hc with ⟨h1, h2⟩ | ⟨h1, bu, bl, au, al, n, hn, h2⟩
  · rcases hm with ⟨g1, g2⟩ | ⟨g1, -⟩
    · omega
    · exact absurd g1 h1
  · rcases hm with ⟨g1, g2⟩ | ⟨g1, g2⟩
    · exact absurd h1 g1
    · have hk := (nbP_K h hn).1
      rw [hk] at g2
      unfold nbE at g2
      dsimp only at g2
      rcases h2 with ⟨h2, h3⟩ | ⟨h2, h3⟩
      · rw [if_pos h2] at g2
        dsimp only at g2
        rw [h3]
        unfold nbV
        rcases g2 with ⟨g2, g3⟩ | ⟨g2, g3⟩
        · rw [if_pos g2, if_neg (by decide)]; exact g3.symm
        · rw [if_neg (by omega), if_neg (by decide)]; exact g3.symm
      · rw [if_neg h2] at g2
        dsimp only at g2
        rw [h3]
        unfold nbV
        rcases g2 with ⟨g2, g3⟩ | ⟨g2, g3⟩
        · rw [if_pos g2, if_pos rfl]; exact g3.symm
        · rw [if_neg (by omega), if_pos rfl]; exact g3.symm
theorem be_eq {p d q bd ab pt z r : Int} (h : vS p d q) (hc : beC p d q (tm p d q 0) bd ab pt z) (hm : beM p d q bd ab pt r) : z = r := by
  rcases hc with ⟨h1, h2⟩ | ⟨h1, bu, bl, au, al, n, hn, h2⟩
  · rcases hm with ⟨g1, g2⟩ | ⟨g1, -⟩
    · omega
    · exact absurd g1 h1
  · rcases hm with ⟨g1, g2⟩ | ⟨g1, g2⟩
    · exact absurd h1 g1
    · have hk := (nbP_K h hn).2
      unfold nbV at h2
      by_cases q0 : ab = 0
      · rw [q0] at g2 h2
        rw [hk.1] at g2
        dsimp only at g2
        rcases g2 with ⟨g2, g3⟩ | ⟨g2, g3⟩
        · rw [if_pos g2, if_pos rfl] at h2; omega
        · rw [if_neg (by omega), if_pos rfl] at h2; omega
      · have q1 : ab = 1 := by omega
        rw [q1] at g2 h2
        rw [hk.2] at g2
        dsimp only at g2
        rcases g2 with ⟨g2, g3⟩ | ⟨g2, g3⟩
        · rw [if_pos g2, if_neg (by decide)] at h2; omega
        · rw [if_neg (by omega), if_neg (by decide)] at h2; omega
theorem re_eq {p d q bd z r : Int} (h : vS p d q) (hc : reC p d q (tm p d q 0) bd z) (hm : reM p d q bd r) : z = r := by
  rcases hc with ⟨h1, h2⟩ | ⟨h1, bu, bl, au, al, n, hn, h2⟩
  · rcases hm with ⟨g1, g2⟩ | ⟨g1, -⟩
    · omega
    · exact absurd g1 h1
  · rcases hm with ⟨g1, g2⟩ | ⟨g1, g2⟩
    · exact absurd h1 g1
    · have hk := (nbP_K h hn).1
      rw [hk] at g2
      dsimp only at g2
      omega
