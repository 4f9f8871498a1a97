/-! ===== MATH 14: the two sides answer alike: convergents, squares, texts, least solutions ===== -/
theorem xE_run {p d q lt lb ld pd cv : Int} {f U L : Int → Int} (h : xE p d q lt lb ld pd cv f U L) {k : Int} (h0 : 0 ≤ k) (hk : k ≤ 400) : chRun f k.toNat = chRun (tm p d q) k.toNat := chRun_cong (fun i i1 i2 => h.2.1 i i1 (by omega))
theorem xE_in {p d q lt lb ld pd cv : Int} {f U L : Int → Int} (h : xE p d q lt lb ld pd cv f U L) {k : Int} (h0 : 0 ≤ k) (hk : k < cv) : (chRun (tm p d q) (k + 1).toNat).1 = U k ∧ (chRun (tm p d q) (k + 1).toNat).2.1 = L k ∧ (chRun (tm p d q) (k + 1).toNat).2.2.1 = 0 := by
  have hc := h.2.2
  rw [← xE_run h (k := k + 1) (by omega) (by omega)]
  exact hc.2.2.1 k h0 hk
theorem xE_out {p d q lt lb ld pd cv : Int} {f U L : Int → Int} (h : xE p d q lt lb ld pd cv f U L) {k : Int} (hk : cv ≤ k) (h4 : cv < 400) : (chRun (tm p d q) (k + 1).toNat).2.2.1 = 1 := by
  have hc := h.2.2
  have h1 := hc.2.2.2 h4
  rw [xE_run h (k := cv + 1) (by omega) (by omega)] at h1
  exact chRun_over' h1 (by omega)
theorem cv_eq {p d q lt lb ld pd cv i pt r r' : Int} {f U L : Int → Int} (hx : xE p d q lt lb ld pd cv f U L) (h : cvC cv U L i pt r) (g : cvM p d q i pt r') : r = r' := by
  have hc := hx.2.2
  rcases h with ⟨h1, h2⟩ | ⟨h1, h2, h3⟩ | ⟨h1, h2, h3⟩
  · rcases g with ⟨g1, g2⟩ | ⟨g1, -⟩ | ⟨g1, -⟩
    · omega
    · exact absurd g1 h1
    · exact absurd g1 h1
  · have ho := xE_out hx (k := i) h2 (by omega)
    rcases g with ⟨g1, g2⟩ | ⟨g1, g2, g3⟩ | ⟨g1, g2, -⟩
    · exact absurd h1 g1
    · omega
    · omega
  · have hi := xE_in hx (k := i) h1.1.1 h2
    rcases g with ⟨g1, g2⟩ | ⟨g1, g2, g3⟩ | ⟨g1, g2, g3⟩
    · exact absurd h1 g1
    · omega
    · omega
theorem bt_eq {p d q lt lb ld pd cv i y pt r r' : Int} {f U L : Int → Int} (hx : xE p d q lt lb ld pd cv f U L) (h : btC cv f U L i y pt r) (g : btM p d q i y pt r') : r = r' := by
  have hc := hx.2.2
  have hok : btOk f i y pt ↔ btOk (tm p d q) i y pt := by
    unfold btOk
    constructor
    · intro z; have := hx.2.1 i (by omega) (by omega); omega
    · intro z; have := hx.2.1 i (by omega) (by omega); omega
  rcases h with ⟨h1, h2⟩ | ⟨h1, h2, h3⟩ | ⟨h1, h2, h3⟩
  · rw [hok] at h1
    rcases g with ⟨g1, g2⟩ | ⟨g1, -⟩ | ⟨g1, -⟩
    · omega
    · exact absurd g1 h1
    · exact absurd g1 h1
  · have hb := h1.1
    have ho := xE_out hx (k := i) h2 (by omega)
    rw [hok] at h1
    rcases g with ⟨g1, g2⟩ | ⟨g1, g2, g3⟩ | ⟨g1, g2, -⟩
    · exact absurd h1 g1
    · omega
    · omega
  · have hb := h1.1
    have hi := xE_in hx (k := i) (by omega) h2
    have h5 := xE_in hx (k := i - 1) (by omega) (by omega)
    have h6 := xE_in hx (k := i - 2) (by omega) (by omega)
    rw [show i - 1 + 1 = i by omega] at h5
    rw [show i - 2 + 1 = i - 1 by omega] at h6
    have hpv : (chRun (tm p d q) i.toNat).2.2.2.1 = (chRun (tm p d q) (i - 1).toNat).1 ∧ (chRun (tm p d q) i.toNat).2.2.2.2 = (chRun (tm p d q) (i - 1).toNat).2.1 := by
      generalize hcc : chRun (tm p d q) i.toNat = c at *
      obtain ⟨a1, b1, o1, e1, g1⟩ := c
      have ho := h5.2.2
      dsimp only at ho
      subst ho
      have := chRun_prev (f := tm p d q) (i := i - 1) (by omega) (by rw [show i - 1 + 1 = i by omega]; exact hcc)
      exact ⟨this.2.2.1, this.2.2.2.1⟩
    rw [hok] at h1
    rcases g with ⟨g1, g2⟩ | ⟨g1, g2, g3⟩ | ⟨g1, g2, g3⟩
    · exact absurd h1 g1
    · omega
    · rw [hpv.1, hpv.2, h5.1, h5.2.1, h6.1, h6.2.1] at g3
      omega
theorem sq_uniq {d n y y' idx : Int} (h0 : 0 ≤ y) (h0' : 0 ≤ y') (h : isSq d n y = true) (h' : isSq d n y' = true) (hc : cntS d n y.toNat = idx) (hc' : cntS d n y'.toNat = idx) : y = y' := by
  have e1 := cntS_t h0 rfl h
  have e2 := cntS_t h0' rfl h'
  rcases Int.lt_trichotomy y y' with q | q | q
  · have := cntS_le (d := d) (n := n) (i := y + 1) (j := y') (by omega) (by omega); omega
  · exact q
  · have := cntS_le (d := d) (n := n) (i := y' + 1) (j := y) (by omega) (by omega); omega
theorem sl_eq {d n ix pt r r' : Int} (h : slC d n ix pt r) (g : slC d n ix pt r') : r = r' := by
  rcases h with ⟨h1, h2⟩ | ⟨h1, h2, h3⟩ | ⟨h1, y, y1, y2, y3, y4, h3⟩
  · rcases g with ⟨g1, g2⟩ | ⟨g1, -⟩ | ⟨g1, -⟩
    · omega
    · exact absurd g1 h1
    · exact absurd g1 h1
  · rcases g with ⟨g1, g2⟩ | ⟨g1, g2, g3⟩ | ⟨g1, y, y1, y2, y3, y4, -⟩
    · exact absurd h1 g1
    · omega
    · exact absurd ⟨y, y1, y2, y3, y4⟩ h2
  · rcases g with ⟨g1, g2⟩ | ⟨g1, g2, g3⟩ | ⟨g1, x, x1, x2, x3, x4, g3⟩
    · exact absurd h1 g1
    · exact absurd ⟨y, y1, y2, y3, y4⟩ g2
    · have := sq_uniq y1 x1 y3 x3 y4 x4
      subst this
      omega
theorem sn_eq {d n r r' : Int} (h : snC d n r) (g : snC d n r') : r = r' := by
  rcases h with ⟨h1, h2⟩ | ⟨h1, h2⟩
  · rcases g with ⟨g1, g2⟩ | ⟨g1, g2⟩
    · omega
    · exact absurd g1 h1
  · rcases g with ⟨g1, g2⟩ | ⟨g1, g2⟩
    · exact absurd h1 g1
    · omega
theorem ft_eq {c : Int → Int} {n w r r' : Int} (h : ftC c n w r) (g : ftC c n w r') : r = r' := by
  rcases h with ⟨h1, h2⟩ | ⟨h1, ⟨k, hk⟩, h3⟩ | ⟨h1, fp, fr, hb, h3⟩
  · rcases g with ⟨g1, g2⟩ | ⟨g1, -⟩ | ⟨g1, -⟩
    · omega
    · exact absurd g1 h1
    · exact absurd g1 h1
  · rcases g with ⟨g1, g2⟩ | ⟨g1, -, g3⟩ | ⟨g1, fp, fr, hb, g3⟩
    · exact absurd h1 g1
    · omega
    · exact absurd (tFine_bad hk hb) id
  · rcases g with ⟨g1, g2⟩ | ⟨g1, ⟨k, hk⟩, g3⟩ | ⟨g1, fp', fr', hb', g3⟩
    · exact absurd h1 g1
    · exact absurd (tFine_bad hk hb) id
    · have := tBad_uniq hb hb'
      omega
theorem sh_eq {g g' f f' : Int → Int} {n r r' : Int} (hg : ∀ i : Int, 0 ≤ i → i < n → g i = g' i) (hf : ∀ i : Int, 0 ≤ i → i < n → f i = f' i) (h : shP g f n r) (h' : shP g' f' n r') : r = r' := by
  obtain ⟨a1, a2, a3, a4⟩ := h
  obtain ⟨b1, b2, b3, b4⟩ := h'
  rcases Int.lt_trichotomy r r' with q | q | q
  · have := a4 (by omega)
    exact absurd (by rw [hg r a1 (by omega), hf r a1 (by omega)]; exact b3 r a1 q) this
  · exact q
  · have := b4 (by omega)
    exact absurd (by rw [← hg r' b1 (by omega), ← hf r' b1 (by omega)]; exact a3 r' b1 q) this
theorem td_eq {p d q n w r r' : Int} {f f' c : Int → Int} (hn : n ≤ 40) (hf : ∀ i : Int, 0 ≤ i → i < 400 → f i = f' i) (h : tdC p d q f c n w r) (g : tdC p d q f' c n w r') : r = r' := by
  rcases h with ⟨h1, h2⟩ | ⟨h1, ⟨fp, fr, hb⟩, h3⟩ | ⟨h1, k, hk, hv⟩
  · rcases g with ⟨g1, g2⟩ | ⟨g1, -⟩ | ⟨g1, -⟩
    · omega
    · exact absurd g1 h1
    · exact absurd g1 h1
  · rcases g with ⟨g1, g2⟩ | ⟨g1, -, g3⟩ | ⟨g1, k, hk, -⟩
    · exact absurd h1 g1
    · omega
    · exact absurd (tFine_bad hk hb) id
  · rcases g with ⟨g1, g2⟩ | ⟨g1, ⟨fp, fr, hb⟩, g3⟩ | ⟨g1, k', hk', gv⟩
    · exact absurd h1 g1
    · exact absurd (tFine_bad hk hb) id
    · have := tFine_uniq hk hk'
      subst this
      have hb := tE_bd hk.1
      rcases hv with ⟨w1, w2⟩ | ⟨w1, e, e1, e2⟩ | ⟨w1, w2⟩ | ⟨w1, w2⟩
      · rcases gv with ⟨v1, v2⟩ | ⟨v1, -⟩ | ⟨v1, v2⟩ | ⟨v1, v2⟩ <;> omega
      · rcases gv with ⟨v1, v2⟩ | ⟨v1, e', e1', e2'⟩ | ⟨v1, v2⟩ | ⟨v1, v2⟩
        · omega
        · exact sh_eq (fun i i1 i2 => by rw [e1 i i1 (by omega), e1' i i1 (by omega)]) (fun i i1 i2 => hf i i1 (by omega)) e2 e2'
        · omega
        · omega
      · rcases gv with ⟨v1, v2⟩ | ⟨v1, -⟩ | ⟨v1, v2⟩ | ⟨v1, v2⟩
        · omega
        · omega
        · rcases w2 with ⟨w2, w3⟩ | ⟨w2, w3⟩
          · rcases v2 with ⟨v2, v3⟩ | ⟨v2, v3⟩
            · omega
            · exact absurd v2 w2
          · rcases v2 with ⟨v2, v3⟩ | ⟨v2, v3⟩
            · exact absurd w2 v2
            · rcases w3 with ⟨w3, w4⟩ | ⟨w3, w4⟩
              · rcases v3 with ⟨v3, v4⟩ | ⟨v3, v4⟩
                · omega
                · exact absurd w4 v4
              · rcases v3 with ⟨v3, v4⟩ | ⟨v3, v4⟩
                · exact absurd v4 w4
                · omega
        · omega
      · rcases gv with ⟨v1, v2⟩ | ⟨v1, -⟩ | ⟨v1, v2⟩ | ⟨v1, v2⟩ <;> omega
/-- lower parts grow: twice at least in two steps -/
theorem low_pow {f : Int → Int} {n : Int} (hf : fPos f n) : ∀ m : Nat, 2 * (m : Int) + 1 < n → (chRun f (2 * (m : Int) + 1).toNat).2.2.1 = 0 → ((2 ^ m : Nat) : Int) ≤ (chRun f (2 * (m : Int) + 1).toNat).2.1
  | 0, hn, ho => by
    have e : (2 * ((0 : Nat) : Int) + 1).toNat = 1 := rfl
    rw [e] at ho ⊢
    generalize hc : chRun f 1 = c at *
    obtain ⟨a, b, o, x, y⟩ := c
    dsimp only at ho
    subst ho
    have := chRun_nn (f := f) (n := n) (k := 1) hf (by omega) (by omega) hc
    show (1 : Int) ≤ b
    exact this.2.2.2.2.2.2 (by omega)
  | m + 1, hn, ho => by
    have e : 2 * ((m + 1 : Nat) : Int) + 1 = (2 * (m : Int) + 1 + 1) + 1 := by omega
    rw [e] at ho ⊢
    have h1 := low_up (j := 2 * (m : Int) + 1) hf (by omega) (by omega) (by omega) ho
    have h2 := low_up (j := 2 * (m : Int) + 1 + 1) hf (by omega) (by omega) (by omega) ho
    have h3 := low_up (j := 2 * (m : Int) + 1) (k := 2 * (m : Int) + 1 + 1) hf (by omega) (by omega) (by omega) h2.1
    have ih := low_pow hf m (by omega) h1.1
    generalize hc : chRun f (2 * (m : Int) + 1 + 1 + 1).toNat = c at *
    obtain ⟨a, b, o, x, y⟩ := c
    dsimp only at ho
    subst ho
    have hp := chRun_prev (f := f) (i := 2 * (m : Int) + 1 + 1) (by omega) hc
    generalize hd : chRun f (2 * (m : Int) + 1 + 1).toNat = d at *
    obtain ⟨a1, b1, o1, x1, y1⟩ := d
    have h21 := h2.1
    dsimp only at h21
    subst h21
    have hp2 := chRun_prev (f := f) (i := 2 * (m : Int) + 1) (by omega) hd
    have hn2 := chRun_nn (f := f) (n := n) hf (by omega) (by omega) hd
    have ht := hf.2 (2 * (m : Int) + 1 + 1) (by omega) (by omega)
    have hm := Int.mul_le_mul (a := 1) (c := f (2 * (m : Int) + 1 + 1)) (b := b1) (d := b1) ht (Int.le_refl _) hn2.2.1.1 (by omega)
    have e1 : y1 = (chRun f (2 * (m : Int) + 1).toNat).2.1 := hp2.2.2.2.1
    have e2 : b = f (2 * (m : Int) + 1 + 1) * b1 + y1 := hp.2.1
    have h32 : (chRun f (2 * (m : Int) + 1).toNat).2.1 ≤ b1 := h3.2
    have e3 : ((2 ^ (m + 1) : Nat) : Int) = 2 * ((2 ^ m : Nat) : Int) := by rw [Nat.pow_succ]; omega
    show ((2 ^ (m + 1) : Nat) : Int) ≤ b
    omega
theorem over_107 {f : Int → Int} {n : Int} (hf : fPos f n) (hn : 107 < n) : (chRun f 107).2.2.1 = 1 := by
  have ho := (chRun_ok f 107).2.2.1
  have hb := (chRun_ok f 107).2.1
  have h := low_pow hf 53 (by omega)
  have e : (2 * ((53 : Nat) : Int) + 1).toNat = 107 := rfl
  rw [e] at h
  have e2 : ((2 ^ 53 : Nat) : Int) = 9007199254740992 := rfl
  rw [e2] at h
  omega
theorem lsAt_bd {d j : Int} (hv : vS 0 d 1) (h : lsAt d j) : j < 107 := by
  refine Decidable.byContradiction (fun z => ?_)
  have h1 := over_107 (tm_fP hv 200) (by omega)
  have e : (107 : Int).toNat = 107 := rfl
  have h2 : (chRun (tm 0 d 1) (107 : Int).toNat).2.2.1 = 1 := by rw [e]; exact h1
  have h3 := chRun_over' h2 (j := j) (by omega)
  have := h.1
  omega
theorem lsAt_uniq {d i j : Int} (hi : 1 ≤ i) (hj : 1 ≤ j) (h : lsAt d i) (g : lsAt d j) : i = j := by
  rcases Int.lt_trichotomy i j with q | q | q
  · exact absurd ⟨h.2.1, h.2.2.1⟩ (g.2.2.2 i hi q)
  · exact q
  · exact absurd ⟨g.2.1, g.2.2.1⟩ (h.2.2.2 j hj q)
theorem ls_eq {d pt r r' : Int} (hv : vS 0 d 1) (h : lsC d pt r) (g : lsD d pt r') : r = r' := by
  rcases h with ⟨h1, h2⟩ | ⟨h1, h2, h3⟩ | ⟨h1, j, j1, j2, j3, h3⟩
  · rcases g with ⟨g1, g2⟩ | ⟨g1, -⟩ | ⟨g1, -⟩
    · omega
    · exact absurd g1 h1
    · exact absurd g1 h1
  · rcases g with ⟨g1, g2⟩ | ⟨g1, g2, g3⟩ | ⟨g1, j, j1, j2, j3, -⟩
    · exact absurd h1 g1
    · omega
    · exact absurd ⟨j, j1, by omega, j3⟩ h2
  · rcases g with ⟨g1, g2⟩ | ⟨g1, g2, g3⟩ | ⟨g1, i, i1, i2, i3, g3⟩
    · exact absurd h1 g1
    · have := lsAt_bd hv j3
      exact absurd ⟨j, j1, by omega, j3⟩ g2
    · have := lsAt_uniq j1 i1 j3 i3
      subst this
      omega
/-- a fraction of the book is a convergent of the object just when it is one of the first thirty -/
theorem ic_eq {p d q lt lb ld pd cv a b : Int} {f U L : Int → Int} (hv : vS p d q) (hx : xE p d q lt lb ld pd cv f U L) (hb : b ≤ 200) : (∃ k : Int, 0 ≤ k ∧ k < cv ∧ U k = a ∧ L k = b) ↔ icP (tm p d q) a b 30 := by
  have hc := hx.2.2
  have hf := tm_fP hv 500
  constructor
  · rintro ⟨k, k1, k2, k3, k4⟩
    have hi := xE_in hx k1 k2
    refine ⟨k + 1, by omega, ?_, hi.2.2, by rw [hi.1]; exact k3, by rw [hi.2.1]; exact k4⟩
    refine Decidable.byContradiction (fun z => ?_)
    have h1 := low_up (f := tm p d q) (n := 500) (j := 31) (k := k + 1) hf (by omega) (by omega) (by omega) hi.2.2
    have h2 := low_pow hf 15 (by omega)
    have e : (2 * ((15 : Nat) : Int) + 1).toNat = 31 := rfl
    have e1 : (31 : Int).toNat = 31 := rfl
    have e2 : ((2 ^ 15 : Nat) : Int) = 32768 := rfl
    rw [e, e2] at h2
    rw [e1] at h1
    have := h2 h1.1
    have := h1.2
    have := hi.2.1
    omega
  · rintro ⟨j, j1, j2, j3, j4, j5⟩
    have hlt : j - 1 < cv := by
      refine Decidable.byContradiction (fun z => ?_)
      have := xE_out hx (k := j - 1) (by omega) (by omega)
      rw [show j - 1 + 1 = j by omega] at this
      omega
    have hi := xE_in hx (k := j - 1) (by omega) hlt
    rw [show j - 1 + 1 = j by omega] at hi
    exact ⟨j - 1, by omega, hlt, by rw [← hi.1]; exact j4, by rw [← hi.2.1]; exact j5⟩
