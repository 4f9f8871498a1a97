/-! ===== MATH 15: periods: the first surd that comes again is the first reduced one ===== -/
theorem sS_pr {p d q : Int} (h : vS p d q) (k : Nat) : (sS p d q (k + 1)).2 * (sS p d q k).2 = Dd d q - (sS p d q (k + 1)).1 * (sS p d q (k + 1)).1 := by
  have o1 := sS_ok h k
  have e : sS p d q (k + 1) = stp (Dd d q) (rt (Dd d q)) (sS p d q k) := rfl
  rw [e]
  generalize sS p d q k = c at *
  obtain ⟨t, b⟩ := c
  obtain ⟨-, hdv, -⟩ := o1
  have hdv2 : b ∣ Dd d q - (stp (Dd d q) (rt (Dd d q)) (t, b)).1 * (stp (Dd d q) (rt (Dd d q)) (t, b)).1 := by
    have e1 : (stp (Dd d q) (rt (Dd d q)) (t, b)).1 = wh (rt (Dd d q)) t b * b - t := rfl
    rw [e1]
    obtain ⟨y, hy⟩ := hdv
    dsimp only at hy
    generalize wh (rt (Dd d q)) t b = w
    refine ⟨y - w * w * b + 2 * w * t, ?_⟩
    grind
  show Int.tdiv (Dd d q - (stp (Dd d q) (rt (Dd d q)) (t, b)).1 * (stp (Dd d q) (rt (Dd d q)) (t, b)).1) b * b = _
  exact Int.tdiv_mul_cancel hdv2
theorem sq_le_r {u r : Int} (h0 : -r ≤ u) (h1 : u ≤ r) : u * u ≤ r * r := (sq_bd ⟨h0, h1⟩).2
/-- behind a surd with a conjugate below 0 stands a reduced one -/
theorem red_next {D r t b u c : Int} (r0 : 0 ≤ r) (h1 : r * r < D) (h2 : D < (r + 1) * (r + 1)) (hb : 0 < b) (ht : t ≤ r) (ha : 1 ≤ wh r t b) (hu : u = wh r t b * b - t) (hp : c * b = D - u * u) : redS r u c := by
  have hw := whT_pos (r := r) (t := t) hb
  rw [← hu] at hw
  have hs := ediv_spec (a := t + r) (b := b) hb
  rw [← wh_pos (r := r) (t := t) hb] at hs
  generalize wh r t b = w at *
  have hwb := Int.mul_le_mul (a := 1) (c := w) (b := b) (d := b) ha (Int.le_refl _) (by omega) (by omega)
  have hu0 : 0 < u := by
    refine Decidable.byContradiction (fun z => ?_)
    by_cases q : w = 1
    · subst q; omega
    · have := Int.mul_le_mul (a := 2) (c := w) (b := b) (d := b) (by omega) (Int.le_refl _) (by omega) (by omega)
      omega
  have hu2 := sq_le_r (u := u) (r := r) (by omega) hw.2
  have hc0 : 0 < c := by
    refine Decidable.byContradiction (fun z => ?_)
    have := Int.mul_nonneg (a := -c) (b := b) (by omega) (by omega)
    have e6 : (-c) * b = -(c * b) := Int.neg_mul _ _
    omega
  refine ⟨hu0, hw.2, ?_, ?_⟩
  · refine Decidable.byContradiction (fun z => ?_)
    have e4 := Int.mul_le_mul (a := c) (c := r - u) (b := b) (d := r + u) (by omega) (by omega) (by omega) (by omega)
    have e5 : (r - u) * (r + u) = r * r - u * u := by grind
    omega
  · refine Decidable.byContradiction (fun z => ?_)
    have e4 := Int.mul_le_mul (a := r + u + 1) (c := c) (b := r + 1 - u) (d := b) (by omega) (by omega) (by omega) (by omega)
    have e5 : (r + u + 1) * (r + 1 - u) = (r + 1) * (r + 1) - u * u := by grind
    omega
theorem wh_red {r t b : Int} (h : redS r t b) (r0 : 0 ≤ r) : 0 < b ∧ t ≤ r ∧ 1 ≤ wh r t b := by
  obtain ⟨a1, a2, a3, a4⟩ := h
  have hb : 0 < b := by omega
  refine ⟨hb, a2, ?_⟩
  rw [wh_pos hb]
  exact Int.le_ediv_of_mul_le (a := 1) (b := t + r) hb (by omega)
/-- with a conjugate above 0 for three steps, the bottoms fall -/
theorem bot_fall {D r t b u c v e : Int} (r0 : 0 ≤ r) (h1 : r * r < D) (h2 : D < (r + 1) * (r + 1)) (hb : b ≠ 0) (hc : c ≠ 0) (he : e ≠ 0) (ha : 1 ≤ wh r u c) (hu : u = wh r t b * b - t) (hv : v = wh r u c * c - u) (hp : c * b = D - u * u) (hp2 : e * c = D - v * v) (n2 : ¬ (0 < c ∧ u ≤ r)) (n3 : ¬ (0 < e ∧ v ≤ r)) : zabs c < zabs b := by
  have zb := zabs_or b
  have zc := zabs_or c
  rcases Int.lt_trichotomy 0 b with h | h | h
  · have hw := whT_pos (r := r) (t := t) h
    rw [← hu] at hw
    have hc0 : c < 0 := by omega
    have hur : u ≤ -(r + 1) := by
      refine Decidable.byContradiction (fun z => ?_)
      have := sq_le_r (u := u) (r := r) (by omega) hw.2
      have := Int.mul_pos (a := -c) (b := b) (by omega) h
      have e6 : (-c) * b = -(c * b) := Int.neg_mul _ _
      omega
    refine Decidable.byContradiction (fun z => ?_)
    have e4 := Int.mul_le_mul (a := -u) (c := -c) (b := -u) (d := b) (by omega) (by omega) (by omega) (by omega)
    have e5 : (-u) * (-u) = u * u := Int.neg_mul_neg _ _
    have e6 : (-c) * b = -(c * b) := Int.neg_mul _ _
    have := Int.mul_nonneg r0 r0
    omega
  · omega
  · have hw := whT_neg (r := r) (t := t) h
    rw [← hu] at hw
    have hu2 : (r + 1) * (r + 1) ≤ u * u := Int.mul_le_mul (by omega) (by omega) (by omega) (by omega)
    have hc0 : 0 < c := by
      refine Decidable.byContradiction (fun z => ?_)
      have := Int.mul_nonneg (a := -c) (b := -b) (by omega) (by omega)
      have e6 : (-c) * (-b) = c * b := Int.neg_mul_neg _ _
      omega
    have hw2 := whT_pos (r := r) (t := u) hc0
    rw [← hv] at hw2
    have he0 : e < 0 := by omega
    have hvr : v ≤ -(r + 1) := by
      refine Decidable.byContradiction (fun z => ?_)
      have := sq_le_r (u := v) (r := r) (by omega) hw2.2
      have := Int.mul_pos (a := -e) (b := c) (by omega) hc0
      have e6 : (-e) * c = -(e * c) := Int.neg_mul _ _
      omega
    have hwb := Int.mul_le_mul (a := 1) (c := wh r u c) (b := c) (d := c) ha (Int.le_refl _) (by omega) (by omega)
    have hcu : c ≤ u - r - 1 := by omega
    have hbu : u + r + 1 ≤ -b := by
      refine Decidable.byContradiction (fun z => ?_)
      have e4 := Int.mul_le_mul (a := c) (c := u - r - 1) (b := -b) (d := u + r) (by omega) (by omega) (by omega) (by omega)
      have e5 : (u - r - 1) * (u + r) = u * u - r * r - u - r := by grind
      have e6 : c * (-b) = -(c * b) := Int.mul_neg _ _
      have e7 : (r + 1) * (r + 1) = r * r + 2 * r + 1 := by grind
      omega
    omega
theorem whS_pos {p d q : Int} (h : vS p d q) {k : Nat} (hk : 1 ≤ k) : 1 ≤ wh (rt (Dd d q)) (sS p d q k).1 (sS p d q k).2 := by
  have := tm_pos h (k := (k : Int)) (by omega)
  unfold tm at this
  rw [show ((k : Int)).toNat = k by omega] at this
  exact this
theorem sS_shift {p d q : Int} {j k : Nat} (h : sS p d q j = sS p d q k) : ∀ m : Nat, sS p d q (j + m) = sS p d q (k + m)
  | 0 => h
  | m + 1 => by
    show stp (Dd d q) (rt (Dd d q)) (sS p d q (j + m)) = stp (Dd d q) (rt (Dd d q)) (sS p d q (k + m))
    rw [sS_shift h m]
theorem red_up {p d q : Int} (h : vS p d q) {k : Nat} (hr : redA p d q k) : ∀ m : Nat, redA p d q (k + m)
  | 0 => hr
  | m + 1 => by
    have hv := vS_r h
    have ih := red_up h hr m
    have hw := wh_red ih hv.1
    exact red_next hv.1 hv.2.2.1 hv.2.2.2 hw.1 hw.2.1 hw.2.2 rfl (sS_pr h (k + m))
/-- a surd that comes again is reduced -/
theorem red_of_rep {p d q : Int} (h : vS p d q) {j k : Nat} (hjk : j < k) (he : sS p d q j = sS p d q k) : redA p d q j := by
  have hv := vS_r h
  have hex : ∃ m : Nat, k ≤ m ∧ 0 < (sS p d q m).2 ∧ (sS p d q m).1 ≤ rt (Dd d q) := by
    refine Classical.byContradiction (fun z => ?_)
    have hno : ∀ m : Nat, k ≤ m → ¬ (0 < (sS p d q m).2 ∧ (sS p d q m).1 ≤ rt (Dd d q)) := fun m hm y => z ⟨m, hm, y⟩
    have hf : ∀ m : Nat, k ≤ m → zabs (sS p d q (m + 1)).2 < zabs (sS p d q m).2 := fun m hm =>
      bot_fall hv.1 hv.2.2.1 hv.2.2.2 (sS_ok h m).1 (sS_ok h (m + 1)).1 (sS_ok h (m + 2)).1 (whS_pos h (by omega)) rfl rfl (sS_pr h m) (sS_pr h (m + 1)) (hno (m + 1) (by omega)) (hno (m + 2) (by omega))
    have hf2 : ∀ n : Nat, zabs (sS p d q (k + n)).2 + n ≤ zabs (sS p d q k).2 := by
      intro n
      induction n with
      | zero => show zabs (sS p d q k).2 + _ ≤ _; omega
      | succ n ih =>
        have := hf (k + n) (by omega)
        show zabs (sS p d q (k + n + 1)).2 + _ ≤ _
        omega
    have h1 := hf2 (k - j)
    have h2 := sS_shift he (k - j)
    rw [show j + (k - j) = k by omega] at h2
    rw [← h2] at h1
    omega
  obtain ⟨m, m1, m2, m3⟩ := hex
  have hm : redA p d q (m + 1) := red_next hv.1 hv.2.2.1 hv.2.2.2 m2 m3 (whS_pos h (by omega)) rfl (sS_pr h m)
  have hcyc : ∀ i : Nat, sS p d q (j + i * (k - j)) = sS p d q j := by
    intro i
    induction i with
    | zero => rw [Nat.zero_mul, Nat.add_zero]
    | succ i ih =>
      have := sS_shift he (i * (k - j))
      rw [ih] at this
      rw [Nat.succ_mul, show j + (i * (k - j) + (k - j)) = k + i * (k - j) by omega]
      exact this.symm
  have hge : m + 1 ≤ j + (m + 1) * (k - j) := by
    have := Nat.le_mul_of_pos_right (m + 1) (show 0 < k - j by omega)
    omega
  have := red_up h hm (j + (m + 1) * (k - j) - (m + 1))
  rw [show m + 1 + (j + (m + 1) * (k - j) - (m + 1)) = j + (m + 1) * (k - j) by omega] at this
  unfold redA at this ⊢
  rw [hcyc] at this
  exact this
theorem red_inj {p d q : Int} (h : vS p d q) {i j : Nat} (hi : redA p d q i) (hj : redA p d q j) (he : sS p d q (i + 1) = sS p d q (j + 1)) : sS p d q i = sS p d q j := by
  have p1 := sS_pr h i
  have p2 := sS_pr h j
  have o := (sS_ok h (j + 1)).1
  have e1 : (sS p d q (i + 1)).1 = wh (rt (Dd d q)) (sS p d q i).1 (sS p d q i).2 * (sS p d q i).2 - (sS p d q i).1 := rfl
  have e2 : (sS p d q (j + 1)).1 = wh (rt (Dd d q)) (sS p d q j).1 (sS p d q j).2 * (sS p d q j).2 - (sS p d q j).1 := rfl
  rw [he] at p1 e1
  unfold redA redS at hi hj
  generalize sS p d q (j + 1) = c at *
  generalize sS p d q i = x at *
  generalize sS p d q j = y at *
  obtain ⟨t, b⟩ := x
  obtain ⟨u, e⟩ := y
  dsimp only at *
  have hbe : b = e := Int.eq_of_mul_eq_mul_left o (p1.trans p2.symm)
  rw [← hbe] at e2 hj
  generalize wh (rt (Dd d q)) t b = w1 at *
  generalize wh (rt (Dd d q)) u b = w2 at *
  have hw : w1 = w2 := by
    rcases Int.lt_trichotomy w1 w2 with g | g | g
    · have e5 : w1 * b + b ≤ w2 * b := by
        have := Int.mul_nonneg (a := w2 - w1 - 1) (b := b) (by omega) (by omega)
        have e6 : (w2 - w1 - 1) * b = w2 * b - w1 * b - b := by grind
        omega
      omega
    · exact g
    · have e5 : w2 * b + b ≤ w1 * b := by
        have := Int.mul_nonneg (a := w1 - w2 - 1) (b := b) (by omega) (by omega)
        have e6 : (w1 - w2 - 1) * b = w1 * b - w2 * b - b := by grind
        omega
      omega
  rw [hw] at e1
  have htu : t = u := by omega
  rw [htu, hbe]
theorem red_back {p d q : Int} (h : vS p d q) {l n : Nat} (hl : redA p d q l) : ∀ i : Nat, sS p d q (l + i) = sS p d q (l + i + n) → sS p d q l = sS p d q (l + n)
  | 0, he => he
  | i + 1, he => by
    refine red_back h hl i (red_inj h (red_up h hl i) ?_ ?_)
    · have := red_up h hl (i + n)
      rw [show l + (i + n) = l + i + n by omega] at this
      exact this
    · rw [show l + i + n + 1 = l + (i + 1) + n by omega]; exact he
theorem per_eq {p d q lt lb ld pd : Int} (hv : vS p d q) (h : pdI p d q 401 lt lb ld pd) : (0 < pd → frRp p d q ld (ld + pd)) ∧ (pd ≤ 0 → noRp p d q 401) := by
  have hrep : ∀ a b : Int, 0 ≤ a → a < b → sS p d q a.toNat = sS p d q b.toNat → redA p d q a.toNat := fun a b h1 h2 h3 => red_of_rep hv (by omega) h3
  rcases h with ⟨h1, h2, h3⟩ | ⟨h1, h2, h3, h4, h5, h6⟩
  · refine ⟨fun z => by omega, fun _ a b a1 a2 a3 a4 => ?_⟩
    exact h3 a.toNat (by omega) (hrep a b a1 a2 a4)
  · have hback : ∀ a b : Int, 0 ≤ a → a < b → sS p d q a.toNat = sS p d q b.toNat → ld ≤ a ∧ sS p d q (ld + (b - a)).toNat = sS p d q ld.toNat := by
      intro a b a1 a2 a3
      have hr := hrep a b a1 a2 a3
      have hla : ld ≤ a := by
        refine Decidable.byContradiction (fun z => ?_)
        exact h4 a.toNat (by omega) hr
      refine ⟨hla, ?_⟩
      have := red_back hv h3 (n := (b - a).toNat) (a - ld).toNat (by
        rw [show ld.toNat + (a - ld).toNat = a.toNat by omega, show a.toNat + (b - a).toNat = b.toNat by omega]; exact a3)
      rw [show ld.toNat + (b - a).toNat = (ld + (b - a)).toNat by omega] at this
      exact this.symm
    rcases h6 with ⟨h6, h7⟩ | ⟨h6, h7, h8, h9⟩
    · refine ⟨fun z => by omega, fun _ a b a1 a2 a3 a4 => ?_⟩
      have hb := hback a b a1 a2 a4
      exact h7 (ld + (b - a)).toNat (by omega) (by omega) hb.2
    · refine ⟨fun _ => ⟨⟨h1, by omega, by omega⟩, h8.symm, fun a b a1 a2 a3 a4 => ?_, fun a a1 a2 a3 => ?_⟩, fun z => by omega⟩
      · have hb := hback a b a1 a2 a4
        exact h9 (ld + (b - a)).toNat (by omega) (by omega) hb.2
      · rw [h8] at a3
        exact h4 a.toNat (by omega) (hrep a ld a1 a2 a3)
theorem frRp_no {p d q j k : Int} (h : frRp p d q j k) (g : noRp p d q 401) : False := g j k h.1.1 h.1.2.1 (by have := h.1; omega) h.2.1
theorem frRp_uniq {p d q j k j' k' : Int} (h : frRp p d q j k) (g : frRp p d q j' k') : j = j' ∧ k = k' := by
  have h1 := h.1
  have g1 := g.1
  have hk : k = k' := by
    rcases Int.lt_trichotomy k k' with z | z | z
    · exact absurd h.2.1 (g.2.2.1 j k h1.1 h1.2.1 z)
    · exact z
    · exact absurd g.2.1 (h.2.2.1 j' k' g1.1 g1.2.1 z)
  refine ⟨?_, hk⟩
  rw [← hk] at g
  rcases Int.lt_trichotomy j j' with z | z | z
  · exact absurd h.2.1 (g.2.2.2 j h1.1 z)
  · exact z
  · exact absurd g.2.1 (h.2.2.2 j' g1.1 z)
theorem agV_eq {f : Int → Int} {ld pd what r r' : Int} (h : agV f ld pd what r) (g : agV f ld pd what r') : r = r' := by
  unfold agV at h g
  rcases h with h | h | h | h | ⟨h, h2⟩
  · rcases g with g | g | g | g | ⟨g, g2⟩ <;> omega
  · rcases g with g | g | g | g | ⟨g, g2⟩ <;> omega
  · rcases g with g | g | g | g | ⟨g, g2⟩ <;> omega
  · rcases g with g | g | g | g | ⟨g, g2⟩ <;> omega
  · rcases g with g | g | g | g | ⟨g, g2⟩
    · omega
    · omega
    · omega
    · omega
    · rcases h2 with ⟨h2, h3⟩ | ⟨h2, h3⟩
      · rcases g2 with ⟨g2, g3⟩ | ⟨g2, g3⟩
        · omega
        · exact absurd h3 g3
      · rcases g2 with ⟨g2, g3⟩ | ⟨g2, g3⟩
        · exact absurd g3 h3
        · omega
theorem ag_eq {p d q lt lb ld pd cv what r r' : Int} {f U L : Int → Int} (hv : vS p d q) (hx : xE p d q lt lb ld pd cv f U L) (h : agC f ld pd what r) (g : agM p d q what r') : r = r' := by
  have hp := per_eq hv hx.1
  rcases h with ⟨h1, h2⟩ | ⟨h1, h2, h3⟩ | ⟨h1, h2, h3⟩
  · rcases g with ⟨g1, g2⟩ | ⟨g1, -⟩ | ⟨g1, -⟩
    · omega
    · omega
    · omega
  · rcases g with ⟨g1, g2⟩ | ⟨g1, g2, g3⟩ | ⟨g1, j, k, g2, g3⟩
    · omega
    · omega
    · exact absurd (frRp_no g2 (hp.2 h2)) id
  · have hf := hp.1 h2
    rcases g with ⟨g1, g2⟩ | ⟨g1, g2, g3⟩ | ⟨g1, j, k, g2, g3⟩
    · omega
    · exact absurd (frRp_no hf g2) id
    · have hu := frRp_uniq hf g2
      have hb := hf.1
      rw [← hu.1, ← hu.2, show ld + pd - ld = pd by omega] at g3
      exact agV_eq (agV_cong (by omega) (fun i i1 i2 => hx.2.1 i (by omega) (by omega)) h3) g3
