/-! ===== MATH 11: terms are above 0 behind the first; the reference's fractions, distances, squares ===== -/
theorem stp_pos {D r t b : Int} (r0 : 0 ≤ r) (h1 : r * r < D) (h2 : D < (r + 1) * (r + 1)) (hb : b ≠ 0) (hdv : (stp D r (t, b)).2 * b = D - (stp D r (t, b)).1 * (stp D r (t, b)).1) (hb2 : (stp D r (t, b)).2 ≠ 0) : 1 ≤ wh r (stp D r (t, b)).1 (stp D r (t, b)).2 := by
  have ht : (stp D r (t, b)).1 = wh r t b * b - t := rfl
  generalize (stp D r (t, b)).2 = c at *
  generalize he : (stp D r (t, b)).1 = u at *
  rcases Int.lt_trichotomy 0 b with h | h | h
  · have hw := whT_pos (r := r) (t := t) h
    rw [← ht] at hw
    rcases Int.lt_trichotomy 0 c with g | g | g
    · rw [wh_pos g]
      have hc : c ≤ r + u := by
        refine Decidable.byContradiction (fun z => ?_)
        have hu : -r ≤ u := by
          refine Decidable.byContradiction (fun y => ?_)
          have e1 : 0 ≤ (-(u + r + 1)) * (r + 1 - u) := Int.mul_nonneg (by omega) (by omega)
          have e2 : (-(u + r + 1)) * (r + 1 - u) = u * u - (r + 1) * (r + 1) := by grind
          have e3 := Int.mul_pos g h
          omega
        have e4 := Int.mul_le_mul (a := r + u + 1) (c := c) (b := r + 1 - u) (d := b) (by omega) (by omega) (by omega) (by omega)
        have e5 : (r + u + 1) * (r + 1 - u) = (r + 1) * (r + 1) - u * u := by grind
        omega
      have := Int.le_ediv_of_mul_le (a := 1) (b := u + r) g (by omega)
      exact this
    · omega
    · rw [wh_neg g]
      have hu : u ≤ -r - 1 := by
        refine Decidable.byContradiction (fun y => ?_)
        have e1 : 0 ≤ (r - u) * (r + u) := Int.mul_nonneg (by omega) (by omega)
        have e2 : (r - u) * (r + u) = r * r - u * u := by grind
        have e3 := Int.mul_pos (a := -c) (b := b) (by omega) h
        have e4 : (-c) * b = -(c * b) := Int.neg_mul _ _
        omega
      have hc : -c ≤ -u - r - 1 := by
        refine Decidable.byContradiction (fun z => ?_)
        have e4 := Int.mul_le_mul (a := -u - r) (c := -c) (b := r - u + 1) (d := b) (by omega) (by omega) (by omega) (by omega)
        have e5 : (-u - r) * (r - u + 1) = u * u - r * r + (-u - r) := by grind
        have e6 : (-c) * b = -(c * b) := Int.neg_mul _ _
        omega
      have := Int.ediv_lt_of_lt_mul (a := u + r) (b := -1) (c := -c) (by omega) (by omega)
      omega
  · omega
  · have hw := whT_neg (r := r) (t := t) h
    rw [← ht] at hw
    have hc0 : 0 < c := by
      refine Decidable.byContradiction (fun z => ?_)
      have e1 : 0 ≤ (u - r - 1) * (u + r + 1) := Int.mul_nonneg (by omega) (by omega)
      have e2 : (u - r - 1) * (u + r + 1) = u * u - (r + 1) * (r + 1) := by grind
      have e3 : 0 < (-c) * (-b) := Int.mul_pos (by omega) (by omega)
      have e4 : (-c) * (-b) = c * b := Int.neg_mul_neg _ _
      omega
    rw [wh_pos hc0]
    have hc : c ≤ u + r := by
      refine Decidable.byContradiction (fun z => ?_)
      have e4 := Int.mul_le_mul (a := u + r + 1) (c := c) (b := u - r) (d := -b) (by omega) (by omega) (by omega) (by omega)
      have e5 : (u + r + 1) * (u - r) = u * u - r * r + (u - r) := by grind
      have e6 : c * (-b) = -(c * b) := Int.mul_neg _ _
      omega
    exact Int.le_ediv_of_mul_le (a := 1) (b := u + r) hc0 (by omega)
theorem tm_pos {p d q : Int} (h : vS p d q) {k : Int} (hk : 1 ≤ k) : 1 ≤ tm p d q k := by
  have hr := vS_r h
  have hk2 : k.toNat = (k.toNat - 1) + 1 := by omega
  have o1 := sS_ok h (k.toNat - 1)
  have o2 := sS_ok h ((k.toNat - 1) + 1)
  have e : sS p d q ((k.toNat - 1) + 1) = stp (Dd d q) (rt (Dd d q)) (sS p d q (k.toNat - 1)) := rfl
  unfold tm
  rw [hk2, e]
  rw [e] at o2
  generalize sS p d q (k.toNat - 1) = c at *
  obtain ⟨t, b⟩ := c
  refine stp_pos hr.1 hr.2.2.1 hr.2.2.2 o1.1 ?_ o2.1
  obtain ⟨-, hdv, -⟩ := o1
  have hdv2 : b ∣ Dd d q - (stp (Dd d q) (rt (Dd d q)) (t, b)).1 * (stp (Dd d q) (rt (Dd d q)) (t, b)).1 := by
    have e1 : (stp (Dd d q) (rt (Dd d q)) (t, b)).1 = wh (rt (Dd d q)) t b * b - t := rfl
    rw [e1]
    obtain ⟨y, hy⟩ := hdv
    dsimp only at hy
    generalize wh (rt (Dd d q)) t b = w
    refine ⟨y - w * w * b + 2 * w * t, ?_⟩
    grind
  show Int.tdiv (Dd d q - (stp (Dd d q) (rt (Dd d q)) (t, b)).1 * (stp (Dd d q) (rt (Dd d q)) (t, b)).1) b * b = _
  exact Int.tdiv_mul_cancel hdv2
theorem go_big {t u a : Int} (h : 36000000000000000 / (zabs t + 1) < zabs u) (hu : -9000000000000000 ≤ u ∧ u ≤ 9000000000000000) (ha : -9000000000000000 ≤ a ∧ a ≤ 9000000000000000) : 9000000000000000 < zabs (t * u + a) := by
  have zt := zabs_nonneg t
  have h1 := (Int.ediv_lt_iff_lt_mul (a := 36000000000000000) (b := zabs u) (c := zabs t + 1) (by omega)).mp h
  have h2 : zabs u * (zabs t + 1) = zabs (t * u) + zabs u := by rw [zabs_mul, Int.mul_add, Int.mul_one, Int.mul_comm]
  have z1 := zabs_or (t * u)
  have z2 := zabs_or u
  have z3 := zabs_or (t * u + a)
  omega
theorem go_bd {t u : Int} (h : zabs u ≤ 36000000000000000 / (zabs t + 1)) : -36000000000000000 ≤ t * u ∧ t * u ≤ 36000000000000000 := by
  have zt := zabs_nonneg t
  have zu0 := zabs_nonneg u
  have h1 := (Int.le_ediv_iff_mul_le (a := zabs u) (b := 36000000000000000) (c := zabs t + 1) (by omega)).mp h
  have h2 : zabs u * (zabs t + 1) = zabs (t * u) + zabs u := by rw [zabs_mul, Int.mul_add, Int.mul_one, Int.mul_comm]
  have z1 := zabs_or (t * u)
  omega
theorem go_nn {t v b : Int} (h : 0 ≤ t ∨ v = 0) (hv : 0 ≤ v) (hb : 0 ≤ b) : 0 ≤ t * v + b := by
  rcases h with h | h
  · have := Int.mul_nonneg h hv; omega
  · subst h; omega
def goI (f : Int → Int) (k is a b e g : Int) : Prop := (is = 1 ∧ chRun f k.toNat = (a, b, 0, e, g)) ∨ (is = 0 ∧ (chRun f k.toNat).2.2.1 = 1)
def fPos (f : Int → Int) (n : Int) : Prop := (∀ i : Int, 0 ≤ i → i < n → -1000000 ≤ f i ∧ f i ≤ 1000000) ∧ ∀ i : Int, 1 ≤ i → i < n → 1 ≤ f i
theorem chRun_nn {f : Int → Int} {n k a b e g : Int} (hf : fPos f n) (h0 : 0 ≤ k) (hk : k < n) (h : chRun f k.toNat = (a, b, 0, e, g)) : (-9000000000000000 ≤ a ∧ a ≤ 9000000000000000) ∧ (0 ≤ b ∧ b ≤ 9000000000000000) ∧ (-9000000000000000 ≤ e ∧ e ≤ 9000000000000000) ∧ (0 ≤ g ∧ g ≤ 9000000000000000) ∧ (0 ≤ f k ∨ b = 0) ∧ (-1000000 ≤ f k ∧ f k ≤ 1000000) ∧ (1 ≤ k → 1 ≤ b) := by
  have hb := chRun_bd h
  by_cases q : k = 0
  · subst q
    have e1 : (1, 0, 0, 0, 1) = (a, b, (0 : Int), e, g) := h
    simp only [Prod.mk.injEq] at e1
    have := hf.1 0 (by omega) (by omega)
    omega
  · have hp := chRun_pos (f := f) (k := k.toNat) (hf.1 0 (by omega) (by omega)) (fun i h1 h2 => hf.2 i h1 (by omega)) (by omega)
    rw [h] at hp
    dsimp only at hp
    have := hf.2 k (by omega) hk
    have := hf.1 k (by omega) hk
    omega
theorem goI_0 {f : Int → Int} : goI f 0 1 1 0 0 1 := Or.inl ⟨rfl, rfl⟩
theorem goI_get {f : Int → Int} {k is a b e g : Int} (h : goI f k is a b e g) (h1 : is ≠ 0) : chRun f k.toNat = (a, b, 0, e, g) := by
  rcases h with h | h
  · exact h.2
  · omega
theorem goI_s {f : Int → Int} {k a b e g a' b' o' e' g' t : Int} (h0 : 0 ≤ k) (h : chRun f k.toNat = (a, b, 0, e, g)) (ht : t = f k) (hc : chAdd t (a, b, 0, e, g) = (a', b', o', e', g')) : (o' = 0 → goI f (k + 1) 1 a' b' e' g') ∧ (¬ o' = 0 → goI f (k + 1) 0 a' b' e' g') := by
  have := chRun_s h0 h ht hc
  have hb := chRun_bd this
  refine ⟨fun z => Or.inl ⟨rfl, by rw [← z]; exact this⟩, fun z => Or.inr ⟨rfl, by rw [this]; dsimp only; omega⟩⟩
theorem goI_b {f : Int → Int} {k is a b e g : Int} (h : goI f k is a b e g) : is = 0 ∨ is = 1 := by unfold goI at h; omega
theorem goI_end {f : Int → Int} {i k is a b e g : Int} (h : goI f k is a b e g) (hk : i < k ∨ is = 0) (hk2 : k ≤ i + 1) : ((1 = is ∧ (chRun f (i + 1).toNat).2.2.1 = 0) ∨ (0 = is ∧ ¬ (chRun f (i + 1).toNat).2.2.1 = 0)) ∧ ((chRun f (i + 1).toNat).2.2.1 = 0 → chRun f (i + 1).toNat = (a, b, 0, e, g)) := by
  rcases h with h | h
  · have : k = i + 1 := by omega
    subst this
    rw [h.2]
    exact ⟨Or.inl ⟨h.1.symm, rfl⟩, fun _ => rfl⟩
  · have := chRun_over' h.2 hk2
    rw [this]
    exact ⟨Or.inr ⟨h.1.symm, by decide⟩, fun z => absurd z (by decide)⟩
theorem tm_fP {p d q : Int} (h : vS p d q) (n : Int) : fPos (tm p d q) n := ⟨fun i _ _ => by have := tm_bd h i; omega, fun i h1 _ => tm_pos h h1⟩
def cvM (p d q i pt r : Int) : Prop := (¬ ((0 ≤ i ∧ i ≤ 399) ∧ (0 ≤ pt ∧ pt ≤ 1)) ∧ r = -1000001) ∨ (((0 ≤ i ∧ i ≤ 399) ∧ (0 ≤ pt ∧ pt ≤ 1)) ∧ ¬ (chRun (tm p d q) (i + 1).toNat).2.2.1 = 0 ∧ r = -1000003) ∨ (((0 ≤ i ∧ i ≤ 399) ∧ (0 ≤ pt ∧ pt ≤ 1)) ∧ (chRun (tm p d q) (i + 1).toNat).2.2.1 = 0 ∧ ((pt = 0 ∧ r = (chRun (tm p d q) (i + 1).toNat).1 + 9000000000000000) ∨ (pt = 1 ∧ r = (chRun (tm p d q) (i + 1).toNat).2.1)))
def btM (p d q i y pt r : Int) : Prop := (¬ btOk (tm p d q) i y pt ∧ r = -1000001) ∨ (btOk (tm p d q) i y pt ∧ ¬ (chRun (tm p d q) (i + 1).toNat).2.2.1 = 0 ∧ r = -1000003) ∨ (btOk (tm p d q) i y pt ∧ (chRun (tm p d q) (i + 1).toNat).2.2.1 = 0 ∧ ((pt = 0 ∧ r = y * (chRun (tm p d q) i.toNat).1 + (chRun (tm p d q) i.toNat).2.2.2.1 + 9000000000000000) ∨ (pt = 1 ∧ r = y * (chRun (tm p d q) i.toNat).2.1 + (chRun (tm p d q) i.toNat).2.2.2.2)))
theorem chRun_prev {f : Int → Int} {i a b e g : Int} (h0 : 0 ≤ i) (h : chRun f (i + 1).toNat = (a, b, 0, e, g)) : a = f i * (chRun f i.toNat).1 + (chRun f i.toNat).2.2.2.1 ∧ b = f i * (chRun f i.toNat).2.1 + (chRun f i.toNat).2.2.2.2 ∧ e = (chRun f i.toNat).1 ∧ g = (chRun f i.toNat).2.1 ∧ (chRun f i.toNat).2.2.1 ≠ 1 := by
  rw [show (i + 1).toNat = i.toNat + 1 by omega] at h
  have h2 : chAdd (f (i.toNat : Nat)) (chRun f i.toNat) = (a, b, 0, e, g) := h
  rw [show ((i.toNat : Nat) : Int) = i by omega] at h2
  generalize chRun f i.toNat = c at *
  obtain ⟨u, v, o, x, y⟩ := c
  by_cases q : o = 1 ∨ 9000000000000000 < zabs (f i * u + x) ∨ 9000000000000000 < zabs (f i * v + y)
  · rw [chAdd_over q] at h2
    simp only [Prod.mk.injEq] at h2
    omega
  · rw [chAdd_go q] at h2
    simp only [Prod.mk.injEq] at h2
    dsimp only
    exact ⟨h2.1.symm, h2.2.1.symm, h2.2.2.2.1.symm, h2.2.2.2.2.symm, fun z => q (Or.inl z)⟩
theorem bt_id {t y u x e a : Int} (h1 : a = t * u + x) (h2 : e = u) : a - (t - y) * e = y * u + x := by subst h1 h2; grind
def flV (p d q v : Int) : Int := wh (rt ((v * v) * d)) (v * p) q
theorem vvd_bd {p d q v : Int} (h : vS p d q) (hv : 1 ≤ v ∧ v ≤ 200) : (1 ≤ v * v ∧ v * v ≤ 40000) ∧ (0 ≤ (v * v) * d ∧ (v * v) * d ≤ 39960000) ∧ (0 ≤ rt ((v * v) * d) ∧ rt ((v * v) * d) ≤ 6321) ∧ (-19800 ≤ v * p ∧ v * p ≤ 19800) := by
  obtain ⟨h1, h2, -⟩ := h
  have e1 := Int.mul_le_mul (a := 1) (c := v) (b := 1) (d := v) (by omega) (by omega) (by omega) (by omega)
  have e2 := sq_bd (a := v) (M := 200) (by omega)
  have e3 := mul_bd (a := v * v) (b := d) (M := 40000) (N := 999) (by omega) (by omega)
  have e4 := Int.mul_nonneg (a := v * v) (b := d) (by omega) (by omega)
  have e5 := rt_le (x := (v * v) * d) (r := 6321) (by omega) e4 (by omega)
  have e6 := rt_nonneg ((v * v) * d)
  have e7 := mul_bd (a := v) (b := p) (M := 200) (N := 99) (by omega) h1
  omega
theorem flV_bd {p d q v : Int} (h : vS p d q) (hv : 1 ≤ v ∧ v ≤ 200) : -26122 ≤ flV p d q v ∧ flV p d q v ≤ 26122 := by
  have := vvd_bd h hv
  exact wh_bd (M := 26121) (by omega)
def skU (p d q v : Int) : Int := if nrr p d q (flV p d q v + 1) v (flV p d q v) v = true then flV p d q v + 1 else flV p d q v
def skC (p d q : Int) (v : Int) (c : Int × Int × Int) : Int × Int × Int := if v = 1 ∨ nrr p d q (skU p d q v) v c.1 c.2.1 = true then (skU p d q v, v, c.2.2 + 1) else c
def skN (p d q x0 y0 : Int) : Nat → Int × Int × Int
  | 0 => (x0, y0, 0)
  | k + 1 => skC p d q ((k : Int) + 1) (skN p d q x0 y0 k)
theorem skU_bd {p d q v : Int} (h : vS p d q) (hv : 1 ≤ v ∧ v ≤ 200) : okF (skU p d q v) v := by
  have := flV_bd h hv
  unfold okF skU
  split <;> omega
def skI (p d q x0 y0 v x y n : Int) : Prop := skN p d q x0 y0 (v - 1).toNat = (x, y, n) ∧ (1 < v → okF x y) ∧ 0 ≤ n ∧ n ≤ v - 1
theorem skI_0 {p d q x0 y0 : Int} : skI p d q x0 y0 1 x0 y0 0 := ⟨rfl, fun z => absurd z (by decide), by omega, by omega⟩
theorem skI_s {p d q x0 y0 v x y n : Int} (hs : vS p d q) (hv : 1 ≤ v ∧ v ≤ 200) (h : skI p d q x0 y0 v x y n) {u : Int} (hu : u = skU p d q v) : (v = 1 ∨ nrr p d q u v x y = true → skI p d q x0 y0 (v + 1) u v (n + 1)) ∧ (¬ (v = 1 ∨ nrr p d q u v x y = true) → skI p d q x0 y0 (v + 1) x y n) := by
  subst hu
  have e : skN p d q x0 y0 (v + 1 - 1).toNat = skC p d q v (x, y, n) := by
    rw [show (v + 1 - 1).toNat = (v - 1).toNat + 1 by omega]
    show skC p d q (((v - 1).toNat : Int) + 1) (skN p d q x0 y0 (v - 1).toNat) = _
    rw [h.1, show ((v - 1).toNat : Int) + 1 = v by omega]
  have ok := skU_bd hs hv
  have hn := h.2.2
  refine ⟨fun z => ⟨?_, fun _ => ok, by omega, by omega⟩, fun z => ⟨?_, fun _ => h.2.1 (by have := z; omega), by omega, by omega⟩⟩
  · rw [e]; exact if_pos z
  · rw [e]; exact if_neg z
theorem skN_ind {p d q x y x' y' : Int} : ∀ k : Nat, skN p d q x y (k + 1) = skN p d q x' y' (k + 1)
  | 0 => by
    show skC p d q (((0 : Nat) : Int) + 1) (x, y, 0) = skC p d q (((0 : Nat) : Int) + 1) (x', y', 0)
    unfold skC
    have e0 : ((0 : Nat) : Int) + 1 = 1 := by omega
    rw [e0, if_pos (Or.inl rfl), if_pos (Or.inl rfl)]
  | k + 1 => by
    show skC p d q _ (skN p d q x y (k + 1)) = skC p d q _ (skN p d q x' y' (k + 1))
    rw [skN_ind k]
def neM (p d q bd pt r : Int) : Prop := (¬ ((1 ≤ bd ∧ bd ≤ 200) ∧ (0 ≤ pt ∧ pt ≤ 1)) ∧ r = -1000001) ∨ (((1 ≤ bd ∧ bd ≤ 200) ∧ (0 ≤ pt ∧ pt ≤ 1)) ∧ ((pt = 0 ∧ r = (skN p d q 0 0 bd.toNat).1 + 1000000) ∨ (pt = 1 ∧ r = (skN p d q 0 0 bd.toNat).2.1)))
def reM (p d q bd r : Int) : Prop := (¬ (1 ≤ bd ∧ bd ≤ 200) ∧ r = -1000001) ∨ ((1 ≤ bd ∧ bd ≤ 200) ∧ r = (skN p d q 0 0 bd.toNat).2.2)
theorem skI_end {p d q x0 y0 v x y n bd : Int} (h : skI p d q x0 y0 v x y n) (hv : v = bd + 1) (hb : 1 ≤ bd) : skN p d q 0 0 bd.toNat = (x, y, n) ∧ okF x y := by
  subst hv
  refine ⟨?_, h.2.1 (by omega)⟩
  have h1 := h.1
  rw [show (bd + 1 - 1).toNat = (bd.toNat - 1) + 1 by omega, skN_ind (x' := 0) (y' := 0)] at h1
  rw [show bd.toNat = (bd.toNat - 1) + 1 by omega]; exact h1
def bsC (p d q ab v : Int) (c : Int × Int) : Int × Int := if v = 1 ∨ (ab = 0 ∧ 0 < (flV p d q v + ab) * c.2 - c.1 * v) ∨ (ab ≠ 0 ∧ (flV p d q v + ab) * c.2 - c.1 * v < 0) then (flV p d q v + ab, v) else c
def bsN (p d q ab x0 y0 : Int) : Nat → Int × Int
  | 0 => (x0, y0)
  | k + 1 => bsC p d q ab ((k : Int) + 1) (bsN p d q ab x0 y0 k)
def bsI (p d q ab x0 y0 v x y : Int) : Prop := bsN p d q ab x0 y0 (v - 1).toNat = (x, y) ∧ (1 < v → okF x y)
theorem bsI_0 {p d q ab x0 y0 : Int} : bsI p d q ab x0 y0 1 x0 y0 := ⟨rfl, fun z => absurd z (by decide)⟩
theorem bsI_s {p d q ab x0 y0 v x y : Int} (hs : vS p d q) (ha : ab = 0 ∨ ab = 1) (hv : 1 ≤ v ∧ v ≤ 200) (h : bsI p d q ab x0 y0 v x y) : (v = 1 ∨ (ab = 0 ∧ 0 < (flV p d q v + ab) * y - x * v) ∨ (ab ≠ 0 ∧ (flV p d q v + ab) * y - x * v < 0) → bsI p d q ab x0 y0 (v + 1) (flV p d q v + ab) v) ∧ (¬ (v = 1 ∨ (ab = 0 ∧ 0 < (flV p d q v + ab) * y - x * v) ∨ (ab ≠ 0 ∧ (flV p d q v + ab) * y - x * v < 0)) → bsI p d q ab x0 y0 (v + 1) x y) := by
  have e : bsN p d q ab x0 y0 (v + 1 - 1).toNat = bsC p d q ab v (x, y) := by
    rw [show (v + 1 - 1).toNat = (v - 1).toNat + 1 by omega]
    show bsC p d q ab (((v - 1).toNat : Int) + 1) (bsN p d q ab x0 y0 (v - 1).toNat) = _
    rw [h.1, show ((v - 1).toNat : Int) + 1 = v by omega]
  have ok := flV_bd hs hv
  refine ⟨fun z => ⟨?_, fun _ => by unfold okF; omega⟩, fun z => ⟨?_, fun _ => h.2 (by omega)⟩⟩
  · rw [e]; exact if_pos z
  · rw [e]; exact if_neg z
theorem bsN_ind {p d q ab x y x' y' : Int} : ∀ k : Nat, bsN p d q ab x y (k + 1) = bsN p d q ab x' y' (k + 1)
  | 0 => by
    show bsC p d q ab (((0 : Nat) : Int) + 1) (x, y) = bsC p d q ab (((0 : Nat) : Int) + 1) (x', y')
    unfold bsC
    have e0 : ((0 : Nat) : Int) + 1 = 1 := by omega
    rw [e0, if_pos (Or.inl rfl), if_pos (Or.inl rfl)]
  | k + 1 => by
    show bsC p d q ab _ (bsN p d q ab x y (k + 1)) = bsC p d q ab _ (bsN p d q ab x' y' (k + 1))
    rw [bsN_ind k]
theorem bsI_end {p d q ab x0 y0 v x y bd : Int} (h : bsI p d q ab x0 y0 v x y) (hv : v = bd + 1) (hb : 1 ≤ bd) : bsN p d q ab 0 0 bd.toNat = (x, y) ∧ okF x y := by
  subst hv
  refine ⟨?_, h.2 (by omega)⟩
  have h1 := h.1
  rw [show (bd + 1 - 1).toNat = (bd.toNat - 1) + 1 by omega, bsN_ind (x' := 0) (y' := 0)] at h1
  rw [show bd.toNat = (bd.toNat - 1) + 1 by omega]; exact h1
def beM (p d q bd ab pt r : Int) : Prop := (¬ ((1 ≤ bd ∧ bd ≤ 200) ∧ (0 ≤ ab ∧ ab ≤ 1) ∧ (0 ≤ pt ∧ pt ≤ 1)) ∧ r = -1000001) ∨ (((1 ≤ bd ∧ bd ≤ 200) ∧ (0 ≤ ab ∧ ab ≤ 1) ∧ (0 ≤ pt ∧ pt ≤ 1)) ∧ ((pt = 0 ∧ r = (bsN p d q ab 0 0 bd.toNat).1 + 1000000) ∨ (pt = 1 ∧ r = (bsN p d q ab 0 0 bd.toNat).2)))
theorem cntS_mono {d n : Int} : ∀ (k : Nat) {j : Nat}, cntS d n j ≤ cntS d n (j + k)
  | 0, j => Int.le_refl _
  | k + 1, j => by
    have := cntS_mono k (d := d) (n := n) (j := j)
    have e : cntS d n (j + (k + 1)) = cntS d n (j + k) + (if isSq d n ((j + k : Nat) : Int) = true then 1 else 0) := rfl
    rw [e]
    split <;> omega
theorem cntS_le {d n i j : Int} (h0 : 0 ≤ i) (h : i ≤ j) : cntS d n i.toNat ≤ cntS d n j.toNat := by
  have := cntS_mono (d := d) (n := n) (j.toNat - i.toNat) (j := i.toNat)
  rw [show i.toNat + (j.toNat - i.toNat) = j.toNat by omega] at this
  exact this
def slI (d n idx y c x1 y1 : Int) : Prop := c = cntS d n y.toNat ∧ ∀ y' : Int, 0 ≤ y' → y' < y → isSq d n y' = true → cntS d n y'.toNat = idx → x1 = rt ((d * y') * y' + n) ∧ y1 = y'
theorem slI_0 {d n idx x1 y1 : Int} : slI d n idx 0 0 x1 y1 := ⟨rfl, fun y' h1 h2 => absurd h1 (by omega)⟩
theorem slI_f {d n idx y c x1 y1 : Int} (h : slI d n idx y c x1 y1) (h0 : 0 ≤ y) (hs : ¬ isSq d n y = true) : slI d n idx (y + 1) c x1 y1 := by
  refine ⟨cntS_f h0 h.1 hs, fun y' h1 h2 h3 h4 => ?_⟩
  by_cases q : y' = y
  · subst q; exact absurd h3 hs
  · exact h.2 y' h1 (by omega) h3 h4
theorem slI_o {d n idx y c x1 y1 : Int} (h : slI d n idx y c x1 y1) (h0 : 0 ≤ y) (hs : isSq d n y = true) (hc : c ≠ idx) : slI d n idx (y + 1) (c + 1) x1 y1 := by
  refine ⟨cntS_t h0 h.1 hs, fun y' h1 h2 h3 h4 => ?_⟩
  by_cases q : y' = y
  · subst q; exact absurd (h.1.trans h4) hc
  · exact h.2 y' h1 (by omega) h3 h4
theorem slI_t {d n idx y c x1 y1 x : Int} (h : slI d n idx y c x1 y1) (h0 : 0 ≤ y) (hs : isSq d n y = true) (hc : c = idx) (hx : x = rt ((d * y) * y + n)) : slI d n idx (y + 1) (c + 1) x y := by
  refine ⟨cntS_t h0 h.1 hs, fun y' h1 h2 h3 h4 => ?_⟩
  by_cases q : y' = y
  · subst q; exact ⟨hx, rfl⟩
  · have e1 := cntS_t h1 rfl h3
    have e2 := cntS_le (d := d) (n := n) (i := y' + 1) (j := y) (by omega) (by omega)
    have e3 := h.1
    omega
theorem isSq_neg {d n y : Int} (h : (d * y) * y + n < 0) : ¬ isSq d n y = true := by
  rw [isSq_iff (x := 0) (rt_neg (by omega)).symm]
  omega
theorem cntS_ivt {d n idx : Int} (h0 : 0 ≤ idx) : ∀ {k : Nat}, idx < cntS d n k → ∃ y : Int, 0 ≤ y ∧ y < k ∧ isSq d n y = true ∧ cntS d n y.toNat = idx
  | 0, h => by have e : cntS d n 0 = 0 := rfl; omega
  | k + 1, h => by
    have e : cntS d n (k + 1) = cntS d n k + (if isSq d n ((k : Nat) : Int) = true then 1 else 0) := rfl
    by_cases q : idx < cntS d n k
    · obtain ⟨y, h1, h2, h3⟩ := cntS_ivt h0 q
      exact ⟨y, h1, by omega, h3⟩
    · rw [e] at h
      by_cases r : isSq d n ((k : Nat) : Int) = true
      · rw [if_pos r] at h
        exact ⟨k, by omega, by omega, r, by rw [show ((k : Nat) : Int).toNat = k by omega]; omega⟩
      · rw [if_neg r] at h; omega
theorem FS_no {d n idx : Int} (h : cntS d n 5001 ≤ idx) : ¬ FS d n idx := by
  rintro ⟨y, h1, h2, h3, h4⟩
  have e1 := cntS_t h1 rfl h3
  have e2 := cntS_le (d := d) (n := n) (i := y + 1) (j := 5001) (by omega) (by omega)
  have e3 : cntS d n (5001 : Int).toNat = cntS d n 5001 := rfl
  omega
/-- the reference's least solution: 400 steps -/
def lsD (d pt r : Int) : Prop := (¬ (0 ≤ pt ∧ pt ≤ 1) ∧ r = -1000001) ∨ ((0 ≤ pt ∧ pt ≤ 1) ∧ (¬ ∃ j : Int, 1 ≤ j ∧ j ≤ 400 ∧ lsAt d j) ∧ r = -1000003) ∨ ((0 ≤ pt ∧ pt ≤ 1) ∧ ∃ j : Int, 1 ≤ j ∧ j ≤ 400 ∧ lsAt d j ∧ ((pt = 0 ∧ r = (chRun (tm 0 d 1) j.toNat).1) ∨ (pt = 1 ∧ r = (chRun (tm 0 d 1) j.toNat).2.1)))
def lsK (d k : Int) : Prop := ∀ j : Int, 1 ≤ j → j ≤ k → ¬ ((sS 0 d 1 j.toNat).2 = 1 ∧ j % 2 = 0)
theorem lsK_s {d k : Int} (h : lsK d k) (h2 : ¬ ((sS 0 d 1 (k + 1).toNat).2 = 1 ∧ (k + 1) % 2 = 0)) : lsK d (k + 1) := by
  intro j j1 j2
  by_cases q : j = k + 1
  · subst q; exact h2
  · exact h j j1 (by omega)
theorem lsK_over {d k : Int} (h : lsK d k) (h2 : (chRun (tm 0 d 1) (k + 1).toNat).2.2.1 = 1) : ¬ ∃ j : Int, 1 ≤ j ∧ j ≤ 400 ∧ lsAt d j := by
  rintro ⟨j, j1, j2, j3⟩
  by_cases q : j ≤ k
  · exact h j j1 q ⟨j3.2.1, j3.2.2.1⟩
  · have := chRun_over' h2 (j := j) (by omega)
    have := j3.1
    omega
theorem lsK_end {d k : Int} (h : lsK d k) (hk : 400 ≤ k) : ¬ ∃ j : Int, 1 ≤ j ∧ j ≤ 400 ∧ lsAt d j := by
  rintro ⟨j, j1, j2, j3⟩
  exact h j j1 (by omega) ⟨j3.2.1, j3.2.2.1⟩
theorem vS_d1 {p d q : Int} (h : vS p d q) : vS 0 d 1 := ⟨by omega, h.2.1, by omega, by omega, h.2.2.2.2⟩
