/-! ===== MATH 10: the reference: its state, roots, terms, periods ===== -/
theorem dn_spec {v b : Int} (hb : 0 < b) : (v.tmod b < 0 → v.tdiv b - 1 = v / b) ∧ (0 ≤ v.tmod b → v.tdiv b = v / b) := by
  have h1 := Int.mul_tdiv_add_tmod v b
  have h2 := tdiv_spec (a := v) (b := b) hb
  have h3 := ediv_spec (a := v) (b := b) hb
  have e1 : b * v.tdiv b = v.tdiv b * b := Int.mul_comm _ _
  rw [e1] at h1
  by_cases hv : 0 ≤ v
  · have h4 := Int.tmod_nonneg b hv
    exact ⟨fun z => absurd z (by omega), fun _ => h2.1 hv⟩
  · refine ⟨fun z => h2.2.2 (by omega) (by omega), fun z => ?_⟩
    by_cases hm : v.tdiv b * b = v
    · exact h2.2.1 (by omega) hm
    · have h5 := h2.2.2 (by omega) hm
      rw [← h5] at h3
      have e2 : (v.tdiv b - 1) * b = v.tdiv b * b - b := by rw [Int.sub_mul]; omega
      omega
theorem dn_bd {v b : Int} (hb : 0 < b) : (v.tmod b < 0 ∨ 0 ≤ v.tmod b) := by omega
def hM (S : Int → Int) : zH := hE (S 0) (S 1) (S 2) (S 3) (fun i => S (4 + 2 * i)) (fun i => S (5 + 2 * i))
theorem hM_cong {S S' : Int → Int} (h : ∀ k : Int, 0 ≤ k → k < 4 + 2 * S 3 → S' k = S k) (h4 : 0 ≤ S 3) : hM S' = hM S := by
  unfold hM
  rw [h 0 (by omega) (by omega), h 1 (by omega) (by omega), h 2 (by omega) (by omega), h 3 (by omega) (by omega)]
  exact hE_cong (fun i h1 h2 => ⟨h _ (by omega) (by omega), h _ (by omega) (by omega)⟩)
/-- what the reference keeps before a change -/
def chgP (pn : Int) (S PA : Int → Int) (pn' : Int) (PA' : Int → Int) : Prop := (0 ≤ pn' ∧ pn' ≤ 4) ∧ ((pn = 4 ∧ pn' = 4 ∧ (∀ k : Int, 0 ≤ k → k < 60 → PA' k = PA (k + 20)) ∧ ∀ k : Int, 0 ≤ k → k < 20 → PA' (60 + k) = S k) ∨ (pn < 4 ∧ pn' = pn + 1 ∧ (∀ k : Int, 0 ≤ k → k < 20 * pn → PA' k = PA k) ∧ ∀ k : Int, 0 ≤ k → k < 20 → PA' (20 * pn + k) = S k))
def ch1 (PA : Int → Int) (i : Int) (P : Int → Int) : Prop := (∀ k : Int, 0 ≤ k → k < i → P k = PA (k + 20)) ∧ ∀ k : Int, i ≤ k → P k = PA k
theorem ch1_s {PA P : Int → Int} {i : Int} (h : ch1 PA i P) (h0 : 0 ≤ i) : ch1 PA (i + 1) (zu P i (P (i + 20))) := by
  refine ⟨fun k h1 h2 => ?_, fun k h1 => ?_⟩
  · by_cases q : k = i
    · subst q; rw [zu_s]; exact h.2 _ (by omega)
    · rw [zu_n _ _ q]; exact h.1 k h1 (by omega)
  · rw [zu_n _ _ (by omega)]; exact h.2 k (by omega)
def ch2 (B S : Int → Int) (e i : Int) (P : Int → Int) : Prop := (∀ k : Int, 0 ≤ k → k < i → P (20 * e + k) = S k) ∧ ∀ k : Int, k < 20 * e → P k = B k
theorem ch2_s {B S P : Int → Int} {e i : Int} (h : ch2 B S e i P) (h0 : 0 ≤ i) : ch2 B S e (i + 1) (zu P (20 * e + i) (S i)) := by
  refine ⟨fun k h1 h2 => ?_, fun k h1 => ?_⟩
  · by_cases q : k = i
    · subst q; rw [zu_s]
    · rw [zu_n _ _ (by omega)]; exact h.1 k h1 (by omega)
  · rw [zu_n _ _ (by omega)]; exact h.2 k h1
theorem chg_4 {S PA B P : Int → Int} {pn i k : Int} (hp : pn = 4) (h1 : ch1 PA k B) (hk : 60 ≤ k) (hk2 : k ≤ 60) (h2 : ch2 B S (pn - 1) i P) (hi : 20 ≤ i) : chgP pn S PA (pn - 1 + 1) P := by
  subst hp
  refine ⟨by omega, Or.inl ⟨rfl, rfl, fun j j1 j2 => ?_, fun j j1 j2 => ?_⟩⟩
  · rw [h2.2 j (by omega)]; exact h1.1 j j1 (by omega)
  · have := h2.1 j j1 (by omega)
    rw [show (20 : Int) * (4 - 1) + j = 60 + j by omega] at this
    exact this
theorem chg_0 {S PA P : Int → Int} {pn i : Int} (hp : pn < 4) (h0 : 0 ≤ pn) (h2 : ch2 PA S pn i P) (hi : 20 ≤ i) : chgP pn S PA (pn + 1) P :=
  ⟨by omega, Or.inr ⟨hp, rfl, fun j j1 j2 => h2.2 j j2, fun j j1 j2 => h2.1 j j1 (by omega)⟩⟩
theorem root_i {a b v : Int} (h0 : 0 ≤ a) (h1 : a * a ≤ v) (h2 : v < b * b) (hb : b ≤ a + 1) (hab : a < b) : rt v = a := by
  have : b = a + 1 := by omega
  subst this
  exact (rt_uniq h0 h1 h2).symm
def suM (S PA : Int → Int) (pn a b c r : Int) (S' PA' : Int → Int) (pn' : Int) : Prop := (¬ r99 a b c ∧ r = -1000001 ∧ S' = S ∧ PA' = PA ∧ pn' = pn) ∨ (r99 a b c ∧ rt b * rt b = b ∧ r = -1000002 ∧ S' = S ∧ PA' = PA ∧ pn' = pn) ∨ (r99 a b c ∧ rt b * rt b ≠ b ∧ r = 0 ∧ S' = zu (zu (zu S 0 a) 1 b) 2 c ∧ chgP pn S PA pn' PA')
/-- a row of steps -/
def lyP (p d q k : Int) (fa fu : Int → Int) : Prop := ∀ j : Int, 0 ≤ j → j ≤ k → sS p d q j.toNat = (fa j, fu j)
theorem lyP_0 {p d q t b : Int} {fa fu : Int → Int} (h : sS p d q 0 = (t, b)) : lyP p d q 0 (zu fa 0 t) (zu fu 0 b) := by
  intro j h1 h2
  have : j = 0 := by omega
  subst this
  rw [zu_s, zu_s]; exact h
theorem lyP_s {p d q k : Int} {fa fu : Int → Int} (h : lyP p d q k fa fu) (h0 : 0 ≤ k) : lyP p d q (k + 1) (zu fa (k + 1) (tm p d q k * fu k - fa k)) (zu fu (k + 1) (Int.tdiv (Dd d q - (tm p d q k * fu k - fa k) * (tm p d q k * fu k - fa k)) (fu k))) := by
  intro j h1 h2
  by_cases q1 : j = k + 1
  · subst q1
    have e := h k h0 (by omega)
    rw [zu_s, zu_s, sS_s h0 e, tm_of e]
  · rw [zu_n _ _ q1, zu_n _ _ q1]; exact h j h1 (by omega)
theorem sS_ab {p d q i t b : Int} (h : vS p d q) (h0 : 0 ≤ i) (e : sS p d q i.toNat = (t, b)) : b ≠ 0 ∧ (-30000 ≤ t ∧ t ≤ 30000) ∧ (-20000 ≤ b ∧ b ≤ 20000) := by have := sS_get h h0 e; omega
def noRp (p d q k : Int) : Prop := ∀ a b : Int, 0 ≤ a → a < b → b < k → sS p d q a.toNat ≠ sS p d q b.toNat
def frRp (p d q j k : Int) : Prop := (0 ≤ j ∧ j < k ∧ k ≤ 400) ∧ sS p d q j.toNat = sS p d q k.toNat ∧ noRp p d q k ∧ ∀ a : Int, 0 ≤ a → a < j → sS p d q a.toNat ≠ sS p d q k.toNat
def perP (p d q r ld ld' : Int) : Prop := (∃ j k : Int, frRp p d q j k ∧ r = k - j ∧ ld' = j) ∨ (noRp p d q 401 ∧ r = 0 ∧ ld' = ld)
theorem noRp_1 {p d q : Int} : noRp p d q 1 := fun a b h1 h2 h3 => absurd h2 (by omega)
theorem noRp_s {p d q k : Int} (h : noRp p d q k) (h2 : ∀ a : Int, 0 ≤ a → a < k → sS p d q a.toNat ≠ sS p d q k.toNat) : noRp p d q (k + 1) := by
  intro a b a1 a2 a3
  by_cases q1 : b = k
  · subst q1; exact h2 a a1 a2
  · exact h a b a1 a2 (by omega)
theorem sS_ne {p d q j k : Int} {fa fu : Int → Int} (h : lyP p d q 401 fa fu) (hj : 0 ≤ j ∧ j ≤ 401) (hk : 0 ≤ k ∧ k ≤ 401) (hn : ¬ (fa j = fa k ∧ fu j = fu k)) : sS p d q j.toNat ≠ sS p d q k.toNat := by
  intro z
  rw [h j hj.1 hj.2, h k hk.1 hk.2] at z
  exact hn ⟨congrArg Prod.fst z, congrArg Prod.snd z⟩
theorem sS_eq {p d q j k : Int} {fa fu : Int → Int} (h : lyP p d q 401 fa fu) (hj : 0 ≤ j ∧ j ≤ 401) (hk : 0 ≤ k ∧ k ≤ 401) (h1 : fa j = fa k) (h2 : fu j = fu k) : sS p d q j.toNat = sS p d q k.toNat := by
  rw [h j hj.1 hj.2, h k hk.1 hk.2, h1, h2]
theorem grM_s {f : Int → Int} {ld c g : Int} (h0 : ld ≤ c) (h : g = grP f ld (c - ld).toNat) : (g < f c → f c = grP f ld (c + 1 - ld).toNat) ∧ (f c ≤ g → g = grP f ld (c + 1 - ld).toNat) := by
  have := grP_s (f := f) (ld := ld) (i := c - ld) (by omega) h
  rw [show ld + (c - ld) = c by omega, show c - ld + 1 = c + 1 - ld by omega] at this
  refine ⟨fun z => ?_, fun z => ?_⟩
  · rw [if_pos z] at this; exact this
  · rw [if_neg (by omega)] at this; exact this
def fiM (f : Int → Int) (ld j c fi : Int) : Prop := (fi = 0 ∨ fi = 1) ∧ (fi = 1 ↔ ∀ a : Int, ld ≤ a → a < j → f a ≠ f c)
theorem fiM_0 {f : Int → Int} {ld c : Int} : fiM f ld ld c 1 := ⟨Or.inr rfl, fun _ a h1 h2 => absurd h1 (by omega), fun _ => rfl⟩
theorem fiM_1 {f : Int → Int} {ld j c fi : Int} (h : fiM f ld j c fi) (h1 : fi ≠ 0) (h2 : f j ≠ f c) : fiM f ld (j + 1) c 1 := by
  refine ⟨Or.inr rfl, fun _ a a1 a2 => ?_, fun _ => rfl⟩
  by_cases q : a = j
  · subst q; exact h2
  · exact (h.2.mp (by have := h.1; omega)) a a1 (by omega)
theorem fiM_f {f : Int → Int} {ld j c fi : Int} (h : fiM f ld j c fi) (hl : ld ≤ j) (h1 : fi = 0 ∨ f j = f c) : fiM f ld (j + 1) c 0 := by
  refine ⟨Or.inl rfl, fun z => absurd z (by decide), fun z => ?_⟩
  rcases h1 with h1 | h1
  · have := h.2.mpr (fun a a1 a2 => z a a1 (by omega)); omega
  · exact absurd h1 (z j hl (by omega))
theorem unM_s {f : Int → Int} {ld c u j fi : Int} (h0 : ld ≤ c) (h : u = unP f ld (c - ld).toNat) (hf : fiM f ld j c fi) (hj : j = c) : (fi ≠ 0 → u + 1 = unP f ld (c + 1 - ld).toNat) ∧ (fi = 0 → u = unP f ld (c + 1 - ld).toNat) := by
  subst hj
  have hb : newB f ld (j - ld).toNat = true ↔ fi = 1 := by
    rw [newB_iff (by omega), hf.2]
    constructor
    · intro z a a1 a2
      have := z (a - ld) (by omega) (by omega)
      rw [show ld + (a - ld) = a by omega, show ld + (j - ld) = j by omega] at this
      exact this
    · intro z a a1 a2
      have := z (ld + a) (by omega) (by omega)
      rw [show ld + (j - ld) = j by omega]
      exact this
  refine ⟨fun z => ?_, fun z => ?_⟩
  · have := unP_t (by omega) h (hb.mpr (by have := hf.1; omega))
    rw [show j - ld + 1 = j + 1 - ld by omega] at this; exact this
  · have := unP_f (by omega) h (fun y => by have := hb.mp y; omega)
    rw [show j - ld + 1 = j + 1 - ld by omega] at this; exact this
def miM (f : Int → Int) (ld pd i is : Int) : Prop := (is = 0 ∨ is = 1) ∧ (is = 1 ↔ ∀ a : Int, 0 ≤ a → a < i → f (ld + a) = f (ld + pd - 2 - a))
theorem miM_0 {f : Int → Int} {ld pd : Int} : miM f ld pd 0 1 := ⟨Or.inr rfl, fun _ a h1 h2 => absurd h1 (by omega), fun _ => rfl⟩
theorem miM_1 {f : Int → Int} {ld pd i is : Int} (h : miM f ld pd i is) (h1 : is ≠ 0) (h2 : f (ld + i) = f (ld + pd - 2 - i)) : miM f ld pd (i + 1) 1 := by
  refine ⟨Or.inr rfl, fun _ a a1 a2 => ?_, fun _ => rfl⟩
  by_cases q : a = i
  · subst q; exact h2
  · exact (h.2.mp (by have := h.1; omega)) a a1 (by omega)
theorem miM_f {f : Int → Int} {ld pd i is : Int} (h : miM f ld pd i is) (h0 : 0 ≤ i) (h1 : is = 0 ∨ f (ld + i) ≠ f (ld + pd - 2 - i)) : miM f ld pd (i + 1) 0 := by
  refine ⟨Or.inl rfl, fun z => absurd z (by decide), fun z => ?_⟩
  rcases h1 with h1 | h1
  · have := h.2.mpr (fun a a1 a2 => z a a1 (by omega)); omega
  · exact absurd (z i h0 (by omega)) h1
theorem miM_end {f : Int → Int} {ld pd i is : Int} (h : miM f ld pd i is) (h0 : pd - 1 ≤ i) (h2 : i = 0 ∨ i ≤ pd - 1) : (1 = is ∧ miP f ld pd) ∨ (0 = is ∧ ¬ miP f ld pd) := by
  have e : miP f ld pd ↔ is = 1 := by
    rw [h.2]
    exact ⟨fun z a a1 a2 => z a a1 (by omega), fun z a a1 a2 => z a a1 (by omega)⟩
  rw [e]
  have := h.1
  omega
theorem grP_cong {f g : Int → Int} {ld : Int} : ∀ {n : Nat}, (∀ i : Int, ld ≤ i → i < ld + n → f i = g i) → grP f ld n = grP g ld n
  | 0, _ => rfl
  | n + 1, h => by
    unfold grP
    rw [grP_cong (n := n) (fun i h1 h2 => h i h1 (by omega)), h (ld + n) (by omega) (by omega)]
theorem newB_cong {f g : Int → Int} {ld : Int} {n : Nat} (h : ∀ i : Int, ld ≤ i → i ≤ ld + n → f i = g i) : newB f ld n = newB g ld n := by
  unfold newB
  rw [Bool.eq_iff_iff, List.all_eq_true, List.all_eq_true]
  refine forall_congr' (fun j => imp_congr_right (fun hj => ?_))
  have := List.mem_range.mp hj
  rw [h (ld + j) (by omega) (by omega), h (ld + n) (by omega) (by omega)]
theorem unP_cong {f g : Int → Int} {ld : Int} : ∀ {n : Nat}, (∀ i : Int, ld ≤ i → i < ld + n → f i = g i) → unP f ld n = unP g ld n
  | 0, _ => rfl
  | n + 1, h => by
    unfold unP
    rw [unP_cong (n := n) (fun i h1 h2 => h i h1 (by omega)), newB_cong (n := n) (fun i h1 h2 => h i h1 (by omega))]
theorem miP_cong {f g : Int → Int} {ld pd : Int} (h : ∀ i : Int, ld ≤ i → i < ld + pd → f i = g i) : miP f ld pd ↔ miP g ld pd := by
  unfold miP
  refine ⟨fun z i h1 h2 => ?_, fun z i h1 h2 => ?_⟩
  · rw [← h _ (by omega) (by omega), ← h _ (by omega) (by omega)]; exact z i h1 h2
  · rw [h _ (by omega) (by omega), h _ (by omega) (by omega)]; exact z i h1 h2
theorem agV_cong {f g : Int → Int} {ld pd what r : Int} (h0 : 0 ≤ pd) (h : ∀ i : Int, ld ≤ i → i < ld + pd → f i = g i) (a : agV f ld pd what r) : agV g ld pd what r := by
  unfold agV at a ⊢
  rw [← grP_cong (n := pd.toNat) (fun i h1 h2 => h i h1 (by omega)), ← unP_cong (n := pd.toNat) (fun i h1 h2 => h i h1 (by omega)), ← miP_cong h]
  exact a
def agM (p d q what r : Int) : Prop := (¬ (0 ≤ what ∧ what ≤ 4) ∧ r = -1000001) ∨ ((0 ≤ what ∧ what ≤ 4) ∧ noRp p d q 401 ∧ r = -1000003) ∨ ((0 ≤ what ∧ what ≤ 4) ∧ ∃ j k : Int, frRp p d q j k ∧ agV (tm p d q) j (k - j) what r)
theorem perP_bd {p d q r ld ld' : Int} (h : perP p d q r ld ld') : 0 ≤ r ∧ r ≤ 400 := by
  rcases h with ⟨j, k, h1, h2, -⟩ | ⟨-, h2, -⟩
  · have := h1.1; omega
  · omega
