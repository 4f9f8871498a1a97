/-! ===== MATH 2: chains of terms; where a fraction stands to the surd; books ===== -/
theorem zabs_mul (a b : Int) : zabs (a * b) = zabs a * zabs b := by
  rcases zabs_or a with ⟨h, e⟩ | ⟨h, e⟩ <;> rcases zabs_or b with ⟨g, f⟩ | ⟨g, f⟩ <;> rw [e, f]
  · exact zabs_pos (Int.mul_nonneg h g)
  · rw [Int.mul_neg]; exact zabs_neg (Int.mul_nonpos_of_nonneg_of_nonpos h (by omega))
  · rw [Int.neg_mul]; exact zabs_neg (Int.mul_nonpos_of_nonpos_of_nonneg (by omega) g)
  · rw [Int.neg_mul_neg]; exact zabs_pos (Int.mul_nonneg_of_nonpos_of_nonpos (by omega) (by omega))
theorem zabs_nonneg (a : Int) : 0 ≤ zabs a := by have := zabs_or a; omega
theorem tg_big {t p a : Int} (h : 0 < zabs t) (h2 : Int.tdiv (9000000000000000 + (zabs a)) (zabs t) < zabs p) : 9000000000000000 < zabs (t * p + a) := by
  have ha := zabs_nonneg a
  rw [Int.tdiv_eq_ediv_of_nonneg (by omega)] at h2
  have s := ediv_spec (a := 9000000000000000 + zabs a) h
  have h3 : ((9000000000000000 + zabs a) / zabs t + 1) * zabs t ≤ zabs p * zabs t := Int.mul_le_mul_of_nonneg_right (by omega) (by omega)
  rw [Int.add_mul, Int.one_mul] at h3
  have e := zabs_mul t p
  rw [Int.mul_comm (zabs t)] at e
  have q1 := zabs_or (t * p + a)
  have q2 := zabs_or (t * p)
  have q3 := zabs_or a
  omega
theorem tg_bd {t p a : Int} (h : zabs t ≤ 0 ∨ (0 < zabs t ∧ zabs p ≤ Int.tdiv (9000000000000000 + (zabs a)) (zabs t))) : -(9000000000000000 + zabs a) ≤ t * p ∧ t * p ≤ 9000000000000000 + zabs a := by
  have ha := zabs_nonneg a
  have ht := zabs_nonneg t
  have e := zabs_mul t p
  have q2 := zabs_or (t * p)
  rcases h with h | ⟨h, h2⟩
  · rw [show zabs t = 0 by omega, Int.zero_mul] at e
    omega
  · rw [Int.tdiv_eq_ediv_of_nonneg (by omega)] at h2
    have s := ediv_spec (a := 9000000000000000 + zabs a) h
    have h3 : zabs p * zabs t ≤ ((9000000000000000 + zabs a) / zabs t) * zabs t := Int.mul_le_mul_of_nonneg_right h2 (by omega)
    rw [Int.mul_comm (zabs t)] at e
    omega
abbrev zCh : Type := Int × Int × Int × Int × Int
/-- a chain goes on by a term: upper, lower, whether it is over, upper ahead, lower ahead -/
def chAdd (t : Int) (c : zCh) : zCh := if c.2.2.1 = 1 ∨ 9000000000000000 < zabs (t * c.1 + c.2.2.2.1) ∨ 9000000000000000 < zabs (t * c.2.1 + c.2.2.2.2) then (c.1, c.2.1, 1, c.2.2.2.1, c.2.2.2.2) else (t * c.1 + c.2.2.2.1, t * c.2.1 + c.2.2.2.2, 0, c.1, c.2.1)
theorem chAdd_over {t u v o a b : Int} (h : o = 1 ∨ 9000000000000000 < zabs (t * u + a) ∨ 9000000000000000 < zabs (t * v + b)) : chAdd t (u, v, o, a, b) = (u, v, 1, a, b) := if_pos h
theorem chAdd_go {t u v o a b : Int} (h : ¬ (o = 1 ∨ 9000000000000000 < zabs (t * u + a) ∨ 9000000000000000 < zabs (t * v + b))) : chAdd t (u, v, o, a, b) = (t * u + a, t * v + b, 0, u, v) := if_neg h
def chRun (f : Int → Int) : Nat → zCh
  | 0 => (1, 0, 0, 0, 1)
  | k + 1 => chAdd (f k) (chRun f k)
def chOk (c : zCh) : Prop := (-9000000000000000 ≤ c.1 ∧ c.1 ≤ 9000000000000000) ∧ (-9000000000000000 ≤ c.2.1 ∧ c.2.1 ≤ 9000000000000000) ∧ (c.2.2.1 = 0 ∨ c.2.2.1 = 1) ∧ (-9000000000000000 ≤ c.2.2.2.1 ∧ c.2.2.2.1 ≤ 9000000000000000) ∧ (-9000000000000000 ≤ c.2.2.2.2 ∧ c.2.2.2.2 ≤ 9000000000000000)
theorem chAdd_ok {t : Int} {c : zCh} (h : chOk c) : chOk (chAdd t c) := by
  obtain ⟨u, v, o, a, b⟩ := c
  obtain ⟨h1, h2, h3, h4, h5⟩ := h
  dsimp only at h1 h2 h3 h4 h5
  by_cases q : o = 1 ∨ 9000000000000000 < zabs (t * u + a) ∨ 9000000000000000 < zabs (t * v + b)
  · rw [chAdd_over q]; exact ⟨h1, h2, Or.inr rfl, h4, h5⟩
  · rw [chAdd_go q]
    have z1 := zabs_or (t * u + a)
    have z2 := zabs_or (t * v + b)
    refine ⟨?_, ?_, Or.inl rfl, h1, h2⟩ <;> dsimp only <;> omega
theorem chRun_ok (f : Int → Int) : ∀ k : Nat, chOk (chRun f k)
  | 0 => by unfold chRun chOk; dsimp only; omega
  | k + 1 => chAdd_ok (chRun_ok f k)
theorem chRun_bd {f : Int → Int} {k : Nat} {u v o a b : Int} (h : chRun f k = (u, v, o, a, b)) : (-9000000000000000 ≤ u ∧ u ≤ 9000000000000000) ∧ (-9000000000000000 ≤ v ∧ v ≤ 9000000000000000) ∧ (o = 0 ∨ o = 1) ∧ (-9000000000000000 ≤ a ∧ a ≤ 9000000000000000) ∧ (-9000000000000000 ≤ b ∧ b ≤ 9000000000000000) := by
  have := chRun_ok f k
  rw [h] at this
  exact this
theorem chRun_s {f : Int → Int} {i : Int} {c c' : zCh} {t : Int} (h0 : 0 ≤ i) (h : chRun f i.toNat = c) (ht : t = f i) (h2 : chAdd t c = c') : chRun f (i + 1).toNat = c' := by
  rw [show (i + 1).toNat = i.toNat + 1 by omega]
  show chAdd (f ((i.toNat : Nat) : Int)) (chRun f i.toNat) = c'
  rw [h, show ((i.toNat : Nat) : Int) = i by omega, ← ht, h2]
/-- the fraction n / m is above the surd -/
def abv (p d q n m : Int) : Bool := (decide (0 < q * n - p * m ∧ (m * m) * d < (q * n - p * m) * (q * n - p * m))) == decide (0 < q)
theorem abv_iff {p d q n m : Int} : abv p d q n m = true ↔ ((0 < q * n - p * m ∧ (m * m) * d < (q * n - p * m) * (q * n - p * m)) ↔ 0 < q) := by
  unfold abv
  rw [beq_iff_eq, decide_eq_decide]
/-- a / b is nearer to the surd than c / e -/
def nrr (p d q a b c e : Int) : Bool := if abv p d q a b == abv p d q c e then (if abv p d q a b then decide (a * e < c * b) else decide (c * b < a * e)) else abv p d q a b != abv p d q (a * e + c * b) ((2 * b) * e)
theorem nrr_tt {p d q a b c e : Int} (h1 : abv p d q a b = true) (h2 : abv p d q c e = true) : nrr p d q a b c e = true ↔ a * e < c * b := by
  unfold nrr; rw [h1, h2]; simp
theorem nrr_ff {p d q a b c e : Int} (h1 : ¬ abv p d q a b = true) (h2 : ¬ abv p d q c e = true) : nrr p d q a b c e = true ↔ c * b < a * e := by
  unfold nrr; rw [Bool.not_eq_true] at h1 h2; rw [h1, h2]; simp
theorem nrr_tf {p d q a b c e : Int} (h1 : abv p d q a b = true) (h2 : ¬ abv p d q c e = true) : nrr p d q a b c e = true ↔ ¬ abv p d q (a * e + c * b) ((2 * b) * e) = true := by
  unfold nrr; rw [Bool.not_eq_true] at h2; rw [h1, h2]; simp
theorem nrr_ft {p d q a b c e : Int} (h1 : ¬ abv p d q a b = true) (h2 : abv p d q c e = true) : nrr p d q a b c e = true ↔ abv p d q (a * e + c * b) ((2 * b) * e) = true := by
  unfold nrr; rw [Bool.not_eq_true] at h1; rw [h1, h2]; simp
def okF (a b : Int) : Prop := -30000 ≤ a ∧ a ≤ 30000 ∧ 1 ≤ b ∧ b ≤ 200
theorem okF_mul {a b c e : Int} (h : okF a b) (g : okF c e) : (-6000000 ≤ a * e ∧ a * e ≤ 6000000) ∧ (-6000000 ≤ c * b ∧ c * b ≤ 6000000) ∧ (1 ≤ (2 * b) * e ∧ (2 * b) * e ≤ 80000) := by
  obtain ⟨h1, h2, h3, h4⟩ := h
  obtain ⟨g1, g2, g3, g4⟩ := g
  have e1 := mul_bd (a := a) (b := e) (M := 30000) (N := 200) ⟨h1, h2⟩ ⟨by omega, g4⟩
  have e2 := mul_bd (a := c) (b := b) (M := 30000) (N := 200) ⟨g1, g2⟩ ⟨by omega, h4⟩
  have e3 := mul_bd (a := 2 * b) (b := e) (M := 400) (N := 200) ⟨by omega, by omega⟩ ⟨by omega, g4⟩
  have e4 := Int.mul_le_mul (a := 2) (c := 2 * b) (b := 1) (d := e) (by omega) g3 (by omega) (by omega)
  omega
-- the first n of a row, as a list
def tk {α : Type} (f : Int → α) : Nat → List α
  | 0 => []
  | k + 1 => tk f k ++ [f k]
theorem tk_len {α : Type} (f : Int → α) : ∀ k : Nat, (tk f k).length = k
  | 0 => rfl
  | k + 1 => by unfold tk; rw [List.length_append, tk_len f k]; rfl
theorem tk_cong {α : Type} {f g : Int → α} : ∀ {k : Nat}, (∀ i : Int, 0 ≤ i → i < k → f i = g i) → tk f k = tk g k
  | 0, _ => rfl
  | k + 1, h => by unfold tk; rw [tk_cong (fun i a b => h i a (by omega)), h k (by omega) (by omega)]
theorem tk_get {α : Type} {f : Int → α} : ∀ {k : Nat} {i : Nat}, i < k → (tk f k)[i]? = some (f i)
  | 0, i, h => absurd h (Nat.not_lt_zero i)
  | k + 1, i, h => by
    unfold tk
    by_cases q : i < k
    · rw [List.getElem?_append_left (by rw [tk_len]; exact q)]; exact tk_get q
    · rw [List.getElem?_append_right (by rw [tk_len]; omega), tk_len, show i = k by omega, Nat.sub_self]; rfl
theorem tk_mem {α : Type} {f : Int → α} {k : Nat} {x : α} (h : x ∈ tk f k) : ∃ i : Int, 0 ≤ i ∧ i < k ∧ f i = x := by
  obtain ⟨i, hi⟩ := List.getElem?_of_mem h
  have hl := (List.getElem?_eq_some_iff.mp hi).1
  rw [tk_len] at hl
  rw [tk_get hl] at hi
  exact ⟨i, by omega, by omega, Option.some.inj hi⟩
theorem tk_in {α : Type} {f : Int → α} {k : Nat} {i : Int} (h0 : 0 ≤ i) (h : i < k) : f i ∈ tk f k := by
  have := tk_get (f := f) (k := k) (i := i.toNat) (by omega)
  rw [show ((i.toNat : Nat) : Int) = i by omega] at this
  exact List.mem_of_getElem? this
def pr (u v : Int → Int) : Int → Int × Int := fun i => (u i, v i)
/-- what Book.add does: from the last one on, all that the new one is nearer than go a place up -/
def insP (p d q a b n : Int) (u v u' v' : Int → Int) (j : Int) : Prop := 0 ≤ j ∧ j ≤ n ∧ (∀ i : Int, 0 ≤ i → i < j → u' i = u i ∧ v' i = v i) ∧ u' j = a ∧ v' j = b ∧ (∀ i : Int, j < i → i ≤ n → u' i = u (i - 1) ∧ v' i = v (i - 1)) ∧ (∀ i : Int, j ≤ i → i < n → nrr p d q a b (u i) (v i) = true) ∧ (0 < j → ¬ nrr p d q a b (u (j - 1)) (v (j - 1)) = true) ∧ (∀ i : Int, n < i → u' i = u i ∧ v' i = v i)
def insQ (p d q a b n : Int) (u v u' v' : Int → Int) (j : Int) : Prop := 0 ≤ j ∧ j ≤ n ∧ (∀ i : Int, 0 ≤ i → i < j → u' i = u i ∧ v' i = v i) ∧ (∀ i : Int, j < i → i ≤ n → u' i = u (i - 1) ∧ v' i = v (i - 1)) ∧ (∀ i : Int, j ≤ i → i < n → nrr p d q a b (u i) (v i) = true) ∧ (∀ i : Int, n < i → u' i = u i ∧ v' i = v i)
theorem insQ_0 {p d q a b n : Int} {u v : Int → Int} (h : 0 ≤ n) : insQ p d q a b n u v u v n := ⟨h, by omega, fun _ _ _ => ⟨rfl, rfl⟩, fun i h1 h2 => absurd h1 (by omega), fun i h1 h2 => absurd h1 (by omega), fun _ _ => ⟨rfl, rfl⟩⟩
theorem insQ_s {p d q a b n : Int} {u v u' v' : Int → Int} {j : Int} (h : insQ p d q a b n u v u' v' j) (h0 : 0 < j) (hn : nrr p d q a b (u' (j - 1)) (v' (j - 1)) = true) : insQ p d q a b n u v (zu u' j (u' (j - 1))) (zu v' j (v' (j - 1))) (j - 1) := by
  obtain ⟨a1, a2, a3, a4, a5, a6⟩ := h
  have e := a3 (j - 1) (by omega) (by omega)
  refine ⟨by omega, by omega, fun i h1 h2 => ?_, fun i h1 h2 => ?_, fun i h1 h2 => ?_, fun i h1 => ?_⟩
  · rw [zu_n _ _ (by omega), zu_n _ _ (by omega)]; exact a3 i h1 (by omega)
  · by_cases q : i = j
    · subst q; rw [zu_s, zu_s]; exact e
    · rw [zu_n _ _ q, zu_n _ _ q]; exact a4 i (by omega) h2
  · by_cases q : i = j - 1
    · subst q; rw [← e.1, ← e.2]; exact hn
    · exact a5 i (by omega) h2
  · rw [zu_n _ _ (by omega), zu_n _ _ (by omega)]; exact a6 i h1
theorem insQ_end {p d q a b n : Int} {u v u' v' : Int → Int} {j : Int} (h : insQ p d q a b n u v u' v' j) (hn : j ≤ 0 ∨ ¬ nrr p d q a b (u' (j - 1)) (v' (j - 1)) = true) : insP p d q a b n u v (zu u' j a) (zu v' j b) j := by
  obtain ⟨a1, a2, a3, a4, a5, a6⟩ := h
  refine ⟨a1, a2, fun i h1 h2 => ?_, zu_s _ _ _, zu_s _ _ _, fun i h1 h2 => ?_, a5, fun h0 => ?_, fun i h1 => ?_⟩
  · rw [zu_n _ _ (by omega), zu_n _ _ (by omega)]; exact a3 i h1 (by omega)
  · rw [zu_n _ _ (by omega), zu_n _ _ (by omega)]; exact a4 i (by omega) h2
  · have e := a3 (j - 1) (by omega) (by omega)
    rw [← e.1, ← e.2]
    rcases hn with hn | hn
    · omega
    · exact hn
  · rw [zu_n _ _ (by omega), zu_n _ _ (by omega)]; exact a6 i h1
theorem insP_okF {p d q a b n : Int} {u v u' v' : Int → Int} {j : Int} (h : insP p d q a b n u v u' v' j) (hB : ∀ i : Int, 0 ≤ i → i < n → okF (u i) (v i)) (hab : okF a b) : ∀ i : Int, 0 ≤ i → i < n + 1 → okF (u' i) (v' i) := by
  obtain ⟨a1, a2, a3, a4, a5, a6, -⟩ := h
  intro i h1 h2
  by_cases q : i < j
  · have := a3 i h1 q; rw [this.1, this.2]; exact hB i h1 (by omega)
  · by_cases r : i = j
    · subst r; rw [a4, a5]; exact hab
    · have := a6 i (by omega) (by omega); rw [this.1, this.2]; exact hB (i - 1) (by omega) (by omega)
theorem lt_si {P : Int → Prop} {i : Int} (h : ∀ k : Int, 0 ≤ k → k < i → P k) (hi : P i) : ∀ k : Int, 0 ≤ k → k < i + 1 → P k := by
  intro k h1 h2
  by_cases q : k = i
  · rw [q]; exact hi
  · exact h k h1 (by omega)
def remQ (k i : Int) (u v u' v' : Int → Int) : Prop := (∀ j : Int, j < k → u' j = u j ∧ v' j = v j) ∧ (∀ j : Int, k ≤ j → j < i → u' j = u (j + 1) ∧ v' j = v (j + 1)) ∧ (∀ j : Int, i ≤ j → u' j = u j ∧ v' j = v j)
theorem remQ_0 {k : Int} {u v : Int → Int} : remQ k k u v u v := ⟨fun _ _ => ⟨rfl, rfl⟩, fun j h1 h2 => absurd h1 (by omega), fun _ _ => ⟨rfl, rfl⟩⟩
theorem remQ_s {k i : Int} {u v u' v' : Int → Int} (h : remQ k i u v u' v') (hk : k ≤ i) : remQ k (i + 1) u v (zu u' i (u' (i + 1))) (zu v' i (v' (i + 1))) := by
  obtain ⟨a1, a2, a3⟩ := h
  have e := a3 (i + 1) (by omega)
  refine ⟨fun j h1 => ?_, fun j h1 h2 => ?_, fun j h1 => ?_⟩
  · rw [zu_n _ _ (by omega), zu_n _ _ (by omega)]; exact a1 j h1
  · by_cases q : j = i
    · subst q; rw [zu_s, zu_s]; exact e
    · rw [zu_n _ _ q, zu_n _ _ q]; exact a2 j h1 (by omega)
  · rw [zu_n _ _ (by omega), zu_n _ _ (by omega)]; exact a3 j (by omega)
def cntA (p d q : Int) (u v : Int → Int) : Nat → Int
  | 0 => 0
  | k + 1 => cntA p d q u v k + (if abv p d q (u k) (v k) then 1 else 0)
theorem cntA_t {p d q c i : Int} {u v : Int → Int} (h0 : 0 ≤ i) (h : c = cntA p d q u v i.toNat) (ha : abv p d q (u i) (v i) = true) : c + 1 = cntA p d q u v (i + 1).toNat := by
  rw [show (i + 1).toNat = i.toNat + 1 by omega]
  unfold cntA
  rw [show ((i.toNat : Nat) : Int) = i by omega, if_pos ha, h]
theorem cntA_f {p d q c i : Int} {u v : Int → Int} (h0 : 0 ≤ i) (h : c = cntA p d q u v i.toNat) (ha : ¬ abv p d q (u i) (v i) = true) : c = cntA p d q u v (i + 1).toNat := by
  rw [show (i + 1).toNat = i.toNat + 1 by omega]
  unfold cntA
  rw [show ((i.toNat : Nat) : Int) = i by omega, if_neg ha, h]; omega
theorem cpQ_s {i : Int} {u v u' v' : Int → Int} (h : ∀ k : Int, 0 ≤ k → k < i → u' k = u k ∧ v' k = v k) : ∀ k : Int, 0 ≤ k → k < i + 1 → zu u' i (u i) k = u k ∧ zu v' i (v i) k = v k := by
  intro k h1 h2
  by_cases q : k = i
  · subst q; exact ⟨zu_s _ _ _, zu_s _ _ _⟩
  · rw [zu_n _ _ q, zu_n _ _ q]; exact h k h1 (by omega)
