/-! ===== MATH 13: small things for the reference's last methods ===== -/
theorem icI_bd {f : Int → Int} {a b k is x y e g : Int} (h : icI f a b k is x y e g) : (-9000000000000000 ≤ x ∧ x ≤ 9000000000000000) ∧ (-9000000000000000 ≤ y ∧ y ≤ 9000000000000000) ∧ (is = 0 ∨ is = 1) := by
  rcases h.2.2 with z | ⟨-, k0, -, -, z⟩
  · have := chRun_bd z; exact ⟨this.1, this.2.1, h.1⟩
  · have := chRun_bd z; exact ⟨this.1, this.2.1, h.1⟩
theorem icI_end {f : Int → Int} {a b k is x y e g : Int} (h : icI f a b k is x y e g) (hk : k = 30) : (1 = is ∧ icP f a b 30) ∨ (0 = is ∧ ¬ icP f a b 30) := by
  subst hk
  have h1 := h.1
  have h2 := h.2.1
  rw [← h2]
  omega
theorem atP_no {S : Int → Int} {pl r : Int} (h : atP S pl r) (hr : r < 0) : ∀ k : Int, 0 ≤ k → k < S 3 → plM S k (S 3).toNat ≠ pl := by
  rcases h with h | h
  · omega
  · exact h.1
theorem atP_yes {S : Int → Int} {pl r : Int} (h : atP S pl r) (hr : 0 ≤ r) : (0 ≤ r ∧ r < S 3) ∧ plM S r (S 3).toNat = pl := by
  rcases h with h | h
  · exact ⟨⟨h.1, h.2.1⟩, h.2.2.1⟩
  · omega
theorem atP_bd {S : Int → Int} {pl r : Int} (h : atP S pl r) (h8 : S 3 ≤ 8) : -1000004 ≤ r ∧ r ≤ 8 := by
  rcases h with h | h
  · omega
  · omega
theorem stI_end {S P : Int → Int} {k i : Int} (h : stI S k i P) (hi : 4 + 2 * (S 3 - 1) ≤ i) : stR S k P := ⟨h.1, h.2.1, h.2.2.1, h.2.2.2.1, h.2.2.2.2.1, fun j j1 j2 => h.2.2.2.2.2.1 j j1 (by omega)⟩
def unI (PA : Int → Int) (pn i : Int) (P : Int → Int) : Prop := ∀ j : Int, 0 ≤ j → j < i → P j = PA (20 * (pn - 1) + j)
theorem unI_s {PA P : Int → Int} {pn i : Int} (h : unI PA pn i P) : unI PA pn (i + 1) (zu P i (PA (20 * (pn - 1) + i))) := by
  intro j j1 j2
  by_cases q : j = i
  · subst q; rw [zu_s]
  · rw [zu_n _ _ q]; exact h j j1 (by omega)
theorem chAdd_bd {f : Int → Int} {t k a b e g u v o x y : Int} (h : chRun f k.toNat = (a, b, 0, e, g)) (h2 : chAdd t (a, b, 0, e, g) = (u, v, o, x, y)) : (-9000000000000000 ≤ u ∧ u ≤ 9000000000000000) ∧ (-9000000000000000 ≤ v ∧ v ≤ 9000000000000000) ∧ (o = 0 ∨ o = 1) := by
  have := chAdd_ok (t := t) (chRun_ok f k.toNat)
  rw [h, h2] at this
  exact ⟨this.1, this.2.1, this.2.2.1⟩
