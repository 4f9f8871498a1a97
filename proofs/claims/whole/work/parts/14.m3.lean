/-! ===== MATH 3: books put in order; rows of references ===== -/
def rf4 (a b c d : Option Nat) : Int → Option Nat := fun i => if i = 0 then a else if i = 1 then b else if i = 2 then c else if i = 3 then d else none
theorem rf4_none : (fun _ : Int => (none : Option Nat)) = rf4 none none none none := by
  funext i; unfold rf4; simp
theorem rf4_0 {a b c d v : Option Nat} : zu (rf4 a b c d) 0 v = rf4 v b c d := by
  funext i; unfold zu rf4; by_cases h : i = 0 <;> simp [h]
theorem rf4_1 {a b c d v : Option Nat} : zu (rf4 a b c d) 1 v = rf4 a v c d := by
  funext i; unfold zu rf4; by_cases h : i = 1 <;> by_cases h2 : i = 0 <;> simp [h, h2] <;> omega
theorem rf4_2 {a b c d v : Option Nat} : zu (rf4 a b c d) 2 v = rf4 a b v d := by
  funext i; unfold zu rf4; by_cases h : i = 2 <;> by_cases h2 : i = 0 <;> by_cases h3 : i = 1 <;> simp [h, h2, h3] <;> omega
theorem rf4_3 {a b c d v : Option Nat} : zu (rf4 a b c d) 3 v = rf4 a b c v := by
  funext i; unfold zu rf4; by_cases h : i = 3 <;> by_cases h2 : i = 0 <;> by_cases h3 : i = 1 <;> by_cases h4 : i = 2 <;> simp [h, h2, h3, h4] <;> omega
/-- the first k of a row put in order one after the other -/
def ordP (p d q : Int) (u v : Int → Int) : Nat → (Int → Int) → (Int → Int) → Prop
  | 0, u', v' => u' = u ∧ v' = v
  | k + 1, u', v' => ∃ (u1 v1 : Int → Int) (j : Int), ordP p d q u v k u1 v1 ∧ insP p d q (u k) (v k) k u1 v1 u' v' j
theorem ordP_hi {p d q : Int} {u v : Int → Int} : ∀ {k : Nat} {u' v' : Int → Int}, ordP p d q u v k u' v' → ∀ i : Int, (k : Int) ≤ i → u' i = u i ∧ v' i = v i
  | 0, u', v', h, i, _ => by rw [h.1, h.2]; exact ⟨rfl, rfl⟩
  | k + 1, u', v', h, i, hi => by
    obtain ⟨u1, v1, j, h1, h2⟩ := h
    have e1 := ordP_hi h1 i (by omega)
    have e2 := h2.2.2.2.2.2.2.2.2 i (by omega)
    rw [e2.1, e2.2]; exact e1
theorem ordP_okF {p d q n : Int} {u v : Int → Int} (hB : ∀ i : Int, 0 ≤ i → i < n → okF (u i) (v i)) : ∀ {k : Nat} {u' v' : Int → Int}, (k : Int) ≤ n → ordP p d q u v k u' v' → ∀ i : Int, 0 ≤ i → i < k → okF (u' i) (v' i)
  | 0, u', v', _, h, i, h0, h1 => absurd h1 (by omega)
  | k + 1, u', v', hk, h, i, h0, h1 => by
    obtain ⟨u1, v1, j, g1, g2⟩ := h
    exact insP_okF g2 (ordP_okF hB (by omega) g1) (hB k (by omega) (by omega)) i h0 (by omega)
theorem ordP_s {p d q i : Int} {u v u' v' u1 v1 : Int → Int} {j : Int} (h0 : 0 ≤ i) (h : ordP p d q u v i.toNat u1 v1) (h2 : insP p d q (u1 i) (v1 i) i u1 v1 u' v' j) : ordP p d q u v (i + 1).toNat u' v' := by
  rw [show (i + 1).toNat = i.toNat + 1 by omega]
  have e := ordP_hi h i (by omega)
  rw [e.1, e.2] at h2
  exact ⟨u1, v1, j, h, by rw [show ((i.toNat : Nat) : Int) = i by omega]; exact h2⟩
