/-! ===== MATH 19: the book: the list in order and the rows in the order of noting ===== -/
def nr (p d q : Int) (x y : Int × Int) : Prop := nrr p d q x.1 x.2 y.1 y.2 = true
def okC (x : Int × Int) : Prop := okF x.1 x.2 ∧ ∃ a b : Int, x.1 * b - x.2 * a = 1
theorem okC_pos {x : Int × Int} (h : okC x) : 0 < x.2 := by have := h.1; unfold okF at this; omega
theorem okC_le {x y : Int × Int} (hx : okC x) (hy : 0 < y.2) (h : x.1 * y.2 = y.1 * x.2) : x.2 ≤ y.2 := by
  have px := okC_pos hx
  obtain ⟨-, a, b, hab⟩ := hx
  have e : y.2 = x.2 * (y.1 * b - y.2 * a) := by
    have e1 : y.2 = y.2 * (x.1 * b - x.2 * a) := by rw [hab, Int.mul_one]
    have e2 : y.2 * (x.1 * b - x.2 * a) = (x.1 * y.2) * b - y.2 * x.2 * a := by grind
    rw [h] at e2
    have e3 : (y.1 * x.2) * b - y.2 * x.2 * a = x.2 * (y.1 * b - y.2 * a) := by grind
    omega
  have hk : 0 < y.1 * b - y.2 * a := by
    refine Decidable.byContradiction (fun z => ?_)
    have := Int.mul_nonneg (a := x.2) (b := -(y.1 * b - y.2 * a)) (by omega) (by omega)
    have e4 : x.2 * (-(y.1 * b - y.2 * a)) = -(x.2 * (y.1 * b - y.2 * a)) := Int.mul_neg _ _
    omega
  have := Int.mul_le_mul (a := x.2) (c := x.2) (b := 1) (d := y.1 * b - y.2 * a) (Int.le_refl _) (by omega) (by omega) (by omega)
  omega
theorem okC_eq {x y : Int × Int} (hx : okC x) (hy : okC y) (h : x.1 * y.2 = y.1 * x.2) : x = y := by
  have h1 := okC_le hx (okC_pos hy) h
  have h2 := okC_le hy (okC_pos hx) h.symm
  have e : x.2 = y.2 := by omega
  have py := okC_pos hy
  rw [e] at h
  have e1 : x.1 = y.1 := Int.eq_of_mul_eq_mul_right (by omega) h
  obtain ⟨x1, x2⟩ := x
  obtain ⟨y1, y2⟩ := y
  dsimp only at e e1
  rw [e, e1]
theorem nr_or {p d q : Int} {x y : Int × Int} (hq : q ≠ 0) (hd : 0 ≤ d) (hx : okC x) (hy : okC y) (hne : x ≠ y) : nr p d q x y ∨ nr p d q y x := by
  by_cases h1 : nr p d q x y
  · exact Or.inl h1
  · by_cases h2 : nr p d q y x
    · exact Or.inr h2
    · exact absurd (okC_eq hx hy (nrr_tot hq hd (okC_pos hx) (okC_pos hy) h1 h2)) hne
def dsc (p d q : Int) (r : List (Int × Int)) : Prop := r.Pairwise (fun x y => nr p d q y x)
theorem insR_perm (p d q : Int) (x : Int × Int) : ∀ r : List (Int × Int), (insR p d q x r).Perm (x :: r)
  | [] => List.Perm.refl _
  | y :: ys => by
    unfold insR
    by_cases h : nrr p d q x.1 x.2 y.1 y.2 = true
    · rw [if_pos h]
      exact ((insR_perm p d q x ys).cons y).trans (List.Perm.swap x y ys)
    · rw [if_neg h]
theorem insR_dsc {p d q : Int} {x : Int × Int} (hq : q ≠ 0) (hd : 0 ≤ d) (hx : okC x) : ∀ {r : List (Int × Int)}, dsc p d q r → (∀ y ∈ r, okC y ∧ x ≠ y) → dsc p d q (insR p d q x r)
  | [], _, _ => List.pairwise_singleton _ _
  | y :: ys, hs, hr => by
    have hs2 := List.pairwise_cons.mp hs
    have hy := hr y (List.mem_cons_self)
    unfold insR
    by_cases h : nrr p d q x.1 x.2 y.1 y.2 = true
    · rw [if_pos h]
      refine List.pairwise_cons.mpr ⟨fun z hz => ?_, insR_dsc hq hd hx hs2.2 (fun w hw => hr w (List.mem_cons_of_mem _ hw))⟩
      rcases List.mem_cons.mp ((insR_perm p d q x ys).mem_iff.mp hz) with e | e
      · rw [e]; exact h
      · exact hs2.1 z e
    · rw [if_neg h]
      have hyx : nr p d q y x := by
        rcases nr_or hq hd hx hy.1 hy.2 with g | g
        · exact absurd g h
        · exact g
      refine List.pairwise_cons.mpr ⟨fun z hz => ?_, hs⟩
      rcases List.mem_cons.mp hz with e | e
      · rw [e]; exact hyx
      · exact nrr_trans hq hd (okC_pos (hr z hz).1) (okC_pos hy.1) (okC_pos hx) (hs2.1 z e) hyx
/-- how many of a list are nearer than x -/
def rkL (p d q : Int) (x : Int × Int) (l : List (Int × Int)) : Int := (l.countP (fun y => nrr p d q y.1 y.2 x.1 x.2) : Nat)
theorem posR_rk {p d q : Int} {x : Int × Int} (hq : q ≠ 0) (hd : 0 ≤ d) (hx : okC x) : ∀ {r : List (Int × Int)}, dsc p d q r → (∀ y ∈ r, okC y ∧ x ≠ y) → posR p d q x r = rkL p d q x r
  | [], _, _ => rfl
  | y :: ys, hs, hr => by
    have hs2 := List.pairwise_cons.mp hs
    have hy := hr y (List.mem_cons_self)
    unfold posR rkL
    by_cases h : nrr p d q x.1 x.2 y.1 y.2 = true
    · have hno : ¬ nrr p d q y.1 y.2 x.1 x.2 = true := nrr_asymm hq hd (okC_pos hx) (okC_pos hy.1) h
      rw [if_pos h, List.countP_cons_of_neg (p := fun y : Int × Int => nrr p d q y.1 y.2 x.1 x.2) (a := y) (by exact hno)]
      exact posR_rk hq hd hx hs2.2 (fun w hw => hr w (List.mem_cons_of_mem _ hw))
    · rw [if_neg h]
      have hyx : nr p d q y x := by
        rcases nr_or hq hd hx hy.1 hy.2 with g | g
        · exact absurd g h
        · exact g
      have hall : ∀ z ∈ y :: ys, nrr p d q z.1 z.2 x.1 x.2 = true := fun z hz => by
        rcases List.mem_cons.mp hz with e | e
        · rw [e]; exact hyx
        · exact nrr_trans hq hd (okC_pos (hr z hz).1) (okC_pos hy.1) (okC_pos hx) (hs2.1 z e) hyx
      rw [List.countP_eq_length.mpr hall, List.length_cons]
      omega
def srt (p d q : Int) (l : List (Int × Int)) : Prop := l.Pairwise (nr p d q)
theorem srt_rev {p d q : Int} {l : List (Int × Int)} : dsc p d q l.reverse ↔ srt p d q l := List.pairwise_reverse
theorem insL_perm (p d q : Int) (x : Int × Int) (l : List (Int × Int)) : (insL p d q x l).Perm (x :: l) := by
  unfold insL
  exact (List.reverse_perm _).trans ((insR_perm p d q x l.reverse).trans ((List.reverse_perm l).cons x))
theorem insL_srt {p d q : Int} {x : Int × Int} {l : List (Int × Int)} (hq : q ≠ 0) (hd : 0 ≤ d) (hx : okC x) (hs : srt p d q l) (hr : ∀ y ∈ l, okC y ∧ x ≠ y) : srt p d q (insL p d q x l) := by
  rw [← srt_rev]
  unfold insL
  rw [List.reverse_reverse]
  exact insR_dsc hq hd hx (srt_rev.mpr hs) (fun y hy => hr y (List.mem_reverse.mp hy))
theorem posL_rk {p d q : Int} {x : Int × Int} {l : List (Int × Int)} (hq : q ≠ 0) (hd : 0 ≤ d) (hx : okC x) (hs : srt p d q l) (hr : ∀ y ∈ l, okC y ∧ x ≠ y) : posL p d q x l = rkL p d q x l := by
  unfold posL
  rw [posR_rk hq hd hx (srt_rev.mpr hs) (fun y hy => hr y (List.mem_reverse.mp hy))]
  unfold rkL
  rw [(List.reverse_perm l).countP_eq _]
