/-! ===== MATH 20: order of a whole list; ranks; rows ===== -/
theorem ordF {p d q : Int} (hq : q ≠ 0) (hd : 0 ≤ d) : ∀ {l acc : List (Int × Int)}, srt p d q acc → (∀ y ∈ acc ++ l, okC y) → (acc ++ l).Nodup → srt p d q (l.foldl (fun a x => insL p d q x a) acc) ∧ (l.foldl (fun a x => insL p d q x a) acc).Perm (acc ++ l)
  | [], acc, hs, _, _ => by
    rw [List.append_nil]
    exact ⟨hs, List.Perm.refl _⟩
  | x :: l, acc, hs, ho, hn => by
    have hp : (insL p d q x acc ++ l).Perm (acc ++ x :: l) := ((insL_perm p d q x acc).append_right l).trans List.perm_middle.symm
    have hx : okC x := ho x (List.mem_append_right _ List.mem_cons_self)
    have hne : ∀ y ∈ acc, okC y ∧ x ≠ y := fun y hy => ⟨ho y (List.mem_append_left _ hy), fun e => (List.nodup_append.mp hn).2.2 y hy x List.mem_cons_self e.symm⟩
    have ih := ordF hq hd (l := l) (acc := insL p d q x acc) (insL_srt hq hd hx hs hne) (fun y hy => ho y (hp.mem_iff.mp hy)) (hp.nodup_iff.mpr hn)
    exact ⟨ih.1, ih.2.trans hp⟩
theorem ordL_srt {p d q : Int} {l : List (Int × Int)} (hq : q ≠ 0) (hd : 0 ≤ d) (ho : ∀ y ∈ l, okC y) (hn : l.Nodup) : srt p d q (ordL p d q l) ∧ (ordL p d q l).Perm l :=
  ordF hq hd (l := l) (acc := []) List.Pairwise.nil ho hn
/-- in a list in order, the element at place i has rank i -/
theorem rk_at {p d q : Int} (hq : q ≠ 0) (hd : 0 ≤ d) : ∀ {l : List (Int × Int)} {i : Nat} {x : Int × Int}, srt p d q l → (∀ y ∈ l, okC y) → l[i]? = some x → rkL p d q x l = i
  | [], i, x, _, _, h => by rw [List.getElem?_nil] at h; cases h
  | y :: ys, 0, x, hs, ho, h => by
    rw [List.getElem?_cons_zero] at h
    have e : y = x := Option.some.inj h
    subst e
    have hs2 := List.pairwise_cons.mp hs
    have hy := ho y List.mem_cons_self
    have hz0 : (y :: ys).countP (fun z => nrr p d q z.1 z.2 y.1 y.2) = 0 := by
      refine List.countP_eq_zero.mpr (fun z hz => ?_)
      rcases List.mem_cons.mp hz with e | e
      · rw [e]; exact nrr_irr hq hd (okC_pos hy)
      · exact nrr_asymm hq hd (okC_pos hy) (okC_pos (ho z hz)) (hs2.1 z e)
    unfold rkL
    rw [hz0]
  | y :: ys, i + 1, x, hs, ho, h => by
    rw [List.getElem?_cons_succ] at h
    have hs2 := List.pairwise_cons.mp hs
    have hx := List.mem_of_getElem? h
    have ih := rk_at hq hd hs2.2 (fun z hz => ho z (List.mem_cons_of_mem _ hz)) h
    unfold rkL at ih ⊢
    rw [List.countP_cons_of_pos (p := fun y : Int × Int => nrr p d q y.1 y.2 x.1 x.2) (a := y) (by exact hs2.1 x hx)]
    omega
theorem rk_perm {p d q : Int} {x : Int × Int} {l l' : List (Int × Int)} (h : l.Perm l') : rkL p d q x l = rkL p d q x l' := by
  unfold rkL
  rw [h.countP_eq _]
theorem tk_cnt {f : Int → Int × Int} {P : Int × Int → Bool} : ∀ n : Nat, (tk f (n + 1)).countP P = (tk f n).countP P + (if P (f n) = true then 1 else 0)
  | n => by
    show (tk f n ++ [f n]).countP P = _
    rw [List.countP_append, List.countP_singleton]
/-- the reference's rank is the rank in its rows -/
theorem plM_rk {S : Int → Int} {k : Int} (hq : S 2 ≠ 0) (hd : 0 ≤ S 1) (hk : 0 < S (5 + 2 * k)) : ∀ n : Nat, plM S k n = rkL (S 0) (S 1) (S 2) (S (4 + 2 * k), S (5 + 2 * k)) (tk (pr (fun i => S (4 + 2 * i)) (fun i => S (5 + 2 * i))) n)
  | 0 => rfl
  | n + 1 => by
    have ih := plM_rk hq hd hk n
    unfold rkL at ih ⊢
    rw [tk_cnt]
    unfold plM
    rw [ih]
    dsimp only
    show _ = (((tk (pr (fun i => S (4 + 2 * i)) (fun i => S (5 + 2 * i))) n).countP (fun y => nrr (S 0) (S 1) (S 2) y.1 y.2 (S (4 + 2 * k)) (S (5 + 2 * k))) + (if nrr (S 0) (S 1) (S 2) (S (4 + 2 * (n : Int))) (S (5 + 2 * (n : Int))) (S (4 + 2 * k)) (S (5 + 2 * k)) = true then 1 else 0) : Nat) : Int)
    by_cases h : nrr (S 0) (S 1) (S 2) (S (4 + 2 * (n : Int))) (S (5 + 2 * (n : Int))) (S (4 + 2 * k)) (S (5 + 2 * k)) = true
    · rw [if_pos h]
      by_cases e : (n : Int) = k
      · rw [e] at h
        exact absurd h (nrr_irr hq hd hk)
      · rw [if_pos ⟨e, h⟩]; omega
    · rw [if_neg h, if_neg (fun z => h z.2)]; omega
