/-! ===== MATH 9: the book as a list; what the methods that change the object do ===== -/
def insR (p d q : Int) (x : Int × Int) : List (Int × Int) → List (Int × Int)
  | [] => [x]
  | y :: ys => if nrr p d q x.1 x.2 y.1 y.2 = true then y :: insR p d q x ys else x :: y :: ys
def posR (p d q : Int) (x : Int × Int) : List (Int × Int) → Int
  | [] => 0
  | y :: ys => if nrr p d q x.1 x.2 y.1 y.2 = true then posR p d q x ys else (ys.length : Int) + 1
/-- a fraction put into a list in order, from the last one on -/
def insL (p d q : Int) (x : Int × Int) (l : List (Int × Int)) : List (Int × Int) := (insR p d q x l.reverse).reverse
def posL (p d q : Int) (x : Int × Int) (l : List (Int × Int)) : Int := posR p d q x l.reverse
def ordL (p d q : Int) (l : List (Int × Int)) : List (Int × Int) := l.foldl (fun a x => insL p d q x a) []
theorem insL_nil (p d q : Int) (x : Int × Int) : insL p d q x [] = [x] := rfl
theorem insL_sn {p d q : Int} {x y : Int × Int} {l : List (Int × Int)} : insL p d q x (l ++ [y]) = if nrr p d q x.1 x.2 y.1 y.2 = true then insL p d q x l ++ [y] else l ++ [y, x] := by
  unfold insL
  rw [List.reverse_append, List.reverse_singleton, List.singleton_append]
  show (if nrr p d q x.1 x.2 y.1 y.2 = true then y :: insR p d q x l.reverse else x :: y :: l.reverse).reverse = _
  by_cases h : nrr p d q x.1 x.2 y.1 y.2 = true
  · rw [if_pos h, if_pos h, List.reverse_cons]
  · rw [if_neg h, if_neg h, List.reverse_cons, List.reverse_cons, List.reverse_reverse, List.append_assoc]; rfl
theorem posL_sn {p d q : Int} {x y : Int × Int} {l : List (Int × Int)} : posL p d q x (l ++ [y]) = if nrr p d q x.1 x.2 y.1 y.2 = true then posL p d q x l else (l.length : Int) + 1 := by
  unfold posL
  rw [List.reverse_append, List.reverse_singleton, List.singleton_append]
  show (if nrr p d q x.1 x.2 y.1 y.2 = true then posR p d q x l.reverse else (l.reverse.length : Int) + 1) = _
  rw [List.length_reverse]
theorem insW_tk {p d q a b : Int} {u v u' v' : Int → Int} {j : Int} (h4 : u' j = a) (h5 : v' j = b) (h1 : 0 ≤ j) (h3 : ∀ i : Int, 0 ≤ i → i < j → u' i = u i ∧ v' i = v i) (h8 : 0 < j → ¬ nrr p d q a b (u (j - 1)) (v (j - 1)) = true) : ∀ {n : Nat}, j ≤ (n : Int) → (∀ i : Int, j < i → i ≤ (n : Int) → u' i = u (i - 1) ∧ v' i = v (i - 1)) → (∀ i : Int, j ≤ i → i < (n : Int) → nrr p d q a b (u i) (v i) = true) → tk (pr u' v') (n + 1) = insL p d q (a, b) (tk (pr u v) n) ∧ j = posL p d q (a, b) (tk (pr u v) n)
  | 0, h2, _, _ => by
    have hj : j = 0 := by omega
    subst hj
    refine ⟨?_, rfl⟩
    show [(u' 0, v' 0)] = [(a, b)]
    rw [h4, h5]
  | n + 1, h2, h6, h7 => by
    have e1 : tk (pr u v) (n + 1) = tk (pr u v) n ++ [(u n, v n)] := rfl
    by_cases hj : j = (n : Int) + 1
    · have hn : ¬ nrr p d q (a, b).1 (a, b).2 (u n, v n).1 (u n, v n).2 = true := by
        have := h8 (by omega)
        rw [show j - 1 = (n : Int) by omega] at this
        exact this
      have e0 : tk (pr u' v') (n + 1) = tk (pr u v) (n + 1) := tk_cong (fun i i1 i2 => by
        have := h3 i i1 (by omega)
        unfold pr
        rw [this.1, this.2])
      refine ⟨?_, ?_⟩
      · show tk (pr u' v') (n + 1) ++ [(u' ((n + 1 : Nat) : Int), v' ((n + 1 : Nat) : Int))] = _
        rw [show ((n + 1 : Nat) : Int) = j by omega, h4, h5, e0, e1, insL_sn, if_neg hn, List.append_assoc]
        rfl
      · rw [e1, posL_sn, if_neg hn, tk_len]; exact hj
    · have hn : nrr p d q (a, b).1 (a, b).2 (u n, v n).1 (u n, v n).2 = true := h7 n (by omega) (by omega)
      have ih := insW_tk h4 h5 h1 h3 h8 (n := n) (by omega) (fun i i1 i2 => h6 i i1 (by omega)) (fun i i1 i2 => h7 i i1 (by omega))
      have e6 := h6 ((n : Int) + 1) (by omega) (by omega)
      rw [show (n : Int) + 1 - 1 = n by omega] at e6
      refine ⟨?_, ?_⟩
      · show tk (pr u' v') (n + 1) ++ [(u' ((n + 1 : Nat) : Int), v' ((n + 1 : Nat) : Int))] = _
        rw [show ((n + 1 : Nat) : Int) = (n : Int) + 1 by omega, e6.1, e6.2, ih.1, e1, insL_sn, if_pos hn]
      · rw [e1, posL_sn, if_pos hn]; exact ih.2
theorem insP_tk {p d q a b n : Int} {u v u' v' : Int → Int} {j : Int} (h0 : 0 ≤ n) (h : insP p d q a b n u v u' v' j) : tk (pr u' v') (n + 1).toNat = insL p d q (a, b) (tk (pr u v) n.toNat) ∧ j = posL p d q (a, b) (tk (pr u v) n.toNat) := by
  obtain ⟨h1, h2, h3, h4, h5, h6, h7, h8, -⟩ := h
  rw [show (n + 1).toNat = n.toNat + 1 by omega]
  exact insW_tk h4 h5 h1 h3 h8 (by omega) (fun i i1 i2 => h6 i i1 (by omega)) (fun i i1 i2 => h7 i i1 (by omega))
theorem ordP_tk {p d q : Int} {u v : Int → Int} : ∀ {k : Nat} {u' v' : Int → Int}, ordP p d q u v k u' v' → tk (pr u' v') k = ordL p d q (tk (pr u v) k)
  | 0, _, _, _ => rfl
  | k + 1, u', v', h => by
    obtain ⟨u1, v1, j, h1, h2⟩ := h
    have e := insP_tk (by omega) h2
    rw [show ((k : Int) + 1).toNat = k + 1 by omega, show ((k : Int)).toNat = k by omega] at e
    rw [e.1, ordP_tk h1]
    show _ = ordL p d q (tk (pr u v) k ++ [pr u v k])
    unfold ordL
    rw [List.foldl_append]
    rfl
theorem remP_tk {n k : Int} {u v u' v' : Int → Int} (h0 : 0 ≤ k ∧ k < n) (h : ∀ i : Int, (i < k → u' i = u i ∧ v' i = v i) ∧ (k ≤ i → i < n - 1 → u' i = u (i + 1) ∧ v' i = v (i + 1))) : tk (pr u' v') (n - 1).toNat = (tk (pr u v) n.toNat).eraseIdx k.toNat := by
  refine List.ext_getElem? (fun i => ?_)
  rw [List.getElem?_eraseIdx]
  by_cases hi : i < (n - 1).toNat
  · rw [tk_get hi]
    have hh := h i
    by_cases hk : i < k.toNat
    · rw [if_pos hk, tk_get (by omega)]
      have := hh.1 (by omega)
      unfold pr; rw [this.1, this.2]
    · rw [if_neg hk, tk_get (by omega)]
      have := hh.2 (by omega) (by omega)
      unfold pr; rw [this.1, this.2]; rfl
  · rw [List.getElem?_eq_none (by rw [tk_len]; omega)]
    by_cases hk : i < k.toNat
    · omega
    · rw [if_neg hk, List.getElem?_eq_none (by rw [tk_len]; omega)]
theorem tk_has {n a b : Int} {u v : Int → Int} : (∃ i : Int, 0 ≤ i ∧ i < n ∧ u i = a ∧ v i = b) ↔ (a, b) ∈ tk (pr u v) n.toNat := by
  constructor
  · rintro ⟨i, h1, h2, h3, h4⟩
    have := tk_in (f := pr u v) (k := n.toNat) (i := i) h1 (by omega)
    unfold pr at this
    rw [h3, h4] at this
    exact this
  · intro h
    obtain ⟨i, h1, h2, h3⟩ := tk_mem h
    unfold pr at h3
    exact ⟨i, h1, by omega, congrArg Prod.fst h3, congrArg Prod.snd h3⟩
-- histories
def kpH (h : List zH) (e : zH) : List zH := (if h.length = 4 then h.tail else h) ++ [e]
theorem hL_len {hs : Int} {a b c d : zH} (h : 0 ≤ hs ∧ hs ≤ 4) : (hL hs a b c d).length = hs.toNat := by
  unfold hL
  rw [List.length_take]
  show min hs.toNat 4 = _
  omega
theorem hKp_eq {hs hs' : Int} {a b c d e a' b' c' d' : zH} (h0 : 0 ≤ hs ∧ hs ≤ 4) (h : hKp hs a b c d e hs' a' b' c' d') : hL hs' a' b' c' d' = kpH (hL hs a b c d) e := by
  rw [h.2]
  unfold kpH
  rw [hL_len h0]
  by_cases q : hs = 4
  · rw [if_pos q, if_pos (by omega)]
  · rw [if_neg q, if_neg (by omega)]
def bkA (e : zH) : List (Int × Int) := e.2.2.2
/-- the surd's expansion, as it lies in the object -/
def xE (p d q lt lb ld pd cv : Int) (f U L : Int → Int) : Prop := pdI p d q 401 lt lb ld pd ∧ (∀ k : Int, 0 ≤ k → k < 400 → f k = tm p d q k) ∧ (0 ≤ cv ∧ cv ≤ 400 ∧ cvP f cv U L ∧ (cv < 400 → (chRun f (cv + 1).toNat).2.2.1 = 1))
def zOk (e : zH) : Prop := vS e.1 e.2.1 e.2.2.1 ∧ e.2.2.2.length ≤ 8 ∧ ∀ x ∈ e.2.2.2, okF x.1 x.2
theorem zOk_hE {p d q n : Int} {u v : Int → Int} (h : zOk (hE p d q n u v)) (hn : 0 ≤ n) : vS p d q ∧ n ≤ 8 ∧ ∀ i : Int, 0 ≤ i → i < n → okF (u i) (v i) := by
  obtain ⟨h1, h2, h3⟩ := h
  refine ⟨h1, ?_, fun i i1 i2 => ?_⟩
  · have : (tk (pr u v) n.toNat).length ≤ 8 := h2
    rw [tk_len] at this
    omega
  · have : pr u v i ∈ (hE p d q n u v).2.2.2 := tk_in i1 (by omega)
    exact h3 _ this
def r99 (a b c : Int) : Prop := (-99 ≤ a ∧ a ≤ 99) ∧ (2 ≤ b ∧ b ≤ 999) ∧ (-99 ≤ c ∧ c ≤ 99) ∧ c ≠ 0
def suC (e : zH) (h : List zH) (a b c r : Int) (e' : zH) (h' : List zH) : Prop := (¬ r99 a b c ∧ r = -1000001 ∧ e' = e ∧ h' = h) ∨ (r99 a b c ∧ rt b * rt b = b ∧ r = -1000002 ∧ e' = e ∧ h' = h) ∨ (r99 a b c ∧ rt b * rt b ≠ b ∧ r = 0 ∧ e' = (a, b, c, ordL a b c e.2.2.2) ∧ h' = kpH h e)
theorem su_e {p d q a b c n : Int} {u v u' v' : Int → Int} (h : ordP a b c u v n.toNat u' v') : hE a b c n u' v' = (a, b, c, ordL a b c (hE p d q n u v).2.2.2) := by
  unfold hE
  rw [ordP_tk h]
def ntF (c : Int → Int) (tn : Int) (k : Nat) (e : zH) : Prop := fitP (tCh c tn k).2.2.1 (tCh c tn k).1 (tCh c tn k).2.1 ∧ ((tCh c tn k).1, (tCh c tn k).2.1) ∉ e.2.2.2
def ntC (c : Int → Int) (tn : Int) (e : zH) (h : List zH) (r : Int) (e' : zH) (h' : List zH) : Prop := ((∃ fp fr : Int, tBad c tn fp fr) ∧ r = -1000002 ∧ e' = e ∧ h' = h) ∨ (∃ k : Nat, tFine c tn k ∧ ((¬ ntF c tn k e ∧ r = -1000002 ∧ e' = e ∧ h' = h) ∨ (ntF c tn k e ∧ 8 ≤ e.2.2.2.length ∧ r = -1000003 ∧ e' = e ∧ h' = h) ∨ (ntF c tn k e ∧ e.2.2.2.length < 8 ∧ r = posL e.1 e.2.1 e.2.2.1 ((tCh c tn k).1, (tCh c tn k).2.1) e.2.2.2 ∧ e' = (e.1, e.2.1, e.2.2.1, insL e.1 e.2.1 e.2.2.1 ((tCh c tn k).1, (tCh c tn k).2.1) e.2.2.2) ∧ h' = kpH h e)))
theorem hE_len {p d q n : Int} {u v : Int → Int} : (hE p d q n u v).2.2.2.length = n.toNat := tk_len _ _
def stC (e : zH) (h : List zH) (k r : Int) (e' : zH) (h' : List zH) : Prop := (k < 0 ∧ r = -1000001 ∧ e' = e ∧ h' = h) ∨ (0 ≤ k ∧ (e.2.2.2.length : Int) ≤ k ∧ r = -1000002 ∧ e' = e ∧ h' = h) ∨ (0 ≤ k ∧ k < (e.2.2.2.length : Int) ∧ r = (e.2.2.2.length : Int) - 1 ∧ e' = (e.1, e.2.1, e.2.2.1, e.2.2.2.eraseIdx k.toNat) ∧ h' = kpH h e)
def saC (e : zH) (h : List zH) (r : Int) (e' : zH) (h' : List zH) : Prop := r = (e.2.2.2.length : Int) ∧ e' = (e.1, e.2.1, e.2.2.1, []) ∧ h' = kpH h e
def unC (e : zH) (h : List zH) (r : Int) (e' : zH) (h' : List zH) : Prop := (h = [] ∧ r = -1000002 ∧ e' = e ∧ h' = h) ∨ (h = h' ++ [e'] ∧ r = (h'.length : Int))
def noV (e : zH) (cv : Int) (U L : Int → Int) (x : Int × Int) (what r : Int) : Prop := (what = 0 ∧ r = x.1 + 1000000) ∨ (what = 1 ∧ r = x.2) ∨ (what = 2 ∧ ((r = 1 ∧ abv e.1 e.2.1 e.2.2.1 x.1 x.2 = true) ∨ (r = 0 ∧ ¬ abv e.1 e.2.1 e.2.2.1 x.1 x.2 = true))) ∨ (what = 3 ∧ ((r = 1 ∧ ∃ k : Int, 0 ≤ k ∧ k < cv ∧ U k = x.1 ∧ L k = x.2) ∨ (r = 0 ∧ ¬ ∃ k : Int, 0 ≤ k ∧ k < cv ∧ U k = x.1 ∧ L k = x.2)))
def noC (e : zH) (cv : Int) (U L : Int → Int) (k what r : Int) : Prop := (¬ (0 ≤ k ∧ 0 ≤ what ∧ what ≤ 3) ∧ r = -1000001) ∨ ((0 ≤ k ∧ 0 ≤ what ∧ what ≤ 3) ∧ (e.2.2.2.length : Int) ≤ k ∧ r = -1000004) ∨ ((0 ≤ k ∧ 0 ≤ what ∧ what ≤ 3) ∧ ∃ x : Int × Int, e.2.2.2[k.toNat]? = some x ∧ noV e cv U L x what r)
theorem hE_get {p d q n k : Int} {u v : Int → Int} (h : 0 ≤ k ∧ k < n) : (hE p d q n u v).2.2.2[k.toNat]? = some (u k, v k) := by
  have := tk_get (f := pr u v) (k := n.toNat) (i := k.toNat) (by omega)
  rw [show ((k.toNat : Nat) : Int) = k by omega] at this
  exact this
def tdV (p d q : Int) (f c : Int → Int) (tn : Int) (k : Nat) (what r : Int) : Prop := (what = 2 ∧ r = (k : Int) + 1) ∨ (what = 3 ∧ ∃ g : Int → Int, (∀ i : Int, 0 ≤ i → i ≤ k → g i = tV c tn i.toNat) ∧ shP g f ((k : Int) + 1) r) ∨ (what = 4 ∧ ((¬ fitP (tCh c tn k).2.2.1 (tCh c tn k).1 (tCh c tn k).2.1 ∧ r = -1000003) ∨ (fitP (tCh c tn k).2.2.1 (tCh c tn k).1 (tCh c tn k).2.1 ∧ ((r = 1 ∧ abv p d q (tCh c tn k).1 (tCh c tn k).2.1 = true) ∨ (r = 0 ∧ ¬ abv p d q (tCh c tn k).1 (tCh c tn k).2.1 = true))))) ∨ ((what = 0 ∨ what = 1) ∧ (((tCh c tn k).2.2.1 = 1 ∧ r = -1000003) ∨ ((tCh c tn k).2.2.1 = 0 ∧ what = 0 ∧ r = (tCh c tn k).1 + 9000000000000000) ∨ ((tCh c tn k).2.2.1 = 0 ∧ what = 1 ∧ r = (tCh c tn k).2.1)))
def tdC (p d q : Int) (f c : Int → Int) (tn what r : Int) : Prop := (¬ (0 ≤ what ∧ what ≤ 4) ∧ r = -1000001) ∨ ((0 ≤ what ∧ what ≤ 4) ∧ (∃ fp fr : Int, tBad c tn fp fr) ∧ r = -1000002) ∨ ((0 ≤ what ∧ what ≤ 4) ∧ ∃ k : Nat, tFine c tn k ∧ tdV p d q f c tn k what r)
theorem okF_fit {u v o : Int} (h : fitP o u v) (h2 : 1 ≤ v) : okF u v := ⟨h.2.1.1, h.2.1.2, h2, h.2.2⟩
theorem tCh_eq {c g : Int → Int} {n tc u v o a b : Int} {k : Nat} (h : ∀ i : Int, 0 ≤ i → i ≤ k → g i = tV c n i.toNat) (htc : tc = k + 1) (hr : chRun g tc.toNat = (u, v, o, a, b)) : tCh c n k = (u, v, o, a, b) := by
  rw [← tCh_of h, ← hr, htc, show ((k : Int) + 1).toNat = k + 1 by omega]
def hLs (hs : Int) (a b c d : zH) : List zH := hL hs a b c d
theorem hLs_len {hs : Int} {a b c d : zH} (h : 0 ≤ hs ∧ hs ≤ 4) : (hLs hs a b c d).length = hs.toNat := hL_len h
theorem vS_ini : vS 0 2 1 := ⟨by omega, by omega, by omega, by omega, nsq_of (by omega) (by rw [← rt_uniq (x := 2) (r := 1) (by omega) (by omega) (by omega)]; decide)⟩
