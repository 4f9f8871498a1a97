/-! ===== MATH 12: the reference's texts and book ===== -/
def nbS (c : Int → Int) (n s e v : Int) : Prop := (e = s ∧ v = 0) ∨ (e = s + 1 ∧ 0 ≤ dg c n s ∧ v = dg c n s) ∨ (e = s + 2 ∧ 0 < dg c n s ∧ 0 ≤ dg c n (s + 1) ∧ v = 10 * dg c n s + dg c n (s + 1)) ∨ (e = s + 3 ∧ 0 < dg c n s ∧ 0 ≤ dg c n (s + 1) ∧ 0 ≤ dg c n (s + 2) ∧ v = 10 * (10 * dg c n s + dg c n (s + 1)) + dg c n (s + 2))
theorem nbS_s {c : Int → Int} {n s e v x : Int} (h : nbS c n s e v) (hd : 0 ≤ dg c n e) (hx : x = 10 * v + dg c n e) (h3 : e - s < 3) (h4 : e = s ∨ 0 < v) : nbS c n s (e + 1) x := by
  subst hx
  rcases h with ⟨rfl, rfl⟩ | ⟨rfl, h1, rfl⟩ | ⟨rfl, h1, h2, rfl⟩ | ⟨rfl, h1, h2, h5, rfl⟩
  · exact Or.inr (Or.inl ⟨rfl, hd, by omega⟩)
  · exact Or.inr (Or.inr (Or.inl ⟨by omega, by omega, hd, rfl⟩))
  · exact Or.inr (Or.inr (Or.inr ⟨by omega, h1, h2, hd, rfl⟩))
  · omega
theorem nbS_end {c : Int → Int} {n s e v : Int} (h : nbS c n s e v) (hx : dg c n e < 0 ∨ 3 ≤ e - s ∨ (e ≠ s ∧ v ≤ 0)) : (dg c n s < 0 ∧ e = s ∧ v = 0) ∨ (0 ≤ dg c n s ∧ e = nEnd c n s ∧ v = nVal c n s) := by
  have b0 := dg_bd c n s
  have b1 := dg_bd c n (s + 1)
  have b2 := dg_bd c n (s + 2)
  rcases h with ⟨rfl, rfl⟩ | ⟨rfl, h1, rfl⟩ | ⟨rfl, h1, h2, rfl⟩ | ⟨rfl, h1, h2, h5, rfl⟩
  · exact Or.inl ⟨by omega, rfl, rfl⟩
  · refine Or.inr ⟨h1, ?_, ?_⟩
    · unfold nEnd
      by_cases q : dg c n s = 0
      · rw [if_pos q]
      · rw [if_neg q, if_pos (by omega)]
    · unfold nVal
      by_cases q : dg c n s = 0
      · rw [if_pos q]; exact q
      · rw [if_neg q, if_pos (by omega)]
  · have e3 : dg c n (s + 2) < 0 := by omega
    refine Or.inr ⟨by omega, ?_, ?_⟩
    · unfold nEnd; rw [if_neg (by omega), if_neg (by omega), if_pos e3]
    · unfold nVal; rw [if_neg (by omega), if_neg (by omega), if_pos e3]
  · refine Or.inr ⟨by omega, ?_, ?_⟩
    · unfold nEnd; rw [if_neg (by omega), if_neg (by omega), if_neg (by omega)]
    · unfold nVal; rw [if_neg (by omega), if_neg (by omega), if_neg (by omega)]
theorem nbS_bd {c : Int → Int} {n s e v : Int} (h : nbS c n s e v) : 0 ≤ v ∧ v ≤ 999 ∧ s ≤ e ∧ e ≤ s + 3 := by
  have b0 := dg_bd c n s
  have b1 := dg_bd c n (s + 1)
  have b2 := dg_bd c n (s + 2)
  unfold nbS at h
  omega
def nuR (c : Int → Int) (n s s' v : Int) : Prop := (dg c n s < 0 ∧ s' = s ∧ v = 0) ∨ (0 ≤ dg c n s ∧ s' = nEnd c n s ∧ v = nVal c n s)
theorem nuR_bd {c : Int → Int} {n s s' v : Int} (h : nuR c n s s' v) (h2 : s ≤ n) : s ≤ s' ∧ s' ≤ n ∧ 0 ≤ v ∧ v ≤ 999 ∧ (0 ≤ dg c n s → s < s') ∧ (dg c n s = 0 → v = 0) ∧ (0 < dg c n s → 0 < v) := by
  rcases h with ⟨h1, rfl, rfl⟩ | ⟨h1, rfl, rfl⟩
  · omega
  · have e1 := nEnd_bd h1
    have e2 := nVal_bd h1
    refine ⟨by omega, by omega, by omega, by omega, fun _ => by omega, fun z => ?_, fun z => by omega⟩
    unfold nVal; rw [if_pos z]
def laR (c : Int → Int) (n s rs pt : Int) (RW : Int → Int) (s' rs' pt' : Int) (RW' : Int → Int) : Prop := (∀ j : Int, 0 ≤ j → j < pt → RW' j = RW j) ∧ ((dg c n s < 0 ∧ s' = s ∧ rs' = rs ∧ pt' = pt) ∨ (dg c n s = 0 ∧ s' = s ∧ rs' = 2 ∧ pt' = pt) ∨ (0 < dg c n s ∧ s' = nEnd c n s ∧ rs' = rs ∧ pt' = pt + 1 ∧ RW' pt = nVal c n s))
def rdM (c : Int → Int) (n is sp rs pt : Int) (RW : Int → Int) : Prop := (is = 1 ∧ rs = 1 ∧ ∃ k : Nat, tG c n k ∧ sp = tE c n k ∧ pt = (k : Int) + 1 ∧ (∀ i : Int, 0 ≤ i → i ≤ k → RW i = tV c n i.toNat) ∧ (k = 0 → chA c n sp ≠ 59)) ∨ (is = 0 ∧ tBad c n sp rs)
theorem rd_first {c : Int → Int} {n s s' v : Int} (hs : (chA c n 0 = 45 ∧ s = 1) ∨ (chA c n 0 ≠ 45 ∧ s = 0)) (h : nuR c n s s' v) : (¬ 0 ≤ dg c n s → tBad c n s' 1) ∧ (0 ≤ dg c n s → tG c n 0 ∧ s' = tE c n 0 ∧ tV c n 0 = (if chA c n 0 = 45 then -v else v)) := by
  have e : s = ts0 c n := by unfold ts0; split <;> omega
  subst e
  rcases h with ⟨h1, rfl, rfl⟩ | ⟨h1, rfl, rfl⟩
  · exact ⟨fun _ => Or.inl ⟨h1, rfl, rfl⟩, fun z => absurd z (by omega)⟩
  · exact ⟨fun z => absurd h1 z, fun _ => ⟨h1, rfl, rfl⟩⟩
/-- behind the number k: the sign that is due is passed, then the later number -/
theorem rd_later {c : Int → Int} {n sp sp1 sp' rs' pt pt' : Int} {RW RW' : Int → Int} {k : Nat} (hg : tG c n k) (hsp : sp = tE c n k) (hlt : sp < n) (hpt : pt = (k : Int) + 1) (hrow : ∀ i : Int, 0 ≤ i → i ≤ k → RW i = tV c n i.toNat) (hd : chA c n sp = due k) (h1 : sp1 = sp + 1) (h : laR c n sp1 1 pt RW sp' rs' pt' RW') : (0 < dg c n sp1 → rdM c n 1 sp' rs' pt' RW') ∧ (¬ 0 < dg c n sp1 → rdM c n 0 sp' rs' pt' RW') := by
  subst h1 hsp
  obtain ⟨h0, h⟩ := h
  refine ⟨fun z => ?_, fun z => ?_⟩
  · rcases h with h | h | h
    · omega
    · omega
    · refine Or.inl ⟨rfl, h.2.2.1, k + 1, ⟨hg, hlt, hd, z⟩, h.2.1, by omega, fun i i1 i2 => ?_, fun y => by omega⟩
      by_cases q : i = pt
      · subst q
        rw [h.2.2.2.2, show i.toNat = k + 1 by omega]; rfl
      · rw [h0 i i1 (by omega)]; exact hrow i i1 (by omega)
  · refine Or.inr ⟨rfl, Or.inr ⟨k, hg, hlt, ?_⟩⟩
    rcases h with h | h | h
    · exact Or.inr (Or.inl ⟨hd, h.1, h.2.1, h.2.2.1⟩)
    · exact Or.inr (Or.inr ⟨hd, h.1, h.2.1, h.2.2.1⟩)
    · omega
theorem rd_stop {c : Int → Int} {n sp pt : Int} {RW : Int → Int} {k : Nat} (hg : tG c n k) (hsp : sp = tE c n k) (hlt : sp < n) (hd : chA c n sp ≠ due k) : rdM c n 0 sp 1 pt RW := by
  subst hsp
  exact Or.inr ⟨rfl, Or.inr ⟨k, hg, hlt, Or.inl ⟨hd, rfl, rfl⟩⟩⟩
theorem rdM_get {c : Int → Int} {n is sp rs pt : Int} {RW : Int → Int} (h : rdM c n is sp rs pt RW) (h1 : is ≠ 0) : rs = 1 ∧ ∃ k : Nat, tG c n k ∧ sp = tE c n k ∧ pt = (k : Int) + 1 ∧ (∀ i : Int, 0 ≤ i → i ≤ k → RW i = tV c n i.toNat) ∧ (k = 0 → chA c n sp ≠ 59) := by
  rcases h with h | h
  · exact h.2
  · omega
theorem rdM_b {c : Int → Int} {n is sp rs pt : Int} {RW : Int → Int} (h : rdM c n is sp rs pt RW) : is = 0 ∨ is = 1 := by unfold rdM at h; omega
def rdF (c : Int → Int) (n sp rs pt : Int) (RW : Int → Int) : Prop := (∃ k : Nat, tFine c n k ∧ pt = (k : Int) + 1 ∧ ∀ i : Int, 0 ≤ i → i ≤ k → RW i = tV c n i.toNat) ∨ tBad c n sp rs
theorem rdM_end {c : Int → Int} {n is sp rs pt : Int} {RW : Int → Int} (h : rdM c n is sp rs pt RW) (hx : is = 0 ∨ pt ≤ 1 ∨ n ≤ sp) : (is ≠ 0 → sp = n → (∃ k : Nat, tFine c n k) ∧ rdF c n sp rs pt RW) ∧ (is = 0 ∨ sp ≠ n → (¬ ∃ k : Nat, tFine c n k) ∧ rdF c n sp rs pt RW) := by
  refine ⟨fun z1 z2 => ?_, fun z => ?_⟩
  · obtain ⟨-, k, h1, h2, h3, h4, -⟩ := rdM_get h z1
    have hf : tFine c n k := ⟨h1, by omega⟩
    exact ⟨⟨k, hf⟩, Or.inl ⟨k, hf, h3, h4⟩⟩
  · have hb : tBad c n sp rs := by
      rcases h with ⟨h0, hr, k, h1, h2, h3, h4, h5⟩ | h
      · have hb := tE_bd h1
        subst hr
        have hk : k = 0 := by omega
        exact Or.inr ⟨k, h1, by omega, Or.inl ⟨by rw [← h2, hk]; exact h5 hk, h2, rfl⟩⟩
      · exact h.2
    exact ⟨fun ⟨k, hk⟩ => tFine_bad hk hb, Or.inr hb⟩
theorem rdF_fine {c : Int → Int} {n sp rs pt : Int} {RW : Int → Int} (h : rdF c n sp rs pt RW) (hf : ∃ k : Nat, tFine c n k) : ∃ k : Nat, tFine c n k ∧ pt = (k : Int) + 1 ∧ (∀ i : Int, 0 ≤ i → i ≤ k → RW i = tV c n i.toNat) ∧ fPos RW pt ∧ 2 * (k : Int) + 1 ≤ n ∧ tG c n k := by
  rcases h with ⟨k, h1, h2, h3⟩ | h
  · refine ⟨k, h1, h2, h3, ?_, by have := tE_bd h1.1; omega, h1.1⟩
    have hg : ∀ i : Int, 0 ≤ i → i < pt → -1000000 ≤ RW i ∧ RW i ≤ 1000000 ∧ (1 ≤ i → 1 ≤ RW i) := by
      intro i i1 i2
      rw [h3 i i1 (by omega)]
      have hg : tG c n i.toNat := by
        have : tG c n (i.toNat + (k - i.toNat)) := by rw [show i.toNat + (k - i.toNat) = k by omega]; exact h1.1
        exact tG_le this
      have := tV_bd hg
      omega
    exact ⟨fun i i1 i2 => ⟨(hg i i1 i2).1, (hg i i1 i2).2.1⟩, fun i i1 i2 => (hg i (by omega) i2).2.2 i1⟩
  · obtain ⟨k, hk⟩ := hf
    exact absurd h (fun z => tFine_bad hk z)
theorem rdF_bad {c : Int → Int} {n sp rs pt : Int} {RW : Int → Int} (h : rdF c n sp rs pt RW) (hf : ¬ ∃ k : Nat, tFine c n k) : tBad c n sp rs := by
  rcases h with ⟨k, h1, -⟩ | h
  · exact absurd ⟨k, h1⟩ hf
  · exact h
theorem goI_cong0 {f : Int → Int} {a b e g : Int} {n : Int} (hn : n = 0) : goI f n 1 1 0 0 1 := by subst hn; exact goI_0
theorem goI_fin {f : Int → Int} {n k is a b e g : Int} (h : goI f k is a b e g) (hk : n ≤ k ∨ is = 0) (hk2 : k ≤ n) : ((1 = is ∧ (chRun f n.toNat).2.2.1 = 0) ∨ (0 = is ∧ ¬ (chRun f n.toNat).2.2.1 = 0)) ∧ ((chRun f n.toNat).2.2.1 = 0 → chRun f n.toNat = (a, b, 0, e, g)) := by
  have := goI_end (i := n - 1) h (by omega) (by omega)
  rw [show n - 1 + 1 = n by omega] at this
  exact this
-- the book
def plM (S : Int → Int) (k : Int) : Nat → Int
  | 0 => 0
  | j + 1 => plM S k j + (if (j : Int) ≠ k ∧ nrr (S 0) (S 1) (S 2) (S (4 + 2 * (j : Int))) (S (5 + 2 * (j : Int))) (S (4 + 2 * k)) (S (5 + 2 * k)) = true then 1 else 0)
theorem plM_t {S : Int → Int} {k j x : Int} (h0 : 0 ≤ j) (h : x = plM S k j.toNat) (h1 : j ≠ k) (h2 : nrr (S 0) (S 1) (S 2) (S (4 + 2 * j)) (S (5 + 2 * j)) (S (4 + 2 * k)) (S (5 + 2 * k)) = true) : x + 1 = plM S k (j + 1).toNat := by
  rw [show (j + 1).toNat = j.toNat + 1 by omega]
  unfold plM
  rw [show ((j.toNat : Nat) : Int) = j by omega, if_pos ⟨h1, h2⟩, h]
theorem plM_f {S : Int → Int} {k j x : Int} (h0 : 0 ≤ j) (h : x = plM S k j.toNat) (h1 : j = k ∨ ¬ nrr (S 0) (S 1) (S 2) (S (4 + 2 * j)) (S (5 + 2 * j)) (S (4 + 2 * k)) (S (5 + 2 * k)) = true) : x = plM S k (j + 1).toNat := by
  rw [show (j + 1).toNat = j.toNat + 1 by omega]
  unfold plM
  rw [show ((j.toNat : Nat) : Int) = j by omega, if_neg (fun z => by rcases h1 with h1 | h1; exact z.1 h1; exact h1 z.2), h]
  omega
theorem plM_bd (S : Int → Int) (k : Int) : ∀ n : Nat, 0 ≤ plM S k n ∧ plM S k n ≤ n
  | 0 => by unfold plM; omega
  | n + 1 => by have := plM_bd S k n; unfold plM; split <;> omega
def atP (S : Int → Int) (pl r : Int) : Prop := (0 ≤ r ∧ r < S 3 ∧ plM S r (S 3).toNat = pl ∧ ∀ j : Int, r < j → j < S 3 → plM S j (S 3).toNat ≠ pl) ∨ ((∀ k : Int, 0 ≤ k → k < S 3 → plM S k (S 3).toNat ≠ pl) ∧ r = -1000004)
def atI (S : Int → Int) (pl i r : Int) : Prop := (0 ≤ r ∧ r < i ∧ plM S r (S 3).toNat = pl ∧ ∀ j : Int, r < j → j < i → plM S j (S 3).toNat ≠ pl) ∨ ((∀ k : Int, 0 ≤ k → k < i → plM S k (S 3).toNat ≠ pl) ∧ r = -1000004)
theorem atI_t {S : Int → Int} {pl i : Int} (h0 : 0 ≤ i) (h : plM S i (S 3).toNat = pl) : atI S pl (i + 1) i := Or.inl ⟨h0, by omega, h, fun j j1 j2 => absurd j1 (by omega)⟩
theorem atI_f {S : Int → Int} {pl i r : Int} (h : atI S pl i r) (h1 : ¬ plM S i (S 3).toNat = pl) : atI S pl (i + 1) r := by
  rcases h with ⟨a1, a2, a3, a4⟩ | ⟨a1, a2⟩
  · refine Or.inl ⟨a1, by omega, a3, fun j j1 j2 => ?_⟩
    by_cases q : j = i
    · subst q; exact h1
    · exact a4 j j1 (by omega)
  · refine Or.inr ⟨fun j j1 j2 => ?_, a2⟩
    by_cases q : j = i
    · subst q; exact h1
    · exact a1 j j1 (by omega)
def inB (S : Int → Int) (a b n : Int) : Prop := ∃ i : Int, 0 ≤ i ∧ i < n ∧ S (4 + 2 * i) = a ∧ S (5 + 2 * i) = b
theorem inB_e {S : Int → Int} {a b : Int} : inB S a b (S 3) ↔ (a, b) ∈ (hM S).2.2.2 := tk_has (u := fun i => S (4 + 2 * i)) (v := fun i => S (5 + 2 * i))
def inI (S : Int → Int) (a b i is : Int) : Prop := (is = 0 ∨ is = 1) ∧ (is = 1 ↔ inB S a b i)
theorem inI_0 {S : Int → Int} {a b : Int} : inI S a b 0 0 := ⟨Or.inl rfl, fun z => absurd z (by decide), fun ⟨i, h1, h2, _⟩ => absurd h1 (by omega)⟩
theorem inI_t {S : Int → Int} {a b i is : Int} (h : inI S a b i is) (h0 : 0 ≤ i) (h1 : is ≠ 0 ∨ (S (4 + 2 * i) = a ∧ S (5 + 2 * i) = b)) : inI S a b (i + 1) 1 := by
  refine ⟨Or.inr rfl, fun _ => ?_, fun _ => rfl⟩
  rcases h1 with h1 | h1
  · obtain ⟨j, j1, j2, j3⟩ := h.2.mp (by have := h.1; omega)
    exact ⟨j, j1, by omega, j3⟩
  · exact ⟨i, h0, by omega, h1⟩
theorem inI_f {S : Int → Int} {a b i is : Int} (h : inI S a b i is) (h1 : is = 0) (h2 : ¬ (S (4 + 2 * i) = a ∧ S (5 + 2 * i) = b)) : inI S a b (i + 1) 0 := by
  refine ⟨Or.inl rfl, fun z => absurd z (by decide), fun ⟨j, j1, j2, j3⟩ => ?_⟩
  by_cases q : j = i
  · subst q; exact absurd j3 h2
  · have := h.2.mpr ⟨j, j1, by omega, j3⟩; omega
theorem inI_end {S : Int → Int} {a b i is : Int} (h : inI S a b i is) (hi : S 3 = i) : (1 = is ∧ inB S a b (S 3)) ∨ (0 = is ∧ ¬ inB S a b (S 3)) := by
  rw [hi, ← h.2]
  have := h.1
  omega
def okS (S : Int → Int) : Prop := (0 ≤ S 3 ∧ S 3 ≤ 8) ∧ ∀ i : Int, 0 ≤ i → i < S 3 → okF (S (4 + 2 * i)) (S (5 + 2 * i))
def ntM (S PA TX : Int → Int) (pn tn r : Int) (S' PA' : Int → Int) (pn' : Int) : Prop := ((∃ fp fr : Int, tBad TX tn fp fr) ∧ r = -1000002 ∧ S' = S ∧ PA' = PA ∧ pn' = pn) ∨ (∃ k : Nat, tFine TX tn k ∧ ((¬ ntF TX tn k (hM S) ∧ r = -1000002 ∧ S' = S ∧ PA' = PA ∧ pn' = pn) ∨ (ntF TX tn k (hM S) ∧ S 3 = 8 ∧ r = -1000003 ∧ S' = S ∧ PA' = PA ∧ pn' = pn) ∨ (ntF TX tn k (hM S) ∧ S 3 < 8 ∧ chgP pn S PA pn' PA' ∧ (S' 3 = S 3 + 1 ∧ S' (4 + 2 * S 3) = (tCh TX tn k).1 ∧ S' (5 + 2 * S 3) = (tCh TX tn k).2.1 ∧ ∀ i : Int, i < 4 + 2 * S 3 → i ≠ 3 → S' i = S i) ∧ r = plM S' (S 3) (S 3 + 1).toNat)))
theorem ntF_iff {c : Int → Int} {n u v a b : Int} {k : Nat} {S : Int → Int} (h : tCh c n k = (u, v, 0, a, b)) (hv : 1 ≤ v) : ntF c n k (hM S) ↔ ((-30000 ≤ u ∧ u ≤ 30000) ∧ 1 ≤ v ∧ v ≤ 200) ∧ ¬ inB S u v (S 3) := by
  unfold ntF fitP
  rw [h, inB_e]
  dsimp only
  constructor
  · rintro ⟨⟨h1, h2, h3⟩, h4⟩; exact ⟨⟨h2, hv, h3⟩, h4⟩
  · rintro ⟨⟨h2, h1, h3⟩, h4⟩; exact ⟨⟨rfl, h2, h3⟩, h4⟩
theorem ntF_over {c : Int → Int} {n : Int} {k : Nat} {e : zH} (h : ¬ (tCh c n k).2.2.1 = 0) : ¬ ntF c n k e := fun z => h z.1.1
theorem nt_row {S : Int → Int} {u v : Int} (h : 0 ≤ S 3) : (zu (zu (zu S (4 + 2 * S 3) u) (4 + 2 * S 3 + 1) v) 3 (S 3 + 1)) 3 = S 3 + 1 ∧ (zu (zu (zu S (4 + 2 * S 3) u) (4 + 2 * S 3 + 1) v) 3 (S 3 + 1)) (4 + 2 * S 3) = u ∧ (zu (zu (zu S (4 + 2 * S 3) u) (4 + 2 * S 3 + 1) v) 3 (S 3 + 1)) (5 + 2 * S 3) = v ∧ ∀ i : Int, i < 4 + 2 * S 3 → i ≠ 3 → (zu (zu (zu S (4 + 2 * S 3) u) (4 + 2 * S 3 + 1) v) 3 (S 3 + 1)) i = S i := by
  refine ⟨zu_s _ _ _, ?_, ?_, fun i h1 h2 => ?_⟩
  · rw [zu_n _ _ (by omega), zu_n _ _ (by omega), zu_s]
  · rw [zu_n _ _ (by omega), show 5 + 2 * S 3 = 4 + 2 * S 3 + 1 by omega, zu_s]
  · rw [zu_n _ _ h2, zu_n _ _ (by omega), zu_n _ _ (by omega)]
theorem nt_ok {S S' : Int → Int} {u v : Int} (h : okS S) (h8 : S 3 < 8) (hr : S' 3 = S 3 + 1 ∧ S' (4 + 2 * S 3) = u ∧ S' (5 + 2 * S 3) = v ∧ ∀ i : Int, i < 4 + 2 * S 3 → i ≠ 3 → S' i = S i) (hf : okF u v) : okS S' := by
  refine ⟨by have := h.1; omega, fun i i1 i2 => ?_⟩
  by_cases q : i = S 3
  · subst q; rw [hr.2.1, hr.2.2.1]; exact hf
  · rw [hr.2.2.2 _ (by omega) (by omega), hr.2.2.2 _ (by omega) (by omega)]
    exact h.2 i i1 (by omega)
def stR (S : Int → Int) (k : Int) (S' : Int → Int) : Prop := S' 0 = S 0 ∧ S' 1 = S 1 ∧ S' 2 = S 2 ∧ S' 3 = S 3 - 1 ∧ (∀ j : Int, 4 ≤ j → j < 4 + 2 * k → S' j = S j) ∧ ∀ j : Int, 4 + 2 * k ≤ j → j < 4 + 2 * (S 3 - 1) → S' j = S (j + 2)
def stI (S : Int → Int) (k i : Int) (P : Int → Int) : Prop := P 0 = S 0 ∧ P 1 = S 1 ∧ P 2 = S 2 ∧ P 3 = S 3 - 1 ∧ (∀ j : Int, 4 ≤ j → j < 4 + 2 * k → P j = S j) ∧ (∀ j : Int, 4 + 2 * k ≤ j → j < i → P j = S (j + 2)) ∧ ∀ j : Int, 4 ≤ j → i ≤ j → P j = S j
theorem stI_0 {S : Int → Int} {k : Int} : stI S k (4 + 2 * k) (zu S 3 (S 3 - 1)) := ⟨zu_n _ _ (by decide), zu_n _ _ (by decide), zu_n _ _ (by decide), zu_s _ _ _, fun j j1 j2 => zu_n _ _ (by omega), fun j j1 j2 => absurd j1 (by omega), fun j j1 j2 => zu_n _ _ (by omega)⟩
theorem stI_s {S P : Int → Int} {k i : Int} (h : stI S k i P) (hk : 0 ≤ k) (h0 : 4 + 2 * k ≤ i) : stI S k (i + 1) (zu P i (P (i + 2))) := by
  obtain ⟨a0, a1, a2, a3, a4, a5, a6⟩ := h
  refine ⟨?_, ?_, ?_, ?_, fun j j1 j2 => ?_, fun j j1 j2 => ?_, fun j j1 j2 => ?_⟩
  · rw [zu_n _ _ (by omega)]; exact a0
  · rw [zu_n _ _ (by omega)]; exact a1
  · rw [zu_n _ _ (by omega)]; exact a2
  · rw [zu_n _ _ (by omega)]; exact a3
  · rw [zu_n _ _ (by omega)]; exact a4 j j1 j2
  · by_cases q : j = i
    · subst q; rw [zu_s]; exact a6 _ (by omega) (by omega)
    · rw [zu_n _ _ q]; exact a5 j j1 (by omega)
  · rw [zu_n _ _ (by omega)]; exact a6 j j1 (by omega)
def stM (S PA : Int → Int) (pn pl r : Int) (S' PA' : Int → Int) (pn' : Int) : Prop := (pl < 0 ∧ r = -1000001 ∧ S' = S ∧ PA' = PA ∧ pn' = pn) ∨ (0 ≤ pl ∧ (∀ k : Int, 0 ≤ k → k < S 3 → plM S k (S 3).toNat ≠ pl) ∧ r = -1000002 ∧ S' = S ∧ PA' = PA ∧ pn' = pn) ∨ (0 ≤ pl ∧ (∃ k : Int, (0 ≤ k ∧ k < S 3) ∧ plM S k (S 3).toNat = pl ∧ stR S k S') ∧ r = S 3 - 1 ∧ chgP pn S PA pn' PA')
def unM (S PA : Int → Int) (pn r : Int) (S' : Int → Int) (pn' : Int) : Prop := (pn = 0 ∧ r = -1000002 ∧ S' = S ∧ pn' = pn) ∨ (0 < pn ∧ pn' = pn - 1 ∧ r = pn - 1 ∧ ∀ k : Int, 0 ≤ k → k < 20 → S' k = PA (20 * (pn - 1) + k))
-- convergents of the first steps
def icM (f : Int → Int) (a b j : Int) : Prop := (chRun f j.toNat).2.2.1 = 0 ∧ (chRun f j.toNat).1 = a ∧ (chRun f j.toNat).2.1 = b
theorem low_up {f : Int → Int} {n j k : Int} (hf : fPos f n) (h1 : 1 ≤ j) (h2 : j ≤ k) (hk : k < n) (ho : (chRun f k.toNat).2.2.1 = 0) : (chRun f j.toNat).2.2.1 = 0 ∧ (chRun f j.toNat).2.1 ≤ (chRun f k.toNat).2.1 := by
  have key : ∀ m : Nat, ∀ k : Int, k = j + m → k < n → (chRun f k.toNat).2.2.1 = 0 → (chRun f j.toNat).2.2.1 = 0 ∧ (chRun f j.toNat).2.1 ≤ (chRun f k.toNat).2.1 := by
    intro m
    induction m with
    | zero =>
      intro k e _ ho
      have : k = j := by omega
      subst this
      exact ⟨ho, Int.le_refl _⟩
    | succ m ih =>
      intro k e hk ho
      have ek : k = (j + m) + 1 := by omega
      rw [ek] at ho ⊢
      generalize hc : chRun f (j + m + 1).toNat = c at *
      obtain ⟨a, b, o, x, y⟩ := c
      dsimp only at ho
      subst ho
      have hp := chRun_prev (by omega) hc
      have hb : (chRun f (j + m).toNat).2.2.1 = 0 := by
        have := chRun_ok f (j + m).toNat
        have := this.2.2.1
        have := hp.2.2.2.2
        omega
      have ih := ih (j + m) rfl (by omega) hb
      refine ⟨ih.1, Int.le_trans ih.2 ?_⟩
      dsimp only
      rw [hp.2.1]
      generalize hd : chRun f (j + m).toNat = d at *
      obtain ⟨a1, b1, o1, x1, y1⟩ := d
      dsimp only at hb
      subst hb
      have hn := chRun_nn hf (by omega) (by omega) hd
      dsimp only
      have ht := hf.2 (j + m) (by omega) (by omega)
      have := Int.mul_le_mul (a := 1) (c := f (j + m)) (b := b1) (d := b1) ht (Int.le_refl _) hn.2.1.1 (by omega)
      omega
  exact key (k - j).toNat k (by omega) hk ho
def upB (f : Int → Int) (C k : Int) (a b e g : Int) : Prop := (k = 0 ∧ a = 1 ∧ b = 0 ∧ e = 0 ∧ g = 1) ∨ (k = 1 ∧ a = f 0 ∧ b = 1 ∧ e = 1 ∧ g = 0) ∨ (2 ≤ k ∧ 1 ≤ g ∧ g ≤ b ∧ (-(C * b) ≤ a ∧ a ≤ C * b) ∧ (-(C * g) ≤ e ∧ e ≤ C * g))
theorem upB_s {f : Int → Int} {C n k a b e g a' b' e' g' : Int} (hf : fPos f n) (hC : -(C - 1) ≤ f 0 ∧ f 0 ≤ C - 1) (h0 : 0 ≤ k) (hk : k < n) (h : upB f C k a b e g) (ha : a' = f k * a + e) (hb : b' = f k * b + g) (he : e' = a) (hg : g' = b) : upB f C (k + 1) a' b' e' g' := by
  rw [ha, hb, he, hg]
  clear ha hb he hg
  rcases h with ⟨rfl, rfl, rfl, rfl, rfl⟩ | ⟨rfl, rfl, rfl, rfl, rfl⟩ | ⟨h1, h2, h3, h4, h5⟩
  · exact Or.inr (Or.inl ⟨by omega, by omega, by omega, rfl, rfl⟩)
  · have ht := hf.2 1 (by omega) hk
    have e1 := mul_bd (a := f 1) (b := f 0) (M := f 1) (N := C - 1) (by omega) hC
    have e2 : f 1 * (C - 1) = C * f 1 - f 1 := by grind
    refine Or.inr (Or.inr ⟨by omega, by omega, by omega, ?_, by omega⟩)
    have e3 : C * (f 1 * 1 + 0) = C * f 1 := by grind
    rw [e3]
    omega
  · have ht := hf.2 k (by omega) hk
    have e1 := Int.mul_le_mul (a := 1) (c := f k) (b := b) (d := b) ht (Int.le_refl _) (by omega) (by omega)
    have e2 := mul_bd (a := f k) (b := a) (M := f k) (N := C * b) (by omega) h4
    have e3 : C * (f k * b + g) = f k * (C * b) + C * g := by grind
    refine Or.inr (Or.inr ⟨by omega, by omega, by omega, ?_, h4⟩)
    rw [e3]
    omega
theorem upB_run {f : Int → Int} {C n : Int} (hf : fPos f n) (hC : -(C - 1) ≤ f 0 ∧ f 0 ≤ C - 1) : ∀ {k : Nat} {a b e g : Int}, (k : Int) ≤ n → chRun f k = (a, b, 0, e, g) → upB f C k a b e g
  | 0, a, b, e, g, _, h => by
    have e1 : (1, 0, 0, 0, 1) = (a, b, (0 : Int), e, g) := h
    simp only [Prod.mk.injEq] at e1
    exact Or.inl ⟨rfl, by omega, by omega, by omega, by omega⟩
  | k + 1, a, b, e, g, hk, h => by
    have hp := chRun_prev (f := f) (i := k) (by omega) (by rw [show ((k : Int) + 1).toNat = k + 1 by omega]; exact h)
    rw [show ((k : Int)).toNat = k by omega] at hp
    have hb : (chRun f k).2.2.1 = 0 := by
      have := (chRun_ok f k).2.2.1
      have := hp.2.2.2.2
      omega
    generalize hd : chRun f k = d at *
    obtain ⟨a1, b1, o1, x1, y1⟩ := d
    dsimp only at hb hp
    subst hb
    have ih := upB_run hf hC (by omega) hd
    have := upB_s hf hC (by omega) (by omega) ih hp.1 hp.2.1 hp.2.2.1 hp.2.2.2.1
    rw [show ((k + 1 : Nat) : Int) = (k : Int) + 1 by omega]; exact this
/-- while the lower part is small, the next convergent can be told -/
theorem low_go {p d q k a b e g : Int} (h : vS p d q) (h0 : 0 ≤ k) (hk : k ≤ 399) (hr : chRun (tm p d q) k.toNat = (a, b, 0, e, g)) (hb : b ≤ 200) {a' b' o' e' g' : Int} (hc : chAdd (tm p d q k) (a, b, 0, e, g) = (a', b', o', e', g')) : o' = 0 := by
  have hf := tm_fP h 401
  have ht := tm_bd h k
  have ht0 := tm_bd h 0
  have hu := upB_run (C := 40001) hf (by omega) (k := k.toNat) (by omega) hr
  have hn := chRun_nn hf h0 (by omega) hr
  have hbd : (-9000000 ≤ a ∧ a ≤ 9000000) ∧ (-9000000 ≤ e ∧ e ≤ 9000000) ∧ 0 ≤ g ∧ g ≤ 200 := by
    rcases hu with h1 | h1 | h1
    · omega
    · omega
    · obtain ⟨h1, h2, h3, h4, h5⟩ := h1
      have : 40001 * b ≤ 40001 * 200 := by omega
      have : 40001 * g ≤ 40001 * 200 := by omega
      omega
  have e1 := mul_bd (a := tm p d q k) (b := a) (M := 40000) (N := 9000000) ht hbd.1
  have e2 := mul_bd (a := tm p d q k) (b := b) (M := 40000) (N := 200) ht (by omega)
  have z1 := zabs_or (tm p d q k * a + e)
  have z2 := zabs_or (tm p d q k * b + g)
  rw [chAdd_go (by omega)] at hc
  simp only [Prod.mk.injEq] at hc
  omega
def icP (f : Int → Int) (a b n : Int) : Prop := ∃ j : Int, 1 ≤ j ∧ j ≤ n ∧ icM f a b j
def icI (f : Int → Int) (a b k is x y e g : Int) : Prop := (is = 0 ∨ is = 1) ∧ (is = 1 ↔ icP f a b k) ∧ ((chRun f k.toNat = (x, y, 0, e, g)) ∨ (b < y ∧ ∃ k0 : Int, 1 ≤ k0 ∧ k0 ≤ k ∧ chRun f k0.toNat = (x, y, 0, e, g)))
theorem icI_0 {f : Int → Int} {a b : Int} : icI f a b 0 0 1 0 0 1 := ⟨Or.inl rfl, ⟨fun z => absurd z (by decide), fun ⟨j, h1, h2, _⟩ => absurd h1 (by omega)⟩, Or.inl rfl⟩
theorem icP_s {f : Int → Int} {a b k : Int} (h0 : 0 ≤ k) : icP f a b (k + 1) ↔ icP f a b k ∨ icM f a b (k + 1) := by
  constructor
  · rintro ⟨j, h1, h2, h3⟩
    by_cases q : j = k + 1
    · subst q; exact Or.inr h3
    · exact Or.inl ⟨j, h1, by omega, h3⟩
  · rintro (⟨j, h1, h2, h3⟩ | h)
    · exact ⟨j, h1, by omega, h3⟩
    · exact ⟨k + 1, by omega, by omega, h⟩
theorem icI_get {f : Int → Int} {a b k is x y e g : Int} (h : icI f a b k is x y e g) (hy : y ≤ b) : chRun f k.toNat = (x, y, 0, e, g) := by
  rcases h.2.2 with h | h
  · exact h
  · omega
/-- the chain goes on -/
theorem icI_s {f : Int → Int} {a b k is x y e g x' y' e' g' : Int} (h : icI f a b k is x y e g) (h0 : 0 ≤ k) (hc : chRun f (k + 1).toNat = (x', y', 0, e', g')) : (is ≠ 0 ∨ (x' = a ∧ y' = b) → icI f a b (k + 1) 1 x' y' e' g') ∧ (is = 0 ∧ ¬ (x' = a ∧ y' = b) → icI f a b (k + 1) 0 x' y' e' g') := by
  have e1 : icM f a b (k + 1) ↔ x' = a ∧ y' = b := by
    unfold icM; rw [hc]; dsimp only; exact ⟨fun z => z.2, fun z => ⟨rfl, z⟩⟩
  have e2 := h.2.1
  have e3 := h.1
  refine ⟨fun z => ⟨Or.inr rfl, ⟨fun _ => ?_, fun _ => rfl⟩, Or.inl hc⟩, fun z => ⟨Or.inl rfl, ⟨fun y => absurd y (by decide), fun y => ?_⟩, Or.inl hc⟩⟩
  · rw [icP_s h0, e1]
    rcases z with z | z
    · exact Or.inl (e2.mp (by omega))
    · exact Or.inr z
  · rw [icP_s h0, e1, ← e2] at y
    rcases y with y | y
    · omega
    · exact absurd y z.2
/-- the chain stands still: no later convergent has so small a lower part -/
theorem icI_n {f : Int → Int} {a b n k is x y e g : Int} (hf : fPos f n) (h : icI f a b k is x y e g) (h0 : 0 ≤ k) (hb : 0 ≤ b) (hk : k + 1 < n) (hy : b < y) : (is ≠ 0 → icI f a b (k + 1) 1 x y e g) ∧ (is = 0 → icI f a b (k + 1) 0 x y e g) := by
  obtain ⟨k0, h1, h2, h3⟩ : ∃ k0 : Int, 1 ≤ k0 ∧ k0 ≤ k ∧ chRun f k0.toNat = (x, y, 0, e, g) := by
    rcases h.2.2 with z | z
    · refine ⟨k, ?_, by omega, z⟩
      refine Decidable.byContradiction (fun w => ?_)
      have : k = 0 := by omega
      subst this
      have e1 : (1, 0, 0, 0, 1) = (x, y, (0 : Int), e, g) := z
      simp only [Prod.mk.injEq] at e1
      omega
    · exact z.2
  have hno : ¬ icM f a b (k + 1) := by
    rintro ⟨m1, m2, m3⟩
    have := low_up hf h1 (by omega : k0 ≤ k + 1) hk m1
    rw [h3, m3] at this
    dsimp only at this
    omega
  have e2 := h.2.1
  have e3 := h.1
  have e4 : (b < y ∧ ∃ k0 : Int, 1 ≤ k0 ∧ k0 ≤ k + 1 ∧ chRun f k0.toNat = (x, y, 0, e, g)) := ⟨hy, k0, h1, by omega, h3⟩
  refine ⟨fun z => ⟨Or.inr rfl, ⟨fun _ => ?_, fun _ => rfl⟩, Or.inr e4⟩, fun z => ⟨Or.inl rfl, ⟨fun y => absurd y (by decide), fun y => ?_⟩, Or.inr e4⟩⟩
  · rw [icP_s h0]; exact Or.inl (e2.mp (by omega))
  · rw [icP_s h0, ← e2] at y
    rcases y with y | y
    · omega
    · exact absurd y hno
def noW (S : Int → Int) (k what r : Int) : Prop := (what = 0 ∧ r = S (4 + 2 * k) + 1000000) ∨ (what = 1 ∧ r = S (5 + 2 * k)) ∨ (what = 2 ∧ ((r = 1 ∧ abv (S 0) (S 1) (S 2) (S (4 + 2 * k)) (S (5 + 2 * k)) = true) ∨ (r = 0 ∧ ¬ abv (S 0) (S 1) (S 2) (S (4 + 2 * k)) (S (5 + 2 * k)) = true))) ∨ (what = 3 ∧ ((r = 1 ∧ icP (tm (S 0) (S 1) (S 2)) (S (4 + 2 * k)) (S (5 + 2 * k)) 30) ∨ (r = 0 ∧ ¬ icP (tm (S 0) (S 1) (S 2)) (S (4 + 2 * k)) (S (5 + 2 * k)) 30)))
def noM (S : Int → Int) (pl what r : Int) : Prop := (¬ (0 ≤ pl ∧ 0 ≤ what ∧ what ≤ 3) ∧ r = -1000001) ∨ ((0 ≤ pl ∧ 0 ≤ what ∧ what ≤ 3) ∧ (∀ k : Int, 0 ≤ k → k < S 3 → plM S k (S 3).toNat ≠ pl) ∧ r = -1000004) ∨ ((0 ≤ pl ∧ 0 ≤ what ∧ what ≤ 3) ∧ ∃ k : Int, (0 ≤ k ∧ k < S 3) ∧ plM S k (S 3).toNat = pl ∧ noW S k what r)
def aoS (S : Int → Int) (n : Nat) : Int := cntA (S 0) (S 1) (S 2) (fun i => S (4 + 2 * i)) (fun i => S (5 + 2 * i)) n
theorem aoS_t {S : Int → Int} {x i : Int} (h0 : 0 ≤ i) (h : x = aoS S i.toNat) (ha : abv (S 0) (S 1) (S 2) (S (4 + 2 * i)) (S (5 + 2 * i)) = true) : x + 1 = aoS S (i + 1).toNat := cntA_t h0 h ha
theorem aoS_f {S : Int → Int} {x i : Int} (h0 : 0 ≤ i) (h : x = aoS S i.toNat) (ha : ¬ abv (S 0) (S 1) (S 2) (S (4 + 2 * i)) (S (5 + 2 * i)) = true) : x = aoS S (i + 1).toNat := cntA_f h0 h ha
theorem laR_bd {c : Int → Int} {n s rs pt s' rs' pt' : Int} {RW RW' : Int → Int} (h : laR c n s rs pt RW s' rs' pt' RW') (h2 : s ≤ n) : s ≤ s' ∧ s' ≤ n ∧ pt ≤ pt' ∧ pt' ≤ pt + 1 := by
  rcases h.2 with h | h | h
  · omega
  · omega
  · have := nEnd_bd (c := c) (n := n) (s := s) (by omega); omega
theorem atI_end {S : Int → Int} {pl i r : Int} (h : atI S pl i r) (hi : S 3 = i) : atP S pl r := by
  rw [← hi] at h; exact h
