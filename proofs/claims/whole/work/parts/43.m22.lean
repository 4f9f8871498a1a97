/-! ===== MATH 22: answers of the book alike ===== -/
def stR2 (e : zH) (S : Int → Int) : Prop := (e.1 = S 0 ∧ e.2.1 = S 1 ∧ e.2.2.1 = S 2) ∧ vS (S 0) (S 1) (S 2) ∧ okS S ∧ BK (S 0) (S 1) (S 2) e.2.2.2 (hM S).2.2.2
theorem row_get {S : Int → Int} {k : Int} (h : 0 ≤ k ∧ k < S 3) : (hM S).2.2.2[k.toNat]? = some (S (4 + 2 * k), S (5 + 2 * k)) := hE_get (u := fun i => S (4 + 2 * i)) (v := fun i => S (5 + 2 * i)) h
theorem row_inv {S : Int → Int} {k : Nat} {x : Int × Int} (h : (hM S).2.2.2[k]? = some x) : (k : Int) < S 3 ∧ x = (S (4 + 2 * (k : Int)), S (5 + 2 * (k : Int))) := by
  have hl := (List.getElem?_eq_some_iff.mp h).1
  have e : (hM S).2.2.2.length = (S 3).toNat := hE_len
  rw [e] at hl
  have := row_get (S := S) (k := (k : Int)) (by omega)
  rw [show ((k : Int)).toNat = k by omega, h] at this
  exact ⟨by omega, Option.some.inj this⟩
theorem row_rk {e : zH} {S : Int → Int} {k : Int} (h : stR2 e S) (hk : 0 ≤ k ∧ k < S 3) : plM S k (S 3).toNat = rkL (S 0) (S 1) (S 2) (S (4 + 2 * k), S (5 + 2 * k)) (hM S).2.2.2 := by
  have hv := h.2.1
  have hf := h.2.2.1.2 k hk.1 hk.2
  unfold okF at hf
  exact plM_rk hv.2.2.2.1 (by have := hv.2.1; omega) (by omega) _
theorem st_len {e : zH} {S : Int → Int} (h : stR2 e S) : (e.2.2.2.length : Int) = S 3 := by
  have := BK_len h.2.2.2
  have e1 : (hM S).2.2.2.length = (S 3).toNat := hE_len
  have := h.2.2.1.1
  omega
/-- the row of a rank and the place in order -/
theorem row_at {e : zH} {S : Int → Int} {k : Int} (h : stR2 e S) (hk : 0 ≤ k ∧ k < S 3) : 0 ≤ plM S k (S 3).toNat ∧ plM S k (S 3).toNat < S 3 ∧ e.2.2.2[(plM S k (S 3).toNat).toNat]? = some (S (4 + 2 * k), S (5 + 2 * k)) := by
  have hv := h.2.1
  have hb := BK_at hv.2.2.2.1 (by have := hv.2.1; omega) h.2.2.2 (row_get hk)
  rw [row_rk h hk]
  have := st_len h
  exact ⟨hb.1, by omega, hb.2.2⟩
theorem at_row {e : zH} {S : Int → Int} {i : Nat} {x : Int × Int} (h : stR2 e S) (hi : e.2.2.2[i]? = some x) : ∃ k : Int, (0 ≤ k ∧ k < S 3) ∧ x = (S (4 + 2 * k), S (5 + 2 * k)) ∧ plM S k (S 3).toNat = i ∧ (hM S).2.2.2[k.toNat]? = some x := by
  have hv := h.2.1
  obtain ⟨k, hk, hr⟩ := BK_row hv.2.2.2.1 (by have := hv.2.1; omega) h.2.2.2 hi
  have hin := row_inv hk
  refine ⟨k, ⟨by omega, hin.1⟩, hin.2, ?_, by rw [show ((k : Int)).toNat = k by omega]; exact hk⟩
  rw [row_rk h ⟨by omega, hin.1⟩, ← hin.2]
  exact hr
theorem no_eq {e : zH} {S : Int → Int} {lt lb ld pd cv k what r r' : Int} {f U L : Int → Int} (h : stR2 e S) (hx : xE (S 0) (S 1) (S 2) lt lb ld pd cv f U L) (hc : noC e cv U L k what r) (hm : noM S k what r') : r = r' := by
  have hl := st_len h
  rcases hc with ⟨h1, h2⟩ | ⟨h1, h2, h3⟩ | ⟨h1, x, h2, h3⟩
  · rcases hm with ⟨g1, g2⟩ | ⟨g1, -⟩ | ⟨g1, -⟩
    · omega
    · exact absurd g1 h1
    · exact absurd g1 h1
  · rcases hm with ⟨g1, g2⟩ | ⟨g1, g2, g3⟩ | ⟨g1, j, j1, j2, g3⟩
    · exact absurd h1 g1
    · omega
    · have := row_at h j1; omega
  · obtain ⟨j', i1, i2, i3, i4⟩ := at_row h h2
    rcases hm with ⟨g1, g2⟩ | ⟨g1, g2, g3⟩ | ⟨g1, j, j1, j2, g3⟩
    · exact absurd h1 g1
    · exact absurd (by rw [i3]; omega) (g2 j' i1.1 i1.2)
    · have hr := row_at h j1
      rw [j2, h2] at hr
      have ex : x = (S (4 + 2 * j), S (5 + 2 * j)) := Option.some.inj hr.2.2
      have hf := h.2.2.1.2 j j1.1 j1.2
      have hic := ic_eq (a := S (4 + 2 * j)) (b := S (5 + 2 * j)) h.2.1 hx (by unfold okF at hf; omega)
      rw [ex] at h3
      unfold noV at h3
      unfold noW at g3
      rw [h.1.1, h.1.2.1, h.1.2.2] at h3
      dsimp only at h3
      rw [hic] at h3
      rcases h3 with h3 | h3 | ⟨h3, h4⟩ | ⟨h3, h4⟩
      · rcases g3 with g3 | g3 | ⟨g3, -⟩ | ⟨g3, -⟩ <;> omega
      · rcases g3 with g3 | g3 | ⟨g3, -⟩ | ⟨g3, -⟩ <;> omega
      · rcases g3 with g3 | g3 | ⟨g3, g4⟩ | ⟨g3, -⟩
        · omega
        · omega
        · rcases h4 with ⟨h4, h5⟩ | ⟨h4, h5⟩
          · rcases g4 with ⟨g4, g5⟩ | ⟨g4, g5⟩
            · omega
            · exact absurd h5 g5
          · rcases g4 with ⟨g4, g5⟩ | ⟨g4, g5⟩
            · exact absurd g5 h5
            · omega
        · omega
      · rcases g3 with g3 | g3 | ⟨g3, -⟩ | ⟨g3, g4⟩
        · omega
        · omega
        · omega
        · rcases h4 with ⟨h4, h5⟩ | ⟨h4, h5⟩
          · rcases g4 with ⟨g4, g5⟩ | ⟨g4, g5⟩
            · omega
            · exact absurd h5 g5
          · rcases g4 with ⟨g4, g5⟩ | ⟨g4, g5⟩
            · exact absurd g5 h5
            · omega
theorem ab_eq {e : zH} {S : Int → Int} {u v : Int → Int} {n : Int} (h : stR2 (hE (S 0) (S 1) (S 2) n u v) S) : cntA (S 0) (S 1) (S 2) u v n.toNat = aoS S (S 3).toNat := by
  have hb := BK_cnt h.2.2.2 (fun y => abv (S 0) (S 1) (S 2) y.1 y.2)
  unfold aoS
  rw [cntA_tk, cntA_tk]
  exact congrArg (fun x : Nat => (x : Int)) hb
