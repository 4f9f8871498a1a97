/-! ===== LAW 3: the whole object and the whole model, known by their states ===== -/
theorem tm_f {p d q i z : Int} {f : Int → Int} (h : ∀ k : Int, 0 ≤ k → k < 400 → f k = tm p d q k) (hz : (if 0 ≤ i ∧ i ≤ 399 then f i + 1000 else -1000001) = z) : z = (if 0 ≤ i ∧ i ≤ 399 then tm p d q i + 1000 else -1000001) := by
  by_cases g : 0 ≤ i ∧ i ≤ 399
  · rw [if_pos g] at hz ⊢
    rw [← h i g.1 (by omega)]; exact hz.symm
  · rw [if_neg g] at hz ⊢; exact hz.symm
theorem ct_f {p d q n hs tn y z : Int} {u v : Int → Int} {a b c d1 : zH} (hh : 0 ≤ hs ∧ hs ≤ 4) (hn : 0 ≤ n) (hz : ctV n (cntA p d q u v n.toNat) hs tn y = z) : z = ctV ((hE p d q n u v).2.2.2.length : Int) (((hE p d q n u v).2.2.2.countP (fun y => abv p d q y.1 y.2) : Nat) : Int) ((hLs hs a b c d1).length : Int) tn y := by
  rw [hE_len, hLs_len hh, show ((n.toNat : Nat) : Int) = n by omega, show ((hs.toNat : Nat) : Int) = hs by omega, ← hz, cntA_tk]
  rfl
theorem nt_pdq {c : Int → Int} {tn r : Int} {e e' : zH} {h h' : List zH} (hc : ntC c tn e h r e' h') : e'.1 = e.1 ∧ e'.2.1 = e.2.1 ∧ e'.2.2.1 = e.2.2.1 := by
  rcases hc with ⟨-, -, h1, -⟩ | ⟨k, -, ⟨-, -, h1, -⟩ | ⟨-, -, -, h1, -⟩ | ⟨-, -, -, h1, -⟩⟩
  · rw [h1]; exact ⟨rfl, rfl, rfl⟩
  · rw [h1]; exact ⟨rfl, rfl, rfl⟩
  · rw [h1]; exact ⟨rfl, rfl, rfl⟩
  · rw [h1]; exact ⟨rfl, rfl, rfl⟩
theorem st_pdq {k r : Int} {e e' : zH} {h h' : List zH} (hc : stC e h k r e' h') : e'.1 = e.1 ∧ e'.2.1 = e.2.1 ∧ e'.2.2.1 = e.2.2.1 := by
  rcases hc with ⟨-, -, h1, -⟩ | ⟨-, -, -, h1, -⟩ | ⟨-, -, -, h1, -⟩
  · rw [h1]; exact ⟨rfl, rfl, rfl⟩
  · rw [h1]; exact ⟨rfl, rfl, rfl⟩
  · rw [h1]; exact ⟨rfl, rfl, rfl⟩
theorem sa_pdq {r : Int} {e e' : zH} {h h' : List zH} (hc : saC e h r e' h') : e'.1 = e.1 ∧ e'.2.1 = e.2.1 ∧ e'.2.2.1 = e.2.2.1 := by
  rw [hc.2.1]; exact ⟨rfl, rfl, rfl⟩
theorem xE_of {p d q n p' d' q' n' lt lb ld pd cv : Int} {u v u' v' f U L : Int → Int} (hp : (hE p' d' q' n' u' v').1 = (hE p d q n u v).1 ∧ (hE p' d' q' n' u' v').2.1 = (hE p d q n u v).2.1 ∧ (hE p' d' q' n' u' v').2.2.1 = (hE p d q n u v).2.2.1) (h : xE p d q lt lb ld pd cv f U L) : xE p' d' q' lt lb ld pd cv f U L := by
  have e1 : p' = p := hp.1
  have e2 : d' = d := hp.2.1
  have e3 : q' = q := hp.2.2
  rw [e1, e2, e3]; exact h
theorem ty_txt {c c' : Int → Int} {tn tn' y z : Int} (h : (0 ≤ tn ∧ tn ≤ 40) ∧ ∀ i : Int, 0 ≤ i → i < tn → 32 ≤ c i ∧ c i ≤ 126) (hc : tyC c tn y z c' tn') : (0 ≤ tn' ∧ tn' ≤ 40) ∧ ∀ i : Int, 0 ≤ i → i < tn' → 32 ≤ c' i ∧ c' i ≤ 126 := by
  rcases hc with ⟨-, -, h1, h2⟩ | ⟨-, -, -, h1, h2⟩ | ⟨h0, h3, -, h1, h2⟩
  · rw [h1, h2]; exact h
  · rw [h1, h2]; exact h
  · rw [h1, h2]
    refine ⟨by omega, fun i i1 i2 => ?_⟩
    by_cases g : i = tn
    · rw [g, zu_s]; exact h0
    · rw [zu_n _ _ g]; exact h.2 i i1 (by omega)
def nu {α : Type} (f : Nat → α) (k : Nat) (v : α) : Nat → α := fun j => if j = k then v else f j
def canX (κ : Nat → ClassId) (x0 : Nat) (c : Int → Int) (tn : Int) (A : Nat → Nat) (Z : Nat → Int) (F : Nat → Int → Int) : va_W := [(x0, .inr (10, [.ref (A 0), .ref (A 1), .ref (A 2), .ref (A 3), .ref (A 4), .ref (A 5), .ref (A 6)])), ((A 0), .inr (6, [.ref (A 7), .ref (A 8)])), ((A 7), .inr (8, [.int (zi (Z 0)), .int (zi (Z 1)), .int (zi (Z 2))])), ((A 8), .inr (0, [.ref (A 9), .ref (A 10), .int (zi (Z 3))])), ((A 9), ai κ 8 (F 0)), ((A 10), ai κ 8 (F 1)), ((A 1), .inr (3, [.ref (A 11), .int (zi (Z 4))])), ((A 11), ar κ 4 (rf4 (some (A 12)) (some (A 13)) (some (A 14)) (some (A 15)))), ((A 12), .inr (6, [.ref (A 16), .ref (A 17)])), ((A 16), .inr (8, [.int (zi (Z 5)), .int (zi (Z 6)), .int (zi (Z 7))])), ((A 17), .inr (0, [.ref (A 18), .ref (A 19), .int (zi (Z 8))])), ((A 18), ai κ 8 (F 2)), ((A 19), ai κ 8 (F 3)), ((A 13), .inr (6, [.ref (A 20), .ref (A 21)])), ((A 20), .inr (8, [.int (zi (Z 9)), .int (zi (Z 10)), .int (zi (Z 11))])), ((A 21), .inr (0, [.ref (A 22), .ref (A 23), .int (zi (Z 12))])), ((A 22), ai κ 8 (F 4)), ((A 23), ai κ 8 (F 5)), ((A 14), .inr (6, [.ref (A 24), .ref (A 25)])), ((A 24), .inr (8, [.int (zi (Z 13)), .int (zi (Z 14)), .int (zi (Z 15))])), ((A 25), .inr (0, [.ref (A 26), .ref (A 27), .int (zi (Z 16))])), ((A 26), ai κ 8 (F 6)), ((A 27), ai κ 8 (F 7)), ((A 15), .inr (6, [.ref (A 28), .ref (A 29)])), ((A 28), .inr (8, [.int (zi (Z 17)), .int (zi (Z 18)), .int (zi (Z 19))])), ((A 29), .inr (0, [.ref (A 30), .ref (A 31), .int (zi (Z 20))])), ((A 30), ai κ 8 (F 8)), ((A 31), ai κ 8 (F 9)), ((A 2), .inr (2, [.ref (A 32), .ref (A 33), .ref (A 34), .ref (A 35), .ref (A 36), .long (zl (Z 21)), .long (zl (Z 22)), .int (zi (Z 23)), .int (zi (Z 24)), .int (zi (Z 25))])), ((A 32), ai κ 400 (F 10)), ((A 33), al κ 400 (F 11)), ((A 34), al κ 400 (F 12)), ((A 35), .inr (7, [.long (zl (Z 26)), .long (zl (Z 27)), .long (zl (Z 28)), .long (zl (Z 29))])), ((A 36), .inr (1, [.long (zl (Z 30)), .long (zl (Z 31)), .int (zi (Z 32)), .long (zl (Z 33)), .long (zl (Z 34))])), ((A 3), .inr (4, [.long (zl (Z 35)), .long (zl (Z 36)), .long (zl (Z 37)), .long (zl (Z 38)), .int (zi (Z 39))])), ((A 4), .inr (5, [.ref (A 37), .ref (A 38), .int (zi (Z 40)), .long (zl (Z 41)), .long (zl (Z 42))])), ((A 37), .inr (7, [.long (zl (Z 43)), .long (zl (Z 44)), .long (zl (Z 45)), .long (zl (Z 46))])), ((A 38), .inr (1, [.long (zl (Z 47)), .long (zl (Z 48)), .int (zi (Z 49)), .long (zl (Z 50)), .long (zl (Z 51))])), ((A 5), .inr (9, [.ref (A 39), .ref (A 40), .int (zi tn), .int (zi (Z 52)), .int (zi (Z 53)), .int (zi (Z 54))])), ((A 39), ac κ 40 c), ((A 40), ai κ 40 (F 13)), ((A 6), .inr (1, [.long (zl (Z 55)), .long (zl (Z 56)), .int (zi (Z 57)), .long (zl (Z 58)), .long (zl (Z 59))]))]
def RX (κ : Nat → ClassId) (x0 : Nat) (e : zH) (h : List zH) (c : Int → Int) (tn : Int) (w : va_W) : Prop := ∃ (A : Nat → Nat) (Z : Nat → Int) (F : Nat → Int → Int), w = canX κ x0 c tn A Z F ∧ (0 ≤ (Z 4) ∧ (Z 4) ≤ 4) ∧ (n8 (Z 3) ∧ n8 (Z 8) ∧ n8 (Z 12) ∧ n8 (Z 16) ∧ n8 (Z 20)) ∧ e = hE (Z 0) (Z 1) (Z 2) (Z 3) (F 0) (F 1) ∧ h = hLs (Z 4) (hE (Z 5) (Z 6) (Z 7) (Z 8) (F 2) (F 3)) (hE (Z 9) (Z 10) (Z 11) (Z 12) (F 4) (F 5)) (hE (Z 13) (Z 14) (Z 15) (Z 16) (F 6) (F 7)) (hE (Z 17) (Z 18) (Z 19) (Z 20) (F 8) (F 9)) ∧ xE (Z 0) (Z 1) (Z 2) (Z 21) (Z 22) (Z 23) (Z 24) (Z 25) (F 10) (F 11) (F 12) ∧ ((0 ≤ tn ∧ tn ≤ 40) ∧ ∀ i : Int, 0 ≤ i → i < tn → 32 ≤ c i ∧ c i ≤ 126)
def RM (κ : Nat → ClassId) (m0 : Nat) (S PA : Int → Int) (pn : Int) (TX : Int → Int) (tyd : Int) (w : va_W) : Prop := ∃ (ms : Nat) (mp : Nat) (mt : Nat) (mT : Nat) (mO : Nat) (mU : Nat) (ld : Int) (up : Int) (lw : Int) (ua : Int) (la : Int) (bU : Int) (bL : Int) (sv : Int) (xn : Int) (yn : Int) (sp : Int) (rs : Int) (pt : Int) (mr : Nat) (T : Int → Int) (OV : Int → Int) (UN : Int → Int) (RW : Int → Int), w = [(m0, .inr (11, [.ref ms, .ref mp, .int (zi pn), .ref mt, .int (zi tyd), .ref mT, .ref mO, .ref mU, .int (zi ld), .long (zl up), .long (zl lw), .long (zl ua), .long (zl la), .long (zl bU), .int (zi bL), .int (zi sv), .int (zi xn), .int (zi yn), .int (zi sp), .int (zi rs), .int (zi pt), .ref mr])), (ms, ai κ 20 S), (mp, ai κ 80 PA), (mt, ai κ 40 TX), (mT, ai κ 401 T), (mO, al κ 402 OV), (mU, al κ 402 UN), (mr, ai κ 21 RW)] ∧ (-2147483648 ≤ bL ∧ bL ≤ 2147483647)
