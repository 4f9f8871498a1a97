/-! ===== LAW 1: contracts on worlds in another order; the script's rows ===== -/
theorem ZC.conseqP {l : Launch} {y : MethodName} {cc : ByteArray} {nL : Nat} {ret : Option FieldType} {rm : Room} {D : va_G} {κ : Nat → ClassId} {av : List Value} {w0 : va_W} {Q Q' : Option Value → va_W → Prop} (h : ZC l y cc nL ret rm D κ av w0 Q) (hq : ∀ v w, Q v w → ∃ (is : List Nat) (w' : va_W), va_nd is = true ∧ is.map (fun i => w[i]?) = w'.map some ∧ Q' v w') : ZC l y cc nL ret rm D κ av w0 Q' := by
  intro sz p e ha h1 h2 s m args below hf hap hp hk
  obtain ⟨n, o, a1, a2, a3, ⟨⟨⟨v, w1, b1, b2, b3, b4⟩, b5⟩, b6⟩⟩ := h sz p e ha h1 h2 s m args below hf hap hp hk
  obtain ⟨is, w', c1, c2, c3⟩ := hq v w1 b2
  exact ⟨n, o, a1, a2, a3, ⟨⟨v, w', b1, c3, b3.sub is (z_filterMap is w' c2), b4.sub is c1 c2⟩, b5⟩, b6⟩
theorem z_all_get (ws : va_W) : (List.range ws.length).map (fun i => ws[i]?) = ws.map some := by
  refine List.ext_getElem? (fun i => ?_)
  rw [List.getElem?_map, List.getElem?_map]
  by_cases h : i < ws.length
  · rw [List.getElem?_range h]
    show some (ws[i]?) = Option.map some (ws[i]?)
    rw [List.getElem?_eq_getElem h]; rfl
  · rw [List.getElem?_eq_none (by rw [List.length_range]; omega), List.getElem?_eq_none (by omega)]; rfl
theorem z_nd_of : ∀ {l : List Nat}, l.Nodup → va_nd l = true
  | [], _ => rfl
  | a :: l, h => by
    have h2 := List.nodup_cons.mp h
    unfold va_nd
    rw [z_nd_of h2.2, decide_eq_true h2.1]; rfl
theorem z_nd_range (n : Nat) : va_nd (List.range n) = true := z_nd_of List.nodup_range
