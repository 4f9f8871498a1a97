/-! ===== LAW 6: the law's cases ===== -/
set_option maxRecDepth 100000 in
theorem L_surd {X : zX} {l : Launch} {D : va_G} {κ : Nat → ClassId} {b L k n : Nat} {xs : Nat → Int32} (E : ZE X RL cL_law 4 room_1 l D κ) (Sx : ZS X b L xs) (hL : L ≤ 2048) (hk : k ≤ room_1.cells ∧ n ≤ room_1.slots) {i : Int} (hi : 0 ≤ i ∧ i + 4 ≤ (L : Int)) {x0 m0 : Nat} {wx wm : va_W} (I : LI κ x0 m0 wx wm) (kk : ∀ wx1 wm1 : va_W, LI κ x0 m0 wx1 wm1 → Zg X (wx1 ++ wm1) k n 716 [(3, .int (zi i)), (2, .ref m0), (1, .ref x0), (0, .ref b)] []) : Zg X (wx ++ wm) k n 136 [(3, .int (zi i)), (2, .ref m0), (1, .ref x0), (0, .ref b)] [] := by
  obtain ⟨e, h, c, tn, S, PA, pn, hRX, hRM, hst, hhs⟩ := I
  have htx := RX_txt hRX
  obtain ⟨fx, hfx⟩ := RX_0 hRX
  obtain ⟨fm, hfm⟩ := RM_0 hRM
  refine z_aload_n E 2 rfl rfl dL_law_136 ?_
  refine z_aload_n E 3 rfl rfl dL_law_137 ?_
  refine z_iload_n E 0 rfl rfl dL_law_138 ?_
  refine z_iconst E dL_law_139 ?_
  refine z_iadd E dL_law_140 ?_
  refine z_sld E Sx (by omega) (by omega) (by omega) dL_law_141 ?_
  refine z_aload_n E 3 rfl rfl dL_law_142 ?_
  refine z_iload_n E 0 rfl rfl dL_law_143 ?_
  refine z_iconst E dL_law_144 ?_
  refine z_iadd E dL_law_145 ?_
  refine z_sld E Sx (by omega) (by omega) (by omega) dL_law_146 ?_
  refine z_aload_n E 3 rfl rfl dL_law_147 ?_
  refine z_iload_n E 0 rfl rfl dL_law_148 ?_
  refine z_iconst E dL_law_149 ?_
  refine z_iadd E dL_law_150 ?_
  refine z_sld E Sx (by omega) (by omega) (by omega) dL_law_151 ?_
  refine z_lawVi (As := [.int (zi (scv xs (i + 1))), .int (zi (scv xs (i + 2))), .int (zi (scv xs (i + 3)))]) (rest := []) E (X_surd l D κ x0 (scv xs (i + 1)) (scv xs (i + 2)) (scv xs (i + 3)) e h c tn wx (scv_r xs (i + 1)) (scv_r xs (i + 2)) (scv_r xs (i + 3)) (zOk_st hst) (zOk_hs hhs) hRX) m_L_13 ⟨Nat.le_of_ble_eq_true rfl, Nat.le_of_ble_eq_true rfl⟩ ⟨rfl, rfl⟩ hfx rfl rfl rfl (Nat.le_of_ble_eq_true rfl) dL_law_152 hk (fun z w1 hq => ?_)
  obtain ⟨e1, h1, hc, hRX1⟩ := hq
  refine z_aload_n E 1 rfl rfl dL_law_155 ?_
  refine z_aload_n E 3 rfl rfl dL_law_156 ?_
  refine z_iload_n E 0 rfl rfl dL_law_157 ?_
  refine z_iconst E dL_law_158 ?_
  refine z_iadd E dL_law_159 ?_
  refine z_sld E Sx (by omega) (by omega) (by omega) dL_law_160 ?_
  refine z_aload_n E 3 rfl rfl dL_law_161 ?_
  refine z_iload_n E 0 rfl rfl dL_law_162 ?_
  refine z_iconst E dL_law_163 ?_
  refine z_iadd E dL_law_164 ?_
  refine z_sld E Sx (by omega) (by omega) (by omega) dL_law_165 ?_
  refine z_aload_n E 3 rfl rfl dL_law_166 ?_
  refine z_iload_n E 0 rfl rfl dL_law_167 ?_
  refine z_iconst E dL_law_168 ?_
  refine z_iadd E dL_law_169 ?_
  refine z_sld E Sx (by omega) (by omega) (by omega) dL_law_170 ?_
  refine z_lawVi (As := [.int (zi (scv xs (i + 1))), .int (zi (scv xs (i + 2))), .int (zi (scv xs (i + 3)))]) (rest := [.int (zi z)]) E (M_surd l D κ m0 (scv xs (i + 1)) (scv xs (i + 2)) (scv xs (i + 3)) S PA pn c tn wm (scv_r xs (i + 1)) (scv_r xs (i + 2)) (scv_r xs (i + 3)) hst.2.1 hst.2.2.1 hhs.1 htx hRM) m_L_17 ⟨Nat.le_of_ble_eq_true rfl, Nat.le_of_ble_eq_true rfl⟩ ⟨rfl, rfl⟩ hfm rfl rfl rfl (Nat.le_of_ble_eq_true rfl) dL_law_171 hk (fun z2 w2 hq2 => ?_)
  obtain ⟨S1, PA1, pn1, hm, hRM1⟩ := hq2
  obtain ⟨hz, hst1, hs1⟩ := su_eq hst hc hm
  rw [hz]
  exact z_ic_same (tgt := 716) E dL_law_174 (by decide) (kk _ _ ⟨e1, h1, c, tn, S1, PA1, pn1, hRX1, hRM1, hst1, hsR_step hhs hst hs1⟩)
set_option maxRecDepth 100000 in
theorem L_partOf {X : zX} {l : Launch} {D : va_G} {κ : Nat → ClassId} {b L k n : Nat} {xs : Nat → Int32} (E : ZE X RL cL_law 4 room_1 l D κ) (Sx : ZS X b L xs) (hL : L ≤ 2048) (hk : k ≤ room_1.cells ∧ n ≤ room_1.slots) {i : Int} (hi : 0 ≤ i ∧ i + 4 ≤ (L : Int)) {x0 m0 : Nat} {wx wm : va_W} (I : LI κ x0 m0 wx wm) (kk : ∀ wx1 wm1 : va_W, LI κ x0 m0 wx1 wm1 → Zg X (wx1 ++ wm1) k n 716 [(3, .int (zi i)), (2, .ref m0), (1, .ref x0), (0, .ref b)] []) : Zg X (wx ++ wm) k n 179 [(3, .int (zi i)), (2, .ref m0), (1, .ref x0), (0, .ref b)] [] := by
  obtain ⟨e, h, c, tn, S, PA, pn, hRX, hRM, hst, hhs⟩ := I
  have htx := RX_txt hRX
  obtain ⟨fx, hfx⟩ := RX_0 hRX
  obtain ⟨fm, hfm⟩ := RM_0 hRM
  refine z_aload_n E 2 rfl rfl dL_law_179 ?_
  refine z_aload_n E 3 rfl rfl dL_law_180 ?_
  refine z_iload_n E 0 rfl rfl dL_law_181 ?_
  refine z_iconst E dL_law_182 ?_
  refine z_iadd E dL_law_183 ?_
  refine z_sld E Sx (by omega) (by omega) (by omega) dL_law_184 ?_
  refine z_lawVi (As := [.int (zi (scv xs (i + 1)))]) (rest := []) E (X_partOf l D κ x0 (scv xs (i + 1)) e h c tn wx (scv_r xs (i + 1)) (zOk_st hst) (zOk_hs hhs) hRX) m_L_18 ⟨Nat.le_of_ble_eq_true rfl, Nat.le_of_ble_eq_true rfl⟩ ⟨rfl, rfl⟩ hfx rfl rfl rfl (Nat.le_of_ble_eq_true rfl) dL_law_185 hk (fun z w1 hq => ?_)
  obtain ⟨hc, hRX1⟩ := hq
  refine z_aload_n E 1 rfl rfl dL_law_188 ?_
  refine z_aload_n E 3 rfl rfl dL_law_189 ?_
  refine z_iload_n E 0 rfl rfl dL_law_190 ?_
  refine z_iconst E dL_law_191 ?_
  refine z_iadd E dL_law_192 ?_
  refine z_sld E Sx (by omega) (by omega) (by omega) dL_law_193 ?_
  refine z_lawVi (As := [.int (zi (scv xs (i + 1)))]) (rest := [.int (zi z)]) E (M_partOf l D κ m0 (scv xs (i + 1)) S PA pn c tn wm (scv_r xs (i + 1)) hst.2.1 hst.2.2.1 hhs.1 htx hRM) m_L_22 ⟨Nat.le_of_ble_eq_true rfl, Nat.le_of_ble_eq_true rfl⟩ ⟨rfl, rfl⟩ hfm rfl rfl rfl (Nat.le_of_ble_eq_true rfl) dL_law_194 hk (fun z2 w2 hq2 => ?_)
  obtain ⟨hm, hRM1⟩ := hq2
  have hz := hc.trans ((po_eq hst).trans hm.symm)
  rw [hz]
  exact z_ic_same (tgt := 716) E dL_law_197 (by decide) (kk _ _ ⟨e, h, c, tn, S, PA, pn, hRX1, hRM1, hst, hhs⟩)
set_option maxRecDepth 100000 in
theorem L_term {X : zX} {l : Launch} {D : va_G} {κ : Nat → ClassId} {b L k n : Nat} {xs : Nat → Int32} (E : ZE X RL cL_law 4 room_1 l D κ) (Sx : ZS X b L xs) (hL : L ≤ 2048) (hk : k ≤ room_1.cells ∧ n ≤ room_1.slots) {i : Int} (hi : 0 ≤ i ∧ i + 4 ≤ (L : Int)) {x0 m0 : Nat} {wx wm : va_W} (I : LI κ x0 m0 wx wm) (kk : ∀ wx1 wm1 : va_W, LI κ x0 m0 wx1 wm1 → Zg X (wx1 ++ wm1) k n 716 [(3, .int (zi i)), (2, .ref m0), (1, .ref x0), (0, .ref b)] []) : Zg X (wx ++ wm) k n 202 [(3, .int (zi i)), (2, .ref m0), (1, .ref x0), (0, .ref b)] [] := by
  obtain ⟨e, h, c, tn, S, PA, pn, hRX, hRM, hst, hhs⟩ := I
  have htx := RX_txt hRX
  obtain ⟨fx, hfx⟩ := RX_0 hRX
  obtain ⟨fm, hfm⟩ := RM_0 hRM
  refine z_aload_n E 2 rfl rfl dL_law_202 ?_
  refine z_aload_n E 3 rfl rfl dL_law_203 ?_
  refine z_iload_n E 0 rfl rfl dL_law_204 ?_
  refine z_iconst E dL_law_205 ?_
  refine z_iadd E dL_law_206 ?_
  refine z_sld E Sx (by omega) (by omega) (by omega) dL_law_207 ?_
  refine z_lawVi (As := [.int (zi (scv xs (i + 1)))]) (rest := []) E (X_term l D κ x0 (scv xs (i + 1)) e h c tn wx (scv_r xs (i + 1)) (zOk_st hst) (zOk_hs hhs) hRX) m_L_23 ⟨Nat.le_of_ble_eq_true rfl, Nat.le_of_ble_eq_true rfl⟩ ⟨rfl, rfl⟩ hfx rfl rfl rfl (Nat.le_of_ble_eq_true rfl) dL_law_208 hk (fun z w1 hq => ?_)
  obtain ⟨hc, hRX1⟩ := hq
  refine z_aload_n E 1 rfl rfl dL_law_211 ?_
  refine z_aload_n E 3 rfl rfl dL_law_212 ?_
  refine z_iload_n E 0 rfl rfl dL_law_213 ?_
  refine z_iconst E dL_law_214 ?_
  refine z_iadd E dL_law_215 ?_
  refine z_sld E Sx (by omega) (by omega) (by omega) dL_law_216 ?_
  refine z_lawVi (As := [.int (zi (scv xs (i + 1)))]) (rest := [.int (zi z)]) E (M_term l D κ m0 (scv xs (i + 1)) S PA pn c tn wm (scv_r xs (i + 1)) hst.2.1 hst.2.2.1 hhs.1 htx hRM) m_L_26 ⟨Nat.le_of_ble_eq_true rfl, Nat.le_of_ble_eq_true rfl⟩ ⟨rfl, rfl⟩ hfm rfl rfl rfl (Nat.le_of_ble_eq_true rfl) dL_law_217 hk (fun z2 w2 hq2 => ?_)
  obtain ⟨hm, hRM1⟩ := hq2
  rw [hst.1.1, hst.1.2.1, hst.1.2.2] at hc
  have hz := hc.trans hm.symm
  rw [hz]
  exact z_ic_same (tgt := 716) E dL_law_220 (by decide) (kk _ _ ⟨e, h, c, tn, S, PA, pn, hRX1, hRM1, hst, hhs⟩)
set_option maxRecDepth 100000 in
theorem L_again {X : zX} {l : Launch} {D : va_G} {κ : Nat → ClassId} {b L k n : Nat} {xs : Nat → Int32} (E : ZE X RL cL_law 4 room_1 l D κ) (Sx : ZS X b L xs) (hL : L ≤ 2048) (hk : k ≤ room_1.cells ∧ n ≤ room_1.slots) {i : Int} (hi : 0 ≤ i ∧ i + 4 ≤ (L : Int)) {x0 m0 : Nat} {wx wm : va_W} (I : LI κ x0 m0 wx wm) (kk : ∀ wx1 wm1 : va_W, LI κ x0 m0 wx1 wm1 → Zg X (wx1 ++ wm1) k n 716 [(3, .int (zi i)), (2, .ref m0), (1, .ref x0), (0, .ref b)] []) : Zg X (wx ++ wm) k n 225 [(3, .int (zi i)), (2, .ref m0), (1, .ref x0), (0, .ref b)] [] := by
  obtain ⟨e, h, c, tn, S, PA, pn, hRX, hRM, hst, hhs⟩ := I
  have htx := RX_txt hRX
  obtain ⟨fx, hfx⟩ := RX_0 hRX
  obtain ⟨fm, hfm⟩ := RM_0 hRM
  refine z_aload_n E 2 rfl rfl dL_law_225 ?_
  refine z_aload_n E 3 rfl rfl dL_law_226 ?_
  refine z_iload_n E 0 rfl rfl dL_law_227 ?_
  refine z_iconst E dL_law_228 ?_
  refine z_iadd E dL_law_229 ?_
  refine z_sld E Sx (by omega) (by omega) (by omega) dL_law_230 ?_
  refine z_lawVi (As := [.int (zi (scv xs (i + 1)))]) (rest := []) E (X_again l D κ x0 (scv xs (i + 1)) e h c tn wx (scv_r xs (i + 1)) (zOk_st hst) (zOk_hs hhs) hRX) m_L_27 ⟨Nat.le_of_ble_eq_true rfl, Nat.le_of_ble_eq_true rfl⟩ ⟨rfl, rfl⟩ hfx rfl rfl rfl (Nat.le_of_ble_eq_true rfl) dL_law_231 hk (fun z w1 hq => ?_)
  obtain ⟨⟨lt, lb, ld, pd, cv, f, U, L1, hx, hc⟩, hRX1⟩ := hq
  refine z_aload_n E 1 rfl rfl dL_law_234 ?_
  refine z_aload_n E 3 rfl rfl dL_law_235 ?_
  refine z_iload_n E 0 rfl rfl dL_law_236 ?_
  refine z_iconst E dL_law_237 ?_
  refine z_iadd E dL_law_238 ?_
  refine z_sld E Sx (by omega) (by omega) (by omega) dL_law_239 ?_
  refine z_lawVi (As := [.int (zi (scv xs (i + 1)))]) (rest := [.int (zi z)]) E (M_again l D κ m0 (scv xs (i + 1)) S PA pn c tn wm (scv_r xs (i + 1)) hst.2.1 hst.2.2.1 hhs.1 htx hRM) m_L_30 ⟨Nat.le_of_ble_eq_true rfl, Nat.le_of_ble_eq_true rfl⟩ ⟨rfl, rfl⟩ hfm rfl rfl rfl (Nat.le_of_ble_eq_true rfl) dL_law_240 hk (fun z2 w2 hq2 => ?_)
  obtain ⟨hm, hRM1⟩ := hq2
  rw [hst.1.1, hst.1.2.1, hst.1.2.2] at hx
  have hz := ag_eq hst.2.1 hx hc hm
  rw [hz]
  exact z_ic_same (tgt := 716) E dL_law_243 (by decide) (kk _ _ ⟨e, h, c, tn, S, PA, pn, hRX1, hRM1, hst, hhs⟩)
set_option maxRecDepth 100000 in
theorem L_convergent {X : zX} {l : Launch} {D : va_G} {κ : Nat → ClassId} {b L k n : Nat} {xs : Nat → Int32} (E : ZE X RL cL_law 4 room_1 l D κ) (Sx : ZS X b L xs) (hL : L ≤ 2048) (hk : k ≤ room_1.cells ∧ n ≤ room_1.slots) {i : Int} (hi : 0 ≤ i ∧ i + 4 ≤ (L : Int)) {x0 m0 : Nat} {wx wm : va_W} (I : LI κ x0 m0 wx wm) (kk : ∀ wx1 wm1 : va_W, LI κ x0 m0 wx1 wm1 → Zg X (wx1 ++ wm1) k n 716 [(3, .int (zi i)), (2, .ref m0), (1, .ref x0), (0, .ref b)] []) : Zg X (wx ++ wm) k n 248 [(3, .int (zi i)), (2, .ref m0), (1, .ref x0), (0, .ref b)] [] := by
  obtain ⟨e, h, c, tn, S, PA, pn, hRX, hRM, hst, hhs⟩ := I
  have htx := RX_txt hRX
  obtain ⟨fx, hfx⟩ := RX_0 hRX
  obtain ⟨fm, hfm⟩ := RM_0 hRM
  refine z_aload_n E 2 rfl rfl dL_law_248 ?_
  refine z_aload_n E 3 rfl rfl dL_law_249 ?_
  refine z_iload_n E 0 rfl rfl dL_law_250 ?_
  refine z_iconst E dL_law_251 ?_
  refine z_iadd E dL_law_252 ?_
  refine z_sld E Sx (by omega) (by omega) (by omega) dL_law_253 ?_
  refine z_aload_n E 3 rfl rfl dL_law_254 ?_
  refine z_iload_n E 0 rfl rfl dL_law_255 ?_
  refine z_iconst E dL_law_256 ?_
  refine z_iadd E dL_law_257 ?_
  refine z_sld E Sx (by omega) (by omega) (by omega) dL_law_258 ?_
  refine z_lawVl (As := [.int (zi (scv xs (i + 1))), .int (zi (scv xs (i + 2)))]) (rest := []) E (X_convergent l D κ x0 (scv xs (i + 1)) (scv xs (i + 2)) e h c tn wx (scv_r xs (i + 1)) (scv_r xs (i + 2)) (zOk_st hst) (zOk_hs hhs) hRX) m_L_31 ⟨Nat.le_of_ble_eq_true rfl, Nat.le_of_ble_eq_true rfl⟩ ⟨rfl, rfl⟩ hfx rfl rfl rfl (Nat.le_of_ble_eq_true rfl) dL_law_259 hk (fun z w1 hq => ?_)
  obtain ⟨⟨lt, lb, ld, pd, cv, f, U, L1, hx, hc⟩, hRX1⟩ := hq
  refine z_aload_n E 1 rfl rfl dL_law_262 ?_
  refine z_aload_n E 3 rfl rfl dL_law_263 ?_
  refine z_iload_n E 0 rfl rfl dL_law_264 ?_
  refine z_iconst E dL_law_265 ?_
  refine z_iadd E dL_law_266 ?_
  refine z_sld E Sx (by omega) (by omega) (by omega) dL_law_267 ?_
  refine z_aload_n E 3 rfl rfl dL_law_268 ?_
  refine z_iload_n E 0 rfl rfl dL_law_269 ?_
  refine z_iconst E dL_law_270 ?_
  refine z_iadd E dL_law_271 ?_
  refine z_sld E Sx (by omega) (by omega) (by omega) dL_law_272 ?_
  refine z_lawVl (As := [.int (zi (scv xs (i + 1))), .int (zi (scv xs (i + 2)))]) (rest := [.long (zl z)]) E (M_convergent l D κ m0 (scv xs (i + 1)) (scv xs (i + 2)) S PA pn c tn wm (scv_r xs (i + 1)) (scv_r xs (i + 2)) hst.2.1 hst.2.2.1 hhs.1 htx hRM) m_L_35 ⟨Nat.le_of_ble_eq_true rfl, Nat.le_of_ble_eq_true rfl⟩ ⟨rfl, rfl⟩ hfm rfl rfl rfl (Nat.le_of_ble_eq_true rfl) dL_law_273 hk (fun z2 w2 hq2 => ?_)
  obtain ⟨hm, hRM1⟩ := hq2
  rw [hst.1.1, hst.1.2.1, hst.1.2.2] at hx
  have hz := cv_eq hx hc hm
  rw [hz]
  exact z_lc_same (tgt := 716) E dL_law_276 dL_law_277 (by decide) (kk _ _ ⟨e, h, c, tn, S, PA, pn, hRX1, hRM1, hst, hhs⟩)
set_option maxRecDepth 100000 in
theorem L_between {X : zX} {l : Launch} {D : va_G} {κ : Nat → ClassId} {b L k n : Nat} {xs : Nat → Int32} (E : ZE X RL cL_law 4 room_1 l D κ) (Sx : ZS X b L xs) (hL : L ≤ 2048) (hk : k ≤ room_1.cells ∧ n ≤ room_1.slots) {i : Int} (hi : 0 ≤ i ∧ i + 4 ≤ (L : Int)) {x0 m0 : Nat} {wx wm : va_W} (I : LI κ x0 m0 wx wm) (kk : ∀ wx1 wm1 : va_W, LI κ x0 m0 wx1 wm1 → Zg X (wx1 ++ wm1) k n 716 [(3, .int (zi i)), (2, .ref m0), (1, .ref x0), (0, .ref b)] []) : Zg X (wx ++ wm) k n 282 [(3, .int (zi i)), (2, .ref m0), (1, .ref x0), (0, .ref b)] [] := by
  obtain ⟨e, h, c, tn, S, PA, pn, hRX, hRM, hst, hhs⟩ := I
  have htx := RX_txt hRX
  obtain ⟨fx, hfx⟩ := RX_0 hRX
  obtain ⟨fm, hfm⟩ := RM_0 hRM
  refine z_aload_n E 2 rfl rfl dL_law_282 ?_
  refine z_aload_n E 3 rfl rfl dL_law_283 ?_
  refine z_iload_n E 0 rfl rfl dL_law_284 ?_
  refine z_iconst E dL_law_285 ?_
  refine z_iadd E dL_law_286 ?_
  refine z_sld E Sx (by omega) (by omega) (by omega) dL_law_287 ?_
  refine z_aload_n E 3 rfl rfl dL_law_288 ?_
  refine z_iload_n E 0 rfl rfl dL_law_289 ?_
  refine z_iconst E dL_law_290 ?_
  refine z_iadd E dL_law_291 ?_
  refine z_sld E Sx (by omega) (by omega) (by omega) dL_law_292 ?_
  refine z_aload_n E 3 rfl rfl dL_law_293 ?_
  refine z_iload_n E 0 rfl rfl dL_law_294 ?_
  refine z_iconst E dL_law_295 ?_
  refine z_iadd E dL_law_296 ?_
  refine z_sld E Sx (by omega) (by omega) (by omega) dL_law_297 ?_
  refine z_lawVl (As := [.int (zi (scv xs (i + 1))), .int (zi (scv xs (i + 2))), .int (zi (scv xs (i + 3)))]) (rest := []) E (X_between l D κ x0 (scv xs (i + 1)) (scv xs (i + 2)) (scv xs (i + 3)) e h c tn wx (scv_r xs (i + 1)) (scv_r xs (i + 2)) (scv_r xs (i + 3)) (zOk_st hst) (zOk_hs hhs) hRX) m_L_36 ⟨Nat.le_of_ble_eq_true rfl, Nat.le_of_ble_eq_true rfl⟩ ⟨rfl, rfl⟩ hfx rfl rfl rfl (Nat.le_of_ble_eq_true rfl) dL_law_298 hk (fun z w1 hq => ?_)
  obtain ⟨⟨lt, lb, ld, pd, cv, f, U, L1, hx, hc⟩, hRX1⟩ := hq
  refine z_aload_n E 1 rfl rfl dL_law_301 ?_
  refine z_aload_n E 3 rfl rfl dL_law_302 ?_
  refine z_iload_n E 0 rfl rfl dL_law_303 ?_
  refine z_iconst E dL_law_304 ?_
  refine z_iadd E dL_law_305 ?_
  refine z_sld E Sx (by omega) (by omega) (by omega) dL_law_306 ?_
  refine z_aload_n E 3 rfl rfl dL_law_307 ?_
  refine z_iload_n E 0 rfl rfl dL_law_308 ?_
  refine z_iconst E dL_law_309 ?_
  refine z_iadd E dL_law_310 ?_
  refine z_sld E Sx (by omega) (by omega) (by omega) dL_law_311 ?_
  refine z_aload_n E 3 rfl rfl dL_law_312 ?_
  refine z_iload_n E 0 rfl rfl dL_law_313 ?_
  refine z_iconst E dL_law_314 ?_
  refine z_iadd E dL_law_315 ?_
  refine z_sld E Sx (by omega) (by omega) (by omega) dL_law_316 ?_
  refine z_lawVl (As := [.int (zi (scv xs (i + 1))), .int (zi (scv xs (i + 2))), .int (zi (scv xs (i + 3)))]) (rest := [.long (zl z)]) E (M_between l D κ m0 (scv xs (i + 1)) (scv xs (i + 2)) (scv xs (i + 3)) S PA pn c tn wm (scv_r xs (i + 1)) (scv_r xs (i + 2)) (scv_r xs (i + 3)) hst.2.1 hst.2.2.1 hhs.1 htx hRM) m_L_40 ⟨Nat.le_of_ble_eq_true rfl, Nat.le_of_ble_eq_true rfl⟩ ⟨rfl, rfl⟩ hfm rfl rfl rfl (Nat.le_of_ble_eq_true rfl) dL_law_317 hk (fun z2 w2 hq2 => ?_)
  obtain ⟨hm, hRM1⟩ := hq2
  rw [hst.1.1, hst.1.2.1, hst.1.2.2] at hx
  have hz := bt_eq hx hc hm
  rw [hz]
  exact z_lc_same (tgt := 716) E dL_law_320 dL_law_321 (by decide) (kk _ _ ⟨e, h, c, tn, S, PA, pn, hRX1, hRM1, hst, hhs⟩)
set_option maxRecDepth 100000 in
theorem L_nearest {X : zX} {l : Launch} {D : va_G} {κ : Nat → ClassId} {b L k n : Nat} {xs : Nat → Int32} (E : ZE X RL cL_law 4 room_1 l D κ) (Sx : ZS X b L xs) (hL : L ≤ 2048) (hk : k ≤ room_1.cells ∧ n ≤ room_1.slots) {i : Int} (hi : 0 ≤ i ∧ i + 4 ≤ (L : Int)) {x0 m0 : Nat} {wx wm : va_W} (I : LI κ x0 m0 wx wm) (kk : ∀ wx1 wm1 : va_W, LI κ x0 m0 wx1 wm1 → Zg X (wx1 ++ wm1) k n 716 [(3, .int (zi i)), (2, .ref m0), (1, .ref x0), (0, .ref b)] []) : Zg X (wx ++ wm) k n 326 [(3, .int (zi i)), (2, .ref m0), (1, .ref x0), (0, .ref b)] [] := by
  obtain ⟨e, h, c, tn, S, PA, pn, hRX, hRM, hst, hhs⟩ := I
  have htx := RX_txt hRX
  obtain ⟨fx, hfx⟩ := RX_0 hRX
  obtain ⟨fm, hfm⟩ := RM_0 hRM
  refine z_aload_n E 2 rfl rfl dL_law_326 ?_
  refine z_aload_n E 3 rfl rfl dL_law_327 ?_
  refine z_iload_n E 0 rfl rfl dL_law_328 ?_
  refine z_iconst E dL_law_329 ?_
  refine z_iadd E dL_law_330 ?_
  refine z_sld E Sx (by omega) (by omega) (by omega) dL_law_331 ?_
  refine z_aload_n E 3 rfl rfl dL_law_332 ?_
  refine z_iload_n E 0 rfl rfl dL_law_333 ?_
  refine z_iconst E dL_law_334 ?_
  refine z_iadd E dL_law_335 ?_
  refine z_sld E Sx (by omega) (by omega) (by omega) dL_law_336 ?_
  refine z_lawVi (As := [.int (zi (scv xs (i + 1))), .int (zi (scv xs (i + 2)))]) (rest := []) E (X_nearest l D κ x0 (scv xs (i + 1)) (scv xs (i + 2)) e h c tn wx (scv_r xs (i + 1)) (scv_r xs (i + 2)) (zOk_st hst) (zOk_hs hhs) hRX) m_L_41 ⟨Nat.le_of_ble_eq_true rfl, Nat.le_of_ble_eq_true rfl⟩ ⟨rfl, rfl⟩ hfx rfl rfl rfl (Nat.le_of_ble_eq_true rfl) dL_law_337 hk (fun z w1 hq => ?_)
  obtain ⟨hc, hRX1⟩ := hq
  refine z_aload_n E 1 rfl rfl dL_law_340 ?_
  refine z_aload_n E 3 rfl rfl dL_law_341 ?_
  refine z_iload_n E 0 rfl rfl dL_law_342 ?_
  refine z_iconst E dL_law_343 ?_
  refine z_iadd E dL_law_344 ?_
  refine z_sld E Sx (by omega) (by omega) (by omega) dL_law_345 ?_
  refine z_aload_n E 3 rfl rfl dL_law_346 ?_
  refine z_iload_n E 0 rfl rfl dL_law_347 ?_
  refine z_iconst E dL_law_348 ?_
  refine z_iadd E dL_law_349 ?_
  refine z_sld E Sx (by omega) (by omega) (by omega) dL_law_350 ?_
  refine z_lawVi (As := [.int (zi (scv xs (i + 1))), .int (zi (scv xs (i + 2)))]) (rest := [.int (zi z)]) E (M_nearest l D κ m0 (scv xs (i + 1)) (scv xs (i + 2)) S PA pn c tn wm (scv_r xs (i + 1)) (scv_r xs (i + 2)) hst.2.1 hst.2.2.1 hhs.1 htx hRM) m_L_45 ⟨Nat.le_of_ble_eq_true rfl, Nat.le_of_ble_eq_true rfl⟩ ⟨rfl, rfl⟩ hfm rfl rfl rfl (Nat.le_of_ble_eq_true rfl) dL_law_351 hk (fun z2 w2 hq2 => ?_)
  obtain ⟨hm, hRM1⟩ := hq2
  rw [hst.1.1, hst.1.2.1, hst.1.2.2] at hc
  have hz := ne_eq hst.2.1 hc hm
  rw [hz]
  exact z_ic_same (tgt := 716) E dL_law_354 (by decide) (kk _ _ ⟨e, h, c, tn, S, PA, pn, hRX1, hRM1, hst, hhs⟩)
set_option maxRecDepth 100000 in
theorem L_beside {X : zX} {l : Launch} {D : va_G} {κ : Nat → ClassId} {b L k n : Nat} {xs : Nat → Int32} (E : ZE X RL cL_law 4 room_1 l D κ) (Sx : ZS X b L xs) (hL : L ≤ 2048) (hk : k ≤ room_1.cells ∧ n ≤ room_1.slots) {i : Int} (hi : 0 ≤ i ∧ i + 4 ≤ (L : Int)) {x0 m0 : Nat} {wx wm : va_W} (I : LI κ x0 m0 wx wm) (kk : ∀ wx1 wm1 : va_W, LI κ x0 m0 wx1 wm1 → Zg X (wx1 ++ wm1) k n 716 [(3, .int (zi i)), (2, .ref m0), (1, .ref x0), (0, .ref b)] []) : Zg X (wx ++ wm) k n 359 [(3, .int (zi i)), (2, .ref m0), (1, .ref x0), (0, .ref b)] [] := by
  obtain ⟨e, h, c, tn, S, PA, pn, hRX, hRM, hst, hhs⟩ := I
  have htx := RX_txt hRX
  obtain ⟨fx, hfx⟩ := RX_0 hRX
  obtain ⟨fm, hfm⟩ := RM_0 hRM
  refine z_aload_n E 2 rfl rfl dL_law_359 ?_
  refine z_aload_n E 3 rfl rfl dL_law_360 ?_
  refine z_iload_n E 0 rfl rfl dL_law_361 ?_
  refine z_iconst E dL_law_362 ?_
  refine z_iadd E dL_law_363 ?_
  refine z_sld E Sx (by omega) (by omega) (by omega) dL_law_364 ?_
  refine z_aload_n E 3 rfl rfl dL_law_365 ?_
  refine z_iload_n E 0 rfl rfl dL_law_366 ?_
  refine z_iconst E dL_law_367 ?_
  refine z_iadd E dL_law_368 ?_
  refine z_sld E Sx (by omega) (by omega) (by omega) dL_law_369 ?_
  refine z_aload_n E 3 rfl rfl dL_law_370 ?_
  refine z_iload_n E 0 rfl rfl dL_law_371 ?_
  refine z_iconst E dL_law_372 ?_
  refine z_iadd E dL_law_373 ?_
  refine z_sld E Sx (by omega) (by omega) (by omega) dL_law_374 ?_
  refine z_lawVi (As := [.int (zi (scv xs (i + 1))), .int (zi (scv xs (i + 2))), .int (zi (scv xs (i + 3)))]) (rest := []) E (X_beside l D κ x0 (scv xs (i + 1)) (scv xs (i + 2)) (scv xs (i + 3)) e h c tn wx (scv_r xs (i + 1)) (scv_r xs (i + 2)) (scv_r xs (i + 3)) (zOk_st hst) (zOk_hs hhs) hRX) m_L_46 ⟨Nat.le_of_ble_eq_true rfl, Nat.le_of_ble_eq_true rfl⟩ ⟨rfl, rfl⟩ hfx rfl rfl rfl (Nat.le_of_ble_eq_true rfl) dL_law_375 hk (fun z w1 hq => ?_)
  obtain ⟨hc, hRX1⟩ := hq
  refine z_aload_n E 1 rfl rfl dL_law_378 ?_
  refine z_aload_n E 3 rfl rfl dL_law_379 ?_
  refine z_iload_n E 0 rfl rfl dL_law_380 ?_
  refine z_iconst E dL_law_381 ?_
  refine z_iadd E dL_law_382 ?_
  refine z_sld E Sx (by omega) (by omega) (by omega) dL_law_383 ?_
  refine z_aload_n E 3 rfl rfl dL_law_384 ?_
  refine z_iload_n E 0 rfl rfl dL_law_385 ?_
  refine z_iconst E dL_law_386 ?_
  refine z_iadd E dL_law_387 ?_
  refine z_sld E Sx (by omega) (by omega) (by omega) dL_law_388 ?_
  refine z_aload_n E 3 rfl rfl dL_law_389 ?_
  refine z_iload_n E 0 rfl rfl dL_law_390 ?_
  refine z_iconst E dL_law_391 ?_
  refine z_iadd E dL_law_392 ?_
  refine z_sld E Sx (by omega) (by omega) (by omega) dL_law_393 ?_
  refine z_lawVi (As := [.int (zi (scv xs (i + 1))), .int (zi (scv xs (i + 2))), .int (zi (scv xs (i + 3)))]) (rest := [.int (zi z)]) E (M_beside l D κ m0 (scv xs (i + 1)) (scv xs (i + 2)) (scv xs (i + 3)) S PA pn c tn wm (scv_r xs (i + 1)) (scv_r xs (i + 2)) (scv_r xs (i + 3)) hst.2.1 hst.2.2.1 hhs.1 htx hRM) m_L_49 ⟨Nat.le_of_ble_eq_true rfl, Nat.le_of_ble_eq_true rfl⟩ ⟨rfl, rfl⟩ hfm rfl rfl rfl (Nat.le_of_ble_eq_true rfl) dL_law_394 hk (fun z2 w2 hq2 => ?_)
  obtain ⟨hm, hRM1⟩ := hq2
  rw [hst.1.1, hst.1.2.1, hst.1.2.2] at hc
  have hz := be_eq hst.2.1 hc hm
  rw [hz]
  exact z_ic_same (tgt := 716) E dL_law_397 (by decide) (kk _ _ ⟨e, h, c, tn, S, PA, pn, hRX1, hRM1, hst, hhs⟩)
set_option maxRecDepth 100000 in
theorem L_records {X : zX} {l : Launch} {D : va_G} {κ : Nat → ClassId} {b L k n : Nat} {xs : Nat → Int32} (E : ZE X RL cL_law 4 room_1 l D κ) (Sx : ZS X b L xs) (hL : L ≤ 2048) (hk : k ≤ room_1.cells ∧ n ≤ room_1.slots) {i : Int} (hi : 0 ≤ i ∧ i + 4 ≤ (L : Int)) {x0 m0 : Nat} {wx wm : va_W} (I : LI κ x0 m0 wx wm) (kk : ∀ wx1 wm1 : va_W, LI κ x0 m0 wx1 wm1 → Zg X (wx1 ++ wm1) k n 716 [(3, .int (zi i)), (2, .ref m0), (1, .ref x0), (0, .ref b)] []) : Zg X (wx ++ wm) k n 402 [(3, .int (zi i)), (2, .ref m0), (1, .ref x0), (0, .ref b)] [] := by
  obtain ⟨e, h, c, tn, S, PA, pn, hRX, hRM, hst, hhs⟩ := I
  have htx := RX_txt hRX
  obtain ⟨fx, hfx⟩ := RX_0 hRX
  obtain ⟨fm, hfm⟩ := RM_0 hRM
  refine z_aload_n E 2 rfl rfl dL_law_402 ?_
  refine z_aload_n E 3 rfl rfl dL_law_403 ?_
  refine z_iload_n E 0 rfl rfl dL_law_404 ?_
  refine z_iconst E dL_law_405 ?_
  refine z_iadd E dL_law_406 ?_
  refine z_sld E Sx (by omega) (by omega) (by omega) dL_law_407 ?_
  refine z_lawVi (As := [.int (zi (scv xs (i + 1)))]) (rest := []) E (X_records l D κ x0 (scv xs (i + 1)) e h c tn wx (scv_r xs (i + 1)) (zOk_st hst) (zOk_hs hhs) hRX) m_L_50 ⟨Nat.le_of_ble_eq_true rfl, Nat.le_of_ble_eq_true rfl⟩ ⟨rfl, rfl⟩ hfx rfl rfl rfl (Nat.le_of_ble_eq_true rfl) dL_law_408 hk (fun z w1 hq => ?_)
  obtain ⟨hc, hRX1⟩ := hq
  refine z_aload_n E 1 rfl rfl dL_law_411 ?_
  refine z_aload_n E 3 rfl rfl dL_law_412 ?_
  refine z_iload_n E 0 rfl rfl dL_law_413 ?_
  refine z_iconst E dL_law_414 ?_
  refine z_iadd E dL_law_415 ?_
  refine z_sld E Sx (by omega) (by omega) (by omega) dL_law_416 ?_
  refine z_lawVi (As := [.int (zi (scv xs (i + 1)))]) (rest := [.int (zi z)]) E (M_records l D κ m0 (scv xs (i + 1)) S PA pn c tn wm (scv_r xs (i + 1)) hst.2.1 hst.2.2.1 hhs.1 htx hRM) m_L_53 ⟨Nat.le_of_ble_eq_true rfl, Nat.le_of_ble_eq_true rfl⟩ ⟨rfl, rfl⟩ hfm rfl rfl rfl (Nat.le_of_ble_eq_true rfl) dL_law_417 hk (fun z2 w2 hq2 => ?_)
  obtain ⟨hm, hRM1⟩ := hq2
  rw [hst.1.1, hst.1.2.1, hst.1.2.2] at hc
  have hz := re_eq hst.2.1 hc hm
  rw [hz]
  exact z_ic_same (tgt := 716) E dL_law_420 (by decide) (kk _ _ ⟨e, h, c, tn, S, PA, pn, hRX1, hRM1, hst, hhs⟩)
set_option maxRecDepth 100000 in
theorem L_solution {X : zX} {l : Launch} {D : va_G} {κ : Nat → ClassId} {b L k n : Nat} {xs : Nat → Int32} (E : ZE X RL cL_law 4 room_1 l D κ) (Sx : ZS X b L xs) (hL : L ≤ 2048) (hk : k ≤ room_1.cells ∧ n ≤ room_1.slots) {i : Int} (hi : 0 ≤ i ∧ i + 4 ≤ (L : Int)) {x0 m0 : Nat} {wx wm : va_W} (I : LI κ x0 m0 wx wm) (kk : ∀ wx1 wm1 : va_W, LI κ x0 m0 wx1 wm1 → Zg X (wx1 ++ wm1) k n 716 [(3, .int (zi i)), (2, .ref m0), (1, .ref x0), (0, .ref b)] []) : Zg X (wx ++ wm) k n 425 [(3, .int (zi i)), (2, .ref m0), (1, .ref x0), (0, .ref b)] [] := by
  obtain ⟨e, h, c, tn, S, PA, pn, hRX, hRM, hst, hhs⟩ := I
  have htx := RX_txt hRX
  obtain ⟨fx, hfx⟩ := RX_0 hRX
  obtain ⟨fm, hfm⟩ := RM_0 hRM
  refine z_aload_n E 2 rfl rfl dL_law_425 ?_
  refine z_aload_n E 3 rfl rfl dL_law_426 ?_
  refine z_iload_n E 0 rfl rfl dL_law_427 ?_
  refine z_iconst E dL_law_428 ?_
  refine z_iadd E dL_law_429 ?_
  refine z_sld E Sx (by omega) (by omega) (by omega) dL_law_430 ?_
  refine z_aload_n E 3 rfl rfl dL_law_431 ?_
  refine z_iload_n E 0 rfl rfl dL_law_432 ?_
  refine z_iconst E dL_law_433 ?_
  refine z_iadd E dL_law_434 ?_
  refine z_sld E Sx (by omega) (by omega) (by omega) dL_law_435 ?_
  refine z_aload_n E 3 rfl rfl dL_law_436 ?_
  refine z_iload_n E 0 rfl rfl dL_law_437 ?_
  refine z_iconst E dL_law_438 ?_
  refine z_iadd E dL_law_439 ?_
  refine z_sld E Sx (by omega) (by omega) (by omega) dL_law_440 ?_
  refine z_lawVi (As := [.int (zi (scv xs (i + 1))), .int (zi (scv xs (i + 2))), .int (zi (scv xs (i + 3)))]) (rest := []) E (X_solution l D κ x0 (scv xs (i + 1)) (scv xs (i + 2)) (scv xs (i + 3)) e h c tn wx (scv_r xs (i + 1)) (scv_r xs (i + 2)) (scv_r xs (i + 3)) (zOk_st hst) (zOk_hs hhs) hRX) m_L_54 ⟨Nat.le_of_ble_eq_true rfl, Nat.le_of_ble_eq_true rfl⟩ ⟨rfl, rfl⟩ hfx rfl rfl rfl (Nat.le_of_ble_eq_true rfl) dL_law_441 hk (fun z w1 hq => ?_)
  obtain ⟨hc, hRX1⟩ := hq
  refine z_aload_n E 1 rfl rfl dL_law_444 ?_
  refine z_aload_n E 3 rfl rfl dL_law_445 ?_
  refine z_iload_n E 0 rfl rfl dL_law_446 ?_
  refine z_iconst E dL_law_447 ?_
  refine z_iadd E dL_law_448 ?_
  refine z_sld E Sx (by omega) (by omega) (by omega) dL_law_449 ?_
  refine z_aload_n E 3 rfl rfl dL_law_450 ?_
  refine z_iload_n E 0 rfl rfl dL_law_451 ?_
  refine z_iconst E dL_law_452 ?_
  refine z_iadd E dL_law_453 ?_
  refine z_sld E Sx (by omega) (by omega) (by omega) dL_law_454 ?_
  refine z_aload_n E 3 rfl rfl dL_law_455 ?_
  refine z_iload_n E 0 rfl rfl dL_law_456 ?_
  refine z_iconst E dL_law_457 ?_
  refine z_iadd E dL_law_458 ?_
  refine z_sld E Sx (by omega) (by omega) (by omega) dL_law_459 ?_
  refine z_lawVi (As := [.int (zi (scv xs (i + 1))), .int (zi (scv xs (i + 2))), .int (zi (scv xs (i + 3)))]) (rest := [.int (zi z)]) E (M_solution l D κ m0 (scv xs (i + 1)) (scv xs (i + 2)) (scv xs (i + 3)) S PA pn c tn wm (scv_r xs (i + 1)) (scv_r xs (i + 2)) (scv_r xs (i + 3)) hst.2.1 hst.2.2.1 hhs.1 htx hRM) m_L_57 ⟨Nat.le_of_ble_eq_true rfl, Nat.le_of_ble_eq_true rfl⟩ ⟨rfl, rfl⟩ hfm rfl rfl rfl (Nat.le_of_ble_eq_true rfl) dL_law_460 hk (fun z2 w2 hq2 => ?_)
  obtain ⟨hm, hRM1⟩ := hq2
  rw [hst.1.2.1] at hc
  have hz := sl_eq hc hm
  rw [hz]
  exact z_ic_same (tgt := 716) E dL_law_463 (by decide) (kk _ _ ⟨e, h, c, tn, S, PA, pn, hRX1, hRM1, hst, hhs⟩)
set_option maxRecDepth 100000 in
theorem L_solutions {X : zX} {l : Launch} {D : va_G} {κ : Nat → ClassId} {b L k n : Nat} {xs : Nat → Int32} (E : ZE X RL cL_law 4 room_1 l D κ) (Sx : ZS X b L xs) (hL : L ≤ 2048) (hk : k ≤ room_1.cells ∧ n ≤ room_1.slots) {i : Int} (hi : 0 ≤ i ∧ i + 4 ≤ (L : Int)) {x0 m0 : Nat} {wx wm : va_W} (I : LI κ x0 m0 wx wm) (kk : ∀ wx1 wm1 : va_W, LI κ x0 m0 wx1 wm1 → Zg X (wx1 ++ wm1) k n 716 [(3, .int (zi i)), (2, .ref m0), (1, .ref x0), (0, .ref b)] []) : Zg X (wx ++ wm) k n 468 [(3, .int (zi i)), (2, .ref m0), (1, .ref x0), (0, .ref b)] [] := by
  obtain ⟨e, h, c, tn, S, PA, pn, hRX, hRM, hst, hhs⟩ := I
  have htx := RX_txt hRX
  obtain ⟨fx, hfx⟩ := RX_0 hRX
  obtain ⟨fm, hfm⟩ := RM_0 hRM
  refine z_aload_n E 2 rfl rfl dL_law_468 ?_
  refine z_aload_n E 3 rfl rfl dL_law_469 ?_
  refine z_iload_n E 0 rfl rfl dL_law_470 ?_
  refine z_iconst E dL_law_471 ?_
  refine z_iadd E dL_law_472 ?_
  refine z_sld E Sx (by omega) (by omega) (by omega) dL_law_473 ?_
  refine z_lawVi (As := [.int (zi (scv xs (i + 1)))]) (rest := []) E (X_solutions l D κ x0 (scv xs (i + 1)) e h c tn wx (scv_r xs (i + 1)) (zOk_st hst) (zOk_hs hhs) hRX) m_L_58 ⟨Nat.le_of_ble_eq_true rfl, Nat.le_of_ble_eq_true rfl⟩ ⟨rfl, rfl⟩ hfx rfl rfl rfl (Nat.le_of_ble_eq_true rfl) dL_law_474 hk (fun z w1 hq => ?_)
  obtain ⟨hc, hRX1⟩ := hq
  refine z_aload_n E 1 rfl rfl dL_law_477 ?_
  refine z_aload_n E 3 rfl rfl dL_law_478 ?_
  refine z_iload_n E 0 rfl rfl dL_law_479 ?_
  refine z_iconst E dL_law_480 ?_
  refine z_iadd E dL_law_481 ?_
  refine z_sld E Sx (by omega) (by omega) (by omega) dL_law_482 ?_
  refine z_lawVi (As := [.int (zi (scv xs (i + 1)))]) (rest := [.int (zi z)]) E (M_solutions l D κ m0 (scv xs (i + 1)) S PA pn c tn wm (scv_r xs (i + 1)) hst.2.1 hst.2.2.1 hhs.1 htx hRM) m_L_61 ⟨Nat.le_of_ble_eq_true rfl, Nat.le_of_ble_eq_true rfl⟩ ⟨rfl, rfl⟩ hfm rfl rfl rfl (Nat.le_of_ble_eq_true rfl) dL_law_483 hk (fun z2 w2 hq2 => ?_)
  obtain ⟨hm, hRM1⟩ := hq2
  rw [hst.1.2.1] at hc
  have hz := sn_eq hc hm
  rw [hz]
  exact z_ic_same (tgt := 716) E dL_law_486 (by decide) (kk _ _ ⟨e, h, c, tn, S, PA, pn, hRX1, hRM1, hst, hhs⟩)
set_option maxRecDepth 100000 in
theorem L_leastSolution {X : zX} {l : Launch} {D : va_G} {κ : Nat → ClassId} {b L k n : Nat} {xs : Nat → Int32} (E : ZE X RL cL_law 4 room_1 l D κ) (Sx : ZS X b L xs) (hL : L ≤ 2048) (hk : k ≤ room_1.cells ∧ n ≤ room_1.slots) {i : Int} (hi : 0 ≤ i ∧ i + 4 ≤ (L : Int)) {x0 m0 : Nat} {wx wm : va_W} (I : LI κ x0 m0 wx wm) (kk : ∀ wx1 wm1 : va_W, LI κ x0 m0 wx1 wm1 → Zg X (wx1 ++ wm1) k n 716 [(3, .int (zi i)), (2, .ref m0), (1, .ref x0), (0, .ref b)] []) : Zg X (wx ++ wm) k n 491 [(3, .int (zi i)), (2, .ref m0), (1, .ref x0), (0, .ref b)] [] := by
  obtain ⟨e, h, c, tn, S, PA, pn, hRX, hRM, hst, hhs⟩ := I
  have htx := RX_txt hRX
  obtain ⟨fx, hfx⟩ := RX_0 hRX
  obtain ⟨fm, hfm⟩ := RM_0 hRM
  refine z_aload_n E 2 rfl rfl dL_law_491 ?_
  refine z_aload_n E 3 rfl rfl dL_law_492 ?_
  refine z_iload_n E 0 rfl rfl dL_law_493 ?_
  refine z_iconst E dL_law_494 ?_
  refine z_iadd E dL_law_495 ?_
  refine z_sld E Sx (by omega) (by omega) (by omega) dL_law_496 ?_
  refine z_lawVl (As := [.int (zi (scv xs (i + 1)))]) (rest := []) E (X_leastSolution l D κ x0 (scv xs (i + 1)) e h c tn wx (scv_r xs (i + 1)) (zOk_st hst) (zOk_hs hhs) hRX) m_L_62 ⟨Nat.le_of_ble_eq_true rfl, Nat.le_of_ble_eq_true rfl⟩ ⟨rfl, rfl⟩ hfx rfl rfl rfl (Nat.le_of_ble_eq_true rfl) dL_law_497 hk (fun z w1 hq => ?_)
  obtain ⟨hc, hRX1⟩ := hq
  refine z_aload_n E 1 rfl rfl dL_law_500 ?_
  refine z_aload_n E 3 rfl rfl dL_law_501 ?_
  refine z_iload_n E 0 rfl rfl dL_law_502 ?_
  refine z_iconst E dL_law_503 ?_
  refine z_iadd E dL_law_504 ?_
  refine z_sld E Sx (by omega) (by omega) (by omega) dL_law_505 ?_
  refine z_lawVl (As := [.int (zi (scv xs (i + 1)))]) (rest := [.long (zl z)]) E (M_leastSolution l D κ m0 (scv xs (i + 1)) S PA pn c tn wm (scv_r xs (i + 1)) hst.2.1 hst.2.2.1 hhs.1 htx hRM) m_L_66 ⟨Nat.le_of_ble_eq_true rfl, Nat.le_of_ble_eq_true rfl⟩ ⟨rfl, rfl⟩ hfm rfl rfl rfl (Nat.le_of_ble_eq_true rfl) dL_law_506 hk (fun z2 w2 hq2 => ?_)
  obtain ⟨hm, hRM1⟩ := hq2
  rw [hst.1.2.1] at hc
  have hz := ls_eq (vS_d1 hst.2.1) hc hm
  rw [hz]
  exact z_lc_same (tgt := 716) E dL_law_509 dL_law_510 (by decide) (kk _ _ ⟨e, h, c, tn, S, PA, pn, hRX1, hRM1, hst, hhs⟩)
set_option maxRecDepth 100000 in
theorem L_note {X : zX} {l : Launch} {D : va_G} {κ : Nat → ClassId} {b L k n : Nat} {xs : Nat → Int32} (E : ZE X RL cL_law 4 room_1 l D κ) (Sx : ZS X b L xs) (hL : L ≤ 2048) (hk : k ≤ room_1.cells ∧ n ≤ room_1.slots) {i : Int} (hi : 0 ≤ i ∧ i + 4 ≤ (L : Int)) {x0 m0 : Nat} {wx wm : va_W} (I : LI κ x0 m0 wx wm) (kk : ∀ wx1 wm1 : va_W, LI κ x0 m0 wx1 wm1 → Zg X (wx1 ++ wm1) k n 716 [(3, .int (zi i)), (2, .ref m0), (1, .ref x0), (0, .ref b)] []) : Zg X (wx ++ wm) k n 515 [(3, .int (zi i)), (2, .ref m0), (1, .ref x0), (0, .ref b)] [] := by
  obtain ⟨e, h, c, tn, S, PA, pn, hRX, hRM, hst, hhs⟩ := I
  have htx := RX_txt hRX
  obtain ⟨fx, hfx⟩ := RX_0 hRX
  obtain ⟨fm, hfm⟩ := RM_0 hRM
  refine z_aload_n E 2 rfl rfl dL_law_515 ?_
  refine z_lawVi (As := []) (rest := []) E (X_note l D κ x0  e h c tn wx  (zOk_st hst) (zOk_hs hhs) hRX) m_L_67 ⟨Nat.le_of_ble_eq_true rfl, Nat.le_of_ble_eq_true rfl⟩ ⟨rfl, rfl⟩ hfx rfl rfl rfl (Nat.le_of_ble_eq_true rfl) dL_law_516 hk (fun z w1 hq => ?_)
  obtain ⟨e1, h1, hc, hRX1⟩ := hq
  refine z_aload_n E 1 rfl rfl dL_law_519 ?_
  refine z_lawVi (As := []) (rest := [.int (zi z)]) E (M_note l D κ m0  S PA pn c tn wm  hst.2.1 hst.2.2.1 hhs.1 htx hRM) m_L_71 ⟨Nat.le_of_ble_eq_true rfl, Nat.le_of_ble_eq_true rfl⟩ ⟨rfl, rfl⟩ hfm rfl rfl rfl (Nat.le_of_ble_eq_true rfl) dL_law_520 hk (fun z2 w2 hq2 => ?_)
  obtain ⟨S1, PA1, pn1, hm, hRM1⟩ := hq2
  obtain ⟨hz, hst1, hs1⟩ := nt_eq hst hc hm
  rw [hz]
  exact z_ic_same (tgt := 716) E dL_law_523 (by decide) (kk _ _ ⟨e1, h1, c, tn, S1, PA1, pn1, hRX1, hRM1, hst1, hsR_step hhs hst hs1⟩)
set_option maxRecDepth 100000 in
theorem L_strike {X : zX} {l : Launch} {D : va_G} {κ : Nat → ClassId} {b L k n : Nat} {xs : Nat → Int32} (E : ZE X RL cL_law 4 room_1 l D κ) (Sx : ZS X b L xs) (hL : L ≤ 2048) (hk : k ≤ room_1.cells ∧ n ≤ room_1.slots) {i : Int} (hi : 0 ≤ i ∧ i + 4 ≤ (L : Int)) {x0 m0 : Nat} {wx wm : va_W} (I : LI κ x0 m0 wx wm) (kk : ∀ wx1 wm1 : va_W, LI κ x0 m0 wx1 wm1 → Zg X (wx1 ++ wm1) k n 716 [(3, .int (zi i)), (2, .ref m0), (1, .ref x0), (0, .ref b)] []) : Zg X (wx ++ wm) k n 528 [(3, .int (zi i)), (2, .ref m0), (1, .ref x0), (0, .ref b)] [] := by
  obtain ⟨e, h, c, tn, S, PA, pn, hRX, hRM, hst, hhs⟩ := I
  have htx := RX_txt hRX
  obtain ⟨fx, hfx⟩ := RX_0 hRX
  obtain ⟨fm, hfm⟩ := RM_0 hRM
  refine z_aload_n E 2 rfl rfl dL_law_528 ?_
  refine z_aload_n E 3 rfl rfl dL_law_529 ?_
  refine z_iload_n E 0 rfl rfl dL_law_530 ?_
  refine z_iconst E dL_law_531 ?_
  refine z_iadd E dL_law_532 ?_
  refine z_sld E Sx (by omega) (by omega) (by omega) dL_law_533 ?_
  refine z_lawVi (As := [.int (zi (scv xs (i + 1)))]) (rest := []) E (X_strike l D κ x0 (scv xs (i + 1)) e h c tn wx (scv_r xs (i + 1)) (zOk_st hst) (zOk_hs hhs) hRX) m_L_72 ⟨Nat.le_of_ble_eq_true rfl, Nat.le_of_ble_eq_true rfl⟩ ⟨rfl, rfl⟩ hfx rfl rfl rfl (Nat.le_of_ble_eq_true rfl) dL_law_534 hk (fun z w1 hq => ?_)
  obtain ⟨e1, h1, hc, hRX1⟩ := hq
  refine z_aload_n E 1 rfl rfl dL_law_537 ?_
  refine z_aload_n E 3 rfl rfl dL_law_538 ?_
  refine z_iload_n E 0 rfl rfl dL_law_539 ?_
  refine z_iconst E dL_law_540 ?_
  refine z_iadd E dL_law_541 ?_
  refine z_sld E Sx (by omega) (by omega) (by omega) dL_law_542 ?_
  refine z_lawVi (As := [.int (zi (scv xs (i + 1)))]) (rest := [.int (zi z)]) E (M_strike l D κ m0 (scv xs (i + 1)) S PA pn c tn wm (scv_r xs (i + 1)) hst.2.1 hst.2.2.1 hhs.1 htx hRM) m_L_75 ⟨Nat.le_of_ble_eq_true rfl, Nat.le_of_ble_eq_true rfl⟩ ⟨rfl, rfl⟩ hfm rfl rfl rfl (Nat.le_of_ble_eq_true rfl) dL_law_543 hk (fun z2 w2 hq2 => ?_)
  obtain ⟨S1, PA1, pn1, hm, hRM1⟩ := hq2
  obtain ⟨hz, hst1, hs1⟩ := st_eq hst hc hm
  rw [hz]
  exact z_ic_same (tgt := 716) E dL_law_546 (by decide) (kk _ _ ⟨e1, h1, c, tn, S1, PA1, pn1, hRX1, hRM1, hst1, hsR_step hhs hst hs1⟩)
set_option maxRecDepth 100000 in
theorem L_strikeAll {X : zX} {l : Launch} {D : va_G} {κ : Nat → ClassId} {b L k n : Nat} {xs : Nat → Int32} (E : ZE X RL cL_law 4 room_1 l D κ) (Sx : ZS X b L xs) (hL : L ≤ 2048) (hk : k ≤ room_1.cells ∧ n ≤ room_1.slots) {i : Int} (hi : 0 ≤ i ∧ i + 4 ≤ (L : Int)) {x0 m0 : Nat} {wx wm : va_W} (I : LI κ x0 m0 wx wm) (kk : ∀ wx1 wm1 : va_W, LI κ x0 m0 wx1 wm1 → Zg X (wx1 ++ wm1) k n 716 [(3, .int (zi i)), (2, .ref m0), (1, .ref x0), (0, .ref b)] []) : Zg X (wx ++ wm) k n 551 [(3, .int (zi i)), (2, .ref m0), (1, .ref x0), (0, .ref b)] [] := by
  obtain ⟨e, h, c, tn, S, PA, pn, hRX, hRM, hst, hhs⟩ := I
  have htx := RX_txt hRX
  obtain ⟨fx, hfx⟩ := RX_0 hRX
  obtain ⟨fm, hfm⟩ := RM_0 hRM
  refine z_aload_n E 2 rfl rfl dL_law_551 ?_
  refine z_lawVi (As := []) (rest := []) E (X_strikeAll l D κ x0  e h c tn wx  (zOk_st hst) (zOk_hs hhs) hRX) m_L_76 ⟨Nat.le_of_ble_eq_true rfl, Nat.le_of_ble_eq_true rfl⟩ ⟨rfl, rfl⟩ hfx rfl rfl rfl (Nat.le_of_ble_eq_true rfl) dL_law_552 hk (fun z w1 hq => ?_)
  obtain ⟨e1, h1, hc, hRX1⟩ := hq
  refine z_aload_n E 1 rfl rfl dL_law_555 ?_
  refine z_lawVi (As := []) (rest := [.int (zi z)]) E (M_strikeAll l D κ m0  S PA pn c tn wm  hst.2.1 hst.2.2.1 hhs.1 htx hRM) m_L_79 ⟨Nat.le_of_ble_eq_true rfl, Nat.le_of_ble_eq_true rfl⟩ ⟨rfl, rfl⟩ hfm rfl rfl rfl (Nat.le_of_ble_eq_true rfl) dL_law_556 hk (fun z2 w2 hq2 => ?_)
  obtain ⟨PA1, pn1, hm, hRM1⟩ := hq2
  obtain ⟨hz, hst1, hs1⟩ := sa_eq hst hc hm
  rw [hz]
  exact z_ic_same (tgt := 716) E dL_law_559 (by decide) (kk _ _ ⟨e1, h1, c, tn, zu S 3 0, PA1, pn1, hRX1, hRM1, hst1, hsR_step hhs hst hs1⟩)
set_option maxRecDepth 100000 in
theorem L_noteOf {X : zX} {l : Launch} {D : va_G} {κ : Nat → ClassId} {b L k n : Nat} {xs : Nat → Int32} (E : ZE X RL cL_law 4 room_1 l D κ) (Sx : ZS X b L xs) (hL : L ≤ 2048) (hk : k ≤ room_1.cells ∧ n ≤ room_1.slots) {i : Int} (hi : 0 ≤ i ∧ i + 4 ≤ (L : Int)) {x0 m0 : Nat} {wx wm : va_W} (I : LI κ x0 m0 wx wm) (kk : ∀ wx1 wm1 : va_W, LI κ x0 m0 wx1 wm1 → Zg X (wx1 ++ wm1) k n 716 [(3, .int (zi i)), (2, .ref m0), (1, .ref x0), (0, .ref b)] []) : Zg X (wx ++ wm) k n 564 [(3, .int (zi i)), (2, .ref m0), (1, .ref x0), (0, .ref b)] [] := by
  obtain ⟨e, h, c, tn, S, PA, pn, hRX, hRM, hst, hhs⟩ := I
  have htx := RX_txt hRX
  obtain ⟨fx, hfx⟩ := RX_0 hRX
  obtain ⟨fm, hfm⟩ := RM_0 hRM
  refine z_aload_n E 2 rfl rfl dL_law_564 ?_
  refine z_aload_n E 3 rfl rfl dL_law_565 ?_
  refine z_iload_n E 0 rfl rfl dL_law_566 ?_
  refine z_iconst E dL_law_567 ?_
  refine z_iadd E dL_law_568 ?_
  refine z_sld E Sx (by omega) (by omega) (by omega) dL_law_569 ?_
  refine z_aload_n E 3 rfl rfl dL_law_570 ?_
  refine z_iload_n E 0 rfl rfl dL_law_571 ?_
  refine z_iconst E dL_law_572 ?_
  refine z_iadd E dL_law_573 ?_
  refine z_sld E Sx (by omega) (by omega) (by omega) dL_law_574 ?_
  refine z_lawVi (As := [.int (zi (scv xs (i + 1))), .int (zi (scv xs (i + 2)))]) (rest := []) E (X_noteOf l D κ x0 (scv xs (i + 1)) (scv xs (i + 2)) e h c tn wx (scv_r xs (i + 1)) (scv_r xs (i + 2)) (zOk_st hst) (zOk_hs hhs) hRX) m_L_80 ⟨Nat.le_of_ble_eq_true rfl, Nat.le_of_ble_eq_true rfl⟩ ⟨rfl, rfl⟩ hfx rfl rfl rfl (Nat.le_of_ble_eq_true rfl) dL_law_575 hk (fun z w1 hq => ?_)
  obtain ⟨⟨lt, lb, ld, pd, cv, f, U, L1, hx, hc⟩, hRX1⟩ := hq
  refine z_aload_n E 1 rfl rfl dL_law_578 ?_
  refine z_aload_n E 3 rfl rfl dL_law_579 ?_
  refine z_iload_n E 0 rfl rfl dL_law_580 ?_
  refine z_iconst E dL_law_581 ?_
  refine z_iadd E dL_law_582 ?_
  refine z_sld E Sx (by omega) (by omega) (by omega) dL_law_583 ?_
  refine z_aload_n E 3 rfl rfl dL_law_584 ?_
  refine z_iload_n E 0 rfl rfl dL_law_585 ?_
  refine z_iconst E dL_law_586 ?_
  refine z_iadd E dL_law_587 ?_
  refine z_sld E Sx (by omega) (by omega) (by omega) dL_law_588 ?_
  refine z_lawVi (As := [.int (zi (scv xs (i + 1))), .int (zi (scv xs (i + 2)))]) (rest := [.int (zi z)]) E (M_noteOf l D κ m0 (scv xs (i + 1)) (scv xs (i + 2)) S PA pn c tn wm (scv_r xs (i + 1)) (scv_r xs (i + 2)) hst.2.1 hst.2.2.1 hhs.1 htx hRM) m_L_83 ⟨Nat.le_of_ble_eq_true rfl, Nat.le_of_ble_eq_true rfl⟩ ⟨rfl, rfl⟩ hfm rfl rfl rfl (Nat.le_of_ble_eq_true rfl) dL_law_589 hk (fun z2 w2 hq2 => ?_)
  obtain ⟨hm, hRM1⟩ := hq2
  rw [hst.1.1, hst.1.2.1, hst.1.2.2] at hx
  have hz := no_eq hst hx hc hm
  rw [hz]
  exact z_ic_same (tgt := 716) E dL_law_592 (by decide) (kk _ _ ⟨e, h, c, tn, S, PA, pn, hRX1, hRM1, hst, hhs⟩)
set_option maxRecDepth 100000 in
theorem L_count {X : zX} {l : Launch} {D : va_G} {κ : Nat → ClassId} {b L k n : Nat} {xs : Nat → Int32} (E : ZE X RL cL_law 4 room_1 l D κ) (Sx : ZS X b L xs) (hL : L ≤ 2048) (hk : k ≤ room_1.cells ∧ n ≤ room_1.slots) {i : Int} (hi : 0 ≤ i ∧ i + 4 ≤ (L : Int)) {x0 m0 : Nat} {wx wm : va_W} (I : LI κ x0 m0 wx wm) (kk : ∀ wx1 wm1 : va_W, LI κ x0 m0 wx1 wm1 → Zg X (wx1 ++ wm1) k n 716 [(3, .int (zi i)), (2, .ref m0), (1, .ref x0), (0, .ref b)] []) : Zg X (wx ++ wm) k n 597 [(3, .int (zi i)), (2, .ref m0), (1, .ref x0), (0, .ref b)] [] := by
  obtain ⟨e, h, c, tn, S, PA, pn, hRX, hRM, hst, hhs⟩ := I
  have htx := RX_txt hRX
  obtain ⟨fx, hfx⟩ := RX_0 hRX
  obtain ⟨fm, hfm⟩ := RM_0 hRM
  refine z_aload_n E 2 rfl rfl dL_law_597 ?_
  refine z_aload_n E 3 rfl rfl dL_law_598 ?_
  refine z_iload_n E 0 rfl rfl dL_law_599 ?_
  refine z_iconst E dL_law_600 ?_
  refine z_iadd E dL_law_601 ?_
  refine z_sld E Sx (by omega) (by omega) (by omega) dL_law_602 ?_
  refine z_lawVi (As := [.int (zi (scv xs (i + 1)))]) (rest := []) E (X_count l D κ x0 (scv xs (i + 1)) e h c tn wx (scv_r xs (i + 1)) (zOk_st hst) (zOk_hs hhs) hRX) m_L_84 ⟨Nat.le_of_ble_eq_true rfl, Nat.le_of_ble_eq_true rfl⟩ ⟨rfl, rfl⟩ hfx rfl rfl rfl (Nat.le_of_ble_eq_true rfl) dL_law_603 hk (fun z w1 hq => ?_)
  obtain ⟨hc, hRX1⟩ := hq
  refine z_aload_n E 1 rfl rfl dL_law_606 ?_
  refine z_aload_n E 3 rfl rfl dL_law_607 ?_
  refine z_iload_n E 0 rfl rfl dL_law_608 ?_
  refine z_iconst E dL_law_609 ?_
  refine z_iadd E dL_law_610 ?_
  refine z_sld E Sx (by omega) (by omega) (by omega) dL_law_611 ?_
  refine z_lawVi (As := [.int (zi (scv xs (i + 1)))]) (rest := [.int (zi z)]) E (M_count l D κ m0 (scv xs (i + 1)) S PA pn c tn wm (scv_r xs (i + 1)) hst.2.1 hst.2.2.1 hhs.1 htx hRM) m_L_87 ⟨Nat.le_of_ble_eq_true rfl, Nat.le_of_ble_eq_true rfl⟩ ⟨rfl, rfl⟩ hfm rfl rfl rfl (Nat.le_of_ble_eq_true rfl) dL_law_612 hk (fun z2 w2 hq2 => ?_)
  obtain ⟨hm, hRM1⟩ := hq2
  have hz := hc.trans ((ct_eq hst hhs).trans hm.symm)
  rw [hz]
  exact z_ic_same (tgt := 716) E dL_law_615 (by decide) (kk _ _ ⟨e, h, c, tn, S, PA, pn, hRX1, hRM1, hst, hhs⟩)
set_option maxRecDepth 100000 in
theorem L_undo {X : zX} {l : Launch} {D : va_G} {κ : Nat → ClassId} {b L k n : Nat} {xs : Nat → Int32} (E : ZE X RL cL_law 4 room_1 l D κ) (Sx : ZS X b L xs) (hL : L ≤ 2048) (hk : k ≤ room_1.cells ∧ n ≤ room_1.slots) {i : Int} (hi : 0 ≤ i ∧ i + 4 ≤ (L : Int)) {x0 m0 : Nat} {wx wm : va_W} (I : LI κ x0 m0 wx wm) (kk : ∀ wx1 wm1 : va_W, LI κ x0 m0 wx1 wm1 → Zg X (wx1 ++ wm1) k n 716 [(3, .int (zi i)), (2, .ref m0), (1, .ref x0), (0, .ref b)] []) : Zg X (wx ++ wm) k n 620 [(3, .int (zi i)), (2, .ref m0), (1, .ref x0), (0, .ref b)] [] := by
  obtain ⟨e, h, c, tn, S, PA, pn, hRX, hRM, hst, hhs⟩ := I
  have htx := RX_txt hRX
  obtain ⟨fx, hfx⟩ := RX_0 hRX
  obtain ⟨fm, hfm⟩ := RM_0 hRM
  refine z_aload_n E 2 rfl rfl dL_law_620 ?_
  refine z_lawVi (As := []) (rest := []) E (X_undo l D κ x0  e h c tn wx  (zOk_st hst) (zOk_hs hhs) hRX) m_L_88 ⟨Nat.le_of_ble_eq_true rfl, Nat.le_of_ble_eq_true rfl⟩ ⟨rfl, rfl⟩ hfx rfl rfl rfl (Nat.le_of_ble_eq_true rfl) dL_law_621 hk (fun z w1 hq => ?_)
  obtain ⟨e1, h1, hc, hRX1⟩ := hq
  refine z_aload_n E 1 rfl rfl dL_law_624 ?_
  refine z_lawVi (As := []) (rest := [.int (zi z)]) E (M_undo l D κ m0  S PA pn c tn wm  hst.2.1 hst.2.2.1 hhs.1 htx hRM) m_L_91 ⟨Nat.le_of_ble_eq_true rfl, Nat.le_of_ble_eq_true rfl⟩ ⟨rfl, rfl⟩ hfm rfl rfl rfl (Nat.le_of_ble_eq_true rfl) dL_law_625 hk (fun z2 w2 hq2 => ?_)
  obtain ⟨S1, pn1, hm, hRM1⟩ := hq2
  obtain ⟨hz, hst1, hh1⟩ := un_eq hst hhs hc hm
  rw [hz]
  exact z_ic_same (tgt := 716) E dL_law_628 (by decide) (kk _ _ ⟨e1, h1, c, tn, S1, PA, pn1, hRX1, hRM1, hst1, hh1⟩)
set_option maxRecDepth 100000 in
theorem L_type {X : zX} {l : Launch} {D : va_G} {κ : Nat → ClassId} {b L k n : Nat} {xs : Nat → Int32} (E : ZE X RL cL_law 4 room_1 l D κ) (Sx : ZS X b L xs) (hL : L ≤ 2048) (hk : k ≤ room_1.cells ∧ n ≤ room_1.slots) {i : Int} (hi : 0 ≤ i ∧ i + 4 ≤ (L : Int)) {x0 m0 : Nat} {wx wm : va_W} (I : LI κ x0 m0 wx wm) (kk : ∀ wx1 wm1 : va_W, LI κ x0 m0 wx1 wm1 → Zg X (wx1 ++ wm1) k n 716 [(3, .int (zi i)), (2, .ref m0), (1, .ref x0), (0, .ref b)] []) : Zg X (wx ++ wm) k n 633 [(3, .int (zi i)), (2, .ref m0), (1, .ref x0), (0, .ref b)] [] := by
  obtain ⟨e, h, c, tn, S, PA, pn, hRX, hRM, hst, hhs⟩ := I
  have htx := RX_txt hRX
  obtain ⟨fx, hfx⟩ := RX_0 hRX
  obtain ⟨fm, hfm⟩ := RM_0 hRM
  refine z_aload_n E 2 rfl rfl dL_law_633 ?_
  refine z_aload_n E 3 rfl rfl dL_law_634 ?_
  refine z_iload_n E 0 rfl rfl dL_law_635 ?_
  refine z_iconst E dL_law_636 ?_
  refine z_iadd E dL_law_637 ?_
  refine z_sld E Sx (by omega) (by omega) (by omega) dL_law_638 ?_
  refine z_lawVi (As := [.int (zi (scv xs (i + 1)))]) (rest := []) E (X_type l D κ x0 (scv xs (i + 1)) e h c tn wx (scv_r xs (i + 1)) (zOk_st hst) (zOk_hs hhs) hRX) m_L_92 ⟨Nat.le_of_ble_eq_true rfl, Nat.le_of_ble_eq_true rfl⟩ ⟨rfl, rfl⟩ hfx rfl rfl rfl (Nat.le_of_ble_eq_true rfl) dL_law_639 hk (fun z w1 hq => ?_)
  obtain ⟨c1, tn1, hc, hRX1⟩ := hq
  refine z_aload_n E 1 rfl rfl dL_law_642 ?_
  refine z_aload_n E 3 rfl rfl dL_law_643 ?_
  refine z_iload_n E 0 rfl rfl dL_law_644 ?_
  refine z_iconst E dL_law_645 ?_
  refine z_iadd E dL_law_646 ?_
  refine z_sld E Sx (by omega) (by omega) (by omega) dL_law_647 ?_
  refine z_lawVi (As := [.int (zi (scv xs (i + 1)))]) (rest := [.int (zi z)]) E (M_type l D κ m0 (scv xs (i + 1)) S PA pn c tn wm (scv_r xs (i + 1)) hst.2.1 hst.2.2.1 hhs.1 htx hRM) m_L_95 ⟨Nat.le_of_ble_eq_true rfl, Nat.le_of_ble_eq_true rfl⟩ ⟨rfl, rfl⟩ hfm rfl rfl rfl (Nat.le_of_ble_eq_true rfl) dL_law_648 hk (fun z2 w2 hq2 => ?_)
  obtain ⟨c2, tn2, hm, hRM1⟩ := hq2
  obtain ⟨hz, hz1, hz2⟩ := ty_eq hc hm
  rw [← hz1, ← hz2] at hRM1
  rw [hz]
  exact z_ic_same (tgt := 716) E dL_law_651 (by decide) (kk _ _ ⟨e, h, c1, tn1, S, PA, pn, hRX1, hRM1, hst, hhs⟩)
set_option maxRecDepth 100000 in
theorem L_clearText {X : zX} {l : Launch} {D : va_G} {κ : Nat → ClassId} {b L k n : Nat} {xs : Nat → Int32} (E : ZE X RL cL_law 4 room_1 l D κ) (Sx : ZS X b L xs) (hL : L ≤ 2048) (hk : k ≤ room_1.cells ∧ n ≤ room_1.slots) {i : Int} (hi : 0 ≤ i ∧ i + 4 ≤ (L : Int)) {x0 m0 : Nat} {wx wm : va_W} (I : LI κ x0 m0 wx wm) (kk : ∀ wx1 wm1 : va_W, LI κ x0 m0 wx1 wm1 → Zg X (wx1 ++ wm1) k n 716 [(3, .int (zi i)), (2, .ref m0), (1, .ref x0), (0, .ref b)] []) : Zg X (wx ++ wm) k n 656 [(3, .int (zi i)), (2, .ref m0), (1, .ref x0), (0, .ref b)] [] := by
  obtain ⟨e, h, c, tn, S, PA, pn, hRX, hRM, hst, hhs⟩ := I
  have htx := RX_txt hRX
  obtain ⟨fx, hfx⟩ := RX_0 hRX
  obtain ⟨fm, hfm⟩ := RM_0 hRM
  refine z_aload_n E 2 rfl rfl dL_law_656 ?_
  refine z_lawVi (As := []) (rest := []) E (X_clearText l D κ x0  e h c tn wx  (zOk_st hst) (zOk_hs hhs) hRX) m_L_96 ⟨Nat.le_of_ble_eq_true rfl, Nat.le_of_ble_eq_true rfl⟩ ⟨rfl, rfl⟩ hfx rfl rfl rfl (Nat.le_of_ble_eq_true rfl) dL_law_657 hk (fun z w1 hq => ?_)
  obtain ⟨hc, hRX1⟩ := hq
  refine z_aload_n E 1 rfl rfl dL_law_660 ?_
  refine z_lawVi (As := []) (rest := [.int (zi z)]) E (M_clearText l D κ m0  S PA pn c tn wm  hst.2.1 hst.2.2.1 hhs.1 htx hRM) m_L_99 ⟨Nat.le_of_ble_eq_true rfl, Nat.le_of_ble_eq_true rfl⟩ ⟨rfl, rfl⟩ hfm rfl rfl rfl (Nat.le_of_ble_eq_true rfl) dL_law_661 hk (fun z2 w2 hq2 => ?_)
  obtain ⟨hm, hRM1⟩ := hq2
  have hz := hc.trans hm.symm
  rw [hz]
  exact z_ic_same (tgt := 716) E dL_law_664 (by decide) (kk _ _ ⟨e, h, c, 0, S, PA, pn, hRX1, hRM1, hst, hhs⟩)
set_option maxRecDepth 100000 in
theorem L_fault {X : zX} {l : Launch} {D : va_G} {κ : Nat → ClassId} {b L k n : Nat} {xs : Nat → Int32} (E : ZE X RL cL_law 4 room_1 l D κ) (Sx : ZS X b L xs) (hL : L ≤ 2048) (hk : k ≤ room_1.cells ∧ n ≤ room_1.slots) {i : Int} (hi : 0 ≤ i ∧ i + 4 ≤ (L : Int)) {x0 m0 : Nat} {wx wm : va_W} (I : LI κ x0 m0 wx wm) (kk : ∀ wx1 wm1 : va_W, LI κ x0 m0 wx1 wm1 → Zg X (wx1 ++ wm1) k n 716 [(3, .int (zi i)), (2, .ref m0), (1, .ref x0), (0, .ref b)] []) : Zg X (wx ++ wm) k n 669 [(3, .int (zi i)), (2, .ref m0), (1, .ref x0), (0, .ref b)] [] := by
  obtain ⟨e, h, c, tn, S, PA, pn, hRX, hRM, hst, hhs⟩ := I
  have htx := RX_txt hRX
  obtain ⟨fx, hfx⟩ := RX_0 hRX
  obtain ⟨fm, hfm⟩ := RM_0 hRM
  refine z_aload_n E 2 rfl rfl dL_law_669 ?_
  refine z_aload_n E 3 rfl rfl dL_law_670 ?_
  refine z_iload_n E 0 rfl rfl dL_law_671 ?_
  refine z_iconst E dL_law_672 ?_
  refine z_iadd E dL_law_673 ?_
  refine z_sld E Sx (by omega) (by omega) (by omega) dL_law_674 ?_
  refine z_lawVi (As := [.int (zi (scv xs (i + 1)))]) (rest := []) E (X_fault l D κ x0 (scv xs (i + 1)) e h c tn wx (scv_r xs (i + 1)) (zOk_st hst) (zOk_hs hhs) hRX) m_L_100 ⟨Nat.le_of_ble_eq_true rfl, Nat.le_of_ble_eq_true rfl⟩ ⟨rfl, rfl⟩ hfx rfl rfl rfl (Nat.le_of_ble_eq_true rfl) dL_law_675 hk (fun z w1 hq => ?_)
  obtain ⟨hc, hRX1⟩ := hq
  refine z_aload_n E 1 rfl rfl dL_law_678 ?_
  refine z_aload_n E 3 rfl rfl dL_law_679 ?_
  refine z_iload_n E 0 rfl rfl dL_law_680 ?_
  refine z_iconst E dL_law_681 ?_
  refine z_iadd E dL_law_682 ?_
  refine z_sld E Sx (by omega) (by omega) (by omega) dL_law_683 ?_
  refine z_lawVi (As := [.int (zi (scv xs (i + 1)))]) (rest := [.int (zi z)]) E (M_fault l D κ m0 (scv xs (i + 1)) S PA pn c tn wm (scv_r xs (i + 1)) hst.2.1 hst.2.2.1 hhs.1 htx hRM) m_L_103 ⟨Nat.le_of_ble_eq_true rfl, Nat.le_of_ble_eq_true rfl⟩ ⟨rfl, rfl⟩ hfm rfl rfl rfl (Nat.le_of_ble_eq_true rfl) dL_law_684 hk (fun z2 w2 hq2 => ?_)
  obtain ⟨hm, hRM1⟩ := hq2
  have hz := ft_eq hc hm
  rw [hz]
  exact z_ic_same (tgt := 716) E dL_law_687 (by decide) (kk _ _ ⟨e, h, c, tn, S, PA, pn, hRX1, hRM1, hst, hhs⟩)
set_option maxRecDepth 100000 in
theorem L_told {X : zX} {l : Launch} {D : va_G} {κ : Nat → ClassId} {b L k n : Nat} {xs : Nat → Int32} (E : ZE X RL cL_law 4 room_1 l D κ) (Sx : ZS X b L xs) (hL : L ≤ 2048) (hk : k ≤ room_1.cells ∧ n ≤ room_1.slots) {i : Int} (hi : 0 ≤ i ∧ i + 4 ≤ (L : Int)) {x0 m0 : Nat} {wx wm : va_W} (I : LI κ x0 m0 wx wm) (kk : ∀ wx1 wm1 : va_W, LI κ x0 m0 wx1 wm1 → Zg X (wx1 ++ wm1) k n 716 [(3, .int (zi i)), (2, .ref m0), (1, .ref x0), (0, .ref b)] []) : Zg X (wx ++ wm) k n 692 [(3, .int (zi i)), (2, .ref m0), (1, .ref x0), (0, .ref b)] [] := by
  obtain ⟨e, h, c, tn, S, PA, pn, hRX, hRM, hst, hhs⟩ := I
  have htx := RX_txt hRX
  obtain ⟨fx, hfx⟩ := RX_0 hRX
  obtain ⟨fm, hfm⟩ := RM_0 hRM
  refine z_aload_n E 2 rfl rfl dL_law_692 ?_
  refine z_aload_n E 3 rfl rfl dL_law_693 ?_
  refine z_iload_n E 0 rfl rfl dL_law_694 ?_
  refine z_iconst E dL_law_695 ?_
  refine z_iadd E dL_law_696 ?_
  refine z_sld E Sx (by omega) (by omega) (by omega) dL_law_697 ?_
  refine z_lawVl (As := [.int (zi (scv xs (i + 1)))]) (rest := []) E (X_told l D κ x0 (scv xs (i + 1)) e h c tn wx (scv_r xs (i + 1)) (zOk_st hst) (zOk_hs hhs) hRX) m_L_104 ⟨Nat.le_of_ble_eq_true rfl, Nat.le_of_ble_eq_true rfl⟩ ⟨rfl, rfl⟩ hfx rfl rfl rfl (Nat.le_of_ble_eq_true rfl) dL_law_698 hk (fun z w1 hq => ?_)
  obtain ⟨⟨lt, lb, ld, pd, cv, f, U, L1, hx, hc⟩, hRX1⟩ := hq
  refine z_aload_n E 1 rfl rfl dL_law_701 ?_
  refine z_aload_n E 3 rfl rfl dL_law_702 ?_
  refine z_iload_n E 0 rfl rfl dL_law_703 ?_
  refine z_iconst E dL_law_704 ?_
  refine z_iadd E dL_law_705 ?_
  refine z_sld E Sx (by omega) (by omega) (by omega) dL_law_706 ?_
  refine z_lawVl (As := [.int (zi (scv xs (i + 1)))]) (rest := [.long (zl z)]) E (M_told l D κ m0 (scv xs (i + 1)) S PA pn c tn wm (scv_r xs (i + 1)) hst.2.1 hst.2.2.1 hhs.1 htx hRM) m_L_107 ⟨Nat.le_of_ble_eq_true rfl, Nat.le_of_ble_eq_true rfl⟩ ⟨rfl, rfl⟩ hfm rfl rfl rfl (Nat.le_of_ble_eq_true rfl) dL_law_707 hk (fun z2 w2 hq2 => ?_)
  obtain ⟨hm, hRM1⟩ := hq2
  rw [hst.1.1, hst.1.2.1, hst.1.2.2] at hx
  rw [hst.1.1, hst.1.2.1, hst.1.2.2] at hc
  have hz := td_eq htx.1.2 hx.2.1 hc hm
  rw [hz]
  exact z_lc_same (tgt := 716) E dL_law_710 dL_law_711 (by decide) (kk _ _ ⟨e, h, c, tn, S, PA, pn, hRX1, hRM1, hst, hhs⟩)
