/-! ===== the operations of the law ===== -/
theorem lw_make {Γ : apC} {b L0 : Nat} {xs : Nat → Int32} (LG : lwG Γ b L0 xs) {q q2 : Nat → Nat} {σC σM : apM} (h : qIN σC σM) {i cn sn : Nat} (hi : i + 4 ≤ L0) (hc : cn + 4 ≤ 600384 ∧ sn + 24 ≤ 7290858) (K : lwK Γ b q q2 i cn sn) : apV Γ 7 (lwW q q2 (apd Γ) σC σM) cn sn 112 (lwL b q q2 i) [] := by
  have G := LG.1
  obtain ⟨rC, rM, e1, e2, ha⟩ := q_make h (xs (i + 1)) (xs (i + 2)) (xs (i + 3))
  obtain ⟨r, σ', h1, h2, h3, h4⟩ := hp_of ha (by decide)
  refine v_aload_n G dL_law_112 rfl 1 rfl ?_
  refine v_arg LG (i := i) (k := 1) (by omega) (by decide) 0 4 rfl rfl dL_law_113 dL_law_114 dL_law_116 dL_law_117 dL_law_118 ?_
  refine v_arg LG (i := i) (k := 2) (by omega) (by decide) 0 4 rfl rfl dL_law_119 dL_law_120 dL_law_122 dL_law_123 dL_law_124 ?_
  refine v_arg LG (i := i) (k := 3) (by omega) (by decide) 0 4 rfl rfl dL_law_125 dL_law_126 dL_law_128 dL_law_129 dL_law_130 ?_
  refine v_aload_n G dL_law_131 rfl 3 rfl ?_
  refine v_lwH LG (As := [.ref (q 0), .int (xs (i + 1)), .int (xs (i + 2)), .int (xs (i + 3)), .ref (q 28)]) (st := []) (n := 5) (k_L_make Γ.1.2.1 LG.2.1 e1 h1) gL_law_L_make rfl (by decide +kernel) (by decide) rfl rfl (by decide) (by omega) rfl dL_law_132 ?_
  refine v_istore (L' := [(5, .int r), (0, .ref b), (1, .ref (q 0)), (2, .ref (q2 0)), (3, .ref (q 28)), (4, .int (nI i))]) G dL_law_135 (by decide) rfl ?_
  refine v_aload_n G dL_law_137 rfl 3 rfl ?_
  refine v_arg LG (i := i) (k := 1) (by omega) (by decide) 1 5 rfl rfl dL_law_138 dL_law_139 dL_law_141 dL_law_142 dL_law_143 ?_
  refine v_arg LG (i := i) (k := 2) (by omega) (by decide) 1 5 rfl rfl dL_law_144 dL_law_145 dL_law_147 dL_law_148 dL_law_149 ?_
  refine v_arg LG (i := i) (k := 3) (by omega) (by decide) 1 5 rfl rfl dL_law_150 dL_law_151 dL_law_153 dL_law_154 dL_law_155 ?_
  refine v_lwM LG (As := [.int (xs (i + 1)), .int (xs (i + 2)), .int (xs (i + 3))]) (st := []) (n := 3) (c_X7_make Γ.1.2.1 e2) gL_law_X7_make rfl (by decide +kernel) (by decide) rfl rfl (by decide) (by omega) rfl dL_law_156 ?_
  refine v_istore (L' := [(6, .int rM.1), (5, .int r), (0, .ref b), (1, .ref (q 0)), (2, .ref (q2 0)), (3, .ref (q 28)), (4, .int (nI i))]) G dL_law_159 (by decide) rfl ?_
  refine v_aload_n G dL_law_161 rfl 4 rfl ?_
  refine v_lwM LG (As := []) (st := []) (n := 0) (c_X7_thrown Γ.1.2.1 (r := r) h2) gL_law_X7_thrown rfl (by decide +kernel) (by decide) rfl rfl (by decide) (by omega) rfl dL_law_162 ?_
  refine v_iload G dL_law_165 1 rfl ?_
  refine v_icmp_eq (tgt := 172) G dL_law_167 (by decide) (fun _ => ?_) (fun c => absurd rfl c)
  refine v_iload G dL_law_172 1 rfl ?_
  refine v_if_ne (tgt := 189) G dL_law_174 (by decide) (fun _ => ?_) (fun hr0 => ?_)
  · refine v_goto (tgt := 904) G dL_law_189 (by decide) ?_
    refine v_locs (L' := lwL b q q2 i) [2, 3, 4, 5, 6] rfl ?_
    exact K _ _ _ _ h3 (by omega) (by omega)
  · refine v_aload_n G dL_law_177 rfl 5 rfl ?_
    refine v_iconst (v := 0) G dL_law_178 (by decide) ?_
    refine v_lald (i0 := 49) (n := 1) (v := rM.1.toInt64) G lwW_o vp_in01 (by show (σ' 28 0).toInt64 = _; rw [h4 hr0]) dL_law_179 ?_
    refine v_iload G dL_law_180 0 rfl ?_
    refine v_i2l G dL_law_182 ?_
    refine v_lcmpE G dL_law_183 ?_
    refine v_if_eq (tgt := 189) G dL_law_184 (by decide) (fun _ => ?_) (fun c => absurd rfl c)
    refine v_goto (tgt := 904) G dL_law_189 (by decide) ?_
    refine v_locs (L' := lwL b q q2 i) [2, 3, 4, 5, 6] rfl ?_
    exact K _ _ _ _ h3 (by omega) (by omega)
theorem lw_give {Γ : apC} {b L0 : Nat} {xs : Nat → Int32} (LG : lwG Γ b L0 xs) {q q2 : Nat → Nat} {σC σM : apM} (h : qIN σC σM) {i cn sn : Nat} (hi : i + 4 ≤ L0) (hc : cn + 4 ≤ 600384 ∧ sn + 24 ≤ 7290858) (K : lwK Γ b q q2 i cn sn) : apV Γ 7 (lwW q q2 (apd Γ) σC σM) cn sn 192 (lwL b q q2 i) [] := by
  have G := LG.1
  obtain ⟨rC, rM, e1, e2, h2, h3⟩ := q_give h (xs (i + 1)) (xs (i + 2)) (xs (i + 3))
  refine v_aload_n G dL_law_192 rfl 1 rfl ?_
  refine v_arg LG (i := i) (k := 1) (by omega) (by decide) 0 4 rfl rfl dL_law_193 dL_law_194 dL_law_196 dL_law_197 dL_law_198 ?_
  refine v_arg LG (i := i) (k := 2) (by omega) (by decide) 0 4 rfl rfl dL_law_199 dL_law_200 dL_law_202 dL_law_203 dL_law_204 ?_
  refine v_arg LG (i := i) (k := 3) (by omega) (by decide) 0 4 rfl rfl dL_law_205 dL_law_206 dL_law_208 dL_law_209 dL_law_210 ?_
  refine v_lwC LG (As := [.int (xs (i + 1)), .int (xs (i + 2)), .int (xs (i + 3))]) (st := []) (n := 3) (c_X6_give Γ.1.2.1 e1) gL_law_X6_give rfl (by decide +kernel) (by decide) rfl rfl (by decide) (by omega) rfl dL_law_211 ?_
  refine v_aload_n G dL_law_214 rfl 2 rfl ?_
  refine v_arg LG (i := i) (k := 1) (by omega) (by decide) 0 4 rfl rfl dL_law_215 dL_law_216 dL_law_218 dL_law_219 dL_law_220 ?_
  refine v_arg LG (i := i) (k := 2) (by omega) (by decide) 0 4 rfl rfl dL_law_221 dL_law_222 dL_law_224 dL_law_225 dL_law_226 ?_
  refine v_arg LG (i := i) (k := 3) (by omega) (by decide) 0 4 rfl rfl dL_law_227 dL_law_228 dL_law_230 dL_law_231 dL_law_232 ?_
  refine v_lwM LG (As := [.int (xs (i + 1)), .int (xs (i + 2)), .int (xs (i + 3))]) (st := [.int (rC.1)]) (n := 3) (c_X7_give Γ.1.2.1 e2) gL_law_X7_give rfl (by decide +kernel) (by decide) rfl rfl (Nat.le_of_ble_eq_true rfl) (by omega) rfl dL_law_233 ?_
  refine v_icmp_eq (tgt := 904) G dL_law_236 (by decide) (fun _ => ?_) (fun c => absurd h2 c)
  exact K _ _ _ _ h3 (by omega) (by omega)
theorem lw_wire {Γ : apC} {b L0 : Nat} {xs : Nat → Int32} (LG : lwG Γ b L0 xs) {q q2 : Nat → Nat} {σC σM : apM} (h : qIN σC σM) {i cn sn : Nat} (hi : i + 4 ≤ L0) (hc : cn + 4 ≤ 600384 ∧ sn + 24 ≤ 7290858) (K : lwK Γ b q q2 i cn sn) : apV Γ 7 (lwW q q2 (apd Γ) σC σM) cn sn 241 (lwL b q q2 i) [] := by
  have G := LG.1
  obtain ⟨rC, rM, e1, e2, h2, h3⟩ := q_wire h (xs (i + 1)) (xs (i + 2)) (xs (i + 3))
  refine v_aload_n G dL_law_241 rfl 1 rfl ?_
  refine v_arg LG (i := i) (k := 1) (by omega) (by decide) 0 4 rfl rfl dL_law_242 dL_law_243 dL_law_245 dL_law_246 dL_law_247 ?_
  refine v_arg LG (i := i) (k := 2) (by omega) (by decide) 0 4 rfl rfl dL_law_248 dL_law_249 dL_law_251 dL_law_252 dL_law_253 ?_
  refine v_arg LG (i := i) (k := 3) (by omega) (by decide) 0 4 rfl rfl dL_law_254 dL_law_255 dL_law_257 dL_law_258 dL_law_259 ?_
  refine v_lwC LG (As := [.int (xs (i + 1)), .int (xs (i + 2)), .int (xs (i + 3))]) (st := []) (n := 3) (c_X6_wire Γ.1.2.1 e1) gL_law_X6_wire rfl (by decide +kernel) (by decide) rfl rfl (by decide) (by omega) rfl dL_law_260 ?_
  refine v_aload_n G dL_law_263 rfl 2 rfl ?_
  refine v_arg LG (i := i) (k := 1) (by omega) (by decide) 0 4 rfl rfl dL_law_264 dL_law_265 dL_law_267 dL_law_268 dL_law_269 ?_
  refine v_arg LG (i := i) (k := 2) (by omega) (by decide) 0 4 rfl rfl dL_law_270 dL_law_271 dL_law_273 dL_law_274 dL_law_275 ?_
  refine v_arg LG (i := i) (k := 3) (by omega) (by decide) 0 4 rfl rfl dL_law_276 dL_law_277 dL_law_279 dL_law_280 dL_law_281 ?_
  refine v_lwM LG (As := [.int (xs (i + 1)), .int (xs (i + 2)), .int (xs (i + 3))]) (st := [.int (rC.1)]) (n := 3) (c_X7_wire Γ.1.2.1 e2) gL_law_X7_wire rfl (by decide +kernel) (by decide) rfl rfl (Nat.le_of_ble_eq_true rfl) (by omega) rfl dL_law_282 ?_
  refine v_icmp_eq (tgt := 904) G dL_law_285 (by decide) (fun _ => ?_) (fun c => absurd h2 c)
  exact K _ _ _ _ h3 (by omega) (by omega)
theorem lw_keep {Γ : apC} {b L0 : Nat} {xs : Nat → Int32} (LG : lwG Γ b L0 xs) {q q2 : Nat → Nat} {σC σM : apM} (h : qIN σC σM) {i cn sn : Nat} (hi : i + 4 ≤ L0) (hc : cn + 4 ≤ 600384 ∧ sn + 24 ≤ 7290858) (K : lwK Γ b q q2 i cn sn) : apV Γ 7 (lwW q q2 (apd Γ) σC σM) cn sn 290 (lwL b q q2 i) [] := by
  have G := LG.1
  by_cases h0 : xs (i + 2) = 0
  · obtain ⟨rC, rM, e1, e2, h2, h3⟩ := q_keep h (xs (i + 1)) false
    refine v_aload_n G dL_law_290 rfl 1 rfl ?_
    refine v_arg LG (i := i) (k := 1) (by omega) (by decide) 0 4 rfl rfl dL_law_291 dL_law_292 dL_law_294 dL_law_295 dL_law_296 ?_
    refine v_arg LG (i := i) (k := 2) (by omega) (by decide) 0 4 rfl rfl dL_law_297 dL_law_298 dL_law_300 dL_law_301 dL_law_302 ?_
    refine v_if_eq (tgt := 310) G dL_law_303 (by decide) (fun _ => ?_) (fun c => absurd h0 c)
    refine v_iconst (v := bI false) G dL_law_310 (by decide) ?_
    refine v_lwC LG (As := [.int (xs (i + 1)), .int (bI false)]) (st := []) (n := 2) (c_X6_keep Γ.1.2.1 e1) gL_law_X6_keep rfl (by decide +kernel) (by decide) rfl rfl (by decide) (by omega) rfl dL_law_311 ?_
    refine v_aload_n G dL_law_314 rfl 2 rfl ?_
    refine v_arg LG (i := i) (k := 1) (by omega) (by decide) 0 4 rfl rfl dL_law_315 dL_law_316 dL_law_318 dL_law_319 dL_law_320 ?_
    refine v_arg LG (i := i) (k := 2) (by omega) (by decide) 0 4 rfl rfl dL_law_321 dL_law_322 dL_law_324 dL_law_325 dL_law_326 ?_
    refine v_if_eq (tgt := 334) G dL_law_327 (by decide) (fun _ => ?_) (fun c => absurd h0 c)
    refine v_iconst (v := bI false) G dL_law_334 (by decide) ?_
    refine v_lwM LG (As := [.int (xs (i + 1)), .int (bI false)]) (st := [.int rC.1]) (n := 2) (c_X7_keep Γ.1.2.1 e2) gL_law_X7_keep rfl (by decide +kernel) (by decide) rfl rfl (Nat.le_of_ble_eq_true rfl) (by omega) rfl dL_law_335 ?_
    refine v_icmp_eq (tgt := 904) G dL_law_338 (by decide) (fun _ => ?_) (fun c => absurd h2 c)
    exact K _ _ _ _ h3 (by omega) (by omega)
  · obtain ⟨rC, rM, e1, e2, h2, h3⟩ := q_keep h (xs (i + 1)) true
    refine v_aload_n G dL_law_290 rfl 1 rfl ?_
    refine v_arg LG (i := i) (k := 1) (by omega) (by decide) 0 4 rfl rfl dL_law_291 dL_law_292 dL_law_294 dL_law_295 dL_law_296 ?_
    refine v_arg LG (i := i) (k := 2) (by omega) (by decide) 0 4 rfl rfl dL_law_297 dL_law_298 dL_law_300 dL_law_301 dL_law_302 ?_
    refine v_if_eq (tgt := 310) G dL_law_303 (by decide) (fun c => absurd c h0) (fun _ => ?_)
    refine v_iconst (v := bI true) G dL_law_306 (by decide) ?_
    refine v_goto (tgt := 311) G dL_law_307 (by decide) ?_
    refine v_lwC LG (As := [.int (xs (i + 1)), .int (bI true)]) (st := []) (n := 2) (c_X6_keep Γ.1.2.1 e1) gL_law_X6_keep rfl (by decide +kernel) (by decide) rfl rfl (by decide) (by omega) rfl dL_law_311 ?_
    refine v_aload_n G dL_law_314 rfl 2 rfl ?_
    refine v_arg LG (i := i) (k := 1) (by omega) (by decide) 0 4 rfl rfl dL_law_315 dL_law_316 dL_law_318 dL_law_319 dL_law_320 ?_
    refine v_arg LG (i := i) (k := 2) (by omega) (by decide) 0 4 rfl rfl dL_law_321 dL_law_322 dL_law_324 dL_law_325 dL_law_326 ?_
    refine v_if_eq (tgt := 334) G dL_law_327 (by decide) (fun c => absurd c h0) (fun _ => ?_)
    refine v_iconst (v := bI true) G dL_law_330 (by decide) ?_
    refine v_goto (tgt := 335) G dL_law_331 (by decide) ?_
    refine v_lwM LG (As := [.int (xs (i + 1)), .int (bI true)]) (st := [.int rC.1]) (n := 2) (c_X7_keep Γ.1.2.1 e2) gL_law_X7_keep rfl (by decide +kernel) (by decide) rfl rfl (Nat.le_of_ble_eq_true rfl) (by omega) rfl dL_law_335 ?_
    refine v_icmp_eq (tgt := 904) G dL_law_338 (by decide) (fun _ => ?_) (fun c => absurd h2 c)
    exact K _ _ _ _ h3 (by omega) (by omega)
theorem lw_nodes {Γ : apC} {b L0 : Nat} {xs : Nat → Int32} (LG : lwG Γ b L0 xs) {q q2 : Nat → Nat} {σC σM : apM} (h : qIN σC σM) {i cn sn : Nat} (hi : i + 4 ≤ L0) (hc : cn + 4 ≤ 600384 ∧ sn + 24 ≤ 7290858) (K : lwK Γ b q q2 i cn sn) : apV Γ 7 (lwW q q2 (apd Γ) σC σM) cn sn 343 (lwL b q q2 i) [] := by
  have G := LG.1
  obtain ⟨h2, h3⟩ := q_nodes h
  refine v_aload_n G dL_law_343 rfl 1 rfl ?_
  refine v_lwC LG (As := []) (st := []) (n := 0) (c_X6_nodes Γ.1.2.1 (r := m_X6_nodes σC) rfl) gL_law_X6_nodes rfl (by decide +kernel) (by decide) rfl rfl (by decide) (by omega) rfl dL_law_344 ?_
  refine v_aload_n G dL_law_347 rfl 2 rfl ?_
  refine v_lwM LG (As := []) (st := [.int (m_X6_nodes σC)]) (n := 0) (c_X7_nodes Γ.1.2.1 (r := m_X7_nodes σM) rfl) gL_law_X7_nodes rfl (by decide +kernel) (by decide) rfl rfl (Nat.le_of_ble_eq_true rfl) (by omega) rfl dL_law_348 ?_
  refine v_icmp_eq (tgt := 904) G dL_law_351 (by decide) (fun _ => ?_) (fun c => absurd h2 c)
  exact K _ _ _ _ h3 (by omega) (by omega)
theorem lw_ring {Γ : apC} {b L0 : Nat} {xs : Nat → Int32} (LG : lwG Γ b L0 xs) {q q2 : Nat → Nat} {σC σM : apM} (h : qIN σC σM) {i cn sn : Nat} (hi : i + 4 ≤ L0) (hc : cn + 4 ≤ 600384 ∧ sn + 24 ≤ 7290858) (K : lwK Γ b q q2 i cn sn) : apV Γ 7 (lwW q q2 (apd Γ) σC σM) cn sn 356 (lwL b q q2 i) [] := by
  have G := LG.1
  obtain ⟨rC, rM, e1, e2, ha⟩ := q_ring h (xs (i + 1))
  obtain ⟨r, σ', h1, h2, h3, h4⟩ := hp_of ha (by decide)
  refine v_aload_n G dL_law_356 rfl 1 rfl ?_
  refine v_arg LG (i := i) (k := 1) (by omega) (by decide) 0 4 rfl rfl dL_law_357 dL_law_358 dL_law_360 dL_law_361 dL_law_362 ?_
  refine v_aload_n G dL_law_363 rfl 3 rfl ?_
  refine v_lwH LG (As := [.ref (q 0), .int (xs (i + 1)), .ref (q 28)]) (st := []) (n := 3) (k_L_ring Γ.1.2.1 LG.2.1 e1 h1) gL_law_L_ring rfl (by decide +kernel) (by decide) rfl rfl (by decide) (by omega) rfl dL_law_364 ?_
  refine v_istore (L' := [(5, .int r), (0, .ref b), (1, .ref (q 0)), (2, .ref (q2 0)), (3, .ref (q 28)), (4, .int (nI i))]) G dL_law_367 (by decide) rfl ?_
  refine v_aload_n G dL_law_369 rfl 3 rfl ?_
  refine v_arg LG (i := i) (k := 1) (by omega) (by decide) 1 5 rfl rfl dL_law_370 dL_law_371 dL_law_373 dL_law_374 dL_law_375 ?_
  refine v_lwM LG (As := [.int (xs (i + 1))]) (st := []) (n := 1) (c_X7_ring Γ.1.2.1 e2) gL_law_X7_ring rfl (by decide +kernel) (by decide) rfl rfl (by decide) (by omega) rfl dL_law_376 ?_
  refine v_istore (L' := [(6, .int rM.1), (5, .int r), (0, .ref b), (1, .ref (q 0)), (2, .ref (q2 0)), (3, .ref (q 28)), (4, .int (nI i))]) G dL_law_379 (by decide) rfl ?_
  refine v_aload_n G dL_law_381 rfl 4 rfl ?_
  refine v_lwM LG (As := []) (st := []) (n := 0) (c_X7_thrown Γ.1.2.1 (r := r) h2) gL_law_X7_thrown rfl (by decide +kernel) (by decide) rfl rfl (by decide) (by omega) rfl dL_law_382 ?_
  refine v_iload G dL_law_385 1 rfl ?_
  refine v_icmp_eq (tgt := 392) G dL_law_387 (by decide) (fun _ => ?_) (fun c => absurd rfl c)
  refine v_iload G dL_law_392 1 rfl ?_
  refine v_if_ne (tgt := 409) G dL_law_394 (by decide) (fun _ => ?_) (fun hr0 => ?_)
  · refine v_goto (tgt := 904) G dL_law_409 (by decide) ?_
    refine v_locs (L' := lwL b q q2 i) [2, 3, 4, 5, 6] rfl ?_
    exact K _ _ _ _ h3 (by omega) (by omega)
  · refine v_aload_n G dL_law_397 rfl 5 rfl ?_
    refine v_iconst (v := 0) G dL_law_398 (by decide) ?_
    refine v_lald (i0 := 49) (n := 1) (v := rM.1.toInt64) G lwW_o vp_in01 (by show (σ' 28 0).toInt64 = _; rw [h4 hr0]) dL_law_399 ?_
    refine v_iload G dL_law_400 0 rfl ?_
    refine v_i2l G dL_law_402 ?_
    refine v_lcmpE G dL_law_403 ?_
    refine v_if_eq (tgt := 409) G dL_law_404 (by decide) (fun _ => ?_) (fun c => absurd rfl c)
    refine v_goto (tgt := 904) G dL_law_409 (by decide) ?_
    refine v_locs (L' := lwL b q q2 i) [2, 3, 4, 5, 6] rfl ?_
    exact K _ _ _ _ h3 (by omega) (by omega)
theorem lw_plan {Γ : apC} {b L0 : Nat} {xs : Nat → Int32} (LG : lwG Γ b L0 xs) {q q2 : Nat → Nat} {σC σM : apM} (h : qIN σC σM) {i cn sn : Nat} (hi : i + 4 ≤ L0) (hc : cn + 4 ≤ 600384 ∧ sn + 24 ≤ 7290858) (K : lwK Γ b q q2 i cn sn) : apV Γ 7 (lwW q q2 (apd Γ) σC σM) cn sn 412 (lwL b q q2 i) [] := by
  have G := LG.1
  obtain ⟨rC, rM, e1, e2, ha⟩ := q_plan h (xs (i + 1))
  obtain ⟨r, σ', h1, h2, h3, h4⟩ := hp_of ha (by decide)
  refine v_aload_n G dL_law_412 rfl 1 rfl ?_
  refine v_arg LG (i := i) (k := 1) (by omega) (by decide) 0 4 rfl rfl dL_law_413 dL_law_414 dL_law_416 dL_law_417 dL_law_418 ?_
  refine v_aload_n G dL_law_419 rfl 3 rfl ?_
  refine v_lwH LG (As := [.ref (q 0), .int (xs (i + 1)), .ref (q 28)]) (st := []) (n := 3) (k_L_plan Γ.1.2.1 LG.2.1 e1 h1) gL_law_L_plan rfl (by decide +kernel) (by decide) rfl rfl (by decide) (by omega) rfl dL_law_420 ?_
  refine v_istore (L' := [(5, .int r), (0, .ref b), (1, .ref (q 0)), (2, .ref (q2 0)), (3, .ref (q 28)), (4, .int (nI i))]) G dL_law_423 (by decide) rfl ?_
  refine v_aload_n G dL_law_425 rfl 3 rfl ?_
  refine v_arg LG (i := i) (k := 1) (by omega) (by decide) 1 5 rfl rfl dL_law_426 dL_law_427 dL_law_429 dL_law_430 dL_law_431 ?_
  refine v_lwM LG (As := [.int (xs (i + 1))]) (st := []) (n := 1) (c_X7_plan Γ.1.2.1 e2) gL_law_X7_plan rfl (by decide +kernel) (by decide) rfl rfl (by decide) (by omega) rfl dL_law_432 ?_
  refine v_istore (L' := [(6, .int rM.1), (5, .int r), (0, .ref b), (1, .ref (q 0)), (2, .ref (q2 0)), (3, .ref (q 28)), (4, .int (nI i))]) G dL_law_435 (by decide) rfl ?_
  refine v_aload_n G dL_law_437 rfl 4 rfl ?_
  refine v_lwM LG (As := []) (st := []) (n := 0) (c_X7_thrown Γ.1.2.1 (r := r) h2) gL_law_X7_thrown rfl (by decide +kernel) (by decide) rfl rfl (by decide) (by omega) rfl dL_law_438 ?_
  refine v_iload G dL_law_441 1 rfl ?_
  refine v_icmp_eq (tgt := 448) G dL_law_443 (by decide) (fun _ => ?_) (fun c => absurd rfl c)
  refine v_iload G dL_law_448 1 rfl ?_
  refine v_if_ne (tgt := 465) G dL_law_450 (by decide) (fun _ => ?_) (fun hr0 => ?_)
  · refine v_goto (tgt := 904) G dL_law_465 (by decide) ?_
    refine v_locs (L' := lwL b q q2 i) [2, 3, 4, 5, 6] rfl ?_
    exact K _ _ _ _ h3 (by omega) (by omega)
  · refine v_aload_n G dL_law_453 rfl 5 rfl ?_
    refine v_iconst (v := 0) G dL_law_454 (by decide) ?_
    refine v_lald (i0 := 49) (n := 1) (v := rM.1.toInt64) G lwW_o vp_in01 (by show (σ' 28 0).toInt64 = _; rw [h4 hr0]) dL_law_455 ?_
    refine v_iload G dL_law_456 0 rfl ?_
    refine v_i2l G dL_law_458 ?_
    refine v_lcmpE G dL_law_459 ?_
    refine v_if_eq (tgt := 465) G dL_law_460 (by decide) (fun _ => ?_) (fun c => absurd rfl c)
    refine v_goto (tgt := 904) G dL_law_465 (by decide) ?_
    refine v_locs (L' := lwL b q q2 i) [2, 3, 4, 5, 6] rfl ?_
    exact K _ _ _ _ h3 (by omega) (by omega)
theorem lw_order {Γ : apC} {b L0 : Nat} {xs : Nat → Int32} (LG : lwG Γ b L0 xs) {q q2 : Nat → Nat} {σC σM : apM} (h : qIN σC σM) {i cn sn : Nat} (hi : i + 4 ≤ L0) (hc : cn + 4 ≤ 600384 ∧ sn + 24 ≤ 7290858) (K : lwK Γ b q q2 i cn sn) : apV Γ 7 (lwW q q2 (apd Γ) σC σM) cn sn 468 (lwL b q q2 i) [] := by
  have G := LG.1
  obtain ⟨rC, rM, e1, e2, ha⟩ := q_order h (xs (i + 1))
  obtain ⟨r, σ', h1, h2, h3, h4⟩ := hp_of ha (by decide)
  refine v_aload_n G dL_law_468 rfl 1 rfl ?_
  refine v_arg LG (i := i) (k := 1) (by omega) (by decide) 0 4 rfl rfl dL_law_469 dL_law_470 dL_law_472 dL_law_473 dL_law_474 ?_
  refine v_aload_n G dL_law_475 rfl 3 rfl ?_
  refine v_lwH LG (As := [.ref (q 0), .int (xs (i + 1)), .ref (q 28)]) (st := []) (n := 3) (k_L_order Γ.1.2.1 LG.2.1 e1 h1) gL_law_L_order rfl (by decide +kernel) (by decide) rfl rfl (by decide) (by omega) rfl dL_law_476 ?_
  refine v_istore (L' := [(5, .int r), (0, .ref b), (1, .ref (q 0)), (2, .ref (q2 0)), (3, .ref (q 28)), (4, .int (nI i))]) G dL_law_479 (by decide) rfl ?_
  refine v_aload_n G dL_law_481 rfl 3 rfl ?_
  refine v_arg LG (i := i) (k := 1) (by omega) (by decide) 1 5 rfl rfl dL_law_482 dL_law_483 dL_law_485 dL_law_486 dL_law_487 ?_
  refine v_lwM LG (As := [.int (xs (i + 1))]) (st := []) (n := 1) (c_X7_order Γ.1.2.1 e2) gL_law_X7_order rfl (by decide +kernel) (by decide) rfl rfl (by decide) (by omega) rfl dL_law_488 ?_
  refine v_istore (L' := [(6, .int rM.1), (5, .int r), (0, .ref b), (1, .ref (q 0)), (2, .ref (q2 0)), (3, .ref (q 28)), (4, .int (nI i))]) G dL_law_491 (by decide) rfl ?_
  refine v_aload_n G dL_law_493 rfl 4 rfl ?_
  refine v_lwM LG (As := []) (st := []) (n := 0) (c_X7_thrown Γ.1.2.1 (r := r) h2) gL_law_X7_thrown rfl (by decide +kernel) (by decide) rfl rfl (by decide) (by omega) rfl dL_law_494 ?_
  refine v_iload G dL_law_497 1 rfl ?_
  refine v_icmp_eq (tgt := 504) G dL_law_499 (by decide) (fun _ => ?_) (fun c => absurd rfl c)
  refine v_iload G dL_law_504 1 rfl ?_
  refine v_if_ne (tgt := 521) G dL_law_506 (by decide) (fun _ => ?_) (fun hr0 => ?_)
  · refine v_goto (tgt := 904) G dL_law_521 (by decide) ?_
    refine v_locs (L' := lwL b q q2 i) [2, 3, 4, 5, 6] rfl ?_
    exact K _ _ _ _ h3 (by omega) (by omega)
  · refine v_aload_n G dL_law_509 rfl 5 rfl ?_
    refine v_iconst (v := 0) G dL_law_510 (by decide) ?_
    refine v_lald (i0 := 49) (n := 1) (v := rM.1.toInt64) G lwW_o vp_in01 (by show (σ' 28 0).toInt64 = _; rw [h4 hr0]) dL_law_511 ?_
    refine v_iload G dL_law_512 0 rfl ?_
    refine v_i2l G dL_law_514 ?_
    refine v_lcmpE G dL_law_515 ?_
    refine v_if_eq (tgt := 521) G dL_law_516 (by decide) (fun _ => ?_) (fun c => absurd rfl c)
    refine v_goto (tgt := 904) G dL_law_521 (by decide) ?_
    refine v_locs (L' := lwL b q q2 i) [2, 3, 4, 5, 6] rfl ?_
    exact K _ _ _ _ h3 (by omega) (by omega)
theorem lw_about {Γ : apC} {b L0 : Nat} {xs : Nat → Int32} (LG : lwG Γ b L0 xs) {q q2 : Nat → Nat} {σC σM : apM} (h : qIN σC σM) {i cn sn : Nat} (hi : i + 4 ≤ L0) (hc : cn + 4 ≤ 600384 ∧ sn + 24 ≤ 7290858) (K : lwK Γ b q q2 i cn sn) : apV Γ 7 (lwW q q2 (apd Γ) σC σM) cn sn 524 (lwL b q q2 i) [] := by
  have G := LG.1
  obtain ⟨rC, rM, e1, e2, ha⟩ := q_about h (xs (i + 1)) (xs (i + 2))
  obtain ⟨r, σ', h1, h2, h3, h4⟩ := hp_of ha (by decide)
  refine v_aload_n G dL_law_524 rfl 1 rfl ?_
  refine v_arg LG (i := i) (k := 1) (by omega) (by decide) 0 4 rfl rfl dL_law_525 dL_law_526 dL_law_528 dL_law_529 dL_law_530 ?_
  refine v_arg LG (i := i) (k := 2) (by omega) (by decide) 0 4 rfl rfl dL_law_531 dL_law_532 dL_law_534 dL_law_535 dL_law_536 ?_
  refine v_aload_n G dL_law_537 rfl 3 rfl ?_
  refine v_lwH LG (As := [.ref (q 0), .int (xs (i + 1)), .int (xs (i + 2)), .ref (q 28)]) (st := []) (n := 4) (k_L_about Γ.1.2.1 LG.2.1 e1 h1) gL_law_L_about rfl (by decide +kernel) (by decide) rfl rfl (by decide) (by omega) rfl dL_law_538 ?_
  refine v_istore (L' := [(5, .int r), (0, .ref b), (1, .ref (q 0)), (2, .ref (q2 0)), (3, .ref (q 28)), (4, .int (nI i))]) G dL_law_541 (by decide) rfl ?_
  refine v_aload_n G dL_law_543 rfl 3 rfl ?_
  refine v_arg LG (i := i) (k := 1) (by omega) (by decide) 1 5 rfl rfl dL_law_544 dL_law_545 dL_law_547 dL_law_548 dL_law_549 ?_
  refine v_arg LG (i := i) (k := 2) (by omega) (by decide) 1 5 rfl rfl dL_law_550 dL_law_551 dL_law_553 dL_law_554 dL_law_555 ?_
  refine v_lwM LG (As := [.int (xs (i + 1)), .int (xs (i + 2))]) (st := []) (n := 2) (c_X7_about Γ.1.2.1 e2) gL_law_X7_about rfl (by decide +kernel) (by decide) rfl rfl (by decide) (by omega) rfl dL_law_556 ?_
  refine v_istore (L' := [(6, .int rM.1), (5, .int r), (0, .ref b), (1, .ref (q 0)), (2, .ref (q2 0)), (3, .ref (q 28)), (4, .int (nI i))]) G dL_law_559 (by decide) rfl ?_
  refine v_aload_n G dL_law_561 rfl 4 rfl ?_
  refine v_lwM LG (As := []) (st := []) (n := 0) (c_X7_thrown Γ.1.2.1 (r := r) h2) gL_law_X7_thrown rfl (by decide +kernel) (by decide) rfl rfl (by decide) (by omega) rfl dL_law_562 ?_
  refine v_iload G dL_law_565 1 rfl ?_
  refine v_icmp_eq (tgt := 572) G dL_law_567 (by decide) (fun _ => ?_) (fun c => absurd rfl c)
  refine v_iload G dL_law_572 1 rfl ?_
  refine v_if_ne (tgt := 589) G dL_law_574 (by decide) (fun _ => ?_) (fun hr0 => ?_)
  · refine v_goto (tgt := 904) G dL_law_589 (by decide) ?_
    refine v_locs (L' := lwL b q q2 i) [2, 3, 4, 5, 6] rfl ?_
    exact K _ _ _ _ h3 (by omega) (by omega)
  · refine v_aload_n G dL_law_577 rfl 5 rfl ?_
    refine v_iconst (v := 0) G dL_law_578 (by decide) ?_
    refine v_lald (i0 := 49) (n := 1) (v := rM.1.toInt64) G lwW_o vp_in01 (by show (σ' 28 0).toInt64 = _; rw [h4 hr0]) dL_law_579 ?_
    refine v_iload G dL_law_580 0 rfl ?_
    refine v_i2l G dL_law_582 ?_
    refine v_lcmpE G dL_law_583 ?_
    refine v_if_eq (tgt := 589) G dL_law_584 (by decide) (fun _ => ?_) (fun c => absurd rfl c)
    refine v_goto (tgt := 904) G dL_law_589 (by decide) ?_
    refine v_locs (L' := lwL b q q2 i) [2, 3, 4, 5, 6] rfl ?_
    exact K _ _ _ _ h3 (by omega) (by omega)
theorem lw_cost {Γ : apC} {b L0 : Nat} {xs : Nat → Int32} (LG : lwG Γ b L0 xs) {q q2 : Nat → Nat} {σC σM : apM} (h : qIN σC σM) {i cn sn : Nat} (hi : i + 4 ≤ L0) (hc : cn + 4 ≤ 600384 ∧ sn + 24 ≤ 7290858) (K : lwK Γ b q q2 i cn sn) : apV Γ 7 (lwW q q2 (apd Γ) σC σM) cn sn 592 (lwL b q q2 i) [] := by
  have G := LG.1
  obtain ⟨rC, rM, e1, e2, ha⟩ := q_cost h (xs (i + 1))
  obtain ⟨r, σ', h1, h2, h3, h4⟩ := hp_of ha (by decide)
  refine v_aload_n G dL_law_592 rfl 1 rfl ?_
  refine v_arg LG (i := i) (k := 1) (by omega) (by decide) 0 4 rfl rfl dL_law_593 dL_law_594 dL_law_596 dL_law_597 dL_law_598 ?_
  refine v_aload_n G dL_law_599 rfl 3 rfl ?_
  refine v_lwH LG (As := [.ref (q 0), .int (xs (i + 1)), .ref (q 28)]) (st := []) (n := 3) (k_L_cost Γ.1.2.1 LG.2.1 e1 h1) gL_law_L_cost rfl (by decide +kernel) (by decide) rfl rfl (by decide) (by omega) rfl dL_law_600 ?_
  refine v_istore (L' := [(5, .int r), (0, .ref b), (1, .ref (q 0)), (2, .ref (q2 0)), (3, .ref (q 28)), (4, .int (nI i))]) G dL_law_603 (by decide) rfl ?_
  refine v_aload_n G dL_law_605 rfl 3 rfl ?_
  refine v_arg LG (i := i) (k := 1) (by omega) (by decide) 1 5 rfl rfl dL_law_606 dL_law_607 dL_law_609 dL_law_610 dL_law_611 ?_
  refine v_lwM LG (As := [.int (xs (i + 1))]) (st := []) (n := 1) (c_X7_cost Γ.1.2.1 e2) gL_law_X7_cost rfl (by decide +kernel) (by decide) rfl rfl (by decide) (by omega) rfl dL_law_612 ?_
  refine v_istore (L' := [(6, .int rM.1), (5, .int r), (0, .ref b), (1, .ref (q 0)), (2, .ref (q2 0)), (3, .ref (q 28)), (4, .int (nI i))]) G dL_law_615 (by decide) rfl ?_
  refine v_aload_n G dL_law_617 rfl 4 rfl ?_
  refine v_lwM LG (As := []) (st := []) (n := 0) (c_X7_thrown Γ.1.2.1 (r := r) h2) gL_law_X7_thrown rfl (by decide +kernel) (by decide) rfl rfl (by decide) (by omega) rfl dL_law_618 ?_
  refine v_iload G dL_law_621 1 rfl ?_
  refine v_icmp_eq (tgt := 628) G dL_law_623 (by decide) (fun _ => ?_) (fun c => absurd rfl c)
  refine v_iload G dL_law_628 1 rfl ?_
  refine v_if_ne (tgt := 645) G dL_law_630 (by decide) (fun _ => ?_) (fun hr0 => ?_)
  · refine v_goto (tgt := 904) G dL_law_645 (by decide) ?_
    refine v_locs (L' := lwL b q q2 i) [2, 3, 4, 5, 6] rfl ?_
    exact K _ _ _ _ h3 (by omega) (by omega)
  · refine v_aload_n G dL_law_633 rfl 5 rfl ?_
    refine v_iconst (v := 0) G dL_law_634 (by decide) ?_
    refine v_lald (i0 := 49) (n := 1) (v := rM.1.toInt64) G lwW_o vp_in01 (by show (σ' 28 0).toInt64 = _; rw [h4 hr0]) dL_law_635 ?_
    refine v_iload G dL_law_636 0 rfl ?_
    refine v_i2l G dL_law_638 ?_
    refine v_lcmpE G dL_law_639 ?_
    refine v_if_eq (tgt := 645) G dL_law_640 (by decide) (fun _ => ?_) (fun c => absurd rfl c)
    refine v_goto (tgt := 904) G dL_law_645 (by decide) ?_
    refine v_locs (L' := lwL b q q2 i) [2, 3, 4, 5, 6] rfl ?_
    exact K _ _ _ _ h3 (by omega) (by omega)
theorem lw_peak {Γ : apC} {b L0 : Nat} {xs : Nat → Int32} (LG : lwG Γ b L0 xs) {q q2 : Nat → Nat} {σC σM : apM} (h : qIN σC σM) {i cn sn : Nat} (hi : i + 4 ≤ L0) (hc : cn + 4 ≤ 600384 ∧ sn + 24 ≤ 7290858) (K : lwK Γ b q q2 i cn sn) : apV Γ 7 (lwW q q2 (apd Γ) σC σM) cn sn 648 (lwL b q q2 i) [] := by
  have G := LG.1
  obtain ⟨rC, rM, e1, e2, ha⟩ := q_peak h
  obtain ⟨r, σ', h1, h2, h3, h4⟩ := hp_of ha (by decide)
  refine v_aload_n G dL_law_648 rfl 1 rfl ?_
  refine v_aload_n G dL_law_649 rfl 3 rfl ?_
  refine v_lwH LG (As := [.ref (q 0), .ref (q 28)]) (st := []) (n := 2) (k_L_peak Γ.1.2.1 LG.2.1 (Option.some.inj e1) h1) gL_law_L_peak rfl (by decide +kernel) (by decide) rfl rfl (by decide) (by omega) rfl dL_law_650 ?_
  refine v_istore (L' := [(5, .int r), (0, .ref b), (1, .ref (q 0)), (2, .ref (q2 0)), (3, .ref (q 28)), (4, .int (nI i))]) G dL_law_653 (by decide) rfl ?_
  refine v_aload_n G dL_law_655 rfl 3 rfl ?_
  refine v_lwM LG (As := []) (st := []) (n := 0) (c_X7_peak Γ.1.2.1 e2) gL_law_X7_peak rfl (by decide +kernel) (by decide) rfl rfl (by decide) (by omega) rfl dL_law_656 ?_
  refine v_istore (L' := [(6, .int rM.1), (5, .int r), (0, .ref b), (1, .ref (q 0)), (2, .ref (q2 0)), (3, .ref (q 28)), (4, .int (nI i))]) G dL_law_659 (by decide) rfl ?_
  refine v_aload_n G dL_law_661 rfl 4 rfl ?_
  refine v_lwM LG (As := []) (st := []) (n := 0) (c_X7_thrown Γ.1.2.1 (r := r) h2) gL_law_X7_thrown rfl (by decide +kernel) (by decide) rfl rfl (by decide) (by omega) rfl dL_law_662 ?_
  refine v_iload G dL_law_665 1 rfl ?_
  refine v_icmp_eq (tgt := 672) G dL_law_667 (by decide) (fun _ => ?_) (fun c => absurd rfl c)
  refine v_iload G dL_law_672 1 rfl ?_
  refine v_if_ne (tgt := 689) G dL_law_674 (by decide) (fun _ => ?_) (fun hr0 => ?_)
  · refine v_goto (tgt := 904) G dL_law_689 (by decide) ?_
    refine v_locs (L' := lwL b q q2 i) [2, 3, 4, 5, 6] rfl ?_
    exact K _ _ _ _ h3 (by omega) (by omega)
  · refine v_aload_n G dL_law_677 rfl 5 rfl ?_
    refine v_iconst (v := 0) G dL_law_678 (by decide) ?_
    refine v_lald (i0 := 49) (n := 1) (v := rM.1.toInt64) G lwW_o vp_in01 (by show (σ' 28 0).toInt64 = _; rw [h4 hr0]) dL_law_679 ?_
    refine v_iload G dL_law_680 0 rfl ?_
    refine v_i2l G dL_law_682 ?_
    refine v_lcmpE G dL_law_683 ?_
    refine v_if_eq (tgt := 689) G dL_law_684 (by decide) (fun _ => ?_) (fun c => absurd rfl c)
    refine v_goto (tgt := 904) G dL_law_689 (by decide) ?_
    refine v_locs (L' := lwL b q q2 i) [2, 3, 4, 5, 6] rfl ?_
    exact K _ _ _ _ h3 (by omega) (by omega)
theorem lw_least {Γ : apC} {b L0 : Nat} {xs : Nat → Int32} (LG : lwG Γ b L0 xs) {q q2 : Nat → Nat} {σC σM : apM} (h : qIN σC σM) {i cn sn : Nat} (hi : i + 4 ≤ L0) (hc : cn + 4 ≤ 600384 ∧ sn + 24 ≤ 7290858) (K : lwK Γ b q q2 i cn sn) : apV Γ 7 (lwW q q2 (apd Γ) σC σM) cn sn 692 (lwL b q q2 i) [] := by
  have G := LG.1
  obtain ⟨rC, rM, e1, e2, ha⟩ := q_least h
  obtain ⟨r, σ', h1, h2, h3, h4⟩ := hp_of ha (by decide)
  refine v_aload_n G dL_law_692 rfl 1 rfl ?_
  refine v_aload_n G dL_law_693 rfl 3 rfl ?_
  refine v_lwH LG (As := [.ref (q 0), .ref (q 28)]) (st := []) (n := 2) (k_L_least Γ.1.2.1 LG.2.1 e1 h1) gL_law_L_least rfl (by decide +kernel) (by decide) rfl rfl (by decide) (by omega) rfl dL_law_694 ?_
  refine v_istore (L' := [(5, .int r), (0, .ref b), (1, .ref (q 0)), (2, .ref (q2 0)), (3, .ref (q 28)), (4, .int (nI i))]) G dL_law_697 (by decide) rfl ?_
  refine v_aload_n G dL_law_699 rfl 3 rfl ?_
  refine v_lwM LG (As := []) (st := []) (n := 0) (c_X7_least Γ.1.2.1 e2) gL_law_X7_least rfl (by decide +kernel) (by decide) rfl rfl (by decide) (by omega) rfl dL_law_700 ?_
  refine v_istore (L' := [(6, .int rM.1), (5, .int r), (0, .ref b), (1, .ref (q 0)), (2, .ref (q2 0)), (3, .ref (q 28)), (4, .int (nI i))]) G dL_law_703 (by decide) rfl ?_
  refine v_aload_n G dL_law_705 rfl 4 rfl ?_
  refine v_lwM LG (As := []) (st := []) (n := 0) (c_X7_thrown Γ.1.2.1 (r := r) h2) gL_law_X7_thrown rfl (by decide +kernel) (by decide) rfl rfl (by decide) (by omega) rfl dL_law_706 ?_
  refine v_iload G dL_law_709 1 rfl ?_
  refine v_icmp_eq (tgt := 716) G dL_law_711 (by decide) (fun _ => ?_) (fun c => absurd rfl c)
  refine v_iload G dL_law_716 1 rfl ?_
  refine v_if_ne (tgt := 733) G dL_law_718 (by decide) (fun _ => ?_) (fun hr0 => ?_)
  · refine v_goto (tgt := 904) G dL_law_733 (by decide) ?_
    refine v_locs (L' := lwL b q q2 i) [2, 3, 4, 5, 6] rfl ?_
    exact K _ _ _ _ h3 (by omega) (by omega)
  · refine v_aload_n G dL_law_721 rfl 5 rfl ?_
    refine v_iconst (v := 0) G dL_law_722 (by decide) ?_
    refine v_lald (i0 := 49) (n := 1) (v := rM.1.toInt64) G lwW_o vp_in01 (by show (σ' 28 0).toInt64 = _; rw [h4 hr0]) dL_law_723 ?_
    refine v_iload G dL_law_724 0 rfl ?_
    refine v_i2l G dL_law_726 ?_
    refine v_lcmpE G dL_law_727 ?_
    refine v_if_eq (tgt := 733) G dL_law_728 (by decide) (fun _ => ?_) (fun c => absurd rfl c)
    refine v_goto (tgt := 904) G dL_law_733 (by decide) ?_
    refine v_locs (L' := lwL b q q2 i) [2, 3, 4, 5, 6] rfl ?_
    exact K _ _ _ _ h3 (by omega) (by omega)
theorem lw_run {Γ : apC} {b L0 : Nat} {xs : Nat → Int32} (LG : lwG Γ b L0 xs) {q q2 : Nat → Nat} {σC σM : apM} (h : qIN σC σM) {i cn sn : Nat} (hi : i + 4 ≤ L0) (hc : cn + 4 ≤ 600384 ∧ sn + 24 ≤ 7290858) (K : lwK Γ b q q2 i cn sn) : apV Γ 7 (lwW q q2 (apd Γ) σC σM) cn sn 736 (lwL b q q2 i) [] := by
  have G := LG.1
  obtain ⟨rC, rM, e1, e2, ha⟩ := q_run h
  obtain ⟨r, σ', h1, h2, h3, h4⟩ := hp_of ha (by decide)
  refine v_aload_n G dL_law_736 rfl 1 rfl ?_
  refine v_aload_n G dL_law_737 rfl 3 rfl ?_
  refine v_lwH LG (As := [.ref (q 0), .ref (q 28)]) (st := []) (n := 2) (k_L_run Γ.1.2.1 LG.2.1 e1 h1) gL_law_L_run rfl (by decide +kernel) (by decide) rfl rfl (by decide) (by omega) rfl dL_law_738 ?_
  refine v_istore (L' := [(5, .int r), (0, .ref b), (1, .ref (q 0)), (2, .ref (q2 0)), (3, .ref (q 28)), (4, .int (nI i))]) G dL_law_741 (by decide) rfl ?_
  refine v_aload_n G dL_law_743 rfl 3 rfl ?_
  refine v_lwM LG (As := []) (st := []) (n := 0) (c_X7_run Γ.1.2.1 e2) gL_law_X7_run rfl (by decide +kernel) (by decide) rfl rfl (by decide) (by omega) rfl dL_law_744 ?_
  refine v_istore (L' := [(6, .int rM.1), (5, .int r), (0, .ref b), (1, .ref (q 0)), (2, .ref (q2 0)), (3, .ref (q 28)), (4, .int (nI i))]) G dL_law_747 (by decide) rfl ?_
  refine v_aload_n G dL_law_749 rfl 4 rfl ?_
  refine v_lwM LG (As := []) (st := []) (n := 0) (c_X7_thrown Γ.1.2.1 (r := r) h2) gL_law_X7_thrown rfl (by decide +kernel) (by decide) rfl rfl (by decide) (by omega) rfl dL_law_750 ?_
  refine v_iload G dL_law_753 1 rfl ?_
  refine v_icmp_eq (tgt := 760) G dL_law_755 (by decide) (fun _ => ?_) (fun c => absurd rfl c)
  refine v_iload G dL_law_760 1 rfl ?_
  refine v_if_ne (tgt := 777) G dL_law_762 (by decide) (fun _ => ?_) (fun hr0 => ?_)
  · refine v_goto (tgt := 904) G dL_law_777 (by decide) ?_
    refine v_locs (L' := lwL b q q2 i) [2, 3, 4, 5, 6] rfl ?_
    exact K _ _ _ _ h3 (by omega) (by omega)
  · refine v_aload_n G dL_law_765 rfl 5 rfl ?_
    refine v_iconst (v := 0) G dL_law_766 (by decide) ?_
    refine v_lald (i0 := 49) (n := 1) (v := rM.1.toInt64) G lwW_o vp_in01 (by show (σ' 28 0).toInt64 = _; rw [h4 hr0]) dL_law_767 ?_
    refine v_iload G dL_law_768 0 rfl ?_
    refine v_i2l G dL_law_770 ?_
    refine v_lcmpE G dL_law_771 ?_
    refine v_if_eq (tgt := 777) G dL_law_772 (by decide) (fun _ => ?_) (fun c => absurd rfl c)
    refine v_goto (tgt := 904) G dL_law_777 (by decide) ?_
    refine v_locs (L' := lwL b q q2 i) [2, 3, 4, 5, 6] rfl ?_
    exact K _ _ _ _ h3 (by omega) (by omega)
theorem lw_cell {Γ : apC} {b L0 : Nat} {xs : Nat → Int32} (LG : lwG Γ b L0 xs) {q q2 : Nat → Nat} {σC σM : apM} (h : qIN σC σM) {i cn sn : Nat} (hi : i + 4 ≤ L0) (hc : cn + 4 ≤ 600384 ∧ sn + 24 ≤ 7290858) (K : lwK Γ b q q2 i cn sn) : apV Γ 7 (lwW q q2 (apd Γ) σC σM) cn sn 780 (lwL b q q2 i) [] := by
  have G := LG.1
  obtain ⟨rC, rM, e1, e2, ha⟩ := q_cell h (xs (i + 1))
  obtain ⟨r, σ', h1, h2, h3, h4⟩ := hp_of ha (by decide)
  refine v_aload_n G dL_law_780 rfl 1 rfl ?_
  refine v_arg LG (i := i) (k := 1) (by omega) (by decide) 0 4 rfl rfl dL_law_781 dL_law_782 dL_law_784 dL_law_785 dL_law_786 ?_
  refine v_aload_n G dL_law_787 rfl 3 rfl ?_
  refine v_lwH LG (As := [.ref (q 0), .int (xs (i + 1)), .ref (q 28)]) (st := []) (n := 3) (k_L_cell Γ.1.2.1 LG.2.1 e1 h1) gL_law_L_cell rfl (by decide +kernel) (by decide) rfl rfl (by decide) (by omega) rfl dL_law_788 ?_
  refine v_istore (L' := [(5, .int r), (0, .ref b), (1, .ref (q 0)), (2, .ref (q2 0)), (3, .ref (q 28)), (4, .int (nI i))]) G dL_law_791 (by decide) rfl ?_
  refine v_aload_n G dL_law_793 rfl 3 rfl ?_
  refine v_arg LG (i := i) (k := 1) (by omega) (by decide) 1 5 rfl rfl dL_law_794 dL_law_795 dL_law_797 dL_law_798 dL_law_799 ?_
  refine v_lwM LG (As := [.int (xs (i + 1))]) (st := []) (n := 1) (c_X7_cell Γ.1.2.1 e2) gL_law_X7_cell rfl (by decide +kernel) (by decide) rfl rfl (by decide) (by omega) rfl dL_law_800 ?_
  refine v_istore (L' := [(6, .int rM.1), (5, .int r), (0, .ref b), (1, .ref (q 0)), (2, .ref (q2 0)), (3, .ref (q 28)), (4, .int (nI i))]) G dL_law_803 (by decide) rfl ?_
  refine v_aload_n G dL_law_805 rfl 4 rfl ?_
  refine v_lwM LG (As := []) (st := []) (n := 0) (c_X7_thrown Γ.1.2.1 (r := r) h2) gL_law_X7_thrown rfl (by decide +kernel) (by decide) rfl rfl (by decide) (by omega) rfl dL_law_806 ?_
  refine v_iload G dL_law_809 1 rfl ?_
  refine v_icmp_eq (tgt := 816) G dL_law_811 (by decide) (fun _ => ?_) (fun c => absurd rfl c)
  refine v_iload G dL_law_816 1 rfl ?_
  refine v_if_ne (tgt := 833) G dL_law_818 (by decide) (fun _ => ?_) (fun hr0 => ?_)
  · refine v_goto (tgt := 904) G dL_law_833 (by decide) ?_
    refine v_locs (L' := lwL b q q2 i) [2, 3, 4, 5, 6] rfl ?_
    exact K _ _ _ _ h3 (by omega) (by omega)
  · refine v_aload_n G dL_law_821 rfl 5 rfl ?_
    refine v_iconst (v := 0) G dL_law_822 (by decide) ?_
    refine v_lald (i0 := 49) (n := 1) (v := rM.1.toInt64) G lwW_o vp_in01 (by show (σ' 28 0).toInt64 = _; rw [h4 hr0]) dL_law_823 ?_
    refine v_iload G dL_law_824 0 rfl ?_
    refine v_i2l G dL_law_826 ?_
    refine v_lcmpE G dL_law_827 ?_
    refine v_if_eq (tgt := 833) G dL_law_828 (by decide) (fun _ => ?_) (fun c => absurd rfl c)
    refine v_goto (tgt := 904) G dL_law_833 (by decide) ?_
    refine v_locs (L' := lwL b q q2 i) [2, 3, 4, 5, 6] rfl ?_
    exact K _ _ _ _ h3 (by omega) (by omega)
theorem lw_result {Γ : apC} {b L0 : Nat} {xs : Nat → Int32} (LG : lwG Γ b L0 xs) {q q2 : Nat → Nat} {σC σM : apM} (h : qIN σC σM) {i cn sn : Nat} (hi : i + 4 ≤ L0) (hc : cn + 4 ≤ 600384 ∧ sn + 24 ≤ 7290858) (K : lwK Γ b q q2 i cn sn) : apV Γ 7 (lwW q q2 (apd Γ) σC σM) cn sn 836 (lwL b q q2 i) [] := by
  have G := LG.1
  obtain ⟨rC, rM, e1, e2, ha⟩ := q_result h (xs (i + 1)) (xs (i + 2))
  obtain ⟨r, σ', h1, h2, h3, h4⟩ := hp_of ha (by decide)
  refine v_aload_n G dL_law_836 rfl 1 rfl ?_
  refine v_arg LG (i := i) (k := 1) (by omega) (by decide) 0 4 rfl rfl dL_law_837 dL_law_838 dL_law_840 dL_law_841 dL_law_842 ?_
  refine v_arg LG (i := i) (k := 2) (by omega) (by decide) 0 4 rfl rfl dL_law_843 dL_law_844 dL_law_846 dL_law_847 dL_law_848 ?_
  refine v_aload_n G dL_law_849 rfl 3 rfl ?_
  refine v_lwH LG (As := [.ref (q 0), .int (xs (i + 1)), .int (xs (i + 2)), .ref (q 28)]) (st := []) (n := 4) (k_L_result Γ.1.2.1 LG.2.1 e1 h1) gL_law_L_result rfl (by decide +kernel) (by decide) rfl rfl (by decide) (by omega) rfl dL_law_850 ?_
  refine v_istore (L' := [(5, .int r), (0, .ref b), (1, .ref (q 0)), (2, .ref (q2 0)), (3, .ref (q 28)), (4, .int (nI i))]) G dL_law_853 (by decide) rfl ?_
  refine v_aload_n G dL_law_855 rfl 3 rfl ?_
  refine v_arg LG (i := i) (k := 1) (by omega) (by decide) 1 5 rfl rfl dL_law_856 dL_law_857 dL_law_859 dL_law_860 dL_law_861 ?_
  refine v_arg LG (i := i) (k := 2) (by omega) (by decide) 1 5 rfl rfl dL_law_862 dL_law_863 dL_law_865 dL_law_866 dL_law_867 ?_
  refine v_lwM LG (As := [.int (xs (i + 1)), .int (xs (i + 2))]) (st := []) (n := 2) (c_X7_result Γ.1.2.1 e2) gL_law_X7_result rfl (by decide +kernel) (by decide) rfl rfl (by decide) (by omega) rfl dL_law_868 ?_
  refine v_istore (L' := [(6, .int rM.1), (5, .int r), (0, .ref b), (1, .ref (q 0)), (2, .ref (q2 0)), (3, .ref (q 28)), (4, .int (nI i))]) G dL_law_871 (by decide) rfl ?_
  refine v_aload_n G dL_law_873 rfl 4 rfl ?_
  refine v_lwM LG (As := []) (st := []) (n := 0) (c_X7_thrown Γ.1.2.1 (r := r) h2) gL_law_X7_thrown rfl (by decide +kernel) (by decide) rfl rfl (by decide) (by omega) rfl dL_law_874 ?_
  refine v_iload G dL_law_877 1 rfl ?_
  refine v_icmp_eq (tgt := 884) G dL_law_879 (by decide) (fun _ => ?_) (fun c => absurd rfl c)
  refine v_iload G dL_law_884 1 rfl ?_
  refine v_if_ne (tgt := 901) G dL_law_886 (by decide) (fun _ => ?_) (fun hr0 => ?_)
  · refine v_goto (tgt := 904) G dL_law_901 (by decide) ?_
    refine v_locs (L' := lwL b q q2 i) [2, 3, 4, 5, 6] rfl ?_
    exact K _ _ _ _ h3 (by omega) (by omega)
  · refine v_aload_n G dL_law_889 rfl 5 rfl ?_
    refine v_iconst (v := 0) G dL_law_890 (by decide) ?_
    refine v_lald (i0 := 49) (n := 1) (v := rM.1.toInt64) G lwW_o vp_in01 (by show (σ' 28 0).toInt64 = _; rw [h4 hr0]) dL_law_891 ?_
    refine v_iload G dL_law_892 0 rfl ?_
    refine v_i2l G dL_law_894 ?_
    refine v_lcmpE G dL_law_895 ?_
    refine v_if_eq (tgt := 901) G dL_law_896 (by decide) (fun _ => ?_) (fun c => absurd rfl c)
    refine v_goto (tgt := 904) G dL_law_901 (by decide) ?_
    refine v_locs (L' := lwL b q q2 i) [2, 3, 4, 5, 6] rfl ?_
    exact K _ _ _ _ h3 (by omega) (by omega)
