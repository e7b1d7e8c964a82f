set_option maxRecDepth 100000 in
set_option maxHeartbeats 4000000 in
theorem k_type {Z : Zt} {e : GE} {b L : Nat} {xs : Nat → Int32} {x : Int32} {S : St} (hX : SX Z b L xs) (h1 : vp_in (x + 1) L) (h2 : vp_in (x + 2) L) (h3 : vp_in (x + 3) L) (h4 : vp_in (x + 4) L) (hI : INV S) (k : ∀ S2, INV S2 → MW Z e cL_law 4 RL 2000 871 [(0, .ref b), (1, .ref (e.2.2.1 0)), (2, .ref (e.2.2.1 49)), (3, .int x)] [] S2) : MW Z e cL_law 4 RL 2000 152 [(0, .ref b), (1, .ref (e.2.2.1 0)), (2, .ref (e.2.2.1 49)), (3, .int x)] [] S := by
  refine m_aload_n dL_law_152 1 rfl rfl ?_
  refine m_aload_n dL_law_153 0 rfl rfl ?_
  refine m_iload_n dL_law_154 3 rfl rfl ?_
  refine m_iconst (v := 1) dL_law_155 (by decide) ?_
  refine m_iadd dL_law_156 ?_
  refine m_sld hX h1 dL_law_157 ?_
  refine m_i2l dL_law_158 ?_
  refine m_bipush (v := 32) dL_law_159 (by decide) ?_
  refine m_lshl dL_law_161 ?_
  refine m_aload_n dL_law_162 0 rfl rfl ?_
  refine m_iload_n dL_law_163 3 rfl rfl ?_
  refine m_iconst (v := 2) dL_law_164 (by decide) ?_
  refine m_iadd dL_law_165 ?_
  refine m_sld hX h2 dL_law_166 ?_
  refine m_i2l dL_law_167 ?_
  refine m_ldc2 (v := 4294967295) q1_6 dL_law_168 ?_
  refine m_land dL_law_171 ?_
  refine m_lor dL_law_172 ?_
  refine m_aload_n dL_law_173 0 rfl rfl ?_
  refine m_iload_n dL_law_174 3 rfl rfl ?_
  refine m_iconst (v := 3) dL_law_175 (by decide) ?_
  refine m_iadd dL_law_176 ?_
  refine m_sld hX h3 dL_law_177 ?_
  refine m_callV 0 [.long (((xs (x + 1).toNatClampNeg).toInt64 <<< ((32 : Int32).toInt64 &&& 63)) ||| ((xs (x + 2).toNatClampNeg).toInt64 &&& 4294967295)), .int (xs (x + 3).toNatClampNeg)] (c_X6_type (ok_type hI _ _)) (o_0 e _) rfl rfl q8_14 q8_15 q8_16 q1_2 q8_17 t_X6_type rfl (by omega) (by decide) (Nat.le_of_ble_eq_true rfl) rfl dL_law_178 (kI (P := MW Z e cL_law 4 RL 2000 181 [(0, .ref b), (1, .ref (e.2.2.1 0)), (2, .ref (e.2.2.1 49)), (3, .int x)]) (fun r0 S1 h => ?_))
  refine m_aload_n dL_law_181 2 rfl rfl ?_
  refine m_aload_n dL_law_182 0 rfl rfl ?_
  refine m_iload_n dL_law_183 3 rfl rfl ?_
  refine m_iconst (v := 1) dL_law_184 (by decide) ?_
  refine m_iadd dL_law_185 ?_
  refine m_sld hX h1 dL_law_186 ?_
  refine m_i2l dL_law_187 ?_
  refine m_bipush (v := 32) dL_law_188 (by decide) ?_
  refine m_lshl dL_law_190 ?_
  refine m_aload_n dL_law_191 0 rfl rfl ?_
  refine m_iload_n dL_law_192 3 rfl rfl ?_
  refine m_iconst (v := 2) dL_law_193 (by decide) ?_
  refine m_iadd dL_law_194 ?_
  refine m_sld hX h2 dL_law_195 ?_
  refine m_i2l dL_law_196 ?_
  refine m_ldc2 (v := 4294967295) q1_6 dL_law_197 ?_
  refine m_land dL_law_200 ?_
  refine m_lor dL_law_201 ?_
  refine m_aload_n dL_law_202 0 rfl rfl ?_
  refine m_iload_n dL_law_203 3 rfl rfl ?_
  refine m_iconst (v := 3) dL_law_204 (by decide) ?_
  refine m_iadd dL_law_205 ?_
  refine m_sld hX h3 dL_law_206 ?_
  refine m_callV 49 [.long (((xs (x + 1).toNatClampNeg).toInt64 <<< ((32 : Int32).toInt64 &&& 63)) ||| ((xs (x + 2).toNatClampNeg).toInt64 &&& 4294967295)), .int (xs (x + 3).toNatClampNeg)] (c_X7_type h) (o_49 e _) rfl rfl q9_2 q9_3 q9_4 q1_5 q9_5 t_X7_type rfl (by omega) (by decide) (Nat.le_of_ble_eq_true rfl) rfl dL_law_207 (kI (P := MW Z e cL_law 4 RL 2000 210 [(0, .ref b), (1, .ref (e.2.2.1 0)), (2, .ref (e.2.2.1 49)), (3, .int x)]) (fun r1 S2 h => ?_))
  exact m_icmp_eq (tgt := 871) dL_law_210 (by decide) (fun _ => k S2 h.2) (fun z => absurd h.1 z)

set_option maxRecDepth 100000 in
set_option maxHeartbeats 4000000 in
theorem k_clear {Z : Zt} {e : GE} {b L : Nat} {xs : Nat → Int32} {x : Int32} {S : St} (hX : SX Z b L xs) (h1 : vp_in (x + 1) L) (h2 : vp_in (x + 2) L) (h3 : vp_in (x + 3) L) (h4 : vp_in (x + 4) L) (hI : INV S) (k : ∀ S2, INV S2 → MW Z e cL_law 4 RL 2000 871 [(0, .ref b), (1, .ref (e.2.2.1 0)), (2, .ref (e.2.2.1 49)), (3, .int x)] [] S2) : MW Z e cL_law 4 RL 2000 215 [(0, .ref b), (1, .ref (e.2.2.1 0)), (2, .ref (e.2.2.1 49)), (3, .int x)] [] S := by
  refine m_aload_n dL_law_215 1 rfl rfl ?_
  refine m_callV 0 [] (c_X6_clear (ok_clear hI)) (o_0 e _) rfl rfl q9_7 q9_8 q9_9 q1_2 q9_10 t_X6_clear rfl (by omega) (by decide) (Nat.le_of_ble_eq_true rfl) rfl dL_law_216 (kI (P := MW Z e cL_law 4 RL 2000 219 [(0, .ref b), (1, .ref (e.2.2.1 0)), (2, .ref (e.2.2.1 49)), (3, .int x)]) (fun r0 S1 h => ?_))
  refine m_aload_n dL_law_219 2 rfl rfl ?_
  refine m_callV 49 [] (c_X7_clear h) (o_49 e _) rfl rfl q9_11 q9_12 q9_13 q1_5 q9_14 t_X7_clear rfl (by omega) (by decide) (Nat.le_of_ble_eq_true rfl) rfl dL_law_220 (kI (P := MW Z e cL_law 4 RL 2000 223 [(0, .ref b), (1, .ref (e.2.2.1 0)), (2, .ref (e.2.2.1 49)), (3, .int x)]) (fun r1 S2 h => ?_))
  exact m_icmp_eq (tgt := 871) dL_law_223 (by decide) (fun _ => k S2 h.2) (fun z => absurd h.1 z)

set_option maxRecDepth 100000 in
set_option maxHeartbeats 4000000 in
theorem k_square {Z : Zt} {e : GE} {b L : Nat} {xs : Nat → Int32} {x : Int32} {S : St} (hX : SX Z b L xs) (h1 : vp_in (x + 1) L) (h2 : vp_in (x + 2) L) (h3 : vp_in (x + 3) L) (h4 : vp_in (x + 4) L) (hI : INV S) (k : ∀ S2, INV S2 → MW Z e cL_law 4 RL 2000 871 [(0, .ref b), (1, .ref (e.2.2.1 0)), (2, .ref (e.2.2.1 49)), (3, .int x)] [] S2) : MW Z e cL_law 4 RL 2000 228 [(0, .ref b), (1, .ref (e.2.2.1 0)), (2, .ref (e.2.2.1 49)), (3, .int x)] [] S := by
  refine m_aload_n dL_law_228 1 rfl rfl ?_
  refine m_callV 0 [] (c_X6_square (ok_square hI)) (o_0 e _) rfl rfl q9_15 q9_16 q9_17 q1_2 q9_18 t_X6_square rfl (by omega) (by decide) (Nat.le_of_ble_eq_true rfl) rfl dL_law_229 (kI (P := MW Z e cL_law 4 RL 2000 232 [(0, .ref b), (1, .ref (e.2.2.1 0)), (2, .ref (e.2.2.1 49)), (3, .int x)]) (fun r0 S1 h => ?_))
  refine m_aload_n dL_law_232 2 rfl rfl ?_
  refine m_callV 49 [] (c_X7_square h) (o_49 e _) rfl rfl q15_11 q15_12 q15_13 q1_5 q15_14 t_X7_square rfl (by omega) (by decide) (Nat.le_of_ble_eq_true rfl) rfl dL_law_233 (kI (P := MW Z e cL_law 4 RL 2000 236 [(0, .ref b), (1, .ref (e.2.2.1 0)), (2, .ref (e.2.2.1 49)), (3, .int x)]) (fun r1 S2 h => ?_))
  exact m_icmp_eq (tgt := 871) dL_law_236 (by decide) (fun _ => k S2 h.2) (fun z => absurd h.1 z)

set_option maxRecDepth 100000 in
set_option maxHeartbeats 4000000 in
theorem k_bar {Z : Zt} {e : GE} {b L : Nat} {xs : Nat → Int32} {x : Int32} {S : St} (hX : SX Z b L xs) (h1 : vp_in (x + 1) L) (h2 : vp_in (x + 2) L) (h3 : vp_in (x + 3) L) (h4 : vp_in (x + 4) L) (hI : INV S) (k : ∀ S2, INV S2 → MW Z e cL_law 4 RL 2000 871 [(0, .ref b), (1, .ref (e.2.2.1 0)), (2, .ref (e.2.2.1 49)), (3, .int x)] [] S2) : MW Z e cL_law 4 RL 2000 241 [(0, .ref b), (1, .ref (e.2.2.1 0)), (2, .ref (e.2.2.1 49)), (3, .int x)] [] S := by
  obtain ⟨T, X, Y, n, hR, -⟩ := id hI
  refine m_aload_n dL_law_241 1 rfl rfl ?_
  refine m_aload_n dL_law_242 0 rfl rfl ?_
  refine m_iload_n dL_law_243 3 rfl rfl ?_
  refine m_iconst (v := 1) dL_law_244 (by decide) ?_
  refine m_iadd dL_law_245 ?_
  refine m_sld hX h1 dL_law_246 ?_
  refine m_callV 0 [.int (xs (x + 1).toNatClampNeg)] (c_X6_bar (ok_bar hR _)) (o_0 e _) rfl rfl q15_15 q15_16 q15_17 q1_2 q15_18 t_X6_bar rfl (by omega) (by decide) (Nat.le_of_ble_eq_true rfl) rfl dL_law_247 (kR (P := MW Z e cL_law 4 RL 2000 250 [(0, .ref b), (1, .ref (e.2.2.1 0)), (2, .ref (e.2.2.1 49)), (3, .int x)]) (fun r0 h => ?_))
  refine m_aload_n dL_law_250 2 rfl rfl ?_
  refine m_aload_n dL_law_251 0 rfl rfl ?_
  refine m_iload_n dL_law_252 3 rfl rfl ?_
  refine m_iconst (v := 1) dL_law_253 (by decide) ?_
  refine m_iadd dL_law_254 ?_
  refine m_sld hX h1 dL_law_255 ?_
  refine m_callV 49 [.int (xs (x + 1).toNatClampNeg)] (c_X7_bar h) (o_49 e _) rfl rfl q16_0 q16_1 q16_2 q1_5 q16_3 t_X7_bar rfl (by omega) (by decide) (Nat.le_of_ble_eq_true rfl) rfl dL_law_256 (kR (P := MW Z e cL_law 4 RL 2000 259 [(0, .ref b), (1, .ref (e.2.2.1 0)), (2, .ref (e.2.2.1 49)), (3, .int x)]) (fun r1 h => ?_))
  exact m_icmp_eq (tgt := 871) dL_law_259 (by decide) (fun _ => k S hI) (fun z => absurd h z)

set_option maxRecDepth 100000 in
set_option maxHeartbeats 4000000 in
theorem k_person {Z : Zt} {e : GE} {b L : Nat} {xs : Nat → Int32} {x : Int32} {S : St} (hX : SX Z b L xs) (h1 : vp_in (x + 1) L) (h2 : vp_in (x + 2) L) (h3 : vp_in (x + 3) L) (h4 : vp_in (x + 4) L) (hI : INV S) (k : ∀ S2, INV S2 → MW Z e cL_law 4 RL 2000 871 [(0, .ref b), (1, .ref (e.2.2.1 0)), (2, .ref (e.2.2.1 49)), (3, .int x)] [] S2) : MW Z e cL_law 4 RL 2000 264 [(0, .ref b), (1, .ref (e.2.2.1 0)), (2, .ref (e.2.2.1 49)), (3, .int x)] [] S := by
  obtain ⟨T, X, Y, n, hR, -⟩ := id hI
  refine m_aload_n dL_law_264 1 rfl rfl ?_
  refine m_aload_n dL_law_265 0 rfl rfl ?_
  refine m_iload_n dL_law_266 3 rfl rfl ?_
  refine m_iconst (v := 1) dL_law_267 (by decide) ?_
  refine m_iadd dL_law_268 ?_
  refine m_sld hX h1 dL_law_269 ?_
  refine m_callV 0 [.int (xs (x + 1).toNatClampNeg)] (c_X6_person (ok_person hR _)) (o_0 e _) rfl rfl q16_8 q16_9 q16_10 q1_2 q16_11 t_X6_person rfl (by omega) (by decide) (Nat.le_of_ble_eq_true rfl) rfl dL_law_270 (kR (P := MW Z e cL_law 4 RL 2000 273 [(0, .ref b), (1, .ref (e.2.2.1 0)), (2, .ref (e.2.2.1 49)), (3, .int x)]) (fun r0 h => ?_))
  refine m_aload_n dL_law_273 2 rfl rfl ?_
  refine m_aload_n dL_law_274 0 rfl rfl ?_
  refine m_iload_n dL_law_275 3 rfl rfl ?_
  refine m_iconst (v := 1) dL_law_276 (by decide) ?_
  refine m_iadd dL_law_277 ?_
  refine m_sld hX h1 dL_law_278 ?_
  refine m_callV 49 [.int (xs (x + 1).toNatClampNeg)] (c_X7_person h) (o_49 e _) rfl rfl q16_17 q16_18 q16_19 q1_5 q16_20 t_X7_person rfl (by omega) (by decide) (Nat.le_of_ble_eq_true rfl) rfl dL_law_279 (kR (P := MW Z e cL_law 4 RL 2000 282 [(0, .ref b), (1, .ref (e.2.2.1 0)), (2, .ref (e.2.2.1 49)), (3, .int x)]) (fun r1 h => ?_))
  exact m_icmp_eq (tgt := 871) dL_law_282 (by decide) (fun _ => k S hI) (fun z => absurd h z)

set_option maxRecDepth 100000 in
set_option maxHeartbeats 4000000 in
theorem k_rain {Z : Zt} {e : GE} {b L : Nat} {xs : Nat → Int32} {x : Int32} {S : St} (hX : SX Z b L xs) (h1 : vp_in (x + 1) L) (h2 : vp_in (x + 2) L) (h3 : vp_in (x + 3) L) (h4 : vp_in (x + 4) L) (hI : INV S) (k : ∀ S2, INV S2 → MW Z e cL_law 4 RL 2000 871 [(0, .ref b), (1, .ref (e.2.2.1 0)), (2, .ref (e.2.2.1 49)), (3, .int x)] [] S2) : MW Z e cL_law 4 RL 2000 287 [(0, .ref b), (1, .ref (e.2.2.1 0)), (2, .ref (e.2.2.1 49)), (3, .int x)] [] S := by
  obtain ⟨T, X, Y, n, hR, -⟩ := id hI
  refine m_aload_n dL_law_287 1 rfl rfl ?_
  refine m_aload_n dL_law_288 0 rfl rfl ?_
  refine m_iload_n dL_law_289 3 rfl rfl ?_
  refine m_iconst (v := 1) dL_law_290 (by decide) ?_
  refine m_iadd dL_law_291 ?_
  refine m_sld hX h1 dL_law_292 ?_
  refine m_callV 0 [.int (xs (x + 1).toNatClampNeg)] (c_X6_rain (ok_rain hR _)) (o_0 e _) rfl rfl q17_1 q17_2 q17_3 q1_2 q17_4 t_X6_rain rfl (by omega) (by decide) (Nat.le_of_ble_eq_true rfl) rfl dL_law_293 (kR (P := MW Z e cL_law 4 RL 2000 296 [(0, .ref b), (1, .ref (e.2.2.1 0)), (2, .ref (e.2.2.1 49)), (3, .int x)]) (fun r0 h => ?_))
  refine m_aload_n dL_law_296 2 rfl rfl ?_
  refine m_aload_n dL_law_297 0 rfl rfl ?_
  refine m_iload_n dL_law_298 3 rfl rfl ?_
  refine m_iconst (v := 1) dL_law_299 (by decide) ?_
  refine m_iadd dL_law_300 ?_
  refine m_sld hX h1 dL_law_301 ?_
  refine m_callV 49 [.int (xs (x + 1).toNatClampNeg)] (c_X7_rain h) (o_49 e _) rfl rfl q17_9 q17_10 q17_11 q1_5 q17_12 t_X7_rain rfl (by omega) (by decide) (Nat.le_of_ble_eq_true rfl) rfl dL_law_302 (kR (P := MW Z e cL_law 4 RL 2000 305 [(0, .ref b), (1, .ref (e.2.2.1 0)), (2, .ref (e.2.2.1 49)), (3, .int x)]) (fun r1 h => ?_))
  exact m_icmp_eq (tgt := 871) dL_law_305 (by decide) (fun _ => k S hI) (fun z => absurd h z)

set_option maxRecDepth 100000 in
set_option maxHeartbeats 4000000 in
theorem k_paint {Z : Zt} {e : GE} {b L : Nat} {xs : Nat → Int32} {x : Int32} {S : St} (hX : SX Z b L xs) (h1 : vp_in (x + 1) L) (h2 : vp_in (x + 2) L) (h3 : vp_in (x + 3) L) (h4 : vp_in (x + 4) L) (hI : INV S) (k : ∀ S2, INV S2 → MW Z e cL_law 4 RL 2000 871 [(0, .ref b), (1, .ref (e.2.2.1 0)), (2, .ref (e.2.2.1 49)), (3, .int x)] [] S2) : MW Z e cL_law 4 RL 2000 310 [(0, .ref b), (1, .ref (e.2.2.1 0)), (2, .ref (e.2.2.1 49)), (3, .int x)] [] S := by
  obtain ⟨T, X, Y, n, hR, -⟩ := id hI
  refine m_aload_n dL_law_310 1 rfl rfl ?_
  refine m_aload_n dL_law_311 0 rfl rfl ?_
  refine m_iload_n dL_law_312 3 rfl rfl ?_
  refine m_iconst (v := 1) dL_law_313 (by decide) ?_
  refine m_iadd dL_law_314 ?_
  refine m_sld hX h1 dL_law_315 ?_
  refine m_aload_n dL_law_316 0 rfl rfl ?_
  refine m_iload_n dL_law_317 3 rfl rfl ?_
  refine m_iconst (v := 2) dL_law_318 (by decide) ?_
  refine m_iadd dL_law_319 ?_
  refine m_sld hX h2 dL_law_320 ?_
  refine m_callV 0 [.int (xs (x + 1).toNatClampNeg), .int (xs (x + 2).toNatClampNeg)] (c_X6_paint (ok_paint hR _ _)) (o_0 e _) rfl rfl q17_13 q17_14 q17_15 q1_2 q17_16 t_X6_paint rfl (by omega) (by decide) (Nat.le_of_ble_eq_true rfl) rfl dL_law_321 (kR (P := MW Z e cL_law 4 RL 2000 324 [(0, .ref b), (1, .ref (e.2.2.1 0)), (2, .ref (e.2.2.1 49)), (3, .int x)]) (fun r0 h => ?_))
  refine m_aload_n dL_law_324 2 rfl rfl ?_
  refine m_aload_n dL_law_325 0 rfl rfl ?_
  refine m_iload_n dL_law_326 3 rfl rfl ?_
  refine m_iconst (v := 1) dL_law_327 (by decide) ?_
  refine m_iadd dL_law_328 ?_
  refine m_sld hX h1 dL_law_329 ?_
  refine m_aload_n dL_law_330 0 rfl rfl ?_
  refine m_iload_n dL_law_331 3 rfl rfl ?_
  refine m_iconst (v := 2) dL_law_332 (by decide) ?_
  refine m_iadd dL_law_333 ?_
  refine m_sld hX h2 dL_law_334 ?_
  refine m_callV 49 [.int (xs (x + 1).toNatClampNeg), .int (xs (x + 2).toNatClampNeg)] (c_X7_paint h) (o_49 e _) rfl rfl q18_1 q18_2 q18_3 q1_5 q18_4 t_X7_paint rfl (by omega) (by decide) (Nat.le_of_ble_eq_true rfl) rfl dL_law_335 (kR (P := MW Z e cL_law 4 RL 2000 338 [(0, .ref b), (1, .ref (e.2.2.1 0)), (2, .ref (e.2.2.1 49)), (3, .int x)]) (fun r1 h => ?_))
  exact m_icmp_eq (tgt := 871) dL_law_338 (by decide) (fun _ => k S hI) (fun z => absurd h z)

set_option maxRecDepth 100000 in
set_option maxHeartbeats 4000000 in
theorem k_holds {Z : Zt} {e : GE} {b L : Nat} {xs : Nat → Int32} {x : Int32} {S : St} (hX : SX Z b L xs) (h1 : vp_in (x + 1) L) (h2 : vp_in (x + 2) L) (h3 : vp_in (x + 3) L) (h4 : vp_in (x + 4) L) (hI : INV S) (k : ∀ S2, INV S2 → MW Z e cL_law 4 RL 2000 871 [(0, .ref b), (1, .ref (e.2.2.1 0)), (2, .ref (e.2.2.1 49)), (3, .int x)] [] S2) : MW Z e cL_law 4 RL 2000 343 [(0, .ref b), (1, .ref (e.2.2.1 0)), (2, .ref (e.2.2.1 49)), (3, .int x)] [] S := by
  refine m_aload_n dL_law_343 1 rfl rfl ?_
  refine m_aload_n dL_law_344 0 rfl rfl ?_
  refine m_iload_n dL_law_345 3 rfl rfl ?_
  refine m_iconst (v := 1) dL_law_346 (by decide) ?_
  refine m_iadd dL_law_347 ?_
  refine m_sld hX h1 dL_law_348 ?_
  refine m_aload_n dL_law_349 0 rfl rfl ?_
  refine m_iload_n dL_law_350 3 rfl rfl ?_
  refine m_iconst (v := 2) dL_law_351 (by decide) ?_
  refine m_iadd dL_law_352 ?_
  refine m_sld hX h2 dL_law_353 ?_
  refine m_aload_n dL_law_354 0 rfl rfl ?_
  refine m_iload_n dL_law_355 3 rfl rfl ?_
  refine m_iconst (v := 3) dL_law_356 (by decide) ?_
  refine m_iadd dL_law_357 ?_
  refine m_sld hX h3 dL_law_358 ?_
  refine m_aload_n dL_law_359 0 rfl rfl ?_
  refine m_iload_n dL_law_360 3 rfl rfl ?_
  refine m_iconst (v := 4) dL_law_361 (by decide) ?_
  refine m_iadd dL_law_362 ?_
  refine m_sld hX h4 dL_law_363 ?_
  refine m_callV 0 [.int (xs (x + 1).toNatClampNeg), .int (xs (x + 2).toNatClampNeg), .int (xs (x + 3).toNatClampNeg), .int (xs (x + 4).toNatClampNeg)] (c_X6_holds (ok_holds hI _ _ _ _)) (o_0 e _) rfl rfl q18_9 q18_10 q18_11 q1_2 q18_12 t_X6_holds rfl (by omega) (by decide) (Nat.le_of_ble_eq_true rfl) rfl dL_law_364 (kI (P := MW Z e cL_law 4 RL 2000 367 [(0, .ref b), (1, .ref (e.2.2.1 0)), (2, .ref (e.2.2.1 49)), (3, .int x)]) (fun r0 S1 h => ?_))
  refine m_aload_n dL_law_367 2 rfl rfl ?_
  refine m_aload_n dL_law_368 0 rfl rfl ?_
  refine m_iload_n dL_law_369 3 rfl rfl ?_
  refine m_iconst (v := 1) dL_law_370 (by decide) ?_
  refine m_iadd dL_law_371 ?_
  refine m_sld hX h1 dL_law_372 ?_
  refine m_aload_n dL_law_373 0 rfl rfl ?_
  refine m_iload_n dL_law_374 3 rfl rfl ?_
  refine m_iconst (v := 2) dL_law_375 (by decide) ?_
  refine m_iadd dL_law_376 ?_
  refine m_sld hX h2 dL_law_377 ?_
  refine m_aload_n dL_law_378 0 rfl rfl ?_
  refine m_iload_n dL_law_379 3 rfl rfl ?_
  refine m_iconst (v := 3) dL_law_380 (by decide) ?_
  refine m_iadd dL_law_381 ?_
  refine m_sld hX h3 dL_law_382 ?_
  refine m_aload_n dL_law_383 0 rfl rfl ?_
  refine m_iload_n dL_law_384 3 rfl rfl ?_
  refine m_iconst (v := 4) dL_law_385 (by decide) ?_
  refine m_iadd dL_law_386 ?_
  refine m_sld hX h4 dL_law_387 ?_
  refine m_callV 49 [.int (xs (x + 1).toNatClampNeg), .int (xs (x + 2).toNatClampNeg), .int (xs (x + 3).toNatClampNeg), .int (xs (x + 4).toNatClampNeg)] (c_X7_holds h) (o_49 e _) rfl rfl q18_18 q18_19 q18_20 q1_5 q18_21 t_X7_holds rfl (by omega) (by decide) (Nat.le_of_ble_eq_true rfl) rfl dL_law_388 (kI (P := MW Z e cL_law 4 RL 2000 391 [(0, .ref b), (1, .ref (e.2.2.1 0)), (2, .ref (e.2.2.1 49)), (3, .int x)]) (fun r1 S2 h => ?_))
  exact m_icmp_eq (tgt := 871) dL_law_391 (by decide) (fun _ => k S2 h.2) (fun z => absurd h.1 z)

set_option maxRecDepth 100000 in
set_option maxHeartbeats 4000000 in
theorem k_undo {Z : Zt} {e : GE} {b L : Nat} {xs : Nat → Int32} {x : Int32} {S : St} (hX : SX Z b L xs) (h1 : vp_in (x + 1) L) (h2 : vp_in (x + 2) L) (h3 : vp_in (x + 3) L) (h4 : vp_in (x + 4) L) (hI : INV S) (k : ∀ S2, INV S2 → MW Z e cL_law 4 RL 2000 871 [(0, .ref b), (1, .ref (e.2.2.1 0)), (2, .ref (e.2.2.1 49)), (3, .int x)] [] S2) : MW Z e cL_law 4 RL 2000 396 [(0, .ref b), (1, .ref (e.2.2.1 0)), (2, .ref (e.2.2.1 49)), (3, .int x)] [] S := by
  refine m_aload_n dL_law_396 1 rfl rfl ?_
  refine m_callV 0 [] (c_X6_undo (ok_undo hI)) (o_0 e _) rfl rfl q18_22 q18_23 q19_0 q1_2 q19_1 t_X6_undo rfl (by omega) (by decide) (Nat.le_of_ble_eq_true rfl) rfl dL_law_397 (kI (P := MW Z e cL_law 4 RL 2000 400 [(0, .ref b), (1, .ref (e.2.2.1 0)), (2, .ref (e.2.2.1 49)), (3, .int x)]) (fun r0 S1 h => ?_))
  refine m_aload_n dL_law_400 2 rfl rfl ?_
  refine m_callV 49 [] (c_X7_undo h) (o_49 e _) rfl rfl q19_2 q19_3 q19_4 q1_5 q19_5 t_X7_undo rfl (by omega) (by decide) (Nat.le_of_ble_eq_true rfl) rfl dL_law_401 (kI (P := MW Z e cL_law 4 RL 2000 404 [(0, .ref b), (1, .ref (e.2.2.1 0)), (2, .ref (e.2.2.1 49)), (3, .int x)]) (fun r1 S2 h => ?_))
  exact m_icmp_eq (tgt := 871) dL_law_404 (by decide) (fun _ => k S2 h.2) (fun z => absurd h.1 z)

set_option maxRecDepth 100000 in
set_option maxHeartbeats 4000000 in
theorem k_held {Z : Zt} {e : GE} {b L : Nat} {xs : Nat → Int32} {x : Int32} {S : St} (hX : SX Z b L xs) (h1 : vp_in (x + 1) L) (h2 : vp_in (x + 2) L) (h3 : vp_in (x + 3) L) (h4 : vp_in (x + 4) L) (hI : INV S) (k : ∀ S2, INV S2 → MW Z e cL_law 4 RL 2000 871 [(0, .ref b), (1, .ref (e.2.2.1 0)), (2, .ref (e.2.2.1 49)), (3, .int x)] [] S2) : MW Z e cL_law 4 RL 2000 409 [(0, .ref b), (1, .ref (e.2.2.1 0)), (2, .ref (e.2.2.1 49)), (3, .int x)] [] S := by
  refine m_aload_n dL_law_409 1 rfl rfl ?_
  refine m_aload_n dL_law_410 0 rfl rfl ?_
  refine m_iload_n dL_law_411 3 rfl rfl ?_
  refine m_iconst (v := 1) dL_law_412 (by decide) ?_
  refine m_iadd dL_law_413 ?_
  refine m_sld hX h1 dL_law_414 ?_
  refine m_aload_n dL_law_415 0 rfl rfl ?_
  refine m_iload_n dL_law_416 3 rfl rfl ?_
  refine m_iconst (v := 2) dL_law_417 (by decide) ?_
  refine m_iadd dL_law_418 ?_
  refine m_sld hX h2 dL_law_419 ?_
  refine m_callV 0 [.int (xs (x + 1).toNatClampNeg), .int (xs (x + 2).toNatClampNeg)] (c_X6_held (ok_held hI _ _)) (o_0 e _) rfl rfl q19_6 q19_7 q19_8 q1_2 q19_9 t_X6_held rfl (by omega) (by decide) (Nat.le_of_ble_eq_true rfl) rfl dL_law_420 (kR (P := MW Z e cL_law 4 RL 2000 423 [(0, .ref b), (1, .ref (e.2.2.1 0)), (2, .ref (e.2.2.1 49)), (3, .int x)]) (fun r0 h => ?_))
  refine m_aload_n dL_law_423 2 rfl rfl ?_
  refine m_aload_n dL_law_424 0 rfl rfl ?_
  refine m_iload_n dL_law_425 3 rfl rfl ?_
  refine m_iconst (v := 1) dL_law_426 (by decide) ?_
  refine m_iadd dL_law_427 ?_
  refine m_sld hX h1 dL_law_428 ?_
  refine m_aload_n dL_law_429 0 rfl rfl ?_
  refine m_iload_n dL_law_430 3 rfl rfl ?_
  refine m_iconst (v := 2) dL_law_431 (by decide) ?_
  refine m_iadd dL_law_432 ?_
  refine m_sld hX h2 dL_law_433 ?_
  refine m_callV 49 [.int (xs (x + 1).toNatClampNeg), .int (xs (x + 2).toNatClampNeg)] (c_X7_held h) (o_49 e _) rfl rfl q19_14 q19_15 q19_16 q1_5 q19_17 t_X7_held rfl (by omega) (by decide) (Nat.le_of_ble_eq_true rfl) rfl dL_law_434 (kR (P := MW Z e cL_law 4 RL 2000 437 [(0, .ref b), (1, .ref (e.2.2.1 0)), (2, .ref (e.2.2.1 49)), (3, .int x)]) (fun r1 h => ?_))
  exact m_icmp_eq (tgt := 871) dL_law_437 (by decide) (fun _ => k S hI) (fun z => absurd h z)

set_option maxRecDepth 100000 in
set_option maxHeartbeats 4000000 in
theorem k_rust {Z : Zt} {e : GE} {b L : Nat} {xs : Nat → Int32} {x : Int32} {S : St} (hX : SX Z b L xs) (h1 : vp_in (x + 1) L) (h2 : vp_in (x + 2) L) (h3 : vp_in (x + 3) L) (h4 : vp_in (x + 4) L) (hI : INV S) (k : ∀ S2, INV S2 → MW Z e cL_law 4 RL 2000 871 [(0, .ref b), (1, .ref (e.2.2.1 0)), (2, .ref (e.2.2.1 49)), (3, .int x)] [] S2) : MW Z e cL_law 4 RL 2000 442 [(0, .ref b), (1, .ref (e.2.2.1 0)), (2, .ref (e.2.2.1 49)), (3, .int x)] [] S := by
  obtain ⟨T, X, Y, n, hR, hN, -⟩ := id hI
  refine m_aload_n dL_law_442 1 rfl rfl ?_
  refine m_aload_n dL_law_443 0 rfl rfl ?_
  refine m_iload_n dL_law_444 3 rfl rfl ?_
  refine m_iconst (v := 1) dL_law_445 (by decide) ?_
  refine m_iadd dL_law_446 ?_
  refine m_sld hX h1 dL_law_447 ?_
  refine m_aload_n dL_law_448 0 rfl rfl ?_
  refine m_iload_n dL_law_449 3 rfl rfl ?_
  refine m_iconst (v := 2) dL_law_450 (by decide) ?_
  refine m_iadd dL_law_451 ?_
  refine m_sld hX h2 dL_law_452 ?_
  refine m_callV 0 [.int (xs (x + 1).toNatClampNeg), .int (xs (x + 2).toNatClampNeg)] (c_X6_rust (ok_rust hR hN _ _)) (o_0 e _) rfl rfl q19_18 q19_19 q19_20 q1_2 q19_21 t_X6_rust rfl (by omega) (by decide) (Nat.le_of_ble_eq_true rfl) rfl dL_law_453 (kR (P := MW Z e cL_law 4 RL 2000 456 [(0, .ref b), (1, .ref (e.2.2.1 0)), (2, .ref (e.2.2.1 49)), (3, .int x)]) (fun r0 h => ?_))
  refine m_aload_n dL_law_456 2 rfl rfl ?_
  refine m_aload_n dL_law_457 0 rfl rfl ?_
  refine m_iload_n dL_law_458 3 rfl rfl ?_
  refine m_iconst (v := 1) dL_law_459 (by decide) ?_
  refine m_iadd dL_law_460 ?_
  refine m_sld hX h1 dL_law_461 ?_
  refine m_aload_n dL_law_462 0 rfl rfl ?_
  refine m_iload_n dL_law_463 3 rfl rfl ?_
  refine m_iconst (v := 2) dL_law_464 (by decide) ?_
  refine m_iadd dL_law_465 ?_
  refine m_sld hX h2 dL_law_466 ?_
  refine m_callV 49 [.int (xs (x + 1).toNatClampNeg), .int (xs (x + 2).toNatClampNeg)] (c_X7_rust h) (o_49 e _) rfl rfl q20_16 q20_17 q20_18 q1_5 q20_19 t_X7_rust rfl (by omega) (by decide) (Nat.le_of_ble_eq_true rfl) rfl dL_law_467 (kR (P := MW Z e cL_law 4 RL 2000 470 [(0, .ref b), (1, .ref (e.2.2.1 0)), (2, .ref (e.2.2.1 49)), (3, .int x)]) (fun r1 h => ?_))
  exact m_icmp_eq (tgt := 871) dL_law_470 (by decide) (fun _ => k S hI) (fun z => absurd h z)

set_option maxRecDepth 100000 in
set_option maxHeartbeats 4000000 in
theorem k_saw {Z : Zt} {e : GE} {b L : Nat} {xs : Nat → Int32} {x : Int32} {S : St} (hX : SX Z b L xs) (h1 : vp_in (x + 1) L) (h2 : vp_in (x + 2) L) (h3 : vp_in (x + 3) L) (h4 : vp_in (x + 4) L) (hI : INV S) (k : ∀ S2, INV S2 → MW Z e cL_law 4 RL 2000 871 [(0, .ref b), (1, .ref (e.2.2.1 0)), (2, .ref (e.2.2.1 49)), (3, .int x)] [] S2) : MW Z e cL_law 4 RL 2000 475 [(0, .ref b), (1, .ref (e.2.2.1 0)), (2, .ref (e.2.2.1 49)), (3, .int x)] [] S := by
  refine m_aload_n dL_law_475 1 rfl rfl ?_
  refine m_aload_n dL_law_476 0 rfl rfl ?_
  refine m_iload_n dL_law_477 3 rfl rfl ?_
  refine m_iconst (v := 1) dL_law_478 (by decide) ?_
  refine m_iadd dL_law_479 ?_
  refine m_sld hX h1 dL_law_480 ?_
  refine m_aload_n dL_law_481 0 rfl rfl ?_
  refine m_iload_n dL_law_482 3 rfl rfl ?_
  refine m_iconst (v := 2) dL_law_483 (by decide) ?_
  refine m_iadd dL_law_484 ?_
  refine m_sld hX h2 dL_law_485 ?_
  refine m_callV 0 [.int (xs (x + 1).toNatClampNeg), .int (xs (x + 2).toNatClampNeg)] (c_X6_saw (ok_saw hI _ _)) (o_0 e _) rfl rfl q21_4 q21_5 q21_6 q1_2 q21_7 t_X6_saw rfl (by omega) (by decide) (Nat.le_of_ble_eq_true rfl) rfl dL_law_486 (kI (P := MW Z e cL_law 4 RL 2000 489 [(0, .ref b), (1, .ref (e.2.2.1 0)), (2, .ref (e.2.2.1 49)), (3, .int x)]) (fun r0 S1 h => ?_))
  refine m_aload_n dL_law_489 2 rfl rfl ?_
  refine m_aload_n dL_law_490 0 rfl rfl ?_
  refine m_iload_n dL_law_491 3 rfl rfl ?_
  refine m_iconst (v := 1) dL_law_492 (by decide) ?_
  refine m_iadd dL_law_493 ?_
  refine m_sld hX h1 dL_law_494 ?_
  refine m_aload_n dL_law_495 0 rfl rfl ?_
  refine m_iload_n dL_law_496 3 rfl rfl ?_
  refine m_iconst (v := 2) dL_law_497 (by decide) ?_
  refine m_iadd dL_law_498 ?_
  refine m_sld hX h2 dL_law_499 ?_
  refine m_callV 49 [.int (xs (x + 1).toNatClampNeg), .int (xs (x + 2).toNatClampNeg)] (c_X7_saw h) (o_49 e _) rfl rfl q21_9 q21_10 q21_11 q1_5 q21_12 t_X7_saw rfl (by omega) (by decide) (Nat.le_of_ble_eq_true rfl) rfl dL_law_500 (kI (P := MW Z e cL_law 4 RL 2000 503 [(0, .ref b), (1, .ref (e.2.2.1 0)), (2, .ref (e.2.2.1 49)), (3, .int x)]) (fun r1 S2 h => ?_))
  exact m_icmp_eq (tgt := 871) dL_law_503 (by decide) (fun _ => k S2 h.2) (fun z => absurd h.1 z)

set_option maxRecDepth 100000 in
set_option maxHeartbeats 4000000 in
theorem k_hide {Z : Zt} {e : GE} {b L : Nat} {xs : Nat → Int32} {x : Int32} {S : St} (hX : SX Z b L xs) (h1 : vp_in (x + 1) L) (h2 : vp_in (x + 2) L) (h3 : vp_in (x + 3) L) (h4 : vp_in (x + 4) L) (hI : INV S) (k : ∀ S2, INV S2 → MW Z e cL_law 4 RL 2000 871 [(0, .ref b), (1, .ref (e.2.2.1 0)), (2, .ref (e.2.2.1 49)), (3, .int x)] [] S2) : MW Z e cL_law 4 RL 2000 508 [(0, .ref b), (1, .ref (e.2.2.1 0)), (2, .ref (e.2.2.1 49)), (3, .int x)] [] S := by
  refine m_aload_n dL_law_508 1 rfl rfl ?_
  refine m_aload_n dL_law_509 0 rfl rfl ?_
  refine m_iload_n dL_law_510 3 rfl rfl ?_
  refine m_iconst (v := 1) dL_law_511 (by decide) ?_
  refine m_iadd dL_law_512 ?_
  refine m_sld hX h1 dL_law_513 ?_
  refine m_callV 0 [.int (xs (x + 1).toNatClampNeg)] (c_X6_hide (ok_hide hI _)) (o_0 e _) rfl rfl q21_13 q21_14 q21_15 q1_2 q21_16 t_X6_hide rfl (by omega) (by decide) (Nat.le_of_ble_eq_true rfl) rfl dL_law_514 (kI (P := MW Z e cL_law 4 RL 2000 517 [(0, .ref b), (1, .ref (e.2.2.1 0)), (2, .ref (e.2.2.1 49)), (3, .int x)]) (fun r0 S1 h => ?_))
  refine m_aload_n dL_law_517 2 rfl rfl ?_
  refine m_aload_n dL_law_518 0 rfl rfl ?_
  refine m_iload_n dL_law_519 3 rfl rfl ?_
  refine m_iconst (v := 1) dL_law_520 (by decide) ?_
  refine m_iadd dL_law_521 ?_
  refine m_sld hX h1 dL_law_522 ?_
  refine m_callV 49 [.int (xs (x + 1).toNatClampNeg)] (c_X7_hide h) (o_49 e _) rfl rfl q21_17 q21_18 q21_19 q1_5 q21_20 t_X7_hide rfl (by omega) (by decide) (Nat.le_of_ble_eq_true rfl) rfl dL_law_523 (kI (P := MW Z e cL_law 4 RL 2000 526 [(0, .ref b), (1, .ref (e.2.2.1 0)), (2, .ref (e.2.2.1 49)), (3, .int x)]) (fun r1 S2 h => ?_))
  exact m_icmp_eq (tgt := 871) dL_law_526 (by decide) (fun _ => k S2 h.2) (fun z => absurd h.1 z)
