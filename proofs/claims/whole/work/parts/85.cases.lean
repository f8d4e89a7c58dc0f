/-! the law's calls, one theorem for each -/
section LAWC
set_option maxRecDepth 20000 in
set_option maxHeartbeats 1000000 in
theorem lc_0 {p : Program} {l : Launch} {e : Env} {s : State} {m : MethodId} {below : List Frame} {meth : Method} {c : Code} {D : va_G} {cA : Nat → ClassId} {b L : Nat} {xs : Nat → Int32} {cells slots : Nat} {Q : State → Prop} {u : St} {ls : Array Slot} {j F : Nat} (C : Lc p s m meth c D cA b L xs) (hF : 200000 ≤ F) (hI : Inv u) (hj : 6 * j + 6 ≤ L) (hl : lv_has ls 7 (lvL b s.heap.size j)) (hcs : cells ≤ room_1.cells ∧ slots ≤ room_1.slots) (kk : ∀ u' : St, Inv u' → Z SH p l e room_1 s m #[Value.ref b] below meth c D cA (adB s.heap.size) (inB s.heap.size) cells slots Q u' 1097 ls []) : Z SH p l e room_1 s m #[Value.ref b] below meth c D cA (adB s.heap.size) (inB s.heap.size) cells slots Q u 164 ls [] := by
  obtain ⟨r, u1, u2, h1, h2, h3⟩ := io_feed hF hI (xs (6 * j + 1)) (xs (6 * j + 2)) (xs (6 * j + 3)) (xs (6 * j + 4)) (xs (6 * j + 5))
  refine z_aload_n C.1 (i := 1) (k := 3) hl dL_law_164 rfl rfl ?_
  refine z_arg C 1 (by decide) rfl hj hl dL_law_165 dL_law_166 dL_law_168 dL_law_169 dL_law_170 ?_
  refine z_arg C 2 (by decide) rfl hj hl dL_law_171 dL_law_172 dL_law_174 dL_law_175 dL_law_176 ?_
  refine z_arg C 3 (by decide) rfl hj hl dL_law_177 dL_law_178 dL_law_180 dL_law_181 dL_law_182 ?_
  refine z_arg C 4 (by decide) rfl hj hl dL_law_183 dL_law_184 dL_law_186 dL_law_187 dL_law_188 ?_
  refine z_arg C 5 (by decide) rfl hj hl dL_law_189 dL_law_190 dL_law_192 dL_law_193 dL_law_194 ?_
  refine z_callV C.1 (ci := 11) [.int (xs (6 * j + 1)), .int (xs (6 * j + 2)), .int (xs (6 * j + 3)), .int (xs (6 * j + 4)), .int (xs (6 * j + 5))] [] [.int r] (m_X11_feed F _ _ _ _ _ _ _ _ h1) cw_X11_feed vw_X11_feed ml_L_19 sh_0 rfl rfl rfl rfl hl.1 (Nat.le_of_ble_eq_true rfl) ⟨Nat.le_of_ble_eq_true rfl, Nat.le_of_ble_eq_true rfl⟩ hcs rfl dL_law_195 ?_
  refine z_aload_n C.1 (i := 2) (k := 2) hl dL_law_198 rfl rfl ?_
  refine z_arg C 1 (by decide) rfl hj hl dL_law_199 dL_law_200 dL_law_202 dL_law_203 dL_law_204 ?_
  refine z_arg C 2 (by decide) rfl hj hl dL_law_205 dL_law_206 dL_law_208 dL_law_209 dL_law_210 ?_
  refine z_arg C 3 (by decide) rfl hj hl dL_law_211 dL_law_212 dL_law_214 dL_law_215 dL_law_216 ?_
  refine z_arg C 4 (by decide) rfl hj hl dL_law_217 dL_law_218 dL_law_220 dL_law_221 dL_law_222 ?_
  refine z_arg C 5 (by decide) rfl hj hl dL_law_223 dL_law_224 dL_law_226 dL_law_227 dL_law_228 ?_
  refine z_callV C.1 (ci := 12) [.int (xs (6 * j + 1)), .int (xs (6 * j + 2)), .int (xs (6 * j + 3)), .int (xs (6 * j + 4)), .int (xs (6 * j + 5))] [.int r] [.int r, .int r] (m_X12_feed F _ _ _ _ _ _ _ _ h2) cw_X12_feed vw_X12_feed ml_L_23 sh_50 rfl rfl rfl rfl hl.1 (Nat.le_of_ble_eq_true rfl) ⟨Nat.le_of_ble_eq_true rfl, Nat.le_of_ble_eq_true rfl⟩ hcs rfl dL_law_229 ?_
  exact z_icmp_eq C.1 1097 dL_law_232 (by decide) (fun _ => kk u2 h3) (fun h => absurd rfl h)
set_option maxRecDepth 20000 in
set_option maxHeartbeats 1000000 in
theorem lc_1 {p : Program} {l : Launch} {e : Env} {s : State} {m : MethodId} {below : List Frame} {meth : Method} {c : Code} {D : va_G} {cA : Nat → ClassId} {b L : Nat} {xs : Nat → Int32} {cells slots : Nat} {Q : State → Prop} {u : St} {ls : Array Slot} {j F : Nat} (C : Lc p s m meth c D cA b L xs) (hF : 200000 ≤ F) (hI : Inv u) (hj : 6 * j + 6 ≤ L) (hl : lv_has ls 7 (lvL b s.heap.size j)) (hcs : cells ≤ room_1.cells ∧ slots ≤ room_1.slots) (kk : ∀ u' : St, Inv u' → Z SH p l e room_1 s m #[Value.ref b] below meth c D cA (adB s.heap.size) (inB s.heap.size) cells slots Q u' 1097 ls []) : Z SH p l e room_1 s m #[Value.ref b] below meth c D cA (adB s.heap.size) (inB s.heap.size) cells slots Q u 237 ls [] := by
  obtain ⟨r, u1, u2, h1, h2, h3⟩ := io_end (F := F) hI (xs (6 * j + 1))
  refine z_aload_n C.1 (i := 1) (k := 3) hl dL_law_237 rfl rfl ?_
  refine z_arg C 1 (by decide) rfl hj hl dL_law_238 dL_law_239 dL_law_241 dL_law_242 dL_law_243 ?_
  refine z_callV C.1 (ci := 11) [.int (xs (6 * j + 1))] [] [.int r] (m_X11_end F _ _ _ _ h1) cw_X11_end vw_X11_end ml_L_24 sh_0 rfl rfl rfl rfl hl.1 (Nat.le_of_ble_eq_true rfl) ⟨Nat.le_of_ble_eq_true rfl, Nat.le_of_ble_eq_true rfl⟩ hcs rfl dL_law_244 ?_
  refine z_aload_n C.1 (i := 2) (k := 2) hl dL_law_247 rfl rfl ?_
  refine z_arg C 1 (by decide) rfl hj hl dL_law_248 dL_law_249 dL_law_251 dL_law_252 dL_law_253 ?_
  refine z_callV C.1 (ci := 12) [.int (xs (6 * j + 1))] [.int r] [.int r, .int r] (m_X12_end F _ _ _ _ h2) cw_X12_end vw_X12_end ml_L_28 sh_50 rfl rfl rfl rfl hl.1 (Nat.le_of_ble_eq_true rfl) ⟨Nat.le_of_ble_eq_true rfl, Nat.le_of_ble_eq_true rfl⟩ hcs rfl dL_law_254 ?_
  exact z_icmp_eq C.1 1097 dL_law_257 (by decide) (fun _ => kk u2 h3) (fun h => absurd rfl h)
set_option maxRecDepth 20000 in
set_option maxHeartbeats 1000000 in
theorem lc_2 {p : Program} {l : Launch} {e : Env} {s : State} {m : MethodId} {below : List Frame} {meth : Method} {c : Code} {D : va_G} {cA : Nat → ClassId} {b L : Nat} {xs : Nat → Int32} {cells slots : Nat} {Q : State → Prop} {u : St} {ls : Array Slot} {j F : Nat} (C : Lc p s m meth c D cA b L xs) (hF : 200000 ≤ F) (hI : Inv u) (hj : 6 * j + 6 ≤ L) (hl : lv_has ls 7 (lvL b s.heap.size j)) (hcs : cells ≤ room_1.cells ∧ slots ≤ room_1.slots) (kk : ∀ u' : St, Inv u' → Z SH p l e room_1 s m #[Value.ref b] below meth c D cA (adB s.heap.size) (inB s.heap.size) cells slots Q u' 1097 ls []) : Z SH p l e room_1 s m #[Value.ref b] below meth c D cA (adB s.heap.size) (inB s.heap.size) cells slots Q u 262 ls [] := by
  obtain ⟨r, u1, u2, h1, h2, h3⟩ := io_fault hF hI
  refine z_aload_n C.1 (i := 1) (k := 3) hl dL_law_262 rfl rfl ?_
  refine z_callV C.1 (ci := 11) [] [] [.int r] (m_X11_fault F  _ _ _ h1) cw_X11_fault vw_X11_fault ml_L_29 sh_0 rfl rfl rfl rfl hl.1 (Nat.le_of_ble_eq_true rfl) ⟨Nat.le_of_ble_eq_true rfl, Nat.le_of_ble_eq_true rfl⟩ hcs rfl dL_law_263 ?_
  refine z_aload_n C.1 (i := 2) (k := 2) hl dL_law_266 rfl rfl ?_
  refine z_callV C.1 (ci := 12) [] [.int r] [.int r, .int r] (m_X12_fault F  _ _ _ h2) cw_X12_fault vw_X12_fault ml_L_33 sh_50 rfl rfl rfl rfl hl.1 (Nat.le_of_ble_eq_true rfl) ⟨Nat.le_of_ble_eq_true rfl, Nat.le_of_ble_eq_true rfl⟩ hcs rfl dL_law_267 ?_
  exact z_icmp_eq C.1 1097 dL_law_270 (by decide) (fun _ => kk u2 h3) (fun h => absurd rfl h)
set_option maxRecDepth 20000 in
set_option maxHeartbeats 1000000 in
theorem lc_3 {p : Program} {l : Launch} {e : Env} {s : State} {m : MethodId} {below : List Frame} {meth : Method} {c : Code} {D : va_G} {cA : Nat → ClassId} {b L : Nat} {xs : Nat → Int32} {cells slots : Nat} {Q : State → Prop} {u : St} {ls : Array Slot} {j F : Nat} (C : Lc p s m meth c D cA b L xs) (hF : 200000 ≤ F) (hI : Inv u) (hj : 6 * j + 6 ≤ L) (hl : lv_has ls 7 (lvL b s.heap.size j)) (hcs : cells ≤ room_1.cells ∧ slots ≤ room_1.slots) (kk : ∀ u' : St, Inv u' → Z SH p l e room_1 s m #[Value.ref b] below meth c D cA (adB s.heap.size) (inB s.heap.size) cells slots Q u' 1097 ls []) : Z SH p l e room_1 s m #[Value.ref b] below meth c D cA (adB s.heap.size) (inB s.heap.size) cells slots Q u 275 ls [] := by
  obtain ⟨r, u1, u2, h1, h2, h3⟩ := io_circuit hF hI (xs (6 * j + 1))
  refine z_aload_n C.1 (i := 1) (k := 3) hl dL_law_275 rfl rfl ?_
  refine z_arg C 1 (by decide) rfl hj hl dL_law_276 dL_law_277 dL_law_279 dL_law_280 dL_law_281 ?_
  refine z_callV C.1 (ci := 11) [.int (xs (6 * j + 1))] [] [.int r] (m_X11_circuit F _ _ _ _ h1) cw_X11_circuit vw_X11_circuit ml_L_34 sh_0 rfl rfl rfl rfl hl.1 (Nat.le_of_ble_eq_true rfl) ⟨Nat.le_of_ble_eq_true rfl, Nat.le_of_ble_eq_true rfl⟩ hcs rfl dL_law_282 ?_
  refine z_aload_n C.1 (i := 2) (k := 2) hl dL_law_285 rfl rfl ?_
  refine z_arg C 1 (by decide) rfl hj hl dL_law_286 dL_law_287 dL_law_289 dL_law_290 dL_law_291 ?_
  refine z_callV C.1 (ci := 12) [.int (xs (6 * j + 1))] [.int r] [.int r, .int r] (m_X12_circuit F _ _ _ _ h2) cw_X12_circuit vw_X12_circuit ml_L_37 sh_50 rfl rfl rfl rfl hl.1 (Nat.le_of_ble_eq_true rfl) ⟨Nat.le_of_ble_eq_true rfl, Nat.le_of_ble_eq_true rfl⟩ hcs rfl dL_law_292 ?_
  exact z_icmp_eq C.1 1097 dL_law_295 (by decide) (fun _ => kk u2 h3) (fun h => absurd rfl h)
set_option maxRecDepth 20000 in
set_option maxHeartbeats 1000000 in
theorem lc_4 {p : Program} {l : Launch} {e : Env} {s : State} {m : MethodId} {below : List Frame} {meth : Method} {c : Code} {D : va_G} {cA : Nat → ClassId} {b L : Nat} {xs : Nat → Int32} {cells slots : Nat} {Q : State → Prop} {u : St} {ls : Array Slot} {j F : Nat} (C : Lc p s m meth c D cA b L xs) (hF : 200000 ≤ F) (hI : Inv u) (hj : 6 * j + 6 ≤ L) (hl : lv_has ls 7 (lvL b s.heap.size j)) (hcs : cells ≤ room_1.cells ∧ slots ≤ room_1.slots) (kk : ∀ u' : St, Inv u' → Z SH p l e room_1 s m #[Value.ref b] below meth c D cA (adB s.heap.size) (inB s.heap.size) cells slots Q u' 1097 ls []) : Z SH p l e room_1 s m #[Value.ref b] below meth c D cA (adB s.heap.size) (inB s.heap.size) cells slots Q u 300 ls [] := by
  by_cases hz : xs (6 * j + 3) = 0
  · obtain ⟨r, u1, u2, h1, h2, h3⟩ := io_arbiter (F := F) hI (xs (6 * j + 1)) (xs (6 * j + 2)) false
    refine z_aload_n C.1 (i := 1) (k := 3) hl dL_law_300 rfl rfl ?_
    refine z_arg C 1 (by decide) rfl hj hl dL_law_301 dL_law_302 dL_law_304 dL_law_305 dL_law_306 ?_
    refine z_arg C 2 (by decide) rfl hj hl dL_law_307 dL_law_308 dL_law_310 dL_law_311 dL_law_312 ?_
    refine z_arg C 3 (by decide) rfl hj hl dL_law_313 dL_law_314 dL_law_316 dL_law_317 dL_law_318 ?_
    refine z_if_eq C.1 326 dL_law_319 (by decide) (fun _ => ?_) (fun h => absurd hz h)
    refine z_iconst C.1 (b2i false) dL_law_326 (by decide) ?_
    refine z_callV C.1 (ci := 11) [.int (xs (6 * j + 1)), .int (xs (6 * j + 2)), .int (b2i false)] [] [.int r] (m_X11_arbiter F _ _ _ _ _ _ h1) cw_X11_arbiter vw_X11_arbiter ml_L_38 sh_0 rfl rfl rfl rfl hl.1 (Nat.le_of_ble_eq_true rfl) ⟨Nat.le_of_ble_eq_true rfl, Nat.le_of_ble_eq_true rfl⟩ hcs rfl dL_law_327 ?_
    refine z_aload_n C.1 (i := 2) (k := 2) hl dL_law_330 rfl rfl ?_
    refine z_arg C 1 (by decide) rfl hj hl dL_law_331 dL_law_332 dL_law_334 dL_law_335 dL_law_336 ?_
    refine z_arg C 2 (by decide) rfl hj hl dL_law_337 dL_law_338 dL_law_340 dL_law_341 dL_law_342 ?_
    refine z_arg C 3 (by decide) rfl hj hl dL_law_343 dL_law_344 dL_law_346 dL_law_347 dL_law_348 ?_
    refine z_if_eq C.1 356 dL_law_349 (by decide) (fun _ => ?_) (fun h => absurd hz h)
    refine z_iconst C.1 (b2i false) dL_law_356 (by decide) ?_
    refine z_callV C.1 (ci := 12) [.int (xs (6 * j + 1)), .int (xs (6 * j + 2)), .int (b2i false)] [.int r] [.int r, .int r] (m_X12_arbiter F _ _ _ _ _ _ h2) cw_X12_arbiter vw_X12_arbiter ml_L_42 sh_50 rfl rfl rfl rfl hl.1 (Nat.le_of_ble_eq_true rfl) ⟨Nat.le_of_ble_eq_true rfl, Nat.le_of_ble_eq_true rfl⟩ hcs rfl dL_law_357 ?_
    exact z_icmp_eq C.1 1097 dL_law_360 (by decide) (fun _ => kk u2 h3) (fun h => absurd rfl h)
  · obtain ⟨r, u1, u2, h1, h2, h3⟩ := io_arbiter (F := F) hI (xs (6 * j + 1)) (xs (6 * j + 2)) true
    refine z_aload_n C.1 (i := 1) (k := 3) hl dL_law_300 rfl rfl ?_
    refine z_arg C 1 (by decide) rfl hj hl dL_law_301 dL_law_302 dL_law_304 dL_law_305 dL_law_306 ?_
    refine z_arg C 2 (by decide) rfl hj hl dL_law_307 dL_law_308 dL_law_310 dL_law_311 dL_law_312 ?_
    refine z_arg C 3 (by decide) rfl hj hl dL_law_313 dL_law_314 dL_law_316 dL_law_317 dL_law_318 ?_
    refine z_if_eq C.1 326 dL_law_319 (by decide) (fun h => absurd h hz) (fun _ => ?_)
    refine z_iconst C.1 (b2i true) dL_law_322 (by decide) ?_
    refine z_goto C.1 327 dL_law_323 (by decide) ?_
    refine z_callV C.1 (ci := 11) [.int (xs (6 * j + 1)), .int (xs (6 * j + 2)), .int (b2i true)] [] [.int r] (m_X11_arbiter F _ _ _ _ _ _ h1) cw_X11_arbiter vw_X11_arbiter ml_L_38 sh_0 rfl rfl rfl rfl hl.1 (Nat.le_of_ble_eq_true rfl) ⟨Nat.le_of_ble_eq_true rfl, Nat.le_of_ble_eq_true rfl⟩ hcs rfl dL_law_327 ?_
    refine z_aload_n C.1 (i := 2) (k := 2) hl dL_law_330 rfl rfl ?_
    refine z_arg C 1 (by decide) rfl hj hl dL_law_331 dL_law_332 dL_law_334 dL_law_335 dL_law_336 ?_
    refine z_arg C 2 (by decide) rfl hj hl dL_law_337 dL_law_338 dL_law_340 dL_law_341 dL_law_342 ?_
    refine z_arg C 3 (by decide) rfl hj hl dL_law_343 dL_law_344 dL_law_346 dL_law_347 dL_law_348 ?_
    refine z_if_eq C.1 356 dL_law_349 (by decide) (fun h => absurd h hz) (fun _ => ?_)
    refine z_iconst C.1 (b2i true) dL_law_352 (by decide) ?_
    refine z_goto C.1 357 dL_law_353 (by decide) ?_
    refine z_callV C.1 (ci := 12) [.int (xs (6 * j + 1)), .int (xs (6 * j + 2)), .int (b2i true)] [.int r] [.int r, .int r] (m_X12_arbiter F _ _ _ _ _ _ h2) cw_X12_arbiter vw_X12_arbiter ml_L_42 sh_50 rfl rfl rfl rfl hl.1 (Nat.le_of_ble_eq_true rfl) ⟨Nat.le_of_ble_eq_true rfl, Nat.le_of_ble_eq_true rfl⟩ hcs rfl dL_law_357 ?_
    exact z_icmp_eq C.1 1097 dL_law_360 (by decide) (fun _ => kk u2 h3) (fun h => absurd rfl h)
set_option maxRecDepth 20000 in
set_option maxHeartbeats 1000000 in
theorem lc_5 {p : Program} {l : Launch} {e : Env} {s : State} {m : MethodId} {below : List Frame} {meth : Method} {c : Code} {D : va_G} {cA : Nat → ClassId} {b L : Nat} {xs : Nat → Int32} {cells slots : Nat} {Q : State → Prop} {u : St} {ls : Array Slot} {j F : Nat} (C : Lc p s m meth c D cA b L xs) (hF : 200000 ≤ F) (hI : Inv u) (hj : 6 * j + 6 ≤ L) (hl : lv_has ls 7 (lvL b s.heap.size j)) (hcs : cells ≤ room_1.cells ∧ slots ≤ room_1.slots) (kk : ∀ u' : St, Inv u' → Z SH p l e room_1 s m #[Value.ref b] below meth c D cA (adB s.heap.size) (inB s.heap.size) cells slots Q u' 1097 ls []) : Z SH p l e room_1 s m #[Value.ref b] below meth c D cA (adB s.heap.size) (inB s.heap.size) cells slots Q u 365 ls [] := by
  by_cases hz : xs (6 * j + 2) = 0
  · obtain ⟨r, u1, u2, h1, h2, h3⟩ := io_stuck (F := F) hI (xs (6 * j + 1)) false
    refine z_aload_n C.1 (i := 1) (k := 3) hl dL_law_365 rfl rfl ?_
    refine z_arg C 1 (by decide) rfl hj hl dL_law_366 dL_law_367 dL_law_369 dL_law_370 dL_law_371 ?_
    refine z_arg C 2 (by decide) rfl hj hl dL_law_372 dL_law_373 dL_law_375 dL_law_376 dL_law_377 ?_
    refine z_if_eq C.1 385 dL_law_378 (by decide) (fun _ => ?_) (fun h => absurd hz h)
    refine z_iconst C.1 (b2i false) dL_law_385 (by decide) ?_
    refine z_callV C.1 (ci := 11) [.int (xs (6 * j + 1)), .int (b2i false)] [] [.int r] (m_X11_stuck F _ _ _ _ _ h1) cw_X11_stuck vw_X11_stuck ml_L_43 sh_0 rfl rfl rfl rfl hl.1 (Nat.le_of_ble_eq_true rfl) ⟨Nat.le_of_ble_eq_true rfl, Nat.le_of_ble_eq_true rfl⟩ hcs rfl dL_law_386 ?_
    refine z_aload_n C.1 (i := 2) (k := 2) hl dL_law_389 rfl rfl ?_
    refine z_arg C 1 (by decide) rfl hj hl dL_law_390 dL_law_391 dL_law_393 dL_law_394 dL_law_395 ?_
    refine z_arg C 2 (by decide) rfl hj hl dL_law_396 dL_law_397 dL_law_399 dL_law_400 dL_law_401 ?_
    refine z_if_eq C.1 409 dL_law_402 (by decide) (fun _ => ?_) (fun h => absurd hz h)
    refine z_iconst C.1 (b2i false) dL_law_409 (by decide) ?_
    refine z_callV C.1 (ci := 12) [.int (xs (6 * j + 1)), .int (b2i false)] [.int r] [.int r, .int r] (m_X12_stuck F _ _ _ _ _ h2) cw_X12_stuck vw_X12_stuck ml_L_47 sh_50 rfl rfl rfl rfl hl.1 (Nat.le_of_ble_eq_true rfl) ⟨Nat.le_of_ble_eq_true rfl, Nat.le_of_ble_eq_true rfl⟩ hcs rfl dL_law_410 ?_
    exact z_icmp_eq C.1 1097 dL_law_413 (by decide) (fun _ => kk u2 h3) (fun h => absurd rfl h)
  · obtain ⟨r, u1, u2, h1, h2, h3⟩ := io_stuck (F := F) hI (xs (6 * j + 1)) true
    refine z_aload_n C.1 (i := 1) (k := 3) hl dL_law_365 rfl rfl ?_
    refine z_arg C 1 (by decide) rfl hj hl dL_law_366 dL_law_367 dL_law_369 dL_law_370 dL_law_371 ?_
    refine z_arg C 2 (by decide) rfl hj hl dL_law_372 dL_law_373 dL_law_375 dL_law_376 dL_law_377 ?_
    refine z_if_eq C.1 385 dL_law_378 (by decide) (fun h => absurd h hz) (fun _ => ?_)
    refine z_iconst C.1 (b2i true) dL_law_381 (by decide) ?_
    refine z_goto C.1 386 dL_law_382 (by decide) ?_
    refine z_callV C.1 (ci := 11) [.int (xs (6 * j + 1)), .int (b2i true)] [] [.int r] (m_X11_stuck F _ _ _ _ _ h1) cw_X11_stuck vw_X11_stuck ml_L_43 sh_0 rfl rfl rfl rfl hl.1 (Nat.le_of_ble_eq_true rfl) ⟨Nat.le_of_ble_eq_true rfl, Nat.le_of_ble_eq_true rfl⟩ hcs rfl dL_law_386 ?_
    refine z_aload_n C.1 (i := 2) (k := 2) hl dL_law_389 rfl rfl ?_
    refine z_arg C 1 (by decide) rfl hj hl dL_law_390 dL_law_391 dL_law_393 dL_law_394 dL_law_395 ?_
    refine z_arg C 2 (by decide) rfl hj hl dL_law_396 dL_law_397 dL_law_399 dL_law_400 dL_law_401 ?_
    refine z_if_eq C.1 409 dL_law_402 (by decide) (fun h => absurd h hz) (fun _ => ?_)
    refine z_iconst C.1 (b2i true) dL_law_405 (by decide) ?_
    refine z_goto C.1 410 dL_law_406 (by decide) ?_
    refine z_callV C.1 (ci := 12) [.int (xs (6 * j + 1)), .int (b2i true)] [.int r] [.int r, .int r] (m_X12_stuck F _ _ _ _ _ h2) cw_X12_stuck vw_X12_stuck ml_L_47 sh_50 rfl rfl rfl rfl hl.1 (Nat.le_of_ble_eq_true rfl) ⟨Nat.le_of_ble_eq_true rfl, Nat.le_of_ble_eq_true rfl⟩ hcs rfl dL_law_410 ?_
    exact z_icmp_eq C.1 1097 dL_law_413 (by decide) (fun _ => kk u2 h3) (fun h => absurd rfl h)
set_option maxRecDepth 20000 in
set_option maxHeartbeats 1000000 in
theorem lc_6 {p : Program} {l : Launch} {e : Env} {s : State} {m : MethodId} {below : List Frame} {meth : Method} {c : Code} {D : va_G} {cA : Nat → ClassId} {b L : Nat} {xs : Nat → Int32} {cells slots : Nat} {Q : State → Prop} {u : St} {ls : Array Slot} {j F : Nat} (C : Lc p s m meth c D cA b L xs) (hF : 200000 ≤ F) (hI : Inv u) (hj : 6 * j + 6 ≤ L) (hl : lv_has ls 7 (lvL b s.heap.size j)) (hcs : cells ≤ room_1.cells ∧ slots ≤ room_1.slots) (kk : ∀ u' : St, Inv u' → Z SH p l e room_1 s m #[Value.ref b] below meth c D cA (adB s.heap.size) (inB s.heap.size) cells slots Q u' 1097 ls []) : Z SH p l e room_1 s m #[Value.ref b] below meth c D cA (adB s.heap.size) (inB s.heap.size) cells slots Q u 418 ls [] := by
  obtain ⟨r, u1, u2, h1, h2, h3⟩ := io_asked hF hI (xs (6 * j + 1))
  refine z_aload_n C.1 (i := 1) (k := 3) hl dL_law_418 rfl rfl ?_
  refine z_arg C 1 (by decide) rfl hj hl dL_law_419 dL_law_420 dL_law_422 dL_law_423 dL_law_424 ?_
  refine z_callV C.1 (ci := 11) [.int (xs (6 * j + 1))] [] [.int r] (m_X11_asked F _ _ _ _ h1) cw_X11_asked vw_X11_asked ml_L_48 sh_0 rfl rfl rfl rfl hl.1 (Nat.le_of_ble_eq_true rfl) ⟨Nat.le_of_ble_eq_true rfl, Nat.le_of_ble_eq_true rfl⟩ hcs rfl dL_law_425 ?_
  refine z_aload_n C.1 (i := 2) (k := 2) hl dL_law_428 rfl rfl ?_
  refine z_arg C 1 (by decide) rfl hj hl dL_law_429 dL_law_430 dL_law_432 dL_law_433 dL_law_434 ?_
  refine z_callV C.1 (ci := 12) [.int (xs (6 * j + 1))] [.int r] [.int r, .int r] (m_X12_asked F _ _ _ _ h2) cw_X12_asked vw_X12_asked ml_L_52 sh_50 rfl rfl rfl rfl hl.1 (Nat.le_of_ble_eq_true rfl) ⟨Nat.le_of_ble_eq_true rfl, Nat.le_of_ble_eq_true rfl⟩ hcs rfl dL_law_435 ?_
  exact z_icmp_eq C.1 1097 dL_law_438 (by decide) (fun _ => kk u2 h3) (fun h => absurd rfl h)
set_option maxRecDepth 20000 in
set_option maxHeartbeats 1000000 in
theorem lc_7 {p : Program} {l : Launch} {e : Env} {s : State} {m : MethodId} {below : List Frame} {meth : Method} {c : Code} {D : va_G} {cA : Nat → ClassId} {b L : Nat} {xs : Nat → Int32} {cells slots : Nat} {Q : State → Prop} {u : St} {ls : Array Slot} {j F : Nat} (C : Lc p s m meth c D cA b L xs) (hF : 200000 ≤ F) (hI : Inv u) (hj : 6 * j + 6 ≤ L) (hl : lv_has ls 7 (lvL b s.heap.size j)) (hcs : cells ≤ room_1.cells ∧ slots ≤ room_1.slots) (kk : ∀ u' : St, Inv u' → Z SH p l e room_1 s m #[Value.ref b] below meth c D cA (adB s.heap.size) (inB s.heap.size) cells slots Q u' 1097 ls []) : Z SH p l e room_1 s m #[Value.ref b] below meth c D cA (adB s.heap.size) (inB s.heap.size) cells slots Q u 443 ls [] := by
  obtain ⟨r, u1, u2, h1, h2, h3⟩ := io_states hF hI
  refine z_aload_n C.1 (i := 1) (k := 3) hl dL_law_443 rfl rfl ?_
  refine z_callV C.1 (ci := 11) [] [] [.int r] (m_X11_states F  _ _ _ h1) cw_X11_states vw_X11_states ml_L_53 sh_0 rfl rfl rfl rfl hl.1 (Nat.le_of_ble_eq_true rfl) ⟨Nat.le_of_ble_eq_true rfl, Nat.le_of_ble_eq_true rfl⟩ hcs rfl dL_law_444 ?_
  refine z_aload_n C.1 (i := 2) (k := 2) hl dL_law_447 rfl rfl ?_
  refine z_callV C.1 (ci := 12) [] [.int r] [.int r, .int r] (m_X12_states F  _ _ _ h2) cw_X12_states vw_X12_states ml_L_56 sh_50 rfl rfl rfl rfl hl.1 (Nat.le_of_ble_eq_true rfl) ⟨Nat.le_of_ble_eq_true rfl, Nat.le_of_ble_eq_true rfl⟩ hcs rfl dL_law_448 ?_
  exact z_icmp_eq C.1 1097 dL_law_451 (by decide) (fun _ => kk u2 h3) (fun h => absurd rfl h)
set_option maxRecDepth 20000 in
set_option maxHeartbeats 1000000 in
theorem lc_8 {p : Program} {l : Launch} {e : Env} {s : State} {m : MethodId} {below : List Frame} {meth : Method} {c : Code} {D : va_G} {cA : Nat → ClassId} {b L : Nat} {xs : Nat → Int32} {cells slots : Nat} {Q : State → Prop} {u : St} {ls : Array Slot} {j F : Nat} (C : Lc p s m meth c D cA b L xs) (hF : 200000 ≤ F) (hI : Inv u) (hj : 6 * j + 6 ≤ L) (hl : lv_has ls 7 (lvL b s.heap.size j)) (hcs : cells ≤ room_1.cells ∧ slots ≤ room_1.slots) (kk : ∀ u' : St, Inv u' → Z SH p l e room_1 s m #[Value.ref b] below meth c D cA (adB s.heap.size) (inB s.heap.size) cells slots Q u' 1097 ls []) : Z SH p l e room_1 s m #[Value.ref b] below meth c D cA (adB s.heap.size) (inB s.heap.size) cells slots Q u 456 ls [] := by
  obtain ⟨r, u1, u2, h1, h2, h3⟩ := io_state hF hI (xs (6 * j + 1))
  refine z_aload_n C.1 (i := 1) (k := 3) hl dL_law_456 rfl rfl ?_
  refine z_arg C 1 (by decide) rfl hj hl dL_law_457 dL_law_458 dL_law_460 dL_law_461 dL_law_462 ?_
  refine z_callV C.1 (ci := 11) [.int (xs (6 * j + 1))] [] [.int r] (m_X11_state F _ _ _ _ h1) cw_X11_state vw_X11_state ml_L_57 sh_0 rfl rfl rfl rfl hl.1 (Nat.le_of_ble_eq_true rfl) ⟨Nat.le_of_ble_eq_true rfl, Nat.le_of_ble_eq_true rfl⟩ hcs rfl dL_law_463 ?_
  refine z_aload_n C.1 (i := 2) (k := 2) hl dL_law_466 rfl rfl ?_
  refine z_arg C 1 (by decide) rfl hj hl dL_law_467 dL_law_468 dL_law_470 dL_law_471 dL_law_472 ?_
  refine z_callV C.1 (ci := 12) [.int (xs (6 * j + 1))] [.int r] [.int r, .int r] (m_X12_state F _ _ _ _ h2) cw_X12_state vw_X12_state ml_L_60 sh_50 rfl rfl rfl rfl hl.1 (Nat.le_of_ble_eq_true rfl) ⟨Nat.le_of_ble_eq_true rfl, Nat.le_of_ble_eq_true rfl⟩ hcs rfl dL_law_473 ?_
  exact z_icmp_eq C.1 1097 dL_law_476 (by decide) (fun _ => kk u2 h3) (fun h => absurd rfl h)
set_option maxRecDepth 20000 in
set_option maxHeartbeats 1000000 in
theorem lc_9 {p : Program} {l : Launch} {e : Env} {s : State} {m : MethodId} {below : List Frame} {meth : Method} {c : Code} {D : va_G} {cA : Nat → ClassId} {b L : Nat} {xs : Nat → Int32} {cells slots : Nat} {Q : State → Prop} {u : St} {ls : Array Slot} {j F : Nat} (C : Lc p s m meth c D cA b L xs) (hF : 200000 ≤ F) (hI : Inv u) (hj : 6 * j + 6 ≤ L) (hl : lv_has ls 7 (lvL b s.heap.size j)) (hcs : cells ≤ room_1.cells ∧ slots ≤ room_1.slots) (kk : ∀ u' : St, Inv u' → Z SH p l e room_1 s m #[Value.ref b] below meth c D cA (adB s.heap.size) (inB s.heap.size) cells slots Q u' 1097 ls []) : Z SH p l e room_1 s m #[Value.ref b] below meth c D cA (adB s.heap.size) (inB s.heap.size) cells slots Q u 481 ls [] := by
  obtain ⟨r, u1, u2, h1, h2, h3⟩ := io_place hF hI (xs (6 * j + 1))
  refine z_aload_n C.1 (i := 1) (k := 3) hl dL_law_481 rfl rfl ?_
  refine z_arg C 1 (by decide) rfl hj hl dL_law_482 dL_law_483 dL_law_485 dL_law_486 dL_law_487 ?_
  refine z_callV C.1 (ci := 11) [.int (xs (6 * j + 1))] [] [.int r] (m_X11_place F _ _ _ _ h1) cw_X11_place vw_X11_place ml_L_61 sh_0 rfl rfl rfl rfl hl.1 (Nat.le_of_ble_eq_true rfl) ⟨Nat.le_of_ble_eq_true rfl, Nat.le_of_ble_eq_true rfl⟩ hcs rfl dL_law_488 ?_
  refine z_aload_n C.1 (i := 2) (k := 2) hl dL_law_491 rfl rfl ?_
  refine z_arg C 1 (by decide) rfl hj hl dL_law_492 dL_law_493 dL_law_495 dL_law_496 dL_law_497 ?_
  refine z_callV C.1 (ci := 12) [.int (xs (6 * j + 1))] [.int r] [.int r, .int r] (m_X12_place F _ _ _ _ h2) cw_X12_place vw_X12_place ml_L_64 sh_50 rfl rfl rfl rfl hl.1 (Nat.le_of_ble_eq_true rfl) ⟨Nat.le_of_ble_eq_true rfl, Nat.le_of_ble_eq_true rfl⟩ hcs rfl dL_law_498 ?_
  exact z_icmp_eq C.1 1097 dL_law_501 (by decide) (fun _ => kk u2 h3) (fun h => absurd rfl h)
set_option maxRecDepth 20000 in
set_option maxHeartbeats 1000000 in
theorem lc_10 {p : Program} {l : Launch} {e : Env} {s : State} {m : MethodId} {below : List Frame} {meth : Method} {c : Code} {D : va_G} {cA : Nat → ClassId} {b L : Nat} {xs : Nat → Int32} {cells slots : Nat} {Q : State → Prop} {u : St} {ls : Array Slot} {j F : Nat} (C : Lc p s m meth c D cA b L xs) (hF : 200000 ≤ F) (hI : Inv u) (hj : 6 * j + 6 ≤ L) (hl : lv_has ls 7 (lvL b s.heap.size j)) (hcs : cells ≤ room_1.cells ∧ slots ≤ room_1.slots) (kk : ∀ u' : St, Inv u' → Z SH p l e room_1 s m #[Value.ref b] below meth c D cA (adB s.heap.size) (inB s.heap.size) cells slots Q u' 1097 ls []) : Z SH p l e room_1 s m #[Value.ref b] below meth c D cA (adB s.heap.size) (inB s.heap.size) cells slots Q u 506 ls [] := by
  obtain ⟨r, u1, u2, h1, h2, h3⟩ := io_hazard hF hI (xs (6 * j + 1)) (xs (6 * j + 2))
  refine z_aload_n C.1 (i := 1) (k := 3) hl dL_law_506 rfl rfl ?_
  refine z_arg C 1 (by decide) rfl hj hl dL_law_507 dL_law_508 dL_law_510 dL_law_511 dL_law_512 ?_
  refine z_arg C 2 (by decide) rfl hj hl dL_law_513 dL_law_514 dL_law_516 dL_law_517 dL_law_518 ?_
  refine z_callV C.1 (ci := 11) [.int (xs (6 * j + 1)), .int (xs (6 * j + 2))] [] [.int r] (m_X11_hazard F _ _ _ _ _ h1) cw_X11_hazard vw_X11_hazard ml_L_65 sh_0 rfl rfl rfl rfl hl.1 (Nat.le_of_ble_eq_true rfl) ⟨Nat.le_of_ble_eq_true rfl, Nat.le_of_ble_eq_true rfl⟩ hcs rfl dL_law_519 ?_
  refine z_aload_n C.1 (i := 2) (k := 2) hl dL_law_522 rfl rfl ?_
  refine z_arg C 1 (by decide) rfl hj hl dL_law_523 dL_law_524 dL_law_526 dL_law_527 dL_law_528 ?_
  refine z_arg C 2 (by decide) rfl hj hl dL_law_529 dL_law_530 dL_law_532 dL_law_533 dL_law_534 ?_
  refine z_callV C.1 (ci := 12) [.int (xs (6 * j + 1)), .int (xs (6 * j + 2))] [.int r] [.int r, .int r] (m_X12_hazard F _ _ _ _ _ h2) cw_X12_hazard vw_X12_hazard ml_L_68 sh_50 rfl rfl rfl rfl hl.1 (Nat.le_of_ble_eq_true rfl) ⟨Nat.le_of_ble_eq_true rfl, Nat.le_of_ble_eq_true rfl⟩ hcs rfl dL_law_535 ?_
  exact z_icmp_eq C.1 1097 dL_law_538 (by decide) (fun _ => kk u2 h3) (fun h => absurd rfl h)
set_option maxRecDepth 20000 in
set_option maxHeartbeats 1000000 in
theorem lc_11 {p : Program} {l : Launch} {e : Env} {s : State} {m : MethodId} {below : List Frame} {meth : Method} {c : Code} {D : va_G} {cA : Nat → ClassId} {b L : Nat} {xs : Nat → Int32} {cells slots : Nat} {Q : State → Prop} {u : St} {ls : Array Slot} {j F : Nat} (C : Lc p s m meth c D cA b L xs) (hF : 200000 ≤ F) (hI : Inv u) (hj : 6 * j + 6 ≤ L) (hl : lv_has ls 7 (lvL b s.heap.size j)) (hcs : cells ≤ room_1.cells ∧ slots ≤ room_1.slots) (kk : ∀ u' : St, Inv u' → Z SH p l e room_1 s m #[Value.ref b] below meth c D cA (adB s.heap.size) (inB s.heap.size) cells slots Q u' 1097 ls []) : Z SH p l e room_1 s m #[Value.ref b] below meth c D cA (adB s.heap.size) (inB s.heap.size) cells slots Q u 543 ls [] := by
  obtain ⟨r, u1, u2, h1, h2, h3⟩ := io_stop hF hI (xs (6 * j + 1))
  refine z_aload_n C.1 (i := 1) (k := 3) hl dL_law_543 rfl rfl ?_
  refine z_arg C 1 (by decide) rfl hj hl dL_law_544 dL_law_545 dL_law_547 dL_law_548 dL_law_549 ?_
  refine z_callV C.1 (ci := 11) [.int (xs (6 * j + 1))] [] [.int r] (m_X11_stop F _ _ _ _ h1) cw_X11_stop vw_X11_stop ml_L_69 sh_0 rfl rfl rfl rfl hl.1 (Nat.le_of_ble_eq_true rfl) ⟨Nat.le_of_ble_eq_true rfl, Nat.le_of_ble_eq_true rfl⟩ hcs rfl dL_law_550 ?_
  refine z_aload_n C.1 (i := 2) (k := 2) hl dL_law_553 rfl rfl ?_
  refine z_arg C 1 (by decide) rfl hj hl dL_law_554 dL_law_555 dL_law_557 dL_law_558 dL_law_559 ?_
  refine z_callV C.1 (ci := 12) [.int (xs (6 * j + 1))] [.int r] [.int r, .int r] (m_X12_stop F _ _ _ _ h2) cw_X12_stop vw_X12_stop ml_L_72 sh_50 rfl rfl rfl rfl hl.1 (Nat.le_of_ble_eq_true rfl) ⟨Nat.le_of_ble_eq_true rfl, Nat.le_of_ble_eq_true rfl⟩ hcs rfl dL_law_560 ?_
  exact z_icmp_eq C.1 1097 dL_law_563 (by decide) (fun _ => kk u2 h3) (fun h => absurd rfl h)
set_option maxRecDepth 20000 in
set_option maxHeartbeats 1000000 in
theorem lc_12 {p : Program} {l : Launch} {e : Env} {s : State} {m : MethodId} {below : List Frame} {meth : Method} {c : Code} {D : va_G} {cA : Nat → ClassId} {b L : Nat} {xs : Nat → Int32} {cells slots : Nat} {Q : State → Prop} {u : St} {ls : Array Slot} {j F : Nat} (C : Lc p s m meth c D cA b L xs) (hF : 200000 ≤ F) (hI : Inv u) (hj : 6 * j + 6 ≤ L) (hl : lv_has ls 7 (lvL b s.heap.size j)) (hcs : cells ≤ room_1.cells ∧ slots ≤ room_1.slots) (kk : ∀ u' : St, Inv u' → Z SH p l e room_1 s m #[Value.ref b] below meth c D cA (adB s.heap.size) (inB s.heap.size) cells slots Q u' 1097 ls []) : Z SH p l e room_1 s m #[Value.ref b] below meth c D cA (adB s.heap.size) (inB s.heap.size) cells slots Q u 568 ls [] := by
  obtain ⟨r, u1, u2, h1, h2, h3⟩ := io_way hF hI (xs (6 * j + 1))
  refine z_aload_n C.1 (i := 1) (k := 3) hl dL_law_568 rfl rfl ?_
  refine z_arg C 1 (by decide) rfl hj hl dL_law_569 dL_law_570 dL_law_572 dL_law_573 dL_law_574 ?_
  refine z_callV C.1 (ci := 11) [.int (xs (6 * j + 1))] [] [.int r] (m_X11_way F _ _ _ _ h1) cw_X11_way vw_X11_way ml_L_73 sh_0 rfl rfl rfl rfl hl.1 (Nat.le_of_ble_eq_true rfl) ⟨Nat.le_of_ble_eq_true rfl, Nat.le_of_ble_eq_true rfl⟩ hcs rfl dL_law_575 ?_
  refine z_aload_n C.1 (i := 2) (k := 2) hl dL_law_578 rfl rfl ?_
  refine z_arg C 1 (by decide) rfl hj hl dL_law_579 dL_law_580 dL_law_582 dL_law_583 dL_law_584 ?_
  refine z_callV C.1 (ci := 12) [.int (xs (6 * j + 1))] [.int r] [.int r, .int r] (m_X12_way F _ _ _ _ h2) cw_X12_way vw_X12_way ml_L_76 sh_50 rfl rfl rfl rfl hl.1 (Nat.le_of_ble_eq_true rfl) ⟨Nat.le_of_ble_eq_true rfl, Nat.le_of_ble_eq_true rfl⟩ hcs rfl dL_law_585 ?_
  exact z_icmp_eq C.1 1097 dL_law_588 (by decide) (fun _ => kk u2 h3) (fun h => absurd rfl h)
set_option maxRecDepth 20000 in
set_option maxHeartbeats 1000000 in
theorem lc_13 {p : Program} {l : Launch} {e : Env} {s : State} {m : MethodId} {below : List Frame} {meth : Method} {c : Code} {D : va_G} {cA : Nat → ClassId} {b L : Nat} {xs : Nat → Int32} {cells slots : Nat} {Q : State → Prop} {u : St} {ls : Array Slot} {j F : Nat} (C : Lc p s m meth c D cA b L xs) (hF : 200000 ≤ F) (hI : Inv u) (hj : 6 * j + 6 ≤ L) (hl : lv_has ls 7 (lvL b s.heap.size j)) (hcs : cells ≤ room_1.cells ∧ slots ≤ room_1.slots) (kk : ∀ u' : St, Inv u' → Z SH p l e room_1 s m #[Value.ref b] below meth c D cA (adB s.heap.size) (inB s.heap.size) cells slots Q u' 1097 ls []) : Z SH p l e room_1 s m #[Value.ref b] below meth c D cA (adB s.heap.size) (inB s.heap.size) cells slots Q u 593 ls [] := by
  obtain ⟨r, u1, u2, h1, h2, h3⟩ := io_change hF hI (xs (6 * j + 1)) (xs (6 * j + 2))
  refine z_aload_n C.1 (i := 1) (k := 3) hl dL_law_593 rfl rfl ?_
  refine z_arg C 1 (by decide) rfl hj hl dL_law_594 dL_law_595 dL_law_597 dL_law_598 dL_law_599 ?_
  refine z_arg C 2 (by decide) rfl hj hl dL_law_600 dL_law_601 dL_law_603 dL_law_604 dL_law_605 ?_
  refine z_callV C.1 (ci := 11) [.int (xs (6 * j + 1)), .int (xs (6 * j + 2))] [] [.int r] (m_X11_change F _ _ _ _ _ h1) cw_X11_change vw_X11_change ml_L_77 sh_0 rfl rfl rfl rfl hl.1 (Nat.le_of_ble_eq_true rfl) ⟨Nat.le_of_ble_eq_true rfl, Nat.le_of_ble_eq_true rfl⟩ hcs rfl dL_law_606 ?_
  refine z_aload_n C.1 (i := 2) (k := 2) hl dL_law_609 rfl rfl ?_
  refine z_arg C 1 (by decide) rfl hj hl dL_law_610 dL_law_611 dL_law_613 dL_law_614 dL_law_615 ?_
  refine z_arg C 2 (by decide) rfl hj hl dL_law_616 dL_law_617 dL_law_619 dL_law_620 dL_law_621 ?_
  refine z_callV C.1 (ci := 12) [.int (xs (6 * j + 1)), .int (xs (6 * j + 2))] [.int r] [.int r, .int r] (m_X12_change F _ _ _ _ _ h2) cw_X12_change vw_X12_change ml_L_80 sh_50 rfl rfl rfl rfl hl.1 (Nat.le_of_ble_eq_true rfl) ⟨Nat.le_of_ble_eq_true rfl, Nat.le_of_ble_eq_true rfl⟩ hcs rfl dL_law_622 ?_
  exact z_icmp_eq C.1 1097 dL_law_625 (by decide) (fun _ => kk u2 h3) (fun h => absurd rfl h)
set_option maxRecDepth 20000 in
set_option maxHeartbeats 1000000 in
theorem lc_14 {p : Program} {l : Launch} {e : Env} {s : State} {m : MethodId} {below : List Frame} {meth : Method} {c : Code} {D : va_G} {cA : Nat → ClassId} {b L : Nat} {xs : Nat → Int32} {cells slots : Nat} {Q : State → Prop} {u : St} {ls : Array Slot} {j F : Nat} (C : Lc p s m meth c D cA b L xs) (hF : 200000 ≤ F) (hI : Inv u) (hj : 6 * j + 6 ≤ L) (hl : lv_has ls 7 (lvL b s.heap.size j)) (hcs : cells ≤ room_1.cells ∧ slots ≤ room_1.slots) (kk : ∀ u' : St, Inv u' → Z SH p l e room_1 s m #[Value.ref b] below meth c D cA (adB s.heap.size) (inB s.heap.size) cells slots Q u' 1097 ls []) : Z SH p l e room_1 s m #[Value.ref b] below meth c D cA (adB s.heap.size) (inB s.heap.size) cells slots Q u 630 ls [] := by
  obtain ⟨r, u1, u2, h1, h2, h3⟩ := io_live hF hI (xs (6 * j + 1))
  refine z_aload_n C.1 (i := 1) (k := 3) hl dL_law_630 rfl rfl ?_
  refine z_arg C 1 (by decide) rfl hj hl dL_law_631 dL_law_632 dL_law_634 dL_law_635 dL_law_636 ?_
  refine z_callV C.1 (ci := 11) [.int (xs (6 * j + 1))] [] [.int r] (m_X11_live F _ _ _ _ h1) cw_X11_live vw_X11_live ml_L_81 sh_0 rfl rfl rfl rfl hl.1 (Nat.le_of_ble_eq_true rfl) ⟨Nat.le_of_ble_eq_true rfl, Nat.le_of_ble_eq_true rfl⟩ hcs rfl dL_law_637 ?_
  refine z_aload_n C.1 (i := 2) (k := 2) hl dL_law_640 rfl rfl ?_
  refine z_arg C 1 (by decide) rfl hj hl dL_law_641 dL_law_642 dL_law_644 dL_law_645 dL_law_646 ?_
  refine z_callV C.1 (ci := 12) [.int (xs (6 * j + 1))] [.int r] [.int r, .int r] (m_X12_live F _ _ _ _ h2) cw_X12_live vw_X12_live ml_L_84 sh_50 rfl rfl rfl rfl hl.1 (Nat.le_of_ble_eq_true rfl) ⟨Nat.le_of_ble_eq_true rfl, Nat.le_of_ble_eq_true rfl⟩ hcs rfl dL_law_647 ?_
  exact z_icmp_eq C.1 1097 dL_law_650 (by decide) (fun _ => kk u2 h3) (fun h => absurd rfl h)
set_option maxRecDepth 20000 in
set_option maxHeartbeats 1000000 in
theorem lc_15 {p : Program} {l : Launch} {e : Env} {s : State} {m : MethodId} {below : List Frame} {meth : Method} {c : Code} {D : va_G} {cA : Nat → ClassId} {b L : Nat} {xs : Nat → Int32} {cells slots : Nat} {Q : State → Prop} {u : St} {ls : Array Slot} {j F : Nat} (C : Lc p s m meth c D cA b L xs) (hF : 200000 ≤ F) (hI : Inv u) (hj : 6 * j + 6 ≤ L) (hl : lv_has ls 7 (lvL b s.heap.size j)) (hcs : cells ≤ room_1.cells ∧ slots ≤ room_1.slots) (kk : ∀ u' : St, Inv u' → Z SH p l e room_1 s m #[Value.ref b] below meth c D cA (adB s.heap.size) (inB s.heap.size) cells slots Q u' 1097 ls []) : Z SH p l e room_1 s m #[Value.ref b] below meth c D cA (adB s.heap.size) (inB s.heap.size) cells slots Q u 655 ls [] := by
  obtain ⟨r, u1, u2, h1, h2, h3⟩ := io_both hF hI (xs (6 * j + 1))
  refine z_aload_n C.1 (i := 1) (k := 3) hl dL_law_655 rfl rfl ?_
  refine z_arg C 1 (by decide) rfl hj hl dL_law_656 dL_law_657 dL_law_659 dL_law_660 dL_law_661 ?_
  refine z_callV C.1 (ci := 11) [.int (xs (6 * j + 1))] [] [.int r] (m_X11_both F _ _ _ _ h1) cw_X11_both vw_X11_both ml_L_85 sh_0 rfl rfl rfl rfl hl.1 (Nat.le_of_ble_eq_true rfl) ⟨Nat.le_of_ble_eq_true rfl, Nat.le_of_ble_eq_true rfl⟩ hcs rfl dL_law_662 ?_
  refine z_aload_n C.1 (i := 2) (k := 2) hl dL_law_665 rfl rfl ?_
  refine z_arg C 1 (by decide) rfl hj hl dL_law_666 dL_law_667 dL_law_669 dL_law_670 dL_law_671 ?_
  refine z_callV C.1 (ci := 12) [.int (xs (6 * j + 1))] [.int r] [.int r, .int r] (m_X12_both F _ _ _ _ h2) cw_X12_both vw_X12_both ml_L_88 sh_50 rfl rfl rfl rfl hl.1 (Nat.le_of_ble_eq_true rfl) ⟨Nat.le_of_ble_eq_true rfl, Nat.le_of_ble_eq_true rfl⟩ hcs rfl dL_law_672 ?_
  exact z_icmp_eq C.1 1097 dL_law_675 (by decide) (fun _ => kk u2 h3) (fun h => absurd rfl h)
set_option maxRecDepth 20000 in
set_option maxHeartbeats 1000000 in
theorem lc_16 {p : Program} {l : Launch} {e : Env} {s : State} {m : MethodId} {below : List Frame} {meth : Method} {c : Code} {D : va_G} {cA : Nat → ClassId} {b L : Nat} {xs : Nat → Int32} {cells slots : Nat} {Q : State → Prop} {u : St} {ls : Array Slot} {j F : Nat} (C : Lc p s m meth c D cA b L xs) (hF : 200000 ≤ F) (hI : Inv u) (hj : 6 * j + 6 ≤ L) (hl : lv_has ls 7 (lvL b s.heap.size j)) (hcs : cells ≤ room_1.cells ∧ slots ≤ room_1.slots) (kk : ∀ u' : St, Inv u' → Z SH p l e room_1 s m #[Value.ref b] below meth c D cA (adB s.heap.size) (inB s.heap.size) cells slots Q u' 1097 ls []) : Z SH p l e room_1 s m #[Value.ref b] below meth c D cA (adB s.heap.size) (inB s.heap.size) cells slots Q u 680 ls [] := by
  obtain ⟨r, u1, u2, h1, h2, h3⟩ := io_run hF hI (xs (6 * j + 1)) (sL (xs (6 * j + 2)) (xs (6 * j + 3)))
  refine z_aload_n C.1 (i := 1) (k := 3) hl dL_law_680 rfl rfl ?_
  refine z_arg C 1 (by decide) rfl hj hl dL_law_681 dL_law_682 dL_law_684 dL_law_685 dL_law_686 ?_
  refine z_arg C 2 (by decide) rfl hj hl dL_law_687 dL_law_688 dL_law_690 dL_law_691 dL_law_692 ?_
  refine z_i2l C.1 dL_law_693 ?_
  refine z_bipush C.1 (32 : Int32) dL_law_694 (by decide) ?_
  refine z_lshl C.1 dL_law_696 ?_
  refine z_arg C 3 (by decide) rfl hj hl dL_law_697 dL_law_698 dL_law_700 dL_law_701 dL_law_702 ?_
  refine z_i2l C.1 dL_law_703 ?_
  refine z_ldc2 C.1 kw_L_89 dL_law_704 ?_
  refine z_land C.1 dL_law_707 ?_
  refine z_lor C.1 dL_law_708 ?_
  refine z_callV C.1 (ci := 11) [.int (xs (6 * j + 1)), .long (sL (xs (6 * j + 2)) (xs (6 * j + 3)))] [] [.int r] (m_X11_run F _ _ _ _ _ h1) cw_X11_run vw_X11_run ml_L_91 sh_0 rfl rfl rfl rfl hl.1 (Nat.le_of_ble_eq_true rfl) ⟨Nat.le_of_ble_eq_true rfl, Nat.le_of_ble_eq_true rfl⟩ hcs rfl dL_law_709 ?_
  refine z_aload_n C.1 (i := 2) (k := 2) hl dL_law_712 rfl rfl ?_
  refine z_arg C 1 (by decide) rfl hj hl dL_law_713 dL_law_714 dL_law_716 dL_law_717 dL_law_718 ?_
  refine z_arg C 2 (by decide) rfl hj hl dL_law_719 dL_law_720 dL_law_722 dL_law_723 dL_law_724 ?_
  refine z_i2l C.1 dL_law_725 ?_
  refine z_bipush C.1 (32 : Int32) dL_law_726 (by decide) ?_
  refine z_lshl C.1 dL_law_728 ?_
  refine z_arg C 3 (by decide) rfl hj hl dL_law_729 dL_law_730 dL_law_732 dL_law_733 dL_law_734 ?_
  refine z_i2l C.1 dL_law_735 ?_
  refine z_ldc2 C.1 kw_L_89 dL_law_736 ?_
  refine z_land C.1 dL_law_739 ?_
  refine z_lor C.1 dL_law_740 ?_
  refine z_callV C.1 (ci := 12) [.int (xs (6 * j + 1)), .long (sL (xs (6 * j + 2)) (xs (6 * j + 3)))] [.int r] [.int r, .int r] (m_X12_run F _ _ _ _ _ h2) cw_X12_run vw_X12_run ml_L_95 sh_50 rfl rfl rfl rfl hl.1 (Nat.le_of_ble_eq_true rfl) ⟨Nat.le_of_ble_eq_true rfl, Nat.le_of_ble_eq_true rfl⟩ hcs rfl dL_law_741 ?_
  exact z_icmp_eq C.1 1097 dL_law_744 (by decide) (fun _ => kk u2 h3) (fun h => absurd rfl h)
set_option maxRecDepth 20000 in
set_option maxHeartbeats 1000000 in
theorem lc_17 {p : Program} {l : Launch} {e : Env} {s : State} {m : MethodId} {below : List Frame} {meth : Method} {c : Code} {D : va_G} {cA : Nat → ClassId} {b L : Nat} {xs : Nat → Int32} {cells slots : Nat} {Q : State → Prop} {u : St} {ls : Array Slot} {j F : Nat} (C : Lc p s m meth c D cA b L xs) (hF : 200000 ≤ F) (hI : Inv u) (hj : 6 * j + 6 ≤ L) (hl : lv_has ls 7 (lvL b s.heap.size j)) (hcs : cells ≤ room_1.cells ∧ slots ≤ room_1.slots) (kk : ∀ u' : St, Inv u' → Z SH p l e room_1 s m #[Value.ref b] below meth c D cA (adB s.heap.size) (inB s.heap.size) cells slots Q u' 1097 ls []) : Z SH p l e room_1 s m #[Value.ref b] below meth c D cA (adB s.heap.size) (inB s.heap.size) cells slots Q u 749 ls [] := by
  obtain ⟨r, u1, u2, h1, h2, h3⟩ := io_changed hF hI (xs (6 * j + 1)) (sL (xs (6 * j + 2)) (xs (6 * j + 3))) (xs (6 * j + 4))
  refine z_aload_n C.1 (i := 1) (k := 3) hl dL_law_749 rfl rfl ?_
  refine z_arg C 1 (by decide) rfl hj hl dL_law_750 dL_law_751 dL_law_753 dL_law_754 dL_law_755 ?_
  refine z_arg C 2 (by decide) rfl hj hl dL_law_756 dL_law_757 dL_law_759 dL_law_760 dL_law_761 ?_
  refine z_i2l C.1 dL_law_762 ?_
  refine z_bipush C.1 (32 : Int32) dL_law_763 (by decide) ?_
  refine z_lshl C.1 dL_law_765 ?_
  refine z_arg C 3 (by decide) rfl hj hl dL_law_766 dL_law_767 dL_law_769 dL_law_770 dL_law_771 ?_
  refine z_i2l C.1 dL_law_772 ?_
  refine z_ldc2 C.1 kw_L_89 dL_law_773 ?_
  refine z_land C.1 dL_law_776 ?_
  refine z_lor C.1 dL_law_777 ?_
  refine z_arg C 4 (by decide) rfl hj hl dL_law_778 dL_law_779 dL_law_781 dL_law_782 dL_law_783 ?_
  refine z_callV C.1 (ci := 11) [.int (xs (6 * j + 1)), .long (sL (xs (6 * j + 2)) (xs (6 * j + 3))), .int (xs (6 * j + 4))] [] [.int r] (m_X11_changed F _ _ _ _ _ _ h1) cw_X11_changed vw_X11_changed ml_L_96 sh_0 rfl rfl rfl rfl hl.1 (Nat.le_of_ble_eq_true rfl) ⟨Nat.le_of_ble_eq_true rfl, Nat.le_of_ble_eq_true rfl⟩ hcs rfl dL_law_784 ?_
  refine z_aload_n C.1 (i := 2) (k := 2) hl dL_law_787 rfl rfl ?_
  refine z_arg C 1 (by decide) rfl hj hl dL_law_788 dL_law_789 dL_law_791 dL_law_792 dL_law_793 ?_
  refine z_arg C 2 (by decide) rfl hj hl dL_law_794 dL_law_795 dL_law_797 dL_law_798 dL_law_799 ?_
  refine z_i2l C.1 dL_law_800 ?_
  refine z_bipush C.1 (32 : Int32) dL_law_801 (by decide) ?_
  refine z_lshl C.1 dL_law_803 ?_
  refine z_arg C 3 (by decide) rfl hj hl dL_law_804 dL_law_805 dL_law_807 dL_law_808 dL_law_809 ?_
  refine z_i2l C.1 dL_law_810 ?_
  refine z_ldc2 C.1 kw_L_89 dL_law_811 ?_
  refine z_land C.1 dL_law_814 ?_
  refine z_lor C.1 dL_law_815 ?_
  refine z_arg C 4 (by decide) rfl hj hl dL_law_816 dL_law_817 dL_law_819 dL_law_820 dL_law_821 ?_
  refine z_callV C.1 (ci := 12) [.int (xs (6 * j + 1)), .long (sL (xs (6 * j + 2)) (xs (6 * j + 3))), .int (xs (6 * j + 4))] [.int r] [.int r, .int r] (m_X12_changed F _ _ _ _ _ _ h2) cw_X12_changed vw_X12_changed ml_L_100 sh_50 rfl rfl rfl rfl hl.1 (Nat.le_of_ble_eq_true rfl) ⟨Nat.le_of_ble_eq_true rfl, Nat.le_of_ble_eq_true rfl⟩ hcs rfl dL_law_822 ?_
  exact z_icmp_eq C.1 1097 dL_law_825 (by decide) (fun _ => kk u2 h3) (fun h => absurd rfl h)
set_option maxRecDepth 20000 in
set_option maxHeartbeats 1000000 in
theorem lc_18 {p : Program} {l : Launch} {e : Env} {s : State} {m : MethodId} {below : List Frame} {meth : Method} {c : Code} {D : va_G} {cA : Nat → ClassId} {b L : Nat} {xs : Nat → Int32} {cells slots : Nat} {Q : State → Prop} {u : St} {ls : Array Slot} {j F : Nat} (C : Lc p s m meth c D cA b L xs) (hF : 200000 ≤ F) (hI : Inv u) (hj : 6 * j + 6 ≤ L) (hl : lv_has ls 7 (lvL b s.heap.size j)) (hcs : cells ≤ room_1.cells ∧ slots ≤ room_1.slots) (kk : ∀ u' : St, Inv u' → Z SH p l e room_1 s m #[Value.ref b] below meth c D cA (adB s.heap.size) (inB s.heap.size) cells slots Q u' 1097 ls []) : Z SH p l e room_1 s m #[Value.ref b] below meth c D cA (adB s.heap.size) (inB s.heap.size) cells slots Q u 830 ls [] := by
  obtain ⟨r, u1, u2, h1, h2, h3⟩ := io_node (F := F) hI (xs (6 * j + 1))
  refine z_aload_n C.1 (i := 1) (k := 3) hl dL_law_830 rfl rfl ?_
  refine z_arg C 1 (by decide) rfl hj hl dL_law_831 dL_law_832 dL_law_834 dL_law_835 dL_law_836 ?_
  refine z_callV C.1 (ci := 11) [.int (xs (6 * j + 1))] [] [.int r] (m_X11_node F _ _ _ _ h1) cw_X11_node vw_X11_node ml_L_101 sh_0 rfl rfl rfl rfl hl.1 (Nat.le_of_ble_eq_true rfl) ⟨Nat.le_of_ble_eq_true rfl, Nat.le_of_ble_eq_true rfl⟩ hcs rfl dL_law_837 ?_
  refine z_aload_n C.1 (i := 2) (k := 2) hl dL_law_840 rfl rfl ?_
  refine z_arg C 1 (by decide) rfl hj hl dL_law_841 dL_law_842 dL_law_844 dL_law_845 dL_law_846 ?_
  refine z_callV C.1 (ci := 12) [.int (xs (6 * j + 1))] [.int r] [.int r, .int r] (m_X12_node F _ _ _ _ h2) cw_X12_node vw_X12_node ml_L_104 sh_50 rfl rfl rfl rfl hl.1 (Nat.le_of_ble_eq_true rfl) ⟨Nat.le_of_ble_eq_true rfl, Nat.le_of_ble_eq_true rfl⟩ hcs rfl dL_law_847 ?_
  exact z_icmp_eq C.1 1097 dL_law_850 (by decide) (fun _ => kk u2 h3) (fun h => absurd rfl h)
set_option maxRecDepth 20000 in
set_option maxHeartbeats 1000000 in
theorem lc_19 {p : Program} {l : Launch} {e : Env} {s : State} {m : MethodId} {below : List Frame} {meth : Method} {c : Code} {D : va_G} {cA : Nat → ClassId} {b L : Nat} {xs : Nat → Int32} {cells slots : Nat} {Q : State → Prop} {u : St} {ls : Array Slot} {j F : Nat} (C : Lc p s m meth c D cA b L xs) (hF : 200000 ≤ F) (hI : Inv u) (hj : 6 * j + 6 ≤ L) (hl : lv_has ls 7 (lvL b s.heap.size j)) (hcs : cells ≤ room_1.cells ∧ slots ≤ room_1.slots) (kk : ∀ u' : St, Inv u' → Z SH p l e room_1 s m #[Value.ref b] below meth c D cA (adB s.heap.size) (inB s.heap.size) cells slots Q u' 1097 ls []) : Z SH p l e room_1 s m #[Value.ref b] below meth c D cA (adB s.heap.size) (inB s.heap.size) cells slots Q u 855 ls [] := by
  obtain ⟨r, u1, u2, h1, h2, h3⟩ := io_arc (F := F) hI (xs (6 * j + 1)) (xs (6 * j + 2)) (xs (6 * j + 3))
  refine z_aload_n C.1 (i := 1) (k := 3) hl dL_law_855 rfl rfl ?_
  refine z_arg C 1 (by decide) rfl hj hl dL_law_856 dL_law_857 dL_law_859 dL_law_860 dL_law_861 ?_
  refine z_arg C 2 (by decide) rfl hj hl dL_law_862 dL_law_863 dL_law_865 dL_law_866 dL_law_867 ?_
  refine z_arg C 3 (by decide) rfl hj hl dL_law_868 dL_law_869 dL_law_871 dL_law_872 dL_law_873 ?_
  refine z_callV C.1 (ci := 11) [.int (xs (6 * j + 1)), .int (xs (6 * j + 2)), .int (xs (6 * j + 3))] [] [.int r] (m_X11_arc F _ _ _ _ _ _ h1) cw_X11_arc vw_X11_arc ml_L_105 sh_0 rfl rfl rfl rfl hl.1 (Nat.le_of_ble_eq_true rfl) ⟨Nat.le_of_ble_eq_true rfl, Nat.le_of_ble_eq_true rfl⟩ hcs rfl dL_law_874 ?_
  refine z_aload_n C.1 (i := 2) (k := 2) hl dL_law_877 rfl rfl ?_
  refine z_arg C 1 (by decide) rfl hj hl dL_law_878 dL_law_879 dL_law_881 dL_law_882 dL_law_883 ?_
  refine z_arg C 2 (by decide) rfl hj hl dL_law_884 dL_law_885 dL_law_887 dL_law_888 dL_law_889 ?_
  refine z_arg C 3 (by decide) rfl hj hl dL_law_890 dL_law_891 dL_law_893 dL_law_894 dL_law_895 ?_
  refine z_callV C.1 (ci := 12) [.int (xs (6 * j + 1)), .int (xs (6 * j + 2)), .int (xs (6 * j + 3))] [.int r] [.int r, .int r] (m_X12_arc F _ _ _ _ _ _ h2) cw_X12_arc vw_X12_arc ml_L_109 sh_50 rfl rfl rfl rfl hl.1 (Nat.le_of_ble_eq_true rfl) ⟨Nat.le_of_ble_eq_true rfl, Nat.le_of_ble_eq_true rfl⟩ hcs rfl dL_law_896 ?_
  exact z_icmp_eq C.1 1097 dL_law_899 (by decide) (fun _ => kk u2 h3) (fun h => absurd rfl h)
set_option maxRecDepth 20000 in
set_option maxHeartbeats 1000000 in
theorem lc_20 {p : Program} {l : Launch} {e : Env} {s : State} {m : MethodId} {below : List Frame} {meth : Method} {c : Code} {D : va_G} {cA : Nat → ClassId} {b L : Nat} {xs : Nat → Int32} {cells slots : Nat} {Q : State → Prop} {u : St} {ls : Array Slot} {j F : Nat} (C : Lc p s m meth c D cA b L xs) (hF : 200000 ≤ F) (hI : Inv u) (hj : 6 * j + 6 ≤ L) (hl : lv_has ls 7 (lvL b s.heap.size j)) (hcs : cells ≤ room_1.cells ∧ slots ≤ room_1.slots) (kk : ∀ u' : St, Inv u' → Z SH p l e room_1 s m #[Value.ref b] below meth c D cA (adB s.heap.size) (inB s.heap.size) cells slots Q u' 1097 ls []) : Z SH p l e room_1 s m #[Value.ref b] below meth c D cA (adB s.heap.size) (inB s.heap.size) cells slots Q u 904 ls [] := by
  obtain ⟨r, u1, u2, h1, h2, h3⟩ := io_tokens (F := F) hI (xs (6 * j + 1)) (xs (6 * j + 2))
  refine z_aload_n C.1 (i := 1) (k := 3) hl dL_law_904 rfl rfl ?_
  refine z_arg C 1 (by decide) rfl hj hl dL_law_905 dL_law_906 dL_law_908 dL_law_909 dL_law_910 ?_
  refine z_arg C 2 (by decide) rfl hj hl dL_law_911 dL_law_912 dL_law_914 dL_law_915 dL_law_916 ?_
  refine z_callV C.1 (ci := 11) [.int (xs (6 * j + 1)), .int (xs (6 * j + 2))] [] [.int r] (m_X11_tokens F _ _ _ _ _ h1) cw_X11_tokens vw_X11_tokens ml_L_110 sh_0 rfl rfl rfl rfl hl.1 (Nat.le_of_ble_eq_true rfl) ⟨Nat.le_of_ble_eq_true rfl, Nat.le_of_ble_eq_true rfl⟩ hcs rfl dL_law_917 ?_
  refine z_aload_n C.1 (i := 2) (k := 2) hl dL_law_920 rfl rfl ?_
  refine z_arg C 1 (by decide) rfl hj hl dL_law_921 dL_law_922 dL_law_924 dL_law_925 dL_law_926 ?_
  refine z_arg C 2 (by decide) rfl hj hl dL_law_927 dL_law_928 dL_law_930 dL_law_931 dL_law_932 ?_
  refine z_callV C.1 (ci := 12) [.int (xs (6 * j + 1)), .int (xs (6 * j + 2))] [.int r] [.int r, .int r] (m_X12_tokens F _ _ _ _ _ h2) cw_X12_tokens vw_X12_tokens ml_L_114 sh_50 rfl rfl rfl rfl hl.1 (Nat.le_of_ble_eq_true rfl) ⟨Nat.le_of_ble_eq_true rfl, Nat.le_of_ble_eq_true rfl⟩ hcs rfl dL_law_933 ?_
  exact z_icmp_eq C.1 1097 dL_law_936 (by decide) (fun _ => kk u2 h3) (fun h => absurd rfl h)
set_option maxRecDepth 20000 in
set_option maxHeartbeats 1000000 in
theorem lc_21 {p : Program} {l : Launch} {e : Env} {s : State} {m : MethodId} {below : List Frame} {meth : Method} {c : Code} {D : va_G} {cA : Nat → ClassId} {b L : Nat} {xs : Nat → Int32} {cells slots : Nat} {Q : State → Prop} {u : St} {ls : Array Slot} {j F : Nat} (C : Lc p s m meth c D cA b L xs) (hF : 200000 ≤ F) (hI : Inv u) (hj : 6 * j + 6 ≤ L) (hl : lv_has ls 7 (lvL b s.heap.size j)) (hcs : cells ≤ room_1.cells ∧ slots ≤ room_1.slots) (kk : ∀ u' : St, Inv u' → Z SH p l e room_1 s m #[Value.ref b] below meth c D cA (adB s.heap.size) (inB s.heap.size) cells slots Q u' 1097 ls []) : Z SH p l e room_1 s m #[Value.ref b] below meth c D cA (adB s.heap.size) (inB s.heap.size) cells slots Q u 941 ls [] := by
  obtain ⟨u1, u2, h1, h2, h3⟩ := io_clear (F := F) hI
  refine z_aload_n C.1 (i := 1) (k := 3) hl dL_law_941 rfl rfl ?_
  refine z_callV C.1 (ci := 11) [] [] [] (m_X11_clear F  _ _ h1) cw_X11_clear vw_X11_clear ml_L_115 sh_0 rfl rfl rfl rfl hl.1 (Nat.le_of_ble_eq_true rfl) ⟨Nat.le_of_ble_eq_true rfl, Nat.le_of_ble_eq_true rfl⟩ hcs rfl dL_law_942 ?_
  refine z_aload_n C.1 (i := 2) (k := 2) hl dL_law_945 rfl rfl ?_
  refine z_callV C.1 (ci := 12) [] [] [] (m_X12_clear F  _ _ h2) cw_X12_clear vw_X12_clear ml_L_118 sh_50 rfl rfl rfl rfl hl.1 (Nat.le_of_ble_eq_true rfl) ⟨Nat.le_of_ble_eq_true rfl, Nat.le_of_ble_eq_true rfl⟩ hcs rfl dL_law_946 ?_
  exact z_goto C.1 1097 dL_law_949 (by decide) (kk u2 h3)
set_option maxRecDepth 20000 in
set_option maxHeartbeats 1000000 in
theorem lc_22 {p : Program} {l : Launch} {e : Env} {s : State} {m : MethodId} {below : List Frame} {meth : Method} {c : Code} {D : va_G} {cA : Nat → ClassId} {b L : Nat} {xs : Nat → Int32} {cells slots : Nat} {Q : State → Prop} {u : St} {ls : Array Slot} {j F : Nat} (C : Lc p s m meth c D cA b L xs) (hF : 200000 ≤ F) (hI : Inv u) (hj : 6 * j + 6 ≤ L) (hl : lv_has ls 7 (lvL b s.heap.size j)) (hcs : cells ≤ room_1.cells ∧ slots ≤ room_1.slots) (kk : ∀ u' : St, Inv u' → Z SH p l e room_1 s m #[Value.ref b] below meth c D cA (adB s.heap.size) (inB s.heap.size) cells slots Q u' 1097 ls []) : Z SH p l e room_1 s m #[Value.ref b] below meth c D cA (adB s.heap.size) (inB s.heap.size) cells slots Q u 952 ls [] := by
  obtain ⟨r, u1, u2, h1, h2, h3⟩ := io_dead hF hI
  refine z_aload_n C.1 (i := 1) (k := 3) hl dL_law_952 rfl rfl ?_
  refine z_callV C.1 (ci := 11) [] [] [.int r] (m_X11_dead F  _ _ _ h1) cw_X11_dead vw_X11_dead ml_L_119 sh_0 rfl rfl rfl rfl hl.1 (Nat.le_of_ble_eq_true rfl) ⟨Nat.le_of_ble_eq_true rfl, Nat.le_of_ble_eq_true rfl⟩ hcs rfl dL_law_953 ?_
  refine z_aload_n C.1 (i := 2) (k := 2) hl dL_law_956 rfl rfl ?_
  refine z_callV C.1 (ci := 12) [] [.int r] [.int r, .int r] (m_X12_dead F  _ _ _ h2) cw_X12_dead vw_X12_dead ml_L_122 sh_50 rfl rfl rfl rfl hl.1 (Nat.le_of_ble_eq_true rfl) ⟨Nat.le_of_ble_eq_true rfl, Nat.le_of_ble_eq_true rfl⟩ hcs rfl dL_law_957 ?_
  exact z_icmp_eq C.1 1097 dL_law_960 (by decide) (fun _ => kk u2 h3) (fun h => absurd rfl h)
set_option maxRecDepth 20000 in
set_option maxHeartbeats 1000000 in
theorem lc_23 {p : Program} {l : Launch} {e : Env} {s : State} {m : MethodId} {below : List Frame} {meth : Method} {c : Code} {D : va_G} {cA : Nat → ClassId} {b L : Nat} {xs : Nat → Int32} {cells slots : Nat} {Q : State → Prop} {u : St} {ls : Array Slot} {j F : Nat} (C : Lc p s m meth c D cA b L xs) (hF : 200000 ≤ F) (hI : Inv u) (hj : 6 * j + 6 ≤ L) (hl : lv_has ls 7 (lvL b s.heap.size j)) (hcs : cells ≤ room_1.cells ∧ slots ≤ room_1.slots) (kk : ∀ u' : St, Inv u' → Z SH p l e room_1 s m #[Value.ref b] below meth c D cA (adB s.heap.size) (inB s.heap.size) cells slots Q u' 1097 ls []) : Z SH p l e room_1 s m #[Value.ref b] below meth c D cA (adB s.heap.size) (inB s.heap.size) cells slots Q u 965 ls [] := by
  obtain ⟨r, u1, u2, h1, h2, h3⟩ := io_turn hF hI (xs (6 * j + 1))
  refine z_aload_n C.1 (i := 1) (k := 3) hl dL_law_965 rfl rfl ?_
  refine z_arg C 1 (by decide) rfl hj hl dL_law_966 dL_law_967 dL_law_969 dL_law_970 dL_law_971 ?_
  refine z_callV C.1 (ci := 11) [.int (xs (6 * j + 1))] [] [.long r] (m_X11_turn F _ _ _ _ h1) cw_X11_turn vw_X11_turn ml_L_123 sh_0 rfl rfl rfl rfl hl.1 (Nat.le_of_ble_eq_true rfl) ⟨Nat.le_of_ble_eq_true rfl, Nat.le_of_ble_eq_true rfl⟩ hcs rfl dL_law_972 ?_
  refine z_aload_n C.1 (i := 2) (k := 2) hl dL_law_975 rfl rfl ?_
  refine z_arg C 1 (by decide) rfl hj hl dL_law_976 dL_law_977 dL_law_979 dL_law_980 dL_law_981 ?_
  refine z_callV C.1 (ci := 12) [.int (xs (6 * j + 1))] [.long r] [.long r, .long r] (m_X12_turn F _ _ _ _ h2) cw_X12_turn vw_X12_turn ml_L_127 sh_50 rfl rfl rfl rfl hl.1 (Nat.le_of_ble_eq_true rfl) ⟨Nat.le_of_ble_eq_true rfl, Nat.le_of_ble_eq_true rfl⟩ hcs rfl dL_law_982 ?_
  refine z_lcmp C.1 dL_law_985 ?_
  exact z_if_eq C.1 1097 dL_law_986 (by decide) (fun _ => kk u2 h3) (fun h => absurd (lgc r) h)
set_option maxRecDepth 20000 in
set_option maxHeartbeats 1000000 in
theorem lc_25 {p : Program} {l : Launch} {e : Env} {s : State} {m : MethodId} {below : List Frame} {meth : Method} {c : Code} {D : va_G} {cA : Nat → ClassId} {b L : Nat} {xs : Nat → Int32} {cells slots : Nat} {Q : State → Prop} {u : St} {ls : Array Slot} {j F : Nat} (C : Lc p s m meth c D cA b L xs) (hF : 200000 ≤ F) (hI : Inv u) (hj : 6 * j + 6 ≤ L) (hl : lv_has ls 7 (lvL b s.heap.size j)) (hcs : cells ≤ room_1.cells ∧ slots ≤ room_1.slots) (kk : ∀ u' : St, Inv u' → Z SH p l e room_1 s m #[Value.ref b] below meth c D cA (adB s.heap.size) (inB s.heap.size) cells slots Q u' 1097 ls []) : Z SH p l e room_1 s m #[Value.ref b] below meth c D cA (adB s.heap.size) (inB s.heap.size) cells slots Q u 1059 ls [] := by
  obtain ⟨r, u1, u2, h1, h2, h3⟩ := io_helps hF hI
  refine z_aload_n C.1 (i := 1) (k := 3) hl dL_law_1059 rfl rfl ?_
  refine z_callV C.1 (ci := 11) [] [] [.int r] (m_X11_helps F  _ _ _ h1) cw_X11_helps vw_X11_helps ml_L_137 sh_0 rfl rfl rfl rfl hl.1 (Nat.le_of_ble_eq_true rfl) ⟨Nat.le_of_ble_eq_true rfl, Nat.le_of_ble_eq_true rfl⟩ hcs rfl dL_law_1060 ?_
  refine z_aload_n C.1 (i := 2) (k := 2) hl dL_law_1063 rfl rfl ?_
  refine z_callV C.1 (ci := 12) [] [.int r] [.int r, .int r] (m_X12_helps F  _ _ _ h2) cw_X12_helps vw_X12_helps ml_L_140 sh_50 rfl rfl rfl rfl hl.1 (Nat.le_of_ble_eq_true rfl) ⟨Nat.le_of_ble_eq_true rfl, Nat.le_of_ble_eq_true rfl⟩ hcs rfl dL_law_1064 ?_
  exact z_icmp_eq C.1 1097 dL_law_1067 (by decide) (fun _ => kk u2 h3) (fun h => absurd rfl h)
set_option maxRecDepth 20000 in
set_option maxHeartbeats 1000000 in
theorem lc_26 {p : Program} {l : Launch} {e : Env} {s : State} {m : MethodId} {below : List Frame} {meth : Method} {c : Code} {D : va_G} {cA : Nat → ClassId} {b L : Nat} {xs : Nat → Int32} {cells slots : Nat} {Q : State → Prop} {u : St} {ls : Array Slot} {j F : Nat} (C : Lc p s m meth c D cA b L xs) (hF : 200000 ≤ F) (hI : Inv u) (hj : 6 * j + 6 ≤ L) (hl : lv_has ls 7 (lvL b s.heap.size j)) (hcs : cells ≤ room_1.cells ∧ slots ≤ room_1.slots) (kk : ∀ u' : St, Inv u' → Z SH p l e room_1 s m #[Value.ref b] below meth c D cA (adB s.heap.size) (inB s.heap.size) cells slots Q u' 1097 ls []) : Z SH p l e room_1 s m #[Value.ref b] below meth c D cA (adB s.heap.size) (inB s.heap.size) cells slots Q u 1072 ls [] := by
  obtain ⟨r, u1, u2, h1, h2, h3⟩ := io_count hF hI (xs (6 * j + 1))
  refine z_aload_n C.1 (i := 1) (k := 3) hl dL_law_1072 rfl rfl ?_
  refine z_arg C 1 (by decide) rfl hj hl dL_law_1073 dL_law_1074 dL_law_1076 dL_law_1077 dL_law_1078 ?_
  refine z_callV C.1 (ci := 11) [.int (xs (6 * j + 1))] [] [.int r] (m_X11_count F _ _ _ _ h1) cw_X11_count vw_X11_count ml_L_141 sh_0 rfl rfl rfl rfl hl.1 (Nat.le_of_ble_eq_true rfl) ⟨Nat.le_of_ble_eq_true rfl, Nat.le_of_ble_eq_true rfl⟩ hcs rfl dL_law_1079 ?_
  refine z_aload_n C.1 (i := 2) (k := 2) hl dL_law_1082 rfl rfl ?_
  refine z_arg C 1 (by decide) rfl hj hl dL_law_1083 dL_law_1084 dL_law_1086 dL_law_1087 dL_law_1088 ?_
  refine z_callV C.1 (ci := 12) [.int (xs (6 * j + 1))] [.int r] [.int r, .int r] (m_X12_count F _ _ _ _ h2) cw_X12_count vw_X12_count ml_L_144 sh_50 rfl rfl rfl rfl hl.1 (Nat.le_of_ble_eq_true rfl) ⟨Nat.le_of_ble_eq_true rfl, Nat.le_of_ble_eq_true rfl⟩ hcs rfl dL_law_1089 ?_
  exact z_icmp_eq C.1 1097 dL_law_1092 (by decide) (fun _ => kk u2 h3) (fun h => absurd rfl h)
end LAWC
