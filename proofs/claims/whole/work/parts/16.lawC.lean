set_option maxHeartbeats 4000000 in
set_option maxRecDepth 100000 in
theorem lc_0 {P : zX} {Qf : Unit → State → Prop} {ro : Nat → Nat} (C : zC P cL_law RL (some .boolean) 20 601024 7293034 7 ro) {s xC xM o : Nat} {i : Int32} {p1 p2 p3 p4 p5 : Int32} {hp h1 h2 : zHp} {sz uc us : Nat} {r1 r2 : Int32} (e1 : ∀ h : zHp, h s = hp s → zaI h 0 s (i + 1) = some p1) (e2 : ∀ h : zHp, h s = hp s → zaI h 0 s (i + 2) = some p2) (e3 : ∀ h : zHp, h s = hp s → zaI h 0 s (i + 3) = some p3) (e4 : ∀ h : zHp, h s = hp s → zaI h 0 s (i + 4) = some p4) (e5 : ∀ h : zHp, h s = hp s → zaI h 0 s (i + 5) = some p5) (hC : f_X7_feed xC p1 p2 p3 p4 p5 hp = some (r1, h1)) (hM : f_X8_feed xM p1 p2 p3 p4 p5 h1 = some (r2, h2)) (hs : h1 s = hp s) (he : r1 = r2) (hcells : uc ≤ 601024 ∧ us ≤ 7293034) (k : zGq P Qf (some ()) 2774 [(0, .ref s), (1, .ref xC), (2, .ref xM), (3, .ref o), (4, .int i)] [] h2 sz uc us) : zGq P Qf (some ()) 276 [(0, .ref s), (1, .ref xC), (2, .ref xM), (3, .ref o), (4, .int i)] [] hp sz uc us := by
  refine z_aload_n C dL_law_276 1 rfl ?_
  refine z_aload_n C dL_law_277 0 rfl ?_
  refine z_iload C dL_law_278 4 rfl ?_
  refine z_iconst C dL_law_280 zi_1 ?_
  refine z_iadd C dL_law_281 ?_
  refine y_iaload C (e1 _ rfl) dL_law_282 ?_
  refine z_aload_n C dL_law_283 0 rfl ?_
  refine z_iload C dL_law_284 4 rfl ?_
  refine z_iconst C dL_law_286 zi_2 ?_
  refine z_iadd C dL_law_287 ?_
  refine y_iaload C (e2 _ rfl) dL_law_288 ?_
  refine z_aload_n C dL_law_289 0 rfl ?_
  refine z_iload C dL_law_290 4 rfl ?_
  refine z_iconst C dL_law_292 zi_3 ?_
  refine z_iadd C dL_law_293 ?_
  refine y_iaload C (e3 _ rfl) dL_law_294 ?_
  refine z_aload_n C dL_law_295 0 rfl ?_
  refine z_iload C dL_law_296 4 rfl ?_
  refine z_iconst C dL_law_298 zi_4 ?_
  refine z_iadd C dL_law_299 ?_
  refine y_iaload C (e4 _ rfl) dL_law_300 ?_
  refine z_aload_n C dL_law_301 0 rfl ?_
  refine z_iload C dL_law_302 4 rfl ?_
  refine z_iconst C dL_law_304 zi_5 ?_
  refine z_iadd C dL_law_305 ?_
  refine y_iaload C (e5 _ rfl) dL_law_306 ?_
  refine y_callV (oc := (zoI sz)) hC C zc_L_112 [.int p1, .int p2, .int p3, .int p4, .int p5] (fun l D tc b0 r h => m_X7_feed l D tc ro b0 h) rfl rfl (Nat.le_of_ble_eq_true rfl) (by decide) (by decide) hcells dL_law_307 ?_
  refine z_aload_n C dL_law_310 2 rfl ?_
  refine z_aload_n C dL_law_311 0 rfl ?_
  refine z_iload C dL_law_312 4 rfl ?_
  refine z_iconst C dL_law_314 zi_1 ?_
  refine z_iadd C dL_law_315 ?_
  refine y_iaload C (e1 _ hs) dL_law_316 ?_
  refine z_aload_n C dL_law_317 0 rfl ?_
  refine z_iload C dL_law_318 4 rfl ?_
  refine z_iconst C dL_law_320 zi_2 ?_
  refine z_iadd C dL_law_321 ?_
  refine y_iaload C (e2 _ hs) dL_law_322 ?_
  refine z_aload_n C dL_law_323 0 rfl ?_
  refine z_iload C dL_law_324 4 rfl ?_
  refine z_iconst C dL_law_326 zi_3 ?_
  refine z_iadd C dL_law_327 ?_
  refine y_iaload C (e3 _ hs) dL_law_328 ?_
  refine z_aload_n C dL_law_329 0 rfl ?_
  refine z_iload C dL_law_330 4 rfl ?_
  refine z_iconst C dL_law_332 zi_4 ?_
  refine z_iadd C dL_law_333 ?_
  refine y_iaload C (e4 _ hs) dL_law_334 ?_
  refine z_aload_n C dL_law_335 0 rfl ?_
  refine z_iload C dL_law_336 4 rfl ?_
  refine z_iconst C dL_law_338 zi_5 ?_
  refine z_iadd C dL_law_339 ?_
  refine y_iaload C (e5 _ hs) dL_law_340 ?_
  refine y_callV (oc := (zoI sz)) hM C zc_L_116 [.int p1, .int p2, .int p3, .int p4, .int p5] (fun l D tc b0 r h => m_X8_feed l D tc ro b0 h) rfl rfl (Nat.le_of_ble_eq_true rfl) (by decide) (by decide) hcells dL_law_341 ?_
  refine y_ifT C 2774 he dL_law_344 (by decide) ?_
  exact k
set_option maxHeartbeats 4000000 in
set_option maxRecDepth 100000 in
theorem lc_1 {P : zX} {Qf : Unit → State → Prop} {ro : Nat → Nat} (C : zC P cL_law RL (some .boolean) 20 601024 7293034 7 ro) {s xC xM o : Nat} {i : Int32} {p1 : Int32} {hp h1 h2 : zHp} {sz uc us : Nat} {r1 r2 : Int32} (e1 : ∀ h : zHp, h s = hp s → zaI h 0 s (i + 1) = some p1) (hC : f_X7_load ro xC p1 hp = some (r1, h1)) (hM : f_X8_load ro xM p1 h1 = some (r2, h2)) (hs : h1 s = hp s) (he : r1 = r2) (hcells : uc ≤ 601024 ∧ us ≤ 7293034) (k : zGq P Qf (some ()) 2774 [(0, .ref s), (1, .ref xC), (2, .ref xM), (3, .ref o), (4, .int i)] [] h2 sz uc us) : zGq P Qf (some ()) 349 [(0, .ref s), (1, .ref xC), (2, .ref xM), (3, .ref o), (4, .int i)] [] hp sz uc us := by
  refine z_aload_n C dL_law_349 1 rfl ?_
  refine z_aload_n C dL_law_350 0 rfl ?_
  refine z_iload C dL_law_351 4 rfl ?_
  refine z_iconst C dL_law_353 zi_1 ?_
  refine z_iadd C dL_law_354 ?_
  refine y_iaload C (e1 _ rfl) dL_law_355 ?_
  refine y_callV (oc := (zoI sz)) hC C zc_L_117 [.int p1] (fun l D tc b0 r h => m_X7_load l D tc ro b0 h) rfl rfl (Nat.le_of_ble_eq_true rfl) (by decide) (by decide) hcells dL_law_356 ?_
  refine z_aload_n C dL_law_359 2 rfl ?_
  refine z_aload_n C dL_law_360 0 rfl ?_
  refine z_iload C dL_law_361 4 rfl ?_
  refine z_iconst C dL_law_363 zi_1 ?_
  refine z_iadd C dL_law_364 ?_
  refine y_iaload C (e1 _ hs) dL_law_365 ?_
  refine y_callV (oc := (zoI sz)) hM C zc_L_120 [.int p1] (fun l D tc b0 r h => m_X8_load l D tc ro b0 h) rfl rfl (Nat.le_of_ble_eq_true rfl) (by decide) (by decide) hcells dL_law_366 ?_
  refine y_ifT C 2774 he dL_law_369 (by decide) ?_
  exact k
set_option maxHeartbeats 4000000 in
set_option maxRecDepth 100000 in
theorem lc_2 {P : zX} {Qf : Unit → State → Prop} {ro : Nat → Nat} (C : zC P cL_law RL (some .boolean) 20 601024 7293034 7 ro) {s xC xM o : Nat} {i : Int32} {hp h2 : zHp} {sz uc us : Nat} {r1 r2 : Int32}  (hC : f_X7_errorPosition xC  hp = some r1) (hM : f_X8_errorPosition xM  hp = some (r2, h2)) (he : r1 = r2) (hcells : uc ≤ 601024 ∧ us ≤ 7293034) (k : zGq P Qf (some ()) 2774 [(0, .ref s), (1, .ref xC), (2, .ref xM), (3, .ref o), (4, .int i)] [] h2 sz uc us) : zGq P Qf (some ()) 374 [(0, .ref s), (1, .ref xC), (2, .ref xM), (3, .ref o), (4, .int i)] [] hp sz uc us := by
  refine z_aload_n C dL_law_374 1 rfl ?_
  refine y_callV (oc := (zoP sz hp)) hC C zc_L_121 [] (fun l D tc b0 r h => m_X7_errorPosition l D tc ro b0 h) rfl rfl (Nat.le_of_ble_eq_true rfl) (by decide) (by decide) hcells dL_law_375 ?_
  refine z_aload_n C dL_law_378 2 rfl ?_
  refine y_callV (oc := (zoI sz)) hM C zc_L_125 [] (fun l D tc b0 r h => m_X8_errorPosition l D tc ro b0 h) rfl rfl (Nat.le_of_ble_eq_true rfl) (by decide) (by decide) hcells dL_law_379 ?_
  refine y_ifT C 2774 he dL_law_382 (by decide) ?_
  exact k
set_option maxHeartbeats 4000000 in
set_option maxRecDepth 100000 in
theorem lc_3 {P : zX} {Qf : Unit → State → Prop} {ro : Nat → Nat} (C : zC P cL_law RL (some .boolean) 20 601024 7293034 7 ro) {s xC xM o : Nat} {i : Int32} {p1 : Int32} {hp h2 : zHp} {sz uc us : Nat} {r1 r2 : Int32} (e1 : ∀ h : zHp, h s = hp s → zaI h 0 s (i + 1) = some p1) (hC : f_X7_count xC p1 hp = some r1) (hM : f_X8_count xM p1 hp = some (r2, h2)) (he : r1 = r2) (hcells : uc ≤ 601024 ∧ us ≤ 7293034) (k : zGq P Qf (some ()) 2774 [(0, .ref s), (1, .ref xC), (2, .ref xM), (3, .ref o), (4, .int i)] [] h2 sz uc us) : zGq P Qf (some ()) 387 [(0, .ref s), (1, .ref xC), (2, .ref xM), (3, .ref o), (4, .int i)] [] hp sz uc us := by
  refine z_aload_n C dL_law_387 1 rfl ?_
  refine z_aload_n C dL_law_388 0 rfl ?_
  refine z_iload C dL_law_389 4 rfl ?_
  refine z_iconst C dL_law_391 zi_1 ?_
  refine z_iadd C dL_law_392 ?_
  refine y_iaload C (e1 _ rfl) dL_law_393 ?_
  refine y_callV (oc := (zoP sz hp)) hC C zc_L_126 [.int p1] (fun l D tc b0 r h => m_X7_count l D tc ro b0 h) rfl rfl (Nat.le_of_ble_eq_true rfl) (by decide) (by decide) hcells dL_law_394 ?_
  refine z_aload_n C dL_law_397 2 rfl ?_
  refine z_aload_n C dL_law_398 0 rfl ?_
  refine z_iload C dL_law_399 4 rfl ?_
  refine z_iconst C dL_law_401 zi_1 ?_
  refine z_iadd C dL_law_402 ?_
  refine y_iaload C (e1 _ rfl) dL_law_403 ?_
  refine y_callV (oc := (zoI sz)) hM C zc_L_129 [.int p1] (fun l D tc b0 r h => m_X8_count l D tc ro b0 h) rfl rfl (Nat.le_of_ble_eq_true rfl) (by decide) (by decide) hcells dL_law_404 ?_
  refine y_ifT C 2774 he dL_law_407 (by decide) ?_
  exact k
set_option maxHeartbeats 4000000 in
set_option maxRecDepth 100000 in
theorem lc_4 {P : zX} {Qf : Unit → State → Prop} {ro : Nat → Nat} (C : zC P cL_law RL (some .boolean) 20 601024 7293034 7 ro) {s xC xM o : Nat} {i : Int32} {hp h2 : zHp} {sz uc us : Nat} {r1 r2 : Int32}  (hC : f_X7_undoCount xC  hp = some r1) (hM : f_X8_undoCount xM  hp = some (r2, h2)) (he : r1 = r2) (hcells : uc ≤ 601024 ∧ us ≤ 7293034) (k : zGq P Qf (some ()) 2774 [(0, .ref s), (1, .ref xC), (2, .ref xM), (3, .ref o), (4, .int i)] [] h2 sz uc us) : zGq P Qf (some ()) 412 [(0, .ref s), (1, .ref xC), (2, .ref xM), (3, .ref o), (4, .int i)] [] hp sz uc us := by
  refine z_aload_n C dL_law_412 1 rfl ?_
  refine y_callV (oc := (zoP sz hp)) hC C zc_L_130 [] (fun l D tc b0 r h => m_X7_undoCount l D tc ro b0 h) rfl rfl (Nat.le_of_ble_eq_true rfl) (by decide) (by decide) hcells dL_law_413 ?_
  refine z_aload_n C dL_law_416 2 rfl ?_
  refine y_callV (oc := (zoI sz)) hM C zc_L_133 [] (fun l D tc b0 r h => m_X8_undoCount l D tc ro b0 h) rfl rfl (Nat.le_of_ble_eq_true rfl) (by decide) (by decide) hcells dL_law_417 ?_
  refine y_ifT C 2774 he dL_law_420 (by decide) ?_
  exact k
set_option maxHeartbeats 4000000 in
set_option maxRecDepth 100000 in
theorem lc_5 {P : zX} {Qf : Unit → State → Prop} {ro : Nat → Nat} (C : zC P cL_law RL (some .boolean) 20 601024 7293034 7 ro) {s xC xM o : Nat} {i : Int32} {p1 p2 : Int32} {hp h2 : zHp} {sz uc us : Nat} {r1 r2 : Int32} (e1 : ∀ h : zHp, h s = hp s → zaI h 0 s (i + 1) = some p1) (e2 : ∀ h : zHp, h s = hp s → zaI h 0 s (i + 2) = some p2) (hC : f_X7_named xC p1 p2 hp = some r1) (hM : f_X8_named xM p1 p2 hp = some (r2, h2)) (he : r1 = r2) (hcells : uc ≤ 601024 ∧ us ≤ 7293034) (k : zGq P Qf (some ()) 2774 [(0, .ref s), (1, .ref xC), (2, .ref xM), (3, .ref o), (4, .int i)] [] h2 sz uc us) : zGq P Qf (some ()) 425 [(0, .ref s), (1, .ref xC), (2, .ref xM), (3, .ref o), (4, .int i)] [] hp sz uc us := by
  refine z_aload_n C dL_law_425 1 rfl ?_
  refine z_aload_n C dL_law_426 0 rfl ?_
  refine z_iload C dL_law_427 4 rfl ?_
  refine z_iconst C dL_law_429 zi_1 ?_
  refine z_iadd C dL_law_430 ?_
  refine y_iaload C (e1 _ rfl) dL_law_431 ?_
  refine z_aload_n C dL_law_432 0 rfl ?_
  refine z_iload C dL_law_433 4 rfl ?_
  refine z_iconst C dL_law_435 zi_2 ?_
  refine z_iadd C dL_law_436 ?_
  refine y_iaload C (e2 _ rfl) dL_law_437 ?_
  refine y_callV (oc := (zoP sz hp)) hC C zc_L_134 [.int p1, .int p2] (fun l D tc b0 r h => m_X7_named l D tc ro b0 h) rfl rfl (Nat.le_of_ble_eq_true rfl) (by decide) (by decide) hcells dL_law_438 ?_
  refine z_aload_n C dL_law_441 2 rfl ?_
  refine z_aload_n C dL_law_442 0 rfl ?_
  refine z_iload C dL_law_443 4 rfl ?_
  refine z_iconst C dL_law_445 zi_1 ?_
  refine z_iadd C dL_law_446 ?_
  refine y_iaload C (e1 _ rfl) dL_law_447 ?_
  refine z_aload_n C dL_law_448 0 rfl ?_
  refine z_iload C dL_law_449 4 rfl ?_
  refine z_iconst C dL_law_451 zi_2 ?_
  refine z_iadd C dL_law_452 ?_
  refine y_iaload C (e2 _ rfl) dL_law_453 ?_
  refine y_callV (oc := (zoI sz)) hM C zc_L_137 [.int p1, .int p2] (fun l D tc b0 r h => m_X8_named l D tc ro b0 h) rfl rfl (Nat.le_of_ble_eq_true rfl) (by decide) (by decide) hcells dL_law_454 ?_
  refine y_ifT C 2774 he dL_law_457 (by decide) ?_
  exact k
set_option maxHeartbeats 4000000 in
set_option maxRecDepth 100000 in
theorem lc_6 {P : zX} {Qf : Unit → State → Prop} {ro : Nat → Nat} (C : zC P cL_law RL (some .boolean) 20 601024 7293034 7 ro) {s xC xM o : Nat} {i : Int32} {p1 : Int32} {hp h2 : zHp} {sz uc us : Nat} {r1 r2 : Int32} (e1 : ∀ h : zHp, h s = hp s → zaI h 0 s (i + 1) = some p1) (hC : f_X7_getSetting xC p1 hp = some r1) (hM : f_X8_getSetting xM p1 hp = some (r2, h2)) (he : r1 = r2) (hcells : uc ≤ 601024 ∧ us ≤ 7293034) (k : zGq P Qf (some ()) 2774 [(0, .ref s), (1, .ref xC), (2, .ref xM), (3, .ref o), (4, .int i)] [] h2 sz uc us) : zGq P Qf (some ()) 462 [(0, .ref s), (1, .ref xC), (2, .ref xM), (3, .ref o), (4, .int i)] [] hp sz uc us := by
  refine z_aload_n C dL_law_462 1 rfl ?_
  refine z_aload_n C dL_law_463 0 rfl ?_
  refine z_iload C dL_law_464 4 rfl ?_
  refine z_iconst C dL_law_466 zi_1 ?_
  refine z_iadd C dL_law_467 ?_
  refine y_iaload C (e1 _ rfl) dL_law_468 ?_
  refine y_callV (oc := (zoP sz hp)) hC C zc_L_138 [.int p1] (fun l D tc b0 r h => m_X7_getSetting l D tc ro b0 h) rfl rfl (Nat.le_of_ble_eq_true rfl) (by decide) (by decide) hcells dL_law_469 ?_
  refine z_aload_n C dL_law_472 2 rfl ?_
  refine z_aload_n C dL_law_473 0 rfl ?_
  refine z_iload C dL_law_474 4 rfl ?_
  refine z_iconst C dL_law_476 zi_1 ?_
  refine z_iadd C dL_law_477 ?_
  refine y_iaload C (e1 _ rfl) dL_law_478 ?_
  refine y_callV (oc := (zoI sz)) hM C zc_L_141 [.int p1] (fun l D tc b0 r h => m_X8_getSetting l D tc ro b0 h) rfl rfl (Nat.le_of_ble_eq_true rfl) (by decide) (by decide) hcells dL_law_479 ?_
  refine y_ifT C 2774 he dL_law_482 (by decide) ?_
  exact k
set_option maxHeartbeats 4000000 in
set_option maxRecDepth 100000 in
theorem lc_7 {P : zX} {Qf : Unit → State → Prop} {ro : Nat → Nat} (C : zC P cL_law RL (some .boolean) 20 601024 7293034 7 ro) (hl0 : (match P with | (_, l, _) => l.stackTraces) = false) {s xC xM o : Nat} {i : Int32} {p1 : Int32} {hp h' h1 h2 : zHp} {sz uc us : Nat} {t : Option Int32} {kk b : Int32} (e1 : ∀ h : zHp, h s = hp s → zaI h 0 s (i + 1) = some p1) (hF : f_X7_regionAround xC p1 hp = some t) (ho : ∀ v, t = some v → zsL hp o 0 v.toInt64 = some h1) (hkk : ∀ v h z, zRw t hp h1 sz v h z → sz ≤ z ∧ v = kk ∧ h = h') (hs : h' s = hp s) (hM : f_X8_regionAround xM p1 h' = some (b, h2)) (hT : f_X8_thrown xM h2 = some kk) (hcmp : kk = 1 ∨ (kk = 0 ∧ zaL h2 2 o 0 = some b.toInt64)) (hcells : uc + 1 ≤ 601024 ∧ us + 6 ≤ 7293034) (k : ∀ z, sz ≤ z → zGq P Qf (some ()) 2774 [(0, .ref s), (1, .ref xC), (2, .ref xM), (3, .ref o), (4, .int i)] [] h2 z (uc + 1) (us + 6)) : zGq P Qf (some ()) 487 [(0, .ref s), (1, .ref xC), (2, .ref xM), (3, .ref o), (4, .int i)] [] hp sz uc us := by
  refine z_aload_n C dL_law_487 1 rfl ?_
  refine z_aload_n C dL_law_488 0 rfl ?_
  refine z_iload C dL_law_489 4 rfl ?_
  refine z_iconst C dL_law_491 zi_1 ?_
  refine z_iadd C dL_law_492 ?_
  refine y_iaload C (e1 _ rfl) dL_law_493 ?_
  refine z_aload_n C dL_law_494 3 rfl ?_
  refine y_callE C ze_L_142 [.ref xC, .int p1, .ref o] (fun l D tc b0 hl => we_regionAround l D tc ro b0 hl hF ho) hl0 rfl rfl (Nat.le_of_ble_eq_true rfl) (by decide) (by decide) hcells dL_law_495 (fun v h z hR => ?_)
  obtain ⟨hz, hv9, hh9⟩ : sz ≤ z ∧ v = kk ∧ h = h' := hkk v h z hR; subst v; subst h
  refine z_istore (lv' := [(0, .ref s), (1, .ref xC), (2, .ref xM), (3, .ref o), (4, .int i), (5, .int kk)]) C dL_law_498 (by decide) rfl ?_
  refine z_aload_n C dL_law_500 2 rfl ?_
  refine z_aload_n C dL_law_501 0 rfl ?_
  refine z_iload C dL_law_502 4 rfl ?_
  refine z_iconst C dL_law_504 zi_1 ?_
  refine z_iadd C dL_law_505 ?_
  refine y_iaload C (e1 _ hs) dL_law_506 ?_
  refine y_callV (oc := (zoI z)) hM C zc_L_147 [.int p1] (fun l D tc b0 r h => m_X8_regionAround l D tc ro b0 h) rfl rfl (Nat.le_of_ble_eq_true rfl) (by decide) (by decide) ⟨hcells.1, hcells.2⟩ dL_law_507 ?_
  refine z_istore (lv' := [(0, .ref s), (1, .ref xC), (2, .ref xM), (3, .ref o), (4, .int i), (5, .int kk), (6, .int b)]) C dL_law_510 (by decide) rfl ?_
  refine z_aload_n C dL_law_512 2 rfl ?_
  refine y_callV (oc := (zoP z h2)) hT C zc_L_148 [] (fun l D tc b0 r h => m_X8_thrown l D tc ro b0 h) rfl rfl (Nat.le_of_ble_eq_true rfl) (by decide) (by decide) ⟨hcells.1, hcells.2⟩ dL_law_513 ?_
  refine z_iload C dL_law_516 5 rfl ?_
  refine y_ifT C 523 rfl dL_law_518 (by decide) ?_
  refine z_iload C dL_law_523 5 rfl ?_
  have hend : zGq P Qf (some ()) 540 [(0, .ref s), (1, .ref xC), (2, .ref xM), (3, .ref o), (4, .int i), (5, .int kk), (6, .int b)] [] h2 z (uc + 1) (us + 6) := by
    refine z_goto C 2774 dL_law_540 (by decide) ?_
    exact z_sub [0, 1, 2, 3, 4] rfl (k z hz)
  rcases hcmp with ek | ⟨ek, hl⟩
  · refine y_ifneT C 540 (by rw [ek]; decide) dL_law_525 (by decide) hend
  refine y_ifneF C 540 ek dL_law_525 (by decide) ?_
  refine z_aload_n C dL_law_528 3 rfl ?_
  refine z_iconst C dL_law_529 zi_0 ?_
  refine y_laload C hl dL_law_530 ?_
  refine z_iload C dL_law_531 6 rfl ?_
  refine z_i2l C dL_law_533 ?_
  refine y_lcmp C rfl dL_law_534 ?_
  exact y_ifeqT C 540 rfl dL_law_535 (by decide) hend
set_option maxHeartbeats 4000000 in
set_option maxRecDepth 100000 in
theorem lc_8 {P : zX} {Qf : Unit → State → Prop} {ro : Nat → Nat} (C : zC P cL_law RL (some .boolean) 20 601024 7293034 7 ro) (hl0 : (match P with | (_, l, _) => l.stackTraces) = false) {s xC xM o : Nat} {i : Int32} {p1 : Int32} {hp h' h1 h2 : zHp} {sz uc us : Nat} {t : Option Int32} {kk b : Int32} (e1 : ∀ h : zHp, h s = hp s → zaI h 0 s (i + 1) = some p1) (hF : f_X7_regionOf xC p1 hp = some t) (ho : ∀ v, t = some v → zsL hp o 0 v.toInt64 = some h1) (hkk : ∀ v h z, zRw t hp h1 sz v h z → sz ≤ z ∧ v = kk ∧ h = h') (hs : h' s = hp s) (hM : f_X8_regionOf xM p1 h' = some (b, h2)) (hT : f_X8_thrown xM h2 = some kk) (hcmp : kk = 1 ∨ (kk = 0 ∧ zaL h2 2 o 0 = some b.toInt64)) (hcells : uc + 1 ≤ 601024 ∧ us + 6 ≤ 7293034) (k : ∀ z, sz ≤ z → zGq P Qf (some ()) 2774 [(0, .ref s), (1, .ref xC), (2, .ref xM), (3, .ref o), (4, .int i)] [] h2 z (uc + 1) (us + 6)) : zGq P Qf (some ()) 543 [(0, .ref s), (1, .ref xC), (2, .ref xM), (3, .ref o), (4, .int i)] [] hp sz uc us := by
  refine z_aload_n C dL_law_543 1 rfl ?_
  refine z_aload_n C dL_law_544 0 rfl ?_
  refine z_iload C dL_law_545 4 rfl ?_
  refine z_iconst C dL_law_547 zi_1 ?_
  refine z_iadd C dL_law_548 ?_
  refine y_iaload C (e1 _ rfl) dL_law_549 ?_
  refine z_aload_n C dL_law_550 3 rfl ?_
  refine y_callE C ze_L_151 [.ref xC, .int p1, .ref o] (fun l D tc b0 hl => we_regionOf l D tc ro b0 hl hF ho) hl0 rfl rfl (Nat.le_of_ble_eq_true rfl) (by decide) (by decide) hcells dL_law_551 (fun v h z hR => ?_)
  obtain ⟨hz, hv9, hh9⟩ : sz ≤ z ∧ v = kk ∧ h = h' := hkk v h z hR; subst v; subst h
  refine z_istore (lv' := [(0, .ref s), (1, .ref xC), (2, .ref xM), (3, .ref o), (4, .int i), (5, .int kk)]) C dL_law_554 (by decide) rfl ?_
  refine z_aload_n C dL_law_556 2 rfl ?_
  refine z_aload_n C dL_law_557 0 rfl ?_
  refine z_iload C dL_law_558 4 rfl ?_
  refine z_iconst C dL_law_560 zi_1 ?_
  refine z_iadd C dL_law_561 ?_
  refine y_iaload C (e1 _ hs) dL_law_562 ?_
  refine y_callV (oc := (zoI z)) hM C zc_L_153 [.int p1] (fun l D tc b0 r h => m_X8_regionOf l D tc ro b0 h) rfl rfl (Nat.le_of_ble_eq_true rfl) (by decide) (by decide) ⟨hcells.1, hcells.2⟩ dL_law_563 ?_
  refine z_istore (lv' := [(0, .ref s), (1, .ref xC), (2, .ref xM), (3, .ref o), (4, .int i), (5, .int kk), (6, .int b)]) C dL_law_566 (by decide) rfl ?_
  refine z_aload_n C dL_law_568 2 rfl ?_
  refine y_callV (oc := (zoP z h2)) hT C zc_L_148 [] (fun l D tc b0 r h => m_X8_thrown l D tc ro b0 h) rfl rfl (Nat.le_of_ble_eq_true rfl) (by decide) (by decide) ⟨hcells.1, hcells.2⟩ dL_law_569 ?_
  refine z_iload C dL_law_572 5 rfl ?_
  refine y_ifT C 579 rfl dL_law_574 (by decide) ?_
  refine z_iload C dL_law_579 5 rfl ?_
  have hend : zGq P Qf (some ()) 596 [(0, .ref s), (1, .ref xC), (2, .ref xM), (3, .ref o), (4, .int i), (5, .int kk), (6, .int b)] [] h2 z (uc + 1) (us + 6) := by
    refine z_goto C 2774 dL_law_596 (by decide) ?_
    exact z_sub [0, 1, 2, 3, 4] rfl (k z hz)
  rcases hcmp with ek | ⟨ek, hl⟩
  · refine y_ifneT C 596 (by rw [ek]; decide) dL_law_581 (by decide) hend
  refine y_ifneF C 596 ek dL_law_581 (by decide) ?_
  refine z_aload_n C dL_law_584 3 rfl ?_
  refine z_iconst C dL_law_585 zi_0 ?_
  refine y_laload C hl dL_law_586 ?_
  refine z_iload C dL_law_587 6 rfl ?_
  refine z_i2l C dL_law_589 ?_
  refine y_lcmp C rfl dL_law_590 ?_
  exact y_ifeqT C 596 rfl dL_law_591 (by decide) hend
set_option maxHeartbeats 4000000 in
set_option maxRecDepth 100000 in
theorem lc_9 {P : zX} {Qf : Unit → State → Prop} {ro : Nat → Nat} (C : zC P cL_law RL (some .boolean) 20 601024 7293034 7 ro) (hl0 : (match P with | (_, l, _) => l.stackTraces) = false) {s xC xM o : Nat} {i : Int32} {p1 : Int32} {hp h' h1 h2 : zHp} {sz uc us : Nat} {t : Option Int32} {kk b : Int32} (e1 : ∀ h : zHp, h s = hp s → zaI h 0 s (i + 1) = some p1) (hF : f_X7_wardsIn xC p1 hp = some t) (ho : ∀ v, t = some v → zsL hp o 0 v.toInt64 = some h1) (hkk : ∀ v h z, zRw t hp h1 sz v h z → sz ≤ z ∧ v = kk ∧ h = h') (hs : h' s = hp s) (hM : f_X8_wardsIn xM p1 h' = some (b, h2)) (hT : f_X8_thrown xM h2 = some kk) (hcmp : kk = 1 ∨ (kk = 0 ∧ zaL h2 2 o 0 = some b.toInt64)) (hcells : uc + 1 ≤ 601024 ∧ us + 6 ≤ 7293034) (k : ∀ z, sz ≤ z → zGq P Qf (some ()) 2774 [(0, .ref s), (1, .ref xC), (2, .ref xM), (3, .ref o), (4, .int i)] [] h2 z (uc + 1) (us + 6)) : zGq P Qf (some ()) 599 [(0, .ref s), (1, .ref xC), (2, .ref xM), (3, .ref o), (4, .int i)] [] hp sz uc us := by
  refine z_aload_n C dL_law_599 1 rfl ?_
  refine z_aload_n C dL_law_600 0 rfl ?_
  refine z_iload C dL_law_601 4 rfl ?_
  refine z_iconst C dL_law_603 zi_1 ?_
  refine z_iadd C dL_law_604 ?_
  refine y_iaload C (e1 _ rfl) dL_law_605 ?_
  refine z_aload_n C dL_law_606 3 rfl ?_
  refine y_callE C ze_L_154 [.ref xC, .int p1, .ref o] (fun l D tc b0 hl => we_wardsIn l D tc ro b0 hl hF ho) hl0 rfl rfl (Nat.le_of_ble_eq_true rfl) (by decide) (by decide) hcells dL_law_607 (fun v h z hR => ?_)
  obtain ⟨hz, hv9, hh9⟩ : sz ≤ z ∧ v = kk ∧ h = h' := hkk v h z hR; subst v; subst h
  refine z_istore (lv' := [(0, .ref s), (1, .ref xC), (2, .ref xM), (3, .ref o), (4, .int i), (5, .int kk)]) C dL_law_610 (by decide) rfl ?_
  refine z_aload_n C dL_law_612 2 rfl ?_
  refine z_aload_n C dL_law_613 0 rfl ?_
  refine z_iload C dL_law_614 4 rfl ?_
  refine z_iconst C dL_law_616 zi_1 ?_
  refine z_iadd C dL_law_617 ?_
  refine y_iaload C (e1 _ hs) dL_law_618 ?_
  refine y_callV (oc := (zoI z)) hM C zc_L_156 [.int p1] (fun l D tc b0 r h => m_X8_wardsIn l D tc ro b0 h) rfl rfl (Nat.le_of_ble_eq_true rfl) (by decide) (by decide) ⟨hcells.1, hcells.2⟩ dL_law_619 ?_
  refine z_istore (lv' := [(0, .ref s), (1, .ref xC), (2, .ref xM), (3, .ref o), (4, .int i), (5, .int kk), (6, .int b)]) C dL_law_622 (by decide) rfl ?_
  refine z_aload_n C dL_law_624 2 rfl ?_
  refine y_callV (oc := (zoP z h2)) hT C zc_L_148 [] (fun l D tc b0 r h => m_X8_thrown l D tc ro b0 h) rfl rfl (Nat.le_of_ble_eq_true rfl) (by decide) (by decide) ⟨hcells.1, hcells.2⟩ dL_law_625 ?_
  refine z_iload C dL_law_628 5 rfl ?_
  refine y_ifT C 635 rfl dL_law_630 (by decide) ?_
  refine z_iload C dL_law_635 5 rfl ?_
  have hend : zGq P Qf (some ()) 652 [(0, .ref s), (1, .ref xC), (2, .ref xM), (3, .ref o), (4, .int i), (5, .int kk), (6, .int b)] [] h2 z (uc + 1) (us + 6) := by
    refine z_goto C 2774 dL_law_652 (by decide) ?_
    exact z_sub [0, 1, 2, 3, 4] rfl (k z hz)
  rcases hcmp with ek | ⟨ek, hl⟩
  · refine y_ifneT C 652 (by rw [ek]; decide) dL_law_637 (by decide) hend
  refine y_ifneF C 652 ek dL_law_637 (by decide) ?_
  refine z_aload_n C dL_law_640 3 rfl ?_
  refine z_iconst C dL_law_641 zi_0 ?_
  refine y_laload C hl dL_law_642 ?_
  refine z_iload C dL_law_643 6 rfl ?_
  refine z_i2l C dL_law_645 ?_
  refine y_lcmp C rfl dL_law_646 ?_
  exact y_ifeqT C 652 rfl dL_law_647 (by decide) hend
set_option maxHeartbeats 4000000 in
set_option maxRecDepth 100000 in
theorem lc_10 {P : zX} {Qf : Unit → State → Prop} {ro : Nat → Nat} (C : zC P cL_law RL (some .boolean) 20 601024 7293034 7 ro) (hl0 : (match P with | (_, l, _) => l.stackTraces) = false) {s xC xM o : Nat} {i : Int32} {p1 : Int32} {hp h' h1 h2 : zHp} {sz uc us : Nat} {t : Option Int32} {kk b : Int32} (e1 : ∀ h : zHp, h s = hp s → zaI h 0 s (i + 1) = some p1) (hF : f_X7_depthOf xC p1 hp = some t) (ho : ∀ v, t = some v → zsL hp o 0 v.toInt64 = some h1) (hkk : ∀ v h z, zRw t hp h1 sz v h z → sz ≤ z ∧ v = kk ∧ h = h') (hs : h' s = hp s) (hM : f_X8_depthOf xM p1 h' = some (b, h2)) (hT : f_X8_thrown xM h2 = some kk) (hcmp : kk = 1 ∨ (kk = 0 ∧ zaL h2 2 o 0 = some b.toInt64)) (hcells : uc + 1 ≤ 601024 ∧ us + 6 ≤ 7293034) (k : ∀ z, sz ≤ z → zGq P Qf (some ()) 2774 [(0, .ref s), (1, .ref xC), (2, .ref xM), (3, .ref o), (4, .int i)] [] h2 z (uc + 1) (us + 6)) : zGq P Qf (some ()) 655 [(0, .ref s), (1, .ref xC), (2, .ref xM), (3, .ref o), (4, .int i)] [] hp sz uc us := by
  refine z_aload_n C dL_law_655 1 rfl ?_
  refine z_aload_n C dL_law_656 0 rfl ?_
  refine z_iload C dL_law_657 4 rfl ?_
  refine z_iconst C dL_law_659 zi_1 ?_
  refine z_iadd C dL_law_660 ?_
  refine y_iaload C (e1 _ rfl) dL_law_661 ?_
  refine z_aload_n C dL_law_662 3 rfl ?_
  refine y_callE C ze_L_157 [.ref xC, .int p1, .ref o] (fun l D tc b0 hl => we_depthOf l D tc ro b0 hl hF ho) hl0 rfl rfl (Nat.le_of_ble_eq_true rfl) (by decide) (by decide) hcells dL_law_663 (fun v h z hR => ?_)
  obtain ⟨hz, hv9, hh9⟩ : sz ≤ z ∧ v = kk ∧ h = h' := hkk v h z hR; subst v; subst h
  refine z_istore (lv' := [(0, .ref s), (1, .ref xC), (2, .ref xM), (3, .ref o), (4, .int i), (5, .int kk)]) C dL_law_666 (by decide) rfl ?_
  refine z_aload_n C dL_law_668 2 rfl ?_
  refine z_aload_n C dL_law_669 0 rfl ?_
  refine z_iload C dL_law_670 4 rfl ?_
  refine z_iconst C dL_law_672 zi_1 ?_
  refine z_iadd C dL_law_673 ?_
  refine y_iaload C (e1 _ hs) dL_law_674 ?_
  refine y_callV (oc := (zoI z)) hM C zc_L_159 [.int p1] (fun l D tc b0 r h => m_X8_depthOf l D tc ro b0 h) rfl rfl (Nat.le_of_ble_eq_true rfl) (by decide) (by decide) ⟨hcells.1, hcells.2⟩ dL_law_675 ?_
  refine z_istore (lv' := [(0, .ref s), (1, .ref xC), (2, .ref xM), (3, .ref o), (4, .int i), (5, .int kk), (6, .int b)]) C dL_law_678 (by decide) rfl ?_
  refine z_aload_n C dL_law_680 2 rfl ?_
  refine y_callV (oc := (zoP z h2)) hT C zc_L_148 [] (fun l D tc b0 r h => m_X8_thrown l D tc ro b0 h) rfl rfl (Nat.le_of_ble_eq_true rfl) (by decide) (by decide) ⟨hcells.1, hcells.2⟩ dL_law_681 ?_
  refine z_iload C dL_law_684 5 rfl ?_
  refine y_ifT C 691 rfl dL_law_686 (by decide) ?_
  refine z_iload C dL_law_691 5 rfl ?_
  have hend : zGq P Qf (some ()) 708 [(0, .ref s), (1, .ref xC), (2, .ref xM), (3, .ref o), (4, .int i), (5, .int kk), (6, .int b)] [] h2 z (uc + 1) (us + 6) := by
    refine z_goto C 2774 dL_law_708 (by decide) ?_
    exact z_sub [0, 1, 2, 3, 4] rfl (k z hz)
  rcases hcmp with ek | ⟨ek, hl⟩
  · refine y_ifneT C 708 (by rw [ek]; decide) dL_law_693 (by decide) hend
  refine y_ifneF C 708 ek dL_law_693 (by decide) ?_
  refine z_aload_n C dL_law_696 3 rfl ?_
  refine z_iconst C dL_law_697 zi_0 ?_
  refine y_laload C hl dL_law_698 ?_
  refine z_iload C dL_law_699 6 rfl ?_
  refine z_i2l C dL_law_701 ?_
  refine y_lcmp C rfl dL_law_702 ?_
  exact y_ifeqT C 708 rfl dL_law_703 (by decide) hend
set_option maxHeartbeats 4000000 in
set_option maxRecDepth 100000 in
theorem lc_11 {P : zX} {Qf : Unit → State → Prop} {ro : Nat → Nat} (C : zC P cL_law RL (some .boolean) 20 601024 7293034 7 ro) (hl0 : (match P with | (_, l, _) => l.stackTraces) = false) {s xC xM o : Nat} {i : Int32} {p1 p2 : Int32} {hp h' h1 h2 : zHp} {sz uc us : Nat} {t : Option Int32} {kk b : Int32} (e1 : ∀ h : zHp, h s = hp s → zaI h 0 s (i + 1) = some p1) (e2 : ∀ h : zHp, h s = hp s → zaI h 0 s (i + 2) = some p2) (hF : f_X7_boxProperty xC p1 p2 hp = some t) (ho : ∀ v, t = some v → zsL hp o 0 v.toInt64 = some h1) (hkk : ∀ v h z, zRw t hp h1 sz v h z → sz ≤ z ∧ v = kk ∧ h = h') (hs : h' s = hp s) (hM : f_X8_boxProperty xM p1 p2 h' = some (b, h2)) (hT : f_X8_thrown xM h2 = some kk) (hcmp : kk = 1 ∨ (kk = 0 ∧ zaL h2 2 o 0 = some b.toInt64)) (hcells : uc + 1 ≤ 601024 ∧ us + 6 ≤ 7293034) (k : ∀ z, sz ≤ z → zGq P Qf (some ()) 2774 [(0, .ref s), (1, .ref xC), (2, .ref xM), (3, .ref o), (4, .int i)] [] h2 z (uc + 1) (us + 6)) : zGq P Qf (some ()) 711 [(0, .ref s), (1, .ref xC), (2, .ref xM), (3, .ref o), (4, .int i)] [] hp sz uc us := by
  refine z_aload_n C dL_law_711 1 rfl ?_
  refine z_aload_n C dL_law_712 0 rfl ?_
  refine z_iload C dL_law_713 4 rfl ?_
  refine z_iconst C dL_law_715 zi_1 ?_
  refine z_iadd C dL_law_716 ?_
  refine y_iaload C (e1 _ rfl) dL_law_717 ?_
  refine z_aload_n C dL_law_718 0 rfl ?_
  refine z_iload C dL_law_719 4 rfl ?_
  refine z_iconst C dL_law_721 zi_2 ?_
  refine z_iadd C dL_law_722 ?_
  refine y_iaload C (e2 _ rfl) dL_law_723 ?_
  refine z_aload_n C dL_law_724 3 rfl ?_
  refine y_callE C ze_L_160 [.ref xC, .int p1, .int p2, .ref o] (fun l D tc b0 hl => we_boxProperty l D tc ro b0 hl hF ho) hl0 rfl rfl (Nat.le_of_ble_eq_true rfl) (by decide) (by decide) hcells dL_law_725 (fun v h z hR => ?_)
  obtain ⟨hz, hv9, hh9⟩ : sz ≤ z ∧ v = kk ∧ h = h' := hkk v h z hR; subst v; subst h
  refine z_istore (lv' := [(0, .ref s), (1, .ref xC), (2, .ref xM), (3, .ref o), (4, .int i), (5, .int kk)]) C dL_law_728 (by decide) rfl ?_
  refine z_aload_n C dL_law_730 2 rfl ?_
  refine z_aload_n C dL_law_731 0 rfl ?_
  refine z_iload C dL_law_732 4 rfl ?_
  refine z_iconst C dL_law_734 zi_1 ?_
  refine z_iadd C dL_law_735 ?_
  refine y_iaload C (e1 _ hs) dL_law_736 ?_
  refine z_aload_n C dL_law_737 0 rfl ?_
  refine z_iload C dL_law_738 4 rfl ?_
  refine z_iconst C dL_law_740 zi_2 ?_
  refine z_iadd C dL_law_741 ?_
  refine y_iaload C (e2 _ hs) dL_law_742 ?_
  refine y_callV (oc := (zoI z)) hM C zc_L_163 [.int p1, .int p2] (fun l D tc b0 r h => m_X8_boxProperty l D tc ro b0 h) rfl rfl (Nat.le_of_ble_eq_true rfl) (by decide) (by decide) ⟨hcells.1, hcells.2⟩ dL_law_743 ?_
  refine z_istore (lv' := [(0, .ref s), (1, .ref xC), (2, .ref xM), (3, .ref o), (4, .int i), (5, .int kk), (6, .int b)]) C dL_law_746 (by decide) rfl ?_
  refine z_aload_n C dL_law_748 2 rfl ?_
  refine y_callV (oc := (zoP z h2)) hT C zc_L_148 [] (fun l D tc b0 r h => m_X8_thrown l D tc ro b0 h) rfl rfl (Nat.le_of_ble_eq_true rfl) (by decide) (by decide) ⟨hcells.1, hcells.2⟩ dL_law_749 ?_
  refine z_iload C dL_law_752 5 rfl ?_
  refine y_ifT C 759 rfl dL_law_754 (by decide) ?_
  refine z_iload C dL_law_759 5 rfl ?_
  have hend : zGq P Qf (some ()) 776 [(0, .ref s), (1, .ref xC), (2, .ref xM), (3, .ref o), (4, .int i), (5, .int kk), (6, .int b)] [] h2 z (uc + 1) (us + 6) := by
    refine z_goto C 2774 dL_law_776 (by decide) ?_
    exact z_sub [0, 1, 2, 3, 4] rfl (k z hz)
  rcases hcmp with ek | ⟨ek, hl⟩
  · refine y_ifneT C 776 (by rw [ek]; decide) dL_law_761 (by decide) hend
  refine y_ifneF C 776 ek dL_law_761 (by decide) ?_
  refine z_aload_n C dL_law_764 3 rfl ?_
  refine z_iconst C dL_law_765 zi_0 ?_
  refine y_laload C hl dL_law_766 ?_
  refine z_iload C dL_law_767 6 rfl ?_
  refine z_i2l C dL_law_769 ?_
  refine y_lcmp C rfl dL_law_770 ?_
  exact y_ifeqT C 776 rfl dL_law_771 (by decide) hend
set_option maxHeartbeats 4000000 in
set_option maxRecDepth 100000 in
theorem lc_12 {P : zX} {Qf : Unit → State → Prop} {ro : Nat → Nat} (C : zC P cL_law RL (some .boolean) 20 601024 7293034 7 ro) (hl0 : (match P with | (_, l, _) => l.stackTraces) = false) {s xC xM o : Nat} {i : Int32} {p1 : Int32} {hp h' h1 h2 : zHp} {sz uc us : Nat} {t : Option Int32} {kk b : Int32} (e1 : ∀ h : zHp, h s = hp s → zaI h 0 s (i + 1) = some p1) (hF : f_X7_placeOf xC p1 hp = some t) (ho : ∀ v, t = some v → zsL hp o 0 v.toInt64 = some h1) (hkk : ∀ v h z, zRw t hp h1 sz v h z → sz ≤ z ∧ v = kk ∧ h = h') (hs : h' s = hp s) (hM : f_X8_placeOf xM p1 h' = some (b, h2)) (hT : f_X8_thrown xM h2 = some kk) (hcmp : kk = 1 ∨ (kk = 0 ∧ zaL h2 2 o 0 = some b.toInt64)) (hcells : uc + 1 ≤ 601024 ∧ us + 6 ≤ 7293034) (k : ∀ z, sz ≤ z → zGq P Qf (some ()) 2774 [(0, .ref s), (1, .ref xC), (2, .ref xM), (3, .ref o), (4, .int i)] [] h2 z (uc + 1) (us + 6)) : zGq P Qf (some ()) 779 [(0, .ref s), (1, .ref xC), (2, .ref xM), (3, .ref o), (4, .int i)] [] hp sz uc us := by
  refine z_aload_n C dL_law_779 1 rfl ?_
  refine z_aload_n C dL_law_780 0 rfl ?_
  refine z_iload C dL_law_781 4 rfl ?_
  refine z_iconst C dL_law_783 zi_1 ?_
  refine z_iadd C dL_law_784 ?_
  refine y_iaload C (e1 _ rfl) dL_law_785 ?_
  refine z_aload_n C dL_law_786 3 rfl ?_
  refine y_callE C ze_L_164 [.ref xC, .int p1, .ref o] (fun l D tc b0 hl => we_placeOf l D tc ro b0 hl hF ho) hl0 rfl rfl (Nat.le_of_ble_eq_true rfl) (by decide) (by decide) hcells dL_law_787 (fun v h z hR => ?_)
  obtain ⟨hz, hv9, hh9⟩ : sz ≤ z ∧ v = kk ∧ h = h' := hkk v h z hR; subst v; subst h
  refine z_istore (lv' := [(0, .ref s), (1, .ref xC), (2, .ref xM), (3, .ref o), (4, .int i), (5, .int kk)]) C dL_law_790 (by decide) rfl ?_
  refine z_aload_n C dL_law_792 2 rfl ?_
  refine z_aload_n C dL_law_793 0 rfl ?_
  refine z_iload C dL_law_794 4 rfl ?_
  refine z_iconst C dL_law_796 zi_1 ?_
  refine z_iadd C dL_law_797 ?_
  refine y_iaload C (e1 _ hs) dL_law_798 ?_
  refine y_callV (oc := (zoI z)) hM C zc_L_166 [.int p1] (fun l D tc b0 r h => m_X8_placeOf l D tc ro b0 h) rfl rfl (Nat.le_of_ble_eq_true rfl) (by decide) (by decide) ⟨hcells.1, hcells.2⟩ dL_law_799 ?_
  refine z_istore (lv' := [(0, .ref s), (1, .ref xC), (2, .ref xM), (3, .ref o), (4, .int i), (5, .int kk), (6, .int b)]) C dL_law_802 (by decide) rfl ?_
  refine z_aload_n C dL_law_804 2 rfl ?_
  refine y_callV (oc := (zoP z h2)) hT C zc_L_148 [] (fun l D tc b0 r h => m_X8_thrown l D tc ro b0 h) rfl rfl (Nat.le_of_ble_eq_true rfl) (by decide) (by decide) ⟨hcells.1, hcells.2⟩ dL_law_805 ?_
  refine z_iload C dL_law_808 5 rfl ?_
  refine y_ifT C 815 rfl dL_law_810 (by decide) ?_
  refine z_iload C dL_law_815 5 rfl ?_
  have hend : zGq P Qf (some ()) 832 [(0, .ref s), (1, .ref xC), (2, .ref xM), (3, .ref o), (4, .int i), (5, .int kk), (6, .int b)] [] h2 z (uc + 1) (us + 6) := by
    refine z_goto C 2774 dL_law_832 (by decide) ?_
    exact z_sub [0, 1, 2, 3, 4] rfl (k z hz)
  rcases hcmp with ek | ⟨ek, hl⟩
  · refine y_ifneT C 832 (by rw [ek]; decide) dL_law_817 (by decide) hend
  refine y_ifneF C 832 ek dL_law_817 (by decide) ?_
  refine z_aload_n C dL_law_820 3 rfl ?_
  refine z_iconst C dL_law_821 zi_0 ?_
  refine y_laload C hl dL_law_822 ?_
  refine z_iload C dL_law_823 6 rfl ?_
  refine z_i2l C dL_law_825 ?_
  refine y_lcmp C rfl dL_law_826 ?_
  exact y_ifeqT C 832 rfl dL_law_827 (by decide) hend
set_option maxHeartbeats 4000000 in
set_option maxRecDepth 100000 in
theorem lc_13 {P : zX} {Qf : Unit → State → Prop} {ro : Nat → Nat} (C : zC P cL_law RL (some .boolean) 20 601024 7293034 7 ro) (hl0 : (match P with | (_, l, _) => l.stackTraces) = false) {s xC xM o : Nat} {i : Int32} {p1 p2 : Int32} {hp h' h1 h2 : zHp} {sz uc us : Nat} {t : Option Int32} {kk b : Int32} (e1 : ∀ h : zHp, h s = hp s → zaI h 0 s (i + 1) = some p1) (e2 : ∀ h : zHp, h s = hp s → zaI h 0 s (i + 2) = some p2) (hF : f_X7_papers xC p1 p2 hp = some t) (ho : ∀ v, t = some v → zsL hp o 0 v.toInt64 = some h1) (hkk : ∀ v h z, zRw t hp h1 sz v h z → sz ≤ z ∧ v = kk ∧ h = h') (hs : h' s = hp s) (hM : f_X8_papers xM p1 p2 h' = some (b, h2)) (hT : f_X8_thrown xM h2 = some kk) (hcmp : kk = 1 ∨ (kk = 0 ∧ zaL h2 2 o 0 = some b.toInt64)) (hcells : uc + 1 ≤ 601024 ∧ us + 6 ≤ 7293034) (k : ∀ z, sz ≤ z → zGq P Qf (some ()) 2774 [(0, .ref s), (1, .ref xC), (2, .ref xM), (3, .ref o), (4, .int i)] [] h2 z (uc + 1) (us + 6)) : zGq P Qf (some ()) 835 [(0, .ref s), (1, .ref xC), (2, .ref xM), (3, .ref o), (4, .int i)] [] hp sz uc us := by
  refine z_aload_n C dL_law_835 1 rfl ?_
  refine z_aload_n C dL_law_836 0 rfl ?_
  refine z_iload C dL_law_837 4 rfl ?_
  refine z_iconst C dL_law_839 zi_1 ?_
  refine z_iadd C dL_law_840 ?_
  refine y_iaload C (e1 _ rfl) dL_law_841 ?_
  refine z_aload_n C dL_law_842 0 rfl ?_
  refine z_iload C dL_law_843 4 rfl ?_
  refine z_iconst C dL_law_845 zi_2 ?_
  refine z_iadd C dL_law_846 ?_
  refine y_iaload C (e2 _ rfl) dL_law_847 ?_
  refine z_aload_n C dL_law_848 3 rfl ?_
  refine y_callE C ze_L_167 [.ref xC, .int p1, .int p2, .ref o] (fun l D tc b0 hl => we_papers l D tc ro b0 hl hF ho) hl0 rfl rfl (Nat.le_of_ble_eq_true rfl) (by decide) (by decide) hcells dL_law_849 (fun v h z hR => ?_)
  obtain ⟨hz, hv9, hh9⟩ : sz ≤ z ∧ v = kk ∧ h = h' := hkk v h z hR; subst v; subst h
  refine z_istore (lv' := [(0, .ref s), (1, .ref xC), (2, .ref xM), (3, .ref o), (4, .int i), (5, .int kk)]) C dL_law_852 (by decide) rfl ?_
  refine z_aload_n C dL_law_854 2 rfl ?_
  refine z_aload_n C dL_law_855 0 rfl ?_
  refine z_iload C dL_law_856 4 rfl ?_
  refine z_iconst C dL_law_858 zi_1 ?_
  refine z_iadd C dL_law_859 ?_
  refine y_iaload C (e1 _ hs) dL_law_860 ?_
  refine z_aload_n C dL_law_861 0 rfl ?_
  refine z_iload C dL_law_862 4 rfl ?_
  refine z_iconst C dL_law_864 zi_2 ?_
  refine z_iadd C dL_law_865 ?_
  refine y_iaload C (e2 _ hs) dL_law_866 ?_
  refine y_callV (oc := (zoI z)) hM C zc_L_169 [.int p1, .int p2] (fun l D tc b0 r h => m_X8_papers l D tc ro b0 h) rfl rfl (Nat.le_of_ble_eq_true rfl) (by decide) (by decide) ⟨hcells.1, hcells.2⟩ dL_law_867 ?_
  refine z_istore (lv' := [(0, .ref s), (1, .ref xC), (2, .ref xM), (3, .ref o), (4, .int i), (5, .int kk), (6, .int b)]) C dL_law_870 (by decide) rfl ?_
  refine z_aload_n C dL_law_872 2 rfl ?_
  refine y_callV (oc := (zoP z h2)) hT C zc_L_148 [] (fun l D tc b0 r h => m_X8_thrown l D tc ro b0 h) rfl rfl (Nat.le_of_ble_eq_true rfl) (by decide) (by decide) ⟨hcells.1, hcells.2⟩ dL_law_873 ?_
  refine z_iload C dL_law_876 5 rfl ?_
  refine y_ifT C 883 rfl dL_law_878 (by decide) ?_
  refine z_iload C dL_law_883 5 rfl ?_
  have hend : zGq P Qf (some ()) 900 [(0, .ref s), (1, .ref xC), (2, .ref xM), (3, .ref o), (4, .int i), (5, .int kk), (6, .int b)] [] h2 z (uc + 1) (us + 6) := by
    refine z_goto C 2774 dL_law_900 (by decide) ?_
    exact z_sub [0, 1, 2, 3, 4] rfl (k z hz)
  rcases hcmp with ek | ⟨ek, hl⟩
  · refine y_ifneT C 900 (by rw [ek]; decide) dL_law_885 (by decide) hend
  refine y_ifneF C 900 ek dL_law_885 (by decide) ?_
  refine z_aload_n C dL_law_888 3 rfl ?_
  refine z_iconst C dL_law_889 zi_0 ?_
  refine y_laload C hl dL_law_890 ?_
  refine z_iload C dL_law_891 6 rfl ?_
  refine z_i2l C dL_law_893 ?_
  refine y_lcmp C rfl dL_law_894 ?_
  exact y_ifeqT C 900 rfl dL_law_895 (by decide) hend
set_option maxHeartbeats 4000000 in
set_option maxRecDepth 100000 in
theorem lc_14 {P : zX} {Qf : Unit → State → Prop} {ro : Nat → Nat} (C : zC P cL_law RL (some .boolean) 20 601024 7293034 7 ro) (hl0 : (match P with | (_, l, _) => l.stackTraces) = false) {s xC xM o : Nat} {i : Int32} {p1 : Int32} {hp h' h1 h2 : zHp} {sz uc us : Nat} {t : Option Int32} {kk b : Int32} (e1 : ∀ h : zHp, h s = hp s → zaI h 0 s (i + 1) = some p1) (hF : f_X7_isSealGood xC p1 hp = some t) (ho : ∀ v, t = some v → zsL hp o 0 (if v = 0 then 0 else 1) = some h1) (hkk : ∀ v h z, zRw t hp h1 sz v h z → sz ≤ z ∧ v = kk ∧ h = h') (hs : h' s = hp s) (hM : f_X8_isSealGood xM p1 h' = some (b, h2)) (hT : f_X8_thrown xM h2 = some kk) (hcmp : kk = 1 ∨ (kk = 0 ∧ zaL h2 2 o 0 = some (if b = 0 then 0 else 1))) (hcells : uc + 1 ≤ 601024 ∧ us + 6 ≤ 7293034) (k : ∀ z, sz ≤ z → zGq P Qf (some ()) 2774 [(0, .ref s), (1, .ref xC), (2, .ref xM), (3, .ref o), (4, .int i)] [] h2 z (uc + 1) (us + 6)) : zGq P Qf (some ()) 903 [(0, .ref s), (1, .ref xC), (2, .ref xM), (3, .ref o), (4, .int i)] [] hp sz uc us := by
  refine z_aload_n C dL_law_903 1 rfl ?_
  refine z_aload_n C dL_law_904 0 rfl ?_
  refine z_iload C dL_law_905 4 rfl ?_
  refine z_iconst C dL_law_907 zi_1 ?_
  refine z_iadd C dL_law_908 ?_
  refine y_iaload C (e1 _ rfl) dL_law_909 ?_
  refine z_aload_n C dL_law_910 3 rfl ?_
  refine y_callE C ze_L_170 [.ref xC, .int p1, .ref o] (fun l D tc b0 hl => we_isSealGood l D tc ro b0 hl hF ho) hl0 rfl rfl (Nat.le_of_ble_eq_true rfl) (by decide) (by decide) hcells dL_law_911 (fun v h z hR => ?_)
  obtain ⟨hz, hv9, hh9⟩ : sz ≤ z ∧ v = kk ∧ h = h' := hkk v h z hR; subst v; subst h
  refine z_istore (lv' := [(0, .ref s), (1, .ref xC), (2, .ref xM), (3, .ref o), (4, .int i), (5, .int kk)]) C dL_law_914 (by decide) rfl ?_
  refine z_aload_n C dL_law_916 2 rfl ?_
  refine z_aload_n C dL_law_917 0 rfl ?_
  refine z_iload C dL_law_918 4 rfl ?_
  refine z_iconst C dL_law_920 zi_1 ?_
  refine z_iadd C dL_law_921 ?_
  refine y_iaload C (e1 _ hs) dL_law_922 ?_
  refine y_callV (oc := (zoI z)) hM C zc_L_172 [.int p1] (fun l D tc b0 r h => m_X8_isSealGood l D tc ro b0 h) rfl rfl (Nat.le_of_ble_eq_true rfl) (by decide) (by decide) ⟨hcells.1, hcells.2⟩ dL_law_923 ?_
  refine z_istore (lv' := [(0, .ref s), (1, .ref xC), (2, .ref xM), (3, .ref o), (4, .int i), (5, .int kk), (6, .int b)]) C dL_law_926 (by decide) rfl ?_
  refine z_aload_n C dL_law_928 2 rfl ?_
  refine y_callV (oc := (zoP z h2)) hT C zc_L_148 [] (fun l D tc b0 r h => m_X8_thrown l D tc ro b0 h) rfl rfl (Nat.le_of_ble_eq_true rfl) (by decide) (by decide) ⟨hcells.1, hcells.2⟩ dL_law_929 ?_
  refine z_iload C dL_law_932 5 rfl ?_
  refine y_ifT C 939 rfl dL_law_934 (by decide) ?_
  refine z_iload C dL_law_939 5 rfl ?_
  have hend : zGq P Qf (some ()) 963 [(0, .ref s), (1, .ref xC), (2, .ref xM), (3, .ref o), (4, .int i), (5, .int kk), (6, .int b)] [] h2 z (uc + 1) (us + 6) := by
    refine z_goto C 2774 dL_law_963 (by decide) ?_
    exact z_sub [0, 1, 2, 3, 4] rfl (k z hz)
  rcases hcmp with ek | ⟨ek, hl⟩
  · refine y_ifneT C 963 (by rw [ek]; decide) dL_law_941 (by decide) hend
  refine y_ifneF C 963 ek dL_law_941 (by decide) ?_
  refine z_aload_n C dL_law_944 3 rfl ?_
  refine z_iconst C dL_law_945 zi_0 ?_
  refine y_laload C hl dL_law_946 ?_
  refine z_iload C dL_law_947 6 rfl ?_
  by_cases eb : b = 0
  · refine y_ifeqT C 956 eb dL_law_949 (by decide) ?_
    refine z_lconst (v := (0 : Int64)) C dL_law_956 (by decide) ?_
    refine y_lcmp C (by rw [if_pos eb]) dL_law_957 ?_
    exact y_ifeqT C 963 rfl dL_law_958 (by decide) hend
  · refine y_ifeqF C 956 eb dL_law_949 (by decide) ?_
    refine z_lconst (v := (1 : Int64)) C dL_law_952 (by decide) ?_
    refine z_goto C 957 dL_law_953 (by decide) ?_
    refine y_lcmp C (by rw [if_neg eb]) dL_law_957 ?_
    exact y_ifeqT C 963 rfl dL_law_958 (by decide) hend
set_option maxHeartbeats 4000000 in
set_option maxRecDepth 100000 in
theorem lc_15 {P : zX} {Qf : Unit → State → Prop} {ro : Nat → Nat} (C : zC P cL_law RL (some .boolean) 20 601024 7293034 7 ro) (hl0 : (match P with | (_, l, _) => l.stackTraces) = false) {s xC xM o : Nat} {i : Int32} {p1 : Int32} {hp h' h1 h2 : zHp} {sz uc us : Nat} {t : Option Int32} {kk b : Int32} (e1 : ∀ h : zHp, h s = hp s → zaI h 0 s (i + 1) = some p1) (hF : f_X7_ledgerSize xC p1 hp = some t) (ho : ∀ v, t = some v → zsL hp o 0 v.toInt64 = some h1) (hkk : ∀ v h z, zRw t hp h1 sz v h z → sz ≤ z ∧ v = kk ∧ h = h') (hs : h' s = hp s) (hM : f_X8_ledgerSize xM p1 h' = some (b, h2)) (hT : f_X8_thrown xM h2 = some kk) (hcmp : kk = 1 ∨ (kk = 0 ∧ zaL h2 2 o 0 = some b.toInt64)) (hcells : uc + 1 ≤ 601024 ∧ us + 6 ≤ 7293034) (k : ∀ z, sz ≤ z → zGq P Qf (some ()) 2774 [(0, .ref s), (1, .ref xC), (2, .ref xM), (3, .ref o), (4, .int i)] [] h2 z (uc + 1) (us + 6)) : zGq P Qf (some ()) 966 [(0, .ref s), (1, .ref xC), (2, .ref xM), (3, .ref o), (4, .int i)] [] hp sz uc us := by
  refine z_aload_n C dL_law_966 1 rfl ?_
  refine z_aload_n C dL_law_967 0 rfl ?_
  refine z_iload C dL_law_968 4 rfl ?_
  refine z_iconst C dL_law_970 zi_1 ?_
  refine z_iadd C dL_law_971 ?_
  refine y_iaload C (e1 _ rfl) dL_law_972 ?_
  refine z_aload_n C dL_law_973 3 rfl ?_
  refine y_callE C ze_L_173 [.ref xC, .int p1, .ref o] (fun l D tc b0 hl => we_ledgerSize l D tc ro b0 hl hF ho) hl0 rfl rfl (Nat.le_of_ble_eq_true rfl) (by decide) (by decide) hcells dL_law_974 (fun v h z hR => ?_)
  obtain ⟨hz, hv9, hh9⟩ : sz ≤ z ∧ v = kk ∧ h = h' := hkk v h z hR; subst v; subst h
  refine z_istore (lv' := [(0, .ref s), (1, .ref xC), (2, .ref xM), (3, .ref o), (4, .int i), (5, .int kk)]) C dL_law_977 (by decide) rfl ?_
  refine z_aload_n C dL_law_979 2 rfl ?_
  refine z_aload_n C dL_law_980 0 rfl ?_
  refine z_iload C dL_law_981 4 rfl ?_
  refine z_iconst C dL_law_983 zi_1 ?_
  refine z_iadd C dL_law_984 ?_
  refine y_iaload C (e1 _ hs) dL_law_985 ?_
  refine y_callV (oc := (zoI z)) hM C zc_L_175 [.int p1] (fun l D tc b0 r h => m_X8_ledgerSize l D tc ro b0 h) rfl rfl (Nat.le_of_ble_eq_true rfl) (by decide) (by decide) ⟨hcells.1, hcells.2⟩ dL_law_986 ?_
  refine z_istore (lv' := [(0, .ref s), (1, .ref xC), (2, .ref xM), (3, .ref o), (4, .int i), (5, .int kk), (6, .int b)]) C dL_law_989 (by decide) rfl ?_
  refine z_aload_n C dL_law_991 2 rfl ?_
  refine y_callV (oc := (zoP z h2)) hT C zc_L_148 [] (fun l D tc b0 r h => m_X8_thrown l D tc ro b0 h) rfl rfl (Nat.le_of_ble_eq_true rfl) (by decide) (by decide) ⟨hcells.1, hcells.2⟩ dL_law_992 ?_
  refine z_iload C dL_law_995 5 rfl ?_
  refine y_ifT C 1002 rfl dL_law_997 (by decide) ?_
  refine z_iload C dL_law_1002 5 rfl ?_
  have hend : zGq P Qf (some ()) 1019 [(0, .ref s), (1, .ref xC), (2, .ref xM), (3, .ref o), (4, .int i), (5, .int kk), (6, .int b)] [] h2 z (uc + 1) (us + 6) := by
    refine z_goto C 2774 dL_law_1019 (by decide) ?_
    exact z_sub [0, 1, 2, 3, 4] rfl (k z hz)
  rcases hcmp with ek | ⟨ek, hl⟩
  · refine y_ifneT C 1019 (by rw [ek]; decide) dL_law_1004 (by decide) hend
  refine y_ifneF C 1019 ek dL_law_1004 (by decide) ?_
  refine z_aload_n C dL_law_1007 3 rfl ?_
  refine z_iconst C dL_law_1008 zi_0 ?_
  refine y_laload C hl dL_law_1009 ?_
  refine z_iload C dL_law_1010 6 rfl ?_
  refine z_i2l C dL_law_1012 ?_
  refine y_lcmp C rfl dL_law_1013 ?_
  exact y_ifeqT C 1019 rfl dL_law_1014 (by decide) hend
set_option maxHeartbeats 4000000 in
set_option maxRecDepth 100000 in
theorem lc_16 {P : zX} {Qf : Unit → State → Prop} {ro : Nat → Nat} (C : zC P cL_law RL (some .boolean) 20 601024 7293034 7 ro) (hl0 : (match P with | (_, l, _) => l.stackTraces) = false) {s xC xM o : Nat} {i : Int32} {p1 p2 : Int32} {hp h' h1 h2 : zHp} {sz uc us : Nat} {t : Option Int32} {kk b : Int32} (e1 : ∀ h : zHp, h s = hp s → zaI h 0 s (i + 1) = some p1) (e2 : ∀ h : zHp, h s = hp s → zaI h 0 s (i + 2) = some p2) (hF : f_X7_ledger xC p1 p2 hp = some t) (ho : ∀ v, t = some v → zsL hp o 0 v.toInt64 = some h1) (hkk : ∀ v h z, zRw t hp h1 sz v h z → sz ≤ z ∧ v = kk ∧ h = h') (hs : h' s = hp s) (hM : f_X8_ledger xM p1 p2 h' = some (b, h2)) (hT : f_X8_thrown xM h2 = some kk) (hcmp : kk = 1 ∨ (kk = 0 ∧ zaL h2 2 o 0 = some b.toInt64)) (hcells : uc + 1 ≤ 601024 ∧ us + 6 ≤ 7293034) (k : ∀ z, sz ≤ z → zGq P Qf (some ()) 2774 [(0, .ref s), (1, .ref xC), (2, .ref xM), (3, .ref o), (4, .int i)] [] h2 z (uc + 1) (us + 6)) : zGq P Qf (some ()) 1022 [(0, .ref s), (1, .ref xC), (2, .ref xM), (3, .ref o), (4, .int i)] [] hp sz uc us := by
  refine z_aload_n C dL_law_1022 1 rfl ?_
  refine z_aload_n C dL_law_1023 0 rfl ?_
  refine z_iload C dL_law_1024 4 rfl ?_
  refine z_iconst C dL_law_1026 zi_1 ?_
  refine z_iadd C dL_law_1027 ?_
  refine y_iaload C (e1 _ rfl) dL_law_1028 ?_
  refine z_aload_n C dL_law_1029 0 rfl ?_
  refine z_iload C dL_law_1030 4 rfl ?_
  refine z_iconst C dL_law_1032 zi_2 ?_
  refine z_iadd C dL_law_1033 ?_
  refine y_iaload C (e2 _ rfl) dL_law_1034 ?_
  refine z_aload_n C dL_law_1035 3 rfl ?_
  refine y_callE C ze_L_176 [.ref xC, .int p1, .int p2, .ref o] (fun l D tc b0 hl => we_ledger l D tc ro b0 hl hF ho) hl0 rfl rfl (Nat.le_of_ble_eq_true rfl) (by decide) (by decide) hcells dL_law_1036 (fun v h z hR => ?_)
  obtain ⟨hz, hv9, hh9⟩ : sz ≤ z ∧ v = kk ∧ h = h' := hkk v h z hR; subst v; subst h
  refine z_istore (lv' := [(0, .ref s), (1, .ref xC), (2, .ref xM), (3, .ref o), (4, .int i), (5, .int kk)]) C dL_law_1039 (by decide) rfl ?_
  refine z_aload_n C dL_law_1041 2 rfl ?_
  refine z_aload_n C dL_law_1042 0 rfl ?_
  refine z_iload C dL_law_1043 4 rfl ?_
  refine z_iconst C dL_law_1045 zi_1 ?_
  refine z_iadd C dL_law_1046 ?_
  refine y_iaload C (e1 _ hs) dL_law_1047 ?_
  refine z_aload_n C dL_law_1048 0 rfl ?_
  refine z_iload C dL_law_1049 4 rfl ?_
  refine z_iconst C dL_law_1051 zi_2 ?_
  refine z_iadd C dL_law_1052 ?_
  refine y_iaload C (e2 _ hs) dL_law_1053 ?_
  refine y_callV (oc := (zoI z)) hM C zc_L_178 [.int p1, .int p2] (fun l D tc b0 r h => m_X8_ledger l D tc ro b0 h) rfl rfl (Nat.le_of_ble_eq_true rfl) (by decide) (by decide) ⟨hcells.1, hcells.2⟩ dL_law_1054 ?_
  refine z_istore (lv' := [(0, .ref s), (1, .ref xC), (2, .ref xM), (3, .ref o), (4, .int i), (5, .int kk), (6, .int b)]) C dL_law_1057 (by decide) rfl ?_
  refine z_aload_n C dL_law_1059 2 rfl ?_
  refine y_callV (oc := (zoP z h2)) hT C zc_L_148 [] (fun l D tc b0 r h => m_X8_thrown l D tc ro b0 h) rfl rfl (Nat.le_of_ble_eq_true rfl) (by decide) (by decide) ⟨hcells.1, hcells.2⟩ dL_law_1060 ?_
  refine z_iload C dL_law_1063 5 rfl ?_
  refine y_ifT C 1070 rfl dL_law_1065 (by decide) ?_
  refine z_iload C dL_law_1070 5 rfl ?_
  have hend : zGq P Qf (some ()) 1087 [(0, .ref s), (1, .ref xC), (2, .ref xM), (3, .ref o), (4, .int i), (5, .int kk), (6, .int b)] [] h2 z (uc + 1) (us + 6) := by
    refine z_goto C 2774 dL_law_1087 (by decide) ?_
    exact z_sub [0, 1, 2, 3, 4] rfl (k z hz)
  rcases hcmp with ek | ⟨ek, hl⟩
  · refine y_ifneT C 1087 (by rw [ek]; decide) dL_law_1072 (by decide) hend
  refine y_ifneF C 1087 ek dL_law_1072 (by decide) ?_
  refine z_aload_n C dL_law_1075 3 rfl ?_
  refine z_iconst C dL_law_1076 zi_0 ?_
  refine y_laload C hl dL_law_1077 ?_
  refine z_iload C dL_law_1078 6 rfl ?_
  refine z_i2l C dL_law_1080 ?_
  refine y_lcmp C rfl dL_law_1081 ?_
  exact y_ifeqT C 1087 rfl dL_law_1082 (by decide) hend
set_option maxHeartbeats 4000000 in
set_option maxRecDepth 100000 in
theorem lc_17 {P : zX} {Qf : Unit → State → Prop} {ro : Nat → Nat} (C : zC P cL_law RL (some .boolean) 20 601024 7293034 7 ro) (hl0 : (match P with | (_, l, _) => l.stackTraces) = false) {s xC xM o : Nat} {i : Int32} {p1 : Int32} {hp h' h1 h2 : zHp} {sz uc us : Nat} {t : Option Int32} {kk b : Int32} (e1 : ∀ h : zHp, h s = hp s → zaI h 0 s (i + 1) = some p1) (hF : f_X7_boxAt xC p1 hp = some t) (ho : ∀ v, t = some v → zsL hp o 0 v.toInt64 = some h1) (hkk : ∀ v h z, zRw t hp h1 sz v h z → sz ≤ z ∧ v = kk ∧ h = h') (hs : h' s = hp s) (hM : f_X8_boxAt xM p1 h' = some (b, h2)) (hT : f_X8_thrown xM h2 = some kk) (hcmp : kk = 1 ∨ (kk = 0 ∧ zaL h2 2 o 0 = some b.toInt64)) (hcells : uc + 1 ≤ 601024 ∧ us + 6 ≤ 7293034) (k : ∀ z, sz ≤ z → zGq P Qf (some ()) 2774 [(0, .ref s), (1, .ref xC), (2, .ref xM), (3, .ref o), (4, .int i)] [] h2 z (uc + 1) (us + 6)) : zGq P Qf (some ()) 1090 [(0, .ref s), (1, .ref xC), (2, .ref xM), (3, .ref o), (4, .int i)] [] hp sz uc us := by
  refine z_aload_n C dL_law_1090 1 rfl ?_
  refine z_aload_n C dL_law_1091 0 rfl ?_
  refine z_iload C dL_law_1092 4 rfl ?_
  refine z_iconst C dL_law_1094 zi_1 ?_
  refine z_iadd C dL_law_1095 ?_
  refine y_iaload C (e1 _ rfl) dL_law_1096 ?_
  refine z_aload_n C dL_law_1097 3 rfl ?_
  refine y_callE C ze_L_179 [.ref xC, .int p1, .ref o] (fun l D tc b0 hl => we_boxAt l D tc ro b0 hl hF ho) hl0 rfl rfl (Nat.le_of_ble_eq_true rfl) (by decide) (by decide) hcells dL_law_1098 (fun v h z hR => ?_)
  obtain ⟨hz, hv9, hh9⟩ : sz ≤ z ∧ v = kk ∧ h = h' := hkk v h z hR; subst v; subst h
  refine z_istore (lv' := [(0, .ref s), (1, .ref xC), (2, .ref xM), (3, .ref o), (4, .int i), (5, .int kk)]) C dL_law_1101 (by decide) rfl ?_
  refine z_aload_n C dL_law_1103 2 rfl ?_
  refine z_aload_n C dL_law_1104 0 rfl ?_
  refine z_iload C dL_law_1105 4 rfl ?_
  refine z_iconst C dL_law_1107 zi_1 ?_
  refine z_iadd C dL_law_1108 ?_
  refine y_iaload C (e1 _ hs) dL_law_1109 ?_
  refine y_callV (oc := (zoI z)) hM C zc_L_181 [.int p1] (fun l D tc b0 r h => m_X8_boxAt l D tc ro b0 h) rfl rfl (Nat.le_of_ble_eq_true rfl) (by decide) (by decide) ⟨hcells.1, hcells.2⟩ dL_law_1110 ?_
  refine z_istore (lv' := [(0, .ref s), (1, .ref xC), (2, .ref xM), (3, .ref o), (4, .int i), (5, .int kk), (6, .int b)]) C dL_law_1113 (by decide) rfl ?_
  refine z_aload_n C dL_law_1115 2 rfl ?_
  refine y_callV (oc := (zoP z h2)) hT C zc_L_148 [] (fun l D tc b0 r h => m_X8_thrown l D tc ro b0 h) rfl rfl (Nat.le_of_ble_eq_true rfl) (by decide) (by decide) ⟨hcells.1, hcells.2⟩ dL_law_1116 ?_
  refine z_iload C dL_law_1119 5 rfl ?_
  refine y_ifT C 1126 rfl dL_law_1121 (by decide) ?_
  refine z_iload C dL_law_1126 5 rfl ?_
  have hend : zGq P Qf (some ()) 1143 [(0, .ref s), (1, .ref xC), (2, .ref xM), (3, .ref o), (4, .int i), (5, .int kk), (6, .int b)] [] h2 z (uc + 1) (us + 6) := by
    refine z_goto C 2774 dL_law_1143 (by decide) ?_
    exact z_sub [0, 1, 2, 3, 4] rfl (k z hz)
  rcases hcmp with ek | ⟨ek, hl⟩
  · refine y_ifneT C 1143 (by rw [ek]; decide) dL_law_1128 (by decide) hend
  refine y_ifneF C 1143 ek dL_law_1128 (by decide) ?_
  refine z_aload_n C dL_law_1131 3 rfl ?_
  refine z_iconst C dL_law_1132 zi_0 ?_
  refine y_laload C hl dL_law_1133 ?_
  refine z_iload C dL_law_1134 6 rfl ?_
  refine z_i2l C dL_law_1136 ?_
  refine y_lcmp C rfl dL_law_1137 ?_
  exact y_ifeqT C 1143 rfl dL_law_1138 (by decide) hend
set_option maxHeartbeats 4000000 in
set_option maxRecDepth 100000 in
theorem lc_18 {P : zX} {Qf : Unit → State → Prop} {ro : Nat → Nat} (C : zC P cL_law RL (some .boolean) 20 601024 7293034 7 ro) (hl0 : (match P with | (_, l, _) => l.stackTraces) = false) {s xC xM o : Nat} {i : Int32} {p1 : Int32} {hp h' h1 h2 : zHp} {sz uc us : Nat} {t : Option Int32} {kk b : Int32} (e1 : ∀ h : zHp, h s = hp s → zaI h 0 s (i + 1) = some p1) (hF : f_X7_slipOf xC p1 hp = some t) (ho : ∀ v, t = some v → zsL hp o 0 v.toInt64 = some h1) (hkk : ∀ v h z, zRw t hp h1 sz v h z → sz ≤ z ∧ v = kk ∧ h = h') (hs : h' s = hp s) (hM : f_X8_slipOf xM p1 h' = some (b, h2)) (hT : f_X8_thrown xM h2 = some kk) (hcmp : kk = 1 ∨ (kk = 0 ∧ zaL h2 2 o 0 = some b.toInt64)) (hcells : uc + 1 ≤ 601024 ∧ us + 6 ≤ 7293034) (k : ∀ z, sz ≤ z → zGq P Qf (some ()) 2774 [(0, .ref s), (1, .ref xC), (2, .ref xM), (3, .ref o), (4, .int i)] [] h2 z (uc + 1) (us + 6)) : zGq P Qf (some ()) 1146 [(0, .ref s), (1, .ref xC), (2, .ref xM), (3, .ref o), (4, .int i)] [] hp sz uc us := by
  refine z_aload_n C dL_law_1146 1 rfl ?_
  refine z_aload_n C dL_law_1147 0 rfl ?_
  refine z_iload C dL_law_1148 4 rfl ?_
  refine z_iconst C dL_law_1150 zi_1 ?_
  refine z_iadd C dL_law_1151 ?_
  refine y_iaload C (e1 _ rfl) dL_law_1152 ?_
  refine z_aload_n C dL_law_1153 3 rfl ?_
  refine y_callE C ze_L_182 [.ref xC, .int p1, .ref o] (fun l D tc b0 hl => we_slipOf l D tc ro b0 hl hF ho) hl0 rfl rfl (Nat.le_of_ble_eq_true rfl) (by decide) (by decide) hcells dL_law_1154 (fun v h z hR => ?_)
  obtain ⟨hz, hv9, hh9⟩ : sz ≤ z ∧ v = kk ∧ h = h' := hkk v h z hR; subst v; subst h
  refine z_istore (lv' := [(0, .ref s), (1, .ref xC), (2, .ref xM), (3, .ref o), (4, .int i), (5, .int kk)]) C dL_law_1157 (by decide) rfl ?_
  refine z_aload_n C dL_law_1159 2 rfl ?_
  refine z_aload_n C dL_law_1160 0 rfl ?_
  refine z_iload C dL_law_1161 4 rfl ?_
  refine z_iconst C dL_law_1163 zi_1 ?_
  refine z_iadd C dL_law_1164 ?_
  refine y_iaload C (e1 _ hs) dL_law_1165 ?_
  refine y_callV (oc := (zoI z)) hM C zc_L_184 [.int p1] (fun l D tc b0 r h => m_X8_slipOf l D tc ro b0 h) rfl rfl (Nat.le_of_ble_eq_true rfl) (by decide) (by decide) ⟨hcells.1, hcells.2⟩ dL_law_1166 ?_
  refine z_istore (lv' := [(0, .ref s), (1, .ref xC), (2, .ref xM), (3, .ref o), (4, .int i), (5, .int kk), (6, .int b)]) C dL_law_1169 (by decide) rfl ?_
  refine z_aload_n C dL_law_1171 2 rfl ?_
  refine y_callV (oc := (zoP z h2)) hT C zc_L_148 [] (fun l D tc b0 r h => m_X8_thrown l D tc ro b0 h) rfl rfl (Nat.le_of_ble_eq_true rfl) (by decide) (by decide) ⟨hcells.1, hcells.2⟩ dL_law_1172 ?_
  refine z_iload C dL_law_1175 5 rfl ?_
  refine y_ifT C 1182 rfl dL_law_1177 (by decide) ?_
  refine z_iload C dL_law_1182 5 rfl ?_
  have hend : zGq P Qf (some ()) 1199 [(0, .ref s), (1, .ref xC), (2, .ref xM), (3, .ref o), (4, .int i), (5, .int kk), (6, .int b)] [] h2 z (uc + 1) (us + 6) := by
    refine z_goto C 2774 dL_law_1199 (by decide) ?_
    exact z_sub [0, 1, 2, 3, 4] rfl (k z hz)
  rcases hcmp with ek | ⟨ek, hl⟩
  · refine y_ifneT C 1199 (by rw [ek]; decide) dL_law_1184 (by decide) hend
  refine y_ifneF C 1199 ek dL_law_1184 (by decide) ?_
  refine z_aload_n C dL_law_1187 3 rfl ?_
  refine z_iconst C dL_law_1188 zi_0 ?_
  refine y_laload C hl dL_law_1189 ?_
  refine z_iload C dL_law_1190 6 rfl ?_
  refine z_i2l C dL_law_1192 ?_
  refine y_lcmp C rfl dL_law_1193 ?_
  exact y_ifeqT C 1199 rfl dL_law_1194 (by decide) hend
set_option maxHeartbeats 4000000 in
set_option maxRecDepth 100000 in
theorem lc_19 {P : zX} {Qf : Unit → State → Prop} {ro : Nat → Nat} (C : zC P cL_law RL (some .boolean) 20 601024 7293034 7 ro) (hl0 : (match P with | (_, l, _) => l.stackTraces) = false) {s xC xM o : Nat} {i : Int32} {p1 p2 p3 : Int32} {hp h' h1 h2 : zHp} {sz uc us : Nat} {t : Option Int32} {kk b : Int32} (e1 : ∀ h : zHp, h s = hp s → zaI h 0 s (i + 1) = some p1) (e2 : ∀ h : zHp, h s = hp s → zaI h 0 s (i + 2) = some p2) (e3 : ∀ h : zHp, h s = hp s → zaI h 0 s (i + 3) = some p3) (hF : f_X7_counted xC p1 p2 p3 hp = some t) (ho : ∀ v, t = some v → zsL hp o 0 v.toInt64 = some h1) (hkk : ∀ v h z, zRw t hp h1 sz v h z → sz ≤ z ∧ v = kk ∧ h = h') (hs : h' s = hp s) (hM : f_X8_counted xM p1 p2 p3 h' = some (b, h2)) (hT : f_X8_thrown xM h2 = some kk) (hcmp : kk = 1 ∨ (kk = 0 ∧ zaL h2 2 o 0 = some b.toInt64)) (hcells : uc + 1 ≤ 601024 ∧ us + 6 ≤ 7293034) (k : ∀ z, sz ≤ z → zGq P Qf (some ()) 2774 [(0, .ref s), (1, .ref xC), (2, .ref xM), (3, .ref o), (4, .int i)] [] h2 z (uc + 1) (us + 6)) : zGq P Qf (some ()) 1202 [(0, .ref s), (1, .ref xC), (2, .ref xM), (3, .ref o), (4, .int i)] [] hp sz uc us := by
  refine z_aload_n C dL_law_1202 1 rfl ?_
  refine z_aload_n C dL_law_1203 0 rfl ?_
  refine z_iload C dL_law_1204 4 rfl ?_
  refine z_iconst C dL_law_1206 zi_1 ?_
  refine z_iadd C dL_law_1207 ?_
  refine y_iaload C (e1 _ rfl) dL_law_1208 ?_
  refine z_aload_n C dL_law_1209 0 rfl ?_
  refine z_iload C dL_law_1210 4 rfl ?_
  refine z_iconst C dL_law_1212 zi_2 ?_
  refine z_iadd C dL_law_1213 ?_
  refine y_iaload C (e2 _ rfl) dL_law_1214 ?_
  refine z_aload_n C dL_law_1215 0 rfl ?_
  refine z_iload C dL_law_1216 4 rfl ?_
  refine z_iconst C dL_law_1218 zi_3 ?_
  refine z_iadd C dL_law_1219 ?_
  refine y_iaload C (e3 _ rfl) dL_law_1220 ?_
  refine z_aload_n C dL_law_1221 3 rfl ?_
  refine y_callE C ze_L_185 [.ref xC, .int p1, .int p2, .int p3, .ref o] (fun l D tc b0 hl => we_counted l D tc ro b0 hl hF ho) hl0 rfl rfl (Nat.le_of_ble_eq_true rfl) (by decide) (by decide) hcells dL_law_1222 (fun v h z hR => ?_)
  obtain ⟨hz, hv9, hh9⟩ : sz ≤ z ∧ v = kk ∧ h = h' := hkk v h z hR; subst v; subst h
  refine z_istore (lv' := [(0, .ref s), (1, .ref xC), (2, .ref xM), (3, .ref o), (4, .int i), (5, .int kk)]) C dL_law_1225 (by decide) rfl ?_
  refine z_aload_n C dL_law_1227 2 rfl ?_
  refine z_aload_n C dL_law_1228 0 rfl ?_
  refine z_iload C dL_law_1229 4 rfl ?_
  refine z_iconst C dL_law_1231 zi_1 ?_
  refine z_iadd C dL_law_1232 ?_
  refine y_iaload C (e1 _ hs) dL_law_1233 ?_
  refine z_aload_n C dL_law_1234 0 rfl ?_
  refine z_iload C dL_law_1235 4 rfl ?_
  refine z_iconst C dL_law_1237 zi_2 ?_
  refine z_iadd C dL_law_1238 ?_
  refine y_iaload C (e2 _ hs) dL_law_1239 ?_
  refine z_aload_n C dL_law_1240 0 rfl ?_
  refine z_iload C dL_law_1241 4 rfl ?_
  refine z_iconst C dL_law_1243 zi_3 ?_
  refine z_iadd C dL_law_1244 ?_
  refine y_iaload C (e3 _ hs) dL_law_1245 ?_
  refine y_callV (oc := (zoI z)) hM C zc_L_188 [.int p1, .int p2, .int p3] (fun l D tc b0 r h => m_X8_counted l D tc ro b0 h) rfl rfl (Nat.le_of_ble_eq_true rfl) (by decide) (by decide) ⟨hcells.1, hcells.2⟩ dL_law_1246 ?_
  refine z_istore (lv' := [(0, .ref s), (1, .ref xC), (2, .ref xM), (3, .ref o), (4, .int i), (5, .int kk), (6, .int b)]) C dL_law_1249 (by decide) rfl ?_
  refine z_aload_n C dL_law_1251 2 rfl ?_
  refine y_callV (oc := (zoP z h2)) hT C zc_L_148 [] (fun l D tc b0 r h => m_X8_thrown l D tc ro b0 h) rfl rfl (Nat.le_of_ble_eq_true rfl) (by decide) (by decide) ⟨hcells.1, hcells.2⟩ dL_law_1252 ?_
  refine z_iload C dL_law_1255 5 rfl ?_
  refine y_ifT C 1262 rfl dL_law_1257 (by decide) ?_
  refine z_iload C dL_law_1262 5 rfl ?_
  have hend : zGq P Qf (some ()) 1279 [(0, .ref s), (1, .ref xC), (2, .ref xM), (3, .ref o), (4, .int i), (5, .int kk), (6, .int b)] [] h2 z (uc + 1) (us + 6) := by
    refine z_goto C 2774 dL_law_1279 (by decide) ?_
    exact z_sub [0, 1, 2, 3, 4] rfl (k z hz)
  rcases hcmp with ek | ⟨ek, hl⟩
  · refine y_ifneT C 1279 (by rw [ek]; decide) dL_law_1264 (by decide) hend
  refine y_ifneF C 1279 ek dL_law_1264 (by decide) ?_
  refine z_aload_n C dL_law_1267 3 rfl ?_
  refine z_iconst C dL_law_1268 zi_0 ?_
  refine y_laload C hl dL_law_1269 ?_
  refine z_iload C dL_law_1270 6 rfl ?_
  refine z_i2l C dL_law_1272 ?_
  refine y_lcmp C rfl dL_law_1273 ?_
  exact y_ifeqT C 1279 rfl dL_law_1274 (by decide) hend
set_option maxHeartbeats 4000000 in
set_option maxRecDepth 100000 in
theorem lc_20 {P : zX} {Qf : Unit → State → Prop} {ro : Nat → Nat} (C : zC P cL_law RL (some .boolean) 20 601024 7293034 7 ro) (hl0 : (match P with | (_, l, _) => l.stackTraces) = false) {s xC xM o : Nat} {i : Int32} {p1 p2 : Int32} {hp h' h1 h2 : zHp} {sz uc us : Nat} {t : Option Int32} {kk b : Int32} (e1 : ∀ h : zHp, h s = hp s → zaI h 0 s (i + 1) = some p1) (e2 : ∀ h : zHp, h s = hp s → zaI h 0 s (i + 2) = some p2) (hF : f_X7_countedAt xC p1 p2 hp = some t) (ho : ∀ v, t = some v → zsL hp o 0 v.toInt64 = some h1) (hkk : ∀ v h z, zRw t hp h1 sz v h z → sz ≤ z ∧ v = kk ∧ h = h') (hs : h' s = hp s) (hM : f_X8_countedAt xM p1 p2 h' = some (b, h2)) (hT : f_X8_thrown xM h2 = some kk) (hcmp : kk = 1 ∨ (kk = 0 ∧ zaL h2 2 o 0 = some b.toInt64)) (hcells : uc + 1 ≤ 601024 ∧ us + 6 ≤ 7293034) (k : ∀ z, sz ≤ z → zGq P Qf (some ()) 2774 [(0, .ref s), (1, .ref xC), (2, .ref xM), (3, .ref o), (4, .int i)] [] h2 z (uc + 1) (us + 6)) : zGq P Qf (some ()) 1282 [(0, .ref s), (1, .ref xC), (2, .ref xM), (3, .ref o), (4, .int i)] [] hp sz uc us := by
  refine z_aload_n C dL_law_1282 1 rfl ?_
  refine z_aload_n C dL_law_1283 0 rfl ?_
  refine z_iload C dL_law_1284 4 rfl ?_
  refine z_iconst C dL_law_1286 zi_1 ?_
  refine z_iadd C dL_law_1287 ?_
  refine y_iaload C (e1 _ rfl) dL_law_1288 ?_
  refine z_aload_n C dL_law_1289 0 rfl ?_
  refine z_iload C dL_law_1290 4 rfl ?_
  refine z_iconst C dL_law_1292 zi_2 ?_
  refine z_iadd C dL_law_1293 ?_
  refine y_iaload C (e2 _ rfl) dL_law_1294 ?_
  refine z_aload_n C dL_law_1295 3 rfl ?_
  refine y_callE C ze_L_189 [.ref xC, .int p1, .int p2, .ref o] (fun l D tc b0 hl => we_countedAt l D tc ro b0 hl hF ho) hl0 rfl rfl (Nat.le_of_ble_eq_true rfl) (by decide) (by decide) hcells dL_law_1296 (fun v h z hR => ?_)
  obtain ⟨hz, hv9, hh9⟩ : sz ≤ z ∧ v = kk ∧ h = h' := hkk v h z hR; subst v; subst h
  refine z_istore (lv' := [(0, .ref s), (1, .ref xC), (2, .ref xM), (3, .ref o), (4, .int i), (5, .int kk)]) C dL_law_1299 (by decide) rfl ?_
  refine z_aload_n C dL_law_1301 2 rfl ?_
  refine z_aload_n C dL_law_1302 0 rfl ?_
  refine z_iload C dL_law_1303 4 rfl ?_
  refine z_iconst C dL_law_1305 zi_1 ?_
  refine z_iadd C dL_law_1306 ?_
  refine y_iaload C (e1 _ hs) dL_law_1307 ?_
  refine z_aload_n C dL_law_1308 0 rfl ?_
  refine z_iload C dL_law_1309 4 rfl ?_
  refine z_iconst C dL_law_1311 zi_2 ?_
  refine z_iadd C dL_law_1312 ?_
  refine y_iaload C (e2 _ hs) dL_law_1313 ?_
  refine y_callV (oc := (zoI z)) hM C zc_L_191 [.int p1, .int p2] (fun l D tc b0 r h => m_X8_countedAt l D tc ro b0 h) rfl rfl (Nat.le_of_ble_eq_true rfl) (by decide) (by decide) ⟨hcells.1, hcells.2⟩ dL_law_1314 ?_
  refine z_istore (lv' := [(0, .ref s), (1, .ref xC), (2, .ref xM), (3, .ref o), (4, .int i), (5, .int kk), (6, .int b)]) C dL_law_1317 (by decide) rfl ?_
  refine z_aload_n C dL_law_1319 2 rfl ?_
  refine y_callV (oc := (zoP z h2)) hT C zc_L_148 [] (fun l D tc b0 r h => m_X8_thrown l D tc ro b0 h) rfl rfl (Nat.le_of_ble_eq_true rfl) (by decide) (by decide) ⟨hcells.1, hcells.2⟩ dL_law_1320 ?_
  refine z_iload C dL_law_1323 5 rfl ?_
  refine y_ifT C 1330 rfl dL_law_1325 (by decide) ?_
  refine z_iload C dL_law_1330 5 rfl ?_
  have hend : zGq P Qf (some ()) 1347 [(0, .ref s), (1, .ref xC), (2, .ref xM), (3, .ref o), (4, .int i), (5, .int kk), (6, .int b)] [] h2 z (uc + 1) (us + 6) := by
    refine z_goto C 2774 dL_law_1347 (by decide) ?_
    exact z_sub [0, 1, 2, 3, 4] rfl (k z hz)
  rcases hcmp with ek | ⟨ek, hl⟩
  · refine y_ifneT C 1347 (by rw [ek]; decide) dL_law_1332 (by decide) hend
  refine y_ifneF C 1347 ek dL_law_1332 (by decide) ?_
  refine z_aload_n C dL_law_1335 3 rfl ?_
  refine z_iconst C dL_law_1336 zi_0 ?_
  refine y_laload C hl dL_law_1337 ?_
  refine z_iload C dL_law_1338 6 rfl ?_
  refine z_i2l C dL_law_1340 ?_
  refine y_lcmp C rfl dL_law_1341 ?_
  exact y_ifeqT C 1347 rfl dL_law_1342 (by decide) hend
set_option maxHeartbeats 4000000 in
set_option maxRecDepth 100000 in
theorem lc_21 {P : zX} {Qf : Unit → State → Prop} {ro : Nat → Nat} (C : zC P cL_law RL (some .boolean) 20 601024 7293034 7 ro) (hl0 : (match P with | (_, l, _) => l.stackTraces) = false) {s xC xM o : Nat} {i : Int32} {p1 p2 p3 : Int32} {hp h' h1 h2 : zHp} {sz uc us : Nat} {t : Option Int32} {kk b : Int32} (e1 : ∀ h : zHp, h s = hp s → zaI h 0 s (i + 1) = some p1) (e2 : ∀ h : zHp, h s = hp s → zaI h 0 s (i + 2) = some p2) (e3 : ∀ h : zHp, h s = hp s → zaI h 0 s (i + 3) = some p3) (hF : f_X7_wouldCount xC p1 p2 p3 hp = some t) (ho : ∀ v, t = some v → zsL hp o 0 v.toInt64 = some h1) (hkk : ∀ v h z, zRw t hp h1 sz v h z → sz ≤ z ∧ v = kk ∧ h = h') (hs : h' s = hp s) (hM : f_X8_wouldCount xM p1 p2 p3 h' = some (b, h2)) (hT : f_X8_thrown xM h2 = some kk) (hcmp : kk = 1 ∨ (kk = 0 ∧ zaL h2 2 o 0 = some b.toInt64)) (hcells : uc + 2 ≤ 601024 ∧ us + 12 ≤ 7293034) (k : ∀ z, sz ≤ z → zGq P Qf (some ()) 2774 [(0, .ref s), (1, .ref xC), (2, .ref xM), (3, .ref o), (4, .int i)] [] h2 z (uc + 2) (us + 12)) : zGq P Qf (some ()) 1350 [(0, .ref s), (1, .ref xC), (2, .ref xM), (3, .ref o), (4, .int i)] [] hp sz uc us := by
  refine z_aload_n C dL_law_1350 1 rfl ?_
  refine z_aload_n C dL_law_1351 0 rfl ?_
  refine z_iload C dL_law_1352 4 rfl ?_
  refine z_iconst C dL_law_1354 zi_1 ?_
  refine z_iadd C dL_law_1355 ?_
  refine y_iaload C (e1 _ rfl) dL_law_1356 ?_
  refine z_aload_n C dL_law_1357 0 rfl ?_
  refine z_iload C dL_law_1358 4 rfl ?_
  refine z_iconst C dL_law_1360 zi_2 ?_
  refine z_iadd C dL_law_1361 ?_
  refine y_iaload C (e2 _ rfl) dL_law_1362 ?_
  refine z_aload_n C dL_law_1363 0 rfl ?_
  refine z_iload C dL_law_1364 4 rfl ?_
  refine z_iconst C dL_law_1366 zi_3 ?_
  refine z_iadd C dL_law_1367 ?_
  refine y_iaload C (e3 _ rfl) dL_law_1368 ?_
  refine z_aload_n C dL_law_1369 3 rfl ?_
  refine y_callE C ze_L_192 [.ref xC, .int p1, .int p2, .int p3, .ref o] (fun l D tc b0 hl => we_wouldCount l D tc ro b0 hl hF ho) hl0 rfl rfl (Nat.le_of_ble_eq_true rfl) (by decide) (by decide) hcells dL_law_1370 (fun v h z hR => ?_)
  obtain ⟨hz, hv9, hh9⟩ : sz ≤ z ∧ v = kk ∧ h = h' := hkk v h z hR; subst v; subst h
  refine z_istore (lv' := [(0, .ref s), (1, .ref xC), (2, .ref xM), (3, .ref o), (4, .int i), (5, .int kk)]) C dL_law_1373 (by decide) rfl ?_
  refine z_aload_n C dL_law_1375 2 rfl ?_
  refine z_aload_n C dL_law_1376 0 rfl ?_
  refine z_iload C dL_law_1377 4 rfl ?_
  refine z_iconst C dL_law_1379 zi_1 ?_
  refine z_iadd C dL_law_1380 ?_
  refine y_iaload C (e1 _ hs) dL_law_1381 ?_
  refine z_aload_n C dL_law_1382 0 rfl ?_
  refine z_iload C dL_law_1383 4 rfl ?_
  refine z_iconst C dL_law_1385 zi_2 ?_
  refine z_iadd C dL_law_1386 ?_
  refine y_iaload C (e2 _ hs) dL_law_1387 ?_
  refine z_aload_n C dL_law_1388 0 rfl ?_
  refine z_iload C dL_law_1389 4 rfl ?_
  refine z_iconst C dL_law_1391 zi_3 ?_
  refine z_iadd C dL_law_1392 ?_
  refine y_iaload C (e3 _ hs) dL_law_1393 ?_
  refine y_callV (oc := (zoI z)) hM C zc_L_194 [.int p1, .int p2, .int p3] (fun l D tc b0 r h => m_X8_wouldCount l D tc ro b0 h) rfl rfl (Nat.le_of_ble_eq_true rfl) (by decide) (by decide) ⟨hcells.1, hcells.2⟩ dL_law_1394 ?_
  refine z_istore (lv' := [(0, .ref s), (1, .ref xC), (2, .ref xM), (3, .ref o), (4, .int i), (5, .int kk), (6, .int b)]) C dL_law_1397 (by decide) rfl ?_
  refine z_aload_n C dL_law_1399 2 rfl ?_
  refine y_callV (oc := (zoP z h2)) hT C zc_L_148 [] (fun l D tc b0 r h => m_X8_thrown l D tc ro b0 h) rfl rfl (Nat.le_of_ble_eq_true rfl) (by decide) (by decide) ⟨hcells.1, hcells.2⟩ dL_law_1400 ?_
  refine z_iload C dL_law_1403 5 rfl ?_
  refine y_ifT C 1410 rfl dL_law_1405 (by decide) ?_
  refine z_iload C dL_law_1410 5 rfl ?_
  have hend : zGq P Qf (some ()) 1427 [(0, .ref s), (1, .ref xC), (2, .ref xM), (3, .ref o), (4, .int i), (5, .int kk), (6, .int b)] [] h2 z (uc + 2) (us + 12) := by
    refine z_goto C 2774 dL_law_1427 (by decide) ?_
    exact z_sub [0, 1, 2, 3, 4] rfl (k z hz)
  rcases hcmp with ek | ⟨ek, hl⟩
  · refine y_ifneT C 1427 (by rw [ek]; decide) dL_law_1412 (by decide) hend
  refine y_ifneF C 1427 ek dL_law_1412 (by decide) ?_
  refine z_aload_n C dL_law_1415 3 rfl ?_
  refine z_iconst C dL_law_1416 zi_0 ?_
  refine y_laload C hl dL_law_1417 ?_
  refine z_iload C dL_law_1418 6 rfl ?_
  refine z_i2l C dL_law_1420 ?_
  refine y_lcmp C rfl dL_law_1421 ?_
  exact y_ifeqT C 1427 rfl dL_law_1422 (by decide) hend
set_option maxHeartbeats 4000000 in
set_option maxRecDepth 100000 in
theorem lc_22 {P : zX} {Qf : Unit → State → Prop} {ro : Nat → Nat} (C : zC P cL_law RL (some .boolean) 20 601024 7293034 7 ro) (hl0 : (match P with | (_, l, _) => l.stackTraces) = false) {s xC xM o : Nat} {i : Int32} {p1 : Int32} {hp h' h1 h2 : zHp} {sz uc us : Nat} {t : Option Int32} {kk b : Int32} (e1 : ∀ h : zHp, h s = hp s → zaI h 0 s (i + 1) = some p1) (hF : f_X7_isConfirmed xC p1 hp = some t) (ho : ∀ v, t = some v → zsL hp o 0 (if v = 0 then 0 else 1) = some h1) (hkk : ∀ v h z, zRw t hp h1 sz v h z → sz ≤ z ∧ v = kk ∧ h = h') (hs : h' s = hp s) (hM : f_X8_isConfirmed xM p1 h' = some (b, h2)) (hT : f_X8_thrown xM h2 = some kk) (hcmp : kk = 1 ∨ (kk = 0 ∧ zaL h2 2 o 0 = some (if b = 0 then 0 else 1))) (hcells : uc + 1 ≤ 601024 ∧ us + 6 ≤ 7293034) (k : ∀ z, sz ≤ z → zGq P Qf (some ()) 2774 [(0, .ref s), (1, .ref xC), (2, .ref xM), (3, .ref o), (4, .int i)] [] h2 z (uc + 1) (us + 6)) : zGq P Qf (some ()) 1430 [(0, .ref s), (1, .ref xC), (2, .ref xM), (3, .ref o), (4, .int i)] [] hp sz uc us := by
  refine z_aload_n C dL_law_1430 1 rfl ?_
  refine z_aload_n C dL_law_1431 0 rfl ?_
  refine z_iload C dL_law_1432 4 rfl ?_
  refine z_iconst C dL_law_1434 zi_1 ?_
  refine z_iadd C dL_law_1435 ?_
  refine y_iaload C (e1 _ rfl) dL_law_1436 ?_
  refine z_aload_n C dL_law_1437 3 rfl ?_
  refine y_callE C ze_L_195 [.ref xC, .int p1, .ref o] (fun l D tc b0 hl => we_isConfirmed l D tc ro b0 hl hF ho) hl0 rfl rfl (Nat.le_of_ble_eq_true rfl) (by decide) (by decide) hcells dL_law_1438 (fun v h z hR => ?_)
  obtain ⟨hz, hv9, hh9⟩ : sz ≤ z ∧ v = kk ∧ h = h' := hkk v h z hR; subst v; subst h
  refine z_istore (lv' := [(0, .ref s), (1, .ref xC), (2, .ref xM), (3, .ref o), (4, .int i), (5, .int kk)]) C dL_law_1441 (by decide) rfl ?_
  refine z_aload_n C dL_law_1443 2 rfl ?_
  refine z_aload_n C dL_law_1444 0 rfl ?_
  refine z_iload C dL_law_1445 4 rfl ?_
  refine z_iconst C dL_law_1447 zi_1 ?_
  refine z_iadd C dL_law_1448 ?_
  refine y_iaload C (e1 _ hs) dL_law_1449 ?_
  refine y_callV (oc := (zoI z)) hM C zc_L_197 [.int p1] (fun l D tc b0 r h => m_X8_isConfirmed l D tc ro b0 h) rfl rfl (Nat.le_of_ble_eq_true rfl) (by decide) (by decide) ⟨hcells.1, hcells.2⟩ dL_law_1450 ?_
  refine z_istore (lv' := [(0, .ref s), (1, .ref xC), (2, .ref xM), (3, .ref o), (4, .int i), (5, .int kk), (6, .int b)]) C dL_law_1453 (by decide) rfl ?_
  refine z_aload_n C dL_law_1455 2 rfl ?_
  refine y_callV (oc := (zoP z h2)) hT C zc_L_148 [] (fun l D tc b0 r h => m_X8_thrown l D tc ro b0 h) rfl rfl (Nat.le_of_ble_eq_true rfl) (by decide) (by decide) ⟨hcells.1, hcells.2⟩ dL_law_1456 ?_
  refine z_iload C dL_law_1459 5 rfl ?_
  refine y_ifT C 1466 rfl dL_law_1461 (by decide) ?_
  refine z_iload C dL_law_1466 5 rfl ?_
  have hend : zGq P Qf (some ()) 1490 [(0, .ref s), (1, .ref xC), (2, .ref xM), (3, .ref o), (4, .int i), (5, .int kk), (6, .int b)] [] h2 z (uc + 1) (us + 6) := by
    refine z_goto C 2774 dL_law_1490 (by decide) ?_
    exact z_sub [0, 1, 2, 3, 4] rfl (k z hz)
  rcases hcmp with ek | ⟨ek, hl⟩
  · refine y_ifneT C 1490 (by rw [ek]; decide) dL_law_1468 (by decide) hend
  refine y_ifneF C 1490 ek dL_law_1468 (by decide) ?_
  refine z_aload_n C dL_law_1471 3 rfl ?_
  refine z_iconst C dL_law_1472 zi_0 ?_
  refine y_laload C hl dL_law_1473 ?_
  refine z_iload C dL_law_1474 6 rfl ?_
  by_cases eb : b = 0
  · refine y_ifeqT C 1483 eb dL_law_1476 (by decide) ?_
    refine z_lconst (v := (0 : Int64)) C dL_law_1483 (by decide) ?_
    refine y_lcmp C (by rw [if_pos eb]) dL_law_1484 ?_
    exact y_ifeqT C 1490 rfl dL_law_1485 (by decide) hend
  · refine y_ifeqF C 1483 eb dL_law_1476 (by decide) ?_
    refine z_lconst (v := (1 : Int64)) C dL_law_1479 (by decide) ?_
    refine z_goto C 1484 dL_law_1480 (by decide) ?_
    refine y_lcmp C (by rw [if_neg eb]) dL_law_1484 ?_
    exact y_ifeqT C 1490 rfl dL_law_1485 (by decide) hend
set_option maxHeartbeats 4000000 in
set_option maxRecDepth 100000 in
theorem lc_23 {P : zX} {Qf : Unit → State → Prop} {ro : Nat → Nat} (C : zC P cL_law RL (some .boolean) 20 601024 7293034 7 ro) (hl0 : (match P with | (_, l, _) => l.stackTraces) = false) {s xC xM o : Nat} {i : Int32} {p1 p2 : Int32} {hp h' h1 h2 : zHp} {sz uc us : Nat} {t : Option Int32} {kk b : Int32} (e1 : ∀ h : zHp, h s = hp s → zaI h 0 s (i + 1) = some p1) (e2 : ∀ h : zHp, h s = hp s → zaI h 0 s (i + 2) = some p2) (hF : f_X7_result xC p1 p2 hp = some t) (ho : ∀ v, t = some v → zsL hp o 0 v.toInt64 = some h1) (hkk : ∀ v h z, zRw t hp h1 sz v h z → sz ≤ z ∧ v = kk ∧ h = h') (hs : h' s = hp s) (hM : f_X8_result xM p1 p2 h' = some (b, h2)) (hT : f_X8_thrown xM h2 = some kk) (hcmp : kk = 1 ∨ (kk = 0 ∧ zaL h2 2 o 0 = some b.toInt64)) (hcells : uc + 1 ≤ 601024 ∧ us + 6 ≤ 7293034) (k : ∀ z, sz ≤ z → zGq P Qf (some ()) 2774 [(0, .ref s), (1, .ref xC), (2, .ref xM), (3, .ref o), (4, .int i)] [] h2 z (uc + 1) (us + 6)) : zGq P Qf (some ()) 1493 [(0, .ref s), (1, .ref xC), (2, .ref xM), (3, .ref o), (4, .int i)] [] hp sz uc us := by
  refine z_aload_n C dL_law_1493 1 rfl ?_
  refine z_aload_n C dL_law_1494 0 rfl ?_
  refine z_iload C dL_law_1495 4 rfl ?_
  refine z_iconst C dL_law_1497 zi_1 ?_
  refine z_iadd C dL_law_1498 ?_
  refine y_iaload C (e1 _ rfl) dL_law_1499 ?_
  refine z_aload_n C dL_law_1500 0 rfl ?_
  refine z_iload C dL_law_1501 4 rfl ?_
  refine z_iconst C dL_law_1503 zi_2 ?_
  refine z_iadd C dL_law_1504 ?_
  refine y_iaload C (e2 _ rfl) dL_law_1505 ?_
  refine z_aload_n C dL_law_1506 3 rfl ?_
  refine y_callE C ze_L_198 [.ref xC, .int p1, .int p2, .ref o] (fun l D tc b0 hl => we_result l D tc ro b0 hl hF ho) hl0 rfl rfl (Nat.le_of_ble_eq_true rfl) (by decide) (by decide) hcells dL_law_1507 (fun v h z hR => ?_)
  obtain ⟨hz, hv9, hh9⟩ : sz ≤ z ∧ v = kk ∧ h = h' := hkk v h z hR; subst v; subst h
  refine z_istore (lv' := [(0, .ref s), (1, .ref xC), (2, .ref xM), (3, .ref o), (4, .int i), (5, .int kk)]) C dL_law_1510 (by decide) rfl ?_
  refine z_aload_n C dL_law_1512 2 rfl ?_
  refine z_aload_n C dL_law_1513 0 rfl ?_
  refine z_iload C dL_law_1514 4 rfl ?_
  refine z_iconst C dL_law_1516 zi_1 ?_
  refine z_iadd C dL_law_1517 ?_
  refine y_iaload C (e1 _ hs) dL_law_1518 ?_
  refine z_aload_n C dL_law_1519 0 rfl ?_
  refine z_iload C dL_law_1520 4 rfl ?_
  refine z_iconst C dL_law_1522 zi_2 ?_
  refine z_iadd C dL_law_1523 ?_
  refine y_iaload C (e2 _ hs) dL_law_1524 ?_
  refine y_callV (oc := (zoI z)) hM C zc_L_200 [.int p1, .int p2] (fun l D tc b0 r h => m_X8_result l D tc ro b0 h) rfl rfl (Nat.le_of_ble_eq_true rfl) (by decide) (by decide) ⟨hcells.1, hcells.2⟩ dL_law_1525 ?_
  refine z_istore (lv' := [(0, .ref s), (1, .ref xC), (2, .ref xM), (3, .ref o), (4, .int i), (5, .int kk), (6, .int b)]) C dL_law_1528 (by decide) rfl ?_
  refine z_aload_n C dL_law_1530 2 rfl ?_
  refine y_callV (oc := (zoP z h2)) hT C zc_L_148 [] (fun l D tc b0 r h => m_X8_thrown l D tc ro b0 h) rfl rfl (Nat.le_of_ble_eq_true rfl) (by decide) (by decide) ⟨hcells.1, hcells.2⟩ dL_law_1531 ?_
  refine z_iload C dL_law_1534 5 rfl ?_
  refine y_ifT C 1541 rfl dL_law_1536 (by decide) ?_
  refine z_iload C dL_law_1541 5 rfl ?_
  have hend : zGq P Qf (some ()) 1558 [(0, .ref s), (1, .ref xC), (2, .ref xM), (3, .ref o), (4, .int i), (5, .int kk), (6, .int b)] [] h2 z (uc + 1) (us + 6) := by
    refine z_goto C 2774 dL_law_1558 (by decide) ?_
    exact z_sub [0, 1, 2, 3, 4] rfl (k z hz)
  rcases hcmp with ek | ⟨ek, hl⟩
  · refine y_ifneT C 1558 (by rw [ek]; decide) dL_law_1543 (by decide) hend
  refine y_ifneF C 1558 ek dL_law_1543 (by decide) ?_
  refine z_aload_n C dL_law_1546 3 rfl ?_
  refine z_iconst C dL_law_1547 zi_0 ?_
  refine y_laload C hl dL_law_1548 ?_
  refine z_iload C dL_law_1549 6 rfl ?_
  refine z_i2l C dL_law_1551 ?_
  refine y_lcmp C rfl dL_law_1552 ?_
  exact y_ifeqT C 1558 rfl dL_law_1553 (by decide) hend
set_option maxHeartbeats 4000000 in
set_option maxRecDepth 100000 in
theorem lc_24 {P : zX} {Qf : Unit → State → Prop} {ro : Nat → Nat} (C : zC P cL_law RL (some .boolean) 20 601024 7293034 7 ro) (hl0 : (match P with | (_, l, _) => l.stackTraces) = false) {s xC xM o : Nat} {i : Int32} {p1 : Int32} {hp h' h1 h2 : zHp} {sz uc us : Nat} {t : Option Int32} {kk b : Int32} (e1 : ∀ h : zHp, h s = hp s → zaI h 0 s (i + 1) = some p1) (hF : f_X7_surplus xC p1 hp = some t) (ho : ∀ v, t = some v → zsL hp o 0 v.toInt64 = some h1) (hkk : ∀ v h z, zRw t hp h1 sz v h z → sz ≤ z ∧ v = kk ∧ h = h') (hs : h' s = hp s) (hM : f_X8_surplus xM p1 h' = some (b, h2)) (hT : f_X8_thrown xM h2 = some kk) (hcmp : kk = 1 ∨ (kk = 0 ∧ zaL h2 2 o 0 = some b.toInt64)) (hcells : uc + 1 ≤ 601024 ∧ us + 6 ≤ 7293034) (k : ∀ z, sz ≤ z → zGq P Qf (some ()) 2774 [(0, .ref s), (1, .ref xC), (2, .ref xM), (3, .ref o), (4, .int i)] [] h2 z (uc + 1) (us + 6)) : zGq P Qf (some ()) 1561 [(0, .ref s), (1, .ref xC), (2, .ref xM), (3, .ref o), (4, .int i)] [] hp sz uc us := by
  refine z_aload_n C dL_law_1561 1 rfl ?_
  refine z_aload_n C dL_law_1562 0 rfl ?_
  refine z_iload C dL_law_1563 4 rfl ?_
  refine z_iconst C dL_law_1565 zi_1 ?_
  refine z_iadd C dL_law_1566 ?_
  refine y_iaload C (e1 _ rfl) dL_law_1567 ?_
  refine z_aload_n C dL_law_1568 3 rfl ?_
  refine y_callE C ze_L_201 [.ref xC, .int p1, .ref o] (fun l D tc b0 hl => we_surplus l D tc ro b0 hl hF ho) hl0 rfl rfl (Nat.le_of_ble_eq_true rfl) (by decide) (by decide) hcells dL_law_1569 (fun v h z hR => ?_)
  obtain ⟨hz, hv9, hh9⟩ : sz ≤ z ∧ v = kk ∧ h = h' := hkk v h z hR; subst v; subst h
  refine z_istore (lv' := [(0, .ref s), (1, .ref xC), (2, .ref xM), (3, .ref o), (4, .int i), (5, .int kk)]) C dL_law_1572 (by decide) rfl ?_
  refine z_aload_n C dL_law_1574 2 rfl ?_
  refine z_aload_n C dL_law_1575 0 rfl ?_
  refine z_iload C dL_law_1576 4 rfl ?_
  refine z_iconst C dL_law_1578 zi_1 ?_
  refine z_iadd C dL_law_1579 ?_
  refine y_iaload C (e1 _ hs) dL_law_1580 ?_
  refine y_callV (oc := (zoI z)) hM C zc_L_203 [.int p1] (fun l D tc b0 r h => m_X8_surplus l D tc ro b0 h) rfl rfl (Nat.le_of_ble_eq_true rfl) (by decide) (by decide) ⟨hcells.1, hcells.2⟩ dL_law_1581 ?_
  refine z_istore (lv' := [(0, .ref s), (1, .ref xC), (2, .ref xM), (3, .ref o), (4, .int i), (5, .int kk), (6, .int b)]) C dL_law_1584 (by decide) rfl ?_
  refine z_aload_n C dL_law_1586 2 rfl ?_
  refine y_callV (oc := (zoP z h2)) hT C zc_L_148 [] (fun l D tc b0 r h => m_X8_thrown l D tc ro b0 h) rfl rfl (Nat.le_of_ble_eq_true rfl) (by decide) (by decide) ⟨hcells.1, hcells.2⟩ dL_law_1587 ?_
  refine z_iload C dL_law_1590 5 rfl ?_
  refine y_ifT C 1597 rfl dL_law_1592 (by decide) ?_
  refine z_iload C dL_law_1597 5 rfl ?_
  have hend : zGq P Qf (some ()) 1614 [(0, .ref s), (1, .ref xC), (2, .ref xM), (3, .ref o), (4, .int i), (5, .int kk), (6, .int b)] [] h2 z (uc + 1) (us + 6) := by
    refine z_goto C 2774 dL_law_1614 (by decide) ?_
    exact z_sub [0, 1, 2, 3, 4] rfl (k z hz)
  rcases hcmp with ek | ⟨ek, hl⟩
  · refine y_ifneT C 1614 (by rw [ek]; decide) dL_law_1599 (by decide) hend
  refine y_ifneF C 1614 ek dL_law_1599 (by decide) ?_
  refine z_aload_n C dL_law_1602 3 rfl ?_
  refine z_iconst C dL_law_1603 zi_0 ?_
  refine y_laload C hl dL_law_1604 ?_
  refine z_iload C dL_law_1605 6 rfl ?_
  refine z_i2l C dL_law_1607 ?_
  refine y_lcmp C rfl dL_law_1608 ?_
  exact y_ifeqT C 1614 rfl dL_law_1609 (by decide) hend
set_option maxHeartbeats 4000000 in
set_option maxRecDepth 100000 in
theorem lc_25 {P : zX} {Qf : Unit → State → Prop} {ro : Nat → Nat} (C : zC P cL_law RL (some .boolean) 20 601024 7293034 7 ro) (hl0 : (match P with | (_, l, _) => l.stackTraces) = false) {s xC xM o : Nat} {i : Int32} {p1 : Int32} {hp h' h1 h2 : zHp} {sz uc us : Nat} {t : Option Int32} {kk b : Int32} (e1 : ∀ h : zHp, h s = hp s → zaI h 0 s (i + 1) = some p1) (hF : f_X7_isOff xC p1 hp = some t) (ho : ∀ v, t = some v → zsL hp o 0 (if v = 0 then 0 else 1) = some h1) (hkk : ∀ v h z, zRw t hp h1 sz v h z → sz ≤ z ∧ v = kk ∧ h = h') (hs : h' s = hp s) (hM : f_X8_isOff xM p1 h' = some (b, h2)) (hT : f_X8_thrown xM h2 = some kk) (hcmp : kk = 1 ∨ (kk = 0 ∧ zaL h2 2 o 0 = some (if b = 0 then 0 else 1))) (hcells : uc + 1 ≤ 601024 ∧ us + 6 ≤ 7293034) (k : ∀ z, sz ≤ z → zGq P Qf (some ()) 2774 [(0, .ref s), (1, .ref xC), (2, .ref xM), (3, .ref o), (4, .int i)] [] h2 z (uc + 1) (us + 6)) : zGq P Qf (some ()) 1617 [(0, .ref s), (1, .ref xC), (2, .ref xM), (3, .ref o), (4, .int i)] [] hp sz uc us := by
  refine z_aload_n C dL_law_1617 1 rfl ?_
  refine z_aload_n C dL_law_1618 0 rfl ?_
  refine z_iload C dL_law_1619 4 rfl ?_
  refine z_iconst C dL_law_1621 zi_1 ?_
  refine z_iadd C dL_law_1622 ?_
  refine y_iaload C (e1 _ rfl) dL_law_1623 ?_
  refine z_aload_n C dL_law_1624 3 rfl ?_
  refine y_callE C ze_L_204 [.ref xC, .int p1, .ref o] (fun l D tc b0 hl => we_isOff l D tc ro b0 hl hF ho) hl0 rfl rfl (Nat.le_of_ble_eq_true rfl) (by decide) (by decide) hcells dL_law_1625 (fun v h z hR => ?_)
  obtain ⟨hz, hv9, hh9⟩ : sz ≤ z ∧ v = kk ∧ h = h' := hkk v h z hR; subst v; subst h
  refine z_istore (lv' := [(0, .ref s), (1, .ref xC), (2, .ref xM), (3, .ref o), (4, .int i), (5, .int kk)]) C dL_law_1628 (by decide) rfl ?_
  refine z_aload_n C dL_law_1630 2 rfl ?_
  refine z_aload_n C dL_law_1631 0 rfl ?_
  refine z_iload C dL_law_1632 4 rfl ?_
  refine z_iconst C dL_law_1634 zi_1 ?_
  refine z_iadd C dL_law_1635 ?_
  refine y_iaload C (e1 _ hs) dL_law_1636 ?_
  refine y_callV (oc := (zoI z)) hM C zc_L_206 [.int p1] (fun l D tc b0 r h => m_X8_isOff l D tc ro b0 h) rfl rfl (Nat.le_of_ble_eq_true rfl) (by decide) (by decide) ⟨hcells.1, hcells.2⟩ dL_law_1637 ?_
  refine z_istore (lv' := [(0, .ref s), (1, .ref xC), (2, .ref xM), (3, .ref o), (4, .int i), (5, .int kk), (6, .int b)]) C dL_law_1640 (by decide) rfl ?_
  refine z_aload_n C dL_law_1642 2 rfl ?_
  refine y_callV (oc := (zoP z h2)) hT C zc_L_148 [] (fun l D tc b0 r h => m_X8_thrown l D tc ro b0 h) rfl rfl (Nat.le_of_ble_eq_true rfl) (by decide) (by decide) ⟨hcells.1, hcells.2⟩ dL_law_1643 ?_
  refine z_iload C dL_law_1646 5 rfl ?_
  refine y_ifT C 1653 rfl dL_law_1648 (by decide) ?_
  refine z_iload C dL_law_1653 5 rfl ?_
  have hend : zGq P Qf (some ()) 1677 [(0, .ref s), (1, .ref xC), (2, .ref xM), (3, .ref o), (4, .int i), (5, .int kk), (6, .int b)] [] h2 z (uc + 1) (us + 6) := by
    refine z_goto C 2774 dL_law_1677 (by decide) ?_
    exact z_sub [0, 1, 2, 3, 4] rfl (k z hz)
  rcases hcmp with ek | ⟨ek, hl⟩
  · refine y_ifneT C 1677 (by rw [ek]; decide) dL_law_1655 (by decide) hend
  refine y_ifneF C 1677 ek dL_law_1655 (by decide) ?_
  refine z_aload_n C dL_law_1658 3 rfl ?_
  refine z_iconst C dL_law_1659 zi_0 ?_
  refine y_laload C hl dL_law_1660 ?_
  refine z_iload C dL_law_1661 6 rfl ?_
  by_cases eb : b = 0
  · refine y_ifeqT C 1670 eb dL_law_1663 (by decide) ?_
    refine z_lconst (v := (0 : Int64)) C dL_law_1670 (by decide) ?_
    refine y_lcmp C (by rw [if_pos eb]) dL_law_1671 ?_
    exact y_ifeqT C 1677 rfl dL_law_1672 (by decide) hend
  · refine y_ifeqF C 1670 eb dL_law_1663 (by decide) ?_
    refine z_lconst (v := (1 : Int64)) C dL_law_1666 (by decide) ?_
    refine z_goto C 1671 dL_law_1667 (by decide) ?_
    refine y_lcmp C (by rw [if_neg eb]) dL_law_1671 ?_
    exact y_ifeqT C 1677 rfl dL_law_1672 (by decide) hend
set_option maxHeartbeats 4000000 in
set_option maxRecDepth 100000 in
theorem lc_26 {P : zX} {Qf : Unit → State → Prop} {ro : Nat → Nat} (C : zC P cL_law RL (some .boolean) 20 601024 7293034 7 ro) (hl0 : (match P with | (_, l, _) => l.stackTraces) = false) {s xC xM o : Nat} {i : Int32} {p1 p2 : Int32} {hp h' h1 h2 : zHp} {sz uc us : Nat} {t : Option Int32} {kk b : Int32} (e1 : ∀ h : zHp, h s = hp s → zaI h 0 s (i + 1) = some p1) (e2 : ∀ h : zHp, h s = hp s → zaI h 0 s (i + 2) = some p2) (hF : f_X7_wardVotes xC p1 p2 hp = some t) (ho : ∀ v, t = some v → zsL hp o 0 v.toInt64 = some h1) (hkk : ∀ v h z, zRw t hp h1 sz v h z → sz ≤ z ∧ v = kk ∧ h = h') (hs : h' s = hp s) (hM : f_X8_wardVotes xM p1 p2 h' = some (b, h2)) (hT : f_X8_thrown xM h2 = some kk) (hcmp : kk = 1 ∨ (kk = 0 ∧ zaL h2 2 o 0 = some b.toInt64)) (hcells : uc + 1 ≤ 601024 ∧ us + 6 ≤ 7293034) (k : ∀ z, sz ≤ z → zGq P Qf (some ()) 2774 [(0, .ref s), (1, .ref xC), (2, .ref xM), (3, .ref o), (4, .int i)] [] h2 z (uc + 1) (us + 6)) : zGq P Qf (some ()) 1680 [(0, .ref s), (1, .ref xC), (2, .ref xM), (3, .ref o), (4, .int i)] [] hp sz uc us := by
  refine z_aload_n C dL_law_1680 1 rfl ?_
  refine z_aload_n C dL_law_1681 0 rfl ?_
  refine z_iload C dL_law_1682 4 rfl ?_
  refine z_iconst C dL_law_1684 zi_1 ?_
  refine z_iadd C dL_law_1685 ?_
  refine y_iaload C (e1 _ rfl) dL_law_1686 ?_
  refine z_aload_n C dL_law_1687 0 rfl ?_
  refine z_iload C dL_law_1688 4 rfl ?_
  refine z_iconst C dL_law_1690 zi_2 ?_
  refine z_iadd C dL_law_1691 ?_
  refine y_iaload C (e2 _ rfl) dL_law_1692 ?_
  refine z_aload_n C dL_law_1693 3 rfl ?_
  refine y_callE C ze_L_207 [.ref xC, .int p1, .int p2, .ref o] (fun l D tc b0 hl => we_wardVotes l D tc ro b0 hl hF ho) hl0 rfl rfl (Nat.le_of_ble_eq_true rfl) (by decide) (by decide) hcells dL_law_1694 (fun v h z hR => ?_)
  obtain ⟨hz, hv9, hh9⟩ : sz ≤ z ∧ v = kk ∧ h = h' := hkk v h z hR; subst v; subst h
  refine z_istore (lv' := [(0, .ref s), (1, .ref xC), (2, .ref xM), (3, .ref o), (4, .int i), (5, .int kk)]) C dL_law_1697 (by decide) rfl ?_
  refine z_aload_n C dL_law_1699 2 rfl ?_
  refine z_aload_n C dL_law_1700 0 rfl ?_
  refine z_iload C dL_law_1701 4 rfl ?_
  refine z_iconst C dL_law_1703 zi_1 ?_
  refine z_iadd C dL_law_1704 ?_
  refine y_iaload C (e1 _ hs) dL_law_1705 ?_
  refine z_aload_n C dL_law_1706 0 rfl ?_
  refine z_iload C dL_law_1707 4 rfl ?_
  refine z_iconst C dL_law_1709 zi_2 ?_
  refine z_iadd C dL_law_1710 ?_
  refine y_iaload C (e2 _ hs) dL_law_1711 ?_
  refine y_callV (oc := (zoI z)) hM C zc_L_209 [.int p1, .int p2] (fun l D tc b0 r h => m_X8_wardVotes l D tc ro b0 h) rfl rfl (Nat.le_of_ble_eq_true rfl) (by decide) (by decide) ⟨hcells.1, hcells.2⟩ dL_law_1712 ?_
  refine z_istore (lv' := [(0, .ref s), (1, .ref xC), (2, .ref xM), (3, .ref o), (4, .int i), (5, .int kk), (6, .int b)]) C dL_law_1715 (by decide) rfl ?_
  refine z_aload_n C dL_law_1717 2 rfl ?_
  refine y_callV (oc := (zoP z h2)) hT C zc_L_148 [] (fun l D tc b0 r h => m_X8_thrown l D tc ro b0 h) rfl rfl (Nat.le_of_ble_eq_true rfl) (by decide) (by decide) ⟨hcells.1, hcells.2⟩ dL_law_1718 ?_
  refine z_iload C dL_law_1721 5 rfl ?_
  refine y_ifT C 1728 rfl dL_law_1723 (by decide) ?_
  refine z_iload C dL_law_1728 5 rfl ?_
  have hend : zGq P Qf (some ()) 1745 [(0, .ref s), (1, .ref xC), (2, .ref xM), (3, .ref o), (4, .int i), (5, .int kk), (6, .int b)] [] h2 z (uc + 1) (us + 6) := by
    refine z_goto C 2774 dL_law_1745 (by decide) ?_
    exact z_sub [0, 1, 2, 3, 4] rfl (k z hz)
  rcases hcmp with ek | ⟨ek, hl⟩
  · refine y_ifneT C 1745 (by rw [ek]; decide) dL_law_1730 (by decide) hend
  refine y_ifneF C 1745 ek dL_law_1730 (by decide) ?_
  refine z_aload_n C dL_law_1733 3 rfl ?_
  refine z_iconst C dL_law_1734 zi_0 ?_
  refine y_laload C hl dL_law_1735 ?_
  refine z_iload C dL_law_1736 6 rfl ?_
  refine z_i2l C dL_law_1738 ?_
  refine y_lcmp C rfl dL_law_1739 ?_
  exact y_ifeqT C 1745 rfl dL_law_1740 (by decide) hend
set_option maxHeartbeats 4000000 in
set_option maxRecDepth 100000 in
theorem lc_27 {P : zX} {Qf : Unit → State → Prop} {ro : Nat → Nat} (C : zC P cL_law RL (some .boolean) 20 601024 7293034 7 ro) (hl0 : (match P with | (_, l, _) => l.stackTraces) = false) {s xC xM o : Nat} {i : Int32} {p1 : Int32} {hp h' h1 h2 : zHp} {sz uc us : Nat} {t : Option Int32} {kk b : Int32} (e1 : ∀ h : zHp, h s = hp s → zaI h 0 s (i + 1) = some p1) (hF : f_X7_leader xC p1 hp = some t) (ho : ∀ v, t = some v → zsL hp o 0 v.toInt64 = some h1) (hkk : ∀ v h z, zRw t hp h1 sz v h z → sz ≤ z ∧ v = kk ∧ h = h') (hs : h' s = hp s) (hM : f_X8_leader xM p1 h' = some (b, h2)) (hT : f_X8_thrown xM h2 = some kk) (hcmp : kk = 1 ∨ (kk = 0 ∧ zaL h2 2 o 0 = some b.toInt64)) (hcells : uc + 1 ≤ 601024 ∧ us + 6 ≤ 7293034) (k : ∀ z, sz ≤ z → zGq P Qf (some ()) 2774 [(0, .ref s), (1, .ref xC), (2, .ref xM), (3, .ref o), (4, .int i)] [] h2 z (uc + 1) (us + 6)) : zGq P Qf (some ()) 1748 [(0, .ref s), (1, .ref xC), (2, .ref xM), (3, .ref o), (4, .int i)] [] hp sz uc us := by
  refine z_aload_n C dL_law_1748 1 rfl ?_
  refine z_aload_n C dL_law_1749 0 rfl ?_
  refine z_iload C dL_law_1750 4 rfl ?_
  refine z_iconst C dL_law_1752 zi_1 ?_
  refine z_iadd C dL_law_1753 ?_
  refine y_iaload C (e1 _ rfl) dL_law_1754 ?_
  refine z_aload_n C dL_law_1755 3 rfl ?_
  refine y_callE C ze_L_210 [.ref xC, .int p1, .ref o] (fun l D tc b0 hl => we_leader l D tc ro b0 hl hF ho) hl0 rfl rfl (Nat.le_of_ble_eq_true rfl) (by decide) (by decide) hcells dL_law_1756 (fun v h z hR => ?_)
  obtain ⟨hz, hv9, hh9⟩ : sz ≤ z ∧ v = kk ∧ h = h' := hkk v h z hR; subst v; subst h
  refine z_istore (lv' := [(0, .ref s), (1, .ref xC), (2, .ref xM), (3, .ref o), (4, .int i), (5, .int kk)]) C dL_law_1759 (by decide) rfl ?_
  refine z_aload_n C dL_law_1761 2 rfl ?_
  refine z_aload_n C dL_law_1762 0 rfl ?_
  refine z_iload C dL_law_1763 4 rfl ?_
  refine z_iconst C dL_law_1765 zi_1 ?_
  refine z_iadd C dL_law_1766 ?_
  refine y_iaload C (e1 _ hs) dL_law_1767 ?_
  refine y_callV (oc := (zoI z)) hM C zc_L_212 [.int p1] (fun l D tc b0 r h => m_X8_leader l D tc ro b0 h) rfl rfl (Nat.le_of_ble_eq_true rfl) (by decide) (by decide) ⟨hcells.1, hcells.2⟩ dL_law_1768 ?_
  refine z_istore (lv' := [(0, .ref s), (1, .ref xC), (2, .ref xM), (3, .ref o), (4, .int i), (5, .int kk), (6, .int b)]) C dL_law_1771 (by decide) rfl ?_
  refine z_aload_n C dL_law_1773 2 rfl ?_
  refine y_callV (oc := (zoP z h2)) hT C zc_L_148 [] (fun l D tc b0 r h => m_X8_thrown l D tc ro b0 h) rfl rfl (Nat.le_of_ble_eq_true rfl) (by decide) (by decide) ⟨hcells.1, hcells.2⟩ dL_law_1774 ?_
  refine z_iload C dL_law_1777 5 rfl ?_
  refine y_ifT C 1784 rfl dL_law_1779 (by decide) ?_
  refine z_iload C dL_law_1784 5 rfl ?_
  have hend : zGq P Qf (some ()) 1801 [(0, .ref s), (1, .ref xC), (2, .ref xM), (3, .ref o), (4, .int i), (5, .int kk), (6, .int b)] [] h2 z (uc + 1) (us + 6) := by
    refine z_goto C 2774 dL_law_1801 (by decide) ?_
    exact z_sub [0, 1, 2, 3, 4] rfl (k z hz)
  rcases hcmp with ek | ⟨ek, hl⟩
  · refine y_ifneT C 1801 (by rw [ek]; decide) dL_law_1786 (by decide) hend
  refine y_ifneF C 1801 ek dL_law_1786 (by decide) ?_
  refine z_aload_n C dL_law_1789 3 rfl ?_
  refine z_iconst C dL_law_1790 zi_0 ?_
  refine y_laload C hl dL_law_1791 ?_
  refine z_iload C dL_law_1792 6 rfl ?_
  refine z_i2l C dL_law_1794 ?_
  refine y_lcmp C rfl dL_law_1795 ?_
  exact y_ifeqT C 1801 rfl dL_law_1796 (by decide) hend
set_option maxHeartbeats 4000000 in
set_option maxRecDepth 100000 in
theorem lc_28 {P : zX} {Qf : Unit → State → Prop} {ro : Nat → Nat} (C : zC P cL_law RL (some .boolean) 20 601024 7293034 7 ro) (hl0 : (match P with | (_, l, _) => l.stackTraces) = false) {s xC xM o : Nat} {i : Int32} {p1 : Int32} {hp h' h1 h2 : zHp} {sz uc us : Nat} {t : Option Int32} {kk b : Int32} (e1 : ∀ h : zHp, h s = hp s → zaI h 0 s (i + 1) = some p1) (hF : f_X7_margin xC p1 hp = some t) (ho : ∀ v, t = some v → zsL hp o 0 v.toInt64 = some h1) (hkk : ∀ v h z, zRw t hp h1 sz v h z → sz ≤ z ∧ v = kk ∧ h = h') (hs : h' s = hp s) (hM : f_X8_margin xM p1 h' = some (b, h2)) (hT : f_X8_thrown xM h2 = some kk) (hcmp : kk = 1 ∨ (kk = 0 ∧ zaL h2 2 o 0 = some b.toInt64)) (hcells : uc + 1 ≤ 601024 ∧ us + 6 ≤ 7293034) (k : ∀ z, sz ≤ z → zGq P Qf (some ()) 2774 [(0, .ref s), (1, .ref xC), (2, .ref xM), (3, .ref o), (4, .int i)] [] h2 z (uc + 1) (us + 6)) : zGq P Qf (some ()) 1804 [(0, .ref s), (1, .ref xC), (2, .ref xM), (3, .ref o), (4, .int i)] [] hp sz uc us := by
  refine z_aload_n C dL_law_1804 1 rfl ?_
  refine z_aload_n C dL_law_1805 0 rfl ?_
  refine z_iload C dL_law_1806 4 rfl ?_
  refine z_iconst C dL_law_1808 zi_1 ?_
  refine z_iadd C dL_law_1809 ?_
  refine y_iaload C (e1 _ rfl) dL_law_1810 ?_
  refine z_aload_n C dL_law_1811 3 rfl ?_
  refine y_callE C ze_L_213 [.ref xC, .int p1, .ref o] (fun l D tc b0 hl => we_margin l D tc ro b0 hl hF ho) hl0 rfl rfl (Nat.le_of_ble_eq_true rfl) (by decide) (by decide) hcells dL_law_1812 (fun v h z hR => ?_)
  obtain ⟨hz, hv9, hh9⟩ : sz ≤ z ∧ v = kk ∧ h = h' := hkk v h z hR; subst v; subst h
  refine z_istore (lv' := [(0, .ref s), (1, .ref xC), (2, .ref xM), (3, .ref o), (4, .int i), (5, .int kk)]) C dL_law_1815 (by decide) rfl ?_
  refine z_aload_n C dL_law_1817 2 rfl ?_
  refine z_aload_n C dL_law_1818 0 rfl ?_
  refine z_iload C dL_law_1819 4 rfl ?_
  refine z_iconst C dL_law_1821 zi_1 ?_
  refine z_iadd C dL_law_1822 ?_
  refine y_iaload C (e1 _ hs) dL_law_1823 ?_
  refine y_callV (oc := (zoI z)) hM C zc_L_215 [.int p1] (fun l D tc b0 r h => m_X8_margin l D tc ro b0 h) rfl rfl (Nat.le_of_ble_eq_true rfl) (by decide) (by decide) ⟨hcells.1, hcells.2⟩ dL_law_1824 ?_
  refine z_istore (lv' := [(0, .ref s), (1, .ref xC), (2, .ref xM), (3, .ref o), (4, .int i), (5, .int kk), (6, .int b)]) C dL_law_1827 (by decide) rfl ?_
  refine z_aload_n C dL_law_1829 2 rfl ?_
  refine y_callV (oc := (zoP z h2)) hT C zc_L_148 [] (fun l D tc b0 r h => m_X8_thrown l D tc ro b0 h) rfl rfl (Nat.le_of_ble_eq_true rfl) (by decide) (by decide) ⟨hcells.1, hcells.2⟩ dL_law_1830 ?_
  refine z_iload C dL_law_1833 5 rfl ?_
  refine y_ifT C 1840 rfl dL_law_1835 (by decide) ?_
  refine z_iload C dL_law_1840 5 rfl ?_
  have hend : zGq P Qf (some ()) 1857 [(0, .ref s), (1, .ref xC), (2, .ref xM), (3, .ref o), (4, .int i), (5, .int kk), (6, .int b)] [] h2 z (uc + 1) (us + 6) := by
    refine z_goto C 2774 dL_law_1857 (by decide) ?_
    exact z_sub [0, 1, 2, 3, 4] rfl (k z hz)
  rcases hcmp with ek | ⟨ek, hl⟩
  · refine y_ifneT C 1857 (by rw [ek]; decide) dL_law_1842 (by decide) hend
  refine y_ifneF C 1857 ek dL_law_1842 (by decide) ?_
  refine z_aload_n C dL_law_1845 3 rfl ?_
  refine z_iconst C dL_law_1846 zi_0 ?_
  refine y_laload C hl dL_law_1847 ?_
  refine z_iload C dL_law_1848 6 rfl ?_
  refine z_i2l C dL_law_1850 ?_
  refine y_lcmp C rfl dL_law_1851 ?_
  exact y_ifeqT C 1857 rfl dL_law_1852 (by decide) hend
set_option maxHeartbeats 4000000 in
set_option maxRecDepth 100000 in
theorem lc_29 {P : zX} {Qf : Unit → State → Prop} {ro : Nat → Nat} (C : zC P cL_law RL (some .boolean) 20 601024 7293034 7 ro) (hl0 : (match P with | (_, l, _) => l.stackTraces) = false) {s xC xM o : Nat} {i : Int32} {p1 : Int32} {hp h' h1 h2 : zHp} {sz uc us : Nat} {t : Option Int32} {kk b : Int32} (e1 : ∀ h : zHp, h s = hp s → zaI h 0 s (i + 1) = some p1) (hF : f_X7_isClose xC p1 hp = some t) (ho : ∀ v, t = some v → zsL hp o 0 (if v = 0 then 0 else 1) = some h1) (hkk : ∀ v h z, zRw t hp h1 sz v h z → sz ≤ z ∧ v = kk ∧ h = h') (hs : h' s = hp s) (hM : f_X8_isClose xM p1 h' = some (b, h2)) (hT : f_X8_thrown xM h2 = some kk) (hcmp : kk = 1 ∨ (kk = 0 ∧ zaL h2 2 o 0 = some (if b = 0 then 0 else 1))) (hcells : uc + 1 ≤ 601024 ∧ us + 6 ≤ 7293034) (k : ∀ z, sz ≤ z → zGq P Qf (some ()) 2774 [(0, .ref s), (1, .ref xC), (2, .ref xM), (3, .ref o), (4, .int i)] [] h2 z (uc + 1) (us + 6)) : zGq P Qf (some ()) 1860 [(0, .ref s), (1, .ref xC), (2, .ref xM), (3, .ref o), (4, .int i)] [] hp sz uc us := by
  refine z_aload_n C dL_law_1860 1 rfl ?_
  refine z_aload_n C dL_law_1861 0 rfl ?_
  refine z_iload C dL_law_1862 4 rfl ?_
  refine z_iconst C dL_law_1864 zi_1 ?_
  refine z_iadd C dL_law_1865 ?_
  refine y_iaload C (e1 _ rfl) dL_law_1866 ?_
  refine z_aload_n C dL_law_1867 3 rfl ?_
  refine y_callE C ze_L_216 [.ref xC, .int p1, .ref o] (fun l D tc b0 hl => we_isClose l D tc ro b0 hl hF ho) hl0 rfl rfl (Nat.le_of_ble_eq_true rfl) (by decide) (by decide) hcells dL_law_1868 (fun v h z hR => ?_)
  obtain ⟨hz, hv9, hh9⟩ : sz ≤ z ∧ v = kk ∧ h = h' := hkk v h z hR; subst v; subst h
  refine z_istore (lv' := [(0, .ref s), (1, .ref xC), (2, .ref xM), (3, .ref o), (4, .int i), (5, .int kk)]) C dL_law_1871 (by decide) rfl ?_
  refine z_aload_n C dL_law_1873 2 rfl ?_
  refine z_aload_n C dL_law_1874 0 rfl ?_
  refine z_iload C dL_law_1875 4 rfl ?_
  refine z_iconst C dL_law_1877 zi_1 ?_
  refine z_iadd C dL_law_1878 ?_
  refine y_iaload C (e1 _ hs) dL_law_1879 ?_
  refine y_callV (oc := (zoI z)) hM C zc_L_218 [.int p1] (fun l D tc b0 r h => m_X8_isClose l D tc ro b0 h) rfl rfl (Nat.le_of_ble_eq_true rfl) (by decide) (by decide) ⟨hcells.1, hcells.2⟩ dL_law_1880 ?_
  refine z_istore (lv' := [(0, .ref s), (1, .ref xC), (2, .ref xM), (3, .ref o), (4, .int i), (5, .int kk), (6, .int b)]) C dL_law_1883 (by decide) rfl ?_
  refine z_aload_n C dL_law_1885 2 rfl ?_
  refine y_callV (oc := (zoP z h2)) hT C zc_L_148 [] (fun l D tc b0 r h => m_X8_thrown l D tc ro b0 h) rfl rfl (Nat.le_of_ble_eq_true rfl) (by decide) (by decide) ⟨hcells.1, hcells.2⟩ dL_law_1886 ?_
  refine z_iload C dL_law_1889 5 rfl ?_
  refine y_ifT C 1896 rfl dL_law_1891 (by decide) ?_
  refine z_iload C dL_law_1896 5 rfl ?_
  have hend : zGq P Qf (some ()) 1920 [(0, .ref s), (1, .ref xC), (2, .ref xM), (3, .ref o), (4, .int i), (5, .int kk), (6, .int b)] [] h2 z (uc + 1) (us + 6) := by
    refine z_goto C 2774 dL_law_1920 (by decide) ?_
    exact z_sub [0, 1, 2, 3, 4] rfl (k z hz)
  rcases hcmp with ek | ⟨ek, hl⟩
  · refine y_ifneT C 1920 (by rw [ek]; decide) dL_law_1898 (by decide) hend
  refine y_ifneF C 1920 ek dL_law_1898 (by decide) ?_
  refine z_aload_n C dL_law_1901 3 rfl ?_
  refine z_iconst C dL_law_1902 zi_0 ?_
  refine y_laload C hl dL_law_1903 ?_
  refine z_iload C dL_law_1904 6 rfl ?_
  by_cases eb : b = 0
  · refine y_ifeqT C 1913 eb dL_law_1906 (by decide) ?_
    refine z_lconst (v := (0 : Int64)) C dL_law_1913 (by decide) ?_
    refine y_lcmp C (by rw [if_pos eb]) dL_law_1914 ?_
    exact y_ifeqT C 1920 rfl dL_law_1915 (by decide) hend
  · refine y_ifeqF C 1913 eb dL_law_1906 (by decide) ?_
    refine z_lconst (v := (1 : Int64)) C dL_law_1909 (by decide) ?_
    refine z_goto C 1914 dL_law_1910 (by decide) ?_
    refine y_lcmp C (by rw [if_neg eb]) dL_law_1914 ?_
    exact y_ifeqT C 1920 rfl dL_law_1915 (by decide) hend
set_option maxHeartbeats 4000000 in
set_option maxRecDepth 100000 in
theorem lc_30 {P : zX} {Qf : Unit → State → Prop} {ro : Nat → Nat} (C : zC P cL_law RL (some .boolean) 20 601024 7293034 7 ro) (hl0 : (match P with | (_, l, _) => l.stackTraces) = false) {s xC xM o : Nat} {i : Int32} {p1 : Int32} {hp h' h1 h2 : zHp} {sz uc us : Nat} {t : Option Int32} {kk b : Int32} (e1 : ∀ h : zHp, h s = hp s → zaI h 0 s (i + 1) = some p1) (hF : f_X7_whyNot xC p1 hp = some t) (ho : ∀ v, t = some v → zsL hp o 0 v.toInt64 = some h1) (hkk : ∀ v h z, zRw t hp h1 sz v h z → sz ≤ z ∧ v = kk ∧ h = h') (hs : h' s = hp s) (hM : f_X8_whyNot xM p1 h' = some (b, h2)) (hT : f_X8_thrown xM h2 = some kk) (hcmp : kk = 1 ∨ (kk = 0 ∧ zaL h2 2 o 0 = some b.toInt64)) (hcells : uc + 1 ≤ 601024 ∧ us + 6 ≤ 7293034) (k : ∀ z, sz ≤ z → zGq P Qf (some ()) 2774 [(0, .ref s), (1, .ref xC), (2, .ref xM), (3, .ref o), (4, .int i)] [] h2 z (uc + 1) (us + 6)) : zGq P Qf (some ()) 1923 [(0, .ref s), (1, .ref xC), (2, .ref xM), (3, .ref o), (4, .int i)] [] hp sz uc us := by
  refine z_aload_n C dL_law_1923 1 rfl ?_
  refine z_aload_n C dL_law_1924 0 rfl ?_
  refine z_iload C dL_law_1925 4 rfl ?_
  refine z_iconst C dL_law_1927 zi_1 ?_
  refine z_iadd C dL_law_1928 ?_
  refine y_iaload C (e1 _ rfl) dL_law_1929 ?_
  refine z_aload_n C dL_law_1930 3 rfl ?_
  refine y_callE C ze_L_219 [.ref xC, .int p1, .ref o] (fun l D tc b0 hl => we_whyNot l D tc ro b0 hl hF ho) hl0 rfl rfl (Nat.le_of_ble_eq_true rfl) (by decide) (by decide) hcells dL_law_1931 (fun v h z hR => ?_)
  obtain ⟨hz, hv9, hh9⟩ : sz ≤ z ∧ v = kk ∧ h = h' := hkk v h z hR; subst v; subst h
  refine z_istore (lv' := [(0, .ref s), (1, .ref xC), (2, .ref xM), (3, .ref o), (4, .int i), (5, .int kk)]) C dL_law_1934 (by decide) rfl ?_
  refine z_aload_n C dL_law_1936 2 rfl ?_
  refine z_aload_n C dL_law_1937 0 rfl ?_
  refine z_iload C dL_law_1938 4 rfl ?_
  refine z_iconst C dL_law_1940 zi_1 ?_
  refine z_iadd C dL_law_1941 ?_
  refine y_iaload C (e1 _ hs) dL_law_1942 ?_
  refine y_callV (oc := (zoI z)) hM C zc_L_221 [.int p1] (fun l D tc b0 r h => m_X8_whyNot l D tc ro b0 h) rfl rfl (Nat.le_of_ble_eq_true rfl) (by decide) (by decide) ⟨hcells.1, hcells.2⟩ dL_law_1943 ?_
  refine z_istore (lv' := [(0, .ref s), (1, .ref xC), (2, .ref xM), (3, .ref o), (4, .int i), (5, .int kk), (6, .int b)]) C dL_law_1946 (by decide) rfl ?_
  refine z_aload_n C dL_law_1948 2 rfl ?_
  refine y_callV (oc := (zoP z h2)) hT C zc_L_148 [] (fun l D tc b0 r h => m_X8_thrown l D tc ro b0 h) rfl rfl (Nat.le_of_ble_eq_true rfl) (by decide) (by decide) ⟨hcells.1, hcells.2⟩ dL_law_1949 ?_
  refine z_iload C dL_law_1952 5 rfl ?_
  refine y_ifT C 1959 rfl dL_law_1954 (by decide) ?_
  refine z_iload C dL_law_1959 5 rfl ?_
  have hend : zGq P Qf (some ()) 1976 [(0, .ref s), (1, .ref xC), (2, .ref xM), (3, .ref o), (4, .int i), (5, .int kk), (6, .int b)] [] h2 z (uc + 1) (us + 6) := by
    refine z_goto C 2774 dL_law_1976 (by decide) ?_
    exact z_sub [0, 1, 2, 3, 4] rfl (k z hz)
  rcases hcmp with ek | ⟨ek, hl⟩
  · refine y_ifneT C 1976 (by rw [ek]; decide) dL_law_1961 (by decide) hend
  refine y_ifneF C 1976 ek dL_law_1961 (by decide) ?_
  refine z_aload_n C dL_law_1964 3 rfl ?_
  refine z_iconst C dL_law_1965 zi_0 ?_
  refine y_laload C hl dL_law_1966 ?_
  refine z_iload C dL_law_1967 6 rfl ?_
  refine z_i2l C dL_law_1969 ?_
  refine y_lcmp C rfl dL_law_1970 ?_
  exact y_ifeqT C 1976 rfl dL_law_1971 (by decide) hend
set_option maxHeartbeats 4000000 in
set_option maxRecDepth 100000 in
theorem lc_31 {P : zX} {Qf : Unit → State → Prop} {ro : Nat → Nat} (C : zC P cL_law RL (some .boolean) 20 601024 7293034 7 ro) {s xC xM o : Nat} {i : Int32} {hp h2 : zHp} {sz uc us : Nat} {r1 r2 : Int32}  (hC : f_X7_toCount xC  hp = some r1) (hM : f_X8_toCount xM  hp = some (r2, h2)) (he : r1 = r2) (hcells : uc ≤ 601024 ∧ us ≤ 7293034) (k : zGq P Qf (some ()) 2774 [(0, .ref s), (1, .ref xC), (2, .ref xM), (3, .ref o), (4, .int i)] [] h2 sz uc us) : zGq P Qf (some ()) 1979 [(0, .ref s), (1, .ref xC), (2, .ref xM), (3, .ref o), (4, .int i)] [] hp sz uc us := by
  refine z_aload_n C dL_law_1979 1 rfl ?_
  refine y_callV (oc := (zoP sz hp)) hC C zc_L_222 [] (fun l D tc b0 r h => m_X7_toCount l D tc ro b0 h) rfl rfl (Nat.le_of_ble_eq_true rfl) (by decide) (by decide) hcells dL_law_1980 ?_
  refine z_aload_n C dL_law_1983 2 rfl ?_
  refine y_callV (oc := (zoI sz)) hM C zc_L_225 [] (fun l D tc b0 r h => m_X8_toCount l D tc ro b0 h) rfl rfl (Nat.le_of_ble_eq_true rfl) (by decide) (by decide) hcells dL_law_1984 ?_
  refine y_ifT C 2774 he dL_law_1987 (by decide) ?_
  exact k
set_option maxHeartbeats 4000000 in
set_option maxRecDepth 100000 in
theorem lc_32 {P : zX} {Qf : Unit → State → Prop} {ro : Nat → Nat} (C : zC P cL_law RL (some .boolean) 20 601024 7293034 7 ro) (hl0 : (match P with | (_, l, _) => l.stackTraces) = false) {s xC xM o : Nat} {i : Int32} {p1 : Int32} {hp h' h1 h2 : zHp} {sz uc us : Nat} {t : Option Int32} {kk b : Int32} (e1 : ∀ h : zHp, h s = hp s → zaI h 0 s (i + 1) = some p1) (hF : f_X7_countsLeft xC p1 hp = some t) (ho : ∀ v, t = some v → zsL hp o 0 v.toInt64 = some h1) (hkk : ∀ v h z, zRw t hp h1 sz v h z → sz ≤ z ∧ v = kk ∧ h = h') (hs : h' s = hp s) (hM : f_X8_countsLeft xM p1 h' = some (b, h2)) (hT : f_X8_thrown xM h2 = some kk) (hcmp : kk = 1 ∨ (kk = 0 ∧ zaL h2 2 o 0 = some b.toInt64)) (hcells : uc + 1 ≤ 601024 ∧ us + 6 ≤ 7293034) (k : ∀ z, sz ≤ z → zGq P Qf (some ()) 2774 [(0, .ref s), (1, .ref xC), (2, .ref xM), (3, .ref o), (4, .int i)] [] h2 z (uc + 1) (us + 6)) : zGq P Qf (some ()) 1992 [(0, .ref s), (1, .ref xC), (2, .ref xM), (3, .ref o), (4, .int i)] [] hp sz uc us := by
  refine z_aload_n C dL_law_1992 1 rfl ?_
  refine z_aload_n C dL_law_1993 0 rfl ?_
  refine z_iload C dL_law_1994 4 rfl ?_
  refine z_iconst C dL_law_1996 zi_1 ?_
  refine z_iadd C dL_law_1997 ?_
  refine y_iaload C (e1 _ rfl) dL_law_1998 ?_
  refine z_aload_n C dL_law_1999 3 rfl ?_
  refine y_callE C ze_L_226 [.ref xC, .int p1, .ref o] (fun l D tc b0 hl => we_countsLeft l D tc ro b0 hl hF ho) hl0 rfl rfl (Nat.le_of_ble_eq_true rfl) (by decide) (by decide) hcells dL_law_2000 (fun v h z hR => ?_)
  obtain ⟨hz, hv9, hh9⟩ : sz ≤ z ∧ v = kk ∧ h = h' := hkk v h z hR; subst v; subst h
  refine z_istore (lv' := [(0, .ref s), (1, .ref xC), (2, .ref xM), (3, .ref o), (4, .int i), (5, .int kk)]) C dL_law_2003 (by decide) rfl ?_
  refine z_aload_n C dL_law_2005 2 rfl ?_
  refine z_aload_n C dL_law_2006 0 rfl ?_
  refine z_iload C dL_law_2007 4 rfl ?_
  refine z_iconst C dL_law_2009 zi_1 ?_
  refine z_iadd C dL_law_2010 ?_
  refine y_iaload C (e1 _ hs) dL_law_2011 ?_
  refine y_callV (oc := (zoI z)) hM C zc_L_228 [.int p1] (fun l D tc b0 r h => m_X8_countsLeft l D tc ro b0 h) rfl rfl (Nat.le_of_ble_eq_true rfl) (by decide) (by decide) ⟨hcells.1, hcells.2⟩ dL_law_2012 ?_
  refine z_istore (lv' := [(0, .ref s), (1, .ref xC), (2, .ref xM), (3, .ref o), (4, .int i), (5, .int kk), (6, .int b)]) C dL_law_2015 (by decide) rfl ?_
  refine z_aload_n C dL_law_2017 2 rfl ?_
  refine y_callV (oc := (zoP z h2)) hT C zc_L_148 [] (fun l D tc b0 r h => m_X8_thrown l D tc ro b0 h) rfl rfl (Nat.le_of_ble_eq_true rfl) (by decide) (by decide) ⟨hcells.1, hcells.2⟩ dL_law_2018 ?_
  refine z_iload C dL_law_2021 5 rfl ?_
  refine y_ifT C 2028 rfl dL_law_2023 (by decide) ?_
  refine z_iload C dL_law_2028 5 rfl ?_
  have hend : zGq P Qf (some ()) 2045 [(0, .ref s), (1, .ref xC), (2, .ref xM), (3, .ref o), (4, .int i), (5, .int kk), (6, .int b)] [] h2 z (uc + 1) (us + 6) := by
    refine z_goto C 2774 dL_law_2045 (by decide) ?_
    exact z_sub [0, 1, 2, 3, 4] rfl (k z hz)
  rcases hcmp with ek | ⟨ek, hl⟩
  · refine y_ifneT C 2045 (by rw [ek]; decide) dL_law_2030 (by decide) hend
  refine y_ifneF C 2045 ek dL_law_2030 (by decide) ?_
  refine z_aload_n C dL_law_2033 3 rfl ?_
  refine z_iconst C dL_law_2034 zi_0 ?_
  refine y_laload C hl dL_law_2035 ?_
  refine z_iload C dL_law_2036 6 rfl ?_
  refine z_i2l C dL_law_2038 ?_
  refine y_lcmp C rfl dL_law_2039 ?_
  exact y_ifeqT C 2045 rfl dL_law_2040 (by decide) hend
set_option maxHeartbeats 4000000 in
set_option maxRecDepth 100000 in
theorem lc_33 {P : zX} {Qf : Unit → State → Prop} {ro : Nat → Nat} (C : zC P cL_law RL (some .boolean) 20 601024 7293034 7 ro) (hl0 : (match P with | (_, l, _) => l.stackTraces) = false) {s xC xM o : Nat} {i : Int32} {p1 : Int32} {hp h' h1 h2 : zHp} {sz uc us : Nat} {t : Option Int32} {kk b : Int32} (e1 : ∀ h : zHp, h s = hp s → zaI h 0 s (i + 1) = some p1) (hF : f_X7_rightTable xC p1 hp = some t) (ho : ∀ v, t = some v → zsL hp o 0 v.toInt64 = some h1) (hkk : ∀ v h z, zRw t hp h1 sz v h z → sz ≤ z ∧ v = kk ∧ h = h') (hs : h' s = hp s) (hM : f_X8_rightTable xM p1 h' = some (b, h2)) (hT : f_X8_thrown xM h2 = some kk) (hcmp : kk = 1 ∨ (kk = 0 ∧ zaL h2 2 o 0 = some b.toInt64)) (hcells : uc + 1 ≤ 601024 ∧ us + 6 ≤ 7293034) (k : ∀ z, sz ≤ z → zGq P Qf (some ()) 2774 [(0, .ref s), (1, .ref xC), (2, .ref xM), (3, .ref o), (4, .int i)] [] h2 z (uc + 1) (us + 6)) : zGq P Qf (some ()) 2048 [(0, .ref s), (1, .ref xC), (2, .ref xM), (3, .ref o), (4, .int i)] [] hp sz uc us := by
  refine z_aload_n C dL_law_2048 1 rfl ?_
  refine z_aload_n C dL_law_2049 0 rfl ?_
  refine z_iload C dL_law_2050 4 rfl ?_
  refine z_iconst C dL_law_2052 zi_1 ?_
  refine z_iadd C dL_law_2053 ?_
  refine y_iaload C (e1 _ rfl) dL_law_2054 ?_
  refine z_aload_n C dL_law_2055 3 rfl ?_
  refine y_callE C ze_L_229 [.ref xC, .int p1, .ref o] (fun l D tc b0 hl => we_rightTable l D tc ro b0 hl hF ho) hl0 rfl rfl (Nat.le_of_ble_eq_true rfl) (by decide) (by decide) hcells dL_law_2056 (fun v h z hR => ?_)
  obtain ⟨hz, hv9, hh9⟩ : sz ≤ z ∧ v = kk ∧ h = h' := hkk v h z hR; subst v; subst h
  refine z_istore (lv' := [(0, .ref s), (1, .ref xC), (2, .ref xM), (3, .ref o), (4, .int i), (5, .int kk)]) C dL_law_2059 (by decide) rfl ?_
  refine z_aload_n C dL_law_2061 2 rfl ?_
  refine z_aload_n C dL_law_2062 0 rfl ?_
  refine z_iload C dL_law_2063 4 rfl ?_
  refine z_iconst C dL_law_2065 zi_1 ?_
  refine z_iadd C dL_law_2066 ?_
  refine y_iaload C (e1 _ hs) dL_law_2067 ?_
  refine y_callV (oc := (zoI z)) hM C zc_L_231 [.int p1] (fun l D tc b0 r h => m_X8_rightTable l D tc ro b0 h) rfl rfl (Nat.le_of_ble_eq_true rfl) (by decide) (by decide) ⟨hcells.1, hcells.2⟩ dL_law_2068 ?_
  refine z_istore (lv' := [(0, .ref s), (1, .ref xC), (2, .ref xM), (3, .ref o), (4, .int i), (5, .int kk), (6, .int b)]) C dL_law_2071 (by decide) rfl ?_
  refine z_aload_n C dL_law_2073 2 rfl ?_
  refine y_callV (oc := (zoP z h2)) hT C zc_L_148 [] (fun l D tc b0 r h => m_X8_thrown l D tc ro b0 h) rfl rfl (Nat.le_of_ble_eq_true rfl) (by decide) (by decide) ⟨hcells.1, hcells.2⟩ dL_law_2074 ?_
  refine z_iload C dL_law_2077 5 rfl ?_
  refine y_ifT C 2084 rfl dL_law_2079 (by decide) ?_
  refine z_iload C dL_law_2084 5 rfl ?_
  have hend : zGq P Qf (some ()) 2101 [(0, .ref s), (1, .ref xC), (2, .ref xM), (3, .ref o), (4, .int i), (5, .int kk), (6, .int b)] [] h2 z (uc + 1) (us + 6) := by
    refine z_goto C 2774 dL_law_2101 (by decide) ?_
    exact z_sub [0, 1, 2, 3, 4] rfl (k z hz)
  rcases hcmp with ek | ⟨ek, hl⟩
  · refine y_ifneT C 2101 (by rw [ek]; decide) dL_law_2086 (by decide) hend
  refine y_ifneF C 2101 ek dL_law_2086 (by decide) ?_
  refine z_aload_n C dL_law_2089 3 rfl ?_
  refine z_iconst C dL_law_2090 zi_0 ?_
  refine y_laload C hl dL_law_2091 ?_
  refine z_iload C dL_law_2092 6 rfl ?_
  refine z_i2l C dL_law_2094 ?_
  refine y_lcmp C rfl dL_law_2095 ?_
  exact y_ifeqT C 2101 rfl dL_law_2096 (by decide) hend
set_option maxHeartbeats 4000000 in
set_option maxRecDepth 100000 in
theorem lc_34 {P : zX} {Qf : Unit → State → Prop} {ro : Nat → Nat} (C : zC P cL_law RL (some .boolean) 20 601024 7293034 7 ro) {s xC xM o : Nat} {i : Int32} {hp h2 : zHp} {sz uc us : Nat} {r1 r2 : Int32}  (hC : f_X7_nextWard xC  hp = some r1) (hM : f_X8_nextWard xM  hp = some (r2, h2)) (he : r1 = r2) (hcells : uc ≤ 601024 ∧ us ≤ 7293034) (k : zGq P Qf (some ()) 2774 [(0, .ref s), (1, .ref xC), (2, .ref xM), (3, .ref o), (4, .int i)] [] h2 sz uc us) : zGq P Qf (some ()) 2104 [(0, .ref s), (1, .ref xC), (2, .ref xM), (3, .ref o), (4, .int i)] [] hp sz uc us := by
  refine z_aload_n C dL_law_2104 1 rfl ?_
  refine y_callV (oc := (zoP sz hp)) hC C zc_L_232 [] (fun l D tc b0 r h => m_X7_nextWard l D tc ro b0 h) rfl rfl (Nat.le_of_ble_eq_true rfl) (by decide) (by decide) hcells dL_law_2105 ?_
  refine z_aload_n C dL_law_2108 2 rfl ?_
  refine y_callV (oc := (zoI sz)) hM C zc_L_235 [] (fun l D tc b0 r h => m_X8_nextWard l D tc ro b0 h) rfl rfl (Nat.le_of_ble_eq_true rfl) (by decide) (by decide) hcells dL_law_2109 ?_
  refine y_ifT C 2774 he dL_law_2112 (by decide) ?_
  exact k
set_option maxHeartbeats 4000000 in
set_option maxRecDepth 100000 in
theorem lc_35 {P : zX} {Qf : Unit → State → Prop} {ro : Nat → Nat} (C : zC P cL_law RL (some .boolean) 20 601024 7293034 7 ro) {s xC xM o : Nat} {i : Int32} {hp h2 : zHp} {sz uc us : Nat} {r1 r2 : Int32}  (hC : f_X7_declaredCount xC  hp = some r1) (hM : f_X8_declaredCount xM  hp = some (r2, h2)) (he : r1 = r2) (hcells : uc ≤ 601024 ∧ us ≤ 7293034) (k : zGq P Qf (some ()) 2774 [(0, .ref s), (1, .ref xC), (2, .ref xM), (3, .ref o), (4, .int i)] [] h2 sz uc us) : zGq P Qf (some ()) 2117 [(0, .ref s), (1, .ref xC), (2, .ref xM), (3, .ref o), (4, .int i)] [] hp sz uc us := by
  refine z_aload_n C dL_law_2117 1 rfl ?_
  refine y_callV (oc := (zoP sz hp)) hC C zc_L_236 [] (fun l D tc b0 r h => m_X7_declaredCount l D tc ro b0 h) rfl rfl (Nat.le_of_ble_eq_true rfl) (by decide) (by decide) hcells dL_law_2118 ?_
  refine z_aload_n C dL_law_2121 2 rfl ?_
  refine y_callV (oc := (zoI sz)) hM C zc_L_239 [] (fun l D tc b0 r h => m_X8_declaredCount l D tc ro b0 h) rfl rfl (Nat.le_of_ble_eq_true rfl) (by decide) (by decide) hcells dL_law_2122 ?_
  refine y_ifT C 2774 he dL_law_2125 (by decide) ?_
  exact k
set_option maxHeartbeats 4000000 in
set_option maxRecDepth 100000 in
theorem lc_36 {P : zX} {Qf : Unit → State → Prop} {ro : Nat → Nat} (C : zC P cL_law RL (some .boolean) 20 601024 7293034 7 ro) {s xC xM o : Nat} {i : Int32} {p1 : Int32} {hp h2 : zHp} {sz uc us : Nat} {r1 r2 : Int32} (e1 : ∀ h : zHp, h s = hp s → zaI h 0 s (i + 1) = some p1) (hC : f_X7_declared xC p1 hp = some r1) (hM : f_X8_declared xM p1 hp = some (r2, h2)) (he : r1 = r2) (hcells : uc ≤ 601024 ∧ us ≤ 7293034) (k : zGq P Qf (some ()) 2774 [(0, .ref s), (1, .ref xC), (2, .ref xM), (3, .ref o), (4, .int i)] [] h2 sz uc us) : zGq P Qf (some ()) 2130 [(0, .ref s), (1, .ref xC), (2, .ref xM), (3, .ref o), (4, .int i)] [] hp sz uc us := by
  refine z_aload_n C dL_law_2130 1 rfl ?_
  refine z_aload_n C dL_law_2131 0 rfl ?_
  refine z_iload C dL_law_2132 4 rfl ?_
  refine z_iconst C dL_law_2134 zi_1 ?_
  refine z_iadd C dL_law_2135 ?_
  refine y_iaload C (e1 _ rfl) dL_law_2136 ?_
  refine y_callV (oc := (zoP sz hp)) hC C zc_L_240 [.int p1] (fun l D tc b0 r h => m_X7_declared l D tc ro b0 h) rfl rfl (Nat.le_of_ble_eq_true rfl) (by decide) (by decide) hcells dL_law_2137 ?_
  refine z_aload_n C dL_law_2140 2 rfl ?_
  refine z_aload_n C dL_law_2141 0 rfl ?_
  refine z_iload C dL_law_2142 4 rfl ?_
  refine z_iconst C dL_law_2144 zi_1 ?_
  refine z_iadd C dL_law_2145 ?_
  refine y_iaload C (e1 _ rfl) dL_law_2146 ?_
  refine y_callV (oc := (zoI sz)) hM C zc_L_243 [.int p1] (fun l D tc b0 r h => m_X8_declared l D tc ro b0 h) rfl rfl (Nat.le_of_ble_eq_true rfl) (by decide) (by decide) hcells dL_law_2147 ?_
  refine y_ifT C 2774 he dL_law_2150 (by decide) ?_
  exact k
set_option maxHeartbeats 4000000 in
set_option maxRecDepth 100000 in
theorem lc_37 {P : zX} {Qf : Unit → State → Prop} {ro : Nat → Nat} (C : zC P cL_law RL (some .boolean) 20 601024 7293034 7 ro) (hl0 : (match P with | (_, l, _) => l.stackTraces) = false) {s xC xM o : Nat} {i : Int32} {p1 : Int32} {hp h' h1 h2 : zHp} {sz uc us : Nat} {t : Option Int32} {kk b : Int32} (e1 : ∀ h : zHp, h s = hp s → zaI h 0 s (i + 1) = some p1) (hF : f_X7_isRegionDeclared xC p1 hp = some t) (ho : ∀ v, t = some v → zsL hp o 0 (if v = 0 then 0 else 1) = some h1) (hkk : ∀ v h z, zRw t hp h1 sz v h z → sz ≤ z ∧ v = kk ∧ h = h') (hs : h' s = hp s) (hM : f_X8_isRegionDeclared xM p1 h' = some (b, h2)) (hT : f_X8_thrown xM h2 = some kk) (hcmp : kk = 1 ∨ (kk = 0 ∧ zaL h2 2 o 0 = some (if b = 0 then 0 else 1))) (hcells : uc + 1 ≤ 601024 ∧ us + 6 ≤ 7293034) (k : ∀ z, sz ≤ z → zGq P Qf (some ()) 2774 [(0, .ref s), (1, .ref xC), (2, .ref xM), (3, .ref o), (4, .int i)] [] h2 z (uc + 1) (us + 6)) : zGq P Qf (some ()) 2155 [(0, .ref s), (1, .ref xC), (2, .ref xM), (3, .ref o), (4, .int i)] [] hp sz uc us := by
  refine z_aload_n C dL_law_2155 1 rfl ?_
  refine z_aload_n C dL_law_2156 0 rfl ?_
  refine z_iload C dL_law_2157 4 rfl ?_
  refine z_iconst C dL_law_2159 zi_1 ?_
  refine z_iadd C dL_law_2160 ?_
  refine y_iaload C (e1 _ rfl) dL_law_2161 ?_
  refine z_aload_n C dL_law_2162 3 rfl ?_
  refine y_callE C ze_L_244 [.ref xC, .int p1, .ref o] (fun l D tc b0 hl => we_isRegionDeclared l D tc ro b0 hl hF ho) hl0 rfl rfl (Nat.le_of_ble_eq_true rfl) (by decide) (by decide) hcells dL_law_2163 (fun v h z hR => ?_)
  obtain ⟨hz, hv9, hh9⟩ : sz ≤ z ∧ v = kk ∧ h = h' := hkk v h z hR; subst v; subst h
  refine z_istore (lv' := [(0, .ref s), (1, .ref xC), (2, .ref xM), (3, .ref o), (4, .int i), (5, .int kk)]) C dL_law_2166 (by decide) rfl ?_
  refine z_aload_n C dL_law_2168 2 rfl ?_
  refine z_aload_n C dL_law_2169 0 rfl ?_
  refine z_iload C dL_law_2170 4 rfl ?_
  refine z_iconst C dL_law_2172 zi_1 ?_
  refine z_iadd C dL_law_2173 ?_
  refine y_iaload C (e1 _ hs) dL_law_2174 ?_
  refine y_callV (oc := (zoI z)) hM C zc_L_246 [.int p1] (fun l D tc b0 r h => m_X8_isRegionDeclared l D tc ro b0 h) rfl rfl (Nat.le_of_ble_eq_true rfl) (by decide) (by decide) ⟨hcells.1, hcells.2⟩ dL_law_2175 ?_
  refine z_istore (lv' := [(0, .ref s), (1, .ref xC), (2, .ref xM), (3, .ref o), (4, .int i), (5, .int kk), (6, .int b)]) C dL_law_2178 (by decide) rfl ?_
  refine z_aload_n C dL_law_2180 2 rfl ?_
  refine y_callV (oc := (zoP z h2)) hT C zc_L_148 [] (fun l D tc b0 r h => m_X8_thrown l D tc ro b0 h) rfl rfl (Nat.le_of_ble_eq_true rfl) (by decide) (by decide) ⟨hcells.1, hcells.2⟩ dL_law_2181 ?_
  refine z_iload C dL_law_2184 5 rfl ?_
  refine y_ifT C 2191 rfl dL_law_2186 (by decide) ?_
  refine z_iload C dL_law_2191 5 rfl ?_
  have hend : zGq P Qf (some ()) 2215 [(0, .ref s), (1, .ref xC), (2, .ref xM), (3, .ref o), (4, .int i), (5, .int kk), (6, .int b)] [] h2 z (uc + 1) (us + 6) := by
    refine z_goto C 2774 dL_law_2215 (by decide) ?_
    exact z_sub [0, 1, 2, 3, 4] rfl (k z hz)
  rcases hcmp with ek | ⟨ek, hl⟩
  · refine y_ifneT C 2215 (by rw [ek]; decide) dL_law_2193 (by decide) hend
  refine y_ifneF C 2215 ek dL_law_2193 (by decide) ?_
  refine z_aload_n C dL_law_2196 3 rfl ?_
  refine z_iconst C dL_law_2197 zi_0 ?_
  refine y_laload C hl dL_law_2198 ?_
  refine z_iload C dL_law_2199 6 rfl ?_
  by_cases eb : b = 0
  · refine y_ifeqT C 2208 eb dL_law_2201 (by decide) ?_
    refine z_lconst (v := (0 : Int64)) C dL_law_2208 (by decide) ?_
    refine y_lcmp C (by rw [if_pos eb]) dL_law_2209 ?_
    exact y_ifeqT C 2215 rfl dL_law_2210 (by decide) hend
  · refine y_ifeqF C 2208 eb dL_law_2201 (by decide) ?_
    refine z_lconst (v := (1 : Int64)) C dL_law_2204 (by decide) ?_
    refine z_goto C 2209 dL_law_2205 (by decide) ?_
    refine y_lcmp C (by rw [if_neg eb]) dL_law_2209 ?_
    exact y_ifeqT C 2215 rfl dL_law_2210 (by decide) hend
set_option maxHeartbeats 4000000 in
set_option maxRecDepth 100000 in
theorem lc_38 {P : zX} {Qf : Unit → State → Prop} {ro : Nat → Nat} (C : zC P cL_law RL (some .boolean) 20 601024 7293034 7 ro) (hl0 : (match P with | (_, l, _) => l.stackTraces) = false) {s xC xM o : Nat} {i : Int32} {p1 p2 : Int32} {hp h' h1 h2 : zHp} {sz uc us : Nat} {t : Option Int32} {kk b : Int32} (e1 : ∀ h : zHp, h s = hp s → zaI h 0 s (i + 1) = some p1) (e2 : ∀ h : zHp, h s = hp s → zaI h 0 s (i + 2) = some p2) (hF : f_X7_regionVotes xC p1 p2 hp = some t) (ho : ∀ v, t = some v → zsL hp o 0 v.toInt64 = some h1) (hkk : ∀ v h z, zRw t hp h1 sz v h z → sz ≤ z ∧ v = kk ∧ h = h') (hs : h' s = hp s) (hM : f_X8_regionVotes xM p1 p2 h' = some (b, h2)) (hT : f_X8_thrown xM h2 = some kk) (hcmp : kk = 1 ∨ (kk = 0 ∧ zaL h2 2 o 0 = some b.toInt64)) (hcells : uc + 1 ≤ 601024 ∧ us + 6 ≤ 7293034) (k : ∀ z, sz ≤ z → zGq P Qf (some ()) 2774 [(0, .ref s), (1, .ref xC), (2, .ref xM), (3, .ref o), (4, .int i)] [] h2 z (uc + 1) (us + 6)) : zGq P Qf (some ()) 2218 [(0, .ref s), (1, .ref xC), (2, .ref xM), (3, .ref o), (4, .int i)] [] hp sz uc us := by
  refine z_aload_n C dL_law_2218 1 rfl ?_
  refine z_aload_n C dL_law_2219 0 rfl ?_
  refine z_iload C dL_law_2220 4 rfl ?_
  refine z_iconst C dL_law_2222 zi_1 ?_
  refine z_iadd C dL_law_2223 ?_
  refine y_iaload C (e1 _ rfl) dL_law_2224 ?_
  refine z_aload_n C dL_law_2225 0 rfl ?_
  refine z_iload C dL_law_2226 4 rfl ?_
  refine z_iconst C dL_law_2228 zi_2 ?_
  refine z_iadd C dL_law_2229 ?_
  refine y_iaload C (e2 _ rfl) dL_law_2230 ?_
  refine z_aload_n C dL_law_2231 3 rfl ?_
  refine y_callE C ze_L_247 [.ref xC, .int p1, .int p2, .ref o] (fun l D tc b0 hl => we_regionVotes l D tc ro b0 hl hF ho) hl0 rfl rfl (Nat.le_of_ble_eq_true rfl) (by decide) (by decide) hcells dL_law_2232 (fun v h z hR => ?_)
  obtain ⟨hz, hv9, hh9⟩ : sz ≤ z ∧ v = kk ∧ h = h' := hkk v h z hR; subst v; subst h
  refine z_istore (lv' := [(0, .ref s), (1, .ref xC), (2, .ref xM), (3, .ref o), (4, .int i), (5, .int kk)]) C dL_law_2235 (by decide) rfl ?_
  refine z_aload_n C dL_law_2237 2 rfl ?_
  refine z_aload_n C dL_law_2238 0 rfl ?_
  refine z_iload C dL_law_2239 4 rfl ?_
  refine z_iconst C dL_law_2241 zi_1 ?_
  refine z_iadd C dL_law_2242 ?_
  refine y_iaload C (e1 _ hs) dL_law_2243 ?_
  refine z_aload_n C dL_law_2244 0 rfl ?_
  refine z_iload C dL_law_2245 4 rfl ?_
  refine z_iconst C dL_law_2247 zi_2 ?_
  refine z_iadd C dL_law_2248 ?_
  refine y_iaload C (e2 _ hs) dL_law_2249 ?_
  refine y_callV (oc := (zoI z)) hM C zc_L_249 [.int p1, .int p2] (fun l D tc b0 r h => m_X8_regionVotes l D tc ro b0 h) rfl rfl (Nat.le_of_ble_eq_true rfl) (by decide) (by decide) ⟨hcells.1, hcells.2⟩ dL_law_2250 ?_
  refine z_istore (lv' := [(0, .ref s), (1, .ref xC), (2, .ref xM), (3, .ref o), (4, .int i), (5, .int kk), (6, .int b)]) C dL_law_2253 (by decide) rfl ?_
  refine z_aload_n C dL_law_2255 2 rfl ?_
  refine y_callV (oc := (zoP z h2)) hT C zc_L_148 [] (fun l D tc b0 r h => m_X8_thrown l D tc ro b0 h) rfl rfl (Nat.le_of_ble_eq_true rfl) (by decide) (by decide) ⟨hcells.1, hcells.2⟩ dL_law_2256 ?_
  refine z_iload C dL_law_2259 5 rfl ?_
  refine y_ifT C 2266 rfl dL_law_2261 (by decide) ?_
  refine z_iload C dL_law_2266 5 rfl ?_
  have hend : zGq P Qf (some ()) 2283 [(0, .ref s), (1, .ref xC), (2, .ref xM), (3, .ref o), (4, .int i), (5, .int kk), (6, .int b)] [] h2 z (uc + 1) (us + 6) := by
    refine z_goto C 2774 dL_law_2283 (by decide) ?_
    exact z_sub [0, 1, 2, 3, 4] rfl (k z hz)
  rcases hcmp with ek | ⟨ek, hl⟩
  · refine y_ifneT C 2283 (by rw [ek]; decide) dL_law_2268 (by decide) hend
  refine y_ifneF C 2283 ek dL_law_2268 (by decide) ?_
  refine z_aload_n C dL_law_2271 3 rfl ?_
  refine z_iconst C dL_law_2272 zi_0 ?_
  refine y_laload C hl dL_law_2273 ?_
  refine z_iload C dL_law_2274 6 rfl ?_
  refine z_i2l C dL_law_2276 ?_
  refine y_lcmp C rfl dL_law_2277 ?_
  exact y_ifeqT C 2283 rfl dL_law_2278 (by decide) hend
set_option maxHeartbeats 4000000 in
set_option maxRecDepth 100000 in
theorem lc_39 {P : zX} {Qf : Unit → State → Prop} {ro : Nat → Nat} (C : zC P cL_law RL (some .boolean) 20 601024 7293034 7 ro) (hl0 : (match P with | (_, l, _) => l.stackTraces) = false) {s xC xM o : Nat} {i : Int32} {p1 p2 : Int32} {hp h' h1 h2 : zHp} {sz uc us : Nat} {t : Option Int32} {kk b : Int32} (e1 : ∀ h : zHp, h s = hp s → zaI h 0 s (i + 1) = some p1) (e2 : ∀ h : zHp, h s = hp s → zaI h 0 s (i + 2) = some p2) (hF : f_X7_regionSeats xC p1 p2 hp = some t) (ho : ∀ v, t = some v → zsL hp o 0 v.toInt64 = some h1) (hkk : ∀ v h z, zRw t hp h1 sz v h z → sz ≤ z ∧ v = kk ∧ h = h') (hs : h' s = hp s) (hM : f_X8_regionSeats xM p1 p2 h' = some (b, h2)) (hT : f_X8_thrown xM h2 = some kk) (hcmp : kk = 1 ∨ (kk = 0 ∧ zaL h2 2 o 0 = some b.toInt64)) (hcells : uc + 1 ≤ 601024 ∧ us + 6 ≤ 7293034) (k : ∀ z, sz ≤ z → zGq P Qf (some ()) 2774 [(0, .ref s), (1, .ref xC), (2, .ref xM), (3, .ref o), (4, .int i)] [] h2 z (uc + 1) (us + 6)) : zGq P Qf (some ()) 2286 [(0, .ref s), (1, .ref xC), (2, .ref xM), (3, .ref o), (4, .int i)] [] hp sz uc us := by
  refine z_aload_n C dL_law_2286 1 rfl ?_
  refine z_aload_n C dL_law_2287 0 rfl ?_
  refine z_iload C dL_law_2288 4 rfl ?_
  refine z_iconst C dL_law_2290 zi_1 ?_
  refine z_iadd C dL_law_2291 ?_
  refine y_iaload C (e1 _ rfl) dL_law_2292 ?_
  refine z_aload_n C dL_law_2293 0 rfl ?_
  refine z_iload C dL_law_2294 4 rfl ?_
  refine z_iconst C dL_law_2296 zi_2 ?_
  refine z_iadd C dL_law_2297 ?_
  refine y_iaload C (e2 _ rfl) dL_law_2298 ?_
  refine z_aload_n C dL_law_2299 3 rfl ?_
  refine y_callE C ze_L_250 [.ref xC, .int p1, .int p2, .ref o] (fun l D tc b0 hl => we_regionSeats l D tc ro b0 hl hF ho) hl0 rfl rfl (Nat.le_of_ble_eq_true rfl) (by decide) (by decide) hcells dL_law_2300 (fun v h z hR => ?_)
  obtain ⟨hz, hv9, hh9⟩ : sz ≤ z ∧ v = kk ∧ h = h' := hkk v h z hR; subst v; subst h
  refine z_istore (lv' := [(0, .ref s), (1, .ref xC), (2, .ref xM), (3, .ref o), (4, .int i), (5, .int kk)]) C dL_law_2303 (by decide) rfl ?_
  refine z_aload_n C dL_law_2305 2 rfl ?_
  refine z_aload_n C dL_law_2306 0 rfl ?_
  refine z_iload C dL_law_2307 4 rfl ?_
  refine z_iconst C dL_law_2309 zi_1 ?_
  refine z_iadd C dL_law_2310 ?_
  refine y_iaload C (e1 _ hs) dL_law_2311 ?_
  refine z_aload_n C dL_law_2312 0 rfl ?_
  refine z_iload C dL_law_2313 4 rfl ?_
  refine z_iconst C dL_law_2315 zi_2 ?_
  refine z_iadd C dL_law_2316 ?_
  refine y_iaload C (e2 _ hs) dL_law_2317 ?_
  refine y_callV (oc := (zoI z)) hM C zc_L_252 [.int p1, .int p2] (fun l D tc b0 r h => m_X8_regionSeats l D tc ro b0 h) rfl rfl (Nat.le_of_ble_eq_true rfl) (by decide) (by decide) ⟨hcells.1, hcells.2⟩ dL_law_2318 ?_
  refine z_istore (lv' := [(0, .ref s), (1, .ref xC), (2, .ref xM), (3, .ref o), (4, .int i), (5, .int kk), (6, .int b)]) C dL_law_2321 (by decide) rfl ?_
  refine z_aload_n C dL_law_2323 2 rfl ?_
  refine y_callV (oc := (zoP z h2)) hT C zc_L_148 [] (fun l D tc b0 r h => m_X8_thrown l D tc ro b0 h) rfl rfl (Nat.le_of_ble_eq_true rfl) (by decide) (by decide) ⟨hcells.1, hcells.2⟩ dL_law_2324 ?_
  refine z_iload C dL_law_2327 5 rfl ?_
  refine y_ifT C 2334 rfl dL_law_2329 (by decide) ?_
  refine z_iload C dL_law_2334 5 rfl ?_
  have hend : zGq P Qf (some ()) 2351 [(0, .ref s), (1, .ref xC), (2, .ref xM), (3, .ref o), (4, .int i), (5, .int kk), (6, .int b)] [] h2 z (uc + 1) (us + 6) := by
    refine z_goto C 2774 dL_law_2351 (by decide) ?_
    exact z_sub [0, 1, 2, 3, 4] rfl (k z hz)
  rcases hcmp with ek | ⟨ek, hl⟩
  · refine y_ifneT C 2351 (by rw [ek]; decide) dL_law_2336 (by decide) hend
  refine y_ifneF C 2351 ek dL_law_2336 (by decide) ?_
  refine z_aload_n C dL_law_2339 3 rfl ?_
  refine z_iconst C dL_law_2340 zi_0 ?_
  refine y_laload C hl dL_law_2341 ?_
  refine z_iload C dL_law_2342 6 rfl ?_
  refine z_i2l C dL_law_2344 ?_
  refine y_lcmp C rfl dL_law_2345 ?_
  exact y_ifeqT C 2351 rfl dL_law_2346 (by decide) hend
set_option maxHeartbeats 4000000 in
set_option maxRecDepth 100000 in
theorem lc_40 {P : zX} {Qf : Unit → State → Prop} {ro : Nat → Nat} (C : zC P cL_law RL (some .boolean) 20 601024 7293034 7 ro) (hl0 : (match P with | (_, l, _) => l.stackTraces) = false) {s xC xM o : Nat} {i : Int32} {p1 : Int32} {hp h' h1 h2 : zHp} {sz uc us : Nat} {t : Option Int32} {kk b : Int32} (e1 : ∀ h : zHp, h s = hp s → zaI h 0 s (i + 1) = some p1) (hF : f_X7_isDecided xC p1 hp = some t) (ho : ∀ v, t = some v → zsL hp o 0 (if v = 0 then 0 else 1) = some h1) (hkk : ∀ v h z, zRw t hp h1 sz v h z → sz ≤ z ∧ v = kk ∧ h = h') (hs : h' s = hp s) (hM : f_X8_isDecided xM p1 h' = some (b, h2)) (hT : f_X8_thrown xM h2 = some kk) (hcmp : kk = 1 ∨ (kk = 0 ∧ zaL h2 2 o 0 = some (if b = 0 then 0 else 1))) (hcells : uc + 1 ≤ 601024 ∧ us + 6 ≤ 7293034) (k : ∀ z, sz ≤ z → zGq P Qf (some ()) 2774 [(0, .ref s), (1, .ref xC), (2, .ref xM), (3, .ref o), (4, .int i)] [] h2 z (uc + 1) (us + 6)) : zGq P Qf (some ()) 2354 [(0, .ref s), (1, .ref xC), (2, .ref xM), (3, .ref o), (4, .int i)] [] hp sz uc us := by
  refine z_aload_n C dL_law_2354 1 rfl ?_
  refine z_aload_n C dL_law_2355 0 rfl ?_
  refine z_iload C dL_law_2356 4 rfl ?_
  refine z_iconst C dL_law_2358 zi_1 ?_
  refine z_iadd C dL_law_2359 ?_
  refine y_iaload C (e1 _ rfl) dL_law_2360 ?_
  refine z_aload_n C dL_law_2361 3 rfl ?_
  refine y_callE C ze_L_253 [.ref xC, .int p1, .ref o] (fun l D tc b0 hl => we_isDecided l D tc ro b0 hl hF ho) hl0 rfl rfl (Nat.le_of_ble_eq_true rfl) (by decide) (by decide) hcells dL_law_2362 (fun v h z hR => ?_)
  obtain ⟨hz, hv9, hh9⟩ : sz ≤ z ∧ v = kk ∧ h = h' := hkk v h z hR; subst v; subst h
  refine z_istore (lv' := [(0, .ref s), (1, .ref xC), (2, .ref xM), (3, .ref o), (4, .int i), (5, .int kk)]) C dL_law_2365 (by decide) rfl ?_
  refine z_aload_n C dL_law_2367 2 rfl ?_
  refine z_aload_n C dL_law_2368 0 rfl ?_
  refine z_iload C dL_law_2369 4 rfl ?_
  refine z_iconst C dL_law_2371 zi_1 ?_
  refine z_iadd C dL_law_2372 ?_
  refine y_iaload C (e1 _ hs) dL_law_2373 ?_
  refine y_callV (oc := (zoI z)) hM C zc_L_255 [.int p1] (fun l D tc b0 r h => m_X8_isDecided l D tc ro b0 h) rfl rfl (Nat.le_of_ble_eq_true rfl) (by decide) (by decide) ⟨hcells.1, hcells.2⟩ dL_law_2374 ?_
  refine z_istore (lv' := [(0, .ref s), (1, .ref xC), (2, .ref xM), (3, .ref o), (4, .int i), (5, .int kk), (6, .int b)]) C dL_law_2377 (by decide) rfl ?_
  refine z_aload_n C dL_law_2379 2 rfl ?_
  refine y_callV (oc := (zoP z h2)) hT C zc_L_148 [] (fun l D tc b0 r h => m_X8_thrown l D tc ro b0 h) rfl rfl (Nat.le_of_ble_eq_true rfl) (by decide) (by decide) ⟨hcells.1, hcells.2⟩ dL_law_2380 ?_
  refine z_iload C dL_law_2383 5 rfl ?_
  refine y_ifT C 2390 rfl dL_law_2385 (by decide) ?_
  refine z_iload C dL_law_2390 5 rfl ?_
  have hend : zGq P Qf (some ()) 2414 [(0, .ref s), (1, .ref xC), (2, .ref xM), (3, .ref o), (4, .int i), (5, .int kk), (6, .int b)] [] h2 z (uc + 1) (us + 6) := by
    refine z_goto C 2774 dL_law_2414 (by decide) ?_
    exact z_sub [0, 1, 2, 3, 4] rfl (k z hz)
  rcases hcmp with ek | ⟨ek, hl⟩
  · refine y_ifneT C 2414 (by rw [ek]; decide) dL_law_2392 (by decide) hend
  refine y_ifneF C 2414 ek dL_law_2392 (by decide) ?_
  refine z_aload_n C dL_law_2395 3 rfl ?_
  refine z_iconst C dL_law_2396 zi_0 ?_
  refine y_laload C hl dL_law_2397 ?_
  refine z_iload C dL_law_2398 6 rfl ?_
  by_cases eb : b = 0
  · refine y_ifeqT C 2407 eb dL_law_2400 (by decide) ?_
    refine z_lconst (v := (0 : Int64)) C dL_law_2407 (by decide) ?_
    refine y_lcmp C (by rw [if_pos eb]) dL_law_2408 ?_
    exact y_ifeqT C 2414 rfl dL_law_2409 (by decide) hend
  · refine y_ifeqF C 2407 eb dL_law_2400 (by decide) ?_
    refine z_lconst (v := (1 : Int64)) C dL_law_2403 (by decide) ?_
    refine z_goto C 2408 dL_law_2404 (by decide) ?_
    refine y_lcmp C (by rw [if_neg eb]) dL_law_2408 ?_
    exact y_ifeqT C 2414 rfl dL_law_2409 (by decide) hend
set_option maxHeartbeats 4000000 in
set_option maxRecDepth 100000 in
theorem lc_41 {P : zX} {Qf : Unit → State → Prop} {ro : Nat → Nat} (C : zC P cL_law RL (some .boolean) 20 601024 7293034 7 ro) {s xC xM o : Nat} {i : Int32} {hp h2 : zHp} {sz uc us : Nat} {r1 r2 : Int32}  (hC : f_X7_misplaced xC  hp = some r1) (hM : f_X8_misplaced xM  hp = some (r2, h2)) (he : r1 = r2) (hcells : uc ≤ 601024 ∧ us ≤ 7293034) (k : zGq P Qf (some ()) 2774 [(0, .ref s), (1, .ref xC), (2, .ref xM), (3, .ref o), (4, .int i)] [] h2 sz uc us) : zGq P Qf (some ()) 2417 [(0, .ref s), (1, .ref xC), (2, .ref xM), (3, .ref o), (4, .int i)] [] hp sz uc us := by
  refine z_aload_n C dL_law_2417 1 rfl ?_
  refine y_callV (oc := (zoP sz hp)) hC C zc_L_256 [] (fun l D tc b0 r h => m_X7_misplaced l D tc ro b0 h) rfl rfl (Nat.le_of_ble_eq_true rfl) (by decide) (by decide) hcells dL_law_2418 ?_
  refine z_aload_n C dL_law_2421 2 rfl ?_
  refine y_callV (oc := (zoI sz)) hM C zc_L_259 [] (fun l D tc b0 r h => m_X8_misplaced l D tc ro b0 h) rfl rfl (Nat.le_of_ble_eq_true rfl) (by decide) (by decide) hcells dL_law_2422 ?_
  refine y_ifT C 2774 he dL_law_2425 (by decide) ?_
  exact k
set_option maxHeartbeats 4000000 in
set_option maxRecDepth 100000 in
theorem lc_42 {P : zX} {Qf : Unit → State → Prop} {ro : Nat → Nat} (C : zC P cL_law RL (some .boolean) 20 601024 7293034 7 ro) {s xC xM o : Nat} {i : Int32} {hp h2 : zHp} {sz uc us : Nat} {r1 r2 : Int32}  (hC : f_X7_worstTable xC  hp = some r1) (hM : f_X8_worstTable xM  hp = some (r2, h2)) (he : r1 = r2) (hcells : uc ≤ 601024 ∧ us ≤ 7293034) (k : zGq P Qf (some ()) 2774 [(0, .ref s), (1, .ref xC), (2, .ref xM), (3, .ref o), (4, .int i)] [] h2 sz uc us) : zGq P Qf (some ()) 2430 [(0, .ref s), (1, .ref xC), (2, .ref xM), (3, .ref o), (4, .int i)] [] hp sz uc us := by
  refine z_aload_n C dL_law_2430 1 rfl ?_
  refine y_callV (oc := (zoP sz hp)) hC C zc_L_260 [] (fun l D tc b0 r h => m_X7_worstTable l D tc ro b0 h) rfl rfl (Nat.le_of_ble_eq_true rfl) (by decide) (by decide) hcells dL_law_2431 ?_
  refine z_aload_n C dL_law_2434 2 rfl ?_
  refine y_callV (oc := (zoI sz)) hM C zc_L_263 [] (fun l D tc b0 r h => m_X8_worstTable l D tc ro b0 h) rfl rfl (Nat.le_of_ble_eq_true rfl) (by decide) (by decide) hcells dL_law_2435 ?_
  refine y_ifT C 2774 he dL_law_2438 (by decide) ?_
  exact k
set_option maxHeartbeats 4000000 in
set_option maxRecDepth 100000 in
theorem lc_43 {P : zX} {Qf : Unit → State → Prop} {ro : Nat → Nat} (C : zC P cL_law RL (some .boolean) 20 601024 7293034 7 ro) {s xC xM o : Nat} {i : Int32} {p1 : Int32} {hp h1 h2 : zHp} {sz uc us : Nat} {r1 r2 : Int32} (e1 : ∀ h : zHp, h s = hp s → zaI h 0 s (i + 1) = some p1) (hC : f_X7_bring xC p1 hp = some (r1, h1)) (hM : f_X8_bring xM p1 h1 = some (r2, h2)) (hs : h1 s = hp s) (he : r1 = r2) (hcells : uc ≤ 601024 ∧ us ≤ 7293034) (k : zGq P Qf (some ()) 2774 [(0, .ref s), (1, .ref xC), (2, .ref xM), (3, .ref o), (4, .int i)] [] h2 sz uc us) : zGq P Qf (some ()) 2443 [(0, .ref s), (1, .ref xC), (2, .ref xM), (3, .ref o), (4, .int i)] [] hp sz uc us := by
  refine z_aload_n C dL_law_2443 1 rfl ?_
  refine z_aload_n C dL_law_2444 0 rfl ?_
  refine z_iload C dL_law_2445 4 rfl ?_
  refine z_iconst C dL_law_2447 zi_1 ?_
  refine z_iadd C dL_law_2448 ?_
  refine y_iaload C (e1 _ rfl) dL_law_2449 ?_
  refine y_callV (oc := (zoI sz)) hC C zc_L_264 [.int p1] (fun l D tc b0 r h => m_X7_bring l D tc ro b0 h) rfl rfl (Nat.le_of_ble_eq_true rfl) (by decide) (by decide) hcells dL_law_2450 ?_
  refine z_aload_n C dL_law_2453 2 rfl ?_
  refine z_aload_n C dL_law_2454 0 rfl ?_
  refine z_iload C dL_law_2455 4 rfl ?_
  refine z_iconst C dL_law_2457 zi_1 ?_
  refine z_iadd C dL_law_2458 ?_
  refine y_iaload C (e1 _ hs) dL_law_2459 ?_
  refine y_callV (oc := (zoI sz)) hM C zc_L_267 [.int p1] (fun l D tc b0 r h => m_X8_bring l D tc ro b0 h) rfl rfl (Nat.le_of_ble_eq_true rfl) (by decide) (by decide) hcells dL_law_2460 ?_
  refine y_ifT C 2774 he dL_law_2463 (by decide) ?_
  exact k
set_option maxHeartbeats 4000000 in
set_option maxRecDepth 100000 in
theorem lc_44 {P : zX} {Qf : Unit → State → Prop} {ro : Nat → Nat} (C : zC P cL_law RL (some .boolean) 20 601024 7293034 7 ro) {s xC xM o : Nat} {i : Int32} {p1 p2 : Int32} {hp h1 h2 : zHp} {sz uc us : Nat} {r1 r2 : Int32} (e1 : ∀ h : zHp, h s = hp s → zaI h 0 s (i + 1) = some p1) (e2 : ∀ h : zHp, h s = hp s → zaI h 0 s (i + 2) = some p2) (hC : f_X7_open xC p1 p2 hp = some (r1, h1)) (hM : f_X8_open xM p1 p2 h1 = some (r2, h2)) (hs : h1 s = hp s) (he : r1 = r2) (hcells : uc ≤ 601024 ∧ us ≤ 7293034) (k : zGq P Qf (some ()) 2774 [(0, .ref s), (1, .ref xC), (2, .ref xM), (3, .ref o), (4, .int i)] [] h2 sz uc us) : zGq P Qf (some ()) 2468 [(0, .ref s), (1, .ref xC), (2, .ref xM), (3, .ref o), (4, .int i)] [] hp sz uc us := by
  refine z_aload_n C dL_law_2468 1 rfl ?_
  refine z_aload_n C dL_law_2469 0 rfl ?_
  refine z_iload C dL_law_2470 4 rfl ?_
  refine z_iconst C dL_law_2472 zi_1 ?_
  refine z_iadd C dL_law_2473 ?_
  refine y_iaload C (e1 _ rfl) dL_law_2474 ?_
  refine z_aload_n C dL_law_2475 0 rfl ?_
  refine z_iload C dL_law_2476 4 rfl ?_
  refine z_iconst C dL_law_2478 zi_2 ?_
  refine z_iadd C dL_law_2479 ?_
  refine y_iaload C (e2 _ rfl) dL_law_2480 ?_
  refine y_callV (oc := (zoI sz)) hC C zc_L_268 [.int p1, .int p2] (fun l D tc b0 r h => m_X7_open l D tc ro b0 h) rfl rfl (Nat.le_of_ble_eq_true rfl) (by decide) (by decide) hcells dL_law_2481 ?_
  refine z_aload_n C dL_law_2484 2 rfl ?_
  refine z_aload_n C dL_law_2485 0 rfl ?_
  refine z_iload C dL_law_2486 4 rfl ?_
  refine z_iconst C dL_law_2488 zi_1 ?_
  refine z_iadd C dL_law_2489 ?_
  refine y_iaload C (e1 _ hs) dL_law_2490 ?_
  refine z_aload_n C dL_law_2491 0 rfl ?_
  refine z_iload C dL_law_2492 4 rfl ?_
  refine z_iconst C dL_law_2494 zi_2 ?_
  refine z_iadd C dL_law_2495 ?_
  refine y_iaload C (e2 _ hs) dL_law_2496 ?_
  refine y_callV (oc := (zoI sz)) hM C zc_L_271 [.int p1, .int p2] (fun l D tc b0 r h => m_X8_open l D tc ro b0 h) rfl rfl (Nat.le_of_ble_eq_true rfl) (by decide) (by decide) hcells dL_law_2497 ?_
  refine y_ifT C 2774 he dL_law_2500 (by decide) ?_
  exact k
set_option maxHeartbeats 4000000 in
set_option maxRecDepth 100000 in
theorem lc_45 {P : zX} {Qf : Unit → State → Prop} {ro : Nat → Nat} (C : zC P cL_law RL (some .boolean) 20 601024 7293034 7 ro) {s xC xM o : Nat} {i : Int32} {p1 : Int32} {hp h1 h2 : zHp} {sz uc us : Nat} {r1 r2 : Int32} (e1 : ∀ h : zHp, h s = hp s → zaI h 0 s (i + 1) = some p1) (hC : f_X7_countBox xC p1 hp = some (r1, h1)) (hM : f_X8_countBox xM p1 h1 = some (r2, h2)) (hs : h1 s = hp s) (he : r1 = r2) (hcells : uc ≤ 601024 ∧ us ≤ 7293034) (k : zGq P Qf (some ()) 2774 [(0, .ref s), (1, .ref xC), (2, .ref xM), (3, .ref o), (4, .int i)] [] h2 sz uc us) : zGq P Qf (some ()) 2505 [(0, .ref s), (1, .ref xC), (2, .ref xM), (3, .ref o), (4, .int i)] [] hp sz uc us := by
  refine z_aload_n C dL_law_2505 1 rfl ?_
  refine z_aload_n C dL_law_2506 0 rfl ?_
  refine z_iload C dL_law_2507 4 rfl ?_
  refine z_iconst C dL_law_2509 zi_1 ?_
  refine z_iadd C dL_law_2510 ?_
  refine y_iaload C (e1 _ rfl) dL_law_2511 ?_
  refine y_callV (oc := (zoI sz)) hC C zc_L_272 [.int p1] (fun l D tc b0 r h => m_X7_countBox l D tc ro b0 h) rfl rfl (Nat.le_of_ble_eq_true rfl) (by decide) (by decide) hcells dL_law_2512 ?_
  refine z_aload_n C dL_law_2515 2 rfl ?_
  refine z_aload_n C dL_law_2516 0 rfl ?_
  refine z_iload C dL_law_2517 4 rfl ?_
  refine z_iconst C dL_law_2519 zi_1 ?_
  refine z_iadd C dL_law_2520 ?_
  refine y_iaload C (e1 _ hs) dL_law_2521 ?_
  refine y_callV (oc := (zoI sz)) hM C zc_L_275 [.int p1] (fun l D tc b0 r h => m_X8_countBox l D tc ro b0 h) rfl rfl (Nat.le_of_ble_eq_true rfl) (by decide) (by decide) hcells dL_law_2522 ?_
  refine y_ifT C 2774 he dL_law_2525 (by decide) ?_
  exact k
set_option maxHeartbeats 4000000 in
set_option maxRecDepth 100000 in
theorem lc_46 {P : zX} {Qf : Unit → State → Prop} {ro : Nat → Nat} (C : zC P cL_law RL (some .boolean) 20 601024 7293034 7 ro) {s xC xM o : Nat} {i : Int32} {p1 : Int32} {hp h1 h2 : zHp} {sz uc us : Nat} {r1 r2 : Int32} (e1 : ∀ h : zHp, h s = hp s → zaI h 0 s (i + 1) = some p1) (hC : f_X7_seal xC p1 hp = some (r1, h1)) (hM : f_X8_seal xM p1 h1 = some (r2, h2)) (hs : h1 s = hp s) (he : r1 = r2) (hcells : uc ≤ 601024 ∧ us ≤ 7293034) (k : zGq P Qf (some ()) 2774 [(0, .ref s), (1, .ref xC), (2, .ref xM), (3, .ref o), (4, .int i)] [] h2 sz uc us) : zGq P Qf (some ()) 2530 [(0, .ref s), (1, .ref xC), (2, .ref xM), (3, .ref o), (4, .int i)] [] hp sz uc us := by
  refine z_aload_n C dL_law_2530 1 rfl ?_
  refine z_aload_n C dL_law_2531 0 rfl ?_
  refine z_iload C dL_law_2532 4 rfl ?_
  refine z_iconst C dL_law_2534 zi_1 ?_
  refine z_iadd C dL_law_2535 ?_
  refine y_iaload C (e1 _ rfl) dL_law_2536 ?_
  refine y_callV (oc := (zoI sz)) hC C zc_L_276 [.int p1] (fun l D tc b0 r h => m_X7_seal l D tc ro b0 h) rfl rfl (Nat.le_of_ble_eq_true rfl) (by decide) (by decide) hcells dL_law_2537 ?_
  refine z_aload_n C dL_law_2540 2 rfl ?_
  refine z_aload_n C dL_law_2541 0 rfl ?_
  refine z_iload C dL_law_2542 4 rfl ?_
  refine z_iconst C dL_law_2544 zi_1 ?_
  refine z_iadd C dL_law_2545 ?_
  refine y_iaload C (e1 _ hs) dL_law_2546 ?_
  refine y_callV (oc := (zoI sz)) hM C zc_L_279 [.int p1] (fun l D tc b0 r h => m_X8_seal l D tc ro b0 h) rfl rfl (Nat.le_of_ble_eq_true rfl) (by decide) (by decide) hcells dL_law_2547 ?_
  refine y_ifT C 2774 he dL_law_2550 (by decide) ?_
  exact k
set_option maxHeartbeats 4000000 in
set_option maxRecDepth 100000 in
theorem lc_47 {P : zX} {Qf : Unit → State → Prop} {ro : Nat → Nat} (C : zC P cL_law RL (some .boolean) 20 601024 7293034 7 ro) {s xC xM o : Nat} {i : Int32} {p1 p2 : Int32} {hp h1 h2 : zHp} {sz uc us : Nat} {r1 r2 : Int32} (e1 : ∀ h : zHp, h s = hp s → zaI h 0 s (i + 1) = some p1) (e2 : ∀ h : zHp, h s = hp s → zaI h 0 s (i + 2) = some p2) (hC : f_X7_tamper xC p1 p2 hp = some (r1, h1)) (hM : f_X8_tamper xM p1 p2 h1 = some (r2, h2)) (hs : h1 s = hp s) (he : r1 = r2) (hcells : uc ≤ 601024 ∧ us ≤ 7293034) (k : zGq P Qf (some ()) 2774 [(0, .ref s), (1, .ref xC), (2, .ref xM), (3, .ref o), (4, .int i)] [] h2 sz uc us) : zGq P Qf (some ()) 2555 [(0, .ref s), (1, .ref xC), (2, .ref xM), (3, .ref o), (4, .int i)] [] hp sz uc us := by
  refine z_aload_n C dL_law_2555 1 rfl ?_
  refine z_aload_n C dL_law_2556 0 rfl ?_
  refine z_iload C dL_law_2557 4 rfl ?_
  refine z_iconst C dL_law_2559 zi_1 ?_
  refine z_iadd C dL_law_2560 ?_
  refine y_iaload C (e1 _ rfl) dL_law_2561 ?_
  refine z_aload_n C dL_law_2562 0 rfl ?_
  refine z_iload C dL_law_2563 4 rfl ?_
  refine z_iconst C dL_law_2565 zi_2 ?_
  refine z_iadd C dL_law_2566 ?_
  refine y_iaload C (e2 _ rfl) dL_law_2567 ?_
  refine y_callV (oc := (zoI sz)) hC C zc_L_280 [.int p1, .int p2] (fun l D tc b0 r h => m_X7_tamper l D tc ro b0 h) rfl rfl (Nat.le_of_ble_eq_true rfl) (by decide) (by decide) hcells dL_law_2568 ?_
  refine z_aload_n C dL_law_2571 2 rfl ?_
  refine z_aload_n C dL_law_2572 0 rfl ?_
  refine z_iload C dL_law_2573 4 rfl ?_
  refine z_iconst C dL_law_2575 zi_1 ?_
  refine z_iadd C dL_law_2576 ?_
  refine y_iaload C (e1 _ hs) dL_law_2577 ?_
  refine z_aload_n C dL_law_2578 0 rfl ?_
  refine z_iload C dL_law_2579 4 rfl ?_
  refine z_iconst C dL_law_2581 zi_2 ?_
  refine z_iadd C dL_law_2582 ?_
  refine y_iaload C (e2 _ hs) dL_law_2583 ?_
  refine y_callV (oc := (zoI sz)) hM C zc_L_283 [.int p1, .int p2] (fun l D tc b0 r h => m_X8_tamper l D tc ro b0 h) rfl rfl (Nat.le_of_ble_eq_true rfl) (by decide) (by decide) hcells dL_law_2584 ?_
  refine y_ifT C 2774 he dL_law_2587 (by decide) ?_
  exact k
set_option maxHeartbeats 4000000 in
set_option maxRecDepth 100000 in
theorem lc_48 {P : zX} {Qf : Unit → State → Prop} {ro : Nat → Nat} (C : zC P cL_law RL (some .boolean) 20 601024 7293034 7 ro) {s xC xM o : Nat} {i : Int32} {p1 : Int32} {hp h1 h2 : zHp} {sz uc us : Nat} {r1 r2 : Int32} (e1 : ∀ h : zHp, h s = hp s → zaI h 0 s (i + 1) = some p1) (hC : f_X7_accept xC p1 hp = some (r1, h1)) (hM : f_X8_accept xM p1 h1 = some (r2, h2)) (hs : h1 s = hp s) (he : r1 = r2) (hcells : uc ≤ 601024 ∧ us ≤ 7293034) (k : zGq P Qf (some ()) 2774 [(0, .ref s), (1, .ref xC), (2, .ref xM), (3, .ref o), (4, .int i)] [] h2 sz uc us) : zGq P Qf (some ()) 2592 [(0, .ref s), (1, .ref xC), (2, .ref xM), (3, .ref o), (4, .int i)] [] hp sz uc us := by
  refine z_aload_n C dL_law_2592 1 rfl ?_
  refine z_aload_n C dL_law_2593 0 rfl ?_
  refine z_iload C dL_law_2594 4 rfl ?_
  refine z_iconst C dL_law_2596 zi_1 ?_
  refine z_iadd C dL_law_2597 ?_
  refine y_iaload C (e1 _ rfl) dL_law_2598 ?_
  refine y_callV (oc := (zoI sz)) hC C zc_L_284 [.int p1] (fun l D tc b0 r h => m_X7_accept l D tc ro b0 h) rfl rfl (Nat.le_of_ble_eq_true rfl) (by decide) (by decide) hcells dL_law_2599 ?_
  refine z_aload_n C dL_law_2602 2 rfl ?_
  refine z_aload_n C dL_law_2603 0 rfl ?_
  refine z_iload C dL_law_2604 4 rfl ?_
  refine z_iconst C dL_law_2606 zi_1 ?_
  refine z_iadd C dL_law_2607 ?_
  refine y_iaload C (e1 _ hs) dL_law_2608 ?_
  refine y_callV (oc := (zoI sz)) hM C zc_L_287 [.int p1] (fun l D tc b0 r h => m_X8_accept l D tc ro b0 h) rfl rfl (Nat.le_of_ble_eq_true rfl) (by decide) (by decide) hcells dL_law_2609 ?_
  refine y_ifT C 2774 he dL_law_2612 (by decide) ?_
  exact k
set_option maxHeartbeats 4000000 in
set_option maxRecDepth 100000 in
theorem lc_49 {P : zX} {Qf : Unit → State → Prop} {ro : Nat → Nat} (C : zC P cL_law RL (some .boolean) 20 601024 7293034 7 ro) {s xC xM o : Nat} {i : Int32} {hp h1 h2 : zHp} {sz uc us : Nat} {r1 r2 : Int32}  (hC : f_X7_declare xC  hp = some (r1, h1)) (hM : f_X8_declare xM  h1 = some (r2, h2)) (hs : h1 s = hp s) (he : r1 = r2) (hcells : uc ≤ 601024 ∧ us ≤ 7293034) (k : zGq P Qf (some ()) 2774 [(0, .ref s), (1, .ref xC), (2, .ref xM), (3, .ref o), (4, .int i)] [] h2 sz uc us) : zGq P Qf (some ()) 2617 [(0, .ref s), (1, .ref xC), (2, .ref xM), (3, .ref o), (4, .int i)] [] hp sz uc us := by
  refine z_aload_n C dL_law_2617 1 rfl ?_
  refine y_callV (oc := (zoI sz)) hC C zc_L_288 [] (fun l D tc b0 r h => m_X7_declare l D tc ro b0 h) rfl rfl (Nat.le_of_ble_eq_true rfl) (by decide) (by decide) hcells dL_law_2618 ?_
  refine z_aload_n C dL_law_2621 2 rfl ?_
  refine y_callV (oc := (zoI sz)) hM C zc_L_291 [] (fun l D tc b0 r h => m_X8_declare l D tc ro b0 h) rfl rfl (Nat.le_of_ble_eq_true rfl) (by decide) (by decide) hcells dL_law_2622 ?_
  refine y_ifT C 2774 he dL_law_2625 (by decide) ?_
  exact k
set_option maxHeartbeats 4000000 in
set_option maxRecDepth 100000 in
theorem lc_50 {P : zX} {Qf : Unit → State → Prop} {ro : Nat → Nat} (C : zC P cL_law RL (some .boolean) 20 601024 7293034 7 ro) {s xC xM o : Nat} {i : Int32} {hp h1 h2 : zHp} {sz uc us : Nat} {r1 r2 : Int32}  (hC : f_X7_work xC  hp = some (r1, h1)) (hM : f_X8_work xM  h1 = some (r2, h2)) (hs : h1 s = hp s) (he : r1 = r2) (hcells : uc ≤ 601024 ∧ us ≤ 7293034) (k : zGq P Qf (some ()) 2774 [(0, .ref s), (1, .ref xC), (2, .ref xM), (3, .ref o), (4, .int i)] [] h2 sz uc us) : zGq P Qf (some ()) 2630 [(0, .ref s), (1, .ref xC), (2, .ref xM), (3, .ref o), (4, .int i)] [] hp sz uc us := by
  refine z_aload_n C dL_law_2630 1 rfl ?_
  refine y_callV (oc := (zoI sz)) hC C zc_L_292 [] (fun l D tc b0 r h => m_X7_work l D tc ro b0 h) rfl rfl (Nat.le_of_ble_eq_true rfl) (by decide) (by decide) hcells dL_law_2631 ?_
  refine z_aload_n C dL_law_2634 2 rfl ?_
  refine y_callV (oc := (zoI sz)) hM C zc_L_295 [] (fun l D tc b0 r h => m_X8_work l D tc ro b0 h) rfl rfl (Nat.le_of_ble_eq_true rfl) (by decide) (by decide) hcells dL_law_2635 ?_
  refine y_ifT C 2774 he dL_law_2638 (by decide) ?_
  exact k
set_option maxHeartbeats 4000000 in
set_option maxRecDepth 100000 in
theorem lc_51 {P : zX} {Qf : Unit → State → Prop} {ro : Nat → Nat} (C : zC P cL_law RL (some .boolean) 20 601024 7293034 7 ro) {s xC xM o : Nat} {i : Int32} {p1 p2 : Int32} {hp h1 h2 : zHp} {sz uc us : Nat} {r1 r2 : Int32} (e1 : ∀ h : zHp, h s = hp s → zaI h 0 s (i + 1) = some p1) (e2 : ∀ h : zHp, h s = hp s → zaI h 0 s (i + 2) = some p2) (hC : f_X7_setSetting xC p1 p2 hp = some (r1, h1)) (hM : f_X8_setSetting xM p1 p2 h1 = some (r2, h2)) (hs : h1 s = hp s) (he : r1 = r2) (hcells : uc ≤ 601024 ∧ us ≤ 7293034) (k : zGq P Qf (some ()) 2774 [(0, .ref s), (1, .ref xC), (2, .ref xM), (3, .ref o), (4, .int i)] [] h2 sz uc us) : zGq P Qf (some ()) 2643 [(0, .ref s), (1, .ref xC), (2, .ref xM), (3, .ref o), (4, .int i)] [] hp sz uc us := by
  refine z_aload_n C dL_law_2643 1 rfl ?_
  refine z_aload_n C dL_law_2644 0 rfl ?_
  refine z_iload C dL_law_2645 4 rfl ?_
  refine z_iconst C dL_law_2647 zi_1 ?_
  refine z_iadd C dL_law_2648 ?_
  refine y_iaload C (e1 _ rfl) dL_law_2649 ?_
  refine z_aload_n C dL_law_2650 0 rfl ?_
  refine z_iload C dL_law_2651 4 rfl ?_
  refine z_iconst C dL_law_2653 zi_2 ?_
  refine z_iadd C dL_law_2654 ?_
  refine y_iaload C (e2 _ rfl) dL_law_2655 ?_
  refine y_callV (oc := (zoI sz)) hC C zc_L_296 [.int p1, .int p2] (fun l D tc b0 r h => m_X7_setSetting l D tc ro b0 h) rfl rfl (Nat.le_of_ble_eq_true rfl) (by decide) (by decide) hcells dL_law_2656 ?_
  refine z_aload_n C dL_law_2659 2 rfl ?_
  refine z_aload_n C dL_law_2660 0 rfl ?_
  refine z_iload C dL_law_2661 4 rfl ?_
  refine z_iconst C dL_law_2663 zi_1 ?_
  refine z_iadd C dL_law_2664 ?_
  refine y_iaload C (e1 _ hs) dL_law_2665 ?_
  refine z_aload_n C dL_law_2666 0 rfl ?_
  refine z_iload C dL_law_2667 4 rfl ?_
  refine z_iconst C dL_law_2669 zi_2 ?_
  refine z_iadd C dL_law_2670 ?_
  refine y_iaload C (e2 _ hs) dL_law_2671 ?_
  refine y_callV (oc := (zoI sz)) hM C zc_L_299 [.int p1, .int p2] (fun l D tc b0 r h => m_X8_setSetting l D tc ro b0 h) rfl rfl (Nat.le_of_ble_eq_true rfl) (by decide) (by decide) hcells dL_law_2672 ?_
  refine y_ifT C 2774 he dL_law_2675 (by decide) ?_
  exact k
set_option maxHeartbeats 4000000 in
set_option maxRecDepth 100000 in
theorem lc_52 {P : zX} {Qf : Unit → State → Prop} {ro : Nat → Nat} (C : zC P cL_law RL (some .boolean) 20 601024 7293034 7 ro) {s xC xM o : Nat} {i : Int32} {hp h1 h2 : zHp} {sz uc us : Nat} {r1 r2 : Int32}  (hC : f_X7_undo xC  hp = some (r1, h1)) (hM : f_X8_undo xM  h1 = some (r2, h2)) (hs : h1 s = hp s) (he : r1 = r2) (hcells : uc ≤ 601024 ∧ us ≤ 7293034) (k : zGq P Qf (some ()) 2774 [(0, .ref s), (1, .ref xC), (2, .ref xM), (3, .ref o), (4, .int i)] [] h2 sz uc us) : zGq P Qf (some ()) 2680 [(0, .ref s), (1, .ref xC), (2, .ref xM), (3, .ref o), (4, .int i)] [] hp sz uc us := by
  refine z_aload_n C dL_law_2680 1 rfl ?_
  refine y_callV (oc := (zoI sz)) hC C zc_L_300 [] (fun l D tc b0 r h => m_X7_undo l D tc ro b0 h) rfl rfl (Nat.le_of_ble_eq_true rfl) (by decide) (by decide) hcells dL_law_2681 ?_
  refine z_aload_n C dL_law_2684 2 rfl ?_
  refine y_callV (oc := (zoI sz)) hM C zc_L_303 [] (fun l D tc b0 r h => m_X8_undo l D tc ro b0 h) rfl rfl (Nat.le_of_ble_eq_true rfl) (by decide) (by decide) hcells dL_law_2685 ?_
  refine y_ifT C 2774 he dL_law_2688 (by decide) ?_
  exact k
set_option maxHeartbeats 4000000 in
set_option maxRecDepth 100000 in
theorem lc_53 {P : zX} {Qf : Unit → State → Prop} {ro : Nat → Nat} (C : zC P cL_law RL (some .boolean) 20 601024 7293034 7 ro) (hl0 : (match P with | (_, l, _) => l.stackTraces) = false) {s xC xM o : Nat} {i : Int32} {p1 : Int32} {hp h' h1 h2 : zHp} {mc ms sz uc us : Nat} {t : Option (Int32 × zHp × Nat)} {kk b : Int32} (e1 : ∀ h : zHp, h s = hp s → zaI h 0 s (i + 1) = some p1) (hF : f_X7_write ro mc ms xC p1 hp sz = some t) (ho : ∀ v, t = some v → zsL v.2.1 o 0 v.1.toInt64 = some h1) (hz0 : ∀ v : Int32 × zHp × Nat, t = some v → sz ≤ v.2.2) (hkk : ∀ v h z, zRww t hp h1 sz v h z → sz ≤ z ∧ v = kk ∧ h = h') (hs : h' s = hp s) (hM : f_X8_write xM p1 h' = some (b, h2)) (hT : f_X8_thrown xM h2 = some kk) (hcmp : kk = 1 ∨ (kk = 0 ∧ zaL h2 2 o 0 = some b.toInt64)) (hcells : uc + mc ≤ 601024 ∧ us + ms ≤ 7293034) (k : ∀ z, sz ≤ z → zGq P Qf (some ()) 2774 [(0, .ref s), (1, .ref xC), (2, .ref xM), (3, .ref o), (4, .int i)] [] h2 z (uc + mc) (us + ms)) : zGq P Qf (some ()) 2693 [(0, .ref s), (1, .ref xC), (2, .ref xM), (3, .ref o), (4, .int i)] [] hp sz uc us := by
  refine z_aload_n C dL_law_2693 1 rfl ?_
  refine z_aload_n C dL_law_2694 0 rfl ?_
  refine z_iload C dL_law_2695 4 rfl ?_
  refine z_iconst C dL_law_2697 zi_1 ?_
  refine z_iadd C dL_law_2698 ?_
  refine y_iaload C (e1 _ rfl) dL_law_2699 ?_
  refine z_aload_n C dL_law_2700 3 rfl ?_
  refine y_callE C ze_L_304 [.ref xC, .int p1, .ref o] (fun l D tc b0 hl => we_write l D tc ro b0 hl hF ho hz0) hl0 rfl rfl (Nat.le_of_ble_eq_true rfl) (by decide) (by decide) hcells dL_law_2701 (fun v h z hR => ?_)
  obtain ⟨hz, hv9, hh9⟩ : sz ≤ z ∧ v = kk ∧ h = h' := hkk v h z hR; subst v; subst h
  refine z_istore (lv' := [(0, .ref s), (1, .ref xC), (2, .ref xM), (3, .ref o), (4, .int i), (5, .int kk)]) C dL_law_2704 (by decide) rfl ?_
  refine z_aload_n C dL_law_2706 2 rfl ?_
  refine z_aload_n C dL_law_2707 0 rfl ?_
  refine z_iload C dL_law_2708 4 rfl ?_
  refine z_iconst C dL_law_2710 zi_1 ?_
  refine z_iadd C dL_law_2711 ?_
  refine y_iaload C (e1 _ hs) dL_law_2712 ?_
  refine y_callV (oc := (zoI z)) hM C zc_L_306 [.int p1] (fun l D tc b0 r h => m_X8_write l D tc ro b0 h) rfl rfl (Nat.le_of_ble_eq_true rfl) (by decide) (by decide) ⟨hcells.1, hcells.2⟩ dL_law_2713 ?_
  refine z_istore (lv' := [(0, .ref s), (1, .ref xC), (2, .ref xM), (3, .ref o), (4, .int i), (5, .int kk), (6, .int b)]) C dL_law_2716 (by decide) rfl ?_
  refine z_aload_n C dL_law_2718 2 rfl ?_
  refine y_callV (oc := (zoP z h2)) hT C zc_L_148 [] (fun l D tc b0 r h => m_X8_thrown l D tc ro b0 h) rfl rfl (Nat.le_of_ble_eq_true rfl) (by decide) (by decide) ⟨hcells.1, hcells.2⟩ dL_law_2719 ?_
  refine z_iload C dL_law_2722 5 rfl ?_
  refine y_ifT C 2729 rfl dL_law_2724 (by decide) ?_
  refine z_iload C dL_law_2729 5 rfl ?_
  have hend : zGq P Qf (some ()) 2746 [(0, .ref s), (1, .ref xC), (2, .ref xM), (3, .ref o), (4, .int i), (5, .int kk), (6, .int b)] [] h2 z (uc + mc) (us + ms) := by
    refine z_goto C 2774 dL_law_2746 (by decide) ?_
    exact z_sub [0, 1, 2, 3, 4] rfl (k z hz)
  rcases hcmp with ek | ⟨ek, hl⟩
  · refine y_ifneT C 2746 (by rw [ek]; decide) dL_law_2731 (by decide) hend
  refine y_ifneF C 2746 ek dL_law_2731 (by decide) ?_
  refine z_aload_n C dL_law_2734 3 rfl ?_
  refine z_iconst C dL_law_2735 zi_0 ?_
  refine y_laload C hl dL_law_2736 ?_
  refine z_iload C dL_law_2737 6 rfl ?_
  refine z_i2l C dL_law_2739 ?_
  refine y_lcmp C rfl dL_law_2740 ?_
  exact y_ifeqT C 2746 rfl dL_law_2741 (by decide) hend
set_option maxHeartbeats 4000000 in
set_option maxRecDepth 100000 in
theorem lc_54 {P : zX} {Qf : Unit → State → Prop} {ro : Nat → Nat} (C : zC P cL_law RL (some .boolean) 20 601024 7293034 7 ro) {s xC xM o : Nat} {i : Int32} {p1 : Int32} {hp h2 : zHp} {sz uc us : Nat} {r1 r2 : Int32} (e1 : ∀ h : zHp, h s = hp s → zaI h 0 s (i + 1) = some p1) (hC : f_X7_outputAt xC p1 hp = some r1) (hM : f_X8_outputAt xM p1 hp = some (r2, h2)) (he : r1 = r2) (hcells : uc ≤ 601024 ∧ us ≤ 7293034) (k : zGq P Qf (some ()) 2774 [(0, .ref s), (1, .ref xC), (2, .ref xM), (3, .ref o), (4, .int i)] [] h2 sz uc us) : zGq P Qf (some ()) 2749 [(0, .ref s), (1, .ref xC), (2, .ref xM), (3, .ref o), (4, .int i)] [] hp sz uc us := by
  refine z_aload_n C dL_law_2749 1 rfl ?_
  refine z_aload_n C dL_law_2750 0 rfl ?_
  refine z_iload C dL_law_2751 4 rfl ?_
  refine z_iconst C dL_law_2753 zi_1 ?_
  refine z_iadd C dL_law_2754 ?_
  refine y_iaload C (e1 _ rfl) dL_law_2755 ?_
  refine y_callV (oc := (zoP sz hp)) hC C zc_L_307 [.int p1] (fun l D tc b0 r h => m_X7_outputAt l D tc ro b0 h) rfl rfl (Nat.le_of_ble_eq_true rfl) (by decide) (by decide) hcells dL_law_2756 ?_
  refine z_aload_n C dL_law_2759 2 rfl ?_
  refine z_aload_n C dL_law_2760 0 rfl ?_
  refine z_iload C dL_law_2761 4 rfl ?_
  refine z_iconst C dL_law_2763 zi_1 ?_
  refine z_iadd C dL_law_2764 ?_
  refine y_iaload C (e1 _ rfl) dL_law_2765 ?_
  refine y_callV (oc := (zoI sz)) hM C zc_L_310 [.int p1] (fun l D tc b0 r h => m_X8_outputAt l D tc ro b0 h) rfl rfl (Nat.le_of_ble_eq_true rfl) (by decide) (by decide) hcells dL_law_2766 ?_
  refine y_ifT C 2774 he dL_law_2769 (by decide) ?_
  exact k
