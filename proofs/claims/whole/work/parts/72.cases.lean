/-! The law: the cases of its switch. -/
set_option maxHeartbeats 4000000 in
set_option maxRecDepth 100000 in
theorem law_addPump {p : Program} {l : Launch} {e : Env} {s : State} {m : MethodId} {args : Array Value} {below : List Frame} {meth : Method} {c : Code} {H : Heap} {locs : List Loc} {cells slots : Nat} {Q : State → Prop} {G : wG} {ls : Array Slot} {b L i B : Nat} {xs : Nat → Int32} {hv : HV} (C0 : cx p s m args meth c "RamStationLaw" code 4 G) (hX : va_X b L xs s s.heap) (hbl : b < s.heap.size) (hi : i + 6 ≤ L) (hL : L ≤ 3072) (hB : B + 65000 < 2 ^ 31) (hRel : Rel B hv) (hW : wd G (lA s) hv H) (hS : va_S (lA s) s.heap H locs) (hl : lv_has ls 4 [(0, .ref b), (1, .ref (ad G 8 0)), (2, .ref (ad G 9 0)), (3, .int (nI i))]) (hcs : cells + 7 ≤ room_1.cells ∧ slots + 82 ≤ room_1.slots) (hO : iAO s)
    (next : ∀ (G' : wG) (hv' : HV) (H1 : Heap) (locs1 : List Loc), G'.1 = G.1 → G'.2.1 = G.2.1 → ad G' 8 0 = ad G 8 0 → ad G' 9 0 = ad G 9 0 → Rel (B + 64000) hv' → wd G' (lA s) hv' H1 → va_S (lA s) s.heap H1 locs1 → W p l e room_1 s m args below meth c H1 locs1 (cells + 7) (slots + 82) Q (F0 m 1309 ls [])) : W p l e room_1 s m args below meth c H locs cells slots Q (F0 m 228 ls []) := by
  have hx := C0.1
  have hb := C0.2.1
  have hbA : ¬ lA s b := Nat.not_le.mpr hbl
  refine lv_aload_n hx hb dL_228 rfl (lv_at hl 1 rfl) ?_
  refine lv_aload_n hx hb dL_229 rfl (lv_at hl 0 rfl) ?_
  refine lv_iload_n hx hb dL_230 rfl (lv_at hl 3 rfl) ?_
  refine lv_iconst (v := 1) hx hb dL_231 (by decide) ?_
  refine lv_iadd hx hb dL_232 ?_
  refine w_top (y := nI (i + 1)) (nI_add i 1) ?_
  refine va_sld hx hb hX hbl hbA hS (vp_in_nI (by omega) (by omega)) dL_233 ?_
  refine lv_aload_n hx hb dL_234 rfl (lv_at hl 0 rfl) ?_
  refine lv_iload_n hx hb dL_235 rfl (lv_at hl 3 rfl) ?_
  refine lv_iconst (v := 2) hx hb dL_236 (by decide) ?_
  refine lv_iadd hx hb dL_237 ?_
  refine w_top (y := nI (i + 2)) (nI_add i 2) ?_
  refine va_sld hx hb hX hbl hbA hS (vp_in_nI (by omega) (by omega)) dL_238 ?_
  refine lv_aload_n hx hb dL_239 rfl (lv_at hl 0 rfl) ?_
  refine lv_iload_n hx hb dL_240 rfl (lv_at hl 3 rfl) ?_
  refine lv_iconst (v := 3) hx hb dL_241 (by decide) ?_
  refine lv_iadd hx hb dL_242 ?_
  refine w_top (y := nI (i + 3)) (nI_add i 3) ?_
  refine va_sld hx hb hX hbl hbA hS (vp_in_nI (by omega) (by omega)) dL_243 ?_
  refine lv_aload_n hx hb dL_244 rfl (lv_at hl 0 rfl) ?_
  refine lv_iload_n hx hb dL_245 rfl (lv_at hl 3 rfl) ?_
  refine lv_iconst (v := 4) hx hb dL_246 (by decide) ?_
  refine lv_iadd hx hb dL_247 ?_
  refine w_top (y := nI (i + 4)) (nI_add i 4) ?_
  refine va_sld hx hb hX hbl hbA hS (vp_in_nI (by omega) (by omega)) dL_248 ?_
  refine lv_aload_n hx hb dL_249 rfl (lv_at hl 0 rfl) ?_
  refine lv_iload_n hx hb dL_250 rfl (lv_at hl 3 rfl) ?_
  refine lv_iconst (v := 5) hx hb dL_251 (by decide) ?_
  refine lv_iadd hx hb dL_252 ?_
  refine w_top (y := nI (i + 5)) (nI_add i 5) ?_
  refine va_sld hx hb hX hbl hbA hS (vp_in_nI (by omega) (by omega)) dL_253 ?_
  refine a_call hS (a_run (As := [.int (xs (nI (i + 1)).toNatClampNeg), .int (xs (nI (i + 2)).toNatClampNeg), .int (xs (nI (i + 3)).toNatClampNeg), .int (xs (nI (i + 4)).toNatClampNeg), .int (xs (nI (i + 5)).toNatClampNeg)]) C0 hO (fun q hq => Nat.le_trans hS.1 hq) hW (c_X8_addPump l G (lA s) (xs (nI (i + 1)).toNatClampNeg) (xs (nI (i + 2)).toNatClampNeg) (xs (nI (i + 3)).toNatClampNeg) (xs (nI (i + 4)).toNatClampNeg) (xs (nI (i + 5)).toNatClampNeg) hv _ (J_addPump (xs (nI (i + 1)).toNatClampNeg) (xs (nI (i + 2)).toNatClampNeg) (xs (nI (i + 3)).toNatClampNeg) (xs (nI (i + 4)).toNatClampNeg) (xs (nI (i + 5)).toNatClampNeg) B hv hB hRel)) ⟨⟨w_370, w_51, w_373⟩, pl_X8_addPump, ⟨(Nat.le_of_ble_eq_true rfl), (Nat.le_of_ble_eq_true rfl)⟩, hcs⟩ ⟨w_371, w_372⟩ rfl hl.1 rfl (Nat.le_of_ble_eq_true rfl) dL_254) (fun r G1 hv1 g1 g2 g8 g9 h H locs hW hS => ?_)
  have C0 : cx p s m args meth c "RamStationLaw" code 4 G1 := cx_cg g1 g2 C0
  have hl : lv_has ls 4 [(0, .ref b), (1, .ref (ad G1 8 0)), (2, .ref (ad G1 9 0)), (3, .int (nI i))] := by rw [g8, g9]; exact hl
  refine lv_aload_n hx hb dL_257 rfl (lv_at hl 2 rfl) ?_
  refine lv_aload_n hx hb dL_258 rfl (lv_at hl 0 rfl) ?_
  refine lv_iload_n hx hb dL_259 rfl (lv_at hl 3 rfl) ?_
  refine lv_iconst (v := 1) hx hb dL_260 (by decide) ?_
  refine lv_iadd hx hb dL_261 ?_
  refine w_top (y := nI (i + 1)) (nI_add i 1) ?_
  refine va_sld hx hb hX hbl hbA hS (vp_in_nI (by omega) (by omega)) dL_262 ?_
  refine lv_aload_n hx hb dL_263 rfl (lv_at hl 0 rfl) ?_
  refine lv_iload_n hx hb dL_264 rfl (lv_at hl 3 rfl) ?_
  refine lv_iconst (v := 2) hx hb dL_265 (by decide) ?_
  refine lv_iadd hx hb dL_266 ?_
  refine w_top (y := nI (i + 2)) (nI_add i 2) ?_
  refine va_sld hx hb hX hbl hbA hS (vp_in_nI (by omega) (by omega)) dL_267 ?_
  refine lv_aload_n hx hb dL_268 rfl (lv_at hl 0 rfl) ?_
  refine lv_iload_n hx hb dL_269 rfl (lv_at hl 3 rfl) ?_
  refine lv_iconst (v := 3) hx hb dL_270 (by decide) ?_
  refine lv_iadd hx hb dL_271 ?_
  refine w_top (y := nI (i + 3)) (nI_add i 3) ?_
  refine va_sld hx hb hX hbl hbA hS (vp_in_nI (by omega) (by omega)) dL_272 ?_
  refine lv_aload_n hx hb dL_273 rfl (lv_at hl 0 rfl) ?_
  refine lv_iload_n hx hb dL_274 rfl (lv_at hl 3 rfl) ?_
  refine lv_iconst (v := 4) hx hb dL_275 (by decide) ?_
  refine lv_iadd hx hb dL_276 ?_
  refine w_top (y := nI (i + 4)) (nI_add i 4) ?_
  refine va_sld hx hb hX hbl hbA hS (vp_in_nI (by omega) (by omega)) dL_277 ?_
  refine lv_aload_n hx hb dL_278 rfl (lv_at hl 0 rfl) ?_
  refine lv_iload_n hx hb dL_279 rfl (lv_at hl 3 rfl) ?_
  refine lv_iconst (v := 5) hx hb dL_280 (by decide) ?_
  refine lv_iadd hx hb dL_281 ?_
  refine w_top (y := nI (i + 5)) (nI_add i 5) ?_
  refine va_sld hx hb hX hbl hbA hS (vp_in_nI (by omega) (by omega)) dL_282 ?_
  refine w_ci hS (w_runV (As := [.int (xs (nI (i + 1)).toNatClampNeg), .int (xs (nI (i + 2)).toNatClampNeg), .int (xs (nI (i + 3)).toNatClampNeg), .int (xs (nI (i + 4)).toNatClampNeg), .int (xs (nI (i + 5)).toNatClampNeg)]) C0 hW 9 0 (by decide) (by decide) rfl rfl (c_X9_addPump l G1 (lA s) (xs (nI (i + 1)).toNatClampNeg) (xs (nI (i + 2)).toNatClampNeg) (xs (nI (i + 3)).toNatClampNeg) (xs (nI (i + 4)).toNatClampNeg) (xs (nI (i + 5)).toNatClampNeg) hv1 _ h) ⟨⟨w_824, w_61, w_827⟩, pl_X9_addPump, ⟨(Nat.le_of_ble_eq_true rfl), (Nat.le_of_ble_eq_true rfl)⟩, ⟨hcs.1, hcs.2⟩⟩ ⟨w_825, w_826⟩ rfl hl.1 rfl (Nat.le_of_ble_eq_true rfl) dL_283) (fun r2 hv2 h H locs hW hS => ?_)
  exact lv_icmp_eq (tgt := 1309) hx hb dL_286 (by decide) (fun _ => next G1 hv2 H locs g1 g2 g8 g9 h.2 hW hS) (fun z => absurd h.1 z)
set_option maxHeartbeats 4000000 in
set_option maxRecDepth 100000 in
theorem law_setValve {p : Program} {l : Launch} {e : Env} {s : State} {m : MethodId} {args : Array Value} {below : List Frame} {meth : Method} {c : Code} {H : Heap} {locs : List Loc} {cells slots : Nat} {Q : State → Prop} {G : wG} {ls : Array Slot} {b L i B : Nat} {xs : Nat → Int32} {hv : HV} (C0 : cx p s m args meth c "RamStationLaw" code 4 G) (hX : va_X b L xs s s.heap) (hbl : b < s.heap.size) (hi : i + 6 ≤ L) (hL : L ≤ 3072) (hB : B + 65000 < 2 ^ 31) (hRel : Rel B hv) (hW : wd G (lA s) hv H) (hS : va_S (lA s) s.heap H locs) (hl : lv_has ls 4 [(0, .ref b), (1, .ref (ad G 8 0)), (2, .ref (ad G 9 0)), (3, .int (nI i))]) (hcs : cells ≤ room_1.cells ∧ slots ≤ room_1.slots)
    (next : ∀ (hv' : HV) (H1 : Heap) (locs1 : List Loc), Rel (B + 64000) hv' → wd G (lA s) hv' H1 → va_S (lA s) s.heap H1 locs1 → W p l e room_1 s m args below meth c H1 locs1 cells slots Q (F0 m 1309 ls [])) : W p l e room_1 s m args below meth c H locs cells slots Q (F0 m 291 ls []) := by
  have hx := C0.1
  have hb := C0.2.1
  have hbA : ¬ lA s b := Nat.not_le.mpr hbl
  refine lv_aload_n hx hb dL_291 rfl (lv_at hl 1 rfl) ?_
  refine lv_aload_n hx hb dL_292 rfl (lv_at hl 0 rfl) ?_
  refine lv_iload_n hx hb dL_293 rfl (lv_at hl 3 rfl) ?_
  refine lv_iconst (v := 1) hx hb dL_294 (by decide) ?_
  refine lv_iadd hx hb dL_295 ?_
  refine w_top (y := nI (i + 1)) (nI_add i 1) ?_
  refine va_sld hx hb hX hbl hbA hS (vp_in_nI (by omega) (by omega)) dL_296 ?_
  refine lv_aload_n hx hb dL_297 rfl (lv_at hl 0 rfl) ?_
  refine lv_iload_n hx hb dL_298 rfl (lv_at hl 3 rfl) ?_
  refine lv_iconst (v := 2) hx hb dL_299 (by decide) ?_
  refine lv_iadd hx hb dL_300 ?_
  refine w_top (y := nI (i + 2)) (nI_add i 2) ?_
  refine va_sld hx hb hX hbl hbA hS (vp_in_nI (by omega) (by omega)) dL_301 ?_
  refine lv_aload_n hx hb dL_302 rfl (lv_at hl 0 rfl) ?_
  refine lv_iload_n hx hb dL_303 rfl (lv_at hl 3 rfl) ?_
  refine lv_iconst (v := 3) hx hb dL_304 (by decide) ?_
  refine lv_iadd hx hb dL_305 ?_
  refine w_top (y := nI (i + 3)) (nI_add i 3) ?_
  refine va_sld hx hb hX hbl hbA hS (vp_in_nI (by omega) (by omega)) dL_306 ?_
  refine w_ci hS (w_runV (As := [.int (xs (nI (i + 1)).toNatClampNeg), .int (xs (nI (i + 2)).toNatClampNeg), .int (xs (nI (i + 3)).toNatClampNeg)]) C0 hW 8 0 (by decide) (by decide) rfl rfl (c_X8_setValve l G (lA s) (xs (nI (i + 1)).toNatClampNeg) (xs (nI (i + 2)).toNatClampNeg) (xs (nI (i + 3)).toNatClampNeg) hv _ (J_setValve (xs (nI (i + 1)).toNatClampNeg) (xs (nI (i + 2)).toNatClampNeg) (xs (nI (i + 3)).toNatClampNeg) B hv hB hRel)) ⟨⟨w_412, w_51, w_415⟩, pl_X8_setValve, ⟨(Nat.le_of_ble_eq_true rfl), (Nat.le_of_ble_eq_true rfl)⟩, hcs⟩ ⟨w_413, w_414⟩ rfl hl.1 rfl (Nat.le_of_ble_eq_true rfl) dL_307) (fun r hv1 h H locs hW hS => ?_)
  refine lv_aload_n hx hb dL_310 rfl (lv_at hl 2 rfl) ?_
  refine lv_aload_n hx hb dL_311 rfl (lv_at hl 0 rfl) ?_
  refine lv_iload_n hx hb dL_312 rfl (lv_at hl 3 rfl) ?_
  refine lv_iconst (v := 1) hx hb dL_313 (by decide) ?_
  refine lv_iadd hx hb dL_314 ?_
  refine w_top (y := nI (i + 1)) (nI_add i 1) ?_
  refine va_sld hx hb hX hbl hbA hS (vp_in_nI (by omega) (by omega)) dL_315 ?_
  refine lv_aload_n hx hb dL_316 rfl (lv_at hl 0 rfl) ?_
  refine lv_iload_n hx hb dL_317 rfl (lv_at hl 3 rfl) ?_
  refine lv_iconst (v := 2) hx hb dL_318 (by decide) ?_
  refine lv_iadd hx hb dL_319 ?_
  refine w_top (y := nI (i + 2)) (nI_add i 2) ?_
  refine va_sld hx hb hX hbl hbA hS (vp_in_nI (by omega) (by omega)) dL_320 ?_
  refine lv_aload_n hx hb dL_321 rfl (lv_at hl 0 rfl) ?_
  refine lv_iload_n hx hb dL_322 rfl (lv_at hl 3 rfl) ?_
  refine lv_iconst (v := 3) hx hb dL_323 (by decide) ?_
  refine lv_iadd hx hb dL_324 ?_
  refine w_top (y := nI (i + 3)) (nI_add i 3) ?_
  refine va_sld hx hb hX hbl hbA hS (vp_in_nI (by omega) (by omega)) dL_325 ?_
  refine w_ci hS (w_runV (As := [.int (xs (nI (i + 1)).toNatClampNeg), .int (xs (nI (i + 2)).toNatClampNeg), .int (xs (nI (i + 3)).toNatClampNeg)]) C0 hW 9 0 (by decide) (by decide) rfl rfl (c_X9_setValve l G (lA s) (xs (nI (i + 1)).toNatClampNeg) (xs (nI (i + 2)).toNatClampNeg) (xs (nI (i + 3)).toNatClampNeg) hv1 _ h) ⟨⟨w_838, w_61, w_841⟩, pl_X9_setValve, ⟨(Nat.le_of_ble_eq_true rfl), (Nat.le_of_ble_eq_true rfl)⟩, hcs⟩ ⟨w_839, w_840⟩ rfl hl.1 rfl (Nat.le_of_ble_eq_true rfl) dL_326) (fun r2 hv2 h H locs hW hS => ?_)
  exact lv_icmp_eq (tgt := 1309) hx hb dL_329 (by decide) (fun _ => next hv2 H locs h.2 hW hS) (fun z => absurd h.1 z)
set_option maxHeartbeats 4000000 in
set_option maxRecDepth 100000 in
theorem law_setChamber {p : Program} {l : Launch} {e : Env} {s : State} {m : MethodId} {args : Array Value} {below : List Frame} {meth : Method} {c : Code} {H : Heap} {locs : List Loc} {cells slots : Nat} {Q : State → Prop} {G : wG} {ls : Array Slot} {b L i B : Nat} {xs : Nat → Int32} {hv : HV} (C0 : cx p s m args meth c "RamStationLaw" code 4 G) (hX : va_X b L xs s s.heap) (hbl : b < s.heap.size) (hi : i + 6 ≤ L) (hL : L ≤ 3072) (hB : B + 65000 < 2 ^ 31) (hRel : Rel B hv) (hW : wd G (lA s) hv H) (hS : va_S (lA s) s.heap H locs) (hl : lv_has ls 4 [(0, .ref b), (1, .ref (ad G 8 0)), (2, .ref (ad G 9 0)), (3, .int (nI i))]) (hcs : cells ≤ room_1.cells ∧ slots ≤ room_1.slots)
    (next : ∀ (hv' : HV) (H1 : Heap) (locs1 : List Loc), Rel (B + 64000) hv' → wd G (lA s) hv' H1 → va_S (lA s) s.heap H1 locs1 → W p l e room_1 s m args below meth c H1 locs1 cells slots Q (F0 m 1309 ls [])) : W p l e room_1 s m args below meth c H locs cells slots Q (F0 m 334 ls []) := by
  have hx := C0.1
  have hb := C0.2.1
  have hbA : ¬ lA s b := Nat.not_le.mpr hbl
  refine lv_aload_n hx hb dL_334 rfl (lv_at hl 1 rfl) ?_
  refine lv_aload_n hx hb dL_335 rfl (lv_at hl 0 rfl) ?_
  refine lv_iload_n hx hb dL_336 rfl (lv_at hl 3 rfl) ?_
  refine lv_iconst (v := 1) hx hb dL_337 (by decide) ?_
  refine lv_iadd hx hb dL_338 ?_
  refine w_top (y := nI (i + 1)) (nI_add i 1) ?_
  refine va_sld hx hb hX hbl hbA hS (vp_in_nI (by omega) (by omega)) dL_339 ?_
  refine lv_aload_n hx hb dL_340 rfl (lv_at hl 0 rfl) ?_
  refine lv_iload_n hx hb dL_341 rfl (lv_at hl 3 rfl) ?_
  refine lv_iconst (v := 2) hx hb dL_342 (by decide) ?_
  refine lv_iadd hx hb dL_343 ?_
  refine w_top (y := nI (i + 2)) (nI_add i 2) ?_
  refine va_sld hx hb hX hbl hbA hS (vp_in_nI (by omega) (by omega)) dL_344 ?_
  refine lv_aload_n hx hb dL_345 rfl (lv_at hl 0 rfl) ?_
  refine lv_iload_n hx hb dL_346 rfl (lv_at hl 3 rfl) ?_
  refine lv_iconst (v := 3) hx hb dL_347 (by decide) ?_
  refine lv_iadd hx hb dL_348 ?_
  refine w_top (y := nI (i + 3)) (nI_add i 3) ?_
  refine va_sld hx hb hX hbl hbA hS (vp_in_nI (by omega) (by omega)) dL_349 ?_
  refine lv_if_eq (tgt := 357) hx hb dL_350 (by decide) (fun c3 => ?_) (fun c3 => ?_)
  · refine lv_iconst (v := 0) hx hb dL_357 (by decide) ?_
    refine w_ci hS (w_runV (As := [.int (xs (nI (i + 1)).toNatClampNeg), .int (xs (nI (i + 2)).toNatClampNeg), .int 0]) C0 hW 8 0 (by decide) (by decide) rfl rfl (c_X8_setChamber l G (lA s) (xs (nI (i + 1)).toNatClampNeg) (xs (nI (i + 2)).toNatClampNeg) 0 hv _ (J_setChamber (xs (nI (i + 1)).toNatClampNeg) (xs (nI (i + 2)).toNatClampNeg) 0 (by decide) B hv hB hRel)) ⟨⟨w_417, w_51, w_420⟩, pl_X8_setChamber, ⟨(Nat.le_of_ble_eq_true rfl), (Nat.le_of_ble_eq_true rfl)⟩, hcs⟩ ⟨w_418, w_419⟩ rfl hl.1 rfl (Nat.le_of_ble_eq_true rfl) dL_358) (fun r hv1 h H locs hW hS => ?_)
    refine lv_aload_n hx hb dL_361 rfl (lv_at hl 2 rfl) ?_
    refine lv_aload_n hx hb dL_362 rfl (lv_at hl 0 rfl) ?_
    refine lv_iload_n hx hb dL_363 rfl (lv_at hl 3 rfl) ?_
    refine lv_iconst (v := 1) hx hb dL_364 (by decide) ?_
    refine lv_iadd hx hb dL_365 ?_
    refine w_top (y := nI (i + 1)) (nI_add i 1) ?_
    refine va_sld hx hb hX hbl hbA hS (vp_in_nI (by omega) (by omega)) dL_366 ?_
    refine lv_aload_n hx hb dL_367 rfl (lv_at hl 0 rfl) ?_
    refine lv_iload_n hx hb dL_368 rfl (lv_at hl 3 rfl) ?_
    refine lv_iconst (v := 2) hx hb dL_369 (by decide) ?_
    refine lv_iadd hx hb dL_370 ?_
    refine w_top (y := nI (i + 2)) (nI_add i 2) ?_
    refine va_sld hx hb hX hbl hbA hS (vp_in_nI (by omega) (by omega)) dL_371 ?_
    refine lv_aload_n hx hb dL_372 rfl (lv_at hl 0 rfl) ?_
    refine lv_iload_n hx hb dL_373 rfl (lv_at hl 3 rfl) ?_
    refine lv_iconst (v := 3) hx hb dL_374 (by decide) ?_
    refine lv_iadd hx hb dL_375 ?_
    refine w_top (y := nI (i + 3)) (nI_add i 3) ?_
    refine va_sld hx hb hX hbl hbA hS (vp_in_nI (by omega) (by omega)) dL_376 ?_
    refine lv_if_eq (tgt := 384) hx hb dL_377 (by decide) (fun _ => ?_) (fun z => absurd c3 z)
    refine lv_iconst (v := 0) hx hb dL_384 (by decide) ?_
    refine w_ci hS (w_runV (As := [.int (xs (nI (i + 1)).toNatClampNeg), .int (xs (nI (i + 2)).toNatClampNeg), .int 0]) C0 hW 9 0 (by decide) (by decide) rfl rfl (c_X9_setChamber l G (lA s) (xs (nI (i + 1)).toNatClampNeg) (xs (nI (i + 2)).toNatClampNeg) 0 hv1 _ h) ⟨⟨w_854, w_61, w_857⟩, pl_X9_setChamber, ⟨(Nat.le_of_ble_eq_true rfl), (Nat.le_of_ble_eq_true rfl)⟩, hcs⟩ ⟨w_855, w_856⟩ rfl hl.1 rfl (Nat.le_of_ble_eq_true rfl) dL_385) (fun r2 hv2 h H locs hW hS => ?_)
    exact lv_icmp_eq (tgt := 1309) hx hb dL_388 (by decide) (fun _ => next hv2 H locs h.2 hW hS) (fun z => absurd h.1 z)
  · refine lv_iconst (v := 1) hx hb dL_353 (by decide) ?_
    refine lv_goto (tgt := 358) hx hb dL_354 (by decide) ?_
    refine w_ci hS (w_runV (As := [.int (xs (nI (i + 1)).toNatClampNeg), .int (xs (nI (i + 2)).toNatClampNeg), .int 1]) C0 hW 8 0 (by decide) (by decide) rfl rfl (c_X8_setChamber l G (lA s) (xs (nI (i + 1)).toNatClampNeg) (xs (nI (i + 2)).toNatClampNeg) 1 hv _ (J_setChamber (xs (nI (i + 1)).toNatClampNeg) (xs (nI (i + 2)).toNatClampNeg) 1 (by decide) B hv hB hRel)) ⟨⟨w_417, w_51, w_420⟩, pl_X8_setChamber, ⟨(Nat.le_of_ble_eq_true rfl), (Nat.le_of_ble_eq_true rfl)⟩, hcs⟩ ⟨w_418, w_419⟩ rfl hl.1 rfl (Nat.le_of_ble_eq_true rfl) dL_358) (fun r hv1 h H locs hW hS => ?_)
    refine lv_aload_n hx hb dL_361 rfl (lv_at hl 2 rfl) ?_
    refine lv_aload_n hx hb dL_362 rfl (lv_at hl 0 rfl) ?_
    refine lv_iload_n hx hb dL_363 rfl (lv_at hl 3 rfl) ?_
    refine lv_iconst (v := 1) hx hb dL_364 (by decide) ?_
    refine lv_iadd hx hb dL_365 ?_
    refine w_top (y := nI (i + 1)) (nI_add i 1) ?_
    refine va_sld hx hb hX hbl hbA hS (vp_in_nI (by omega) (by omega)) dL_366 ?_
    refine lv_aload_n hx hb dL_367 rfl (lv_at hl 0 rfl) ?_
    refine lv_iload_n hx hb dL_368 rfl (lv_at hl 3 rfl) ?_
    refine lv_iconst (v := 2) hx hb dL_369 (by decide) ?_
    refine lv_iadd hx hb dL_370 ?_
    refine w_top (y := nI (i + 2)) (nI_add i 2) ?_
    refine va_sld hx hb hX hbl hbA hS (vp_in_nI (by omega) (by omega)) dL_371 ?_
    refine lv_aload_n hx hb dL_372 rfl (lv_at hl 0 rfl) ?_
    refine lv_iload_n hx hb dL_373 rfl (lv_at hl 3 rfl) ?_
    refine lv_iconst (v := 3) hx hb dL_374 (by decide) ?_
    refine lv_iadd hx hb dL_375 ?_
    refine w_top (y := nI (i + 3)) (nI_add i 3) ?_
    refine va_sld hx hb hX hbl hbA hS (vp_in_nI (by omega) (by omega)) dL_376 ?_
    refine lv_if_eq (tgt := 384) hx hb dL_377 (by decide) (fun z => absurd z c3) (fun _ => ?_)
    refine lv_iconst (v := 1) hx hb dL_380 (by decide) ?_
    refine lv_goto (tgt := 385) hx hb dL_381 (by decide) ?_
    refine w_ci hS (w_runV (As := [.int (xs (nI (i + 1)).toNatClampNeg), .int (xs (nI (i + 2)).toNatClampNeg), .int 1]) C0 hW 9 0 (by decide) (by decide) rfl rfl (c_X9_setChamber l G (lA s) (xs (nI (i + 1)).toNatClampNeg) (xs (nI (i + 2)).toNatClampNeg) 1 hv1 _ h) ⟨⟨w_854, w_61, w_857⟩, pl_X9_setChamber, ⟨(Nat.le_of_ble_eq_true rfl), (Nat.le_of_ble_eq_true rfl)⟩, hcs⟩ ⟨w_855, w_856⟩ rfl hl.1 rfl (Nat.le_of_ble_eq_true rfl) dL_385) (fun r2 hv2 h H locs hW hS => ?_)
    exact lv_icmp_eq (tgt := 1309) hx hb dL_388 (by decide) (fun _ => next hv2 H locs h.2 hW hS) (fun z => absurd h.1 z)
set_option maxHeartbeats 4000000 in
set_option maxRecDepth 100000 in
theorem law_setInflow {p : Program} {l : Launch} {e : Env} {s : State} {m : MethodId} {args : Array Value} {below : List Frame} {meth : Method} {c : Code} {H : Heap} {locs : List Loc} {cells slots : Nat} {Q : State → Prop} {G : wG} {ls : Array Slot} {b L i B : Nat} {xs : Nat → Int32} {hv : HV} (C0 : cx p s m args meth c "RamStationLaw" code 4 G) (hX : va_X b L xs s s.heap) (hbl : b < s.heap.size) (hi : i + 6 ≤ L) (hL : L ≤ 3072) (hB : B + 65000 < 2 ^ 31) (hRel : Rel B hv) (hW : wd G (lA s) hv H) (hS : va_S (lA s) s.heap H locs) (hl : lv_has ls 4 [(0, .ref b), (1, .ref (ad G 8 0)), (2, .ref (ad G 9 0)), (3, .int (nI i))]) (hcs : cells ≤ room_1.cells ∧ slots ≤ room_1.slots)
    (next : ∀ (hv' : HV) (H1 : Heap) (locs1 : List Loc), Rel (B + 64000) hv' → wd G (lA s) hv' H1 → va_S (lA s) s.heap H1 locs1 → W p l e room_1 s m args below meth c H1 locs1 cells slots Q (F0 m 1309 ls [])) : W p l e room_1 s m args below meth c H locs cells slots Q (F0 m 393 ls []) := by
  have hx := C0.1
  have hb := C0.2.1
  have hbA : ¬ lA s b := Nat.not_le.mpr hbl
  refine lv_aload_n hx hb dL_393 rfl (lv_at hl 1 rfl) ?_
  refine lv_aload_n hx hb dL_394 rfl (lv_at hl 0 rfl) ?_
  refine lv_iload_n hx hb dL_395 rfl (lv_at hl 3 rfl) ?_
  refine lv_iconst (v := 1) hx hb dL_396 (by decide) ?_
  refine lv_iadd hx hb dL_397 ?_
  refine w_top (y := nI (i + 1)) (nI_add i 1) ?_
  refine va_sld hx hb hX hbl hbA hS (vp_in_nI (by omega) (by omega)) dL_398 ?_
  refine w_ci hS (w_runV (As := [.int (xs (nI (i + 1)).toNatClampNeg)]) C0 hW 8 0 (by decide) (by decide) rfl rfl (c_X8_setInflow l G (lA s) (xs (nI (i + 1)).toNatClampNeg) hv _ (J_setInflow (xs (nI (i + 1)).toNatClampNeg) B hv hB hRel)) ⟨⟨w_430, w_51, w_433⟩, pl_X8_setInflow, ⟨(Nat.le_of_ble_eq_true rfl), (Nat.le_of_ble_eq_true rfl)⟩, hcs⟩ ⟨w_431, w_432⟩ rfl hl.1 rfl (Nat.le_of_ble_eq_true rfl) dL_399) (fun r hv1 h H locs hW hS => ?_)
  refine lv_aload_n hx hb dL_402 rfl (lv_at hl 2 rfl) ?_
  refine lv_aload_n hx hb dL_403 rfl (lv_at hl 0 rfl) ?_
  refine lv_iload_n hx hb dL_404 rfl (lv_at hl 3 rfl) ?_
  refine lv_iconst (v := 1) hx hb dL_405 (by decide) ?_
  refine lv_iadd hx hb dL_406 ?_
  refine w_top (y := nI (i + 1)) (nI_add i 1) ?_
  refine va_sld hx hb hX hbl hbA hS (vp_in_nI (by omega) (by omega)) dL_407 ?_
  refine w_ci hS (w_runV (As := [.int (xs (nI (i + 1)).toNatClampNeg)]) C0 hW 9 0 (by decide) (by decide) rfl rfl (c_X9_setInflow l G (lA s) (xs (nI (i + 1)).toNatClampNeg) hv1 _ h) ⟨⟨w_862, w_61, w_865⟩, pl_X9_setInflow, ⟨(Nat.le_of_ble_eq_true rfl), (Nat.le_of_ble_eq_true rfl)⟩, hcs⟩ ⟨w_863, w_864⟩ rfl hl.1 rfl (Nat.le_of_ble_eq_true rfl) dL_408) (fun r2 hv2 h H locs hW hS => ?_)
  exact lv_icmp_eq (tgt := 1309) hx hb dL_411 (by decide) (fun _ => next hv2 H locs h.2 hW hS) (fun z => absurd h.1 z)
set_option maxHeartbeats 4000000 in
set_option maxRecDepth 100000 in
theorem law_start {p : Program} {l : Launch} {e : Env} {s : State} {m : MethodId} {args : Array Value} {below : List Frame} {meth : Method} {c : Code} {H : Heap} {locs : List Loc} {cells slots : Nat} {Q : State → Prop} {G : wG} {ls : Array Slot} {b L i B : Nat} {xs : Nat → Int32} {hv : HV} (C0 : cx p s m args meth c "RamStationLaw" code 4 G) (hX : va_X b L xs s s.heap) (hbl : b < s.heap.size) (hi : i + 6 ≤ L) (hL : L ≤ 3072) (hB : B + 65000 < 2 ^ 31) (hRel : Rel B hv) (hW : wd G (lA s) hv H) (hS : va_S (lA s) s.heap H locs) (hl : lv_has ls 4 [(0, .ref b), (1, .ref (ad G 8 0)), (2, .ref (ad G 9 0)), (3, .int (nI i))]) (hcs : cells ≤ room_1.cells ∧ slots ≤ room_1.slots)
    (next : ∀ (hv' : HV) (H1 : Heap) (locs1 : List Loc), Rel (B + 64000) hv' → wd G (lA s) hv' H1 → va_S (lA s) s.heap H1 locs1 → W p l e room_1 s m args below meth c H1 locs1 cells slots Q (F0 m 1309 ls [])) : W p l e room_1 s m args below meth c H locs cells slots Q (F0 m 416 ls []) := by
  have hx := C0.1
  have hb := C0.2.1
  have hbA : ¬ lA s b := Nat.not_le.mpr hbl
  refine lv_aload_n hx hb dL_416 rfl (lv_at hl 1 rfl) ?_
  refine lv_aload_n hx hb dL_417 rfl (lv_at hl 0 rfl) ?_
  refine lv_iload_n hx hb dL_418 rfl (lv_at hl 3 rfl) ?_
  refine lv_iconst (v := 1) hx hb dL_419 (by decide) ?_
  refine lv_iadd hx hb dL_420 ?_
  refine w_top (y := nI (i + 1)) (nI_add i 1) ?_
  refine va_sld hx hb hX hbl hbA hS (vp_in_nI (by omega) (by omega)) dL_421 ?_
  refine w_ci hS (w_runV (As := [.int (xs (nI (i + 1)).toNatClampNeg)]) C0 hW 8 0 (by decide) (by decide) rfl rfl (c_X8_start l G (lA s) (xs (nI (i + 1)).toNatClampNeg) hv _ (J_start (xs (nI (i + 1)).toNatClampNeg) B hv hB hRel)) ⟨⟨w_434, w_51, w_437⟩, pl_X8_start, ⟨(Nat.le_of_ble_eq_true rfl), (Nat.le_of_ble_eq_true rfl)⟩, hcs⟩ ⟨w_435, w_436⟩ rfl hl.1 rfl (Nat.le_of_ble_eq_true rfl) dL_422) (fun r hv1 h H locs hW hS => ?_)
  refine lv_aload_n hx hb dL_425 rfl (lv_at hl 2 rfl) ?_
  refine lv_aload_n hx hb dL_426 rfl (lv_at hl 0 rfl) ?_
  refine lv_iload_n hx hb dL_427 rfl (lv_at hl 3 rfl) ?_
  refine lv_iconst (v := 1) hx hb dL_428 (by decide) ?_
  refine lv_iadd hx hb dL_429 ?_
  refine w_top (y := nI (i + 1)) (nI_add i 1) ?_
  refine va_sld hx hb hX hbl hbA hS (vp_in_nI (by omega) (by omega)) dL_430 ?_
  refine w_ci hS (w_runV (As := [.int (xs (nI (i + 1)).toNatClampNeg)]) C0 hW 9 0 (by decide) (by decide) rfl rfl (c_X9_start l G (lA s) (xs (nI (i + 1)).toNatClampNeg) hv1 _ h) ⟨⟨w_870, w_61, w_873⟩, pl_X9_start, ⟨(Nat.le_of_ble_eq_true rfl), (Nat.le_of_ble_eq_true rfl)⟩, hcs⟩ ⟨w_871, w_872⟩ rfl hl.1 rfl (Nat.le_of_ble_eq_true rfl) dL_431) (fun r2 hv2 h H locs hW hS => ?_)
  exact lv_icmp_eq (tgt := 1309) hx hb dL_434 (by decide) (fun _ => next hv2 H locs h.2 hW hS) (fun z => absurd h.1 z)
set_option maxHeartbeats 4000000 in
set_option maxRecDepth 100000 in
theorem law_stop {p : Program} {l : Launch} {e : Env} {s : State} {m : MethodId} {args : Array Value} {below : List Frame} {meth : Method} {c : Code} {H : Heap} {locs : List Loc} {cells slots : Nat} {Q : State → Prop} {G : wG} {ls : Array Slot} {b L i B : Nat} {xs : Nat → Int32} {hv : HV} (C0 : cx p s m args meth c "RamStationLaw" code 4 G) (hX : va_X b L xs s s.heap) (hbl : b < s.heap.size) (hi : i + 6 ≤ L) (hL : L ≤ 3072) (hB : B + 65000 < 2 ^ 31) (hRel : Rel B hv) (hW : wd G (lA s) hv H) (hS : va_S (lA s) s.heap H locs) (hl : lv_has ls 4 [(0, .ref b), (1, .ref (ad G 8 0)), (2, .ref (ad G 9 0)), (3, .int (nI i))]) (hcs : cells ≤ room_1.cells ∧ slots ≤ room_1.slots)
    (next : ∀ (hv' : HV) (H1 : Heap) (locs1 : List Loc), Rel (B + 64000) hv' → wd G (lA s) hv' H1 → va_S (lA s) s.heap H1 locs1 → W p l e room_1 s m args below meth c H1 locs1 cells slots Q (F0 m 1309 ls [])) : W p l e room_1 s m args below meth c H locs cells slots Q (F0 m 439 ls []) := by
  have hx := C0.1
  have hb := C0.2.1
  have hbA : ¬ lA s b := Nat.not_le.mpr hbl
  refine lv_aload_n hx hb dL_439 rfl (lv_at hl 1 rfl) ?_
  refine lv_aload_n hx hb dL_440 rfl (lv_at hl 0 rfl) ?_
  refine lv_iload_n hx hb dL_441 rfl (lv_at hl 3 rfl) ?_
  refine lv_iconst (v := 1) hx hb dL_442 (by decide) ?_
  refine lv_iadd hx hb dL_443 ?_
  refine w_top (y := nI (i + 1)) (nI_add i 1) ?_
  refine va_sld hx hb hX hbl hbA hS (vp_in_nI (by omega) (by omega)) dL_444 ?_
  refine w_ci hS (w_runV (As := [.int (xs (nI (i + 1)).toNatClampNeg)]) C0 hW 8 0 (by decide) (by decide) rfl rfl (c_X8_stop l G (lA s) (xs (nI (i + 1)).toNatClampNeg) hv _ (J_stop (xs (nI (i + 1)).toNatClampNeg) B hv hB hRel)) ⟨⟨w_442, w_51, w_445⟩, pl_X8_stop, ⟨(Nat.le_of_ble_eq_true rfl), (Nat.le_of_ble_eq_true rfl)⟩, hcs⟩ ⟨w_443, w_444⟩ rfl hl.1 rfl (Nat.le_of_ble_eq_true rfl) dL_445) (fun r hv1 h H locs hW hS => ?_)
  refine lv_aload_n hx hb dL_448 rfl (lv_at hl 2 rfl) ?_
  refine lv_aload_n hx hb dL_449 rfl (lv_at hl 0 rfl) ?_
  refine lv_iload_n hx hb dL_450 rfl (lv_at hl 3 rfl) ?_
  refine lv_iconst (v := 1) hx hb dL_451 (by decide) ?_
  refine lv_iadd hx hb dL_452 ?_
  refine w_top (y := nI (i + 1)) (nI_add i 1) ?_
  refine va_sld hx hb hX hbl hbA hS (vp_in_nI (by omega) (by omega)) dL_453 ?_
  refine w_ci hS (w_runV (As := [.int (xs (nI (i + 1)).toNatClampNeg)]) C0 hW 9 0 (by decide) (by decide) rfl rfl (c_X9_stop l G (lA s) (xs (nI (i + 1)).toNatClampNeg) hv1 _ h) ⟨⟨w_886, w_61, w_889⟩, pl_X9_stop, ⟨(Nat.le_of_ble_eq_true rfl), (Nat.le_of_ble_eq_true rfl)⟩, hcs⟩ ⟨w_887, w_888⟩ rfl hl.1 rfl (Nat.le_of_ble_eq_true rfl) dL_454) (fun r2 hv2 h H locs hW hS => ?_)
  exact lv_icmp_eq (tgt := 1309) hx hb dL_457 (by decide) (fun _ => next hv2 H locs h.2 hW hS) (fun z => absurd h.1 z)
set_option maxHeartbeats 4000000 in
set_option maxRecDepth 100000 in
theorem law_emptyTank {p : Program} {l : Launch} {e : Env} {s : State} {m : MethodId} {args : Array Value} {below : List Frame} {meth : Method} {c : Code} {H : Heap} {locs : List Loc} {cells slots : Nat} {Q : State → Prop} {G : wG} {ls : Array Slot} {b L i B : Nat} {xs : Nat → Int32} {hv : HV} (C0 : cx p s m args meth c "RamStationLaw" code 4 G) (hX : va_X b L xs s s.heap) (hbl : b < s.heap.size) (hi : i + 6 ≤ L) (hL : L ≤ 3072) (hB : B + 65000 < 2 ^ 31) (hRel : Rel B hv) (hW : wd G (lA s) hv H) (hS : va_S (lA s) s.heap H locs) (hl : lv_has ls 4 [(0, .ref b), (1, .ref (ad G 8 0)), (2, .ref (ad G 9 0)), (3, .int (nI i))]) (hcs : cells ≤ room_1.cells ∧ slots ≤ room_1.slots)
    (next : ∀ (hv' : HV) (H1 : Heap) (locs1 : List Loc), Rel (B + 64000) hv' → wd G (lA s) hv' H1 → va_S (lA s) s.heap H1 locs1 → W p l e room_1 s m args below meth c H1 locs1 cells slots Q (F0 m 1309 ls [])) : W p l e room_1 s m args below meth c H locs cells slots Q (F0 m 462 ls []) := by
  have hx := C0.1
  have hb := C0.2.1
  have hbA : ¬ lA s b := Nat.not_le.mpr hbl
  refine lv_aload_n hx hb dL_462 rfl (lv_at hl 1 rfl) ?_
  refine lv_aload_n hx hb dL_463 rfl (lv_at hl 0 rfl) ?_
  refine lv_iload_n hx hb dL_464 rfl (lv_at hl 3 rfl) ?_
  refine lv_iconst (v := 1) hx hb dL_465 (by decide) ?_
  refine lv_iadd hx hb dL_466 ?_
  refine w_top (y := nI (i + 1)) (nI_add i 1) ?_
  refine va_sld hx hb hX hbl hbA hS (vp_in_nI (by omega) (by omega)) dL_467 ?_
  refine w_ci hS (w_runV (As := [.int (xs (nI (i + 1)).toNatClampNeg)]) C0 hW 8 0 (by decide) (by decide) rfl rfl (c_X8_emptyTank l G (lA s) (xs (nI (i + 1)).toNatClampNeg) hv _ (J_emptyTank (xs (nI (i + 1)).toNatClampNeg) B hv hB hRel)) ⟨⟨w_450, w_51, w_453⟩, pl_X8_emptyTank, ⟨(Nat.le_of_ble_eq_true rfl), (Nat.le_of_ble_eq_true rfl)⟩, hcs⟩ ⟨w_451, w_452⟩ rfl hl.1 rfl (Nat.le_of_ble_eq_true rfl) dL_468) (fun r hv1 h H locs hW hS => ?_)
  refine lv_aload_n hx hb dL_471 rfl (lv_at hl 2 rfl) ?_
  refine lv_aload_n hx hb dL_472 rfl (lv_at hl 0 rfl) ?_
  refine lv_iload_n hx hb dL_473 rfl (lv_at hl 3 rfl) ?_
  refine lv_iconst (v := 1) hx hb dL_474 (by decide) ?_
  refine lv_iadd hx hb dL_475 ?_
  refine w_top (y := nI (i + 1)) (nI_add i 1) ?_
  refine va_sld hx hb hX hbl hbA hS (vp_in_nI (by omega) (by omega)) dL_476 ?_
  refine w_ci hS (w_runV (As := [.int (xs (nI (i + 1)).toNatClampNeg)]) C0 hW 9 0 (by decide) (by decide) rfl rfl (c_X9_emptyTank l G (lA s) (xs (nI (i + 1)).toNatClampNeg) hv1 _ h) ⟨⟨w_898, w_61, w_901⟩, pl_X9_emptyTank, ⟨(Nat.le_of_ble_eq_true rfl), (Nat.le_of_ble_eq_true rfl)⟩, hcs⟩ ⟨w_899, w_900⟩ rfl hl.1 rfl (Nat.le_of_ble_eq_true rfl) dL_477) (fun r2 hv2 h H locs hW hS => ?_)
  exact lv_icmp_eq (tgt := 1309) hx hb dL_480 (by decide) (fun _ => next hv2 H locs h.2 hW hS) (fun z => absurd h.1 z)
set_option maxHeartbeats 4000000 in
set_option maxRecDepth 100000 in
theorem law_pass {p : Program} {l : Launch} {e : Env} {s : State} {m : MethodId} {args : Array Value} {below : List Frame} {meth : Method} {c : Code} {H : Heap} {locs : List Loc} {cells slots : Nat} {Q : State → Prop} {G : wG} {ls : Array Slot} {b L i B : Nat} {xs : Nat → Int32} {hv : HV} (C0 : cx p s m args meth c "RamStationLaw" code 4 G) (hX : va_X b L xs s s.heap) (hbl : b < s.heap.size) (hi : i + 6 ≤ L) (hL : L ≤ 3072) (hB : B + 65000 < 2 ^ 31) (hRel : Rel B hv) (hW : wd G (lA s) hv H) (hS : va_S (lA s) s.heap H locs) (hl : lv_has ls 4 [(0, .ref b), (1, .ref (ad G 8 0)), (2, .ref (ad G 9 0)), (3, .int (nI i))]) (hcs : cells ≤ room_1.cells ∧ slots ≤ room_1.slots)
    (next : ∀ (hv' : HV) (H1 : Heap) (locs1 : List Loc), Rel (B + 64000) hv' → wd G (lA s) hv' H1 → va_S (lA s) s.heap H1 locs1 → W p l e room_1 s m args below meth c H1 locs1 cells slots Q (F0 m 1309 ls [])) : W p l e room_1 s m args below meth c H locs cells slots Q (F0 m 485 ls []) := by
  have hx := C0.1
  have hb := C0.2.1
  have hbA : ¬ lA s b := Nat.not_le.mpr hbl
  refine lv_aload_n hx hb dL_485 rfl (lv_at hl 1 rfl) ?_
  refine lv_aload_n hx hb dL_486 rfl (lv_at hl 0 rfl) ?_
  refine lv_iload_n hx hb dL_487 rfl (lv_at hl 3 rfl) ?_
  refine lv_iconst (v := 1) hx hb dL_488 (by decide) ?_
  refine lv_iadd hx hb dL_489 ?_
  refine w_top (y := nI (i + 1)) (nI_add i 1) ?_
  refine va_sld hx hb hX hbl hbA hS (vp_in_nI (by omega) (by omega)) dL_490 ?_
  refine w_ci hS (w_runV (As := [.int (xs (nI (i + 1)).toNatClampNeg)]) C0 hW 8 0 (by decide) (by decide) rfl rfl (c_X8_pass l G (lA s) (xs (nI (i + 1)).toNatClampNeg) hv _ (J_pass (xs (nI (i + 1)).toNatClampNeg) B hv hB hRel)) ⟨⟨w_454, w_51, w_457⟩, pl_X8_pass, ⟨(Nat.le_of_ble_eq_true rfl), (Nat.le_of_ble_eq_true rfl)⟩, hcs⟩ ⟨w_455, w_456⟩ rfl hl.1 rfl (Nat.le_of_ble_eq_true rfl) dL_491) (fun r hv1 h H locs hW hS => ?_)
  refine lv_aload_n hx hb dL_494 rfl (lv_at hl 2 rfl) ?_
  refine lv_aload_n hx hb dL_495 rfl (lv_at hl 0 rfl) ?_
  refine lv_iload_n hx hb dL_496 rfl (lv_at hl 3 rfl) ?_
  refine lv_iconst (v := 1) hx hb dL_497 (by decide) ?_
  refine lv_iadd hx hb dL_498 ?_
  refine w_top (y := nI (i + 1)) (nI_add i 1) ?_
  refine va_sld hx hb hX hbl hbA hS (vp_in_nI (by omega) (by omega)) dL_499 ?_
  refine w_ci hS (w_runV (As := [.int (xs (nI (i + 1)).toNatClampNeg)]) C0 hW 9 0 (by decide) (by decide) rfl rfl (c_X9_pass l G (lA s) (xs (nI (i + 1)).toNatClampNeg) hv1 _ h) ⟨⟨w_910, w_61, w_913⟩, pl_X9_pass, ⟨(Nat.le_of_ble_eq_true rfl), (Nat.le_of_ble_eq_true rfl)⟩, hcs⟩ ⟨w_911, w_912⟩ rfl hl.1 rfl (Nat.le_of_ble_eq_true rfl) dL_500) (fun r2 hv2 h H locs hW hS => ?_)
  exact lv_icmp_eq (tgt := 1309) hx hb dL_503 (by decide) (fun _ => next hv2 H locs h.2 hW hS) (fun z => absurd h.1 z)
set_option maxHeartbeats 4000000 in
set_option maxRecDepth 100000 in
theorem law_undo {p : Program} {l : Launch} {e : Env} {s : State} {m : MethodId} {args : Array Value} {below : List Frame} {meth : Method} {c : Code} {H : Heap} {locs : List Loc} {cells slots : Nat} {Q : State → Prop} {G : wG} {ls : Array Slot} {b L i B : Nat} {xs : Nat → Int32} {hv : HV} (C0 : cx p s m args meth c "RamStationLaw" code 4 G) (hX : va_X b L xs s s.heap) (hbl : b < s.heap.size) (hi : i + 6 ≤ L) (hL : L ≤ 3072) (hB : B + 65000 < 2 ^ 31) (hRel : Rel B hv) (hW : wd G (lA s) hv H) (hS : va_S (lA s) s.heap H locs) (hl : lv_has ls 4 [(0, .ref b), (1, .ref (ad G 8 0)), (2, .ref (ad G 9 0)), (3, .int (nI i))]) (hcs : cells ≤ room_1.cells ∧ slots ≤ room_1.slots)
    (next : ∀ (hv' : HV) (H1 : Heap) (locs1 : List Loc), Rel (B + 64000) hv' → wd G (lA s) hv' H1 → va_S (lA s) s.heap H1 locs1 → W p l e room_1 s m args below meth c H1 locs1 cells slots Q (F0 m 1309 ls [])) : W p l e room_1 s m args below meth c H locs cells slots Q (F0 m 508 ls []) := by
  have hx := C0.1
  have hb := C0.2.1
  have hbA : ¬ lA s b := Nat.not_le.mpr hbl
  refine lv_aload_n hx hb dL_508 rfl (lv_at hl 1 rfl) ?_
  refine w_ci hS (w_runV (As := []) C0 hW 8 0 (by decide) (by decide) rfl rfl (c_X8_undo l G (lA s) hv _ (J_undo B hv hB hRel)) ⟨⟨w_525, w_51, w_528⟩, pl_X8_undo, ⟨(Nat.le_of_ble_eq_true rfl), (Nat.le_of_ble_eq_true rfl)⟩, hcs⟩ ⟨w_526, w_527⟩ rfl hl.1 rfl (Nat.le_of_ble_eq_true rfl) dL_509) (fun r hv1 h H locs hW hS => ?_)
  refine lv_aload_n hx hb dL_512 rfl (lv_at hl 2 rfl) ?_
  refine w_ci hS (w_runV (As := []) C0 hW 9 0 (by decide) (by decide) rfl rfl (c_X9_undo l G (lA s) hv1 _ h) ⟨⟨w_820, w_61, w_823⟩, pl_X9_undo, ⟨(Nat.le_of_ble_eq_true rfl), (Nat.le_of_ble_eq_true rfl)⟩, hcs⟩ ⟨w_821, w_822⟩ rfl hl.1 rfl (Nat.le_of_ble_eq_true rfl) dL_513) (fun r2 hv2 h H locs hW hS => ?_)
  exact lv_icmp_eq (tgt := 1309) hx hb dL_516 (by decide) (fun _ => next hv2 H locs h.2 hW hS) (fun z => absurd h.1 z)
set_option maxHeartbeats 4000000 in
set_option maxRecDepth 100000 in
theorem law_type {p : Program} {l : Launch} {e : Env} {s : State} {m : MethodId} {args : Array Value} {below : List Frame} {meth : Method} {c : Code} {H : Heap} {locs : List Loc} {cells slots : Nat} {Q : State → Prop} {G : wG} {ls : Array Slot} {b L i B : Nat} {xs : Nat → Int32} {hv : HV} (C0 : cx p s m args meth c "RamStationLaw" code 4 G) (hX : va_X b L xs s s.heap) (hbl : b < s.heap.size) (hi : i + 6 ≤ L) (hL : L ≤ 3072) (hB : B + 65000 < 2 ^ 31) (hRel : Rel B hv) (hW : wd G (lA s) hv H) (hS : va_S (lA s) s.heap H locs) (hl : lv_has ls 4 [(0, .ref b), (1, .ref (ad G 8 0)), (2, .ref (ad G 9 0)), (3, .int (nI i))]) (hcs : cells ≤ room_1.cells ∧ slots ≤ room_1.slots)
    (next : ∀ (hv' : HV) (H1 : Heap) (locs1 : List Loc), Rel (B + 64000) hv' → wd G (lA s) hv' H1 → va_S (lA s) s.heap H1 locs1 → W p l e room_1 s m args below meth c H1 locs1 cells slots Q (F0 m 1309 ls [])) : W p l e room_1 s m args below meth c H locs cells slots Q (F0 m 521 ls []) := by
  have hx := C0.1
  have hb := C0.2.1
  have hbA : ¬ lA s b := Nat.not_le.mpr hbl
  refine lv_aload_n hx hb dL_521 rfl (lv_at hl 1 rfl) ?_
  refine lv_aload_n hx hb dL_522 rfl (lv_at hl 0 rfl) ?_
  refine lv_iload_n hx hb dL_523 rfl (lv_at hl 3 rfl) ?_
  refine lv_iconst (v := 1) hx hb dL_524 (by decide) ?_
  refine lv_iadd hx hb dL_525 ?_
  refine w_top (y := nI (i + 1)) (nI_add i 1) ?_
  refine va_sld hx hb hX hbl hbA hS (vp_in_nI (by omega) (by omega)) dL_526 ?_
  refine w_ci hS (w_runV (As := [.int (xs (nI (i + 1)).toNatClampNeg)]) C0 hW 8 0 (by decide) (by decide) rfl rfl (c_X8_type l G (lA s) (xs (nI (i + 1)).toNatClampNeg) hv _ (J_type (xs (nI (i + 1)).toNatClampNeg) B hv hB hRel)) ⟨⟨w_529, w_51, w_532⟩, pl_X8_type, ⟨(Nat.le_of_ble_eq_true rfl), (Nat.le_of_ble_eq_true rfl)⟩, hcs⟩ ⟨w_530, w_531⟩ rfl hl.1 rfl (Nat.le_of_ble_eq_true rfl) dL_527) (fun r hv1 h H locs hW hS => ?_)
  refine lv_aload_n hx hb dL_530 rfl (lv_at hl 2 rfl) ?_
  refine lv_aload_n hx hb dL_531 rfl (lv_at hl 0 rfl) ?_
  refine lv_iload_n hx hb dL_532 rfl (lv_at hl 3 rfl) ?_
  refine lv_iconst (v := 1) hx hb dL_533 (by decide) ?_
  refine lv_iadd hx hb dL_534 ?_
  refine w_top (y := nI (i + 1)) (nI_add i 1) ?_
  refine va_sld hx hb hX hbl hbA hS (vp_in_nI (by omega) (by omega)) dL_535 ?_
  refine w_ci hS (w_runV (As := [.int (xs (nI (i + 1)).toNatClampNeg)]) C0 hW 9 0 (by decide) (by decide) rfl rfl (c_X9_type l G (lA s) (xs (nI (i + 1)).toNatClampNeg) hv1 _ h) ⟨⟨w_967, w_61, w_970⟩, pl_X9_type, ⟨(Nat.le_of_ble_eq_true rfl), (Nat.le_of_ble_eq_true rfl)⟩, hcs⟩ ⟨w_968, w_969⟩ rfl hl.1 rfl (Nat.le_of_ble_eq_true rfl) dL_536) (fun r2 hv2 h H locs hW hS => ?_)
  exact lv_icmp_eq (tgt := 1309) hx hb dL_539 (by decide) (fun _ => next hv2 H locs h.2 hW hS) (fun z => absurd h.1 z)
set_option maxHeartbeats 4000000 in
set_option maxRecDepth 100000 in
theorem law_clearText {p : Program} {l : Launch} {e : Env} {s : State} {m : MethodId} {args : Array Value} {below : List Frame} {meth : Method} {c : Code} {H : Heap} {locs : List Loc} {cells slots : Nat} {Q : State → Prop} {G : wG} {ls : Array Slot} {b L i B : Nat} {xs : Nat → Int32} {hv : HV} (C0 : cx p s m args meth c "RamStationLaw" code 4 G) (hX : va_X b L xs s s.heap) (hbl : b < s.heap.size) (hi : i + 6 ≤ L) (hL : L ≤ 3072) (hB : B + 65000 < 2 ^ 31) (hRel : Rel B hv) (hW : wd G (lA s) hv H) (hS : va_S (lA s) s.heap H locs) (hl : lv_has ls 4 [(0, .ref b), (1, .ref (ad G 8 0)), (2, .ref (ad G 9 0)), (3, .int (nI i))]) (hcs : cells ≤ room_1.cells ∧ slots ≤ room_1.slots)
    (next : ∀ (hv' : HV) (H1 : Heap) (locs1 : List Loc), Rel (B + 64000) hv' → wd G (lA s) hv' H1 → va_S (lA s) s.heap H1 locs1 → W p l e room_1 s m args below meth c H1 locs1 cells slots Q (F0 m 1309 ls [])) : W p l e room_1 s m args below meth c H locs cells slots Q (F0 m 544 ls []) := by
  have hx := C0.1
  have hb := C0.2.1
  have hbA : ¬ lA s b := Nat.not_le.mpr hbl
  refine lv_aload_n hx hb dL_544 rfl (lv_at hl 1 rfl) ?_
  refine w_ci hS (w_runV (As := []) C0 hW 8 0 (by decide) (by decide) rfl rfl (c_X8_clearText l G (lA s) hv _ (J_clearText B hv hB hRel)) ⟨⟨w_533, w_51, w_536⟩, pl_X8_clearText, ⟨(Nat.le_of_ble_eq_true rfl), (Nat.le_of_ble_eq_true rfl)⟩, hcs⟩ ⟨w_534, w_535⟩ rfl hl.1 rfl (Nat.le_of_ble_eq_true rfl) dL_545) (fun r hv1 h H locs hW hS => ?_)
  refine lv_aload_n hx hb dL_548 rfl (lv_at hl 2 rfl) ?_
  refine w_ci hS (w_runV (As := []) C0 hW 9 0 (by decide) (by decide) rfl rfl (c_X9_clearText l G (lA s) hv1 _ h) ⟨⟨w_971, w_61, w_974⟩, pl_X9_clearText, ⟨(Nat.le_of_ble_eq_true rfl), (Nat.le_of_ble_eq_true rfl)⟩, hcs⟩ ⟨w_972, w_973⟩ rfl hl.1 rfl (Nat.le_of_ble_eq_true rfl) dL_549) (fun r2 hv2 h H locs hW hS => ?_)
  exact lv_icmp_eq (tgt := 1309) hx hb dL_552 (by decide) (fun _ => next hv2 H locs h.2 hW hS) (fun z => absurd h.1 z)
set_option maxHeartbeats 4000000 in
set_option maxRecDepth 100000 in
theorem law_syntaxError {p : Program} {l : Launch} {e : Env} {s : State} {m : MethodId} {args : Array Value} {below : List Frame} {meth : Method} {c : Code} {H : Heap} {locs : List Loc} {cells slots : Nat} {Q : State → Prop} {G : wG} {ls : Array Slot} {b L i B : Nat} {xs : Nat → Int32} {hv : HV} (C0 : cx p s m args meth c "RamStationLaw" code 4 G) (hX : va_X b L xs s s.heap) (hbl : b < s.heap.size) (hi : i + 6 ≤ L) (hL : L ≤ 3072) (hB : B + 65000 < 2 ^ 31) (hRel : Rel B hv) (hW : wd G (lA s) hv H) (hS : va_S (lA s) s.heap H locs) (hl : lv_has ls 4 [(0, .ref b), (1, .ref (ad G 8 0)), (2, .ref (ad G 9 0)), (3, .int (nI i))]) (hcs : cells ≤ room_1.cells ∧ slots ≤ room_1.slots)
    (next : ∀ (hv' : HV) (H1 : Heap) (locs1 : List Loc), Rel (B + 64000) hv' → wd G (lA s) hv' H1 → va_S (lA s) s.heap H1 locs1 → W p l e room_1 s m args below meth c H1 locs1 cells slots Q (F0 m 1309 ls [])) : W p l e room_1 s m args below meth c H locs cells slots Q (F0 m 557 ls []) := by
  have hx := C0.1
  have hb := C0.2.1
  have hbA : ¬ lA s b := Nat.not_le.mpr hbl
  refine lv_aload_n hx hb dL_557 rfl (lv_at hl 1 rfl) ?_
  refine w_ci hS (w_runV (As := []) C0 hW 8 0 (by decide) (by decide) rfl rfl (c_X8_syntaxError l G (lA s) hv _ (J_syntaxError B hv hB hRel)) ⟨⟨w_537, w_51, w_540⟩, pl_X8_syntaxError, ⟨(Nat.le_of_ble_eq_true rfl), (Nat.le_of_ble_eq_true rfl)⟩, hcs⟩ ⟨w_538, w_539⟩ rfl hl.1 rfl (Nat.le_of_ble_eq_true rfl) dL_558) (fun r hv1 h H locs hW hS => ?_)
  refine lv_aload_n hx hb dL_561 rfl (lv_at hl 2 rfl) ?_
  refine w_ci hS (w_runV (As := []) C0 hW 9 0 (by decide) (by decide) rfl rfl (c_X9_syntaxError l G (lA s) hv1 _ h) ⟨⟨w_975, w_61, w_978⟩, pl_X9_syntaxError, ⟨(Nat.le_of_ble_eq_true rfl), (Nat.le_of_ble_eq_true rfl)⟩, hcs⟩ ⟨w_976, w_977⟩ rfl hl.1 rfl (Nat.le_of_ble_eq_true rfl) dL_562) (fun r2 hv2 h H locs hW hS => ?_)
  exact lv_icmp_eq (tgt := 1309) hx hb dL_565 (by decide) (fun _ => next hv2 H locs h.2 hW hS) (fun z => absurd h.1 z)
set_option maxHeartbeats 4000000 in
set_option maxRecDepth 100000 in
theorem law_execute {p : Program} {l : Launch} {e : Env} {s : State} {m : MethodId} {args : Array Value} {below : List Frame} {meth : Method} {c : Code} {H : Heap} {locs : List Loc} {cells slots : Nat} {Q : State → Prop} {G : wG} {ls : Array Slot} {b L i B : Nat} {xs : Nat → Int32} {hv : HV} (C0 : cx p s m args meth c "RamStationLaw" code 4 G) (hX : va_X b L xs s s.heap) (hbl : b < s.heap.size) (hi : i + 6 ≤ L) (hL : L ≤ 3072) (hB : B + 65000 < 2 ^ 31) (hRel : Rel B hv) (hW : wd G (lA s) hv H) (hS : va_S (lA s) s.heap H locs) (hl : lv_has ls 4 [(0, .ref b), (1, .ref (ad G 8 0)), (2, .ref (ad G 9 0)), (3, .int (nI i))]) (hcs : cells ≤ room_1.cells ∧ slots ≤ room_1.slots)
    (next : ∀ (hv' : HV) (H1 : Heap) (locs1 : List Loc), Rel (B + 64000) hv' → wd G (lA s) hv' H1 → va_S (lA s) s.heap H1 locs1 → W p l e room_1 s m args below meth c H1 locs1 cells slots Q (F0 m 1309 ls [])) : W p l e room_1 s m args below meth c H locs cells slots Q (F0 m 570 ls []) := by
  have hx := C0.1
  have hb := C0.2.1
  have hbA : ¬ lA s b := Nat.not_le.mpr hbl
  refine lv_aload_n hx hb dL_570 rfl (lv_at hl 1 rfl) ?_
  refine w_ci hS (w_runV (As := []) C0 hW 8 0 (by decide) (by decide) rfl rfl (c_X8_execute l G (lA s) hv _ (J_execute B hv hB hRel)) ⟨⟨w_565, w_51, w_568⟩, pl_X8_execute, ⟨(Nat.le_of_ble_eq_true rfl), (Nat.le_of_ble_eq_true rfl)⟩, hcs⟩ ⟨w_566, w_567⟩ rfl hl.1 rfl (Nat.le_of_ble_eq_true rfl) dL_571) (fun r hv1 h H locs hW hS => ?_)
  refine lv_aload_n hx hb dL_574 rfl (lv_at hl 2 rfl) ?_
  refine w_ci hS (w_runV (As := []) C0 hW 9 0 (by decide) (by decide) rfl rfl (c_X9_execute l G (lA s) hv1 _ h) ⟨⟨w_1003, w_61, w_1006⟩, pl_X9_execute, ⟨(Nat.le_of_ble_eq_true rfl), (Nat.le_of_ble_eq_true rfl)⟩, hcs⟩ ⟨w_1004, w_1005⟩ rfl hl.1 rfl (Nat.le_of_ble_eq_true rfl) dL_575) (fun r2 hv2 h H locs hW hS => ?_)
  exact lv_icmp_eq (tgt := 1309) hx hb dL_578 (by decide) (fun _ => next hv2 H locs h.2 hW hS) (fun z => absurd h.1 z)
set_option maxHeartbeats 4000000 in
set_option maxRecDepth 100000 in
theorem law_failure {p : Program} {l : Launch} {e : Env} {s : State} {m : MethodId} {args : Array Value} {below : List Frame} {meth : Method} {c : Code} {H : Heap} {locs : List Loc} {cells slots : Nat} {Q : State → Prop} {G : wG} {ls : Array Slot} {b L i B : Nat} {xs : Nat → Int32} {hv : HV} (C0 : cx p s m args meth c "RamStationLaw" code 4 G) (hX : va_X b L xs s s.heap) (hbl : b < s.heap.size) (hi : i + 6 ≤ L) (hL : L ≤ 3072) (hB : B + 65000 < 2 ^ 31) (hRel : Rel B hv) (hW : wd G (lA s) hv H) (hS : va_S (lA s) s.heap H locs) (hl : lv_has ls 4 [(0, .ref b), (1, .ref (ad G 8 0)), (2, .ref (ad G 9 0)), (3, .int (nI i))]) (hcs : cells ≤ room_1.cells ∧ slots ≤ room_1.slots)
    (next : ∀ (hv' : HV) (H1 : Heap) (locs1 : List Loc), Rel (B + 64000) hv' → wd G (lA s) hv' H1 → va_S (lA s) s.heap H1 locs1 → W p l e room_1 s m args below meth c H1 locs1 cells slots Q (F0 m 1309 ls [])) : W p l e room_1 s m args below meth c H locs cells slots Q (F0 m 583 ls []) := by
  have hx := C0.1
  have hb := C0.2.1
  have hbA : ¬ lA s b := Nat.not_le.mpr hbl
  refine lv_aload_n hx hb dL_583 rfl (lv_at hl 1 rfl) ?_
  refine w_ci hS (w_runV (As := []) C0 hW 8 0 (by decide) (by decide) rfl rfl (c_X8_failure l G (lA s) hv _ (J_failure B hv hB hRel)) ⟨⟨w_592, w_51, w_595⟩, pl_X8_failure, ⟨(Nat.le_of_ble_eq_true rfl), (Nat.le_of_ble_eq_true rfl)⟩, hcs⟩ ⟨w_593, w_594⟩ rfl hl.1 rfl (Nat.le_of_ble_eq_true rfl) dL_584) (fun r hv1 h H locs hW hS => ?_)
  refine lv_aload_n hx hb dL_587 rfl (lv_at hl 2 rfl) ?_
  refine w_ci hS (w_runV (As := []) C0 hW 9 0 (by decide) (by decide) rfl rfl (c_X9_failure l G (lA s) hv1 _ h) ⟨⟨w_1011, w_61, w_1014⟩, pl_X9_failure, ⟨(Nat.le_of_ble_eq_true rfl), (Nat.le_of_ble_eq_true rfl)⟩, hcs⟩ ⟨w_1012, w_1013⟩ rfl hl.1 rfl (Nat.le_of_ble_eq_true rfl) dL_588) (fun r2 hv2 h H locs hW hS => ?_)
  exact lv_icmp_eq (tgt := 1309) hx hb dL_591 (by decide) (fun _ => next hv2 H locs h.2 hW hS) (fun z => absurd h.1 z)
set_option maxHeartbeats 4000000 in
set_option maxRecDepth 100000 in
theorem law_time {p : Program} {l : Launch} {e : Env} {s : State} {m : MethodId} {args : Array Value} {below : List Frame} {meth : Method} {c : Code} {H : Heap} {locs : List Loc} {cells slots : Nat} {Q : State → Prop} {G : wG} {ls : Array Slot} {b L i B : Nat} {xs : Nat → Int32} {hv : HV} (C0 : cx p s m args meth c "RamStationLaw" code 4 G) (hX : va_X b L xs s s.heap) (hbl : b < s.heap.size) (hi : i + 6 ≤ L) (hL : L ≤ 3072) (hB : B + 65000 < 2 ^ 31) (hRel : Rel B hv) (hW : wd G (lA s) hv H) (hS : va_S (lA s) s.heap H locs) (hl : lv_has ls 4 [(0, .ref b), (1, .ref (ad G 8 0)), (2, .ref (ad G 9 0)), (3, .int (nI i))]) (hcs : cells ≤ room_1.cells ∧ slots ≤ room_1.slots)
    (next : ∀ (hv' : HV) (H1 : Heap) (locs1 : List Loc), Rel (B + 64000) hv' → wd G (lA s) hv' H1 → va_S (lA s) s.heap H1 locs1 → W p l e room_1 s m args below meth c H1 locs1 cells slots Q (F0 m 1309 ls [])) : W p l e room_1 s m args below meth c H locs cells slots Q (F0 m 596 ls []) := by
  have hx := C0.1
  have hb := C0.2.1
  have hbA : ¬ lA s b := Nat.not_le.mpr hbl
  refine lv_aload_n hx hb dL_596 rfl (lv_at hl 1 rfl) ?_
  refine w_ci hS (w_runV (As := []) C0 hW 8 0 (by decide) (by decide) rfl rfl (c_X8_time l G (lA s) hv _ (J_time B hv hB hRel)) ⟨⟨w_596, w_51, w_599⟩, pl_X8_time, ⟨(Nat.le_of_ble_eq_true rfl), (Nat.le_of_ble_eq_true rfl)⟩, hcs⟩ ⟨w_597, w_598⟩ rfl hl.1 rfl (Nat.le_of_ble_eq_true rfl) dL_597) (fun r hv1 h H locs hW hS => ?_)
  refine lv_aload_n hx hb dL_600 rfl (lv_at hl 2 rfl) ?_
  refine w_ci hS (w_runV (As := []) C0 hW 9 0 (by decide) (by decide) rfl rfl (c_X9_time l G (lA s) hv1 _ h) ⟨⟨w_1015, w_61, w_1018⟩, pl_X9_time, ⟨(Nat.le_of_ble_eq_true rfl), (Nat.le_of_ble_eq_true rfl)⟩, hcs⟩ ⟨w_1016, w_1017⟩ rfl hl.1 rfl (Nat.le_of_ble_eq_true rfl) dL_601) (fun r2 hv2 h H locs hW hS => ?_)
  exact lv_icmp_eq (tgt := 1309) hx hb dL_604 (by decide) (fun _ => next hv2 H locs h.2 hW hS) (fun z => absurd h.1 z)
set_option maxHeartbeats 4000000 in
set_option maxRecDepth 100000 in
theorem law_basin {p : Program} {l : Launch} {e : Env} {s : State} {m : MethodId} {args : Array Value} {below : List Frame} {meth : Method} {c : Code} {H : Heap} {locs : List Loc} {cells slots : Nat} {Q : State → Prop} {G : wG} {ls : Array Slot} {b L i B : Nat} {xs : Nat → Int32} {hv : HV} (C0 : cx p s m args meth c "RamStationLaw" code 4 G) (hX : va_X b L xs s s.heap) (hbl : b < s.heap.size) (hi : i + 6 ≤ L) (hL : L ≤ 3072) (hB : B + 65000 < 2 ^ 31) (hRel : Rel B hv) (hW : wd G (lA s) hv H) (hS : va_S (lA s) s.heap H locs) (hl : lv_has ls 4 [(0, .ref b), (1, .ref (ad G 8 0)), (2, .ref (ad G 9 0)), (3, .int (nI i))]) (hcs : cells ≤ room_1.cells ∧ slots ≤ room_1.slots)
    (next : ∀ (hv' : HV) (H1 : Heap) (locs1 : List Loc), Rel (B + 64000) hv' → wd G (lA s) hv' H1 → va_S (lA s) s.heap H1 locs1 → W p l e room_1 s m args below meth c H1 locs1 cells slots Q (F0 m 1309 ls [])) : W p l e room_1 s m args below meth c H locs cells slots Q (F0 m 609 ls []) := by
  have hx := C0.1
  have hb := C0.2.1
  have hbA : ¬ lA s b := Nat.not_le.mpr hbl
  refine lv_aload_n hx hb dL_609 rfl (lv_at hl 1 rfl) ?_
  refine w_ci hS (w_runV (As := []) C0 hW 8 0 (by decide) (by decide) rfl rfl (c_X8_basin l G (lA s) hv _ (J_basin B hv hB hRel)) ⟨⟨w_600, w_51, w_603⟩, pl_X8_basin, ⟨(Nat.le_of_ble_eq_true rfl), (Nat.le_of_ble_eq_true rfl)⟩, hcs⟩ ⟨w_601, w_602⟩ rfl hl.1 rfl (Nat.le_of_ble_eq_true rfl) dL_610) (fun r hv1 h H locs hW hS => ?_)
  refine lv_aload_n hx hb dL_613 rfl (lv_at hl 2 rfl) ?_
  refine w_ci hS (w_runV (As := []) C0 hW 9 0 (by decide) (by decide) rfl rfl (c_X9_basin l G (lA s) hv1 _ h) ⟨⟨w_1019, w_61, w_1022⟩, pl_X9_basin, ⟨(Nat.le_of_ble_eq_true rfl), (Nat.le_of_ble_eq_true rfl)⟩, hcs⟩ ⟨w_1020, w_1021⟩ rfl hl.1 rfl (Nat.le_of_ble_eq_true rfl) dL_614) (fun r2 hv2 h H locs hW hS => ?_)
  exact lv_icmp_eq (tgt := 1309) hx hb dL_617 (by decide) (fun _ => next hv2 H locs h.2 hW hS) (fun z => absurd h.1 z)
set_option maxHeartbeats 4000000 in
set_option maxRecDepth 100000 in
theorem law_spilled {p : Program} {l : Launch} {e : Env} {s : State} {m : MethodId} {args : Array Value} {below : List Frame} {meth : Method} {c : Code} {H : Heap} {locs : List Loc} {cells slots : Nat} {Q : State → Prop} {G : wG} {ls : Array Slot} {b L i B : Nat} {xs : Nat → Int32} {hv : HV} (C0 : cx p s m args meth c "RamStationLaw" code 4 G) (hX : va_X b L xs s s.heap) (hbl : b < s.heap.size) (hi : i + 6 ≤ L) (hL : L ≤ 3072) (hB : B + 65000 < 2 ^ 31) (hRel : Rel B hv) (hW : wd G (lA s) hv H) (hS : va_S (lA s) s.heap H locs) (hl : lv_has ls 4 [(0, .ref b), (1, .ref (ad G 8 0)), (2, .ref (ad G 9 0)), (3, .int (nI i))]) (hcs : cells ≤ room_1.cells ∧ slots ≤ room_1.slots)
    (next : ∀ (hv' : HV) (H1 : Heap) (locs1 : List Loc), Rel (B + 64000) hv' → wd G (lA s) hv' H1 → va_S (lA s) s.heap H1 locs1 → W p l e room_1 s m args below meth c H1 locs1 cells slots Q (F0 m 1309 ls [])) : W p l e room_1 s m args below meth c H locs cells slots Q (F0 m 622 ls []) := by
  have hx := C0.1
  have hb := C0.2.1
  have hbA : ¬ lA s b := Nat.not_le.mpr hbl
  refine lv_aload_n hx hb dL_622 rfl (lv_at hl 1 rfl) ?_
  refine w_ci hS (w_runV (As := []) C0 hW 8 0 (by decide) (by decide) rfl rfl (c_X8_spilled l G (lA s) hv _ (J_spilled B hv hB hRel)) ⟨⟨w_604, w_51, w_607⟩, pl_X8_spilled, ⟨(Nat.le_of_ble_eq_true rfl), (Nat.le_of_ble_eq_true rfl)⟩, hcs⟩ ⟨w_605, w_606⟩ rfl hl.1 rfl (Nat.le_of_ble_eq_true rfl) dL_623) (fun r hv1 h H locs hW hS => ?_)
  refine lv_aload_n hx hb dL_626 rfl (lv_at hl 2 rfl) ?_
  refine w_ci hS (w_runV (As := []) C0 hW 9 0 (by decide) (by decide) rfl rfl (c_X9_spilled l G (lA s) hv1 _ h) ⟨⟨w_1023, w_61, w_1026⟩, pl_X9_spilled, ⟨(Nat.le_of_ble_eq_true rfl), (Nat.le_of_ble_eq_true rfl)⟩, hcs⟩ ⟨w_1024, w_1025⟩ rfl hl.1 rfl (Nat.le_of_ble_eq_true rfl) dL_627) (fun r2 hv2 h H locs hW hS => ?_)
  exact lv_icmp_eq (tgt := 1309) hx hb dL_630 (by decide) (fun _ => next hv2 H locs h.2 hW hS) (fun z => absurd h.1 z)
set_option maxHeartbeats 4000000 in
set_option maxRecDepth 100000 in
theorem law_pumps {p : Program} {l : Launch} {e : Env} {s : State} {m : MethodId} {args : Array Value} {below : List Frame} {meth : Method} {c : Code} {H : Heap} {locs : List Loc} {cells slots : Nat} {Q : State → Prop} {G : wG} {ls : Array Slot} {b L i B : Nat} {xs : Nat → Int32} {hv : HV} (C0 : cx p s m args meth c "RamStationLaw" code 4 G) (hX : va_X b L xs s s.heap) (hbl : b < s.heap.size) (hi : i + 6 ≤ L) (hL : L ≤ 3072) (hB : B + 65000 < 2 ^ 31) (hRel : Rel B hv) (hW : wd G (lA s) hv H) (hS : va_S (lA s) s.heap H locs) (hl : lv_has ls 4 [(0, .ref b), (1, .ref (ad G 8 0)), (2, .ref (ad G 9 0)), (3, .int (nI i))]) (hcs : cells ≤ room_1.cells ∧ slots ≤ room_1.slots)
    (next : ∀ (hv' : HV) (H1 : Heap) (locs1 : List Loc), Rel (B + 64000) hv' → wd G (lA s) hv' H1 → va_S (lA s) s.heap H1 locs1 → W p l e room_1 s m args below meth c H1 locs1 cells slots Q (F0 m 1309 ls [])) : W p l e room_1 s m args below meth c H locs cells slots Q (F0 m 635 ls []) := by
  have hx := C0.1
  have hb := C0.2.1
  have hbA : ¬ lA s b := Nat.not_le.mpr hbl
  refine lv_aload_n hx hb dL_635 rfl (lv_at hl 1 rfl) ?_
  refine w_ci hS (w_runV (As := []) C0 hW 8 0 (by decide) (by decide) rfl rfl (c_X8_pumps l G (lA s) hv _ (J_pumps B hv hB hRel)) ⟨⟨w_608, w_51, w_611⟩, pl_X8_pumps, ⟨(Nat.le_of_ble_eq_true rfl), (Nat.le_of_ble_eq_true rfl)⟩, hcs⟩ ⟨w_609, w_610⟩ rfl hl.1 rfl (Nat.le_of_ble_eq_true rfl) dL_636) (fun r hv1 h H locs hW hS => ?_)
  refine lv_aload_n hx hb dL_639 rfl (lv_at hl 2 rfl) ?_
  refine w_ci hS (w_runV (As := []) C0 hW 9 0 (by decide) (by decide) rfl rfl (c_X9_pumps l G (lA s) hv1 _ h) ⟨⟨w_1027, w_61, w_1030⟩, pl_X9_pumps, ⟨(Nat.le_of_ble_eq_true rfl), (Nat.le_of_ble_eq_true rfl)⟩, hcs⟩ ⟨w_1028, w_1029⟩ rfl hl.1 rfl (Nat.le_of_ble_eq_true rfl) dL_640) (fun r2 hv2 h H locs hW hS => ?_)
  exact lv_icmp_eq (tgt := 1309) hx hb dL_643 (by decide) (fun _ => next hv2 H locs h.2 hW hS) (fun z => absurd h.1 z)
set_option maxHeartbeats 4000000 in
set_option maxRecDepth 100000 in
theorem law_incidents {p : Program} {l : Launch} {e : Env} {s : State} {m : MethodId} {args : Array Value} {below : List Frame} {meth : Method} {c : Code} {H : Heap} {locs : List Loc} {cells slots : Nat} {Q : State → Prop} {G : wG} {ls : Array Slot} {b L i B : Nat} {xs : Nat → Int32} {hv : HV} (C0 : cx p s m args meth c "RamStationLaw" code 4 G) (hX : va_X b L xs s s.heap) (hbl : b < s.heap.size) (hi : i + 6 ≤ L) (hL : L ≤ 3072) (hB : B + 65000 < 2 ^ 31) (hRel : Rel B hv) (hW : wd G (lA s) hv H) (hS : va_S (lA s) s.heap H locs) (hl : lv_has ls 4 [(0, .ref b), (1, .ref (ad G 8 0)), (2, .ref (ad G 9 0)), (3, .int (nI i))]) (hcs : cells ≤ room_1.cells ∧ slots ≤ room_1.slots)
    (next : ∀ (hv' : HV) (H1 : Heap) (locs1 : List Loc), Rel (B + 64000) hv' → wd G (lA s) hv' H1 → va_S (lA s) s.heap H1 locs1 → W p l e room_1 s m args below meth c H1 locs1 cells slots Q (F0 m 1309 ls [])) : W p l e room_1 s m args below meth c H locs cells slots Q (F0 m 648 ls []) := by
  have hx := C0.1
  have hb := C0.2.1
  have hbA : ¬ lA s b := Nat.not_le.mpr hbl
  refine lv_aload_n hx hb dL_648 rfl (lv_at hl 1 rfl) ?_
  refine w_ci hS (w_runV (As := []) C0 hW 8 0 (by decide) (by decide) rfl rfl (c_X8_incidents l G (lA s) hv _ (J_incidents B hv hB hRel)) ⟨⟨w_612, w_51, w_615⟩, pl_X8_incidents, ⟨(Nat.le_of_ble_eq_true rfl), (Nat.le_of_ble_eq_true rfl)⟩, hcs⟩ ⟨w_613, w_614⟩ rfl hl.1 rfl (Nat.le_of_ble_eq_true rfl) dL_649) (fun r hv1 h H locs hW hS => ?_)
  refine lv_aload_n hx hb dL_652 rfl (lv_at hl 2 rfl) ?_
  refine w_ci hS (w_runV (As := []) C0 hW 9 0 (by decide) (by decide) rfl rfl (c_X9_incidents l G (lA s) hv1 _ h) ⟨⟨w_1031, w_61, w_1034⟩, pl_X9_incidents, ⟨(Nat.le_of_ble_eq_true rfl), (Nat.le_of_ble_eq_true rfl)⟩, hcs⟩ ⟨w_1032, w_1033⟩ rfl hl.1 rfl (Nat.le_of_ble_eq_true rfl) dL_653) (fun r2 hv2 h H locs hW hS => ?_)
  exact lv_icmp_eq (tgt := 1309) hx hb dL_656 (by decide) (fun _ => next hv2 H locs h.2 hW hS) (fun z => absurd h.1 z)
set_option maxHeartbeats 4000000 in
set_option maxRecDepth 100000 in
theorem law_incidentKind {p : Program} {l : Launch} {e : Env} {s : State} {m : MethodId} {args : Array Value} {below : List Frame} {meth : Method} {c : Code} {H : Heap} {locs : List Loc} {cells slots : Nat} {Q : State → Prop} {G : wG} {ls : Array Slot} {b L i B : Nat} {xs : Nat → Int32} {hv : HV} (C0 : cx p s m args meth c "RamStationLaw" code 4 G) (hX : va_X b L xs s s.heap) (hbl : b < s.heap.size) (hi : i + 6 ≤ L) (hL : L ≤ 3072) (hB : B + 65000 < 2 ^ 31) (hRel : Rel B hv) (hW : wd G (lA s) hv H) (hS : va_S (lA s) s.heap H locs) (hl : lv_has ls 4 [(0, .ref b), (1, .ref (ad G 8 0)), (2, .ref (ad G 9 0)), (3, .int (nI i))]) (hcs : cells ≤ room_1.cells ∧ slots ≤ room_1.slots)
    (next : ∀ (hv' : HV) (H1 : Heap) (locs1 : List Loc), Rel (B + 64000) hv' → wd G (lA s) hv' H1 → va_S (lA s) s.heap H1 locs1 → W p l e room_1 s m args below meth c H1 locs1 cells slots Q (F0 m 1309 ls [])) : W p l e room_1 s m args below meth c H locs cells slots Q (F0 m 661 ls []) := by
  have hx := C0.1
  have hb := C0.2.1
  have hbA : ¬ lA s b := Nat.not_le.mpr hbl
  refine lv_aload_n hx hb dL_661 rfl (lv_at hl 1 rfl) ?_
  refine lv_aload_n hx hb dL_662 rfl (lv_at hl 0 rfl) ?_
  refine lv_iload_n hx hb dL_663 rfl (lv_at hl 3 rfl) ?_
  refine lv_iconst (v := 1) hx hb dL_664 (by decide) ?_
  refine lv_iadd hx hb dL_665 ?_
  refine w_top (y := nI (i + 1)) (nI_add i 1) ?_
  refine va_sld hx hb hX hbl hbA hS (vp_in_nI (by omega) (by omega)) dL_666 ?_
  refine w_ci hS (w_runV (As := [.int (xs (nI (i + 1)).toNatClampNeg)]) C0 hW 8 0 (by decide) (by decide) rfl rfl (c_X8_incidentKind l G (lA s) (xs (nI (i + 1)).toNatClampNeg) hv _ (J_incidentKind (xs (nI (i + 1)).toNatClampNeg) B hv hB hRel)) ⟨⟨w_616, w_51, w_619⟩, pl_X8_incidentKind, ⟨(Nat.le_of_ble_eq_true rfl), (Nat.le_of_ble_eq_true rfl)⟩, hcs⟩ ⟨w_617, w_618⟩ rfl hl.1 rfl (Nat.le_of_ble_eq_true rfl) dL_667) (fun r hv1 h H locs hW hS => ?_)
  refine lv_aload_n hx hb dL_670 rfl (lv_at hl 2 rfl) ?_
  refine lv_aload_n hx hb dL_671 rfl (lv_at hl 0 rfl) ?_
  refine lv_iload_n hx hb dL_672 rfl (lv_at hl 3 rfl) ?_
  refine lv_iconst (v := 1) hx hb dL_673 (by decide) ?_
  refine lv_iadd hx hb dL_674 ?_
  refine w_top (y := nI (i + 1)) (nI_add i 1) ?_
  refine va_sld hx hb hX hbl hbA hS (vp_in_nI (by omega) (by omega)) dL_675 ?_
  refine w_ci hS (w_runV (As := [.int (xs (nI (i + 1)).toNatClampNeg)]) C0 hW 9 0 (by decide) (by decide) rfl rfl (c_X9_incidentKind l G (lA s) (xs (nI (i + 1)).toNatClampNeg) hv1 _ h) ⟨⟨w_1035, w_61, w_1038⟩, pl_X9_incidentKind, ⟨(Nat.le_of_ble_eq_true rfl), (Nat.le_of_ble_eq_true rfl)⟩, hcs⟩ ⟨w_1036, w_1037⟩ rfl hl.1 rfl (Nat.le_of_ble_eq_true rfl) dL_676) (fun r2 hv2 h H locs hW hS => ?_)
  exact lv_icmp_eq (tgt := 1309) hx hb dL_679 (by decide) (fun _ => next hv2 H locs h.2 hW hS) (fun z => absurd h.1 z)
set_option maxHeartbeats 4000000 in
set_option maxRecDepth 100000 in
theorem law_incidentPump {p : Program} {l : Launch} {e : Env} {s : State} {m : MethodId} {args : Array Value} {below : List Frame} {meth : Method} {c : Code} {H : Heap} {locs : List Loc} {cells slots : Nat} {Q : State → Prop} {G : wG} {ls : Array Slot} {b L i B : Nat} {xs : Nat → Int32} {hv : HV} (C0 : cx p s m args meth c "RamStationLaw" code 4 G) (hX : va_X b L xs s s.heap) (hbl : b < s.heap.size) (hi : i + 6 ≤ L) (hL : L ≤ 3072) (hB : B + 65000 < 2 ^ 31) (hRel : Rel B hv) (hW : wd G (lA s) hv H) (hS : va_S (lA s) s.heap H locs) (hl : lv_has ls 4 [(0, .ref b), (1, .ref (ad G 8 0)), (2, .ref (ad G 9 0)), (3, .int (nI i))]) (hcs : cells ≤ room_1.cells ∧ slots ≤ room_1.slots)
    (next : ∀ (hv' : HV) (H1 : Heap) (locs1 : List Loc), Rel (B + 64000) hv' → wd G (lA s) hv' H1 → va_S (lA s) s.heap H1 locs1 → W p l e room_1 s m args below meth c H1 locs1 cells slots Q (F0 m 1309 ls [])) : W p l e room_1 s m args below meth c H locs cells slots Q (F0 m 684 ls []) := by
  have hx := C0.1
  have hb := C0.2.1
  have hbA : ¬ lA s b := Nat.not_le.mpr hbl
  refine lv_aload_n hx hb dL_684 rfl (lv_at hl 1 rfl) ?_
  refine lv_aload_n hx hb dL_685 rfl (lv_at hl 0 rfl) ?_
  refine lv_iload_n hx hb dL_686 rfl (lv_at hl 3 rfl) ?_
  refine lv_iconst (v := 1) hx hb dL_687 (by decide) ?_
  refine lv_iadd hx hb dL_688 ?_
  refine w_top (y := nI (i + 1)) (nI_add i 1) ?_
  refine va_sld hx hb hX hbl hbA hS (vp_in_nI (by omega) (by omega)) dL_689 ?_
  refine w_ci hS (w_runV (As := [.int (xs (nI (i + 1)).toNatClampNeg)]) C0 hW 8 0 (by decide) (by decide) rfl rfl (c_X8_incidentPump l G (lA s) (xs (nI (i + 1)).toNatClampNeg) hv _ (J_incidentPump (xs (nI (i + 1)).toNatClampNeg) B hv hB hRel)) ⟨⟨w_625, w_51, w_628⟩, pl_X8_incidentPump, ⟨(Nat.le_of_ble_eq_true rfl), (Nat.le_of_ble_eq_true rfl)⟩, hcs⟩ ⟨w_626, w_627⟩ rfl hl.1 rfl (Nat.le_of_ble_eq_true rfl) dL_690) (fun r hv1 h H locs hW hS => ?_)
  refine lv_aload_n hx hb dL_693 rfl (lv_at hl 2 rfl) ?_
  refine lv_aload_n hx hb dL_694 rfl (lv_at hl 0 rfl) ?_
  refine lv_iload_n hx hb dL_695 rfl (lv_at hl 3 rfl) ?_
  refine lv_iconst (v := 1) hx hb dL_696 (by decide) ?_
  refine lv_iadd hx hb dL_697 ?_
  refine w_top (y := nI (i + 1)) (nI_add i 1) ?_
  refine va_sld hx hb hX hbl hbA hS (vp_in_nI (by omega) (by omega)) dL_698 ?_
  refine w_ci hS (w_runV (As := [.int (xs (nI (i + 1)).toNatClampNeg)]) C0 hW 9 0 (by decide) (by decide) rfl rfl (c_X9_incidentPump l G (lA s) (xs (nI (i + 1)).toNatClampNeg) hv1 _ h) ⟨⟨w_1043, w_61, w_1046⟩, pl_X9_incidentPump, ⟨(Nat.le_of_ble_eq_true rfl), (Nat.le_of_ble_eq_true rfl)⟩, hcs⟩ ⟨w_1044, w_1045⟩ rfl hl.1 rfl (Nat.le_of_ble_eq_true rfl) dL_699) (fun r2 hv2 h H locs hW hS => ?_)
  exact lv_icmp_eq (tgt := 1309) hx hb dL_702 (by decide) (fun _ => next hv2 H locs h.2 hW hS) (fun z => absurd h.1 z)
set_option maxHeartbeats 4000000 in
set_option maxRecDepth 100000 in
theorem law_incidentTime {p : Program} {l : Launch} {e : Env} {s : State} {m : MethodId} {args : Array Value} {below : List Frame} {meth : Method} {c : Code} {H : Heap} {locs : List Loc} {cells slots : Nat} {Q : State → Prop} {G : wG} {ls : Array Slot} {b L i B : Nat} {xs : Nat → Int32} {hv : HV} (C0 : cx p s m args meth c "RamStationLaw" code 4 G) (hX : va_X b L xs s s.heap) (hbl : b < s.heap.size) (hi : i + 6 ≤ L) (hL : L ≤ 3072) (hB : B + 65000 < 2 ^ 31) (hRel : Rel B hv) (hW : wd G (lA s) hv H) (hS : va_S (lA s) s.heap H locs) (hl : lv_has ls 4 [(0, .ref b), (1, .ref (ad G 8 0)), (2, .ref (ad G 9 0)), (3, .int (nI i))]) (hcs : cells ≤ room_1.cells ∧ slots ≤ room_1.slots)
    (next : ∀ (hv' : HV) (H1 : Heap) (locs1 : List Loc), Rel (B + 64000) hv' → wd G (lA s) hv' H1 → va_S (lA s) s.heap H1 locs1 → W p l e room_1 s m args below meth c H1 locs1 cells slots Q (F0 m 1309 ls [])) : W p l e room_1 s m args below meth c H locs cells slots Q (F0 m 707 ls []) := by
  have hx := C0.1
  have hb := C0.2.1
  have hbA : ¬ lA s b := Nat.not_le.mpr hbl
  refine lv_aload_n hx hb dL_707 rfl (lv_at hl 1 rfl) ?_
  refine lv_aload_n hx hb dL_708 rfl (lv_at hl 0 rfl) ?_
  refine lv_iload_n hx hb dL_709 rfl (lv_at hl 3 rfl) ?_
  refine lv_iconst (v := 1) hx hb dL_710 (by decide) ?_
  refine lv_iadd hx hb dL_711 ?_
  refine w_top (y := nI (i + 1)) (nI_add i 1) ?_
  refine va_sld hx hb hX hbl hbA hS (vp_in_nI (by omega) (by omega)) dL_712 ?_
  refine w_ci hS (w_runV (As := [.int (xs (nI (i + 1)).toNatClampNeg)]) C0 hW 8 0 (by decide) (by decide) rfl rfl (c_X8_incidentTime l G (lA s) (xs (nI (i + 1)).toNatClampNeg) hv _ (J_incidentTime (xs (nI (i + 1)).toNatClampNeg) B hv hB hRel)) ⟨⟨w_629, w_51, w_632⟩, pl_X8_incidentTime, ⟨(Nat.le_of_ble_eq_true rfl), (Nat.le_of_ble_eq_true rfl)⟩, hcs⟩ ⟨w_630, w_631⟩ rfl hl.1 rfl (Nat.le_of_ble_eq_true rfl) dL_713) (fun r hv1 h H locs hW hS => ?_)
  refine lv_aload_n hx hb dL_716 rfl (lv_at hl 2 rfl) ?_
  refine lv_aload_n hx hb dL_717 rfl (lv_at hl 0 rfl) ?_
  refine lv_iload_n hx hb dL_718 rfl (lv_at hl 3 rfl) ?_
  refine lv_iconst (v := 1) hx hb dL_719 (by decide) ?_
  refine lv_iadd hx hb dL_720 ?_
  refine w_top (y := nI (i + 1)) (nI_add i 1) ?_
  refine va_sld hx hb hX hbl hbA hS (vp_in_nI (by omega) (by omega)) dL_721 ?_
  refine w_ci hS (w_runV (As := [.int (xs (nI (i + 1)).toNatClampNeg)]) C0 hW 9 0 (by decide) (by decide) rfl rfl (c_X9_incidentTime l G (lA s) (xs (nI (i + 1)).toNatClampNeg) hv1 _ h) ⟨⟨w_1047, w_61, w_1050⟩, pl_X9_incidentTime, ⟨(Nat.le_of_ble_eq_true rfl), (Nat.le_of_ble_eq_true rfl)⟩, hcs⟩ ⟨w_1048, w_1049⟩ rfl hl.1 rfl (Nat.le_of_ble_eq_true rfl) dL_722) (fun r2 hv2 h H locs hW hS => ?_)
  exact lv_icmp_eq (tgt := 1309) hx hb dL_725 (by decide) (fun _ => next hv2 H locs h.2 hW hS) (fun z => absurd h.1 z)
set_option maxHeartbeats 4000000 in
set_option maxRecDepth 100000 in
theorem law_phase {p : Program} {l : Launch} {e : Env} {s : State} {m : MethodId} {args : Array Value} {below : List Frame} {meth : Method} {c : Code} {H : Heap} {locs : List Loc} {cells slots : Nat} {Q : State → Prop} {G : wG} {ls : Array Slot} {b L i B : Nat} {xs : Nat → Int32} {hv : HV} (C0 : cx p s m args meth c "RamStationLaw" code 4 G) (hX : va_X b L xs s s.heap) (hbl : b < s.heap.size) (hi : i + 6 ≤ L) (hL : L ≤ 3072) (hB : B + 65000 < 2 ^ 31) (hRel : Rel B hv) (hW : wd G (lA s) hv H) (hS : va_S (lA s) s.heap H locs) (hl : lv_has ls 4 [(0, .ref b), (1, .ref (ad G 8 0)), (2, .ref (ad G 9 0)), (3, .int (nI i))]) (hcs : cells ≤ room_1.cells ∧ slots ≤ room_1.slots)
    (next : ∀ (hv' : HV) (H1 : Heap) (locs1 : List Loc), Rel (B + 64000) hv' → wd G (lA s) hv' H1 → va_S (lA s) s.heap H1 locs1 → W p l e room_1 s m args below meth c H1 locs1 cells slots Q (F0 m 1309 ls [])) : W p l e room_1 s m args below meth c H locs cells slots Q (F0 m 730 ls []) := by
  have hx := C0.1
  have hb := C0.2.1
  have hbA : ¬ lA s b := Nat.not_le.mpr hbl
  refine lv_aload_n hx hb dL_730 rfl (lv_at hl 1 rfl) ?_
  refine lv_aload_n hx hb dL_731 rfl (lv_at hl 0 rfl) ?_
  refine lv_iload_n hx hb dL_732 rfl (lv_at hl 3 rfl) ?_
  refine lv_iconst (v := 1) hx hb dL_733 (by decide) ?_
  refine lv_iadd hx hb dL_734 ?_
  refine w_top (y := nI (i + 1)) (nI_add i 1) ?_
  refine va_sld hx hb hX hbl hbA hS (vp_in_nI (by omega) (by omega)) dL_735 ?_
  refine w_ci hS (w_runV (As := [.int (xs (nI (i + 1)).toNatClampNeg)]) C0 hW 8 0 (by decide) (by decide) rfl rfl (c_X8_phase l G (lA s) (xs (nI (i + 1)).toNatClampNeg) hv _ (J_phase (xs (nI (i + 1)).toNatClampNeg) B hv hB hRel)) ⟨⟨w_633, w_51, w_636⟩, pl_X8_phase, ⟨(Nat.le_of_ble_eq_true rfl), (Nat.le_of_ble_eq_true rfl)⟩, hcs⟩ ⟨w_634, w_635⟩ rfl hl.1 rfl (Nat.le_of_ble_eq_true rfl) dL_736) (fun r hv1 h H locs hW hS => ?_)
  refine lv_aload_n hx hb dL_739 rfl (lv_at hl 2 rfl) ?_
  refine lv_aload_n hx hb dL_740 rfl (lv_at hl 0 rfl) ?_
  refine lv_iload_n hx hb dL_741 rfl (lv_at hl 3 rfl) ?_
  refine lv_iconst (v := 1) hx hb dL_742 (by decide) ?_
  refine lv_iadd hx hb dL_743 ?_
  refine w_top (y := nI (i + 1)) (nI_add i 1) ?_
  refine va_sld hx hb hX hbl hbA hS (vp_in_nI (by omega) (by omega)) dL_744 ?_
  refine w_ci hS (w_runV (As := [.int (xs (nI (i + 1)).toNatClampNeg)]) C0 hW 9 0 (by decide) (by decide) rfl rfl (c_X9_phase l G (lA s) (xs (nI (i + 1)).toNatClampNeg) hv1 _ h) ⟨⟨w_1051, w_61, w_1054⟩, pl_X9_phase, ⟨(Nat.le_of_ble_eq_true rfl), (Nat.le_of_ble_eq_true rfl)⟩, hcs⟩ ⟨w_1052, w_1053⟩ rfl hl.1 rfl (Nat.le_of_ble_eq_true rfl) dL_745) (fun r2 hv2 h H locs hW hS => ?_)
  exact lv_icmp_eq (tgt := 1309) hx hb dL_748 (by decide) (fun _ => next hv2 H locs h.2 hW hS) (fun z => absurd h.1 z)
set_option maxHeartbeats 4000000 in
set_option maxRecDepth 100000 in
theorem law_speed {p : Program} {l : Launch} {e : Env} {s : State} {m : MethodId} {args : Array Value} {below : List Frame} {meth : Method} {c : Code} {H : Heap} {locs : List Loc} {cells slots : Nat} {Q : State → Prop} {G : wG} {ls : Array Slot} {b L i B : Nat} {xs : Nat → Int32} {hv : HV} (C0 : cx p s m args meth c "RamStationLaw" code 4 G) (hX : va_X b L xs s s.heap) (hbl : b < s.heap.size) (hi : i + 6 ≤ L) (hL : L ≤ 3072) (hB : B + 65000 < 2 ^ 31) (hRel : Rel B hv) (hW : wd G (lA s) hv H) (hS : va_S (lA s) s.heap H locs) (hl : lv_has ls 4 [(0, .ref b), (1, .ref (ad G 8 0)), (2, .ref (ad G 9 0)), (3, .int (nI i))]) (hcs : cells ≤ room_1.cells ∧ slots ≤ room_1.slots)
    (next : ∀ (hv' : HV) (H1 : Heap) (locs1 : List Loc), Rel (B + 64000) hv' → wd G (lA s) hv' H1 → va_S (lA s) s.heap H1 locs1 → W p l e room_1 s m args below meth c H1 locs1 cells slots Q (F0 m 1309 ls [])) : W p l e room_1 s m args below meth c H locs cells slots Q (F0 m 753 ls []) := by
  have hx := C0.1
  have hb := C0.2.1
  have hbA : ¬ lA s b := Nat.not_le.mpr hbl
  refine lv_aload_n hx hb dL_753 rfl (lv_at hl 1 rfl) ?_
  refine lv_aload_n hx hb dL_754 rfl (lv_at hl 0 rfl) ?_
  refine lv_iload_n hx hb dL_755 rfl (lv_at hl 3 rfl) ?_
  refine lv_iconst (v := 1) hx hb dL_756 (by decide) ?_
  refine lv_iadd hx hb dL_757 ?_
  refine w_top (y := nI (i + 1)) (nI_add i 1) ?_
  refine va_sld hx hb hX hbl hbA hS (vp_in_nI (by omega) (by omega)) dL_758 ?_
  refine w_ci hS (w_runV (As := [.int (xs (nI (i + 1)).toNatClampNeg)]) C0 hW 8 0 (by decide) (by decide) rfl rfl (c_X8_speed l G (lA s) (xs (nI (i + 1)).toNatClampNeg) hv _ (J_speed (xs (nI (i + 1)).toNatClampNeg) B hv hB hRel)) ⟨⟨w_637, w_51, w_640⟩, pl_X8_speed, ⟨(Nat.le_of_ble_eq_true rfl), (Nat.le_of_ble_eq_true rfl)⟩, hcs⟩ ⟨w_638, w_639⟩ rfl hl.1 rfl (Nat.le_of_ble_eq_true rfl) dL_759) (fun r hv1 h H locs hW hS => ?_)
  refine lv_aload_n hx hb dL_762 rfl (lv_at hl 2 rfl) ?_
  refine lv_aload_n hx hb dL_763 rfl (lv_at hl 0 rfl) ?_
  refine lv_iload_n hx hb dL_764 rfl (lv_at hl 3 rfl) ?_
  refine lv_iconst (v := 1) hx hb dL_765 (by decide) ?_
  refine lv_iadd hx hb dL_766 ?_
  refine w_top (y := nI (i + 1)) (nI_add i 1) ?_
  refine va_sld hx hb hX hbl hbA hS (vp_in_nI (by omega) (by omega)) dL_767 ?_
  refine w_ci hS (w_runV (As := [.int (xs (nI (i + 1)).toNatClampNeg)]) C0 hW 9 0 (by decide) (by decide) rfl rfl (c_X9_speed l G (lA s) (xs (nI (i + 1)).toNatClampNeg) hv1 _ h) ⟨⟨w_1055, w_61, w_1058⟩, pl_X9_speed, ⟨(Nat.le_of_ble_eq_true rfl), (Nat.le_of_ble_eq_true rfl)⟩, hcs⟩ ⟨w_1056, w_1057⟩ rfl hl.1 rfl (Nat.le_of_ble_eq_true rfl) dL_768) (fun r2 hv2 h H locs hW hS => ?_)
  exact lv_icmp_eq (tgt := 1309) hx hb dL_771 (by decide) (fun _ => next hv2 H locs h.2 hW hS) (fun z => absurd h.1 z)
set_option maxHeartbeats 4000000 in
set_option maxRecDepth 100000 in
theorem law_openTicks {p : Program} {l : Launch} {e : Env} {s : State} {m : MethodId} {args : Array Value} {below : List Frame} {meth : Method} {c : Code} {H : Heap} {locs : List Loc} {cells slots : Nat} {Q : State → Prop} {G : wG} {ls : Array Slot} {b L i B : Nat} {xs : Nat → Int32} {hv : HV} (C0 : cx p s m args meth c "RamStationLaw" code 4 G) (hX : va_X b L xs s s.heap) (hbl : b < s.heap.size) (hi : i + 6 ≤ L) (hL : L ≤ 3072) (hB : B + 65000 < 2 ^ 31) (hRel : Rel B hv) (hW : wd G (lA s) hv H) (hS : va_S (lA s) s.heap H locs) (hl : lv_has ls 4 [(0, .ref b), (1, .ref (ad G 8 0)), (2, .ref (ad G 9 0)), (3, .int (nI i))]) (hcs : cells ≤ room_1.cells ∧ slots ≤ room_1.slots)
    (next : ∀ (hv' : HV) (H1 : Heap) (locs1 : List Loc), Rel (B + 64000) hv' → wd G (lA s) hv' H1 → va_S (lA s) s.heap H1 locs1 → W p l e room_1 s m args below meth c H1 locs1 cells slots Q (F0 m 1309 ls [])) : W p l e room_1 s m args below meth c H locs cells slots Q (F0 m 776 ls []) := by
  have hx := C0.1
  have hb := C0.2.1
  have hbA : ¬ lA s b := Nat.not_le.mpr hbl
  refine lv_aload_n hx hb dL_776 rfl (lv_at hl 1 rfl) ?_
  refine lv_aload_n hx hb dL_777 rfl (lv_at hl 0 rfl) ?_
  refine lv_iload_n hx hb dL_778 rfl (lv_at hl 3 rfl) ?_
  refine lv_iconst (v := 1) hx hb dL_779 (by decide) ?_
  refine lv_iadd hx hb dL_780 ?_
  refine w_top (y := nI (i + 1)) (nI_add i 1) ?_
  refine va_sld hx hb hX hbl hbA hS (vp_in_nI (by omega) (by omega)) dL_781 ?_
  refine w_ci hS (w_runV (As := [.int (xs (nI (i + 1)).toNatClampNeg)]) C0 hW 8 0 (by decide) (by decide) rfl rfl (c_X8_openTicks l G (lA s) (xs (nI (i + 1)).toNatClampNeg) hv _ (J_openTicks (xs (nI (i + 1)).toNatClampNeg) B hv hB hRel)) ⟨⟨w_641, w_51, w_644⟩, pl_X8_openTicks, ⟨(Nat.le_of_ble_eq_true rfl), (Nat.le_of_ble_eq_true rfl)⟩, hcs⟩ ⟨w_642, w_643⟩ rfl hl.1 rfl (Nat.le_of_ble_eq_true rfl) dL_782) (fun r hv1 h H locs hW hS => ?_)
  refine lv_aload_n hx hb dL_785 rfl (lv_at hl 2 rfl) ?_
  refine lv_aload_n hx hb dL_786 rfl (lv_at hl 0 rfl) ?_
  refine lv_iload_n hx hb dL_787 rfl (lv_at hl 3 rfl) ?_
  refine lv_iconst (v := 1) hx hb dL_788 (by decide) ?_
  refine lv_iadd hx hb dL_789 ?_
  refine w_top (y := nI (i + 1)) (nI_add i 1) ?_
  refine va_sld hx hb hX hbl hbA hS (vp_in_nI (by omega) (by omega)) dL_790 ?_
  refine w_ci hS (w_runV (As := [.int (xs (nI (i + 1)).toNatClampNeg)]) C0 hW 9 0 (by decide) (by decide) rfl rfl (c_X9_openTicks l G (lA s) (xs (nI (i + 1)).toNatClampNeg) hv1 _ h) ⟨⟨w_1063, w_61, w_1066⟩, pl_X9_openTicks, ⟨(Nat.le_of_ble_eq_true rfl), (Nat.le_of_ble_eq_true rfl)⟩, hcs⟩ ⟨w_1064, w_1065⟩ rfl hl.1 rfl (Nat.le_of_ble_eq_true rfl) dL_791) (fun r2 hv2 h H locs hW hS => ?_)
  exact lv_icmp_eq (tgt := 1309) hx hb dL_794 (by decide) (fun _ => next hv2 H locs h.2 hW hS) (fun z => absurd h.1 z)
set_option maxHeartbeats 4000000 in
set_option maxRecDepth 100000 in
theorem law_chamberWater {p : Program} {l : Launch} {e : Env} {s : State} {m : MethodId} {args : Array Value} {below : List Frame} {meth : Method} {c : Code} {H : Heap} {locs : List Loc} {cells slots : Nat} {Q : State → Prop} {G : wG} {ls : Array Slot} {b L i B : Nat} {xs : Nat → Int32} {hv : HV} (C0 : cx p s m args meth c "RamStationLaw" code 4 G) (hX : va_X b L xs s s.heap) (hbl : b < s.heap.size) (hi : i + 6 ≤ L) (hL : L ≤ 3072) (hB : B + 65000 < 2 ^ 31) (hRel : Rel B hv) (hW : wd G (lA s) hv H) (hS : va_S (lA s) s.heap H locs) (hl : lv_has ls 4 [(0, .ref b), (1, .ref (ad G 8 0)), (2, .ref (ad G 9 0)), (3, .int (nI i))]) (hcs : cells ≤ room_1.cells ∧ slots ≤ room_1.slots)
    (next : ∀ (hv' : HV) (H1 : Heap) (locs1 : List Loc), Rel (B + 64000) hv' → wd G (lA s) hv' H1 → va_S (lA s) s.heap H1 locs1 → W p l e room_1 s m args below meth c H1 locs1 cells slots Q (F0 m 1309 ls [])) : W p l e room_1 s m args below meth c H locs cells slots Q (F0 m 799 ls []) := by
  have hx := C0.1
  have hb := C0.2.1
  have hbA : ¬ lA s b := Nat.not_le.mpr hbl
  refine lv_aload_n hx hb dL_799 rfl (lv_at hl 1 rfl) ?_
  refine lv_aload_n hx hb dL_800 rfl (lv_at hl 0 rfl) ?_
  refine lv_iload_n hx hb dL_801 rfl (lv_at hl 3 rfl) ?_
  refine lv_iconst (v := 1) hx hb dL_802 (by decide) ?_
  refine lv_iadd hx hb dL_803 ?_
  refine w_top (y := nI (i + 1)) (nI_add i 1) ?_
  refine va_sld hx hb hX hbl hbA hS (vp_in_nI (by omega) (by omega)) dL_804 ?_
  refine w_ci hS (w_runV (As := [.int (xs (nI (i + 1)).toNatClampNeg)]) C0 hW 8 0 (by decide) (by decide) rfl rfl (c_X8_chamberWater l G (lA s) (xs (nI (i + 1)).toNatClampNeg) hv _ (J_chamberWater (xs (nI (i + 1)).toNatClampNeg) B hv hB hRel)) ⟨⟨w_645, w_51, w_648⟩, pl_X8_chamberWater, ⟨(Nat.le_of_ble_eq_true rfl), (Nat.le_of_ble_eq_true rfl)⟩, hcs⟩ ⟨w_646, w_647⟩ rfl hl.1 rfl (Nat.le_of_ble_eq_true rfl) dL_805) (fun r hv1 h H locs hW hS => ?_)
  refine lv_aload_n hx hb dL_808 rfl (lv_at hl 2 rfl) ?_
  refine lv_aload_n hx hb dL_809 rfl (lv_at hl 0 rfl) ?_
  refine lv_iload_n hx hb dL_810 rfl (lv_at hl 3 rfl) ?_
  refine lv_iconst (v := 1) hx hb dL_811 (by decide) ?_
  refine lv_iadd hx hb dL_812 ?_
  refine w_top (y := nI (i + 1)) (nI_add i 1) ?_
  refine va_sld hx hb hX hbl hbA hS (vp_in_nI (by omega) (by omega)) dL_813 ?_
  refine w_ci hS (w_runV (As := [.int (xs (nI (i + 1)).toNatClampNeg)]) C0 hW 9 0 (by decide) (by decide) rfl rfl (c_X9_chamberWater l G (lA s) (xs (nI (i + 1)).toNatClampNeg) hv1 _ h) ⟨⟨w_1067, w_61, w_1070⟩, pl_X9_chamberWater, ⟨(Nat.le_of_ble_eq_true rfl), (Nat.le_of_ble_eq_true rfl)⟩, hcs⟩ ⟨w_1068, w_1069⟩ rfl hl.1 rfl (Nat.le_of_ble_eq_true rfl) dL_814) (fun r2 hv2 h H locs hW hS => ?_)
  exact lv_icmp_eq (tgt := 1309) hx hb dL_817 (by decide) (fun _ => next hv2 H locs h.2 hW hS) (fun z => absurd h.1 z)
set_option maxHeartbeats 4000000 in
set_option maxRecDepth 100000 in
theorem law_air {p : Program} {l : Launch} {e : Env} {s : State} {m : MethodId} {args : Array Value} {below : List Frame} {meth : Method} {c : Code} {H : Heap} {locs : List Loc} {cells slots : Nat} {Q : State → Prop} {G : wG} {ls : Array Slot} {b L i B : Nat} {xs : Nat → Int32} {hv : HV} (C0 : cx p s m args meth c "RamStationLaw" code 4 G) (hX : va_X b L xs s s.heap) (hbl : b < s.heap.size) (hi : i + 6 ≤ L) (hL : L ≤ 3072) (hB : B + 65000 < 2 ^ 31) (hRel : Rel B hv) (hW : wd G (lA s) hv H) (hS : va_S (lA s) s.heap H locs) (hl : lv_has ls 4 [(0, .ref b), (1, .ref (ad G 8 0)), (2, .ref (ad G 9 0)), (3, .int (nI i))]) (hcs : cells ≤ room_1.cells ∧ slots ≤ room_1.slots)
    (next : ∀ (hv' : HV) (H1 : Heap) (locs1 : List Loc), Rel (B + 64000) hv' → wd G (lA s) hv' H1 → va_S (lA s) s.heap H1 locs1 → W p l e room_1 s m args below meth c H1 locs1 cells slots Q (F0 m 1309 ls [])) : W p l e room_1 s m args below meth c H locs cells slots Q (F0 m 822 ls []) := by
  have hx := C0.1
  have hb := C0.2.1
  have hbA : ¬ lA s b := Nat.not_le.mpr hbl
  refine lv_aload_n hx hb dL_822 rfl (lv_at hl 1 rfl) ?_
  refine lv_aload_n hx hb dL_823 rfl (lv_at hl 0 rfl) ?_
  refine lv_iload_n hx hb dL_824 rfl (lv_at hl 3 rfl) ?_
  refine lv_iconst (v := 1) hx hb dL_825 (by decide) ?_
  refine lv_iadd hx hb dL_826 ?_
  refine w_top (y := nI (i + 1)) (nI_add i 1) ?_
  refine va_sld hx hb hX hbl hbA hS (vp_in_nI (by omega) (by omega)) dL_827 ?_
  refine w_ci hS (w_runV (As := [.int (xs (nI (i + 1)).toNatClampNeg)]) C0 hW 8 0 (by decide) (by decide) rfl rfl (c_X8_air l G (lA s) (xs (nI (i + 1)).toNatClampNeg) hv _ (J_air (xs (nI (i + 1)).toNatClampNeg) B hv hB hRel)) ⟨⟨w_649, w_51, w_652⟩, pl_X8_air, ⟨(Nat.le_of_ble_eq_true rfl), (Nat.le_of_ble_eq_true rfl)⟩, hcs⟩ ⟨w_650, w_651⟩ rfl hl.1 rfl (Nat.le_of_ble_eq_true rfl) dL_828) (fun r hv1 h H locs hW hS => ?_)
  refine lv_aload_n hx hb dL_831 rfl (lv_at hl 2 rfl) ?_
  refine lv_aload_n hx hb dL_832 rfl (lv_at hl 0 rfl) ?_
  refine lv_iload_n hx hb dL_833 rfl (lv_at hl 3 rfl) ?_
  refine lv_iconst (v := 1) hx hb dL_834 (by decide) ?_
  refine lv_iadd hx hb dL_835 ?_
  refine w_top (y := nI (i + 1)) (nI_add i 1) ?_
  refine va_sld hx hb hX hbl hbA hS (vp_in_nI (by omega) (by omega)) dL_836 ?_
  refine w_ci hS (w_runV (As := [.int (xs (nI (i + 1)).toNatClampNeg)]) C0 hW 9 0 (by decide) (by decide) rfl rfl (c_X9_air l G (lA s) (xs (nI (i + 1)).toNatClampNeg) hv1 _ h) ⟨⟨w_1071, w_61, w_1074⟩, pl_X9_air, ⟨(Nat.le_of_ble_eq_true rfl), (Nat.le_of_ble_eq_true rfl)⟩, hcs⟩ ⟨w_1072, w_1073⟩ rfl hl.1 rfl (Nat.le_of_ble_eq_true rfl) dL_837) (fun r2 hv2 h H locs hW hS => ?_)
  exact lv_icmp_eq (tgt := 1309) hx hb dL_840 (by decide) (fun _ => next hv2 H locs h.2 hW hS) (fun z => absurd h.1 z)
set_option maxHeartbeats 4000000 in
set_option maxRecDepth 100000 in
theorem law_chamberHead {p : Program} {l : Launch} {e : Env} {s : State} {m : MethodId} {args : Array Value} {below : List Frame} {meth : Method} {c : Code} {H : Heap} {locs : List Loc} {cells slots : Nat} {Q : State → Prop} {G : wG} {ls : Array Slot} {b L i B : Nat} {xs : Nat → Int32} {hv : HV} (C0 : cx p s m args meth c "RamStationLaw" code 4 G) (hX : va_X b L xs s s.heap) (hbl : b < s.heap.size) (hi : i + 6 ≤ L) (hL : L ≤ 3072) (hB : B + 65000 < 2 ^ 31) (hRel : Rel B hv) (hW : wd G (lA s) hv H) (hS : va_S (lA s) s.heap H locs) (hl : lv_has ls 4 [(0, .ref b), (1, .ref (ad G 8 0)), (2, .ref (ad G 9 0)), (3, .int (nI i))]) (hcs : cells ≤ room_1.cells ∧ slots ≤ room_1.slots)
    (next : ∀ (hv' : HV) (H1 : Heap) (locs1 : List Loc), Rel (B + 64000) hv' → wd G (lA s) hv' H1 → va_S (lA s) s.heap H1 locs1 → W p l e room_1 s m args below meth c H1 locs1 cells slots Q (F0 m 1309 ls [])) : W p l e room_1 s m args below meth c H locs cells slots Q (F0 m 845 ls []) := by
  have hx := C0.1
  have hb := C0.2.1
  have hbA : ¬ lA s b := Nat.not_le.mpr hbl
  refine lv_aload_n hx hb dL_845 rfl (lv_at hl 1 rfl) ?_
  refine lv_aload_n hx hb dL_846 rfl (lv_at hl 0 rfl) ?_
  refine lv_iload_n hx hb dL_847 rfl (lv_at hl 3 rfl) ?_
  refine lv_iconst (v := 1) hx hb dL_848 (by decide) ?_
  refine lv_iadd hx hb dL_849 ?_
  refine w_top (y := nI (i + 1)) (nI_add i 1) ?_
  refine va_sld hx hb hX hbl hbA hS (vp_in_nI (by omega) (by omega)) dL_850 ?_
  refine w_ci hS (w_runV (As := [.int (xs (nI (i + 1)).toNatClampNeg)]) C0 hW 8 0 (by decide) (by decide) rfl rfl (c_X8_chamberHead l G (lA s) (xs (nI (i + 1)).toNatClampNeg) hv _ (J_chamberHead (xs (nI (i + 1)).toNatClampNeg) B hv hB hRel)) ⟨⟨w_653, w_51, w_656⟩, pl_X8_chamberHead, ⟨(Nat.le_of_ble_eq_true rfl), (Nat.le_of_ble_eq_true rfl)⟩, hcs⟩ ⟨w_654, w_655⟩ rfl hl.1 rfl (Nat.le_of_ble_eq_true rfl) dL_851) (fun r hv1 h H locs hW hS => ?_)
  refine lv_aload_n hx hb dL_854 rfl (lv_at hl 2 rfl) ?_
  refine lv_aload_n hx hb dL_855 rfl (lv_at hl 0 rfl) ?_
  refine lv_iload_n hx hb dL_856 rfl (lv_at hl 3 rfl) ?_
  refine lv_iconst (v := 1) hx hb dL_857 (by decide) ?_
  refine lv_iadd hx hb dL_858 ?_
  refine w_top (y := nI (i + 1)) (nI_add i 1) ?_
  refine va_sld hx hb hX hbl hbA hS (vp_in_nI (by omega) (by omega)) dL_859 ?_
  refine w_ci hS (w_runV (As := [.int (xs (nI (i + 1)).toNatClampNeg)]) C0 hW 9 0 (by decide) (by decide) rfl rfl (c_X9_chamberHead l G (lA s) (xs (nI (i + 1)).toNatClampNeg) hv1 _ h) ⟨⟨w_1075, w_61, w_1078⟩, pl_X9_chamberHead, ⟨(Nat.le_of_ble_eq_true rfl), (Nat.le_of_ble_eq_true rfl)⟩, hcs⟩ ⟨w_1076, w_1077⟩ rfl hl.1 rfl (Nat.le_of_ble_eq_true rfl) dL_860) (fun r2 hv2 h H locs hW hS => ?_)
  exact lv_icmp_eq (tgt := 1309) hx hb dL_863 (by decide) (fun _ => next hv2 H locs h.2 hW hS) (fun z => absurd h.1 z)
set_option maxHeartbeats 4000000 in
set_option maxRecDepth 100000 in
theorem law_beats {p : Program} {l : Launch} {e : Env} {s : State} {m : MethodId} {args : Array Value} {below : List Frame} {meth : Method} {c : Code} {H : Heap} {locs : List Loc} {cells slots : Nat} {Q : State → Prop} {G : wG} {ls : Array Slot} {b L i B : Nat} {xs : Nat → Int32} {hv : HV} (C0 : cx p s m args meth c "RamStationLaw" code 4 G) (hX : va_X b L xs s s.heap) (hbl : b < s.heap.size) (hi : i + 6 ≤ L) (hL : L ≤ 3072) (hB : B + 65000 < 2 ^ 31) (hRel : Rel B hv) (hW : wd G (lA s) hv H) (hS : va_S (lA s) s.heap H locs) (hl : lv_has ls 4 [(0, .ref b), (1, .ref (ad G 8 0)), (2, .ref (ad G 9 0)), (3, .int (nI i))]) (hcs : cells ≤ room_1.cells ∧ slots ≤ room_1.slots)
    (next : ∀ (hv' : HV) (H1 : Heap) (locs1 : List Loc), Rel (B + 64000) hv' → wd G (lA s) hv' H1 → va_S (lA s) s.heap H1 locs1 → W p l e room_1 s m args below meth c H1 locs1 cells slots Q (F0 m 1309 ls [])) : W p l e room_1 s m args below meth c H locs cells slots Q (F0 m 868 ls []) := by
  have hx := C0.1
  have hb := C0.2.1
  have hbA : ¬ lA s b := Nat.not_le.mpr hbl
  refine lv_aload_n hx hb dL_868 rfl (lv_at hl 1 rfl) ?_
  refine lv_aload_n hx hb dL_869 rfl (lv_at hl 0 rfl) ?_
  refine lv_iload_n hx hb dL_870 rfl (lv_at hl 3 rfl) ?_
  refine lv_iconst (v := 1) hx hb dL_871 (by decide) ?_
  refine lv_iadd hx hb dL_872 ?_
  refine w_top (y := nI (i + 1)) (nI_add i 1) ?_
  refine va_sld hx hb hX hbl hbA hS (vp_in_nI (by omega) (by omega)) dL_873 ?_
  refine w_ci hS (w_runV (As := [.int (xs (nI (i + 1)).toNatClampNeg)]) C0 hW 8 0 (by decide) (by decide) rfl rfl (c_X8_beats l G (lA s) (xs (nI (i + 1)).toNatClampNeg) hv _ (J_beats (xs (nI (i + 1)).toNatClampNeg) B hv hB hRel)) ⟨⟨w_658, w_51, w_661⟩, pl_X8_beats, ⟨(Nat.le_of_ble_eq_true rfl), (Nat.le_of_ble_eq_true rfl)⟩, hcs⟩ ⟨w_659, w_660⟩ rfl hl.1 rfl (Nat.le_of_ble_eq_true rfl) dL_874) (fun r hv1 h H locs hW hS => ?_)
  refine lv_aload_n hx hb dL_877 rfl (lv_at hl 2 rfl) ?_
  refine lv_aload_n hx hb dL_878 rfl (lv_at hl 0 rfl) ?_
  refine lv_iload_n hx hb dL_879 rfl (lv_at hl 3 rfl) ?_
  refine lv_iconst (v := 1) hx hb dL_880 (by decide) ?_
  refine lv_iadd hx hb dL_881 ?_
  refine w_top (y := nI (i + 1)) (nI_add i 1) ?_
  refine va_sld hx hb hX hbl hbA hS (vp_in_nI (by omega) (by omega)) dL_882 ?_
  refine w_ci hS (w_runV (As := [.int (xs (nI (i + 1)).toNatClampNeg)]) C0 hW 9 0 (by decide) (by decide) rfl rfl (c_X9_beats l G (lA s) (xs (nI (i + 1)).toNatClampNeg) hv1 _ h) ⟨⟨w_1079, w_61, w_1082⟩, pl_X9_beats, ⟨(Nat.le_of_ble_eq_true rfl), (Nat.le_of_ble_eq_true rfl)⟩, hcs⟩ ⟨w_1080, w_1081⟩ rfl hl.1 rfl (Nat.le_of_ble_eq_true rfl) dL_883) (fun r2 hv2 h H locs hW hS => ?_)
  exact lv_icmp_eq (tgt := 1309) hx hb dL_886 (by decide) (fun _ => next hv2 H locs h.2 hW hS) (fun z => absurd h.1 z)
set_option maxHeartbeats 4000000 in
set_option maxRecDepth 100000 in
theorem law_wasted {p : Program} {l : Launch} {e : Env} {s : State} {m : MethodId} {args : Array Value} {below : List Frame} {meth : Method} {c : Code} {H : Heap} {locs : List Loc} {cells slots : Nat} {Q : State → Prop} {G : wG} {ls : Array Slot} {b L i B : Nat} {xs : Nat → Int32} {hv : HV} (C0 : cx p s m args meth c "RamStationLaw" code 4 G) (hX : va_X b L xs s s.heap) (hbl : b < s.heap.size) (hi : i + 6 ≤ L) (hL : L ≤ 3072) (hB : B + 65000 < 2 ^ 31) (hRel : Rel B hv) (hW : wd G (lA s) hv H) (hS : va_S (lA s) s.heap H locs) (hl : lv_has ls 4 [(0, .ref b), (1, .ref (ad G 8 0)), (2, .ref (ad G 9 0)), (3, .int (nI i))]) (hcs : cells ≤ room_1.cells ∧ slots ≤ room_1.slots)
    (next : ∀ (hv' : HV) (H1 : Heap) (locs1 : List Loc), Rel (B + 64000) hv' → wd G (lA s) hv' H1 → va_S (lA s) s.heap H1 locs1 → W p l e room_1 s m args below meth c H1 locs1 cells slots Q (F0 m 1309 ls [])) : W p l e room_1 s m args below meth c H locs cells slots Q (F0 m 891 ls []) := by
  have hx := C0.1
  have hb := C0.2.1
  have hbA : ¬ lA s b := Nat.not_le.mpr hbl
  refine lv_aload_n hx hb dL_891 rfl (lv_at hl 1 rfl) ?_
  refine lv_aload_n hx hb dL_892 rfl (lv_at hl 0 rfl) ?_
  refine lv_iload_n hx hb dL_893 rfl (lv_at hl 3 rfl) ?_
  refine lv_iconst (v := 1) hx hb dL_894 (by decide) ?_
  refine lv_iadd hx hb dL_895 ?_
  refine w_top (y := nI (i + 1)) (nI_add i 1) ?_
  refine va_sld hx hb hX hbl hbA hS (vp_in_nI (by omega) (by omega)) dL_896 ?_
  refine w_ci hS (w_runV (As := [.int (xs (nI (i + 1)).toNatClampNeg)]) C0 hW 8 0 (by decide) (by decide) rfl rfl (c_X8_wasted l G (lA s) (xs (nI (i + 1)).toNatClampNeg) hv _ (J_wasted (xs (nI (i + 1)).toNatClampNeg) B hv hB hRel)) ⟨⟨w_662, w_51, w_665⟩, pl_X8_wasted, ⟨(Nat.le_of_ble_eq_true rfl), (Nat.le_of_ble_eq_true rfl)⟩, hcs⟩ ⟨w_663, w_664⟩ rfl hl.1 rfl (Nat.le_of_ble_eq_true rfl) dL_897) (fun r hv1 h H locs hW hS => ?_)
  refine lv_aload_n hx hb dL_900 rfl (lv_at hl 2 rfl) ?_
  refine lv_aload_n hx hb dL_901 rfl (lv_at hl 0 rfl) ?_
  refine lv_iload_n hx hb dL_902 rfl (lv_at hl 3 rfl) ?_
  refine lv_iconst (v := 1) hx hb dL_903 (by decide) ?_
  refine lv_iadd hx hb dL_904 ?_
  refine w_top (y := nI (i + 1)) (nI_add i 1) ?_
  refine va_sld hx hb hX hbl hbA hS (vp_in_nI (by omega) (by omega)) dL_905 ?_
  refine w_ci hS (w_runV (As := [.int (xs (nI (i + 1)).toNatClampNeg)]) C0 hW 9 0 (by decide) (by decide) rfl rfl (c_X9_wasted l G (lA s) (xs (nI (i + 1)).toNatClampNeg) hv1 _ h) ⟨⟨w_1083, w_61, w_1086⟩, pl_X9_wasted, ⟨(Nat.le_of_ble_eq_true rfl), (Nat.le_of_ble_eq_true rfl)⟩, hcs⟩ ⟨w_1084, w_1085⟩ rfl hl.1 rfl (Nat.le_of_ble_eq_true rfl) dL_906) (fun r2 hv2 h H locs hW hS => ?_)
  exact lv_icmp_eq (tgt := 1309) hx hb dL_909 (by decide) (fun _ => next hv2 H locs h.2 hW hS) (fun z => absurd h.1 z)
set_option maxHeartbeats 4000000 in
set_option maxRecDepth 100000 in
theorem law_relieved {p : Program} {l : Launch} {e : Env} {s : State} {m : MethodId} {args : Array Value} {below : List Frame} {meth : Method} {c : Code} {H : Heap} {locs : List Loc} {cells slots : Nat} {Q : State → Prop} {G : wG} {ls : Array Slot} {b L i B : Nat} {xs : Nat → Int32} {hv : HV} (C0 : cx p s m args meth c "RamStationLaw" code 4 G) (hX : va_X b L xs s s.heap) (hbl : b < s.heap.size) (hi : i + 6 ≤ L) (hL : L ≤ 3072) (hB : B + 65000 < 2 ^ 31) (hRel : Rel B hv) (hW : wd G (lA s) hv H) (hS : va_S (lA s) s.heap H locs) (hl : lv_has ls 4 [(0, .ref b), (1, .ref (ad G 8 0)), (2, .ref (ad G 9 0)), (3, .int (nI i))]) (hcs : cells ≤ room_1.cells ∧ slots ≤ room_1.slots)
    (next : ∀ (hv' : HV) (H1 : Heap) (locs1 : List Loc), Rel (B + 64000) hv' → wd G (lA s) hv' H1 → va_S (lA s) s.heap H1 locs1 → W p l e room_1 s m args below meth c H1 locs1 cells slots Q (F0 m 1309 ls [])) : W p l e room_1 s m args below meth c H locs cells slots Q (F0 m 914 ls []) := by
  have hx := C0.1
  have hb := C0.2.1
  have hbA : ¬ lA s b := Nat.not_le.mpr hbl
  refine lv_aload_n hx hb dL_914 rfl (lv_at hl 1 rfl) ?_
  refine lv_aload_n hx hb dL_915 rfl (lv_at hl 0 rfl) ?_
  refine lv_iload_n hx hb dL_916 rfl (lv_at hl 3 rfl) ?_
  refine lv_iconst (v := 1) hx hb dL_917 (by decide) ?_
  refine lv_iadd hx hb dL_918 ?_
  refine w_top (y := nI (i + 1)) (nI_add i 1) ?_
  refine va_sld hx hb hX hbl hbA hS (vp_in_nI (by omega) (by omega)) dL_919 ?_
  refine w_ci hS (w_runV (As := [.int (xs (nI (i + 1)).toNatClampNeg)]) C0 hW 8 0 (by decide) (by decide) rfl rfl (c_X8_relieved l G (lA s) (xs (nI (i + 1)).toNatClampNeg) hv _ (J_relieved (xs (nI (i + 1)).toNatClampNeg) B hv hB hRel)) ⟨⟨w_666, w_51, w_669⟩, pl_X8_relieved, ⟨(Nat.le_of_ble_eq_true rfl), (Nat.le_of_ble_eq_true rfl)⟩, hcs⟩ ⟨w_667, w_668⟩ rfl hl.1 rfl (Nat.le_of_ble_eq_true rfl) dL_920) (fun r hv1 h H locs hW hS => ?_)
  refine lv_aload_n hx hb dL_923 rfl (lv_at hl 2 rfl) ?_
  refine lv_aload_n hx hb dL_924 rfl (lv_at hl 0 rfl) ?_
  refine lv_iload_n hx hb dL_925 rfl (lv_at hl 3 rfl) ?_
  refine lv_iconst (v := 1) hx hb dL_926 (by decide) ?_
  refine lv_iadd hx hb dL_927 ?_
  refine w_top (y := nI (i + 1)) (nI_add i 1) ?_
  refine va_sld hx hb hX hbl hbA hS (vp_in_nI (by omega) (by omega)) dL_928 ?_
  refine w_ci hS (w_runV (As := [.int (xs (nI (i + 1)).toNatClampNeg)]) C0 hW 9 0 (by decide) (by decide) rfl rfl (c_X9_relieved l G (lA s) (xs (nI (i + 1)).toNatClampNeg) hv1 _ h) ⟨⟨w_1087, w_61, w_1090⟩, pl_X9_relieved, ⟨(Nat.le_of_ble_eq_true rfl), (Nat.le_of_ble_eq_true rfl)⟩, hcs⟩ ⟨w_1088, w_1089⟩ rfl hl.1 rfl (Nat.le_of_ble_eq_true rfl) dL_929) (fun r2 hv2 h H locs hW hS => ?_)
  exact lv_icmp_eq (tgt := 1309) hx hb dL_932 (by decide) (fun _ => next hv2 H locs h.2 hW hS) (fun z => absurd h.1 z)
set_option maxHeartbeats 4000000 in
set_option maxRecDepth 100000 in
theorem law_lifted {p : Program} {l : Launch} {e : Env} {s : State} {m : MethodId} {args : Array Value} {below : List Frame} {meth : Method} {c : Code} {H : Heap} {locs : List Loc} {cells slots : Nat} {Q : State → Prop} {G : wG} {ls : Array Slot} {b L i B : Nat} {xs : Nat → Int32} {hv : HV} (C0 : cx p s m args meth c "RamStationLaw" code 4 G) (hX : va_X b L xs s s.heap) (hbl : b < s.heap.size) (hi : i + 6 ≤ L) (hL : L ≤ 3072) (hB : B + 65000 < 2 ^ 31) (hRel : Rel B hv) (hW : wd G (lA s) hv H) (hS : va_S (lA s) s.heap H locs) (hl : lv_has ls 4 [(0, .ref b), (1, .ref (ad G 8 0)), (2, .ref (ad G 9 0)), (3, .int (nI i))]) (hcs : cells ≤ room_1.cells ∧ slots ≤ room_1.slots)
    (next : ∀ (hv' : HV) (H1 : Heap) (locs1 : List Loc), Rel (B + 64000) hv' → wd G (lA s) hv' H1 → va_S (lA s) s.heap H1 locs1 → W p l e room_1 s m args below meth c H1 locs1 cells slots Q (F0 m 1309 ls [])) : W p l e room_1 s m args below meth c H locs cells slots Q (F0 m 937 ls []) := by
  have hx := C0.1
  have hb := C0.2.1
  have hbA : ¬ lA s b := Nat.not_le.mpr hbl
  refine lv_aload_n hx hb dL_937 rfl (lv_at hl 1 rfl) ?_
  refine lv_aload_n hx hb dL_938 rfl (lv_at hl 0 rfl) ?_
  refine lv_iload_n hx hb dL_939 rfl (lv_at hl 3 rfl) ?_
  refine lv_iconst (v := 1) hx hb dL_940 (by decide) ?_
  refine lv_iadd hx hb dL_941 ?_
  refine w_top (y := nI (i + 1)) (nI_add i 1) ?_
  refine va_sld hx hb hX hbl hbA hS (vp_in_nI (by omega) (by omega)) dL_942 ?_
  refine w_ci hS (w_runV (As := [.int (xs (nI (i + 1)).toNatClampNeg)]) C0 hW 8 0 (by decide) (by decide) rfl rfl (c_X8_lifted l G (lA s) (xs (nI (i + 1)).toNatClampNeg) hv _ (J_lifted (xs (nI (i + 1)).toNatClampNeg) B hv hB hRel)) ⟨⟨w_670, w_51, w_673⟩, pl_X8_lifted, ⟨(Nat.le_of_ble_eq_true rfl), (Nat.le_of_ble_eq_true rfl)⟩, hcs⟩ ⟨w_671, w_672⟩ rfl hl.1 rfl (Nat.le_of_ble_eq_true rfl) dL_943) (fun r hv1 h H locs hW hS => ?_)
  refine lv_aload_n hx hb dL_946 rfl (lv_at hl 2 rfl) ?_
  refine lv_aload_n hx hb dL_947 rfl (lv_at hl 0 rfl) ?_
  refine lv_iload_n hx hb dL_948 rfl (lv_at hl 3 rfl) ?_
  refine lv_iconst (v := 1) hx hb dL_949 (by decide) ?_
  refine lv_iadd hx hb dL_950 ?_
  refine w_top (y := nI (i + 1)) (nI_add i 1) ?_
  refine va_sld hx hb hX hbl hbA hS (vp_in_nI (by omega) (by omega)) dL_951 ?_
  refine w_ci hS (w_runV (As := [.int (xs (nI (i + 1)).toNatClampNeg)]) C0 hW 9 0 (by decide) (by decide) rfl rfl (c_X9_lifted l G (lA s) (xs (nI (i + 1)).toNatClampNeg) hv1 _ h) ⟨⟨w_1091, w_61, w_1094⟩, pl_X9_lifted, ⟨(Nat.le_of_ble_eq_true rfl), (Nat.le_of_ble_eq_true rfl)⟩, hcs⟩ ⟨w_1092, w_1093⟩ rfl hl.1 rfl (Nat.le_of_ble_eq_true rfl) dL_952) (fun r2 hv2 h H locs hW hS => ?_)
  exact lv_icmp_eq (tgt := 1309) hx hb dL_955 (by decide) (fun _ => next hv2 H locs h.2 hW hS) (fun z => absurd h.1 z)
set_option maxHeartbeats 4000000 in
set_option maxRecDepth 100000 in
theorem law_overflowed {p : Program} {l : Launch} {e : Env} {s : State} {m : MethodId} {args : Array Value} {below : List Frame} {meth : Method} {c : Code} {H : Heap} {locs : List Loc} {cells slots : Nat} {Q : State → Prop} {G : wG} {ls : Array Slot} {b L i B : Nat} {xs : Nat → Int32} {hv : HV} (C0 : cx p s m args meth c "RamStationLaw" code 4 G) (hX : va_X b L xs s s.heap) (hbl : b < s.heap.size) (hi : i + 6 ≤ L) (hL : L ≤ 3072) (hB : B + 65000 < 2 ^ 31) (hRel : Rel B hv) (hW : wd G (lA s) hv H) (hS : va_S (lA s) s.heap H locs) (hl : lv_has ls 4 [(0, .ref b), (1, .ref (ad G 8 0)), (2, .ref (ad G 9 0)), (3, .int (nI i))]) (hcs : cells ≤ room_1.cells ∧ slots ≤ room_1.slots)
    (next : ∀ (hv' : HV) (H1 : Heap) (locs1 : List Loc), Rel (B + 64000) hv' → wd G (lA s) hv' H1 → va_S (lA s) s.heap H1 locs1 → W p l e room_1 s m args below meth c H1 locs1 cells slots Q (F0 m 1309 ls [])) : W p l e room_1 s m args below meth c H locs cells slots Q (F0 m 960 ls []) := by
  have hx := C0.1
  have hb := C0.2.1
  have hbA : ¬ lA s b := Nat.not_le.mpr hbl
  refine lv_aload_n hx hb dL_960 rfl (lv_at hl 1 rfl) ?_
  refine lv_aload_n hx hb dL_961 rfl (lv_at hl 0 rfl) ?_
  refine lv_iload_n hx hb dL_962 rfl (lv_at hl 3 rfl) ?_
  refine lv_iconst (v := 1) hx hb dL_963 (by decide) ?_
  refine lv_iadd hx hb dL_964 ?_
  refine w_top (y := nI (i + 1)) (nI_add i 1) ?_
  refine va_sld hx hb hX hbl hbA hS (vp_in_nI (by omega) (by omega)) dL_965 ?_
  refine w_ci hS (w_runV (As := [.int (xs (nI (i + 1)).toNatClampNeg)]) C0 hW 8 0 (by decide) (by decide) rfl rfl (c_X8_overflowed l G (lA s) (xs (nI (i + 1)).toNatClampNeg) hv _ (J_overflowed (xs (nI (i + 1)).toNatClampNeg) B hv hB hRel)) ⟨⟨w_674, w_51, w_677⟩, pl_X8_overflowed, ⟨(Nat.le_of_ble_eq_true rfl), (Nat.le_of_ble_eq_true rfl)⟩, hcs⟩ ⟨w_675, w_676⟩ rfl hl.1 rfl (Nat.le_of_ble_eq_true rfl) dL_966) (fun r hv1 h H locs hW hS => ?_)
  refine lv_aload_n hx hb dL_969 rfl (lv_at hl 2 rfl) ?_
  refine lv_aload_n hx hb dL_970 rfl (lv_at hl 0 rfl) ?_
  refine lv_iload_n hx hb dL_971 rfl (lv_at hl 3 rfl) ?_
  refine lv_iconst (v := 1) hx hb dL_972 (by decide) ?_
  refine lv_iadd hx hb dL_973 ?_
  refine w_top (y := nI (i + 1)) (nI_add i 1) ?_
  refine va_sld hx hb hX hbl hbA hS (vp_in_nI (by omega) (by omega)) dL_974 ?_
  refine w_ci hS (w_runV (As := [.int (xs (nI (i + 1)).toNatClampNeg)]) C0 hW 9 0 (by decide) (by decide) rfl rfl (c_X9_overflowed l G (lA s) (xs (nI (i + 1)).toNatClampNeg) hv1 _ h) ⟨⟨w_1095, w_61, w_1098⟩, pl_X9_overflowed, ⟨(Nat.le_of_ble_eq_true rfl), (Nat.le_of_ble_eq_true rfl)⟩, hcs⟩ ⟨w_1096, w_1097⟩ rfl hl.1 rfl (Nat.le_of_ble_eq_true rfl) dL_975) (fun r2 hv2 h H locs hW hS => ?_)
  exact lv_icmp_eq (tgt := 1309) hx hb dL_978 (by decide) (fun _ => next hv2 H locs h.2 hW hS) (fun z => absurd h.1 z)
set_option maxHeartbeats 4000000 in
set_option maxRecDepth 100000 in
theorem law_starved {p : Program} {l : Launch} {e : Env} {s : State} {m : MethodId} {args : Array Value} {below : List Frame} {meth : Method} {c : Code} {H : Heap} {locs : List Loc} {cells slots : Nat} {Q : State → Prop} {G : wG} {ls : Array Slot} {b L i B : Nat} {xs : Nat → Int32} {hv : HV} (C0 : cx p s m args meth c "RamStationLaw" code 4 G) (hX : va_X b L xs s s.heap) (hbl : b < s.heap.size) (hi : i + 6 ≤ L) (hL : L ≤ 3072) (hB : B + 65000 < 2 ^ 31) (hRel : Rel B hv) (hW : wd G (lA s) hv H) (hS : va_S (lA s) s.heap H locs) (hl : lv_has ls 4 [(0, .ref b), (1, .ref (ad G 8 0)), (2, .ref (ad G 9 0)), (3, .int (nI i))]) (hcs : cells ≤ room_1.cells ∧ slots ≤ room_1.slots)
    (next : ∀ (hv' : HV) (H1 : Heap) (locs1 : List Loc), Rel (B + 64000) hv' → wd G (lA s) hv' H1 → va_S (lA s) s.heap H1 locs1 → W p l e room_1 s m args below meth c H1 locs1 cells slots Q (F0 m 1309 ls [])) : W p l e room_1 s m args below meth c H locs cells slots Q (F0 m 983 ls []) := by
  have hx := C0.1
  have hb := C0.2.1
  have hbA : ¬ lA s b := Nat.not_le.mpr hbl
  refine lv_aload_n hx hb dL_983 rfl (lv_at hl 1 rfl) ?_
  refine lv_aload_n hx hb dL_984 rfl (lv_at hl 0 rfl) ?_
  refine lv_iload_n hx hb dL_985 rfl (lv_at hl 3 rfl) ?_
  refine lv_iconst (v := 1) hx hb dL_986 (by decide) ?_
  refine lv_iadd hx hb dL_987 ?_
  refine w_top (y := nI (i + 1)) (nI_add i 1) ?_
  refine va_sld hx hb hX hbl hbA hS (vp_in_nI (by omega) (by omega)) dL_988 ?_
  refine w_ci hS (w_runV (As := [.int (xs (nI (i + 1)).toNatClampNeg)]) C0 hW 8 0 (by decide) (by decide) rfl rfl (c_X8_starved l G (lA s) (xs (nI (i + 1)).toNatClampNeg) hv _ (J_starved (xs (nI (i + 1)).toNatClampNeg) B hv hB hRel)) ⟨⟨w_678, w_51, w_681⟩, pl_X8_starved, ⟨(Nat.le_of_ble_eq_true rfl), (Nat.le_of_ble_eq_true rfl)⟩, hcs⟩ ⟨w_679, w_680⟩ rfl hl.1 rfl (Nat.le_of_ble_eq_true rfl) dL_989) (fun r hv1 h H locs hW hS => ?_)
  refine lv_aload_n hx hb dL_992 rfl (lv_at hl 2 rfl) ?_
  refine lv_aload_n hx hb dL_993 rfl (lv_at hl 0 rfl) ?_
  refine lv_iload_n hx hb dL_994 rfl (lv_at hl 3 rfl) ?_
  refine lv_iconst (v := 1) hx hb dL_995 (by decide) ?_
  refine lv_iadd hx hb dL_996 ?_
  refine w_top (y := nI (i + 1)) (nI_add i 1) ?_
  refine va_sld hx hb hX hbl hbA hS (vp_in_nI (by omega) (by omega)) dL_997 ?_
  refine w_ci hS (w_runV (As := [.int (xs (nI (i + 1)).toNatClampNeg)]) C0 hW 9 0 (by decide) (by decide) rfl rfl (c_X9_starved l G (lA s) (xs (nI (i + 1)).toNatClampNeg) hv1 _ h) ⟨⟨w_1099, w_61, w_1102⟩, pl_X9_starved, ⟨(Nat.le_of_ble_eq_true rfl), (Nat.le_of_ble_eq_true rfl)⟩, hcs⟩ ⟨w_1100, w_1101⟩ rfl hl.1 rfl (Nat.le_of_ble_eq_true rfl) dL_998) (fun r2 hv2 h H locs hW hS => ?_)
  exact lv_icmp_eq (tgt := 1309) hx hb dL_1001 (by decide) (fun _ => next hv2 H locs h.2 hW hS) (fun z => absurd h.1 z)
set_option maxHeartbeats 4000000 in
set_option maxRecDepth 100000 in
theorem law_tank {p : Program} {l : Launch} {e : Env} {s : State} {m : MethodId} {args : Array Value} {below : List Frame} {meth : Method} {c : Code} {H : Heap} {locs : List Loc} {cells slots : Nat} {Q : State → Prop} {G : wG} {ls : Array Slot} {b L i B : Nat} {xs : Nat → Int32} {hv : HV} (C0 : cx p s m args meth c "RamStationLaw" code 4 G) (hX : va_X b L xs s s.heap) (hbl : b < s.heap.size) (hi : i + 6 ≤ L) (hL : L ≤ 3072) (hB : B + 65000 < 2 ^ 31) (hRel : Rel B hv) (hW : wd G (lA s) hv H) (hS : va_S (lA s) s.heap H locs) (hl : lv_has ls 4 [(0, .ref b), (1, .ref (ad G 8 0)), (2, .ref (ad G 9 0)), (3, .int (nI i))]) (hcs : cells ≤ room_1.cells ∧ slots ≤ room_1.slots)
    (next : ∀ (hv' : HV) (H1 : Heap) (locs1 : List Loc), Rel (B + 64000) hv' → wd G (lA s) hv' H1 → va_S (lA s) s.heap H1 locs1 → W p l e room_1 s m args below meth c H1 locs1 cells slots Q (F0 m 1309 ls [])) : W p l e room_1 s m args below meth c H locs cells slots Q (F0 m 1006 ls []) := by
  have hx := C0.1
  have hb := C0.2.1
  have hbA : ¬ lA s b := Nat.not_le.mpr hbl
  refine lv_aload_n hx hb dL_1006 rfl (lv_at hl 1 rfl) ?_
  refine lv_aload_n hx hb dL_1007 rfl (lv_at hl 0 rfl) ?_
  refine lv_iload_n hx hb dL_1008 rfl (lv_at hl 3 rfl) ?_
  refine lv_iconst (v := 1) hx hb dL_1009 (by decide) ?_
  refine lv_iadd hx hb dL_1010 ?_
  refine w_top (y := nI (i + 1)) (nI_add i 1) ?_
  refine va_sld hx hb hX hbl hbA hS (vp_in_nI (by omega) (by omega)) dL_1011 ?_
  refine w_ci hS (w_runV (As := [.int (xs (nI (i + 1)).toNatClampNeg)]) C0 hW 8 0 (by decide) (by decide) rfl rfl (c_X8_tank l G (lA s) (xs (nI (i + 1)).toNatClampNeg) hv _ (J_tank (xs (nI (i + 1)).toNatClampNeg) B hv hB hRel)) ⟨⟨w_682, w_51, w_685⟩, pl_X8_tank, ⟨(Nat.le_of_ble_eq_true rfl), (Nat.le_of_ble_eq_true rfl)⟩, hcs⟩ ⟨w_683, w_684⟩ rfl hl.1 rfl (Nat.le_of_ble_eq_true rfl) dL_1012) (fun r hv1 h H locs hW hS => ?_)
  refine lv_aload_n hx hb dL_1015 rfl (lv_at hl 2 rfl) ?_
  refine lv_aload_n hx hb dL_1016 rfl (lv_at hl 0 rfl) ?_
  refine lv_iload_n hx hb dL_1017 rfl (lv_at hl 3 rfl) ?_
  refine lv_iconst (v := 1) hx hb dL_1018 (by decide) ?_
  refine lv_iadd hx hb dL_1019 ?_
  refine w_top (y := nI (i + 1)) (nI_add i 1) ?_
  refine va_sld hx hb hX hbl hbA hS (vp_in_nI (by omega) (by omega)) dL_1020 ?_
  refine w_ci hS (w_runV (As := [.int (xs (nI (i + 1)).toNatClampNeg)]) C0 hW 9 0 (by decide) (by decide) rfl rfl (c_X9_tank l G (lA s) (xs (nI (i + 1)).toNatClampNeg) hv1 _ h) ⟨⟨w_1103, w_61, w_1106⟩, pl_X9_tank, ⟨(Nat.le_of_ble_eq_true rfl), (Nat.le_of_ble_eq_true rfl)⟩, hcs⟩ ⟨w_1104, w_1105⟩ rfl hl.1 rfl (Nat.le_of_ble_eq_true rfl) dL_1021) (fun r2 hv2 h H locs hW hS => ?_)
  exact lv_icmp_eq (tgt := 1309) hx hb dL_1024 (by decide) (fun _ => next hv2 H locs h.2 hW hS) (fun z => absurd h.1 z)
set_option maxHeartbeats 4000000 in
set_option maxRecDepth 100000 in
theorem law_interval {p : Program} {l : Launch} {e : Env} {s : State} {m : MethodId} {args : Array Value} {below : List Frame} {meth : Method} {c : Code} {H : Heap} {locs : List Loc} {cells slots : Nat} {Q : State → Prop} {G : wG} {ls : Array Slot} {b L i B : Nat} {xs : Nat → Int32} {hv : HV} (C0 : cx p s m args meth c "RamStationLaw" code 4 G) (hX : va_X b L xs s s.heap) (hbl : b < s.heap.size) (hi : i + 6 ≤ L) (hL : L ≤ 3072) (hB : B + 65000 < 2 ^ 31) (hRel : Rel B hv) (hW : wd G (lA s) hv H) (hS : va_S (lA s) s.heap H locs) (hl : lv_has ls 4 [(0, .ref b), (1, .ref (ad G 8 0)), (2, .ref (ad G 9 0)), (3, .int (nI i))]) (hcs : cells ≤ room_1.cells ∧ slots ≤ room_1.slots)
    (next : ∀ (hv' : HV) (H1 : Heap) (locs1 : List Loc), Rel (B + 64000) hv' → wd G (lA s) hv' H1 → va_S (lA s) s.heap H1 locs1 → W p l e room_1 s m args below meth c H1 locs1 cells slots Q (F0 m 1309 ls [])) : W p l e room_1 s m args below meth c H locs cells slots Q (F0 m 1029 ls []) := by
  have hx := C0.1
  have hb := C0.2.1
  have hbA : ¬ lA s b := Nat.not_le.mpr hbl
  refine lv_aload_n hx hb dL_1029 rfl (lv_at hl 1 rfl) ?_
  refine lv_aload_n hx hb dL_1030 rfl (lv_at hl 0 rfl) ?_
  refine lv_iload_n hx hb dL_1031 rfl (lv_at hl 3 rfl) ?_
  refine lv_iconst (v := 1) hx hb dL_1032 (by decide) ?_
  refine lv_iadd hx hb dL_1033 ?_
  refine w_top (y := nI (i + 1)) (nI_add i 1) ?_
  refine va_sld hx hb hX hbl hbA hS (vp_in_nI (by omega) (by omega)) dL_1034 ?_
  refine lv_aload_n hx hb dL_1035 rfl (lv_at hl 0 rfl) ?_
  refine lv_iload_n hx hb dL_1036 rfl (lv_at hl 3 rfl) ?_
  refine lv_iconst (v := 2) hx hb dL_1037 (by decide) ?_
  refine lv_iadd hx hb dL_1038 ?_
  refine w_top (y := nI (i + 2)) (nI_add i 2) ?_
  refine va_sld hx hb hX hbl hbA hS (vp_in_nI (by omega) (by omega)) dL_1039 ?_
  refine w_ci hS (w_runV (As := [.int (xs (nI (i + 1)).toNatClampNeg), .int (xs (nI (i + 2)).toNatClampNeg)]) C0 hW 8 0 (by decide) (by decide) rfl rfl (c_X8_interval l G (lA s) (xs (nI (i + 1)).toNatClampNeg) (xs (nI (i + 2)).toNatClampNeg) hv _ (J_interval (xs (nI (i + 1)).toNatClampNeg) (xs (nI (i + 2)).toNatClampNeg) B hv hB hRel)) ⟨⟨w_686, w_51, w_689⟩, pl_X8_interval, ⟨(Nat.le_of_ble_eq_true rfl), (Nat.le_of_ble_eq_true rfl)⟩, hcs⟩ ⟨w_687, w_688⟩ rfl hl.1 rfl (Nat.le_of_ble_eq_true rfl) dL_1040) (fun r hv1 h H locs hW hS => ?_)
  refine lv_aload_n hx hb dL_1043 rfl (lv_at hl 2 rfl) ?_
  refine lv_aload_n hx hb dL_1044 rfl (lv_at hl 0 rfl) ?_
  refine lv_iload_n hx hb dL_1045 rfl (lv_at hl 3 rfl) ?_
  refine lv_iconst (v := 1) hx hb dL_1046 (by decide) ?_
  refine lv_iadd hx hb dL_1047 ?_
  refine w_top (y := nI (i + 1)) (nI_add i 1) ?_
  refine va_sld hx hb hX hbl hbA hS (vp_in_nI (by omega) (by omega)) dL_1048 ?_
  refine lv_aload_n hx hb dL_1049 rfl (lv_at hl 0 rfl) ?_
  refine lv_iload_n hx hb dL_1050 rfl (lv_at hl 3 rfl) ?_
  refine lv_iconst (v := 2) hx hb dL_1051 (by decide) ?_
  refine lv_iadd hx hb dL_1052 ?_
  refine w_top (y := nI (i + 2)) (nI_add i 2) ?_
  refine va_sld hx hb hX hbl hbA hS (vp_in_nI (by omega) (by omega)) dL_1053 ?_
  refine w_ci hS (w_runV (As := [.int (xs (nI (i + 1)).toNatClampNeg), .int (xs (nI (i + 2)).toNatClampNeg)]) C0 hW 9 0 (by decide) (by decide) rfl rfl (c_X9_interval l G (lA s) (xs (nI (i + 1)).toNatClampNeg) (xs (nI (i + 2)).toNatClampNeg) hv1 _ h) ⟨⟨w_1107, w_61, w_1110⟩, pl_X9_interval, ⟨(Nat.le_of_ble_eq_true rfl), (Nat.le_of_ble_eq_true rfl)⟩, hcs⟩ ⟨w_1108, w_1109⟩ rfl hl.1 rfl (Nat.le_of_ble_eq_true rfl) dL_1054) (fun r2 hv2 h H locs hW hS => ?_)
  exact lv_icmp_eq (tgt := 1309) hx hb dL_1057 (by decide) (fun _ => next hv2 H locs h.2 hW hS) (fun z => absurd h.1 z)
set_option maxHeartbeats 4000000 in
set_option maxRecDepth 100000 in
theorem law_trace {p : Program} {l : Launch} {e : Env} {s : State} {m : MethodId} {args : Array Value} {below : List Frame} {meth : Method} {c : Code} {H : Heap} {locs : List Loc} {cells slots : Nat} {Q : State → Prop} {G : wG} {ls : Array Slot} {b L i B : Nat} {xs : Nat → Int32} {hv : HV} (C0 : cx p s m args meth c "RamStationLaw" code 4 G) (hX : va_X b L xs s s.heap) (hbl : b < s.heap.size) (hi : i + 6 ≤ L) (hL : L ≤ 3072) (hB : B + 65000 < 2 ^ 31) (hRel : Rel B hv) (hW : wd G (lA s) hv H) (hS : va_S (lA s) s.heap H locs) (hl : lv_has ls 4 [(0, .ref b), (1, .ref (ad G 8 0)), (2, .ref (ad G 9 0)), (3, .int (nI i))]) (hcs : cells ≤ room_1.cells ∧ slots ≤ room_1.slots)
    (next : ∀ (hv' : HV) (H1 : Heap) (locs1 : List Loc), Rel (B + 64000) hv' → wd G (lA s) hv' H1 → va_S (lA s) s.heap H1 locs1 → W p l e room_1 s m args below meth c H1 locs1 cells slots Q (F0 m 1309 ls [])) : W p l e room_1 s m args below meth c H locs cells slots Q (F0 m 1062 ls []) := by
  have hx := C0.1
  have hb := C0.2.1
  have hbA : ¬ lA s b := Nat.not_le.mpr hbl
  refine lv_aload_n hx hb dL_1062 rfl (lv_at hl 1 rfl) ?_
  refine lv_aload_n hx hb dL_1063 rfl (lv_at hl 0 rfl) ?_
  refine lv_iload_n hx hb dL_1064 rfl (lv_at hl 3 rfl) ?_
  refine lv_iconst (v := 1) hx hb dL_1065 (by decide) ?_
  refine lv_iadd hx hb dL_1066 ?_
  refine w_top (y := nI (i + 1)) (nI_add i 1) ?_
  refine va_sld hx hb hX hbl hbA hS (vp_in_nI (by omega) (by omega)) dL_1067 ?_
  refine lv_aload_n hx hb dL_1068 rfl (lv_at hl 0 rfl) ?_
  refine lv_iload_n hx hb dL_1069 rfl (lv_at hl 3 rfl) ?_
  refine lv_iconst (v := 2) hx hb dL_1070 (by decide) ?_
  refine lv_iadd hx hb dL_1071 ?_
  refine w_top (y := nI (i + 2)) (nI_add i 2) ?_
  refine va_sld hx hb hX hbl hbA hS (vp_in_nI (by omega) (by omega)) dL_1072 ?_
  refine w_ci hS (w_runV (As := [.int (xs (nI (i + 1)).toNatClampNeg), .int (xs (nI (i + 2)).toNatClampNeg)]) C0 hW 8 0 (by decide) (by decide) rfl rfl (c_X8_trace l G (lA s) (xs (nI (i + 1)).toNatClampNeg) (xs (nI (i + 2)).toNatClampNeg) hv _ (J_trace (xs (nI (i + 1)).toNatClampNeg) (xs (nI (i + 2)).toNatClampNeg) B hv hB hRel)) ⟨⟨w_690, w_51, w_693⟩, pl_X8_trace, ⟨(Nat.le_of_ble_eq_true rfl), (Nat.le_of_ble_eq_true rfl)⟩, hcs⟩ ⟨w_691, w_692⟩ rfl hl.1 rfl (Nat.le_of_ble_eq_true rfl) dL_1073) (fun r hv1 h H locs hW hS => ?_)
  refine lv_aload_n hx hb dL_1076 rfl (lv_at hl 2 rfl) ?_
  refine lv_aload_n hx hb dL_1077 rfl (lv_at hl 0 rfl) ?_
  refine lv_iload_n hx hb dL_1078 rfl (lv_at hl 3 rfl) ?_
  refine lv_iconst (v := 1) hx hb dL_1079 (by decide) ?_
  refine lv_iadd hx hb dL_1080 ?_
  refine w_top (y := nI (i + 1)) (nI_add i 1) ?_
  refine va_sld hx hb hX hbl hbA hS (vp_in_nI (by omega) (by omega)) dL_1081 ?_
  refine lv_aload_n hx hb dL_1082 rfl (lv_at hl 0 rfl) ?_
  refine lv_iload_n hx hb dL_1083 rfl (lv_at hl 3 rfl) ?_
  refine lv_iconst (v := 2) hx hb dL_1084 (by decide) ?_
  refine lv_iadd hx hb dL_1085 ?_
  refine w_top (y := nI (i + 2)) (nI_add i 2) ?_
  refine va_sld hx hb hX hbl hbA hS (vp_in_nI (by omega) (by omega)) dL_1086 ?_
  refine w_ci hS (w_runV (As := [.int (xs (nI (i + 1)).toNatClampNeg), .int (xs (nI (i + 2)).toNatClampNeg)]) C0 hW 9 0 (by decide) (by decide) rfl rfl (c_X9_trace l G (lA s) (xs (nI (i + 1)).toNatClampNeg) (xs (nI (i + 2)).toNatClampNeg) hv1 _ h) ⟨⟨w_1115, w_61, w_1118⟩, pl_X9_trace, ⟨(Nat.le_of_ble_eq_true rfl), (Nat.le_of_ble_eq_true rfl)⟩, hcs⟩ ⟨w_1116, w_1117⟩ rfl hl.1 rfl (Nat.le_of_ble_eq_true rfl) dL_1087) (fun r2 hv2 h H locs hW hS => ?_)
  exact lv_icmp_eq (tgt := 1309) hx hb dL_1090 (by decide) (fun _ => next hv2 H locs h.2 hW hS) (fun z => absurd h.1 z)
set_option maxHeartbeats 4000000 in
set_option maxRecDepth 100000 in
theorem law_efficiency {p : Program} {l : Launch} {e : Env} {s : State} {m : MethodId} {args : Array Value} {below : List Frame} {meth : Method} {c : Code} {H : Heap} {locs : List Loc} {cells slots : Nat} {Q : State → Prop} {G : wG} {ls : Array Slot} {b L i B : Nat} {xs : Nat → Int32} {hv : HV} (C0 : cx p s m args meth c "RamStationLaw" code 4 G) (hX : va_X b L xs s s.heap) (hbl : b < s.heap.size) (hi : i + 6 ≤ L) (hL : L ≤ 3072) (hB : B + 65000 < 2 ^ 31) (hRel : Rel B hv) (hW : wd G (lA s) hv H) (hS : va_S (lA s) s.heap H locs) (hl : lv_has ls 4 [(0, .ref b), (1, .ref (ad G 8 0)), (2, .ref (ad G 9 0)), (3, .int (nI i))]) (hcs : cells ≤ room_1.cells ∧ slots ≤ room_1.slots)
    (next : ∀ (hv' : HV) (H1 : Heap) (locs1 : List Loc), Rel (B + 64000) hv' → wd G (lA s) hv' H1 → va_S (lA s) s.heap H1 locs1 → W p l e room_1 s m args below meth c H1 locs1 cells slots Q (F0 m 1309 ls [])) : W p l e room_1 s m args below meth c H locs cells slots Q (F0 m 1095 ls []) := by
  have hx := C0.1
  have hb := C0.2.1
  have hbA : ¬ lA s b := Nat.not_le.mpr hbl
  refine lv_aload_n hx hb dL_1095 rfl (lv_at hl 1 rfl) ?_
  refine lv_aload_n hx hb dL_1096 rfl (lv_at hl 0 rfl) ?_
  refine lv_iload_n hx hb dL_1097 rfl (lv_at hl 3 rfl) ?_
  refine lv_iconst (v := 1) hx hb dL_1098 (by decide) ?_
  refine lv_iadd hx hb dL_1099 ?_
  refine w_top (y := nI (i + 1)) (nI_add i 1) ?_
  refine va_sld hx hb hX hbl hbA hS (vp_in_nI (by omega) (by omega)) dL_1100 ?_
  refine w_ci hS (w_runV (As := [.int (xs (nI (i + 1)).toNatClampNeg)]) C0 hW 8 0 (by decide) (by decide) rfl rfl (c_X8_efficiency l G (lA s) (xs (nI (i + 1)).toNatClampNeg) hv _ (J_efficiency (xs (nI (i + 1)).toNatClampNeg) B hv hB hRel)) ⟨⟨w_694, w_51, w_697⟩, pl_X8_efficiency, ⟨(Nat.le_of_ble_eq_true rfl), (Nat.le_of_ble_eq_true rfl)⟩, hcs⟩ ⟨w_695, w_696⟩ rfl hl.1 rfl (Nat.le_of_ble_eq_true rfl) dL_1101) (fun r hv1 h H locs hW hS => ?_)
  refine lv_aload_n hx hb dL_1104 rfl (lv_at hl 2 rfl) ?_
  refine lv_aload_n hx hb dL_1105 rfl (lv_at hl 0 rfl) ?_
  refine lv_iload_n hx hb dL_1106 rfl (lv_at hl 3 rfl) ?_
  refine lv_iconst (v := 1) hx hb dL_1107 (by decide) ?_
  refine lv_iadd hx hb dL_1108 ?_
  refine w_top (y := nI (i + 1)) (nI_add i 1) ?_
  refine va_sld hx hb hX hbl hbA hS (vp_in_nI (by omega) (by omega)) dL_1109 ?_
  refine w_ci hS (w_runV (As := [.int (xs (nI (i + 1)).toNatClampNeg)]) C0 hW 9 0 (by decide) (by decide) rfl rfl (c_X9_efficiency l G (lA s) (xs (nI (i + 1)).toNatClampNeg) hv1 _ h) ⟨⟨w_1119, w_61, w_1122⟩, pl_X9_efficiency, ⟨(Nat.le_of_ble_eq_true rfl), (Nat.le_of_ble_eq_true rfl)⟩, hcs⟩ ⟨w_1120, w_1121⟩ rfl hl.1 rfl (Nat.le_of_ble_eq_true rfl) dL_1110) (fun r2 hv2 h H locs hW hS => ?_)
  exact lv_icmp_eq (tgt := 1309) hx hb dL_1113 (by decide) (fun _ => next hv2 H locs h.2 hW hS) (fun z => absurd h.1 z)
set_option maxHeartbeats 4000000 in
set_option maxRecDepth 100000 in
theorem law_bestPump {p : Program} {l : Launch} {e : Env} {s : State} {m : MethodId} {args : Array Value} {below : List Frame} {meth : Method} {c : Code} {H : Heap} {locs : List Loc} {cells slots : Nat} {Q : State → Prop} {G : wG} {ls : Array Slot} {b L i B : Nat} {xs : Nat → Int32} {hv : HV} (C0 : cx p s m args meth c "RamStationLaw" code 4 G) (hX : va_X b L xs s s.heap) (hbl : b < s.heap.size) (hi : i + 6 ≤ L) (hL : L ≤ 3072) (hB : B + 65000 < 2 ^ 31) (hRel : Rel B hv) (hW : wd G (lA s) hv H) (hS : va_S (lA s) s.heap H locs) (hl : lv_has ls 4 [(0, .ref b), (1, .ref (ad G 8 0)), (2, .ref (ad G 9 0)), (3, .int (nI i))]) (hcs : cells ≤ room_1.cells ∧ slots ≤ room_1.slots)
    (next : ∀ (hv' : HV) (H1 : Heap) (locs1 : List Loc), Rel (B + 64000) hv' → wd G (lA s) hv' H1 → va_S (lA s) s.heap H1 locs1 → W p l e room_1 s m args below meth c H1 locs1 cells slots Q (F0 m 1309 ls [])) : W p l e room_1 s m args below meth c H locs cells slots Q (F0 m 1118 ls []) := by
  have hx := C0.1
  have hb := C0.2.1
  have hbA : ¬ lA s b := Nat.not_le.mpr hbl
  refine lv_aload_n hx hb dL_1118 rfl (lv_at hl 1 rfl) ?_
  refine w_ci hS (w_runV (As := []) C0 hW 8 0 (by decide) (by decide) rfl rfl (c_X8_bestPump l G (lA s) hv _ (J_bestPump B hv hB hRel)) ⟨⟨w_703, w_51, w_706⟩, pl_X8_bestPump, ⟨(Nat.le_of_ble_eq_true rfl), (Nat.le_of_ble_eq_true rfl)⟩, hcs⟩ ⟨w_704, w_705⟩ rfl hl.1 rfl (Nat.le_of_ble_eq_true rfl) dL_1119) (fun r hv1 h H locs hW hS => ?_)
  refine lv_aload_n hx hb dL_1122 rfl (lv_at hl 2 rfl) ?_
  refine w_ci hS (w_runV (As := []) C0 hW 9 0 (by decide) (by decide) rfl rfl (c_X9_bestPump l G (lA s) hv1 _ h) ⟨⟨w_1128, w_61, w_1131⟩, pl_X9_bestPump, ⟨(Nat.le_of_ble_eq_true rfl), (Nat.le_of_ble_eq_true rfl)⟩, hcs⟩ ⟨w_1129, w_1130⟩ rfl hl.1 rfl (Nat.le_of_ble_eq_true rfl) dL_1123) (fun r2 hv2 h H locs hW hS => ?_)
  exact lv_icmp_eq (tgt := 1309) hx hb dL_1126 (by decide) (fun _ => next hv2 H locs h.2 hW hS) (fun z => absurd h.1 z)
set_option maxHeartbeats 4000000 in
set_option maxRecDepth 100000 in
theorem law_ticksToSlam {p : Program} {l : Launch} {e : Env} {s : State} {m : MethodId} {args : Array Value} {below : List Frame} {meth : Method} {c : Code} {H : Heap} {locs : List Loc} {cells slots : Nat} {Q : State → Prop} {G : wG} {ls : Array Slot} {b L i B : Nat} {xs : Nat → Int32} {hv : HV} (C0 : cx p s m args meth c "RamStationLaw" code 4 G) (hX : va_X b L xs s s.heap) (hbl : b < s.heap.size) (hi : i + 6 ≤ L) (hL : L ≤ 3072) (hB : B + 65000 < 2 ^ 31) (hRel : Rel B hv) (hW : wd G (lA s) hv H) (hS : va_S (lA s) s.heap H locs) (hl : lv_has ls 4 [(0, .ref b), (1, .ref (ad G 8 0)), (2, .ref (ad G 9 0)), (3, .int (nI i))]) (hcs : cells ≤ room_1.cells ∧ slots ≤ room_1.slots)
    (next : ∀ (hv' : HV) (H1 : Heap) (locs1 : List Loc), Rel (B + 64000) hv' → wd G (lA s) hv' H1 → va_S (lA s) s.heap H1 locs1 → W p l e room_1 s m args below meth c H1 locs1 cells slots Q (F0 m 1309 ls [])) : W p l e room_1 s m args below meth c H locs cells slots Q (F0 m 1131 ls []) := by
  have hx := C0.1
  have hb := C0.2.1
  have hbA : ¬ lA s b := Nat.not_le.mpr hbl
  refine lv_aload_n hx hb dL_1131 rfl (lv_at hl 1 rfl) ?_
  refine lv_aload_n hx hb dL_1132 rfl (lv_at hl 0 rfl) ?_
  refine lv_iload_n hx hb dL_1133 rfl (lv_at hl 3 rfl) ?_
  refine lv_iconst (v := 1) hx hb dL_1134 (by decide) ?_
  refine lv_iadd hx hb dL_1135 ?_
  refine w_top (y := nI (i + 1)) (nI_add i 1) ?_
  refine va_sld hx hb hX hbl hbA hS (vp_in_nI (by omega) (by omega)) dL_1136 ?_
  refine w_ci hS (w_runV (As := [.int (xs (nI (i + 1)).toNatClampNeg)]) C0 hW 8 0 (by decide) (by decide) rfl rfl (c_X8_ticksToSlam l G (lA s) (xs (nI (i + 1)).toNatClampNeg) hv _ (J_ticksToSlam (xs (nI (i + 1)).toNatClampNeg) B hv hB hRel)) ⟨⟨w_708, w_51, w_711⟩, pl_X8_ticksToSlam, ⟨(Nat.le_of_ble_eq_true rfl), (Nat.le_of_ble_eq_true rfl)⟩, hcs⟩ ⟨w_709, w_710⟩ rfl hl.1 rfl (Nat.le_of_ble_eq_true rfl) dL_1137) (fun r hv1 h H locs hW hS => ?_)
  refine lv_aload_n hx hb dL_1140 rfl (lv_at hl 2 rfl) ?_
  refine lv_aload_n hx hb dL_1141 rfl (lv_at hl 0 rfl) ?_
  refine lv_iload_n hx hb dL_1142 rfl (lv_at hl 3 rfl) ?_
  refine lv_iconst (v := 1) hx hb dL_1143 (by decide) ?_
  refine lv_iadd hx hb dL_1144 ?_
  refine w_top (y := nI (i + 1)) (nI_add i 1) ?_
  refine va_sld hx hb hX hbl hbA hS (vp_in_nI (by omega) (by omega)) dL_1145 ?_
  refine w_ci hS (w_runV (As := [.int (xs (nI (i + 1)).toNatClampNeg)]) C0 hW 9 0 (by decide) (by decide) rfl rfl (c_X9_ticksToSlam l G (lA s) (xs (nI (i + 1)).toNatClampNeg) hv1 _ h) ⟨⟨w_1132, w_61, w_1135⟩, pl_X9_ticksToSlam, ⟨(Nat.le_of_ble_eq_true rfl), (Nat.le_of_ble_eq_true rfl)⟩, hcs⟩ ⟨w_1133, w_1134⟩ rfl hl.1 rfl (Nat.le_of_ble_eq_true rfl) dL_1146) (fun r2 hv2 h H locs hW hS => ?_)
  exact lv_icmp_eq (tgt := 1309) hx hb dL_1149 (by decide) (fun _ => next hv2 H locs h.2 hW hS) (fun z => absurd h.1 z)
set_option maxHeartbeats 4000000 in
set_option maxRecDepth 100000 in
theorem law_deliveredIn {p : Program} {l : Launch} {e : Env} {s : State} {m : MethodId} {args : Array Value} {below : List Frame} {meth : Method} {c : Code} {H : Heap} {locs : List Loc} {cells slots : Nat} {Q : State → Prop} {G : wG} {ls : Array Slot} {b L i B : Nat} {xs : Nat → Int32} {hv : HV} (C0 : cx p s m args meth c "RamStationLaw" code 4 G) (hX : va_X b L xs s s.heap) (hbl : b < s.heap.size) (hi : i + 6 ≤ L) (hL : L ≤ 3072) (hB : B + 65000 < 2 ^ 31) (hRel : Rel B hv) (hW : wd G (lA s) hv H) (hS : va_S (lA s) s.heap H locs) (hl : lv_has ls 4 [(0, .ref b), (1, .ref (ad G 8 0)), (2, .ref (ad G 9 0)), (3, .int (nI i))]) (hcs : cells ≤ room_1.cells ∧ slots ≤ room_1.slots)
    (next : ∀ (hv' : HV) (H1 : Heap) (locs1 : List Loc), Rel (B + 64000) hv' → wd G (lA s) hv' H1 → va_S (lA s) s.heap H1 locs1 → W p l e room_1 s m args below meth c H1 locs1 cells slots Q (F0 m 1309 ls [])) : W p l e room_1 s m args below meth c H locs cells slots Q (F0 m 1154 ls []) := by
  have hx := C0.1
  have hb := C0.2.1
  have hbA : ¬ lA s b := Nat.not_le.mpr hbl
  refine lv_aload_n hx hb dL_1154 rfl (lv_at hl 1 rfl) ?_
  refine lv_aload_n hx hb dL_1155 rfl (lv_at hl 0 rfl) ?_
  refine lv_iload_n hx hb dL_1156 rfl (lv_at hl 3 rfl) ?_
  refine lv_iconst (v := 1) hx hb dL_1157 (by decide) ?_
  refine lv_iadd hx hb dL_1158 ?_
  refine w_top (y := nI (i + 1)) (nI_add i 1) ?_
  refine va_sld hx hb hX hbl hbA hS (vp_in_nI (by omega) (by omega)) dL_1159 ?_
  refine lv_aload_n hx hb dL_1160 rfl (lv_at hl 0 rfl) ?_
  refine lv_iload_n hx hb dL_1161 rfl (lv_at hl 3 rfl) ?_
  refine lv_iconst (v := 2) hx hb dL_1162 (by decide) ?_
  refine lv_iadd hx hb dL_1163 ?_
  refine w_top (y := nI (i + 2)) (nI_add i 2) ?_
  refine va_sld hx hb hX hbl hbA hS (vp_in_nI (by omega) (by omega)) dL_1164 ?_
  refine w_ci hS (w_runV (As := [.int (xs (nI (i + 1)).toNatClampNeg), .int (xs (nI (i + 2)).toNatClampNeg)]) C0 hW 8 0 (by decide) (by decide) rfl rfl (c_X8_deliveredIn l G (lA s) (xs (nI (i + 1)).toNatClampNeg) (xs (nI (i + 2)).toNatClampNeg) hv _ (J_deliveredIn (xs (nI (i + 1)).toNatClampNeg) (xs (nI (i + 2)).toNatClampNeg) B hv hB hRel)) ⟨⟨w_718, w_51, w_721⟩, pl_X8_deliveredIn, ⟨(Nat.le_of_ble_eq_true rfl), (Nat.le_of_ble_eq_true rfl)⟩, hcs⟩ ⟨w_719, w_720⟩ rfl hl.1 rfl (Nat.le_of_ble_eq_true rfl) dL_1165) (fun r hv1 h H locs hW hS => ?_)
  refine lv_aload_n hx hb dL_1168 rfl (lv_at hl 2 rfl) ?_
  refine lv_aload_n hx hb dL_1169 rfl (lv_at hl 0 rfl) ?_
  refine lv_iload_n hx hb dL_1170 rfl (lv_at hl 3 rfl) ?_
  refine lv_iconst (v := 1) hx hb dL_1171 (by decide) ?_
  refine lv_iadd hx hb dL_1172 ?_
  refine w_top (y := nI (i + 1)) (nI_add i 1) ?_
  refine va_sld hx hb hX hbl hbA hS (vp_in_nI (by omega) (by omega)) dL_1173 ?_
  refine lv_aload_n hx hb dL_1174 rfl (lv_at hl 0 rfl) ?_
  refine lv_iload_n hx hb dL_1175 rfl (lv_at hl 3 rfl) ?_
  refine lv_iconst (v := 2) hx hb dL_1176 (by decide) ?_
  refine lv_iadd hx hb dL_1177 ?_
  refine w_top (y := nI (i + 2)) (nI_add i 2) ?_
  refine va_sld hx hb hX hbl hbA hS (vp_in_nI (by omega) (by omega)) dL_1178 ?_
  refine w_ci hS (w_runV (As := [.int (xs (nI (i + 1)).toNatClampNeg), .int (xs (nI (i + 2)).toNatClampNeg)]) C0 hW 9 0 (by decide) (by decide) rfl rfl (c_X9_deliveredIn l G (lA s) (xs (nI (i + 1)).toNatClampNeg) (xs (nI (i + 2)).toNatClampNeg) hv1 _ h) ⟨⟨w_1140, w_61, w_1143⟩, pl_X9_deliveredIn, ⟨(Nat.le_of_ble_eq_true rfl), (Nat.le_of_ble_eq_true rfl)⟩, hcs⟩ ⟨w_1141, w_1142⟩ rfl hl.1 rfl (Nat.le_of_ble_eq_true rfl) dL_1179) (fun r2 hv2 h H locs hW hS => ?_)
  exact lv_icmp_eq (tgt := 1309) hx hb dL_1182 (by decide) (fun _ => next hv2 H locs h.2 hW hS) (fun z => absurd h.1 z)
set_option maxHeartbeats 4000000 in
set_option maxRecDepth 100000 in
theorem law_drawnIn {p : Program} {l : Launch} {e : Env} {s : State} {m : MethodId} {args : Array Value} {below : List Frame} {meth : Method} {c : Code} {H : Heap} {locs : List Loc} {cells slots : Nat} {Q : State → Prop} {G : wG} {ls : Array Slot} {b L i B : Nat} {xs : Nat → Int32} {hv : HV} (C0 : cx p s m args meth c "RamStationLaw" code 4 G) (hX : va_X b L xs s s.heap) (hbl : b < s.heap.size) (hi : i + 6 ≤ L) (hL : L ≤ 3072) (hB : B + 65000 < 2 ^ 31) (hRel : Rel B hv) (hW : wd G (lA s) hv H) (hS : va_S (lA s) s.heap H locs) (hl : lv_has ls 4 [(0, .ref b), (1, .ref (ad G 8 0)), (2, .ref (ad G 9 0)), (3, .int (nI i))]) (hcs : cells ≤ room_1.cells ∧ slots ≤ room_1.slots)
    (next : ∀ (hv' : HV) (H1 : Heap) (locs1 : List Loc), Rel (B + 64000) hv' → wd G (lA s) hv' H1 → va_S (lA s) s.heap H1 locs1 → W p l e room_1 s m args below meth c H1 locs1 cells slots Q (F0 m 1309 ls [])) : W p l e room_1 s m args below meth c H locs cells slots Q (F0 m 1187 ls []) := by
  have hx := C0.1
  have hb := C0.2.1
  have hbA : ¬ lA s b := Nat.not_le.mpr hbl
  refine lv_aload_n hx hb dL_1187 rfl (lv_at hl 1 rfl) ?_
  refine lv_aload_n hx hb dL_1188 rfl (lv_at hl 0 rfl) ?_
  refine lv_iload_n hx hb dL_1189 rfl (lv_at hl 3 rfl) ?_
  refine lv_iconst (v := 1) hx hb dL_1190 (by decide) ?_
  refine lv_iadd hx hb dL_1191 ?_
  refine w_top (y := nI (i + 1)) (nI_add i 1) ?_
  refine va_sld hx hb hX hbl hbA hS (vp_in_nI (by omega) (by omega)) dL_1192 ?_
  refine lv_aload_n hx hb dL_1193 rfl (lv_at hl 0 rfl) ?_
  refine lv_iload_n hx hb dL_1194 rfl (lv_at hl 3 rfl) ?_
  refine lv_iconst (v := 2) hx hb dL_1195 (by decide) ?_
  refine lv_iadd hx hb dL_1196 ?_
  refine w_top (y := nI (i + 2)) (nI_add i 2) ?_
  refine va_sld hx hb hX hbl hbA hS (vp_in_nI (by omega) (by omega)) dL_1197 ?_
  refine w_ci hS (w_runV (As := [.int (xs (nI (i + 1)).toNatClampNeg), .int (xs (nI (i + 2)).toNatClampNeg)]) C0 hW 8 0 (by decide) (by decide) rfl rfl (c_X8_drawnIn l G (lA s) (xs (nI (i + 1)).toNatClampNeg) (xs (nI (i + 2)).toNatClampNeg) hv _ (J_drawnIn (xs (nI (i + 1)).toNatClampNeg) (xs (nI (i + 2)).toNatClampNeg) B hv hB hRel)) ⟨⟨w_726, w_51, w_729⟩, pl_X8_drawnIn, ⟨(Nat.le_of_ble_eq_true rfl), (Nat.le_of_ble_eq_true rfl)⟩, hcs⟩ ⟨w_727, w_728⟩ rfl hl.1 rfl (Nat.le_of_ble_eq_true rfl) dL_1198) (fun r hv1 h H locs hW hS => ?_)
  refine lv_aload_n hx hb dL_1201 rfl (lv_at hl 2 rfl) ?_
  refine lv_aload_n hx hb dL_1202 rfl (lv_at hl 0 rfl) ?_
  refine lv_iload_n hx hb dL_1203 rfl (lv_at hl 3 rfl) ?_
  refine lv_iconst (v := 1) hx hb dL_1204 (by decide) ?_
  refine lv_iadd hx hb dL_1205 ?_
  refine w_top (y := nI (i + 1)) (nI_add i 1) ?_
  refine va_sld hx hb hX hbl hbA hS (vp_in_nI (by omega) (by omega)) dL_1206 ?_
  refine lv_aload_n hx hb dL_1207 rfl (lv_at hl 0 rfl) ?_
  refine lv_iload_n hx hb dL_1208 rfl (lv_at hl 3 rfl) ?_
  refine lv_iconst (v := 2) hx hb dL_1209 (by decide) ?_
  refine lv_iadd hx hb dL_1210 ?_
  refine w_top (y := nI (i + 2)) (nI_add i 2) ?_
  refine va_sld hx hb hX hbl hbA hS (vp_in_nI (by omega) (by omega)) dL_1211 ?_
  refine w_ci hS (w_runV (As := [.int (xs (nI (i + 1)).toNatClampNeg), .int (xs (nI (i + 2)).toNatClampNeg)]) C0 hW 9 0 (by decide) (by decide) rfl rfl (c_X9_drawnIn l G (lA s) (xs (nI (i + 1)).toNatClampNeg) (xs (nI (i + 2)).toNatClampNeg) hv1 _ h) ⟨⟨w_1152, w_61, w_1155⟩, pl_X9_drawnIn, ⟨(Nat.le_of_ble_eq_true rfl), (Nat.le_of_ble_eq_true rfl)⟩, hcs⟩ ⟨w_1153, w_1154⟩ rfl hl.1 rfl (Nat.le_of_ble_eq_true rfl) dL_1212) (fun r2 hv2 h H locs hW hS => ?_)
  exact lv_icmp_eq (tgt := 1309) hx hb dL_1215 (by decide) (fun _ => next hv2 H locs h.2 hW hS) (fun z => absurd h.1 z)
set_option maxHeartbeats 4000000 in
set_option maxRecDepth 100000 in
theorem law_period {p : Program} {l : Launch} {e : Env} {s : State} {m : MethodId} {args : Array Value} {below : List Frame} {meth : Method} {c : Code} {H : Heap} {locs : List Loc} {cells slots : Nat} {Q : State → Prop} {G : wG} {ls : Array Slot} {b L i B : Nat} {xs : Nat → Int32} {hv : HV} (C0 : cx p s m args meth c "RamStationLaw" code 4 G) (hX : va_X b L xs s s.heap) (hbl : b < s.heap.size) (hi : i + 6 ≤ L) (hL : L ≤ 3072) (hB : B + 65000 < 2 ^ 31) (hRel : Rel B hv) (hW : wd G (lA s) hv H) (hS : va_S (lA s) s.heap H locs) (hl : lv_has ls 4 [(0, .ref b), (1, .ref (ad G 8 0)), (2, .ref (ad G 9 0)), (3, .int (nI i))]) (hcs : cells ≤ room_1.cells ∧ slots ≤ room_1.slots)
    (next : ∀ (hv' : HV) (H1 : Heap) (locs1 : List Loc), Rel (B + 64000) hv' → wd G (lA s) hv' H1 → va_S (lA s) s.heap H1 locs1 → W p l e room_1 s m args below meth c H1 locs1 cells slots Q (F0 m 1309 ls [])) : W p l e room_1 s m args below meth c H locs cells slots Q (F0 m 1220 ls []) := by
  have hx := C0.1
  have hb := C0.2.1
  have hbA : ¬ lA s b := Nat.not_le.mpr hbl
  refine lv_aload_n hx hb dL_1220 rfl (lv_at hl 1 rfl) ?_
  refine lv_aload_n hx hb dL_1221 rfl (lv_at hl 0 rfl) ?_
  refine lv_iload_n hx hb dL_1222 rfl (lv_at hl 3 rfl) ?_
  refine lv_iconst (v := 1) hx hb dL_1223 (by decide) ?_
  refine lv_iadd hx hb dL_1224 ?_
  refine w_top (y := nI (i + 1)) (nI_add i 1) ?_
  refine va_sld hx hb hX hbl hbA hS (vp_in_nI (by omega) (by omega)) dL_1225 ?_
  refine w_ci hS (w_runV (As := [.int (xs (nI (i + 1)).toNatClampNeg)]) C0 hW 8 0 (by decide) (by decide) rfl rfl (c_X8_period l G (lA s) (xs (nI (i + 1)).toNatClampNeg) hv _ (J_period (xs (nI (i + 1)).toNatClampNeg) B hv hB hRel)) ⟨⟨w_730, w_51, w_733⟩, pl_X8_period, ⟨(Nat.le_of_ble_eq_true rfl), (Nat.le_of_ble_eq_true rfl)⟩, hcs⟩ ⟨w_731, w_732⟩ rfl hl.1 rfl (Nat.le_of_ble_eq_true rfl) dL_1226) (fun r hv1 h H locs hW hS => ?_)
  refine lv_aload_n hx hb dL_1229 rfl (lv_at hl 2 rfl) ?_
  refine lv_aload_n hx hb dL_1230 rfl (lv_at hl 0 rfl) ?_
  refine lv_iload_n hx hb dL_1231 rfl (lv_at hl 3 rfl) ?_
  refine lv_iconst (v := 1) hx hb dL_1232 (by decide) ?_
  refine lv_iadd hx hb dL_1233 ?_
  refine w_top (y := nI (i + 1)) (nI_add i 1) ?_
  refine va_sld hx hb hX hbl hbA hS (vp_in_nI (by omega) (by omega)) dL_1234 ?_
  refine w_ci hS (w_runV (As := [.int (xs (nI (i + 1)).toNatClampNeg)]) C0 hW 9 0 (by decide) (by decide) rfl rfl (c_X9_period l G (lA s) (xs (nI (i + 1)).toNatClampNeg) hv1 _ h) ⟨⟨w_1156, w_61, w_1159⟩, pl_X9_period, ⟨(Nat.le_of_ble_eq_true rfl), (Nat.le_of_ble_eq_true rfl)⟩, hcs⟩ ⟨w_1157, w_1158⟩ rfl hl.1 rfl (Nat.le_of_ble_eq_true rfl) dL_1235) (fun r2 hv2 h H locs hW hS => ?_)
  exact lv_icmp_eq (tgt := 1309) hx hb dL_1238 (by decide) (fun _ => next hv2 H locs h.2 hW hS) (fun z => absurd h.1 z)
set_option maxHeartbeats 4000000 in
set_option maxRecDepth 100000 in
theorem law_bestLength {p : Program} {l : Launch} {e : Env} {s : State} {m : MethodId} {args : Array Value} {below : List Frame} {meth : Method} {c : Code} {H : Heap} {locs : List Loc} {cells slots : Nat} {Q : State → Prop} {G : wG} {ls : Array Slot} {b L i B : Nat} {xs : Nat → Int32} {hv : HV} (C0 : cx p s m args meth c "RamStationLaw" code 4 G) (hX : va_X b L xs s s.heap) (hbl : b < s.heap.size) (hi : i + 6 ≤ L) (hL : L ≤ 3072) (hB : B + 65000 < 2 ^ 31) (hRel : Rel B hv) (hW : wd G (lA s) hv H) (hS : va_S (lA s) s.heap H locs) (hl : lv_has ls 4 [(0, .ref b), (1, .ref (ad G 8 0)), (2, .ref (ad G 9 0)), (3, .int (nI i))]) (hcs : cells ≤ room_1.cells ∧ slots ≤ room_1.slots)
    (next : ∀ (hv' : HV) (H1 : Heap) (locs1 : List Loc), Rel (B + 64000) hv' → wd G (lA s) hv' H1 → va_S (lA s) s.heap H1 locs1 → W p l e room_1 s m args below meth c H1 locs1 cells slots Q (F0 m 1309 ls [])) : W p l e room_1 s m args below meth c H locs cells slots Q (F0 m 1243 ls []) := by
  have hx := C0.1
  have hb := C0.2.1
  have hbA : ¬ lA s b := Nat.not_le.mpr hbl
  refine lv_aload_n hx hb dL_1243 rfl (lv_at hl 1 rfl) ?_
  refine lv_aload_n hx hb dL_1244 rfl (lv_at hl 0 rfl) ?_
  refine lv_iload_n hx hb dL_1245 rfl (lv_at hl 3 rfl) ?_
  refine lv_iconst (v := 1) hx hb dL_1246 (by decide) ?_
  refine lv_iadd hx hb dL_1247 ?_
  refine w_top (y := nI (i + 1)) (nI_add i 1) ?_
  refine va_sld hx hb hX hbl hbA hS (vp_in_nI (by omega) (by omega)) dL_1248 ?_
  refine lv_aload_n hx hb dL_1249 rfl (lv_at hl 0 rfl) ?_
  refine lv_iload_n hx hb dL_1250 rfl (lv_at hl 3 rfl) ?_
  refine lv_iconst (v := 2) hx hb dL_1251 (by decide) ?_
  refine lv_iadd hx hb dL_1252 ?_
  refine w_top (y := nI (i + 2)) (nI_add i 2) ?_
  refine va_sld hx hb hX hbl hbA hS (vp_in_nI (by omega) (by omega)) dL_1253 ?_
  refine w_ci hS (w_runV (As := [.int (xs (nI (i + 1)).toNatClampNeg), .int (xs (nI (i + 2)).toNatClampNeg)]) C0 hW 8 0 (by decide) (by decide) rfl rfl (c_X8_bestLength l G (lA s) (xs (nI (i + 1)).toNatClampNeg) (xs (nI (i + 2)).toNatClampNeg) hv _ (J_bestLength (xs (nI (i + 1)).toNatClampNeg) (xs (nI (i + 2)).toNatClampNeg) B hv hB hRel)) ⟨⟨w_744, w_51, w_747⟩, pl_X8_bestLength, ⟨(Nat.le_of_ble_eq_true rfl), (Nat.le_of_ble_eq_true rfl)⟩, hcs⟩ ⟨w_745, w_746⟩ rfl hl.1 rfl (Nat.le_of_ble_eq_true rfl) dL_1254) (fun r hv1 h H locs hW hS => ?_)
  refine lv_aload_n hx hb dL_1257 rfl (lv_at hl 2 rfl) ?_
  refine lv_aload_n hx hb dL_1258 rfl (lv_at hl 0 rfl) ?_
  refine lv_iload_n hx hb dL_1259 rfl (lv_at hl 3 rfl) ?_
  refine lv_iconst (v := 1) hx hb dL_1260 (by decide) ?_
  refine lv_iadd hx hb dL_1261 ?_
  refine w_top (y := nI (i + 1)) (nI_add i 1) ?_
  refine va_sld hx hb hX hbl hbA hS (vp_in_nI (by omega) (by omega)) dL_1262 ?_
  refine lv_aload_n hx hb dL_1263 rfl (lv_at hl 0 rfl) ?_
  refine lv_iload_n hx hb dL_1264 rfl (lv_at hl 3 rfl) ?_
  refine lv_iconst (v := 2) hx hb dL_1265 (by decide) ?_
  refine lv_iadd hx hb dL_1266 ?_
  refine w_top (y := nI (i + 2)) (nI_add i 2) ?_
  refine va_sld hx hb hX hbl hbA hS (vp_in_nI (by omega) (by omega)) dL_1267 ?_
  refine w_ci hS (w_runV (As := [.int (xs (nI (i + 1)).toNatClampNeg), .int (xs (nI (i + 2)).toNatClampNeg)]) C0 hW 9 0 (by decide) (by decide) rfl rfl (c_X9_bestLength l G (lA s) (xs (nI (i + 1)).toNatClampNeg) (xs (nI (i + 2)).toNatClampNeg) hv1 _ h) ⟨⟨w_1160, w_61, w_1163⟩, pl_X9_bestLength, ⟨(Nat.le_of_ble_eq_true rfl), (Nat.le_of_ble_eq_true rfl)⟩, hcs⟩ ⟨w_1161, w_1162⟩ rfl hl.1 rfl (Nat.le_of_ble_eq_true rfl) dL_1268) (fun r2 hv2 h H locs hW hS => ?_)
  exact lv_icmp_eq (tgt := 1309) hx hb dL_1271 (by decide) (fun _ => next hv2 H locs h.2 hW hS) (fun z => absurd h.1 z)
set_option maxHeartbeats 4000000 in
set_option maxRecDepth 100000 in
theorem law_bestSetting {p : Program} {l : Launch} {e : Env} {s : State} {m : MethodId} {args : Array Value} {below : List Frame} {meth : Method} {c : Code} {H : Heap} {locs : List Loc} {cells slots : Nat} {Q : State → Prop} {G : wG} {ls : Array Slot} {b L i B : Nat} {xs : Nat → Int32} {hv : HV} (C0 : cx p s m args meth c "RamStationLaw" code 4 G) (hX : va_X b L xs s s.heap) (hbl : b < s.heap.size) (hi : i + 6 ≤ L) (hL : L ≤ 3072) (hB : B + 65000 < 2 ^ 31) (hRel : Rel B hv) (hW : wd G (lA s) hv H) (hS : va_S (lA s) s.heap H locs) (hl : lv_has ls 4 [(0, .ref b), (1, .ref (ad G 8 0)), (2, .ref (ad G 9 0)), (3, .int (nI i))]) (hcs : cells ≤ room_1.cells ∧ slots ≤ room_1.slots)
    (next : ∀ (hv' : HV) (H1 : Heap) (locs1 : List Loc), Rel (B + 64000) hv' → wd G (lA s) hv' H1 → va_S (lA s) s.heap H1 locs1 → W p l e room_1 s m args below meth c H1 locs1 cells slots Q (F0 m 1309 ls [])) : W p l e room_1 s m args below meth c H locs cells slots Q (F0 m 1276 ls []) := by
  have hx := C0.1
  have hb := C0.2.1
  have hbA : ¬ lA s b := Nat.not_le.mpr hbl
  refine lv_aload_n hx hb dL_1276 rfl (lv_at hl 1 rfl) ?_
  refine lv_aload_n hx hb dL_1277 rfl (lv_at hl 0 rfl) ?_
  refine lv_iload_n hx hb dL_1278 rfl (lv_at hl 3 rfl) ?_
  refine lv_iconst (v := 1) hx hb dL_1279 (by decide) ?_
  refine lv_iadd hx hb dL_1280 ?_
  refine w_top (y := nI (i + 1)) (nI_add i 1) ?_
  refine va_sld hx hb hX hbl hbA hS (vp_in_nI (by omega) (by omega)) dL_1281 ?_
  refine lv_aload_n hx hb dL_1282 rfl (lv_at hl 0 rfl) ?_
  refine lv_iload_n hx hb dL_1283 rfl (lv_at hl 3 rfl) ?_
  refine lv_iconst (v := 2) hx hb dL_1284 (by decide) ?_
  refine lv_iadd hx hb dL_1285 ?_
  refine w_top (y := nI (i + 2)) (nI_add i 2) ?_
  refine va_sld hx hb hX hbl hbA hS (vp_in_nI (by omega) (by omega)) dL_1286 ?_
  refine w_ci hS (w_runV (As := [.int (xs (nI (i + 1)).toNatClampNeg), .int (xs (nI (i + 2)).toNatClampNeg)]) C0 hW 8 0 (by decide) (by decide) rfl rfl (c_X8_bestSetting l G (lA s) (xs (nI (i + 1)).toNatClampNeg) (xs (nI (i + 2)).toNatClampNeg) hv _ (J_bestSetting (xs (nI (i + 1)).toNatClampNeg) (xs (nI (i + 2)).toNatClampNeg) B hv hB hRel)) ⟨⟨w_752, w_51, w_755⟩, pl_X8_bestSetting, ⟨(Nat.le_of_ble_eq_true rfl), (Nat.le_of_ble_eq_true rfl)⟩, hcs⟩ ⟨w_753, w_754⟩ rfl hl.1 rfl (Nat.le_of_ble_eq_true rfl) dL_1287) (fun r hv1 h H locs hW hS => ?_)
  refine lv_aload_n hx hb dL_1290 rfl (lv_at hl 2 rfl) ?_
  refine lv_aload_n hx hb dL_1291 rfl (lv_at hl 0 rfl) ?_
  refine lv_iload_n hx hb dL_1292 rfl (lv_at hl 3 rfl) ?_
  refine lv_iconst (v := 1) hx hb dL_1293 (by decide) ?_
  refine lv_iadd hx hb dL_1294 ?_
  refine w_top (y := nI (i + 1)) (nI_add i 1) ?_
  refine va_sld hx hb hX hbl hbA hS (vp_in_nI (by omega) (by omega)) dL_1295 ?_
  refine lv_aload_n hx hb dL_1296 rfl (lv_at hl 0 rfl) ?_
  refine lv_iload_n hx hb dL_1297 rfl (lv_at hl 3 rfl) ?_
  refine lv_iconst (v := 2) hx hb dL_1298 (by decide) ?_
  refine lv_iadd hx hb dL_1299 ?_
  refine w_top (y := nI (i + 2)) (nI_add i 2) ?_
  refine va_sld hx hb hX hbl hbA hS (vp_in_nI (by omega) (by omega)) dL_1300 ?_
  refine w_ci hS (w_runV (As := [.int (xs (nI (i + 1)).toNatClampNeg), .int (xs (nI (i + 2)).toNatClampNeg)]) C0 hW 9 0 (by decide) (by decide) rfl rfl (c_X9_bestSetting l G (lA s) (xs (nI (i + 1)).toNatClampNeg) (xs (nI (i + 2)).toNatClampNeg) hv1 _ h) ⟨⟨w_1168, w_61, w_1171⟩, pl_X9_bestSetting, ⟨(Nat.le_of_ble_eq_true rfl), (Nat.le_of_ble_eq_true rfl)⟩, hcs⟩ ⟨w_1169, w_1170⟩ rfl hl.1 rfl (Nat.le_of_ble_eq_true rfl) dL_1301) (fun r2 hv2 h H locs hW hS => ?_)
  exact lv_icmp_eq (tgt := 1309) hx hb dL_1304 (by decide) (fun _ => next hv2 H locs h.2 hW hS) (fun z => absurd h.1 z)
