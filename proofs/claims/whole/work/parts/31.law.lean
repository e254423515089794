/-! printed by program: the law -/
noncomputable def fL_law_900_b1543 (G : mv_G) (k18 : Int32 → mv_H → Option (Unit)) (v3 : Int32) (h : mv_H) : Option (Unit) := k18 (v3 + 7) h
set_option maxRecDepth 100000 in
set_option maxHeartbeats 4000000 in
theorem BL_law_900_b1543 (G : mv_G) (P : Unit → Prop) (k18 : Int32 → mv_H → Option (Unit)) (hk18 : ∀ (v3 : Int32) (h : mv_H), mv_sat (k18 v3 h) P → mv_MW G mL_law room_1 lw_Zf 83 9288 18 [.ref 900, .ref 0, .ref 55, .int v3] [] mv_SH h) (v3 : Int32) (h : mv_H) (hs : mv_sat (fL_law_900_b1543 G k18 v3 h) P) : mv_MW G mL_law room_1 lw_Zf 83 9288 1543 [.ref 900, .ref 0, .ref 55, .int v3] [] mv_SH h := by
  unfold fL_law_900_b1543 at hs
  refine mv_iinc (lv' := [.ref 900, .ref 0, .ref 55, .int (v3 + 7)]) 7 dL_law_1543 rfl (by decide) (Nat.le_of_ble_eq_true rfl) rfl rfl ?_
  refine mv_goto dL_law_1546 ?_
  exact (hk18 _ _ hs)
noncomputable def fL_law_900_b204 (G : mv_G) (k18 : Int32 → mv_H → Option (Unit)) (v3 : Int32) (h : mv_H) : Option (Unit) := if mv_in (v3 + 1) (mv_x G 0).2.1 then (if mv_in (v3 + 2) (mv_x G 0).2.1 then (if mv_in (v3 + 3) (mv_x G 0).2.1 then (if mv_in (v3 + 4) (mv_x G 0).2.1 then ((fX9_box_0 ((mv_x G 0).2.2 (v3 + 1).toNatClampNeg) ((mv_x G 0).2.2 (v3 + 2).toNatClampNeg) ((mv_x G 0).2.2 (v3 + 3).toNatClampNeg) ((mv_x G 0).2.2 (v3 + 4).toNatClampNeg) h).bind fun r160 => if mv_in (v3 + 1) (mv_x G 0).2.1 then (if mv_in (v3 + 2) (mv_x G 0).2.1 then (if mv_in (v3 + 3) (mv_x G 0).2.1 then (if mv_in (v3 + 4) (mv_x G 0).2.1 then ((fX10_box_55 ((mv_x G 0).2.2 (v3 + 1).toNatClampNeg) ((mv_x G 0).2.2 (v3 + 2).toNatClampNeg) ((mv_x G 0).2.2 (v3 + 3).toNatClampNeg) ((mv_x G 0).2.2 (v3 + 4).toNatClampNeg) r160.2).bind fun r174 => if r160.1 = r174.1 then fL_law_900_b1543 G k18 v3 r174.2 else none) else none) else none) else none) else none) else none) else none) else none) else none
set_option maxRecDepth 100000 in
set_option maxHeartbeats 4000000 in
theorem BL_law_900_b204 (G : mv_G) (P : Unit → Prop) (k18 : Int32 → mv_H → Option (Unit)) (hk18 : ∀ (v3 : Int32) (h : mv_H), mv_sat (k18 v3 h) P → mv_MW G mL_law room_1 lw_Zf 83 9288 18 [.ref 900, .ref 0, .ref 55, .int v3] [] mv_SH h) (v3 : Int32) (h : mv_H) (hs : mv_sat (fL_law_900_b204 G k18 v3 h) P) : mv_MW G mL_law room_1 lw_Zf 83 9288 204 [.ref 900, .ref 0, .ref 55, .int v3] [] mv_SH h := by
  unfold fL_law_900_b204 at hs
  refine mv_aload_n dL_law_204 rfl ?_
  refine mv_aload_n dL_law_205 rfl ?_
  refine mv_iload_n dL_law_206 rfl ?_
  refine mv_iconst 1 dL_law_207 (by decide) ?_
  refine mv_iadd dL_law_208 ?_
  refine mv_xload (j := 0) (by decide) dL_law_209 hs (fun hs => ?_)
  refine mv_aload_n dL_law_210 rfl ?_
  refine mv_iload_n dL_law_211 rfl ?_
  refine mv_iconst 2 dL_law_212 (by decide) ?_
  refine mv_iadd dL_law_213 ?_
  refine mv_xload (j := 0) (by decide) dL_law_214 hs (fun hs => ?_)
  refine mv_aload_n dL_law_215 rfl ?_
  refine mv_iload_n dL_law_216 rfl ?_
  refine mv_iconst 3 dL_law_217 (by decide) ?_
  refine mv_iadd dL_law_218 ?_
  refine mv_xload (j := 0) (by decide) dL_law_219 hs (fun hs => ?_)
  refine mv_aload_n dL_law_220 rfl ?_
  refine mv_iload_n dL_law_221 rfl ?_
  refine mv_iconst 4 dL_law_222 (by decide) ?_
  refine mv_iadd dL_law_223 ?_
  refine mv_xload (j := 0) (by decide) dL_law_224 hs (fun hs => ?_)
  refine mv_lV (st := []) dL_law_225 kk_L_13 (TX9_box_0 G 0 _ _ _ _ _ _ (mv_sat_bind hs)) so_0 vc_9 rfl rfl (Nat.le_of_ble_eq_true rfl) (by decide) rfl (by decide) (mv_kI2 fun r160 hs => ?_)
  refine mv_aload_n dL_law_228 rfl ?_
  refine mv_aload_n dL_law_229 rfl ?_
  refine mv_iload_n dL_law_230 rfl ?_
  refine mv_iconst 1 dL_law_231 (by decide) ?_
  refine mv_iadd dL_law_232 ?_
  refine mv_xload (j := 0) (by decide) dL_law_233 hs (fun hs => ?_)
  refine mv_aload_n dL_law_234 rfl ?_
  refine mv_iload_n dL_law_235 rfl ?_
  refine mv_iconst 2 dL_law_236 (by decide) ?_
  refine mv_iadd dL_law_237 ?_
  refine mv_xload (j := 0) (by decide) dL_law_238 hs (fun hs => ?_)
  refine mv_aload_n dL_law_239 rfl ?_
  refine mv_iload_n dL_law_240 rfl ?_
  refine mv_iconst 3 dL_law_241 (by decide) ?_
  refine mv_iadd dL_law_242 ?_
  refine mv_xload (j := 0) (by decide) dL_law_243 hs (fun hs => ?_)
  refine mv_aload_n dL_law_244 rfl ?_
  refine mv_iload_n dL_law_245 rfl ?_
  refine mv_iconst 4 dL_law_246 (by decide) ?_
  refine mv_iadd dL_law_247 ?_
  refine mv_xload (j := 0) (by decide) dL_law_248 hs (fun hs => ?_)
  refine mv_lV (st := [.int r160.1]) dL_law_249 kk_L_17 (TX10_box_55 G 0 _ _ _ _ _ _ (mv_sat_bind hs)) so_55 vc_10 rfl rfl (Nat.le_of_ble_eq_true rfl) (by decide) rfl (by decide) (mv_kI2 fun r174 hs => ?_)
  refine mv_icmp_eq dL_law_252 hs (fun _ hs => ?_) (fun _ hs => ?_)
  · exact (BL_law_900_b1543 G P _ hk18 _ _ hs)
  · refine mv_iconst 0 dL_law_255 (by decide) ?_
    exact (mv_sat_none hs).elim
noncomputable def fL_law_900_b257 (G : mv_G) (k18 : Int32 → mv_H → Option (Unit)) (v3 : Int32) (h : mv_H) : Option (Unit) := if mv_in (v3 + 1) (mv_x G 0).2.1 then (if mv_in (v3 + 2) (mv_x G 0).2.1 then (if mv_in (v3 + 3) (mv_x G 0).2.1 then (if mv_in (v3 + 4) (mv_x G 0).2.1 then ((fX9_thing_0 ((mv_x G 0).2.2 (v3 + 1).toNatClampNeg) ((mv_x G 0).2.2 (v3 + 2).toNatClampNeg) ((mv_x G 0).2.2 (v3 + 3).toNatClampNeg) ((mv_x G 0).2.2 (v3 + 4).toNatClampNeg) h).bind fun r188 => if mv_in (v3 + 1) (mv_x G 0).2.1 then (if mv_in (v3 + 2) (mv_x G 0).2.1 then (if mv_in (v3 + 3) (mv_x G 0).2.1 then (if mv_in (v3 + 4) (mv_x G 0).2.1 then ((fX10_thing_55 ((mv_x G 0).2.2 (v3 + 1).toNatClampNeg) ((mv_x G 0).2.2 (v3 + 2).toNatClampNeg) ((mv_x G 0).2.2 (v3 + 3).toNatClampNeg) ((mv_x G 0).2.2 (v3 + 4).toNatClampNeg) r188.2).bind fun r197 => if r188.1 = r197.1 then fL_law_900_b1543 G k18 v3 r197.2 else none) else none) else none) else none) else none) else none) else none) else none) else none
set_option maxRecDepth 100000 in
set_option maxHeartbeats 4000000 in
theorem BL_law_900_b257 (G : mv_G) (P : Unit → Prop) (k18 : Int32 → mv_H → Option (Unit)) (hk18 : ∀ (v3 : Int32) (h : mv_H), mv_sat (k18 v3 h) P → mv_MW G mL_law room_1 lw_Zf 83 9288 18 [.ref 900, .ref 0, .ref 55, .int v3] [] mv_SH h) (v3 : Int32) (h : mv_H) (hs : mv_sat (fL_law_900_b257 G k18 v3 h) P) : mv_MW G mL_law room_1 lw_Zf 83 9288 257 [.ref 900, .ref 0, .ref 55, .int v3] [] mv_SH h := by
  unfold fL_law_900_b257 at hs
  refine mv_aload_n dL_law_257 rfl ?_
  refine mv_aload_n dL_law_258 rfl ?_
  refine mv_iload_n dL_law_259 rfl ?_
  refine mv_iconst 1 dL_law_260 (by decide) ?_
  refine mv_iadd dL_law_261 ?_
  refine mv_xload (j := 0) (by decide) dL_law_262 hs (fun hs => ?_)
  refine mv_aload_n dL_law_263 rfl ?_
  refine mv_iload_n dL_law_264 rfl ?_
  refine mv_iconst 2 dL_law_265 (by decide) ?_
  refine mv_iadd dL_law_266 ?_
  refine mv_xload (j := 0) (by decide) dL_law_267 hs (fun hs => ?_)
  refine mv_aload_n dL_law_268 rfl ?_
  refine mv_iload_n dL_law_269 rfl ?_
  refine mv_iconst 3 dL_law_270 (by decide) ?_
  refine mv_iadd dL_law_271 ?_
  refine mv_xload (j := 0) (by decide) dL_law_272 hs (fun hs => ?_)
  refine mv_aload_n dL_law_273 rfl ?_
  refine mv_iload_n dL_law_274 rfl ?_
  refine mv_iconst 4 dL_law_275 (by decide) ?_
  refine mv_iadd dL_law_276 ?_
  refine mv_xload (j := 0) (by decide) dL_law_277 hs (fun hs => ?_)
  refine mv_lV (st := []) dL_law_278 kk_L_18 (TX9_thing_0 G 0 _ _ _ _ _ _ (mv_sat_bind hs)) so_0 vc_9 rfl rfl (Nat.le_of_ble_eq_true rfl) (by decide) rfl (by decide) (mv_kI2 fun r188 hs => ?_)
  refine mv_aload_n dL_law_281 rfl ?_
  refine mv_aload_n dL_law_282 rfl ?_
  refine mv_iload_n dL_law_283 rfl ?_
  refine mv_iconst 1 dL_law_284 (by decide) ?_
  refine mv_iadd dL_law_285 ?_
  refine mv_xload (j := 0) (by decide) dL_law_286 hs (fun hs => ?_)
  refine mv_aload_n dL_law_287 rfl ?_
  refine mv_iload_n dL_law_288 rfl ?_
  refine mv_iconst 2 dL_law_289 (by decide) ?_
  refine mv_iadd dL_law_290 ?_
  refine mv_xload (j := 0) (by decide) dL_law_291 hs (fun hs => ?_)
  refine mv_aload_n dL_law_292 rfl ?_
  refine mv_iload_n dL_law_293 rfl ?_
  refine mv_iconst 3 dL_law_294 (by decide) ?_
  refine mv_iadd dL_law_295 ?_
  refine mv_xload (j := 0) (by decide) dL_law_296 hs (fun hs => ?_)
  refine mv_aload_n dL_law_297 rfl ?_
  refine mv_iload_n dL_law_298 rfl ?_
  refine mv_iconst 4 dL_law_299 (by decide) ?_
  refine mv_iadd dL_law_300 ?_
  refine mv_xload (j := 0) (by decide) dL_law_301 hs (fun hs => ?_)
  refine mv_lV (st := [.int r188.1]) dL_law_302 kk_L_21 (TX10_thing_55 G 0 _ _ _ _ _ _ (mv_sat_bind hs)) so_55 vc_10 rfl rfl (Nat.le_of_ble_eq_true rfl) (by decide) rfl (by decide) (mv_kI2 fun r197 hs => ?_)
  refine mv_icmp_eq dL_law_305 hs (fun _ hs => ?_) (fun _ hs => ?_)
  · exact (BL_law_900_b1543 G P _ hk18 _ _ hs)
  · refine mv_iconst 0 dL_law_308 (by decide) ?_
    exact (mv_sat_none hs).elim
noncomputable def fL_law_900_b310 (G : mv_G) (k18 : Int32 → mv_H → Option (Unit)) (v3 : Int32) (h : mv_H) : Option (Unit) := if mv_in (v3 + 1) (mv_x G 0).2.1 then (if mv_in (v3 + 2) (mv_x G 0).2.1 then (if mv_in (v3 + 3) (mv_x G 0).2.1 then ((fX9_sheet_0 ((mv_x G 0).2.2 (v3 + 1).toNatClampNeg) ((mv_x G 0).2.2 (v3 + 2).toNatClampNeg) ((mv_x G 0).2.2 (v3 + 3).toNatClampNeg) h).bind fun r209 => if mv_in (v3 + 1) (mv_x G 0).2.1 then (if mv_in (v3 + 2) (mv_x G 0).2.1 then (if mv_in (v3 + 3) (mv_x G 0).2.1 then ((fX10_sheet_55 ((mv_x G 0).2.2 (v3 + 1).toNatClampNeg) ((mv_x G 0).2.2 (v3 + 2).toNatClampNeg) ((mv_x G 0).2.2 (v3 + 3).toNatClampNeg) r209.2).bind fun r218 => if r209.1 = r218.1 then fL_law_900_b1543 G k18 v3 r218.2 else none) else none) else none) else none) else none) else none) else none
set_option maxRecDepth 100000 in
set_option maxHeartbeats 4000000 in
theorem BL_law_900_b310 (G : mv_G) (P : Unit → Prop) (k18 : Int32 → mv_H → Option (Unit)) (hk18 : ∀ (v3 : Int32) (h : mv_H), mv_sat (k18 v3 h) P → mv_MW G mL_law room_1 lw_Zf 83 9288 18 [.ref 900, .ref 0, .ref 55, .int v3] [] mv_SH h) (v3 : Int32) (h : mv_H) (hs : mv_sat (fL_law_900_b310 G k18 v3 h) P) : mv_MW G mL_law room_1 lw_Zf 83 9288 310 [.ref 900, .ref 0, .ref 55, .int v3] [] mv_SH h := by
  unfold fL_law_900_b310 at hs
  refine mv_aload_n dL_law_310 rfl ?_
  refine mv_aload_n dL_law_311 rfl ?_
  refine mv_iload_n dL_law_312 rfl ?_
  refine mv_iconst 1 dL_law_313 (by decide) ?_
  refine mv_iadd dL_law_314 ?_
  refine mv_xload (j := 0) (by decide) dL_law_315 hs (fun hs => ?_)
  refine mv_aload_n dL_law_316 rfl ?_
  refine mv_iload_n dL_law_317 rfl ?_
  refine mv_iconst 2 dL_law_318 (by decide) ?_
  refine mv_iadd dL_law_319 ?_
  refine mv_xload (j := 0) (by decide) dL_law_320 hs (fun hs => ?_)
  refine mv_aload_n dL_law_321 rfl ?_
  refine mv_iload_n dL_law_322 rfl ?_
  refine mv_iconst 3 dL_law_323 (by decide) ?_
  refine mv_iadd dL_law_324 ?_
  refine mv_xload (j := 0) (by decide) dL_law_325 hs (fun hs => ?_)
  refine mv_lV (st := []) dL_law_326 kk_L_22 (TX9_sheet_0 G 0 _ _ _ _ _ (mv_sat_bind hs)) so_0 vc_9 rfl rfl (Nat.le_of_ble_eq_true rfl) (by decide) rfl (by decide) (mv_kI2 fun r209 hs => ?_)
  refine mv_aload_n dL_law_329 rfl ?_
  refine mv_aload_n dL_law_330 rfl ?_
  refine mv_iload_n dL_law_331 rfl ?_
  refine mv_iconst 1 dL_law_332 (by decide) ?_
  refine mv_iadd dL_law_333 ?_
  refine mv_xload (j := 0) (by decide) dL_law_334 hs (fun hs => ?_)
  refine mv_aload_n dL_law_335 rfl ?_
  refine mv_iload_n dL_law_336 rfl ?_
  refine mv_iconst 2 dL_law_337 (by decide) ?_
  refine mv_iadd dL_law_338 ?_
  refine mv_xload (j := 0) (by decide) dL_law_339 hs (fun hs => ?_)
  refine mv_aload_n dL_law_340 rfl ?_
  refine mv_iload_n dL_law_341 rfl ?_
  refine mv_iconst 3 dL_law_342 (by decide) ?_
  refine mv_iadd dL_law_343 ?_
  refine mv_xload (j := 0) (by decide) dL_law_344 hs (fun hs => ?_)
  refine mv_lV (st := [.int r209.1]) dL_law_345 kk_L_26 (TX10_sheet_55 G 0 _ _ _ _ _ (mv_sat_bind hs)) so_55 vc_10 rfl rfl (Nat.le_of_ble_eq_true rfl) (by decide) rfl (by decide) (mv_kI2 fun r218 hs => ?_)
  refine mv_icmp_eq dL_law_348 hs (fun _ hs => ?_) (fun _ hs => ?_)
  · exact (BL_law_900_b1543 G P _ hk18 _ _ hs)
  · refine mv_iconst 0 dL_law_351 (by decide) ?_
    exact (mv_sat_none hs).elim
noncomputable def fL_law_900_b353 (G : mv_G) (k18 : Int32 → mv_H → Option (Unit)) (v3 : Int32) (h : mv_H) : Option (Unit) := if mv_in (v3 + 1) (mv_x G 0).2.1 then (if mv_in (v3 + 2) (mv_x G 0).2.1 then ((fX9_drop_0 ((mv_x G 0).2.2 (v3 + 1).toNatClampNeg) ((mv_x G 0).2.2 (v3 + 2).toNatClampNeg) h).bind fun r242 => if mv_in (v3 + 1) (mv_x G 0).2.1 then (if mv_in (v3 + 2) (mv_x G 0).2.1 then ((fX10_drop_55 ((mv_x G 0).2.2 (v3 + 1).toNatClampNeg) ((mv_x G 0).2.2 (v3 + 2).toNatClampNeg) r242.2).bind fun r254 => if r242.1 = r254.1 then fL_law_900_b1543 G k18 v3 r254.2 else none) else none) else none) else none) else none
set_option maxRecDepth 100000 in
set_option maxHeartbeats 4000000 in
theorem BL_law_900_b353 (G : mv_G) (P : Unit → Prop) (k18 : Int32 → mv_H → Option (Unit)) (hk18 : ∀ (v3 : Int32) (h : mv_H), mv_sat (k18 v3 h) P → mv_MW G mL_law room_1 lw_Zf 83 9288 18 [.ref 900, .ref 0, .ref 55, .int v3] [] mv_SH h) (v3 : Int32) (h : mv_H) (hs : mv_sat (fL_law_900_b353 G k18 v3 h) P) : mv_MW G mL_law room_1 lw_Zf 83 9288 353 [.ref 900, .ref 0, .ref 55, .int v3] [] mv_SH h := by
  unfold fL_law_900_b353 at hs
  refine mv_aload_n dL_law_353 rfl ?_
  refine mv_aload_n dL_law_354 rfl ?_
  refine mv_iload_n dL_law_355 rfl ?_
  refine mv_iconst 1 dL_law_356 (by decide) ?_
  refine mv_iadd dL_law_357 ?_
  refine mv_xload (j := 0) (by decide) dL_law_358 hs (fun hs => ?_)
  refine mv_aload_n dL_law_359 rfl ?_
  refine mv_iload_n dL_law_360 rfl ?_
  refine mv_iconst 2 dL_law_361 (by decide) ?_
  refine mv_iadd dL_law_362 ?_
  refine mv_xload (j := 0) (by decide) dL_law_363 hs (fun hs => ?_)
  refine mv_lV (st := []) dL_law_364 kk_L_27 (TX9_drop_0 G 0 _ _ _ _ (mv_sat_bind hs)) so_0 vc_9 rfl rfl (Nat.le_of_ble_eq_true rfl) (by decide) rfl (by decide) (mv_kI2 fun r242 hs => ?_)
  refine mv_aload_n dL_law_367 rfl ?_
  refine mv_aload_n dL_law_368 rfl ?_
  refine mv_iload_n dL_law_369 rfl ?_
  refine mv_iconst 1 dL_law_370 (by decide) ?_
  refine mv_iadd dL_law_371 ?_
  refine mv_xload (j := 0) (by decide) dL_law_372 hs (fun hs => ?_)
  refine mv_aload_n dL_law_373 rfl ?_
  refine mv_iload_n dL_law_374 rfl ?_
  refine mv_iconst 2 dL_law_375 (by decide) ?_
  refine mv_iadd dL_law_376 ?_
  refine mv_xload (j := 0) (by decide) dL_law_377 hs (fun hs => ?_)
  refine mv_lV (st := [.int r242.1]) dL_law_378 kk_L_31 (TX10_drop_55 G 0 _ _ _ _ (mv_sat_bind hs)) so_55 vc_10 rfl rfl (Nat.le_of_ble_eq_true rfl) (by decide) rfl (by decide) (mv_kI2 fun r254 hs => ?_)
  refine mv_icmp_eq dL_law_381 hs (fun _ hs => ?_) (fun _ hs => ?_)
  · exact (BL_law_900_b1543 G P _ hk18 _ _ hs)
  · refine mv_iconst 0 dL_law_384 (by decide) ?_
    exact (mv_sat_none hs).elim
noncomputable def fL_law_900_b386 (G : mv_G) (k18 : Int32 → mv_H → Option (Unit)) (v3 : Int32) (h : mv_H) : Option (Unit) := if mv_in (v3 + 1) (mv_x G 0).2.1 then (if mv_in (v3 + 2) (mv_x G 0).2.1 then ((fX9_set_0 ((mv_x G 0).2.2 (v3 + 1).toNatClampNeg) ((mv_x G 0).2.2 (v3 + 2).toNatClampNeg) h).bind fun r263 => if mv_in (v3 + 1) (mv_x G 0).2.1 then (if mv_in (v3 + 2) (mv_x G 0).2.1 then ((fX10_set_55 ((mv_x G 0).2.2 (v3 + 1).toNatClampNeg) ((mv_x G 0).2.2 (v3 + 2).toNatClampNeg) r263.2).bind fun r270 => if r263.1 = r270.1 then fL_law_900_b1543 G k18 v3 r270.2 else none) else none) else none) else none) else none
set_option maxRecDepth 100000 in
set_option maxHeartbeats 4000000 in
theorem BL_law_900_b386 (G : mv_G) (P : Unit → Prop) (k18 : Int32 → mv_H → Option (Unit)) (hk18 : ∀ (v3 : Int32) (h : mv_H), mv_sat (k18 v3 h) P → mv_MW G mL_law room_1 lw_Zf 83 9288 18 [.ref 900, .ref 0, .ref 55, .int v3] [] mv_SH h) (v3 : Int32) (h : mv_H) (hs : mv_sat (fL_law_900_b386 G k18 v3 h) P) : mv_MW G mL_law room_1 lw_Zf 83 9288 386 [.ref 900, .ref 0, .ref 55, .int v3] [] mv_SH h := by
  unfold fL_law_900_b386 at hs
  refine mv_aload_n dL_law_386 rfl ?_
  refine mv_aload_n dL_law_387 rfl ?_
  refine mv_iload_n dL_law_388 rfl ?_
  refine mv_iconst 1 dL_law_389 (by decide) ?_
  refine mv_iadd dL_law_390 ?_
  refine mv_xload (j := 0) (by decide) dL_law_391 hs (fun hs => ?_)
  refine mv_aload_n dL_law_392 rfl ?_
  refine mv_iload_n dL_law_393 rfl ?_
  refine mv_iconst 2 dL_law_394 (by decide) ?_
  refine mv_iadd dL_law_395 ?_
  refine mv_xload (j := 0) (by decide) dL_law_396 hs (fun hs => ?_)
  refine mv_lV (st := []) dL_law_397 kk_L_32 (TX9_set_0 G 0 _ _ _ _ (mv_sat_bind hs)) so_0 vc_9 rfl rfl (Nat.le_of_ble_eq_true rfl) (by decide) rfl (by decide) (mv_kI2 fun r263 hs => ?_)
  refine mv_aload_n dL_law_400 rfl ?_
  refine mv_aload_n dL_law_401 rfl ?_
  refine mv_iload_n dL_law_402 rfl ?_
  refine mv_iconst 1 dL_law_403 (by decide) ?_
  refine mv_iadd dL_law_404 ?_
  refine mv_xload (j := 0) (by decide) dL_law_405 hs (fun hs => ?_)
  refine mv_aload_n dL_law_406 rfl ?_
  refine mv_iload_n dL_law_407 rfl ?_
  refine mv_iconst 2 dL_law_408 (by decide) ?_
  refine mv_iadd dL_law_409 ?_
  refine mv_xload (j := 0) (by decide) dL_law_410 hs (fun hs => ?_)
  refine mv_lV (st := [.int r263.1]) dL_law_411 kk_L_35 (TX10_set_55 G 0 _ _ _ _ (mv_sat_bind hs)) so_55 vc_10 rfl rfl (Nat.le_of_ble_eq_true rfl) (by decide) rfl (by decide) (mv_kI2 fun r270 hs => ?_)
  refine mv_icmp_eq dL_law_414 hs (fun _ hs => ?_) (fun _ hs => ?_)
  · exact (BL_law_900_b1543 G P _ hk18 _ _ hs)
  · refine mv_iconst 0 dL_law_417 (by decide) ?_
    exact (mv_sat_none hs).elim
noncomputable def fL_law_900_b419 (G : mv_G) (k18 : Int32 → mv_H → Option (Unit)) (v3 : Int32) (h : mv_H) : Option (Unit) := if mv_in (v3 + 1) (mv_x G 0).2.1 then ((fX9_say_0 ((mv_x G 0).2.2 (v3 + 1).toNatClampNeg) h).bind fun r276 => if mv_in (v3 + 1) (mv_x G 0).2.1 then ((fX10_say_55 ((mv_x G 0).2.2 (v3 + 1).toNatClampNeg) r276.2).bind fun r280 => if r276.1 = r280.1 then fL_law_900_b1543 G k18 v3 r280.2 else none) else none) else none
set_option maxRecDepth 100000 in
set_option maxHeartbeats 4000000 in
theorem BL_law_900_b419 (G : mv_G) (P : Unit → Prop) (k18 : Int32 → mv_H → Option (Unit)) (hk18 : ∀ (v3 : Int32) (h : mv_H), mv_sat (k18 v3 h) P → mv_MW G mL_law room_1 lw_Zf 83 9288 18 [.ref 900, .ref 0, .ref 55, .int v3] [] mv_SH h) (v3 : Int32) (h : mv_H) (hs : mv_sat (fL_law_900_b419 G k18 v3 h) P) : mv_MW G mL_law room_1 lw_Zf 83 9288 419 [.ref 900, .ref 0, .ref 55, .int v3] [] mv_SH h := by
  unfold fL_law_900_b419 at hs
  refine mv_aload_n dL_law_419 rfl ?_
  refine mv_aload_n dL_law_420 rfl ?_
  refine mv_iload_n dL_law_421 rfl ?_
  refine mv_iconst 1 dL_law_422 (by decide) ?_
  refine mv_iadd dL_law_423 ?_
  refine mv_xload (j := 0) (by decide) dL_law_424 hs (fun hs => ?_)
  refine mv_lV (st := []) dL_law_425 kk_L_36 (TX9_say_0 G 0 _ _ _ (mv_sat_bind hs)) so_0 vc_9 rfl rfl (Nat.le_of_ble_eq_true rfl) (by decide) rfl (by decide) (mv_kI2 fun r276 hs => ?_)
  refine mv_aload_n dL_law_428 rfl ?_
  refine mv_aload_n dL_law_429 rfl ?_
  refine mv_iload_n dL_law_430 rfl ?_
  refine mv_iconst 1 dL_law_431 (by decide) ?_
  refine mv_iadd dL_law_432 ?_
  refine mv_xload (j := 0) (by decide) dL_law_433 hs (fun hs => ?_)
  refine mv_lV (st := [.int r276.1]) dL_law_434 kk_L_40 (TX10_say_55 G 0 _ _ _ (mv_sat_bind hs)) so_55 vc_10 rfl rfl (Nat.le_of_ble_eq_true rfl) (by decide) rfl (by decide) (mv_kI2 fun r280 hs => ?_)
  refine mv_icmp_eq dL_law_437 hs (fun _ hs => ?_) (fun _ hs => ?_)
  · exact (BL_law_900_b1543 G P _ hk18 _ _ hs)
  · refine mv_iconst 0 dL_law_440 (by decide) ?_
    exact (mv_sat_none hs).elim
noncomputable def fL_law_900_b442 (G : mv_G) (k18 : Int32 → mv_H → Option (Unit)) (v3 : Int32) (h : mv_H) : Option (Unit) := (fX9_wipe_0 h).bind fun r284 => (fX10_wipe_55 r284.2).bind fun r287 => if r284.1 = r287.1 then fL_law_900_b1543 G k18 v3 r287.2 else none
set_option maxRecDepth 100000 in
set_option maxHeartbeats 4000000 in
theorem BL_law_900_b442 (G : mv_G) (P : Unit → Prop) (k18 : Int32 → mv_H → Option (Unit)) (hk18 : ∀ (v3 : Int32) (h : mv_H), mv_sat (k18 v3 h) P → mv_MW G mL_law room_1 lw_Zf 83 9288 18 [.ref 900, .ref 0, .ref 55, .int v3] [] mv_SH h) (v3 : Int32) (h : mv_H) (hs : mv_sat (fL_law_900_b442 G k18 v3 h) P) : mv_MW G mL_law room_1 lw_Zf 83 9288 442 [.ref 900, .ref 0, .ref 55, .int v3] [] mv_SH h := by
  unfold fL_law_900_b442 at hs
  refine mv_aload_n dL_law_442 rfl ?_
  refine mv_lV (st := []) dL_law_443 kk_L_41 (TX9_wipe_0 G 0 _ _ (mv_sat_bind hs)) so_0 vc_9 rfl rfl (Nat.le_of_ble_eq_true rfl) (by decide) rfl (by decide) (mv_kI2 fun r284 hs => ?_)
  refine mv_aload_n dL_law_446 rfl ?_
  refine mv_lV (st := [.int r284.1]) dL_law_447 kk_L_45 (TX10_wipe_55 G 0 _ _ (mv_sat_bind hs)) so_55 vc_10 rfl rfl (Nat.le_of_ble_eq_true rfl) (by decide) rfl (by decide) (mv_kI2 fun r287 hs => ?_)
  refine mv_icmp_eq dL_law_450 hs (fun _ hs => ?_) (fun _ hs => ?_)
  · exact (BL_law_900_b1543 G P _ hk18 _ _ hs)
  · refine mv_iconst 0 dL_law_453 (by decide) ?_
    exact (mv_sat_none hs).elim
noncomputable def fL_law_900_b455 (G : mv_G) (k18 : Int32 → mv_H → Option (Unit)) (v3 : Int32) (h : mv_H) : Option (Unit) := (fX9_fault_0 h).bind fun r315 => (fX10_fault_55 r315.2).bind fun r332 => if r315.1 = r332.1 then fL_law_900_b1543 G k18 v3 r332.2 else none
set_option maxRecDepth 100000 in
set_option maxHeartbeats 4000000 in
theorem BL_law_900_b455 (G : mv_G) (P : Unit → Prop) (k18 : Int32 → mv_H → Option (Unit)) (hk18 : ∀ (v3 : Int32) (h : mv_H), mv_sat (k18 v3 h) P → mv_MW G mL_law room_1 lw_Zf 83 9288 18 [.ref 900, .ref 0, .ref 55, .int v3] [] mv_SH h) (v3 : Int32) (h : mv_H) (hs : mv_sat (fL_law_900_b455 G k18 v3 h) P) : mv_MW G mL_law room_1 lw_Zf 83 9288 455 [.ref 900, .ref 0, .ref 55, .int v3] [] mv_SH h := by
  unfold fL_law_900_b455 at hs
  refine mv_aload_n dL_law_455 rfl ?_
  refine mv_lV (st := []) dL_law_456 kk_L_46 (TX9_fault_0 G 0 _ _ (mv_sat_bind hs)) so_0 vc_9 rfl rfl (Nat.le_of_ble_eq_true rfl) (by decide) rfl (by decide) (mv_kI2 fun r315 hs => ?_)
  refine mv_aload_n dL_law_459 rfl ?_
  refine mv_lV (st := [.int r315.1]) dL_law_460 kk_L_49 (TX10_fault_55 G 0 _ _ (mv_sat_bind hs)) so_55 vc_10 rfl rfl (Nat.le_of_ble_eq_true rfl) (by decide) rfl (by decide) (mv_kI2 fun r332 hs => ?_)
  refine mv_icmp_eq dL_law_463 hs (fun _ hs => ?_) (fun _ hs => ?_)
  · exact (BL_law_900_b1543 G P _ hk18 _ _ hs)
  · refine mv_iconst 0 dL_law_466 (by decide) ?_
    exact (mv_sat_none hs).elim
noncomputable def fL_law_900_b468 (G : mv_G) (k18 : Int32 → mv_H → Option (Unit)) (v3 : Int32) (h : mv_H) : Option (Unit) := (fX9_lay_0 h).bind fun r358 => (fX10_lay_55 r358.2).bind fun r377 => if r358.1 = r377.1 then fL_law_900_b1543 G k18 v3 r377.2 else none
set_option maxRecDepth 100000 in
set_option maxHeartbeats 4000000 in
theorem BL_law_900_b468 (G : mv_G) (P : Unit → Prop) (k18 : Int32 → mv_H → Option (Unit)) (hk18 : ∀ (v3 : Int32) (h : mv_H), mv_sat (k18 v3 h) P → mv_MW G mL_law room_1 lw_Zf 83 9288 18 [.ref 900, .ref 0, .ref 55, .int v3] [] mv_SH h) (v3 : Int32) (h : mv_H) (hs : mv_sat (fL_law_900_b468 G k18 v3 h) P) : mv_MW G mL_law room_1 lw_Zf 83 9288 468 [.ref 900, .ref 0, .ref 55, .int v3] [] mv_SH h := by
  unfold fL_law_900_b468 at hs
  refine mv_aload_n dL_law_468 rfl ?_
  refine mv_lV (st := []) dL_law_469 kk_L_50 (TX9_lay_0 G 0 _ _ (mv_sat_bind hs)) so_0 vc_9 rfl rfl (Nat.le_of_ble_eq_true rfl) (by decide) rfl (by decide) (mv_kI2 fun r358 hs => ?_)
  refine mv_aload_n dL_law_472 rfl ?_
  refine mv_lV (st := [.int r358.1]) dL_law_473 kk_L_53 (TX10_lay_55 G 0 _ _ (mv_sat_bind hs)) so_55 vc_10 rfl rfl (Nat.le_of_ble_eq_true rfl) (by decide) rfl (by decide) (mv_kI2 fun r377 hs => ?_)
  refine mv_icmp_eq dL_law_476 hs (fun _ hs => ?_) (fun _ hs => ?_)
  · exact (BL_law_900_b1543 G P _ hk18 _ _ hs)
  · refine mv_iconst 0 dL_law_479 (by decide) ?_
    exact (mv_sat_none hs).elim
noncomputable def fL_law_900_b481 (G : mv_G) (k18 : Int32 → mv_H → Option (Unit)) (v3 : Int32) (h : mv_H) : Option (Unit) := if mv_in (v3 + 1) (mv_x G 0).2.1 then (if mv_in (v3 + 2) (mv_x G 0).2.1 then (if mv_in (v3 + 3) (mv_x G 0).2.1 then ((fX9_need_0 ((mv_x G 0).2.2 (v3 + 1).toNatClampNeg) ((mv_x G 0).2.2 (v3 + 2).toNatClampNeg) ((mv_x G 0).2.2 (v3 + 3).toNatClampNeg) h).bind fun r405 => if mv_in (v3 + 1) (mv_x G 0).2.1 then (if mv_in (v3 + 2) (mv_x G 0).2.1 then (if mv_in (v3 + 3) (mv_x G 0).2.1 then ((fX10_need_55 ((mv_x G 0).2.2 (v3 + 1).toNatClampNeg) ((mv_x G 0).2.2 (v3 + 2).toNatClampNeg) ((mv_x G 0).2.2 (v3 + 3).toNatClampNeg) r405.2).bind fun r420 => if r405.1 = r420.1 then fL_law_900_b1543 G k18 v3 r420.2 else none) else none) else none) else none) else none) else none) else none
set_option maxRecDepth 100000 in
set_option maxHeartbeats 4000000 in
theorem BL_law_900_b481 (G : mv_G) (P : Unit → Prop) (k18 : Int32 → mv_H → Option (Unit)) (hk18 : ∀ (v3 : Int32) (h : mv_H), mv_sat (k18 v3 h) P → mv_MW G mL_law room_1 lw_Zf 83 9288 18 [.ref 900, .ref 0, .ref 55, .int v3] [] mv_SH h) (v3 : Int32) (h : mv_H) (hs : mv_sat (fL_law_900_b481 G k18 v3 h) P) : mv_MW G mL_law room_1 lw_Zf 83 9288 481 [.ref 900, .ref 0, .ref 55, .int v3] [] mv_SH h := by
  unfold fL_law_900_b481 at hs
  refine mv_aload_n dL_law_481 rfl ?_
  refine mv_aload_n dL_law_482 rfl ?_
  refine mv_iload_n dL_law_483 rfl ?_
  refine mv_iconst 1 dL_law_484 (by decide) ?_
  refine mv_iadd dL_law_485 ?_
  refine mv_xload (j := 0) (by decide) dL_law_486 hs (fun hs => ?_)
  refine mv_aload_n dL_law_487 rfl ?_
  refine mv_iload_n dL_law_488 rfl ?_
  refine mv_iconst 2 dL_law_489 (by decide) ?_
  refine mv_iadd dL_law_490 ?_
  refine mv_xload (j := 0) (by decide) dL_law_491 hs (fun hs => ?_)
  refine mv_aload_n dL_law_492 rfl ?_
  refine mv_iload_n dL_law_493 rfl ?_
  refine mv_iconst 3 dL_law_494 (by decide) ?_
  refine mv_iadd dL_law_495 ?_
  refine mv_xload (j := 0) (by decide) dL_law_496 hs (fun hs => ?_)
  refine mv_lV (st := []) dL_law_497 kk_L_54 (TX9_need_0 G 0 _ _ _ _ _ (mv_sat_bind hs)) so_0 vc_9 rfl rfl (Nat.le_of_ble_eq_true rfl) (by decide) rfl (by decide) (mv_kI2 fun r405 hs => ?_)
  refine mv_aload_n dL_law_500 rfl ?_
  refine mv_aload_n dL_law_501 rfl ?_
  refine mv_iload_n dL_law_502 rfl ?_
  refine mv_iconst 1 dL_law_503 (by decide) ?_
  refine mv_iadd dL_law_504 ?_
  refine mv_xload (j := 0) (by decide) dL_law_505 hs (fun hs => ?_)
  refine mv_aload_n dL_law_506 rfl ?_
  refine mv_iload_n dL_law_507 rfl ?_
  refine mv_iconst 2 dL_law_508 (by decide) ?_
  refine mv_iadd dL_law_509 ?_
  refine mv_xload (j := 0) (by decide) dL_law_510 hs (fun hs => ?_)
  refine mv_aload_n dL_law_511 rfl ?_
  refine mv_iload_n dL_law_512 rfl ?_
  refine mv_iconst 3 dL_law_513 (by decide) ?_
  refine mv_iadd dL_law_514 ?_
  refine mv_xload (j := 0) (by decide) dL_law_515 hs (fun hs => ?_)
  refine mv_lV (st := [.int r405.1]) dL_law_516 kk_L_57 (TX10_need_55 G 0 _ _ _ _ _ (mv_sat_bind hs)) so_55 vc_10 rfl rfl (Nat.le_of_ble_eq_true rfl) (by decide) rfl (by decide) (mv_kI2 fun r420 hs => ?_)
  refine mv_icmp_eq dL_law_519 hs (fun _ hs => ?_) (fun _ hs => ?_)
  · exact (BL_law_900_b1543 G P _ hk18 _ _ hs)
  · refine mv_iconst 0 dL_law_522 (by decide) ?_
    exact (mv_sat_none hs).elim
noncomputable def fL_law_900_b524 (G : mv_G) (k18 : Int32 → mv_H → Option (Unit)) (v3 : Int32) (h : mv_H) : Option (Unit) := if mv_in (v3 + 1) (mv_x G 0).2.1 then (if mv_in (v3 + 2) (mv_x G 0).2.1 then ((fX9_least_0 ((mv_x G 0).2.2 (v3 + 1).toNatClampNeg) ((mv_x G 0).2.2 (v3 + 2).toNatClampNeg) h).bind fun r430 => if mv_in (v3 + 1) (mv_x G 0).2.1 then (if mv_in (v3 + 2) (mv_x G 0).2.1 then ((fX10_least_55 ((mv_x G 0).2.2 (v3 + 1).toNatClampNeg) ((mv_x G 0).2.2 (v3 + 2).toNatClampNeg) r430.2).bind fun r441 => if r430.1 = r441.1 then fL_law_900_b1543 G k18 v3 r441.2 else none) else none) else none) else none) else none
set_option maxRecDepth 100000 in
set_option maxHeartbeats 4000000 in
theorem BL_law_900_b524 (G : mv_G) (P : Unit → Prop) (k18 : Int32 → mv_H → Option (Unit)) (hk18 : ∀ (v3 : Int32) (h : mv_H), mv_sat (k18 v3 h) P → mv_MW G mL_law room_1 lw_Zf 83 9288 18 [.ref 900, .ref 0, .ref 55, .int v3] [] mv_SH h) (v3 : Int32) (h : mv_H) (hs : mv_sat (fL_law_900_b524 G k18 v3 h) P) : mv_MW G mL_law room_1 lw_Zf 83 9288 524 [.ref 900, .ref 0, .ref 55, .int v3] [] mv_SH h := by
  unfold fL_law_900_b524 at hs
  refine mv_aload_n dL_law_524 rfl ?_
  refine mv_aload_n dL_law_525 rfl ?_
  refine mv_iload_n dL_law_526 rfl ?_
  refine mv_iconst 1 dL_law_527 (by decide) ?_
  refine mv_iadd dL_law_528 ?_
  refine mv_xload (j := 0) (by decide) dL_law_529 hs (fun hs => ?_)
  refine mv_aload_n dL_law_530 rfl ?_
  refine mv_iload_n dL_law_531 rfl ?_
  refine mv_iconst 2 dL_law_532 (by decide) ?_
  refine mv_iadd dL_law_533 ?_
  refine mv_xload (j := 0) (by decide) dL_law_534 hs (fun hs => ?_)
  refine mv_lV (st := []) dL_law_535 kk_L_58 (TX9_least_0 G 0 _ _ _ _ (mv_sat_bind hs)) so_0 vc_9 rfl rfl (Nat.le_of_ble_eq_true rfl) (by decide) rfl (by decide) (mv_kI2 fun r430 hs => ?_)
  refine mv_aload_n dL_law_538 rfl ?_
  refine mv_aload_n dL_law_539 rfl ?_
  refine mv_iload_n dL_law_540 rfl ?_
  refine mv_iconst 1 dL_law_541 (by decide) ?_
  refine mv_iadd dL_law_542 ?_
  refine mv_xload (j := 0) (by decide) dL_law_543 hs (fun hs => ?_)
  refine mv_aload_n dL_law_544 rfl ?_
  refine mv_iload_n dL_law_545 rfl ?_
  refine mv_iconst 2 dL_law_546 (by decide) ?_
  refine mv_iadd dL_law_547 ?_
  refine mv_xload (j := 0) (by decide) dL_law_548 hs (fun hs => ?_)
  refine mv_lV (st := [.int r430.1]) dL_law_549 kk_L_61 (TX10_least_55 G 0 _ _ _ _ (mv_sat_bind hs)) so_55 vc_10 rfl rfl (Nat.le_of_ble_eq_true rfl) (by decide) rfl (by decide) (mv_kI2 fun r441 hs => ?_)
  refine mv_icmp_eq dL_law_552 hs (fun _ hs => ?_) (fun _ hs => ?_)
  · exact (BL_law_900_b1543 G P _ hk18 _ _ hs)
  · refine mv_iconst 0 dL_law_555 (by decide) ?_
    exact (mv_sat_none hs).elim
noncomputable def fL_law_900_b557 (G : mv_G) (k18 : Int32 → mv_H → Option (Unit)) (v3 : Int32) (h : mv_H) : Option (Unit) := if mv_in (v3 + 1) (mv_x G 0).2.1 then (if mv_in (v3 + 2) (mv_x G 0).2.1 then (if mv_in (v3 + 3) (mv_x G 0).2.1 then ((fX9_does_0 ((mv_x G 0).2.2 (v3 + 1).toNatClampNeg) ((mv_x G 0).2.2 (v3 + 2).toNatClampNeg) ((mv_x G 0).2.2 (v3 + 3).toNatClampNeg) h).bind fun r464 => if mv_in (v3 + 1) (mv_x G 0).2.1 then (if mv_in (v3 + 2) (mv_x G 0).2.1 then (if mv_in (v3 + 3) (mv_x G 0).2.1 then ((fX10_does_55 ((mv_x G 0).2.2 (v3 + 1).toNatClampNeg) ((mv_x G 0).2.2 (v3 + 2).toNatClampNeg) ((mv_x G 0).2.2 (v3 + 3).toNatClampNeg) r464.2).bind fun r475 => if r464.1 = r475.1 then fL_law_900_b1543 G k18 v3 r475.2 else none) else none) else none) else none) else none) else none) else none
set_option maxRecDepth 100000 in
set_option maxHeartbeats 4000000 in
theorem BL_law_900_b557 (G : mv_G) (P : Unit → Prop) (k18 : Int32 → mv_H → Option (Unit)) (hk18 : ∀ (v3 : Int32) (h : mv_H), mv_sat (k18 v3 h) P → mv_MW G mL_law room_1 lw_Zf 83 9288 18 [.ref 900, .ref 0, .ref 55, .int v3] [] mv_SH h) (v3 : Int32) (h : mv_H) (hs : mv_sat (fL_law_900_b557 G k18 v3 h) P) : mv_MW G mL_law room_1 lw_Zf 83 9288 557 [.ref 900, .ref 0, .ref 55, .int v3] [] mv_SH h := by
  unfold fL_law_900_b557 at hs
  refine mv_aload_n dL_law_557 rfl ?_
  refine mv_aload_n dL_law_558 rfl ?_
  refine mv_iload_n dL_law_559 rfl ?_
  refine mv_iconst 1 dL_law_560 (by decide) ?_
  refine mv_iadd dL_law_561 ?_
  refine mv_xload (j := 0) (by decide) dL_law_562 hs (fun hs => ?_)
  refine mv_aload_n dL_law_563 rfl ?_
  refine mv_iload_n dL_law_564 rfl ?_
  refine mv_iconst 2 dL_law_565 (by decide) ?_
  refine mv_iadd dL_law_566 ?_
  refine mv_xload (j := 0) (by decide) dL_law_567 hs (fun hs => ?_)
  refine mv_aload_n dL_law_568 rfl ?_
  refine mv_iload_n dL_law_569 rfl ?_
  refine mv_iconst 3 dL_law_570 (by decide) ?_
  refine mv_iadd dL_law_571 ?_
  refine mv_xload (j := 0) (by decide) dL_law_572 hs (fun hs => ?_)
  refine mv_lV (st := []) dL_law_573 kk_L_62 (TX9_does_0 G 0 _ _ _ _ _ (mv_sat_bind hs)) so_0 vc_9 rfl rfl (Nat.le_of_ble_eq_true rfl) (by decide) rfl (by decide) (mv_kI2 fun r464 hs => ?_)
  refine mv_aload_n dL_law_576 rfl ?_
  refine mv_aload_n dL_law_577 rfl ?_
  refine mv_iload_n dL_law_578 rfl ?_
  refine mv_iconst 1 dL_law_579 (by decide) ?_
  refine mv_iadd dL_law_580 ?_
  refine mv_xload (j := 0) (by decide) dL_law_581 hs (fun hs => ?_)
  refine mv_aload_n dL_law_582 rfl ?_
  refine mv_iload_n dL_law_583 rfl ?_
  refine mv_iconst 2 dL_law_584 (by decide) ?_
  refine mv_iadd dL_law_585 ?_
  refine mv_xload (j := 0) (by decide) dL_law_586 hs (fun hs => ?_)
  refine mv_aload_n dL_law_587 rfl ?_
  refine mv_iload_n dL_law_588 rfl ?_
  refine mv_iconst 3 dL_law_589 (by decide) ?_
  refine mv_iadd dL_law_590 ?_
  refine mv_xload (j := 0) (by decide) dL_law_591 hs (fun hs => ?_)
  refine mv_lV (st := [.int r464.1]) dL_law_592 kk_L_65 (TX10_does_55 G 0 _ _ _ _ _ (mv_sat_bind hs)) so_55 vc_10 rfl rfl (Nat.le_of_ble_eq_true rfl) (by decide) rfl (by decide) (mv_kI2 fun r475 hs => ?_)
  refine mv_icmp_eq dL_law_595 hs (fun _ hs => ?_) (fun _ hs => ?_)
  · exact (BL_law_900_b1543 G P _ hk18 _ _ hs)
  · refine mv_iconst 0 dL_law_598 (by decide) ?_
    exact (mv_sat_none hs).elim
noncomputable def fL_law_900_b600 (G : mv_G) (k18 : Int32 → mv_H → Option (Unit)) (v3 : Int32) (h : mv_H) : Option (Unit) := if mv_in (v3 + 1) (mv_x G 0).2.1 then ((fX9_taken_0 ((mv_x G 0).2.2 (v3 + 1).toNatClampNeg) h).bind fun r488 => if mv_in (v3 + 1) (mv_x G 0).2.1 then ((fX10_taken_55 ((mv_x G 0).2.2 (v3 + 1).toNatClampNeg) r488.2).bind fun r495 => if r488.1 = r495.1 then fL_law_900_b1543 G k18 v3 r495.2 else none) else none) else none
set_option maxRecDepth 100000 in
set_option maxHeartbeats 4000000 in
theorem BL_law_900_b600 (G : mv_G) (P : Unit → Prop) (k18 : Int32 → mv_H → Option (Unit)) (hk18 : ∀ (v3 : Int32) (h : mv_H), mv_sat (k18 v3 h) P → mv_MW G mL_law room_1 lw_Zf 83 9288 18 [.ref 900, .ref 0, .ref 55, .int v3] [] mv_SH h) (v3 : Int32) (h : mv_H) (hs : mv_sat (fL_law_900_b600 G k18 v3 h) P) : mv_MW G mL_law room_1 lw_Zf 83 9288 600 [.ref 900, .ref 0, .ref 55, .int v3] [] mv_SH h := by
  unfold fL_law_900_b600 at hs
  refine mv_aload_n dL_law_600 rfl ?_
  refine mv_aload_n dL_law_601 rfl ?_
  refine mv_iload_n dL_law_602 rfl ?_
  refine mv_iconst 1 dL_law_603 (by decide) ?_
  refine mv_iadd dL_law_604 ?_
  refine mv_xload (j := 0) (by decide) dL_law_605 hs (fun hs => ?_)
  refine mv_lV (st := []) dL_law_606 kk_L_66 (TX9_taken_0 G 0 _ _ _ (mv_sat_bind hs)) so_0 vc_9 rfl rfl (Nat.le_of_ble_eq_true rfl) (by decide) rfl (by decide) (mv_kI2 fun r488 hs => ?_)
  refine mv_aload_n dL_law_609 rfl ?_
  refine mv_aload_n dL_law_610 rfl ?_
  refine mv_iload_n dL_law_611 rfl ?_
  refine mv_iconst 1 dL_law_612 (by decide) ?_
  refine mv_iadd dL_law_613 ?_
  refine mv_xload (j := 0) (by decide) dL_law_614 hs (fun hs => ?_)
  refine mv_lV (st := [.int r488.1]) dL_law_615 kk_L_69 (TX10_taken_55 G 0 _ _ _ (mv_sat_bind hs)) so_55 vc_10 rfl rfl (Nat.le_of_ble_eq_true rfl) (by decide) rfl (by decide) (mv_kI2 fun r495 hs => ?_)
  refine mv_icmp_eq dL_law_618 hs (fun _ hs => ?_) (fun _ hs => ?_)
  · exact (BL_law_900_b1543 G P _ hk18 _ _ hs)
  · refine mv_iconst 0 dL_law_621 (by decide) ?_
    exact (mv_sat_none hs).elim
noncomputable def fL_law_900_b623 (G : mv_G) (k18 : Int32 → mv_H → Option (Unit)) (v3 : Int32) (h : mv_H) : Option (Unit) := if mv_in (v3 + 1) (mv_x G 0).2.1 then (if mv_in (v3 + 2) (mv_x G 0).2.1 then (if mv_in (v3 + 3) (mv_x G 0).2.1 then (if mv_in (v3 + 4) (mv_x G 0).2.1 then ((fX9_shortBy_0 ((mv_x G 0).2.2 (v3 + 1).toNatClampNeg) ((mv_x G 0).2.2 (v3 + 2).toNatClampNeg) ((mv_x G 0).2.2 (v3 + 3).toNatClampNeg) ((mv_x G 0).2.2 (v3 + 4).toNatClampNeg) h).bind fun r503 => if mv_in (v3 + 1) (mv_x G 0).2.1 then (if mv_in (v3 + 2) (mv_x G 0).2.1 then (if mv_in (v3 + 3) (mv_x G 0).2.1 then (if mv_in (v3 + 4) (mv_x G 0).2.1 then ((fX10_shortBy_55 ((mv_x G 0).2.2 (v3 + 1).toNatClampNeg) ((mv_x G 0).2.2 (v3 + 2).toNatClampNeg) ((mv_x G 0).2.2 (v3 + 3).toNatClampNeg) ((mv_x G 0).2.2 (v3 + 4).toNatClampNeg) r503.2).bind fun r511 => if r503.1 = r511.1 then fL_law_900_b1543 G k18 v3 r511.2 else none) else none) else none) else none) else none) else none) else none) else none) else none
set_option maxRecDepth 100000 in
set_option maxHeartbeats 4000000 in
theorem BL_law_900_b623 (G : mv_G) (P : Unit → Prop) (k18 : Int32 → mv_H → Option (Unit)) (hk18 : ∀ (v3 : Int32) (h : mv_H), mv_sat (k18 v3 h) P → mv_MW G mL_law room_1 lw_Zf 83 9288 18 [.ref 900, .ref 0, .ref 55, .int v3] [] mv_SH h) (v3 : Int32) (h : mv_H) (hs : mv_sat (fL_law_900_b623 G k18 v3 h) P) : mv_MW G mL_law room_1 lw_Zf 83 9288 623 [.ref 900, .ref 0, .ref 55, .int v3] [] mv_SH h := by
  unfold fL_law_900_b623 at hs
  refine mv_aload_n dL_law_623 rfl ?_
  refine mv_aload_n dL_law_624 rfl ?_
  refine mv_iload_n dL_law_625 rfl ?_
  refine mv_iconst 1 dL_law_626 (by decide) ?_
  refine mv_iadd dL_law_627 ?_
  refine mv_xload (j := 0) (by decide) dL_law_628 hs (fun hs => ?_)
  refine mv_aload_n dL_law_629 rfl ?_
  refine mv_iload_n dL_law_630 rfl ?_
  refine mv_iconst 2 dL_law_631 (by decide) ?_
  refine mv_iadd dL_law_632 ?_
  refine mv_xload (j := 0) (by decide) dL_law_633 hs (fun hs => ?_)
  refine mv_aload_n dL_law_634 rfl ?_
  refine mv_iload_n dL_law_635 rfl ?_
  refine mv_iconst 3 dL_law_636 (by decide) ?_
  refine mv_iadd dL_law_637 ?_
  refine mv_xload (j := 0) (by decide) dL_law_638 hs (fun hs => ?_)
  refine mv_aload_n dL_law_639 rfl ?_
  refine mv_iload_n dL_law_640 rfl ?_
  refine mv_iconst 4 dL_law_641 (by decide) ?_
  refine mv_iadd dL_law_642 ?_
  refine mv_xload (j := 0) (by decide) dL_law_643 hs (fun hs => ?_)
  refine mv_lV (st := []) dL_law_644 kk_L_70 (TX9_shortBy_0 G 0 _ _ _ _ _ _ (mv_sat_bind hs)) so_0 vc_9 rfl rfl (Nat.le_of_ble_eq_true rfl) (by decide) rfl (by decide) (mv_kI2 fun r503 hs => ?_)
  refine mv_aload_n dL_law_647 rfl ?_
  refine mv_aload_n dL_law_648 rfl ?_
  refine mv_iload_n dL_law_649 rfl ?_
  refine mv_iconst 1 dL_law_650 (by decide) ?_
  refine mv_iadd dL_law_651 ?_
  refine mv_xload (j := 0) (by decide) dL_law_652 hs (fun hs => ?_)
  refine mv_aload_n dL_law_653 rfl ?_
  refine mv_iload_n dL_law_654 rfl ?_
  refine mv_iconst 2 dL_law_655 (by decide) ?_
  refine mv_iadd dL_law_656 ?_
  refine mv_xload (j := 0) (by decide) dL_law_657 hs (fun hs => ?_)
  refine mv_aload_n dL_law_658 rfl ?_
  refine mv_iload_n dL_law_659 rfl ?_
  refine mv_iconst 3 dL_law_660 (by decide) ?_
  refine mv_iadd dL_law_661 ?_
  refine mv_xload (j := 0) (by decide) dL_law_662 hs (fun hs => ?_)
  refine mv_aload_n dL_law_663 rfl ?_
  refine mv_iload_n dL_law_664 rfl ?_
  refine mv_iconst 4 dL_law_665 (by decide) ?_
  refine mv_iadd dL_law_666 ?_
  refine mv_xload (j := 0) (by decide) dL_law_667 hs (fun hs => ?_)
  refine mv_lV (st := [.int r503.1]) dL_law_668 kk_L_73 (TX10_shortBy_55 G 0 _ _ _ _ _ _ (mv_sat_bind hs)) so_55 vc_10 rfl rfl (Nat.le_of_ble_eq_true rfl) (by decide) rfl (by decide) (mv_kI2 fun r511 hs => ?_)
  refine mv_icmp_eq dL_law_671 hs (fun _ hs => ?_) (fun _ hs => ?_)
  · exact (BL_law_900_b1543 G P _ hk18 _ _ hs)
  · refine mv_iconst 0 dL_law_674 (by decide) ?_
    exact (mv_sat_none hs).elim
noncomputable def fL_law_900_b676 (G : mv_G) (k18 : Int32 → mv_H → Option (Unit)) (v3 : Int32) (h : mv_H) : Option (Unit) := if mv_in (v3 + 1) (mv_x G 0).2.1 then (if mv_in (v3 + 2) (mv_x G 0).2.1 then ((fX9_slant_0 ((mv_x G 0).2.2 (v3 + 1).toNatClampNeg) ((mv_x G 0).2.2 (v3 + 2).toNatClampNeg) h).bind fun r524 => if mv_in (v3 + 1) (mv_x G 0).2.1 then (if mv_in (v3 + 2) (mv_x G 0).2.1 then ((fX10_slant_55 ((mv_x G 0).2.2 (v3 + 1).toNatClampNeg) ((mv_x G 0).2.2 (v3 + 2).toNatClampNeg) r524.2).bind fun r531 => if r524.1 = r531.1 then fL_law_900_b1543 G k18 v3 r531.2 else none) else none) else none) else none) else none
set_option maxRecDepth 100000 in
set_option maxHeartbeats 4000000 in
theorem BL_law_900_b676 (G : mv_G) (P : Unit → Prop) (k18 : Int32 → mv_H → Option (Unit)) (hk18 : ∀ (v3 : Int32) (h : mv_H), mv_sat (k18 v3 h) P → mv_MW G mL_law room_1 lw_Zf 83 9288 18 [.ref 900, .ref 0, .ref 55, .int v3] [] mv_SH h) (v3 : Int32) (h : mv_H) (hs : mv_sat (fL_law_900_b676 G k18 v3 h) P) : mv_MW G mL_law room_1 lw_Zf 83 9288 676 [.ref 900, .ref 0, .ref 55, .int v3] [] mv_SH h := by
  unfold fL_law_900_b676 at hs
  refine mv_aload_n dL_law_676 rfl ?_
  refine mv_aload_n dL_law_677 rfl ?_
  refine mv_iload_n dL_law_678 rfl ?_
  refine mv_iconst 1 dL_law_679 (by decide) ?_
  refine mv_iadd dL_law_680 ?_
  refine mv_xload (j := 0) (by decide) dL_law_681 hs (fun hs => ?_)
  refine mv_aload_n dL_law_682 rfl ?_
  refine mv_iload_n dL_law_683 rfl ?_
  refine mv_iconst 2 dL_law_684 (by decide) ?_
  refine mv_iadd dL_law_685 ?_
  refine mv_xload (j := 0) (by decide) dL_law_686 hs (fun hs => ?_)
  refine mv_lV (st := []) dL_law_687 kk_L_74 (TX9_slant_0 G 0 _ _ _ _ (mv_sat_bind hs)) so_0 vc_9 rfl rfl (Nat.le_of_ble_eq_true rfl) (by decide) rfl (by decide) (mv_kI2 fun r524 hs => ?_)
  refine mv_aload_n dL_law_690 rfl ?_
  refine mv_aload_n dL_law_691 rfl ?_
  refine mv_iload_n dL_law_692 rfl ?_
  refine mv_iconst 1 dL_law_693 (by decide) ?_
  refine mv_iadd dL_law_694 ?_
  refine mv_xload (j := 0) (by decide) dL_law_695 hs (fun hs => ?_)
  refine mv_aload_n dL_law_696 rfl ?_
  refine mv_iload_n dL_law_697 rfl ?_
  refine mv_iconst 2 dL_law_698 (by decide) ?_
  refine mv_iadd dL_law_699 ?_
  refine mv_xload (j := 0) (by decide) dL_law_700 hs (fun hs => ?_)
  refine mv_lV (st := [.int r524.1]) dL_law_701 kk_L_77 (TX10_slant_55 G 0 _ _ _ _ (mv_sat_bind hs)) so_55 vc_10 rfl rfl (Nat.le_of_ble_eq_true rfl) (by decide) rfl (by decide) (mv_kI2 fun r531 hs => ?_)
  refine mv_icmp_eq dL_law_704 hs (fun _ hs => ?_) (fun _ hs => ?_)
  · exact (BL_law_900_b1543 G P _ hk18 _ _ hs)
  · refine mv_iconst 0 dL_law_707 (by decide) ?_
    exact (mv_sat_none hs).elim
noncomputable def fL_law_900_b709 (G : mv_G) (k18 : Int32 → mv_H → Option (Unit)) (v3 : Int32) (h : mv_H) : Option (Unit) := if mv_in (v3 + 1) (mv_x G 0).2.1 then (if mv_in (v3 + 2) (mv_x G 0).2.1 then ((fX9_slants_0 ((mv_x G 0).2.2 (v3 + 1).toNatClampNeg) ((mv_x G 0).2.2 (v3 + 2).toNatClampNeg) h).bind fun r540 => if mv_in (v3 + 1) (mv_x G 0).2.1 then (if mv_in (v3 + 2) (mv_x G 0).2.1 then ((fX10_slants_55 ((mv_x G 0).2.2 (v3 + 1).toNatClampNeg) ((mv_x G 0).2.2 (v3 + 2).toNatClampNeg) r540.2).bind fun r546 => if r540.1 = r546.1 then fL_law_900_b1543 G k18 v3 r546.2 else none) else none) else none) else none) else none
set_option maxRecDepth 100000 in
set_option maxHeartbeats 4000000 in
theorem BL_law_900_b709 (G : mv_G) (P : Unit → Prop) (k18 : Int32 → mv_H → Option (Unit)) (hk18 : ∀ (v3 : Int32) (h : mv_H), mv_sat (k18 v3 h) P → mv_MW G mL_law room_1 lw_Zf 83 9288 18 [.ref 900, .ref 0, .ref 55, .int v3] [] mv_SH h) (v3 : Int32) (h : mv_H) (hs : mv_sat (fL_law_900_b709 G k18 v3 h) P) : mv_MW G mL_law room_1 lw_Zf 83 9288 709 [.ref 900, .ref 0, .ref 55, .int v3] [] mv_SH h := by
  unfold fL_law_900_b709 at hs
  refine mv_aload_n dL_law_709 rfl ?_
  refine mv_aload_n dL_law_710 rfl ?_
  refine mv_iload_n dL_law_711 rfl ?_
  refine mv_iconst 1 dL_law_712 (by decide) ?_
  refine mv_iadd dL_law_713 ?_
  refine mv_xload (j := 0) (by decide) dL_law_714 hs (fun hs => ?_)
  refine mv_aload_n dL_law_715 rfl ?_
  refine mv_iload_n dL_law_716 rfl ?_
  refine mv_iconst 2 dL_law_717 (by decide) ?_
  refine mv_iadd dL_law_718 ?_
  refine mv_xload (j := 0) (by decide) dL_law_719 hs (fun hs => ?_)
  refine mv_lV (st := []) dL_law_720 kk_L_78 (TX9_slants_0 G 0 _ _ _ _ (mv_sat_bind hs)) so_0 vc_9 rfl rfl (Nat.le_of_ble_eq_true rfl) (by decide) rfl (by decide) (mv_kI2 fun r540 hs => ?_)
  refine mv_aload_n dL_law_723 rfl ?_
  refine mv_aload_n dL_law_724 rfl ?_
  refine mv_iload_n dL_law_725 rfl ?_
  refine mv_iconst 1 dL_law_726 (by decide) ?_
  refine mv_iadd dL_law_727 ?_
  refine mv_xload (j := 0) (by decide) dL_law_728 hs (fun hs => ?_)
  refine mv_aload_n dL_law_729 rfl ?_
  refine mv_iload_n dL_law_730 rfl ?_
  refine mv_iconst 2 dL_law_731 (by decide) ?_
  refine mv_iadd dL_law_732 ?_
  refine mv_xload (j := 0) (by decide) dL_law_733 hs (fun hs => ?_)
  refine mv_lV (st := [.int r540.1]) dL_law_734 kk_L_81 (TX10_slants_55 G 0 _ _ _ _ (mv_sat_bind hs)) so_55 vc_10 rfl rfl (Nat.le_of_ble_eq_true rfl) (by decide) rfl (by decide) (mv_kI2 fun r546 hs => ?_)
  refine mv_icmp_eq dL_law_737 hs (fun _ hs => ?_) (fun _ hs => ?_)
  · exact (BL_law_900_b1543 G P _ hk18 _ _ hs)
  · refine mv_iconst 0 dL_law_740 (by decide) ?_
    exact (mv_sat_none hs).elim
noncomputable def fL_law_900_b742 (G : mv_G) (k18 : Int32 → mv_H → Option (Unit)) (v3 : Int32) (h : mv_H) : Option (Unit) := if mv_in (v3 + 1) (mv_x G 0).2.1 then ((fX9_saved_0 ((mv_x G 0).2.2 (v3 + 1).toNatClampNeg) h).bind fun r551 => if mv_in (v3 + 1) (mv_x G 0).2.1 then ((fX10_saved_55 ((mv_x G 0).2.2 (v3 + 1).toNatClampNeg) r551.2).bind fun r557 => if r551.1 = r557.1 then fL_law_900_b1543 G k18 v3 r557.2 else none) else none) else none
set_option maxRecDepth 100000 in
set_option maxHeartbeats 4000000 in
theorem BL_law_900_b742 (G : mv_G) (P : Unit → Prop) (k18 : Int32 → mv_H → Option (Unit)) (hk18 : ∀ (v3 : Int32) (h : mv_H), mv_sat (k18 v3 h) P → mv_MW G mL_law room_1 lw_Zf 83 9288 18 [.ref 900, .ref 0, .ref 55, .int v3] [] mv_SH h) (v3 : Int32) (h : mv_H) (hs : mv_sat (fL_law_900_b742 G k18 v3 h) P) : mv_MW G mL_law room_1 lw_Zf 83 9288 742 [.ref 900, .ref 0, .ref 55, .int v3] [] mv_SH h := by
  unfold fL_law_900_b742 at hs
  refine mv_aload_n dL_law_742 rfl ?_
  refine mv_aload_n dL_law_743 rfl ?_
  refine mv_iload_n dL_law_744 rfl ?_
  refine mv_iconst 1 dL_law_745 (by decide) ?_
  refine mv_iadd dL_law_746 ?_
  refine mv_xload (j := 0) (by decide) dL_law_747 hs (fun hs => ?_)
  refine mv_lV (st := []) dL_law_748 kk_L_82 (TX9_saved_0 G 0 _ _ _ (mv_sat_bind hs)) so_0 vc_9 rfl rfl (Nat.le_of_ble_eq_true rfl) (by decide) rfl (by decide) (mv_kI2 fun r551 hs => ?_)
  refine mv_aload_n dL_law_751 rfl ?_
  refine mv_aload_n dL_law_752 rfl ?_
  refine mv_iload_n dL_law_753 rfl ?_
  refine mv_iconst 1 dL_law_754 (by decide) ?_
  refine mv_iadd dL_law_755 ?_
  refine mv_xload (j := 0) (by decide) dL_law_756 hs (fun hs => ?_)
  refine mv_lV (st := [.int r551.1]) dL_law_757 kk_L_85 (TX10_saved_55 G 0 _ _ _ (mv_sat_bind hs)) so_55 vc_10 rfl rfl (Nat.le_of_ble_eq_true rfl) (by decide) rfl (by decide) (mv_kI2 fun r557 hs => ?_)
  refine mv_icmp_eq dL_law_760 hs (fun _ hs => ?_) (fun _ hs => ?_)
  · exact (BL_law_900_b1543 G P _ hk18 _ _ hs)
  · refine mv_iconst 0 dL_law_763 (by decide) ?_
    exact (mv_sat_none hs).elim
noncomputable def fL_law_900_b765 (G : mv_G) (k18 : Int32 → mv_H → Option (Unit)) (v3 : Int32) (h : mv_H) : Option (Unit) := if mv_in (v3 + 1) (mv_x G 0).2.1 then (if mv_in (v3 + 2) (mv_x G 0).2.1 then (if mv_in (v3 + 3) (mv_x G 0).2.1 then ((fX9_roll_0 ((mv_x G 0).2.2 (v3 + 1).toNatClampNeg) ((mv_x G 0).2.2 (v3 + 2).toNatClampNeg) ((mv_x G 0).2.2 (v3 + 3).toNatClampNeg) h).bind fun r579 => if mv_in (v3 + 1) (mv_x G 0).2.1 then (if mv_in (v3 + 2) (mv_x G 0).2.1 then (if mv_in (v3 + 3) (mv_x G 0).2.1 then ((fX10_roll_55 ((mv_x G 0).2.2 (v3 + 1).toNatClampNeg) ((mv_x G 0).2.2 (v3 + 2).toNatClampNeg) ((mv_x G 0).2.2 (v3 + 3).toNatClampNeg) r579.2).bind fun r590 => if r579.1 = r590.1 then fL_law_900_b1543 G k18 v3 r590.2 else none) else none) else none) else none) else none) else none) else none
set_option maxRecDepth 100000 in
set_option maxHeartbeats 4000000 in
theorem BL_law_900_b765 (G : mv_G) (P : Unit → Prop) (k18 : Int32 → mv_H → Option (Unit)) (hk18 : ∀ (v3 : Int32) (h : mv_H), mv_sat (k18 v3 h) P → mv_MW G mL_law room_1 lw_Zf 83 9288 18 [.ref 900, .ref 0, .ref 55, .int v3] [] mv_SH h) (v3 : Int32) (h : mv_H) (hs : mv_sat (fL_law_900_b765 G k18 v3 h) P) : mv_MW G mL_law room_1 lw_Zf 83 9288 765 [.ref 900, .ref 0, .ref 55, .int v3] [] mv_SH h := by
  unfold fL_law_900_b765 at hs
  refine mv_aload_n dL_law_765 rfl ?_
  refine mv_aload_n dL_law_766 rfl ?_
  refine mv_iload_n dL_law_767 rfl ?_
  refine mv_iconst 1 dL_law_768 (by decide) ?_
  refine mv_iadd dL_law_769 ?_
  refine mv_xload (j := 0) (by decide) dL_law_770 hs (fun hs => ?_)
  refine mv_aload_n dL_law_771 rfl ?_
  refine mv_iload_n dL_law_772 rfl ?_
  refine mv_iconst 2 dL_law_773 (by decide) ?_
  refine mv_iadd dL_law_774 ?_
  refine mv_xload (j := 0) (by decide) dL_law_775 hs (fun hs => ?_)
  refine mv_aload_n dL_law_776 rfl ?_
  refine mv_iload_n dL_law_777 rfl ?_
  refine mv_iconst 3 dL_law_778 (by decide) ?_
  refine mv_iadd dL_law_779 ?_
  refine mv_xload (j := 0) (by decide) dL_law_780 hs (fun hs => ?_)
  refine mv_lV (st := []) dL_law_781 kk_L_86 (TX9_roll_0 G 0 _ _ _ _ _ (mv_sat_bind hs)) so_0 vc_9 rfl rfl (Nat.le_of_ble_eq_true rfl) (by decide) rfl (by decide) (mv_kI2 fun r579 hs => ?_)
  refine mv_aload_n dL_law_784 rfl ?_
  refine mv_aload_n dL_law_785 rfl ?_
  refine mv_iload_n dL_law_786 rfl ?_
  refine mv_iconst 1 dL_law_787 (by decide) ?_
  refine mv_iadd dL_law_788 ?_
  refine mv_xload (j := 0) (by decide) dL_law_789 hs (fun hs => ?_)
  refine mv_aload_n dL_law_790 rfl ?_
  refine mv_iload_n dL_law_791 rfl ?_
  refine mv_iconst 2 dL_law_792 (by decide) ?_
  refine mv_iadd dL_law_793 ?_
  refine mv_xload (j := 0) (by decide) dL_law_794 hs (fun hs => ?_)
  refine mv_aload_n dL_law_795 rfl ?_
  refine mv_iload_n dL_law_796 rfl ?_
  refine mv_iconst 3 dL_law_797 (by decide) ?_
  refine mv_iadd dL_law_798 ?_
  refine mv_xload (j := 0) (by decide) dL_law_799 hs (fun hs => ?_)
  refine mv_lV (st := [.int r579.1]) dL_law_800 kk_L_89 (TX10_roll_55 G 0 _ _ _ _ _ (mv_sat_bind hs)) so_55 vc_10 rfl rfl (Nat.le_of_ble_eq_true rfl) (by decide) rfl (by decide) (mv_kI2 fun r590 hs => ?_)
  refine mv_icmp_eq dL_law_803 hs (fun _ hs => ?_) (fun _ hs => ?_)
  · exact (BL_law_900_b1543 G P _ hk18 _ _ hs)
  · refine mv_iconst 0 dL_law_806 (by decide) ?_
    exact (mv_sat_none hs).elim
noncomputable def fL_law_900_b808 (G : mv_G) (k18 : Int32 → mv_H → Option (Unit)) (v3 : Int32) (h : mv_H) : Option (Unit) := if mv_in (v3 + 1) (mv_x G 0).2.1 then (if mv_in (v3 + 2) (mv_x G 0).2.1 then (if mv_in (v3 + 3) (mv_x G 0).2.1 then (if mv_in (v3 + 4) (mv_x G 0).2.1 then (if mv_in (v3 + 5) (mv_x G 0).2.1 then (if mv_in (v3 + 6) (mv_x G 0).2.1 then ((fX9_cheaper_0 ((mv_x G 0).2.2 (v3 + 1).toNatClampNeg) ((mv_x G 0).2.2 (v3 + 2).toNatClampNeg) ((mv_x G 0).2.2 (v3 + 3).toNatClampNeg) ((mv_x G 0).2.2 (v3 + 4).toNatClampNeg) ((mv_x G 0).2.2 (v3 + 5).toNatClampNeg) ((mv_x G 0).2.2 (v3 + 6).toNatClampNeg) h).bind fun r602 => if mv_in (v3 + 1) (mv_x G 0).2.1 then (if mv_in (v3 + 2) (mv_x G 0).2.1 then (if mv_in (v3 + 3) (mv_x G 0).2.1 then (if mv_in (v3 + 4) (mv_x G 0).2.1 then (if mv_in (v3 + 5) (mv_x G 0).2.1 then (if mv_in (v3 + 6) (mv_x G 0).2.1 then ((fX10_cheaper_55 ((mv_x G 0).2.2 (v3 + 1).toNatClampNeg) ((mv_x G 0).2.2 (v3 + 2).toNatClampNeg) ((mv_x G 0).2.2 (v3 + 3).toNatClampNeg) ((mv_x G 0).2.2 (v3 + 4).toNatClampNeg) ((mv_x G 0).2.2 (v3 + 5).toNatClampNeg) ((mv_x G 0).2.2 (v3 + 6).toNatClampNeg) r602.2).bind fun r614 => if r602.1 = r614.1 then fL_law_900_b1543 G k18 v3 r614.2 else none) else none) else none) else none) else none) else none) else none) else none) else none) else none) else none) else none) else none
set_option maxRecDepth 100000 in
set_option maxHeartbeats 4000000 in
theorem BL_law_900_b808 (G : mv_G) (P : Unit → Prop) (k18 : Int32 → mv_H → Option (Unit)) (hk18 : ∀ (v3 : Int32) (h : mv_H), mv_sat (k18 v3 h) P → mv_MW G mL_law room_1 lw_Zf 83 9288 18 [.ref 900, .ref 0, .ref 55, .int v3] [] mv_SH h) (v3 : Int32) (h : mv_H) (hs : mv_sat (fL_law_900_b808 G k18 v3 h) P) : mv_MW G mL_law room_1 lw_Zf 83 9288 808 [.ref 900, .ref 0, .ref 55, .int v3] [] mv_SH h := by
  unfold fL_law_900_b808 at hs
  refine mv_aload_n dL_law_808 rfl ?_
  refine mv_aload_n dL_law_809 rfl ?_
  refine mv_iload_n dL_law_810 rfl ?_
  refine mv_iconst 1 dL_law_811 (by decide) ?_
  refine mv_iadd dL_law_812 ?_
  refine mv_xload (j := 0) (by decide) dL_law_813 hs (fun hs => ?_)
  refine mv_aload_n dL_law_814 rfl ?_
  refine mv_iload_n dL_law_815 rfl ?_
  refine mv_iconst 2 dL_law_816 (by decide) ?_
  refine mv_iadd dL_law_817 ?_
  refine mv_xload (j := 0) (by decide) dL_law_818 hs (fun hs => ?_)
  refine mv_aload_n dL_law_819 rfl ?_
  refine mv_iload_n dL_law_820 rfl ?_
  refine mv_iconst 3 dL_law_821 (by decide) ?_
  refine mv_iadd dL_law_822 ?_
  refine mv_xload (j := 0) (by decide) dL_law_823 hs (fun hs => ?_)
  refine mv_aload_n dL_law_824 rfl ?_
  refine mv_iload_n dL_law_825 rfl ?_
  refine mv_iconst 4 dL_law_826 (by decide) ?_
  refine mv_iadd dL_law_827 ?_
  refine mv_xload (j := 0) (by decide) dL_law_828 hs (fun hs => ?_)
  refine mv_aload_n dL_law_829 rfl ?_
  refine mv_iload_n dL_law_830 rfl ?_
  refine mv_iconst 5 dL_law_831 (by decide) ?_
  refine mv_iadd dL_law_832 ?_
  refine mv_xload (j := 0) (by decide) dL_law_833 hs (fun hs => ?_)
  refine mv_aload_n dL_law_834 rfl ?_
  refine mv_iload_n dL_law_835 rfl ?_
  refine mv_bipush 6 dL_law_836 (by decide) ?_
  refine mv_iadd dL_law_838 ?_
  refine mv_xload (j := 0) (by decide) dL_law_839 hs (fun hs => ?_)
  refine mv_lV (st := []) dL_law_840 kk_L_90 (TX9_cheaper_0 G 0 _ _ _ _ _ _ _ _ (mv_sat_bind hs)) so_0 vc_9 rfl rfl (Nat.le_of_ble_eq_true rfl) (by decide) rfl (by decide) (mv_kI2 fun r602 hs => ?_)
  refine mv_aload_n dL_law_843 rfl ?_
  refine mv_aload_n dL_law_844 rfl ?_
  refine mv_iload_n dL_law_845 rfl ?_
  refine mv_iconst 1 dL_law_846 (by decide) ?_
  refine mv_iadd dL_law_847 ?_
  refine mv_xload (j := 0) (by decide) dL_law_848 hs (fun hs => ?_)
  refine mv_aload_n dL_law_849 rfl ?_
  refine mv_iload_n dL_law_850 rfl ?_
  refine mv_iconst 2 dL_law_851 (by decide) ?_
  refine mv_iadd dL_law_852 ?_
  refine mv_xload (j := 0) (by decide) dL_law_853 hs (fun hs => ?_)
  refine mv_aload_n dL_law_854 rfl ?_
  refine mv_iload_n dL_law_855 rfl ?_
  refine mv_iconst 3 dL_law_856 (by decide) ?_
  refine mv_iadd dL_law_857 ?_
  refine mv_xload (j := 0) (by decide) dL_law_858 hs (fun hs => ?_)
  refine mv_aload_n dL_law_859 rfl ?_
  refine mv_iload_n dL_law_860 rfl ?_
  refine mv_iconst 4 dL_law_861 (by decide) ?_
  refine mv_iadd dL_law_862 ?_
  refine mv_xload (j := 0) (by decide) dL_law_863 hs (fun hs => ?_)
  refine mv_aload_n dL_law_864 rfl ?_
  refine mv_iload_n dL_law_865 rfl ?_
  refine mv_iconst 5 dL_law_866 (by decide) ?_
  refine mv_iadd dL_law_867 ?_
  refine mv_xload (j := 0) (by decide) dL_law_868 hs (fun hs => ?_)
  refine mv_aload_n dL_law_869 rfl ?_
  refine mv_iload_n dL_law_870 rfl ?_
  refine mv_bipush 6 dL_law_871 (by decide) ?_
  refine mv_iadd dL_law_873 ?_
  refine mv_xload (j := 0) (by decide) dL_law_874 hs (fun hs => ?_)
  refine mv_lV (st := [.int r602.1]) dL_law_875 kk_L_94 (TX10_cheaper_55 G 0 _ _ _ _ _ _ _ _ (mv_sat_bind hs)) so_55 vc_10 rfl rfl (Nat.le_of_ble_eq_true rfl) (by decide) rfl (by decide) (mv_kI2 fun r614 hs => ?_)
  refine mv_icmp_eq dL_law_878 hs (fun _ hs => ?_) (fun _ hs => ?_)
  · exact (BL_law_900_b1543 G P _ hk18 _ _ hs)
  · refine mv_iconst 0 dL_law_881 (by decide) ?_
    exact (mv_sat_none hs).elim
noncomputable def fL_law_900_b883 (G : mv_G) (k18 : Int32 → mv_H → Option (Unit)) (v3 : Int32) (h : mv_H) : Option (Unit) := if mv_in (v3 + 1) (mv_x G 0).2.1 then (if mv_in (v3 + 2) (mv_x G 0).2.1 then ((fX9_narrow_0 ((mv_x G 0).2.2 (v3 + 1).toNatClampNeg) ((mv_x G 0).2.2 (v3 + 2).toNatClampNeg) h).bind fun r621 => if mv_in (v3 + 1) (mv_x G 0).2.1 then (if mv_in (v3 + 2) (mv_x G 0).2.1 then ((fX10_narrow_55 ((mv_x G 0).2.2 (v3 + 1).toNatClampNeg) ((mv_x G 0).2.2 (v3 + 2).toNatClampNeg) r621.2).bind fun r628 => if r621.1 = r628.1 then fL_law_900_b1543 G k18 v3 r628.2 else none) else none) else none) else none) else none
set_option maxRecDepth 100000 in
set_option maxHeartbeats 4000000 in
theorem BL_law_900_b883 (G : mv_G) (P : Unit → Prop) (k18 : Int32 → mv_H → Option (Unit)) (hk18 : ∀ (v3 : Int32) (h : mv_H), mv_sat (k18 v3 h) P → mv_MW G mL_law room_1 lw_Zf 83 9288 18 [.ref 900, .ref 0, .ref 55, .int v3] [] mv_SH h) (v3 : Int32) (h : mv_H) (hs : mv_sat (fL_law_900_b883 G k18 v3 h) P) : mv_MW G mL_law room_1 lw_Zf 83 9288 883 [.ref 900, .ref 0, .ref 55, .int v3] [] mv_SH h := by
  unfold fL_law_900_b883 at hs
  refine mv_aload_n dL_law_883 rfl ?_
  refine mv_aload_n dL_law_884 rfl ?_
  refine mv_iload_n dL_law_885 rfl ?_
  refine mv_iconst 1 dL_law_886 (by decide) ?_
  refine mv_iadd dL_law_887 ?_
  refine mv_xload (j := 0) (by decide) dL_law_888 hs (fun hs => ?_)
  refine mv_aload_n dL_law_889 rfl ?_
  refine mv_iload_n dL_law_890 rfl ?_
  refine mv_iconst 2 dL_law_891 (by decide) ?_
  refine mv_iadd dL_law_892 ?_
  refine mv_xload (j := 0) (by decide) dL_law_893 hs (fun hs => ?_)
  refine mv_lV (st := []) dL_law_894 kk_L_95 (TX9_narrow_0 G 0 _ _ _ _ (mv_sat_bind hs)) so_0 vc_9 rfl rfl (Nat.le_of_ble_eq_true rfl) (by decide) rfl (by decide) (mv_kI2 fun r621 hs => ?_)
  refine mv_aload_n dL_law_897 rfl ?_
  refine mv_aload_n dL_law_898 rfl ?_
  refine mv_iload_n dL_law_899 rfl ?_
  refine mv_iconst 1 dL_law_900 (by decide) ?_
  refine mv_iadd dL_law_901 ?_
  refine mv_xload (j := 0) (by decide) dL_law_902 hs (fun hs => ?_)
  refine mv_aload_n dL_law_903 rfl ?_
  refine mv_iload_n dL_law_904 rfl ?_
  refine mv_iconst 2 dL_law_905 (by decide) ?_
  refine mv_iadd dL_law_906 ?_
  refine mv_xload (j := 0) (by decide) dL_law_907 hs (fun hs => ?_)
  refine mv_lV (st := [.int r621.1]) dL_law_908 kk_L_98 (TX10_narrow_55 G 0 _ _ _ _ (mv_sat_bind hs)) so_55 vc_10 rfl rfl (Nat.le_of_ble_eq_true rfl) (by decide) rfl (by decide) (mv_kI2 fun r628 hs => ?_)
  refine mv_icmp_eq dL_law_911 hs (fun _ hs => ?_) (fun _ hs => ?_)
  · exact (BL_law_900_b1543 G P _ hk18 _ _ hs)
  · refine mv_iconst 0 dL_law_914 (by decide) ?_
    exact (mv_sat_none hs).elim
noncomputable def fL_law_900_b916 (G : mv_G) (k18 : Int32 → mv_H → Option (Unit)) (v3 : Int32) (h : mv_H) : Option (Unit) := if mv_in (v3 + 1) (mv_x G 0).2.1 then (if mv_in (v3 + 2) (mv_x G 0).2.1 then (if mv_in (v3 + 3) (mv_x G 0).2.1 then ((fX9_pieces_0 ((mv_x G 0).2.2 (v3 + 1).toNatClampNeg) ((mv_x G 0).2.2 (v3 + 2).toNatClampNeg) ((mv_x G 0).2.2 (v3 + 3).toNatClampNeg) h).bind fun r649 => if mv_in (v3 + 1) (mv_x G 0).2.1 then (if mv_in (v3 + 2) (mv_x G 0).2.1 then (if mv_in (v3 + 3) (mv_x G 0).2.1 then ((fX10_pieces_55 ((mv_x G 0).2.2 (v3 + 1).toNatClampNeg) ((mv_x G 0).2.2 (v3 + 2).toNatClampNeg) ((mv_x G 0).2.2 (v3 + 3).toNatClampNeg) r649.2).bind fun r661 => if r649.1 = r661.1 then fL_law_900_b1543 G k18 v3 r661.2 else none) else none) else none) else none) else none) else none) else none
set_option maxRecDepth 100000 in
set_option maxHeartbeats 4000000 in
theorem BL_law_900_b916 (G : mv_G) (P : Unit → Prop) (k18 : Int32 → mv_H → Option (Unit)) (hk18 : ∀ (v3 : Int32) (h : mv_H), mv_sat (k18 v3 h) P → mv_MW G mL_law room_1 lw_Zf 83 9288 18 [.ref 900, .ref 0, .ref 55, .int v3] [] mv_SH h) (v3 : Int32) (h : mv_H) (hs : mv_sat (fL_law_900_b916 G k18 v3 h) P) : mv_MW G mL_law room_1 lw_Zf 83 9288 916 [.ref 900, .ref 0, .ref 55, .int v3] [] mv_SH h := by
  unfold fL_law_900_b916 at hs
  refine mv_aload_n dL_law_916 rfl ?_
  refine mv_aload_n dL_law_917 rfl ?_
  refine mv_iload_n dL_law_918 rfl ?_
  refine mv_iconst 1 dL_law_919 (by decide) ?_
  refine mv_iadd dL_law_920 ?_
  refine mv_xload (j := 0) (by decide) dL_law_921 hs (fun hs => ?_)
  refine mv_aload_n dL_law_922 rfl ?_
  refine mv_iload_n dL_law_923 rfl ?_
  refine mv_iconst 2 dL_law_924 (by decide) ?_
  refine mv_iadd dL_law_925 ?_
  refine mv_xload (j := 0) (by decide) dL_law_926 hs (fun hs => ?_)
  refine mv_aload_n dL_law_927 rfl ?_
  refine mv_iload_n dL_law_928 rfl ?_
  refine mv_iconst 3 dL_law_929 (by decide) ?_
  refine mv_iadd dL_law_930 ?_
  refine mv_xload (j := 0) (by decide) dL_law_931 hs (fun hs => ?_)
  refine mv_lV (st := []) dL_law_932 kk_L_99 (TX9_pieces_0 G 0 _ _ _ _ _ (mv_sat_bind hs)) so_0 vc_9 rfl rfl (Nat.le_of_ble_eq_true rfl) (by decide) rfl (by decide) (mv_kI2 fun r649 hs => ?_)
  refine mv_aload_n dL_law_935 rfl ?_
  refine mv_aload_n dL_law_936 rfl ?_
  refine mv_iload_n dL_law_937 rfl ?_
  refine mv_iconst 1 dL_law_938 (by decide) ?_
  refine mv_iadd dL_law_939 ?_
  refine mv_xload (j := 0) (by decide) dL_law_940 hs (fun hs => ?_)
  refine mv_aload_n dL_law_941 rfl ?_
  refine mv_iload_n dL_law_942 rfl ?_
  refine mv_iconst 2 dL_law_943 (by decide) ?_
  refine mv_iadd dL_law_944 ?_
  refine mv_xload (j := 0) (by decide) dL_law_945 hs (fun hs => ?_)
  refine mv_aload_n dL_law_946 rfl ?_
  refine mv_iload_n dL_law_947 rfl ?_
  refine mv_iconst 3 dL_law_948 (by decide) ?_
  refine mv_iadd dL_law_949 ?_
  refine mv_xload (j := 0) (by decide) dL_law_950 hs (fun hs => ?_)
  refine mv_lV (st := [.int r649.1]) dL_law_951 kk_L_102 (TX10_pieces_55 G 0 _ _ _ _ _ (mv_sat_bind hs)) so_55 vc_10 rfl rfl (Nat.le_of_ble_eq_true rfl) (by decide) rfl (by decide) (mv_kI2 fun r661 hs => ?_)
  refine mv_icmp_eq dL_law_954 hs (fun _ hs => ?_) (fun _ hs => ?_)
  · exact (BL_law_900_b1543 G P _ hk18 _ _ hs)
  · refine mv_iconst 0 dL_law_957 (by decide) ?_
    exact (mv_sat_none hs).elim
noncomputable def fL_law_900_b959 (G : mv_G) (k18 : Int32 → mv_H → Option (Unit)) (v3 : Int32) (h : mv_H) : Option (Unit) := if mv_in (v3 + 1) (mv_x G 0).2.1 then (if mv_in (v3 + 2) (mv_x G 0).2.1 then ((fX9_cut_0 ((mv_x G 0).2.2 (v3 + 1).toNatClampNeg) ((mv_x G 0).2.2 (v3 + 2).toNatClampNeg) h).bind fun r712 => if mv_in (v3 + 1) (mv_x G 0).2.1 then (if mv_in (v3 + 2) (mv_x G 0).2.1 then ((fX10_cut_55 ((mv_x G 0).2.2 (v3 + 1).toNatClampNeg) ((mv_x G 0).2.2 (v3 + 2).toNatClampNeg) r712.2).bind fun r747 => if r712.1 = r747.1 then fL_law_900_b1543 G k18 v3 r747.2 else none) else none) else none) else none) else none
set_option maxRecDepth 100000 in
set_option maxHeartbeats 4000000 in
theorem BL_law_900_b959 (G : mv_G) (P : Unit → Prop) (k18 : Int32 → mv_H → Option (Unit)) (hk18 : ∀ (v3 : Int32) (h : mv_H), mv_sat (k18 v3 h) P → mv_MW G mL_law room_1 lw_Zf 83 9288 18 [.ref 900, .ref 0, .ref 55, .int v3] [] mv_SH h) (v3 : Int32) (h : mv_H) (hs : mv_sat (fL_law_900_b959 G k18 v3 h) P) : mv_MW G mL_law room_1 lw_Zf 83 9288 959 [.ref 900, .ref 0, .ref 55, .int v3] [] mv_SH h := by
  unfold fL_law_900_b959 at hs
  refine mv_aload_n dL_law_959 rfl ?_
  refine mv_aload_n dL_law_960 rfl ?_
  refine mv_iload_n dL_law_961 rfl ?_
  refine mv_iconst 1 dL_law_962 (by decide) ?_
  refine mv_iadd dL_law_963 ?_
  refine mv_xload (j := 0) (by decide) dL_law_964 hs (fun hs => ?_)
  refine mv_aload_n dL_law_965 rfl ?_
  refine mv_iload_n dL_law_966 rfl ?_
  refine mv_iconst 2 dL_law_967 (by decide) ?_
  refine mv_iadd dL_law_968 ?_
  refine mv_xload (j := 0) (by decide) dL_law_969 hs (fun hs => ?_)
  refine mv_lV (st := []) dL_law_970 kk_L_103 (TX9_cut_0 G 0 _ _ _ _ (mv_sat_bind hs)) so_0 vc_9 rfl rfl (Nat.le_of_ble_eq_true rfl) (by decide) rfl (by decide) (mv_kI2 fun r712 hs => ?_)
  refine mv_aload_n dL_law_973 rfl ?_
  refine mv_aload_n dL_law_974 rfl ?_
  refine mv_iload_n dL_law_975 rfl ?_
  refine mv_iconst 1 dL_law_976 (by decide) ?_
  refine mv_iadd dL_law_977 ?_
  refine mv_xload (j := 0) (by decide) dL_law_978 hs (fun hs => ?_)
  refine mv_aload_n dL_law_979 rfl ?_
  refine mv_iload_n dL_law_980 rfl ?_
  refine mv_iconst 2 dL_law_981 (by decide) ?_
  refine mv_iadd dL_law_982 ?_
  refine mv_xload (j := 0) (by decide) dL_law_983 hs (fun hs => ?_)
  refine mv_lV (st := [.int r712.1]) dL_law_984 kk_L_106 (TX10_cut_55 G 0 _ _ _ _ (mv_sat_bind hs)) so_55 vc_10 rfl rfl (Nat.le_of_ble_eq_true rfl) (by decide) rfl (by decide) (mv_kI2 fun r747 hs => ?_)
  refine mv_icmp_eq dL_law_987 hs (fun _ hs => ?_) (fun _ hs => ?_)
  · exact (BL_law_900_b1543 G P _ hk18 _ _ hs)
  · refine mv_iconst 0 dL_law_990 (by decide) ?_
    exact (mv_sat_none hs).elim
noncomputable def fL_law_900_b992 (G : mv_G) (k18 : Int32 → mv_H → Option (Unit)) (v3 : Int32) (h : mv_H) : Option (Unit) := if mv_in (v3 + 1) (mv_x G 0).2.1 then (if mv_in (v3 + 2) (mv_x G 0).2.1 then ((fX9_most_0 ((mv_x G 0).2.2 (v3 + 1).toNatClampNeg) ((mv_x G 0).2.2 (v3 + 2).toNatClampNeg) h).bind fun r758 => if mv_in (v3 + 1) (mv_x G 0).2.1 then (if mv_in (v3 + 2) (mv_x G 0).2.1 then ((fX10_most_55 ((mv_x G 0).2.2 (v3 + 1).toNatClampNeg) ((mv_x G 0).2.2 (v3 + 2).toNatClampNeg) r758.2).bind fun r773 => if r758.1 = r773.1 then fL_law_900_b1543 G k18 v3 r773.2 else none) else none) else none) else none) else none
set_option maxRecDepth 100000 in
set_option maxHeartbeats 4000000 in
theorem BL_law_900_b992 (G : mv_G) (P : Unit → Prop) (k18 : Int32 → mv_H → Option (Unit)) (hk18 : ∀ (v3 : Int32) (h : mv_H), mv_sat (k18 v3 h) P → mv_MW G mL_law room_1 lw_Zf 83 9288 18 [.ref 900, .ref 0, .ref 55, .int v3] [] mv_SH h) (v3 : Int32) (h : mv_H) (hs : mv_sat (fL_law_900_b992 G k18 v3 h) P) : mv_MW G mL_law room_1 lw_Zf 83 9288 992 [.ref 900, .ref 0, .ref 55, .int v3] [] mv_SH h := by
  unfold fL_law_900_b992 at hs
  refine mv_aload_n dL_law_992 rfl ?_
  refine mv_aload_n dL_law_993 rfl ?_
  refine mv_iload_n dL_law_994 rfl ?_
  refine mv_iconst 1 dL_law_995 (by decide) ?_
  refine mv_iadd dL_law_996 ?_
  refine mv_xload (j := 0) (by decide) dL_law_997 hs (fun hs => ?_)
  refine mv_aload_n dL_law_998 rfl ?_
  refine mv_iload_n dL_law_999 rfl ?_
  refine mv_iconst 2 dL_law_1000 (by decide) ?_
  refine mv_iadd dL_law_1001 ?_
  refine mv_xload (j := 0) (by decide) dL_law_1002 hs (fun hs => ?_)
  refine mv_lV (st := []) dL_law_1003 kk_L_107 (TX9_most_0 G 0 _ _ _ _ (mv_sat_bind hs)) so_0 vc_9 rfl rfl (Nat.le_of_ble_eq_true rfl) (by decide) rfl (by decide) (mv_kI2 fun r758 hs => ?_)
  refine mv_aload_n dL_law_1006 rfl ?_
  refine mv_aload_n dL_law_1007 rfl ?_
  refine mv_iload_n dL_law_1008 rfl ?_
  refine mv_iconst 1 dL_law_1009 (by decide) ?_
  refine mv_iadd dL_law_1010 ?_
  refine mv_xload (j := 0) (by decide) dL_law_1011 hs (fun hs => ?_)
  refine mv_aload_n dL_law_1012 rfl ?_
  refine mv_iload_n dL_law_1013 rfl ?_
  refine mv_iconst 2 dL_law_1014 (by decide) ?_
  refine mv_iadd dL_law_1015 ?_
  refine mv_xload (j := 0) (by decide) dL_law_1016 hs (fun hs => ?_)
  refine mv_lV (st := [.int r758.1]) dL_law_1017 kk_L_110 (TX10_most_55 G 0 _ _ _ _ (mv_sat_bind hs)) so_55 vc_10 rfl rfl (Nat.le_of_ble_eq_true rfl) (by decide) rfl (by decide) (mv_kI2 fun r773 hs => ?_)
  refine mv_icmp_eq dL_law_1020 hs (fun _ hs => ?_) (fun _ hs => ?_)
  · exact (BL_law_900_b1543 G P _ hk18 _ _ hs)
  · refine mv_iconst 0 dL_law_1023 (by decide) ?_
    exact (mv_sat_none hs).elim
noncomputable def fL_law_900_b1025 (G : mv_G) (k18 : Int32 → mv_H → Option (Unit)) (v3 : Int32) (h : mv_H) : Option (Unit) := if mv_in (v3 + 1) (mv_x G 0).2.1 then (if mv_in (v3 + 2) (mv_x G 0).2.1 then ((fX9_usedUp_0 ((mv_x G 0).2.2 (v3 + 1).toNatClampNeg) ((mv_x G 0).2.2 (v3 + 2).toNatClampNeg) h).bind fun r802 => if mv_in (v3 + 1) (mv_x G 0).2.1 then (if mv_in (v3 + 2) (mv_x G 0).2.1 then ((fX10_usedUp_55 ((mv_x G 0).2.2 (v3 + 1).toNatClampNeg) ((mv_x G 0).2.2 (v3 + 2).toNatClampNeg) r802.2).bind fun r822 => if r802.1 = r822.1 then fL_law_900_b1543 G k18 v3 r822.2 else none) else none) else none) else none) else none
set_option maxRecDepth 100000 in
set_option maxHeartbeats 4000000 in
theorem BL_law_900_b1025 (G : mv_G) (P : Unit → Prop) (k18 : Int32 → mv_H → Option (Unit)) (hk18 : ∀ (v3 : Int32) (h : mv_H), mv_sat (k18 v3 h) P → mv_MW G mL_law room_1 lw_Zf 83 9288 18 [.ref 900, .ref 0, .ref 55, .int v3] [] mv_SH h) (v3 : Int32) (h : mv_H) (hs : mv_sat (fL_law_900_b1025 G k18 v3 h) P) : mv_MW G mL_law room_1 lw_Zf 83 9288 1025 [.ref 900, .ref 0, .ref 55, .int v3] [] mv_SH h := by
  unfold fL_law_900_b1025 at hs
  refine mv_aload_n dL_law_1025 rfl ?_
  refine mv_aload_n dL_law_1026 rfl ?_
  refine mv_iload_n dL_law_1027 rfl ?_
  refine mv_iconst 1 dL_law_1028 (by decide) ?_
  refine mv_iadd dL_law_1029 ?_
  refine mv_xload (j := 0) (by decide) dL_law_1030 hs (fun hs => ?_)
  refine mv_aload_n dL_law_1031 rfl ?_
  refine mv_iload_n dL_law_1032 rfl ?_
  refine mv_iconst 2 dL_law_1033 (by decide) ?_
  refine mv_iadd dL_law_1034 ?_
  refine mv_xload (j := 0) (by decide) dL_law_1035 hs (fun hs => ?_)
  refine mv_lV (st := []) dL_law_1036 kk_L_111 (TX9_usedUp_0 G 0 _ _ _ _ (mv_sat_bind hs)) so_0 vc_9 rfl rfl (Nat.le_of_ble_eq_true rfl) (by decide) rfl (by decide) (mv_kI2 fun r802 hs => ?_)
  refine mv_aload_n dL_law_1039 rfl ?_
  refine mv_aload_n dL_law_1040 rfl ?_
  refine mv_iload_n dL_law_1041 rfl ?_
  refine mv_iconst 1 dL_law_1042 (by decide) ?_
  refine mv_iadd dL_law_1043 ?_
  refine mv_xload (j := 0) (by decide) dL_law_1044 hs (fun hs => ?_)
  refine mv_aload_n dL_law_1045 rfl ?_
  refine mv_iload_n dL_law_1046 rfl ?_
  refine mv_iconst 2 dL_law_1047 (by decide) ?_
  refine mv_iadd dL_law_1048 ?_
  refine mv_xload (j := 0) (by decide) dL_law_1049 hs (fun hs => ?_)
  refine mv_lV (st := [.int r802.1]) dL_law_1050 kk_L_114 (TX10_usedUp_55 G 0 _ _ _ _ (mv_sat_bind hs)) so_55 vc_10 rfl rfl (Nat.le_of_ble_eq_true rfl) (by decide) rfl (by decide) (mv_kI2 fun r822 hs => ?_)
  refine mv_icmp_eq dL_law_1053 hs (fun _ hs => ?_) (fun _ hs => ?_)
  · exact (BL_law_900_b1543 G P _ hk18 _ _ hs)
  · refine mv_iconst 0 dL_law_1056 (by decide) ?_
    exact (mv_sat_none hs).elim
noncomputable def fL_law_900_b1058 (G : mv_G) (k18 : Int32 → mv_H → Option (Unit)) (v3 : Int32) (h : mv_H) : Option (Unit) := if mv_in (v3 + 1) (mv_x G 0).2.1 then (if mv_in (v3 + 2) (mv_x G 0).2.1 then ((fX9_pleat_0 ((mv_x G 0).2.2 (v3 + 1).toNatClampNeg) ((mv_x G 0).2.2 (v3 + 2).toNatClampNeg) h).bind fun r829 => if mv_in (v3 + 1) (mv_x G 0).2.1 then (if mv_in (v3 + 2) (mv_x G 0).2.1 then ((fX10_pleat_55 ((mv_x G 0).2.2 (v3 + 1).toNatClampNeg) ((mv_x G 0).2.2 (v3 + 2).toNatClampNeg) r829.2).bind fun r835 => if r829.1 = r835.1 then fL_law_900_b1543 G k18 v3 r835.2 else none) else none) else none) else none) else none
set_option maxRecDepth 100000 in
set_option maxHeartbeats 4000000 in
theorem BL_law_900_b1058 (G : mv_G) (P : Unit → Prop) (k18 : Int32 → mv_H → Option (Unit)) (hk18 : ∀ (v3 : Int32) (h : mv_H), mv_sat (k18 v3 h) P → mv_MW G mL_law room_1 lw_Zf 83 9288 18 [.ref 900, .ref 0, .ref 55, .int v3] [] mv_SH h) (v3 : Int32) (h : mv_H) (hs : mv_sat (fL_law_900_b1058 G k18 v3 h) P) : mv_MW G mL_law room_1 lw_Zf 83 9288 1058 [.ref 900, .ref 0, .ref 55, .int v3] [] mv_SH h := by
  unfold fL_law_900_b1058 at hs
  refine mv_aload_n dL_law_1058 rfl ?_
  refine mv_aload_n dL_law_1059 rfl ?_
  refine mv_iload_n dL_law_1060 rfl ?_
  refine mv_iconst 1 dL_law_1061 (by decide) ?_
  refine mv_iadd dL_law_1062 ?_
  refine mv_xload (j := 0) (by decide) dL_law_1063 hs (fun hs => ?_)
  refine mv_aload_n dL_law_1064 rfl ?_
  refine mv_iload_n dL_law_1065 rfl ?_
  refine mv_iconst 2 dL_law_1066 (by decide) ?_
  refine mv_iadd dL_law_1067 ?_
  refine mv_xload (j := 0) (by decide) dL_law_1068 hs (fun hs => ?_)
  refine mv_lV (st := []) dL_law_1069 kk_L_115 (TX9_pleat_0 G 0 _ _ _ _ (mv_sat_bind hs)) so_0 vc_9 rfl rfl (Nat.le_of_ble_eq_true rfl) (by decide) rfl (by decide) (mv_kI2 fun r829 hs => ?_)
  refine mv_aload_n dL_law_1072 rfl ?_
  refine mv_aload_n dL_law_1073 rfl ?_
  refine mv_iload_n dL_law_1074 rfl ?_
  refine mv_iconst 1 dL_law_1075 (by decide) ?_
  refine mv_iadd dL_law_1076 ?_
  refine mv_xload (j := 0) (by decide) dL_law_1077 hs (fun hs => ?_)
  refine mv_aload_n dL_law_1078 rfl ?_
  refine mv_iload_n dL_law_1079 rfl ?_
  refine mv_iconst 2 dL_law_1080 (by decide) ?_
  refine mv_iadd dL_law_1081 ?_
  refine mv_xload (j := 0) (by decide) dL_law_1082 hs (fun hs => ?_)
  refine mv_lV (st := [.int r829.1]) dL_law_1083 kk_L_118 (TX10_pleat_55 G 0 _ _ _ _ (mv_sat_bind hs)) so_55 vc_10 rfl rfl (Nat.le_of_ble_eq_true rfl) (by decide) rfl (by decide) (mv_kI2 fun r835 hs => ?_)
  refine mv_icmp_eq dL_law_1086 hs (fun _ hs => ?_) (fun _ hs => ?_)
  · exact (BL_law_900_b1543 G P _ hk18 _ _ hs)
  · refine mv_iconst 0 dL_law_1089 (by decide) ?_
    exact (mv_sat_none hs).elim
noncomputable def fL_law_900_b1091 (G : mv_G) (k18 : Int32 → mv_H → Option (Unit)) (v3 : Int32) (h : mv_H) : Option (Unit) := if mv_in (v3 + 1) (mv_x G 0).2.1 then ((fX9_match_0 ((mv_x G 0).2.2 (v3 + 1).toNatClampNeg) h).bind fun r841 => if mv_in (v3 + 1) (mv_x G 0).2.1 then ((fX10_match_55 ((mv_x G 0).2.2 (v3 + 1).toNatClampNeg) r841.2).bind fun r846 => if r841.1 = r846.1 then fL_law_900_b1543 G k18 v3 r846.2 else none) else none) else none
set_option maxRecDepth 100000 in
set_option maxHeartbeats 4000000 in
theorem BL_law_900_b1091 (G : mv_G) (P : Unit → Prop) (k18 : Int32 → mv_H → Option (Unit)) (hk18 : ∀ (v3 : Int32) (h : mv_H), mv_sat (k18 v3 h) P → mv_MW G mL_law room_1 lw_Zf 83 9288 18 [.ref 900, .ref 0, .ref 55, .int v3] [] mv_SH h) (v3 : Int32) (h : mv_H) (hs : mv_sat (fL_law_900_b1091 G k18 v3 h) P) : mv_MW G mL_law room_1 lw_Zf 83 9288 1091 [.ref 900, .ref 0, .ref 55, .int v3] [] mv_SH h := by
  unfold fL_law_900_b1091 at hs
  refine mv_aload_n dL_law_1091 rfl ?_
  refine mv_aload_n dL_law_1092 rfl ?_
  refine mv_iload_n dL_law_1093 rfl ?_
  refine mv_iconst 1 dL_law_1094 (by decide) ?_
  refine mv_iadd dL_law_1095 ?_
  refine mv_xload (j := 0) (by decide) dL_law_1096 hs (fun hs => ?_)
  refine mv_lV (st := []) dL_law_1097 kk_L_119 (TX9_match_0 G 0 _ _ _ (mv_sat_bind hs)) so_0 vc_9 rfl rfl (Nat.le_of_ble_eq_true rfl) (by decide) rfl (by decide) (mv_kI2 fun r841 hs => ?_)
  refine mv_aload_n dL_law_1100 rfl ?_
  refine mv_aload_n dL_law_1101 rfl ?_
  refine mv_iload_n dL_law_1102 rfl ?_
  refine mv_iconst 1 dL_law_1103 (by decide) ?_
  refine mv_iadd dL_law_1104 ?_
  refine mv_xload (j := 0) (by decide) dL_law_1105 hs (fun hs => ?_)
  refine mv_lV (st := [.int r841.1]) dL_law_1106 kk_L_122 (TX10_match_55 G 0 _ _ _ (mv_sat_bind hs)) so_55 vc_10 rfl rfl (Nat.le_of_ble_eq_true rfl) (by decide) rfl (by decide) (mv_kI2 fun r846 hs => ?_)
  refine mv_icmp_eq dL_law_1109 hs (fun _ hs => ?_) (fun _ hs => ?_)
  · exact (BL_law_900_b1543 G P _ hk18 _ _ hs)
  · refine mv_iconst 0 dL_law_1112 (by decide) ?_
    exact (mv_sat_none hs).elim
noncomputable def fL_law_900_b1114 (G : mv_G) (k18 : Int32 → mv_H → Option (Unit)) (v3 : Int32) (h : mv_H) : Option (Unit) := if mv_in (v3 + 1) (mv_x G 0).2.1 then (if mv_in (v3 + 2) (mv_x G 0).2.1 then ((fX9_ribbon_0 ((mv_x G 0).2.2 (v3 + 1).toNatClampNeg) ((mv_x G 0).2.2 (v3 + 2).toNatClampNeg) h).bind fun r852 => if mv_in (v3 + 1) (mv_x G 0).2.1 then (if mv_in (v3 + 2) (mv_x G 0).2.1 then ((fX10_ribbon_55 ((mv_x G 0).2.2 (v3 + 1).toNatClampNeg) ((mv_x G 0).2.2 (v3 + 2).toNatClampNeg) r852.2).bind fun r856 => if r852.1 = r856.1 then fL_law_900_b1543 G k18 v3 r856.2 else none) else none) else none) else none) else none
set_option maxRecDepth 100000 in
set_option maxHeartbeats 4000000 in
theorem BL_law_900_b1114 (G : mv_G) (P : Unit → Prop) (k18 : Int32 → mv_H → Option (Unit)) (hk18 : ∀ (v3 : Int32) (h : mv_H), mv_sat (k18 v3 h) P → mv_MW G mL_law room_1 lw_Zf 83 9288 18 [.ref 900, .ref 0, .ref 55, .int v3] [] mv_SH h) (v3 : Int32) (h : mv_H) (hs : mv_sat (fL_law_900_b1114 G k18 v3 h) P) : mv_MW G mL_law room_1 lw_Zf 83 9288 1114 [.ref 900, .ref 0, .ref 55, .int v3] [] mv_SH h := by
  unfold fL_law_900_b1114 at hs
  refine mv_aload_n dL_law_1114 rfl ?_
  refine mv_aload_n dL_law_1115 rfl ?_
  refine mv_iload_n dL_law_1116 rfl ?_
  refine mv_iconst 1 dL_law_1117 (by decide) ?_
  refine mv_iadd dL_law_1118 ?_
  refine mv_xload (j := 0) (by decide) dL_law_1119 hs (fun hs => ?_)
  refine mv_aload_n dL_law_1120 rfl ?_
  refine mv_iload_n dL_law_1121 rfl ?_
  refine mv_iconst 2 dL_law_1122 (by decide) ?_
  refine mv_iadd dL_law_1123 ?_
  refine mv_xload (j := 0) (by decide) dL_law_1124 hs (fun hs => ?_)
  refine mv_lV (st := []) dL_law_1125 kk_L_123 (TX9_ribbon_0 G 0 _ _ _ _ (mv_sat_bind hs)) so_0 vc_9 rfl rfl (Nat.le_of_ble_eq_true rfl) (by decide) rfl (by decide) (mv_kI2 fun r852 hs => ?_)
  refine mv_aload_n dL_law_1128 rfl ?_
  refine mv_aload_n dL_law_1129 rfl ?_
  refine mv_iload_n dL_law_1130 rfl ?_
  refine mv_iconst 1 dL_law_1131 (by decide) ?_
  refine mv_iadd dL_law_1132 ?_
  refine mv_xload (j := 0) (by decide) dL_law_1133 hs (fun hs => ?_)
  refine mv_aload_n dL_law_1134 rfl ?_
  refine mv_iload_n dL_law_1135 rfl ?_
  refine mv_iconst 2 dL_law_1136 (by decide) ?_
  refine mv_iadd dL_law_1137 ?_
  refine mv_xload (j := 0) (by decide) dL_law_1138 hs (fun hs => ?_)
  refine mv_lV (st := [.int r852.1]) dL_law_1139 kk_L_126 (TX10_ribbon_55 G 0 _ _ _ _ (mv_sat_bind hs)) so_55 vc_10 rfl rfl (Nat.le_of_ble_eq_true rfl) (by decide) rfl (by decide) (mv_kI2 fun r856 hs => ?_)
  refine mv_icmp_eq dL_law_1142 hs (fun _ hs => ?_) (fun _ hs => ?_)
  · exact (BL_law_900_b1543 G P _ hk18 _ _ hs)
  · refine mv_iconst 0 dL_law_1145 (by decide) ?_
    exact (mv_sat_none hs).elim
noncomputable def fL_law_900_b1147 (G : mv_G) (k18 : Int32 → mv_H → Option (Unit)) (v3 : Int32) (h : mv_H) : Option (Unit) := if mv_in (v3 + 1) (mv_x G 0).2.1 then (if mv_in (v3 + 2) (mv_x G 0).2.1 then (if mv_in (v3 + 3) (mv_x G 0).2.1 then ((fX9_corners_0 ((mv_x G 0).2.2 (v3 + 1).toNatClampNeg) ((mv_x G 0).2.2 (v3 + 2).toNatClampNeg) ((mv_x G 0).2.2 (v3 + 3).toNatClampNeg) h).bind fun r870 => if mv_in (v3 + 1) (mv_x G 0).2.1 then (if mv_in (v3 + 2) (mv_x G 0).2.1 then (if mv_in (v3 + 3) (mv_x G 0).2.1 then ((fX10_corners_55 ((mv_x G 0).2.2 (v3 + 1).toNatClampNeg) ((mv_x G 0).2.2 (v3 + 2).toNatClampNeg) ((mv_x G 0).2.2 (v3 + 3).toNatClampNeg) r870.2).bind fun r880 => if r870.1 = r880.1 then fL_law_900_b1543 G k18 v3 r880.2 else none) else none) else none) else none) else none) else none) else none
set_option maxRecDepth 100000 in
set_option maxHeartbeats 4000000 in
theorem BL_law_900_b1147 (G : mv_G) (P : Unit → Prop) (k18 : Int32 → mv_H → Option (Unit)) (hk18 : ∀ (v3 : Int32) (h : mv_H), mv_sat (k18 v3 h) P → mv_MW G mL_law room_1 lw_Zf 83 9288 18 [.ref 900, .ref 0, .ref 55, .int v3] [] mv_SH h) (v3 : Int32) (h : mv_H) (hs : mv_sat (fL_law_900_b1147 G k18 v3 h) P) : mv_MW G mL_law room_1 lw_Zf 83 9288 1147 [.ref 900, .ref 0, .ref 55, .int v3] [] mv_SH h := by
  unfold fL_law_900_b1147 at hs
  refine mv_aload_n dL_law_1147 rfl ?_
  refine mv_aload_n dL_law_1148 rfl ?_
  refine mv_iload_n dL_law_1149 rfl ?_
  refine mv_iconst 1 dL_law_1150 (by decide) ?_
  refine mv_iadd dL_law_1151 ?_
  refine mv_xload (j := 0) (by decide) dL_law_1152 hs (fun hs => ?_)
  refine mv_aload_n dL_law_1153 rfl ?_
  refine mv_iload_n dL_law_1154 rfl ?_
  refine mv_iconst 2 dL_law_1155 (by decide) ?_
  refine mv_iadd dL_law_1156 ?_
  refine mv_xload (j := 0) (by decide) dL_law_1157 hs (fun hs => ?_)
  refine mv_aload_n dL_law_1158 rfl ?_
  refine mv_iload_n dL_law_1159 rfl ?_
  refine mv_iconst 3 dL_law_1160 (by decide) ?_
  refine mv_iadd dL_law_1161 ?_
  refine mv_xload (j := 0) (by decide) dL_law_1162 hs (fun hs => ?_)
  refine mv_lV (st := []) dL_law_1163 kk_L_127 (TX9_corners_0 G 0 _ _ _ _ _ (mv_sat_bind hs)) so_0 vc_9 rfl rfl (Nat.le_of_ble_eq_true rfl) (by decide) rfl (by decide) (mv_kI2 fun r870 hs => ?_)
  refine mv_aload_n dL_law_1166 rfl ?_
  refine mv_aload_n dL_law_1167 rfl ?_
  refine mv_iload_n dL_law_1168 rfl ?_
  refine mv_iconst 1 dL_law_1169 (by decide) ?_
  refine mv_iadd dL_law_1170 ?_
  refine mv_xload (j := 0) (by decide) dL_law_1171 hs (fun hs => ?_)
  refine mv_aload_n dL_law_1172 rfl ?_
  refine mv_iload_n dL_law_1173 rfl ?_
  refine mv_iconst 2 dL_law_1174 (by decide) ?_
  refine mv_iadd dL_law_1175 ?_
  refine mv_xload (j := 0) (by decide) dL_law_1176 hs (fun hs => ?_)
  refine mv_aload_n dL_law_1177 rfl ?_
  refine mv_iload_n dL_law_1178 rfl ?_
  refine mv_iconst 3 dL_law_1179 (by decide) ?_
  refine mv_iadd dL_law_1180 ?_
  refine mv_xload (j := 0) (by decide) dL_law_1181 hs (fun hs => ?_)
  refine mv_lV (st := [.int r870.1]) dL_law_1182 kk_L_130 (TX10_corners_55 G 0 _ _ _ _ _ (mv_sat_bind hs)) so_55 vc_10 rfl rfl (Nat.le_of_ble_eq_true rfl) (by decide) rfl (by decide) (mv_kI2 fun r880 hs => ?_)
  refine mv_icmp_eq dL_law_1185 hs (fun _ hs => ?_) (fun _ hs => ?_)
  · exact (BL_law_900_b1543 G P _ hk18 _ _ hs)
  · refine mv_iconst 0 dL_law_1188 (by decide) ?_
    exact (mv_sat_none hs).elim
noncomputable def fL_law_900_b1190 (G : mv_G) (k18 : Int32 → mv_H → Option (Unit)) (v3 : Int32) (h : mv_H) : Option (Unit) := if mv_in (v3 + 1) (mv_x G 0).2.1 then (if mv_in (v3 + 2) (mv_x G 0).2.1 then ((fX9_fits_0 ((mv_x G 0).2.2 (v3 + 1).toNatClampNeg) ((mv_x G 0).2.2 (v3 + 2).toNatClampNeg) h).bind fun r914 => if mv_in (v3 + 1) (mv_x G 0).2.1 then (if mv_in (v3 + 2) (mv_x G 0).2.1 then ((fX10_fits_55 ((mv_x G 0).2.2 (v3 + 1).toNatClampNeg) ((mv_x G 0).2.2 (v3 + 2).toNatClampNeg) h).bind fun r923 => if r914 = r923.1 then fL_law_900_b1543 G k18 v3 r923.2 else none) else none) else none) else none) else none
set_option maxRecDepth 100000 in
set_option maxHeartbeats 4000000 in
theorem BL_law_900_b1190 (G : mv_G) (P : Unit → Prop) (k18 : Int32 → mv_H → Option (Unit)) (hk18 : ∀ (v3 : Int32) (h : mv_H), mv_sat (k18 v3 h) P → mv_MW G mL_law room_1 lw_Zf 83 9288 18 [.ref 900, .ref 0, .ref 55, .int v3] [] mv_SH h) (v3 : Int32) (h : mv_H) (hs : mv_sat (fL_law_900_b1190 G k18 v3 h) P) : mv_MW G mL_law room_1 lw_Zf 83 9288 1190 [.ref 900, .ref 0, .ref 55, .int v3] [] mv_SH h := by
  unfold fL_law_900_b1190 at hs
  refine mv_aload_n dL_law_1190 rfl ?_
  refine mv_aload_n dL_law_1191 rfl ?_
  refine mv_iload_n dL_law_1192 rfl ?_
  refine mv_iconst 1 dL_law_1193 (by decide) ?_
  refine mv_iadd dL_law_1194 ?_
  refine mv_xload (j := 0) (by decide) dL_law_1195 hs (fun hs => ?_)
  refine mv_aload_n dL_law_1196 rfl ?_
  refine mv_iload_n dL_law_1197 rfl ?_
  refine mv_iconst 2 dL_law_1198 (by decide) ?_
  refine mv_iadd dL_law_1199 ?_
  refine mv_xload (j := 0) (by decide) dL_law_1200 hs (fun hs => ?_)
  refine mv_lV (st := []) dL_law_1201 kk_L_131 (TX9_fits_0 G 0 _ _ _ _ (mv_sat_bind hs)) so_0 vc_9 rfl rfl (Nat.le_of_ble_eq_true rfl) (by decide) rfl (by decide) (mv_ki fun r914 hs => ?_)
  refine mv_aload_n dL_law_1204 rfl ?_
  refine mv_aload_n dL_law_1205 rfl ?_
  refine mv_iload_n dL_law_1206 rfl ?_
  refine mv_iconst 1 dL_law_1207 (by decide) ?_
  refine mv_iadd dL_law_1208 ?_
  refine mv_xload (j := 0) (by decide) dL_law_1209 hs (fun hs => ?_)
  refine mv_aload_n dL_law_1210 rfl ?_
  refine mv_iload_n dL_law_1211 rfl ?_
  refine mv_iconst 2 dL_law_1212 (by decide) ?_
  refine mv_iadd dL_law_1213 ?_
  refine mv_xload (j := 0) (by decide) dL_law_1214 hs (fun hs => ?_)
  refine mv_lV (st := [.int r914]) dL_law_1215 kk_L_134 (TX10_fits_55 G 0 _ _ _ _ (mv_sat_bind hs)) so_55 vc_10 rfl rfl (Nat.le_of_ble_eq_true rfl) (by decide) rfl (by decide) (mv_kI2 fun r923 hs => ?_)
  refine mv_icmp_eq dL_law_1218 hs (fun _ hs => ?_) (fun _ hs => ?_)
  · exact (BL_law_900_b1543 G P _ hk18 _ _ hs)
  · refine mv_iconst 0 dL_law_1221 (by decide) ?_
    exact (mv_sat_none hs).elim
noncomputable def fL_law_900_b1223 (G : mv_G) (k18 : Int32 → mv_H → Option (Unit)) (v3 : Int32) (h : mv_H) : Option (Unit) := if mv_in (v3 + 1) (mv_x G 0).2.1 then ((fX9_tight_0 ((mv_x G 0).2.2 (v3 + 1).toNatClampNeg) h).bind fun r933 => if mv_in (v3 + 1) (mv_x G 0).2.1 then ((fX10_tight_55 ((mv_x G 0).2.2 (v3 + 1).toNatClampNeg) r933.2).bind fun r942 => if r933.1 = r942.1 then fL_law_900_b1543 G k18 v3 r942.2 else none) else none) else none
set_option maxRecDepth 100000 in
set_option maxHeartbeats 4000000 in
theorem BL_law_900_b1223 (G : mv_G) (P : Unit → Prop) (k18 : Int32 → mv_H → Option (Unit)) (hk18 : ∀ (v3 : Int32) (h : mv_H), mv_sat (k18 v3 h) P → mv_MW G mL_law room_1 lw_Zf 83 9288 18 [.ref 900, .ref 0, .ref 55, .int v3] [] mv_SH h) (v3 : Int32) (h : mv_H) (hs : mv_sat (fL_law_900_b1223 G k18 v3 h) P) : mv_MW G mL_law room_1 lw_Zf 83 9288 1223 [.ref 900, .ref 0, .ref 55, .int v3] [] mv_SH h := by
  unfold fL_law_900_b1223 at hs
  refine mv_aload_n dL_law_1223 rfl ?_
  refine mv_aload_n dL_law_1224 rfl ?_
  refine mv_iload_n dL_law_1225 rfl ?_
  refine mv_iconst 1 dL_law_1226 (by decide) ?_
  refine mv_iadd dL_law_1227 ?_
  refine mv_xload (j := 0) (by decide) dL_law_1228 hs (fun hs => ?_)
  refine mv_lV (st := []) dL_law_1229 kk_L_135 (TX9_tight_0 G 0 _ _ _ (mv_sat_bind hs)) so_0 vc_9 rfl rfl (Nat.le_of_ble_eq_true rfl) (by decide) rfl (by decide) (mv_kI2 fun r933 hs => ?_)
  refine mv_aload_n dL_law_1232 rfl ?_
  refine mv_aload_n dL_law_1233 rfl ?_
  refine mv_iload_n dL_law_1234 rfl ?_
  refine mv_iconst 1 dL_law_1235 (by decide) ?_
  refine mv_iadd dL_law_1236 ?_
  refine mv_xload (j := 0) (by decide) dL_law_1237 hs (fun hs => ?_)
  refine mv_lV (st := [.int r933.1]) dL_law_1238 kk_L_138 (TX10_tight_55 G 0 _ _ _ (mv_sat_bind hs)) so_55 vc_10 rfl rfl (Nat.le_of_ble_eq_true rfl) (by decide) rfl (by decide) (mv_kI2 fun r942 hs => ?_)
  refine mv_icmp_eq dL_law_1241 hs (fun _ hs => ?_) (fun _ hs => ?_)
  · exact (BL_law_900_b1543 G P _ hk18 _ _ hs)
  · refine mv_iconst 0 dL_law_1244 (by decide) ?_
    exact (mv_sat_none hs).elim
noncomputable def fL_law_900_b1246 (G : mv_G) (k18 : Int32 → mv_H → Option (Unit)) (v3 : Int32) (h : mv_H) : Option (Unit) := if mv_in (v3 + 1) (mv_x G 0).2.1 then (if mv_in (v3 + 2) (mv_x G 0).2.1 then ((fX9_paired_0 ((mv_x G 0).2.2 (v3 + 1).toNatClampNeg) ((mv_x G 0).2.2 (v3 + 2).toNatClampNeg) h).bind fun r974 => if mv_in (v3 + 1) (mv_x G 0).2.1 then (if mv_in (v3 + 2) (mv_x G 0).2.1 then ((fX10_paired_55 ((mv_x G 0).2.2 (v3 + 1).toNatClampNeg) ((mv_x G 0).2.2 (v3 + 2).toNatClampNeg) r974.2).bind fun r993 => if r974.1 = r993.1 then fL_law_900_b1543 G k18 v3 r993.2 else none) else none) else none) else none) else none
set_option maxRecDepth 100000 in
set_option maxHeartbeats 4000000 in
theorem BL_law_900_b1246 (G : mv_G) (P : Unit → Prop) (k18 : Int32 → mv_H → Option (Unit)) (hk18 : ∀ (v3 : Int32) (h : mv_H), mv_sat (k18 v3 h) P → mv_MW G mL_law room_1 lw_Zf 83 9288 18 [.ref 900, .ref 0, .ref 55, .int v3] [] mv_SH h) (v3 : Int32) (h : mv_H) (hs : mv_sat (fL_law_900_b1246 G k18 v3 h) P) : mv_MW G mL_law room_1 lw_Zf 83 9288 1246 [.ref 900, .ref 0, .ref 55, .int v3] [] mv_SH h := by
  unfold fL_law_900_b1246 at hs
  refine mv_aload_n dL_law_1246 rfl ?_
  refine mv_aload_n dL_law_1247 rfl ?_
  refine mv_iload_n dL_law_1248 rfl ?_
  refine mv_iconst 1 dL_law_1249 (by decide) ?_
  refine mv_iadd dL_law_1250 ?_
  refine mv_xload (j := 0) (by decide) dL_law_1251 hs (fun hs => ?_)
  refine mv_aload_n dL_law_1252 rfl ?_
  refine mv_iload_n dL_law_1253 rfl ?_
  refine mv_iconst 2 dL_law_1254 (by decide) ?_
  refine mv_iadd dL_law_1255 ?_
  refine mv_xload (j := 0) (by decide) dL_law_1256 hs (fun hs => ?_)
  refine mv_lV (st := []) dL_law_1257 kk_L_139 (TX9_paired_0 G 0 _ _ _ _ (mv_sat_bind hs)) so_0 vc_9 rfl rfl (Nat.le_of_ble_eq_true rfl) (by decide) rfl (by decide) (mv_kI2 fun r974 hs => ?_)
  refine mv_aload_n dL_law_1260 rfl ?_
  refine mv_aload_n dL_law_1261 rfl ?_
  refine mv_iload_n dL_law_1262 rfl ?_
  refine mv_iconst 1 dL_law_1263 (by decide) ?_
  refine mv_iadd dL_law_1264 ?_
  refine mv_xload (j := 0) (by decide) dL_law_1265 hs (fun hs => ?_)
  refine mv_aload_n dL_law_1266 rfl ?_
  refine mv_iload_n dL_law_1267 rfl ?_
  refine mv_iconst 2 dL_law_1268 (by decide) ?_
  refine mv_iadd dL_law_1269 ?_
  refine mv_xload (j := 0) (by decide) dL_law_1270 hs (fun hs => ?_)
  refine mv_lV (st := [.int r974.1]) dL_law_1271 kk_L_142 (TX10_paired_55 G 0 _ _ _ _ (mv_sat_bind hs)) so_55 vc_10 rfl rfl (Nat.le_of_ble_eq_true rfl) (by decide) rfl (by decide) (mv_kI2 fun r993 hs => ?_)
  refine mv_icmp_eq dL_law_1274 hs (fun _ hs => ?_) (fun _ hs => ?_)
  · exact (BL_law_900_b1543 G P _ hk18 _ _ hs)
  · refine mv_iconst 0 dL_law_1277 (by decide) ?_
    exact (mv_sat_none hs).elim
noncomputable def fL_law_900_b1279 (G : mv_G) (k18 : Int32 → mv_H → Option (Unit)) (v3 : Int32) (h : mv_H) : Option (Unit) := if mv_in (v3 + 1) (mv_x G 0).2.1 then (if mv_in (v3 + 2) (mv_x G 0).2.1 then ((fX9_mark_0 ((mv_x G 0).2.2 (v3 + 1).toNatClampNeg) ((mv_x G 0).2.2 (v3 + 2).toNatClampNeg) h).bind fun r1008 => if mv_in (v3 + 1) (mv_x G 0).2.1 then (if mv_in (v3 + 2) (mv_x G 0).2.1 then ((fX10_mark_55 ((mv_x G 0).2.2 (v3 + 1).toNatClampNeg) ((mv_x G 0).2.2 (v3 + 2).toNatClampNeg) r1008.2).bind fun r1015 => if r1008.1 = r1015.1 then fL_law_900_b1543 G k18 v3 r1015.2 else none) else none) else none) else none) else none
set_option maxRecDepth 100000 in
set_option maxHeartbeats 4000000 in
theorem BL_law_900_b1279 (G : mv_G) (P : Unit → Prop) (k18 : Int32 → mv_H → Option (Unit)) (hk18 : ∀ (v3 : Int32) (h : mv_H), mv_sat (k18 v3 h) P → mv_MW G mL_law room_1 lw_Zf 83 9288 18 [.ref 900, .ref 0, .ref 55, .int v3] [] mv_SH h) (v3 : Int32) (h : mv_H) (hs : mv_sat (fL_law_900_b1279 G k18 v3 h) P) : mv_MW G mL_law room_1 lw_Zf 83 9288 1279 [.ref 900, .ref 0, .ref 55, .int v3] [] mv_SH h := by
  unfold fL_law_900_b1279 at hs
  refine mv_aload_n dL_law_1279 rfl ?_
  refine mv_aload_n dL_law_1280 rfl ?_
  refine mv_iload_n dL_law_1281 rfl ?_
  refine mv_iconst 1 dL_law_1282 (by decide) ?_
  refine mv_iadd dL_law_1283 ?_
  refine mv_xload (j := 0) (by decide) dL_law_1284 hs (fun hs => ?_)
  refine mv_aload_n dL_law_1285 rfl ?_
  refine mv_iload_n dL_law_1286 rfl ?_
  refine mv_iconst 2 dL_law_1287 (by decide) ?_
  refine mv_iadd dL_law_1288 ?_
  refine mv_xload (j := 0) (by decide) dL_law_1289 hs (fun hs => ?_)
  refine mv_lV (st := []) dL_law_1290 kk_L_143 (TX9_mark_0 G 0 _ _ _ _ (mv_sat_bind hs)) so_0 vc_9 rfl rfl (Nat.le_of_ble_eq_true rfl) (by decide) rfl (by decide) (mv_kI2 fun r1008 hs => ?_)
  refine mv_aload_n dL_law_1293 rfl ?_
  refine mv_aload_n dL_law_1294 rfl ?_
  refine mv_iload_n dL_law_1295 rfl ?_
  refine mv_iconst 1 dL_law_1296 (by decide) ?_
  refine mv_iadd dL_law_1297 ?_
  refine mv_xload (j := 0) (by decide) dL_law_1298 hs (fun hs => ?_)
  refine mv_aload_n dL_law_1299 rfl ?_
  refine mv_iload_n dL_law_1300 rfl ?_
  refine mv_iconst 2 dL_law_1301 (by decide) ?_
  refine mv_iadd dL_law_1302 ?_
  refine mv_xload (j := 0) (by decide) dL_law_1303 hs (fun hs => ?_)
  refine mv_lV (st := [.int r1008.1]) dL_law_1304 kk_L_146 (TX10_mark_55 G 0 _ _ _ _ (mv_sat_bind hs)) so_55 vc_10 rfl rfl (Nat.le_of_ble_eq_true rfl) (by decide) rfl (by decide) (mv_kI2 fun r1015 hs => ?_)
  refine mv_icmp_eq dL_law_1307 hs (fun _ hs => ?_) (fun _ hs => ?_)
  · exact (BL_law_900_b1543 G P _ hk18 _ _ hs)
  · refine mv_iconst 0 dL_law_1310 (by decide) ?_
    exact (mv_sat_none hs).elim
noncomputable def fL_law_900_b1312 (G : mv_G) (k18 : Int32 → mv_H → Option (Unit)) (v3 : Int32) (h : mv_H) : Option (Unit) := if mv_in (v3 + 1) (mv_x G 0).2.1 then ((fX9_iron_0 ((mv_x G 0).2.2 (v3 + 1).toNatClampNeg) h).bind fun r1024 => if mv_in (v3 + 1) (mv_x G 0).2.1 then ((fX10_iron_55 ((mv_x G 0).2.2 (v3 + 1).toNatClampNeg) r1024.2).bind fun r1028 => if r1024.1 = r1028.1 then fL_law_900_b1543 G k18 v3 r1028.2 else none) else none) else none
set_option maxRecDepth 100000 in
set_option maxHeartbeats 4000000 in
theorem BL_law_900_b1312 (G : mv_G) (P : Unit → Prop) (k18 : Int32 → mv_H → Option (Unit)) (hk18 : ∀ (v3 : Int32) (h : mv_H), mv_sat (k18 v3 h) P → mv_MW G mL_law room_1 lw_Zf 83 9288 18 [.ref 900, .ref 0, .ref 55, .int v3] [] mv_SH h) (v3 : Int32) (h : mv_H) (hs : mv_sat (fL_law_900_b1312 G k18 v3 h) P) : mv_MW G mL_law room_1 lw_Zf 83 9288 1312 [.ref 900, .ref 0, .ref 55, .int v3] [] mv_SH h := by
  unfold fL_law_900_b1312 at hs
  refine mv_aload_n dL_law_1312 rfl ?_
  refine mv_aload_n dL_law_1313 rfl ?_
  refine mv_iload_n dL_law_1314 rfl ?_
  refine mv_iconst 1 dL_law_1315 (by decide) ?_
  refine mv_iadd dL_law_1316 ?_
  refine mv_xload (j := 0) (by decide) dL_law_1317 hs (fun hs => ?_)
  refine mv_lV (st := []) dL_law_1318 kk_L_147 (TX9_iron_0 G 0 _ _ _ (mv_sat_bind hs)) so_0 vc_9 rfl rfl (Nat.le_of_ble_eq_true rfl) (by decide) rfl (by decide) (mv_kI2 fun r1024 hs => ?_)
  refine mv_aload_n dL_law_1321 rfl ?_
  refine mv_aload_n dL_law_1322 rfl ?_
  refine mv_iload_n dL_law_1323 rfl ?_
  refine mv_iconst 1 dL_law_1324 (by decide) ?_
  refine mv_iadd dL_law_1325 ?_
  refine mv_xload (j := 0) (by decide) dL_law_1326 hs (fun hs => ?_)
  refine mv_lV (st := [.int r1024.1]) dL_law_1327 kk_L_150 (TX10_iron_55 G 0 _ _ _ (mv_sat_bind hs)) so_55 vc_10 rfl rfl (Nat.le_of_ble_eq_true rfl) (by decide) rfl (by decide) (mv_kI2 fun r1028 hs => ?_)
  refine mv_icmp_eq dL_law_1330 hs (fun _ hs => ?_) (fun _ hs => ?_)
  · exact (BL_law_900_b1543 G P _ hk18 _ _ hs)
  · refine mv_iconst 0 dL_law_1333 (by decide) ?_
    exact (mv_sat_none hs).elim
noncomputable def fL_law_900_b1335 (G : mv_G) (k18 : Int32 → mv_H → Option (Unit)) (v3 : Int32) (h : mv_H) : Option (Unit) := if mv_in (v3 + 1) (mv_x G 0).2.1 then (if mv_in (v3 + 2) (mv_x G 0).2.1 then (if mv_in (v3 + 3) (mv_x G 0).2.1 then (if mv_in (v3 + 4) (mv_x G 0).2.1 then ((fX9_hidden_0 ((mv_x G 0).2.2 (v3 + 1).toNatClampNeg) ((mv_x G 0).2.2 (v3 + 2).toNatClampNeg) ((mv_x G 0).2.2 (v3 + 3).toNatClampNeg) ((mv_x G 0).2.2 (v3 + 4).toNatClampNeg) h).bind fun r1041 => if mv_in (v3 + 1) (mv_x G 0).2.1 then (if mv_in (v3 + 2) (mv_x G 0).2.1 then (if mv_in (v3 + 3) (mv_x G 0).2.1 then (if mv_in (v3 + 4) (mv_x G 0).2.1 then ((fX10_hidden_55 ((mv_x G 0).2.2 (v3 + 1).toNatClampNeg) ((mv_x G 0).2.2 (v3 + 2).toNatClampNeg) ((mv_x G 0).2.2 (v3 + 3).toNatClampNeg) ((mv_x G 0).2.2 (v3 + 4).toNatClampNeg) r1041.2).bind fun r1049 => if r1041.1 = r1049.1 then fL_law_900_b1543 G k18 v3 r1049.2 else none) else none) else none) else none) else none) else none) else none) else none) else none
set_option maxRecDepth 100000 in
set_option maxHeartbeats 4000000 in
theorem BL_law_900_b1335 (G : mv_G) (P : Unit → Prop) (k18 : Int32 → mv_H → Option (Unit)) (hk18 : ∀ (v3 : Int32) (h : mv_H), mv_sat (k18 v3 h) P → mv_MW G mL_law room_1 lw_Zf 83 9288 18 [.ref 900, .ref 0, .ref 55, .int v3] [] mv_SH h) (v3 : Int32) (h : mv_H) (hs : mv_sat (fL_law_900_b1335 G k18 v3 h) P) : mv_MW G mL_law room_1 lw_Zf 83 9288 1335 [.ref 900, .ref 0, .ref 55, .int v3] [] mv_SH h := by
  unfold fL_law_900_b1335 at hs
  refine mv_aload_n dL_law_1335 rfl ?_
  refine mv_aload_n dL_law_1336 rfl ?_
  refine mv_iload_n dL_law_1337 rfl ?_
  refine mv_iconst 1 dL_law_1338 (by decide) ?_
  refine mv_iadd dL_law_1339 ?_
  refine mv_xload (j := 0) (by decide) dL_law_1340 hs (fun hs => ?_)
  refine mv_aload_n dL_law_1341 rfl ?_
  refine mv_iload_n dL_law_1342 rfl ?_
  refine mv_iconst 2 dL_law_1343 (by decide) ?_
  refine mv_iadd dL_law_1344 ?_
  refine mv_xload (j := 0) (by decide) dL_law_1345 hs (fun hs => ?_)
  refine mv_aload_n dL_law_1346 rfl ?_
  refine mv_iload_n dL_law_1347 rfl ?_
  refine mv_iconst 3 dL_law_1348 (by decide) ?_
  refine mv_iadd dL_law_1349 ?_
  refine mv_xload (j := 0) (by decide) dL_law_1350 hs (fun hs => ?_)
  refine mv_aload_n dL_law_1351 rfl ?_
  refine mv_iload_n dL_law_1352 rfl ?_
  refine mv_iconst 4 dL_law_1353 (by decide) ?_
  refine mv_iadd dL_law_1354 ?_
  refine mv_xload (j := 0) (by decide) dL_law_1355 hs (fun hs => ?_)
  refine mv_lV (st := []) dL_law_1356 kk_L_151 (TX9_hidden_0 G 0 _ _ _ _ _ _ (mv_sat_bind hs)) so_0 vc_9 rfl rfl (Nat.le_of_ble_eq_true rfl) (by decide) rfl (by decide) (mv_kI2 fun r1041 hs => ?_)
  refine mv_aload_n dL_law_1359 rfl ?_
  refine mv_aload_n dL_law_1360 rfl ?_
  refine mv_iload_n dL_law_1361 rfl ?_
  refine mv_iconst 1 dL_law_1362 (by decide) ?_
  refine mv_iadd dL_law_1363 ?_
  refine mv_xload (j := 0) (by decide) dL_law_1364 hs (fun hs => ?_)
  refine mv_aload_n dL_law_1365 rfl ?_
  refine mv_iload_n dL_law_1366 rfl ?_
  refine mv_iconst 2 dL_law_1367 (by decide) ?_
  refine mv_iadd dL_law_1368 ?_
  refine mv_xload (j := 0) (by decide) dL_law_1369 hs (fun hs => ?_)
  refine mv_aload_n dL_law_1370 rfl ?_
  refine mv_iload_n dL_law_1371 rfl ?_
  refine mv_iconst 3 dL_law_1372 (by decide) ?_
  refine mv_iadd dL_law_1373 ?_
  refine mv_xload (j := 0) (by decide) dL_law_1374 hs (fun hs => ?_)
  refine mv_aload_n dL_law_1375 rfl ?_
  refine mv_iload_n dL_law_1376 rfl ?_
  refine mv_iconst 4 dL_law_1377 (by decide) ?_
  refine mv_iadd dL_law_1378 ?_
  refine mv_xload (j := 0) (by decide) dL_law_1379 hs (fun hs => ?_)
  refine mv_lV (st := [.int r1041.1]) dL_law_1380 kk_L_154 (TX10_hidden_55 G 0 _ _ _ _ _ _ (mv_sat_bind hs)) so_55 vc_10 rfl rfl (Nat.le_of_ble_eq_true rfl) (by decide) rfl (by decide) (mv_kI2 fun r1049 hs => ?_)
  refine mv_icmp_eq dL_law_1383 hs (fun _ hs => ?_) (fun _ hs => ?_)
  · exact (BL_law_900_b1543 G P _ hk18 _ _ hs)
  · refine mv_iconst 0 dL_law_1386 (by decide) ?_
    exact (mv_sat_none hs).elim
noncomputable def fL_law_900_b1388 (G : mv_G) (k18 : Int32 → mv_H → Option (Unit)) (v3 : Int32) (h : mv_H) : Option (Unit) := if mv_in (v3 + 1) (mv_x G 0).2.1 then (if mv_in (v3 + 2) (mv_x G 0).2.1 then ((fX9_undone_0 ((mv_x G 0).2.2 (v3 + 1).toNatClampNeg) ((mv_x G 0).2.2 (v3 + 2).toNatClampNeg) h).bind fun r1055 => if mv_in (v3 + 1) (mv_x G 0).2.1 then (if mv_in (v3 + 2) (mv_x G 0).2.1 then ((fX10_undone_55 ((mv_x G 0).2.2 (v3 + 1).toNatClampNeg) ((mv_x G 0).2.2 (v3 + 2).toNatClampNeg) h).bind fun r1061 => if r1055 = r1061 then fL_law_900_b1543 G k18 v3 h else none) else none) else none) else none) else none
set_option maxRecDepth 100000 in
set_option maxHeartbeats 4000000 in
theorem BL_law_900_b1388 (G : mv_G) (P : Unit → Prop) (k18 : Int32 → mv_H → Option (Unit)) (hk18 : ∀ (v3 : Int32) (h : mv_H), mv_sat (k18 v3 h) P → mv_MW G mL_law room_1 lw_Zf 83 9288 18 [.ref 900, .ref 0, .ref 55, .int v3] [] mv_SH h) (v3 : Int32) (h : mv_H) (hs : mv_sat (fL_law_900_b1388 G k18 v3 h) P) : mv_MW G mL_law room_1 lw_Zf 83 9288 1388 [.ref 900, .ref 0, .ref 55, .int v3] [] mv_SH h := by
  unfold fL_law_900_b1388 at hs
  refine mv_aload_n dL_law_1388 rfl ?_
  refine mv_aload_n dL_law_1389 rfl ?_
  refine mv_iload_n dL_law_1390 rfl ?_
  refine mv_iconst 1 dL_law_1391 (by decide) ?_
  refine mv_iadd dL_law_1392 ?_
  refine mv_xload (j := 0) (by decide) dL_law_1393 hs (fun hs => ?_)
  refine mv_aload_n dL_law_1394 rfl ?_
  refine mv_iload_n dL_law_1395 rfl ?_
  refine mv_iconst 2 dL_law_1396 (by decide) ?_
  refine mv_iadd dL_law_1397 ?_
  refine mv_xload (j := 0) (by decide) dL_law_1398 hs (fun hs => ?_)
  refine mv_lV (st := []) dL_law_1399 kk_L_155 (TX9_undone_0 G 0 _ _ _ _ (mv_sat_bind hs)) so_0 vc_9 rfl rfl (Nat.le_of_ble_eq_true rfl) (by decide) rfl (by decide) (mv_ki fun r1055 hs => ?_)
  refine mv_aload_n dL_law_1402 rfl ?_
  refine mv_aload_n dL_law_1403 rfl ?_
  refine mv_iload_n dL_law_1404 rfl ?_
  refine mv_iconst 1 dL_law_1405 (by decide) ?_
  refine mv_iadd dL_law_1406 ?_
  refine mv_xload (j := 0) (by decide) dL_law_1407 hs (fun hs => ?_)
  refine mv_aload_n dL_law_1408 rfl ?_
  refine mv_iload_n dL_law_1409 rfl ?_
  refine mv_iconst 2 dL_law_1410 (by decide) ?_
  refine mv_iadd dL_law_1411 ?_
  refine mv_xload (j := 0) (by decide) dL_law_1412 hs (fun hs => ?_)
  refine mv_lV (st := [.int r1055]) dL_law_1413 kk_L_158 (TX10_undone_55 G 0 _ _ _ _ (mv_sat_bind hs)) so_55 vc_10 rfl rfl (Nat.le_of_ble_eq_true rfl) (by decide) rfl (by decide) (mv_ki fun r1061 hs => ?_)
  refine mv_icmp_eq dL_law_1416 hs (fun _ hs => ?_) (fun _ hs => ?_)
  · exact (BL_law_900_b1543 G P _ hk18 _ _ hs)
  · refine mv_iconst 0 dL_law_1419 (by decide) ?_
    exact (mv_sat_none hs).elim
noncomputable def fL_law_900_b1421 (G : mv_G) (k18 : Int32 → mv_H → Option (Unit)) (v3 : Int32) (h : mv_H) : Option (Unit) := if mv_in (v3 + 1) (mv_x G 0).2.1 then (if mv_in (v3 + 2) (mv_x G 0).2.1 then (if mv_in (v3 + 3) (mv_x G 0).2.1 then (if mv_in (v3 + 4) (mv_x G 0).2.1 then ((fX9_year_0 ((mv_x G 0).2.2 (v3 + 1).toNatClampNeg) ((mv_x G 0).2.2 (v3 + 2).toNatClampNeg) ((mv_x G 0).2.2 (v3 + 3).toNatClampNeg) ((mv_x G 0).2.2 (v3 + 4).toNatClampNeg) h).bind fun r1077 => if mv_in (v3 + 1) (mv_x G 0).2.1 then (if mv_in (v3 + 2) (mv_x G 0).2.1 then (if mv_in (v3 + 3) (mv_x G 0).2.1 then (if mv_in (v3 + 4) (mv_x G 0).2.1 then ((fX10_year_55 ((mv_x G 0).2.2 (v3 + 1).toNatClampNeg) ((mv_x G 0).2.2 (v3 + 2).toNatClampNeg) ((mv_x G 0).2.2 (v3 + 3).toNatClampNeg) ((mv_x G 0).2.2 (v3 + 4).toNatClampNeg) r1077.2).bind fun r1091 => if r1077.1 = r1091.1 then fL_law_900_b1543 G k18 v3 r1091.2 else none) else none) else none) else none) else none) else none) else none) else none) else none
set_option maxRecDepth 100000 in
set_option maxHeartbeats 4000000 in
theorem BL_law_900_b1421 (G : mv_G) (P : Unit → Prop) (k18 : Int32 → mv_H → Option (Unit)) (hk18 : ∀ (v3 : Int32) (h : mv_H), mv_sat (k18 v3 h) P → mv_MW G mL_law room_1 lw_Zf 83 9288 18 [.ref 900, .ref 0, .ref 55, .int v3] [] mv_SH h) (v3 : Int32) (h : mv_H) (hs : mv_sat (fL_law_900_b1421 G k18 v3 h) P) : mv_MW G mL_law room_1 lw_Zf 83 9288 1421 [.ref 900, .ref 0, .ref 55, .int v3] [] mv_SH h := by
  unfold fL_law_900_b1421 at hs
  refine mv_aload_n dL_law_1421 rfl ?_
  refine mv_aload_n dL_law_1422 rfl ?_
  refine mv_iload_n dL_law_1423 rfl ?_
  refine mv_iconst 1 dL_law_1424 (by decide) ?_
  refine mv_iadd dL_law_1425 ?_
  refine mv_xload (j := 0) (by decide) dL_law_1426 hs (fun hs => ?_)
  refine mv_aload_n dL_law_1427 rfl ?_
  refine mv_iload_n dL_law_1428 rfl ?_
  refine mv_iconst 2 dL_law_1429 (by decide) ?_
  refine mv_iadd dL_law_1430 ?_
  refine mv_xload (j := 0) (by decide) dL_law_1431 hs (fun hs => ?_)
  refine mv_aload_n dL_law_1432 rfl ?_
  refine mv_iload_n dL_law_1433 rfl ?_
  refine mv_iconst 3 dL_law_1434 (by decide) ?_
  refine mv_iadd dL_law_1435 ?_
  refine mv_xload (j := 0) (by decide) dL_law_1436 hs (fun hs => ?_)
  refine mv_aload_n dL_law_1437 rfl ?_
  refine mv_iload_n dL_law_1438 rfl ?_
  refine mv_iconst 4 dL_law_1439 (by decide) ?_
  refine mv_iadd dL_law_1440 ?_
  refine mv_xload (j := 0) (by decide) dL_law_1441 hs (fun hs => ?_)
  refine mv_lV (st := []) dL_law_1442 kk_L_159 (TX9_year_0 G 0 _ _ _ _ _ _ (mv_sat_bind hs)) so_0 vc_9 rfl rfl (Nat.le_of_ble_eq_true rfl) (by decide) rfl (by decide) (mv_kI2 fun r1077 hs => ?_)
  refine mv_aload_n dL_law_1445 rfl ?_
  refine mv_aload_n dL_law_1446 rfl ?_
  refine mv_iload_n dL_law_1447 rfl ?_
  refine mv_iconst 1 dL_law_1448 (by decide) ?_
  refine mv_iadd dL_law_1449 ?_
  refine mv_xload (j := 0) (by decide) dL_law_1450 hs (fun hs => ?_)
  refine mv_aload_n dL_law_1451 rfl ?_
  refine mv_iload_n dL_law_1452 rfl ?_
  refine mv_iconst 2 dL_law_1453 (by decide) ?_
  refine mv_iadd dL_law_1454 ?_
  refine mv_xload (j := 0) (by decide) dL_law_1455 hs (fun hs => ?_)
  refine mv_aload_n dL_law_1456 rfl ?_
  refine mv_iload_n dL_law_1457 rfl ?_
  refine mv_iconst 3 dL_law_1458 (by decide) ?_
  refine mv_iadd dL_law_1459 ?_
  refine mv_xload (j := 0) (by decide) dL_law_1460 hs (fun hs => ?_)
  refine mv_aload_n dL_law_1461 rfl ?_
  refine mv_iload_n dL_law_1462 rfl ?_
  refine mv_iconst 4 dL_law_1463 (by decide) ?_
  refine mv_iadd dL_law_1464 ?_
  refine mv_xload (j := 0) (by decide) dL_law_1465 hs (fun hs => ?_)
  refine mv_lV (st := [.int r1077.1]) dL_law_1466 kk_L_162 (TX10_year_55 G 0 _ _ _ _ _ _ (mv_sat_bind hs)) so_55 vc_10 rfl rfl (Nat.le_of_ble_eq_true rfl) (by decide) rfl (by decide) (mv_kI2 fun r1091 hs => ?_)
  refine mv_icmp_eq dL_law_1469 hs (fun _ hs => ?_) (fun _ hs => ?_)
  · exact (BL_law_900_b1543 G P _ hk18 _ _ hs)
  · refine mv_iconst 0 dL_law_1472 (by decide) ?_
    exact (mv_sat_none hs).elim
noncomputable def fL_law_900_b1474 (G : mv_G) (k18 : Int32 → mv_H → Option (Unit)) (v3 : Int32) (h : mv_H) : Option (Unit) := if mv_in (v3 + 1) (mv_x G 0).2.1 then ((fX9_image_0 ((mv_x G 0).2.2 (v3 + 1).toNatClampNeg) h).bind fun r1136 => if mv_in (v3 + 1) (mv_x G 0).2.1 then ((fX10_image_55 ((mv_x G 0).2.2 (v3 + 1).toNatClampNeg) r1136.2).bind fun r1174 => if r1136.1 = r1174.1 then fL_law_900_b1543 G k18 v3 r1174.2 else none) else none) else none
set_option maxRecDepth 100000 in
set_option maxHeartbeats 4000000 in
theorem BL_law_900_b1474 (G : mv_G) (P : Unit → Prop) (k18 : Int32 → mv_H → Option (Unit)) (hk18 : ∀ (v3 : Int32) (h : mv_H), mv_sat (k18 v3 h) P → mv_MW G mL_law room_1 lw_Zf 83 9288 18 [.ref 900, .ref 0, .ref 55, .int v3] [] mv_SH h) (v3 : Int32) (h : mv_H) (hs : mv_sat (fL_law_900_b1474 G k18 v3 h) P) : mv_MW G mL_law room_1 lw_Zf 83 9288 1474 [.ref 900, .ref 0, .ref 55, .int v3] [] mv_SH h := by
  unfold fL_law_900_b1474 at hs
  refine mv_aload_n dL_law_1474 rfl ?_
  refine mv_aload_n dL_law_1475 rfl ?_
  refine mv_iload_n dL_law_1476 rfl ?_
  refine mv_iconst 1 dL_law_1477 (by decide) ?_
  refine mv_iadd dL_law_1478 ?_
  refine mv_xload (j := 0) (by decide) dL_law_1479 hs (fun hs => ?_)
  refine mv_lV (st := []) dL_law_1480 kk_L_163 (TX9_image_0 G 0 _ _ _ (mv_sat_bind hs)) so_0 vc_9 rfl rfl (Nat.le_of_ble_eq_true rfl) (by decide) rfl (by decide) (mv_kI2 fun r1136 hs => ?_)
  refine mv_aload_n dL_law_1483 rfl ?_
  refine mv_aload_n dL_law_1484 rfl ?_
  refine mv_iload_n dL_law_1485 rfl ?_
  refine mv_iconst 1 dL_law_1486 (by decide) ?_
  refine mv_iadd dL_law_1487 ?_
  refine mv_xload (j := 0) (by decide) dL_law_1488 hs (fun hs => ?_)
  refine mv_lV (st := [.int r1136.1]) dL_law_1489 kk_L_166 (TX10_image_55 G 0 _ _ _ (mv_sat_bind hs)) so_55 vc_10 rfl rfl (Nat.le_of_ble_eq_true rfl) (by decide) rfl (by decide) (mv_kI2 fun r1174 hs => ?_)
  refine mv_icmp_eq dL_law_1492 hs (fun _ hs => ?_) (fun _ hs => ?_)
  · exact (BL_law_900_b1543 G P _ hk18 _ _ hs)
  · refine mv_iconst 0 dL_law_1495 (by decide) ?_
    exact (mv_sat_none hs).elim
noncomputable def fL_law_900_b1497 (G : mv_G) (k18 : Int32 → mv_H → Option (Unit)) (v3 : Int32) (h : mv_H) : Option (Unit) := if mv_in (v3 + 1) (mv_x G 0).2.1 then ((fX9_restore_0 ((mv_x G 0).2.2 (v3 + 1).toNatClampNeg) h).bind fun r1218 => if mv_in (v3 + 1) (mv_x G 0).2.1 then ((fX10_restore_55 ((mv_x G 0).2.2 (v3 + 1).toNatClampNeg) r1218.2).bind fun r1223 => if r1218.1 = r1223.1 then fL_law_900_b1543 G k18 v3 r1223.2 else none) else none) else none
set_option maxRecDepth 100000 in
set_option maxHeartbeats 4000000 in
theorem BL_law_900_b1497 (G : mv_G) (P : Unit → Prop) (k18 : Int32 → mv_H → Option (Unit)) (hk18 : ∀ (v3 : Int32) (h : mv_H), mv_sat (k18 v3 h) P → mv_MW G mL_law room_1 lw_Zf 83 9288 18 [.ref 900, .ref 0, .ref 55, .int v3] [] mv_SH h) (v3 : Int32) (h : mv_H) (hs : mv_sat (fL_law_900_b1497 G k18 v3 h) P) : mv_MW G mL_law room_1 lw_Zf 83 9288 1497 [.ref 900, .ref 0, .ref 55, .int v3] [] mv_SH h := by
  unfold fL_law_900_b1497 at hs
  refine mv_aload_n dL_law_1497 rfl ?_
  refine mv_aload_n dL_law_1498 rfl ?_
  refine mv_iload_n dL_law_1499 rfl ?_
  refine mv_iconst 1 dL_law_1500 (by decide) ?_
  refine mv_iadd dL_law_1501 ?_
  refine mv_xload (j := 0) (by decide) dL_law_1502 hs (fun hs => ?_)
  refine mv_lV (st := []) dL_law_1503 kk_L_167 (TX9_restore_0 G 0 _ _ _ (mv_sat_bind hs)) so_0 vc_9 rfl rfl (Nat.le_of_ble_eq_true rfl) (by decide) rfl (by decide) (mv_kI2 fun r1218 hs => ?_)
  refine mv_aload_n dL_law_1506 rfl ?_
  refine mv_aload_n dL_law_1507 rfl ?_
  refine mv_iload_n dL_law_1508 rfl ?_
  refine mv_iconst 1 dL_law_1509 (by decide) ?_
  refine mv_iadd dL_law_1510 ?_
  refine mv_xload (j := 0) (by decide) dL_law_1511 hs (fun hs => ?_)
  refine mv_lV (st := [.int r1218.1]) dL_law_1512 kk_L_170 (TX10_restore_55 G 0 _ _ _ (mv_sat_bind hs)) so_55 vc_10 rfl rfl (Nat.le_of_ble_eq_true rfl) (by decide) rfl (by decide) (mv_kI2 fun r1223 hs => ?_)
  refine mv_icmp_eq dL_law_1515 hs (fun _ hs => ?_) (fun _ hs => ?_)
  · exact (BL_law_900_b1543 G P _ hk18 _ _ hs)
  · refine mv_iconst 0 dL_law_1518 (by decide) ?_
    exact (mv_sat_none hs).elim
noncomputable def fL_law_900_b1520 (G : mv_G) (k18 : Int32 → mv_H → Option (Unit)) (v3 : Int32) (h : mv_H) : Option (Unit) := if mv_in (v3 + 1) (mv_x G 0).2.1 then ((fX9_told_0 ((mv_x G 0).2.2 (v3 + 1).toNatClampNeg) h).bind fun r1248 => if mv_in (v3 + 1) (mv_x G 0).2.1 then ((fX10_told_55 ((mv_x G 0).2.2 (v3 + 1).toNatClampNeg) h).bind fun r1257 => if r1248 = r1257 then fL_law_900_b1543 G k18 v3 h else none) else none) else none
set_option maxRecDepth 100000 in
set_option maxHeartbeats 4000000 in
theorem BL_law_900_b1520 (G : mv_G) (P : Unit → Prop) (k18 : Int32 → mv_H → Option (Unit)) (hk18 : ∀ (v3 : Int32) (h : mv_H), mv_sat (k18 v3 h) P → mv_MW G mL_law room_1 lw_Zf 83 9288 18 [.ref 900, .ref 0, .ref 55, .int v3] [] mv_SH h) (v3 : Int32) (h : mv_H) (hs : mv_sat (fL_law_900_b1520 G k18 v3 h) P) : mv_MW G mL_law room_1 lw_Zf 83 9288 1520 [.ref 900, .ref 0, .ref 55, .int v3] [] mv_SH h := by
  unfold fL_law_900_b1520 at hs
  refine mv_aload_n dL_law_1520 rfl ?_
  refine mv_aload_n dL_law_1521 rfl ?_
  refine mv_iload_n dL_law_1522 rfl ?_
  refine mv_iconst 1 dL_law_1523 (by decide) ?_
  refine mv_iadd dL_law_1524 ?_
  refine mv_xload (j := 0) (by decide) dL_law_1525 hs (fun hs => ?_)
  refine mv_lV (st := []) dL_law_1526 kk_L_171 (TX9_told_0 G 0 _ _ _ (mv_sat_bind hs)) so_0 vc_9 rfl rfl (Nat.le_of_ble_eq_true rfl) (by decide) rfl (by decide) (mv_ki fun r1248 hs => ?_)
  refine mv_aload_n dL_law_1529 rfl ?_
  refine mv_aload_n dL_law_1530 rfl ?_
  refine mv_iload_n dL_law_1531 rfl ?_
  refine mv_iconst 1 dL_law_1532 (by decide) ?_
  refine mv_iadd dL_law_1533 ?_
  refine mv_xload (j := 0) (by decide) dL_law_1534 hs (fun hs => ?_)
  refine mv_lV (st := [.int r1248]) dL_law_1535 kk_L_174 (TX10_told_55 G 0 _ _ _ (mv_sat_bind hs)) so_55 vc_10 rfl rfl (Nat.le_of_ble_eq_true rfl) (by decide) rfl (by decide) (mv_ki fun r1257 hs => ?_)
  refine mv_icmp_eq dL_law_1538 hs (fun _ hs => ?_) (fun _ hs => ?_)
  · exact (BL_law_900_b1543 G P _ hk18 _ _ hs)
  · refine mv_iconst 0 dL_law_1541 (by decide) ?_
    exact (mv_sat_none hs).elim
noncomputable def fL_law_900_b18 (G : mv_G) : Nat → Int32 → mv_H → Option (Unit)
  | 0, _, _ => none
  | n + 1, v3, h => if ((Int32.ofNat (mv_x G 0).2.1) - 7) < v3 then some () else if mv_in v3 (mv_x G 0).2.1 then (if (((mv_x G 0).2.2 v3.toNatClampNeg) &&& 63) = 0 then (fL_law_900_b204 G (fL_law_900_b18 G n) v3 h) else if (((mv_x G 0).2.2 v3.toNatClampNeg) &&& 63) = 1 then (fL_law_900_b257 G (fL_law_900_b18 G n) v3 h) else if (((mv_x G 0).2.2 v3.toNatClampNeg) &&& 63) = 2 then (fL_law_900_b310 G (fL_law_900_b18 G n) v3 h) else if (((mv_x G 0).2.2 v3.toNatClampNeg) &&& 63) = 3 then (fL_law_900_b353 G (fL_law_900_b18 G n) v3 h) else if (((mv_x G 0).2.2 v3.toNatClampNeg) &&& 63) = 4 then (fL_law_900_b386 G (fL_law_900_b18 G n) v3 h) else if (((mv_x G 0).2.2 v3.toNatClampNeg) &&& 63) = 5 then (fL_law_900_b419 G (fL_law_900_b18 G n) v3 h) else if (((mv_x G 0).2.2 v3.toNatClampNeg) &&& 63) = 6 then (fL_law_900_b442 G (fL_law_900_b18 G n) v3 h) else if (((mv_x G 0).2.2 v3.toNatClampNeg) &&& 63) = 7 then (fL_law_900_b455 G (fL_law_900_b18 G n) v3 h) else if (((mv_x G 0).2.2 v3.toNatClampNeg) &&& 63) = 8 then (fL_law_900_b468 G (fL_law_900_b18 G n) v3 h) else if (((mv_x G 0).2.2 v3.toNatClampNeg) &&& 63) = 9 then (fL_law_900_b481 G (fL_law_900_b18 G n) v3 h) else if (((mv_x G 0).2.2 v3.toNatClampNeg) &&& 63) = 10 then (fL_law_900_b524 G (fL_law_900_b18 G n) v3 h) else if (((mv_x G 0).2.2 v3.toNatClampNeg) &&& 63) = 11 then (fL_law_900_b557 G (fL_law_900_b18 G n) v3 h) else if (((mv_x G 0).2.2 v3.toNatClampNeg) &&& 63) = 12 then (fL_law_900_b600 G (fL_law_900_b18 G n) v3 h) else if (((mv_x G 0).2.2 v3.toNatClampNeg) &&& 63) = 13 then (fL_law_900_b623 G (fL_law_900_b18 G n) v3 h) else if (((mv_x G 0).2.2 v3.toNatClampNeg) &&& 63) = 14 then (fL_law_900_b676 G (fL_law_900_b18 G n) v3 h) else if (((mv_x G 0).2.2 v3.toNatClampNeg) &&& 63) = 15 then (fL_law_900_b709 G (fL_law_900_b18 G n) v3 h) else if (((mv_x G 0).2.2 v3.toNatClampNeg) &&& 63) = 16 then (fL_law_900_b742 G (fL_law_900_b18 G n) v3 h) else if (((mv_x G 0).2.2 v3.toNatClampNeg) &&& 63) = 17 then (fL_law_900_b765 G (fL_law_900_b18 G n) v3 h) else if (((mv_x G 0).2.2 v3.toNatClampNeg) &&& 63) = 18 then (fL_law_900_b808 G (fL_law_900_b18 G n) v3 h) else if (((mv_x G 0).2.2 v3.toNatClampNeg) &&& 63) = 19 then (fL_law_900_b883 G (fL_law_900_b18 G n) v3 h) else if (((mv_x G 0).2.2 v3.toNatClampNeg) &&& 63) = 20 then (fL_law_900_b916 G (fL_law_900_b18 G n) v3 h) else if (((mv_x G 0).2.2 v3.toNatClampNeg) &&& 63) = 21 then (fL_law_900_b959 G (fL_law_900_b18 G n) v3 h) else if (((mv_x G 0).2.2 v3.toNatClampNeg) &&& 63) = 22 then (fL_law_900_b992 G (fL_law_900_b18 G n) v3 h) else if (((mv_x G 0).2.2 v3.toNatClampNeg) &&& 63) = 23 then (fL_law_900_b1025 G (fL_law_900_b18 G n) v3 h) else if (((mv_x G 0).2.2 v3.toNatClampNeg) &&& 63) = 24 then (fL_law_900_b1058 G (fL_law_900_b18 G n) v3 h) else if (((mv_x G 0).2.2 v3.toNatClampNeg) &&& 63) = 25 then (fL_law_900_b1091 G (fL_law_900_b18 G n) v3 h) else if (((mv_x G 0).2.2 v3.toNatClampNeg) &&& 63) = 26 then (fL_law_900_b1114 G (fL_law_900_b18 G n) v3 h) else if (((mv_x G 0).2.2 v3.toNatClampNeg) &&& 63) = 27 then (fL_law_900_b1147 G (fL_law_900_b18 G n) v3 h) else if (((mv_x G 0).2.2 v3.toNatClampNeg) &&& 63) = 28 then (fL_law_900_b1190 G (fL_law_900_b18 G n) v3 h) else if (((mv_x G 0).2.2 v3.toNatClampNeg) &&& 63) = 29 then (fL_law_900_b1223 G (fL_law_900_b18 G n) v3 h) else if (((mv_x G 0).2.2 v3.toNatClampNeg) &&& 63) = 30 then (fL_law_900_b1246 G (fL_law_900_b18 G n) v3 h) else if (((mv_x G 0).2.2 v3.toNatClampNeg) &&& 63) = 31 then (fL_law_900_b1279 G (fL_law_900_b18 G n) v3 h) else if (((mv_x G 0).2.2 v3.toNatClampNeg) &&& 63) = 32 then (fL_law_900_b1312 G (fL_law_900_b18 G n) v3 h) else if (((mv_x G 0).2.2 v3.toNatClampNeg) &&& 63) = 33 then (fL_law_900_b1335 G (fL_law_900_b18 G n) v3 h) else if (((mv_x G 0).2.2 v3.toNatClampNeg) &&& 63) = 34 then (fL_law_900_b1388 G (fL_law_900_b18 G n) v3 h) else if (((mv_x G 0).2.2 v3.toNatClampNeg) &&& 63) = 35 then (fL_law_900_b1421 G (fL_law_900_b18 G n) v3 h) else if (((mv_x G 0).2.2 v3.toNatClampNeg) &&& 63) = 36 then (fL_law_900_b1474 G (fL_law_900_b18 G n) v3 h) else if (((mv_x G 0).2.2 v3.toNatClampNeg) &&& 63) = 37 then (fL_law_900_b1497 G (fL_law_900_b18 G n) v3 h) else if (((mv_x G 0).2.2 v3.toNatClampNeg) &&& 63) = 38 then (fL_law_900_b1520 G (fL_law_900_b18 G n) v3 h) else fL_law_900_b1543 G (fL_law_900_b18 G n) v3 h) else none
set_option maxRecDepth 100000 in
set_option maxHeartbeats 4000000 in
theorem BL_law_900_b18 (G : mv_G) (P : Unit → Prop) : ∀ (n : Nat) (v3 : Int32) (h : mv_H), mv_sat (fL_law_900_b18 G n v3 h) P → mv_MW G mL_law room_1 lw_Zf 83 9288 18 [.ref 900, .ref 0, .ref 55, .int v3] [] mv_SH h := by
  intro n
  induction n with
  | zero =>
    intro v3 h hs
    unfold fL_law_900_b18 at hs
    exact (mv_sat_none hs).elim
  | succ n ih =>
    intro v3 h hs
    unfold fL_law_900_b18 at hs
    refine mv_iload_n dL_law_18 rfl ?_
    refine mv_aload_n dL_law_19 rfl ?_
    refine mv_xlen (j := 0) (by decide) dL_law_20 ?_
    refine mv_bipush 7 dL_law_21 (by decide) ?_
    refine mv_isub dL_law_23 ?_
    refine mv_icmp_gt dL_law_24 hs (fun _ hs => ?_) (fun _ hs => ?_)
    · refine mv_iconst 1 dL_law_1549 (by decide) ?_
      exact lw_fin dL_law_1550 (by decide) (by decide)
    · refine mv_aload_n dL_law_27 rfl ?_
      refine mv_iload_n dL_law_28 rfl ?_
      refine mv_xload (j := 0) (by decide) dL_law_29 hs (fun hs => ?_)
      refine mv_bipush 63 dL_law_30 (by decide) ?_
      refine mv_iand dL_law_32 ?_
      refine mv_case hs (fun e hs => ?_) (fun n0 hs => ?_)
      · refine mv_tsw (off := 171) 0 e dL_law_33 (by decide) (tgt := 204) (by decide) ?_
        exact (BL_law_900_b204 G P _ ih _ _ hs)
      refine mv_case hs (fun e hs => ?_) (fun n1 hs => ?_)
      · refine mv_tsw (off := 224) 1 e dL_law_33 (by decide) (tgt := 257) (by decide) ?_
        exact (BL_law_900_b257 G P _ ih _ _ hs)
      refine mv_case hs (fun e hs => ?_) (fun n2 hs => ?_)
      · refine mv_tsw (off := 277) 2 e dL_law_33 (by decide) (tgt := 310) (by decide) ?_
        exact (BL_law_900_b310 G P _ ih _ _ hs)
      refine mv_case hs (fun e hs => ?_) (fun n3 hs => ?_)
      · refine mv_tsw (off := 320) 3 e dL_law_33 (by decide) (tgt := 353) (by decide) ?_
        exact (BL_law_900_b353 G P _ ih _ _ hs)
      refine mv_case hs (fun e hs => ?_) (fun n4 hs => ?_)
      · refine mv_tsw (off := 353) 4 e dL_law_33 (by decide) (tgt := 386) (by decide) ?_
        exact (BL_law_900_b386 G P _ ih _ _ hs)
      refine mv_case hs (fun e hs => ?_) (fun n5 hs => ?_)
      · refine mv_tsw (off := 386) 5 e dL_law_33 (by decide) (tgt := 419) (by decide) ?_
        exact (BL_law_900_b419 G P _ ih _ _ hs)
      refine mv_case hs (fun e hs => ?_) (fun n6 hs => ?_)
      · refine mv_tsw (off := 409) 6 e dL_law_33 (by decide) (tgt := 442) (by decide) ?_
        exact (BL_law_900_b442 G P _ ih _ _ hs)
      refine mv_case hs (fun e hs => ?_) (fun n7 hs => ?_)
      · refine mv_tsw (off := 422) 7 e dL_law_33 (by decide) (tgt := 455) (by decide) ?_
        exact (BL_law_900_b455 G P _ ih _ _ hs)
      refine mv_case hs (fun e hs => ?_) (fun n8 hs => ?_)
      · refine mv_tsw (off := 435) 8 e dL_law_33 (by decide) (tgt := 468) (by decide) ?_
        exact (BL_law_900_b468 G P _ ih _ _ hs)
      refine mv_case hs (fun e hs => ?_) (fun n9 hs => ?_)
      · refine mv_tsw (off := 448) 9 e dL_law_33 (by decide) (tgt := 481) (by decide) ?_
        exact (BL_law_900_b481 G P _ ih _ _ hs)
      refine mv_case hs (fun e hs => ?_) (fun n10 hs => ?_)
      · refine mv_tsw (off := 491) 10 e dL_law_33 (by decide) (tgt := 524) (by decide) ?_
        exact (BL_law_900_b524 G P _ ih _ _ hs)
      refine mv_case hs (fun e hs => ?_) (fun n11 hs => ?_)
      · refine mv_tsw (off := 524) 11 e dL_law_33 (by decide) (tgt := 557) (by decide) ?_
        exact (BL_law_900_b557 G P _ ih _ _ hs)
      refine mv_case hs (fun e hs => ?_) (fun n12 hs => ?_)
      · refine mv_tsw (off := 567) 12 e dL_law_33 (by decide) (tgt := 600) (by decide) ?_
        exact (BL_law_900_b600 G P _ ih _ _ hs)
      refine mv_case hs (fun e hs => ?_) (fun n13 hs => ?_)
      · refine mv_tsw (off := 590) 13 e dL_law_33 (by decide) (tgt := 623) (by decide) ?_
        exact (BL_law_900_b623 G P _ ih _ _ hs)
      refine mv_case hs (fun e hs => ?_) (fun n14 hs => ?_)
      · refine mv_tsw (off := 643) 14 e dL_law_33 (by decide) (tgt := 676) (by decide) ?_
        exact (BL_law_900_b676 G P _ ih _ _ hs)
      refine mv_case hs (fun e hs => ?_) (fun n15 hs => ?_)
      · refine mv_tsw (off := 676) 15 e dL_law_33 (by decide) (tgt := 709) (by decide) ?_
        exact (BL_law_900_b709 G P _ ih _ _ hs)
      refine mv_case hs (fun e hs => ?_) (fun n16 hs => ?_)
      · refine mv_tsw (off := 709) 16 e dL_law_33 (by decide) (tgt := 742) (by decide) ?_
        exact (BL_law_900_b742 G P _ ih _ _ hs)
      refine mv_case hs (fun e hs => ?_) (fun n17 hs => ?_)
      · refine mv_tsw (off := 732) 17 e dL_law_33 (by decide) (tgt := 765) (by decide) ?_
        exact (BL_law_900_b765 G P _ ih _ _ hs)
      refine mv_case hs (fun e hs => ?_) (fun n18 hs => ?_)
      · refine mv_tsw (off := 775) 18 e dL_law_33 (by decide) (tgt := 808) (by decide) ?_
        exact (BL_law_900_b808 G P _ ih _ _ hs)
      refine mv_case hs (fun e hs => ?_) (fun n19 hs => ?_)
      · refine mv_tsw (off := 850) 19 e dL_law_33 (by decide) (tgt := 883) (by decide) ?_
        exact (BL_law_900_b883 G P _ ih _ _ hs)
      refine mv_case hs (fun e hs => ?_) (fun n20 hs => ?_)
      · refine mv_tsw (off := 883) 20 e dL_law_33 (by decide) (tgt := 916) (by decide) ?_
        exact (BL_law_900_b916 G P _ ih _ _ hs)
      refine mv_case hs (fun e hs => ?_) (fun n21 hs => ?_)
      · refine mv_tsw (off := 926) 21 e dL_law_33 (by decide) (tgt := 959) (by decide) ?_
        exact (BL_law_900_b959 G P _ ih _ _ hs)
      refine mv_case hs (fun e hs => ?_) (fun n22 hs => ?_)
      · refine mv_tsw (off := 959) 22 e dL_law_33 (by decide) (tgt := 992) (by decide) ?_
        exact (BL_law_900_b992 G P _ ih _ _ hs)
      refine mv_case hs (fun e hs => ?_) (fun n23 hs => ?_)
      · refine mv_tsw (off := 992) 23 e dL_law_33 (by decide) (tgt := 1025) (by decide) ?_
        exact (BL_law_900_b1025 G P _ ih _ _ hs)
      refine mv_case hs (fun e hs => ?_) (fun n24 hs => ?_)
      · refine mv_tsw (off := 1025) 24 e dL_law_33 (by decide) (tgt := 1058) (by decide) ?_
        exact (BL_law_900_b1058 G P _ ih _ _ hs)
      refine mv_case hs (fun e hs => ?_) (fun n25 hs => ?_)
      · refine mv_tsw (off := 1058) 25 e dL_law_33 (by decide) (tgt := 1091) (by decide) ?_
        exact (BL_law_900_b1091 G P _ ih _ _ hs)
      refine mv_case hs (fun e hs => ?_) (fun n26 hs => ?_)
      · refine mv_tsw (off := 1081) 26 e dL_law_33 (by decide) (tgt := 1114) (by decide) ?_
        exact (BL_law_900_b1114 G P _ ih _ _ hs)
      refine mv_case hs (fun e hs => ?_) (fun n27 hs => ?_)
      · refine mv_tsw (off := 1114) 27 e dL_law_33 (by decide) (tgt := 1147) (by decide) ?_
        exact (BL_law_900_b1147 G P _ ih _ _ hs)
      refine mv_case hs (fun e hs => ?_) (fun n28 hs => ?_)
      · refine mv_tsw (off := 1157) 28 e dL_law_33 (by decide) (tgt := 1190) (by decide) ?_
        exact (BL_law_900_b1190 G P _ ih _ _ hs)
      refine mv_case hs (fun e hs => ?_) (fun n29 hs => ?_)
      · refine mv_tsw (off := 1190) 29 e dL_law_33 (by decide) (tgt := 1223) (by decide) ?_
        exact (BL_law_900_b1223 G P _ ih _ _ hs)
      refine mv_case hs (fun e hs => ?_) (fun n30 hs => ?_)
      · refine mv_tsw (off := 1213) 30 e dL_law_33 (by decide) (tgt := 1246) (by decide) ?_
        exact (BL_law_900_b1246 G P _ ih _ _ hs)
      refine mv_case hs (fun e hs => ?_) (fun n31 hs => ?_)
      · refine mv_tsw (off := 1246) 31 e dL_law_33 (by decide) (tgt := 1279) (by decide) ?_
        exact (BL_law_900_b1279 G P _ ih _ _ hs)
      refine mv_case hs (fun e hs => ?_) (fun n32 hs => ?_)
      · refine mv_tsw (off := 1279) 32 e dL_law_33 (by decide) (tgt := 1312) (by decide) ?_
        exact (BL_law_900_b1312 G P _ ih _ _ hs)
      refine mv_case hs (fun e hs => ?_) (fun n33 hs => ?_)
      · refine mv_tsw (off := 1302) 33 e dL_law_33 (by decide) (tgt := 1335) (by decide) ?_
        exact (BL_law_900_b1335 G P _ ih _ _ hs)
      refine mv_case hs (fun e hs => ?_) (fun n34 hs => ?_)
      · refine mv_tsw (off := 1355) 34 e dL_law_33 (by decide) (tgt := 1388) (by decide) ?_
        exact (BL_law_900_b1388 G P _ ih _ _ hs)
      refine mv_case hs (fun e hs => ?_) (fun n35 hs => ?_)
      · refine mv_tsw (off := 1388) 35 e dL_law_33 (by decide) (tgt := 1421) (by decide) ?_
        exact (BL_law_900_b1421 G P _ ih _ _ hs)
      refine mv_case hs (fun e hs => ?_) (fun n36 hs => ?_)
      · refine mv_tsw (off := 1441) 36 e dL_law_33 (by decide) (tgt := 1474) (by decide) ?_
        exact (BL_law_900_b1474 G P _ ih _ _ hs)
      refine mv_case hs (fun e hs => ?_) (fun n37 hs => ?_)
      · refine mv_tsw (off := 1464) 37 e dL_law_33 (by decide) (tgt := 1497) (by decide) ?_
        exact (BL_law_900_b1497 G P _ ih _ _ hs)
      refine mv_case hs (fun e hs => ?_) (fun n38 hs => ?_)
      · refine mv_tsw (off := 1487) 38 e dL_law_33 (by decide) (tgt := 1520) (by decide) ?_
        exact (BL_law_900_b1520 G P _ ih _ _ hs)
      have n0i := lv_neT (a := 0) n0 (by decide)
      have n1i := lv_neT (a := 1) n1 (by decide)
      have n2i := lv_neT (a := 2) n2 (by decide)
      have n3i := lv_neT (a := 3) n3 (by decide)
      have n4i := lv_neT (a := 4) n4 (by decide)
      have n5i := lv_neT (a := 5) n5 (by decide)
      have n6i := lv_neT (a := 6) n6 (by decide)
      have n7i := lv_neT (a := 7) n7 (by decide)
      have n8i := lv_neT (a := 8) n8 (by decide)
      have n9i := lv_neT (a := 9) n9 (by decide)
      have n10i := lv_neT (a := 10) n10 (by decide)
      have n11i := lv_neT (a := 11) n11 (by decide)
      have n12i := lv_neT (a := 12) n12 (by decide)
      have n13i := lv_neT (a := 13) n13 (by decide)
      have n14i := lv_neT (a := 14) n14 (by decide)
      have n15i := lv_neT (a := 15) n15 (by decide)
      have n16i := lv_neT (a := 16) n16 (by decide)
      have n17i := lv_neT (a := 17) n17 (by decide)
      have n18i := lv_neT (a := 18) n18 (by decide)
      have n19i := lv_neT (a := 19) n19 (by decide)
      have n20i := lv_neT (a := 20) n20 (by decide)
      have n21i := lv_neT (a := 21) n21 (by decide)
      have n22i := lv_neT (a := 22) n22 (by decide)
      have n23i := lv_neT (a := 23) n23 (by decide)
      have n24i := lv_neT (a := 24) n24 (by decide)
      have n25i := lv_neT (a := 25) n25 (by decide)
      have n26i := lv_neT (a := 26) n26 (by decide)
      have n27i := lv_neT (a := 27) n27 (by decide)
      have n28i := lv_neT (a := 28) n28 (by decide)
      have n29i := lv_neT (a := 29) n29 (by decide)
      have n30i := lv_neT (a := 30) n30 (by decide)
      have n31i := lv_neT (a := 31) n31 (by decide)
      have n32i := lv_neT (a := 32) n32 (by decide)
      have n33i := lv_neT (a := 33) n33 (by decide)
      have n34i := lv_neT (a := 34) n34 (by decide)
      have n35i := lv_neT (a := 35) n35 (by decide)
      have n36i := lv_neT (a := 36) n36 (by decide)
      have n37i := lv_neT (a := 37) n37 (by decide)
      have n38i := lv_neT (a := 38) n38 (by decide)
      refine mv_tswd dL_law_33 (by omega) (tgt := 1543) (by decide) ?_
      exact (BL_law_900_b1543 G P _ ih _ _ hs)
noncomputable def fL_law_900 (G : mv_G) (h : mv_H) : Option Unit := mv_let (mv_z h 0) fun h1 : mv_H => (fX9_init_at0 h1).bind fun r108 => mv_let (mv_z r108 55) fun h109 : mv_H => (fX10_init_at55 h109).bind fun r140 => fL_law_900_b18 G mv_F 0 r140
set_option maxRecDepth 100000 in
set_option maxHeartbeats 4000000 in
theorem TL_law_900 (G : mv_G) (P : Unit → Prop) (h : mv_H) (hs : mv_sat (fL_law_900 G h) P) : mv_MW G mL_law room_1 lw_Zf 0 0 0 [.ref 900, .float 0, .float 0, .float 0] [] sh_0 h := by
  unfold fL_law_900 at hs
  refine mv_new (o := 0) (sh' := sh_1) (c' := 1) (s' := 10) dL_law_0 kc_9 (mv_t1 14 rfl rfl) (mv_t1 15 rfl rfl) (mv_t1 1 rfl rfl) (by decide) (by decide +kernel) (by decide) (by decide +kernel) rfl rfl ⟨Nat.le_of_ble_eq_true rfl, Nat.le_of_ble_eq_true rfl⟩ ?_
  refine mv_nameH hs (fun h1 hs => ?_)
  refine mv_dup dL_law_3 rfl ?_
  refine mv_lI (st := [.ref 0]) (c' := 55) (s' := 565) dL_law_4 kk_L_9 rfl (TX9_init_at0 G 0 _ _ (mv_sat_bind hs)) rfl rfl (Nat.le_of_ble_eq_true rfl) (by decide) rfl rfl (by decide) (mv_kv fun r108 hs => ?_)
  refine mv_astore_n (lv' := [.ref 900, .ref 0, .float 0, .float 0]) dL_law_7 (Nat.le_of_ble_eq_true rfl) rfl rfl ?_
  refine mv_new (o := 55) (sh' := sh_110) (c' := 56) (s' := 611) dL_law_8 kc_10 (mv_t4 182 rfl rfl) (mv_t4 183 rfl rfl) (mv_t1 11 rfl rfl) (by decide) (by decide +kernel) (by decide) (by decide +kernel) rfl rfl ⟨Nat.le_of_ble_eq_true rfl, Nat.le_of_ble_eq_true rfl⟩ ?_
  refine mv_nameH hs (fun h109 hs => ?_)
  refine mv_dup dL_law_11 rfl ?_
  refine mv_lI (st := [.ref 55]) (c' := 83) (s' := 9288) dL_law_12 kk_L_12 rfl (TX10_init_at55 G 0 _ _ (mv_sat_bind hs)) rfl rfl (Nat.le_of_ble_eq_true rfl) (by decide) rfl rfl (by decide) (mv_kv fun r140 hs => ?_)
  rw [sh_fin]
  refine mv_astore_n (lv' := [.ref 900, .ref 0, .ref 55, .float 0]) dL_law_15 (Nat.le_of_ble_eq_true rfl) rfl rfl ?_
  refine mv_iconst 0 dL_law_16 (by decide) ?_
  refine mv_istore_n (lv' := [.ref 900, .ref 0, .ref 55, .int 0]) dL_law_17 (Nat.le_of_ble_eq_true rfl) rfl rfl ?_
  exact (BL_law_900_b18 G P _ _ _ hs)
