/-! THE LAW's cases -/
theorem ql_i2l {p : Program} {l : Launch} {e : Env} {s : State} {m : MethodId} {below : List Frame} {meth : Method} {c : Code} {b L : Nat} {xs : Nat → Int32} {D : va_G} {tA : FieldType → ClassId} {adC adR : Nat → Nat} (C : ql_C p s m meth c b L xs D tA adC adR) {pc : Nat} {ls : List (Option Value)} {st : List Value} {σ ρ : nh_S} {x : Int32} (hd : decode code pc = .ok (.i2l, 1)) (kk : ql_J p l e s m below meth c b D tA adC adR (pc + 1) ls (.long x.toInt64 :: st) σ ρ) : ql_J p l e s m below meth c b D tA adC adR (pc) ls (.int x :: st) σ ρ := by
  intro H locs lsA hP hD hS hl
  exact lv_i2l C.1.1 C.1.2.1 hd rfl (kk H locs lsA hP hD hS hl)
theorem ql_bipush {p : Program} {l : Launch} {e : Env} {s : State} {m : MethodId} {below : List Frame} {meth : Method} {c : Code} {b L : Nat} {xs : Nat → Int32} {D : va_G} {tA : FieldType → ClassId} {adC adR : Nat → Nat} (C : ql_C p s m meth c b L xs D tA adC adR) {pc : Nat} {ls : List (Option Value)} {st : List Value} {σ ρ : nh_S} {n : Int} {v : Int32} (hd : decode code pc = .ok (.bipush n, 2)) (hv : (Int8.ofInt n).toInt32 = v) (kk : ql_J p l e s m below meth c b D tA adC adR (pc + 2) ls (.int v :: st) σ ρ) : ql_J p l e s m below meth c b D tA adC adR (pc) ls (st) σ ρ := by
  intro H locs lsA hP hD hS hl
  exact lv_bipush C.1.1 C.1.2.1 hd hv (kk H locs lsA hP hD hS hl)
theorem ql_lshl {p : Program} {l : Launch} {e : Env} {s : State} {m : MethodId} {below : List Frame} {meth : Method} {c : Code} {b L : Nat} {xs : Nat → Int32} {D : va_G} {tA : FieldType → ClassId} {adC adR : Nat → Nat} (C : ql_C p s m meth c b L xs D tA adC adR) {pc : Nat} {ls : List (Option Value)} {st : List Value} {σ ρ : nh_S} {x : Int64} {y : Int32} (hd : decode code pc = .ok (.lshl, 1)) (kk : ql_J p l e s m below meth c b D tA adC adR (pc + 1) ls (.long (x <<< (y.toInt64 &&& 63)) :: st) σ ρ) : ql_J p l e s m below meth c b D tA adC adR (pc) ls (.int y :: .long x :: st) σ ρ := by
  intro H locs lsA hP hD hS hl
  exact lv_lshl C.1.1 C.1.2.1 hd rfl (kk H locs lsA hP hD hS hl)
theorem ql_ldc2 {p : Program} {l : Launch} {e : Env} {s : State} {m : MethodId} {below : List Frame} {meth : Method} {c : Code} {b L : Nat} {xs : Nat → Int32} {D : va_G} {tA : FieldType → ClassId} {adC adR : Nat → Nat} (C : ql_C p s m meth c b L xs D tA adC adR) {pc : Nat} {ls : List (Option Value)} {st : List Value} {σ ρ : nh_S} {i : Nat} {v : Int64} (hw : Cond.constantLong RL i v ∈ nh_tb) (hd : decode code pc = .ok (.ldc2_w i, 3)) (kk : ql_J p l e s m below meth c b D tA adC adR (pc + 3) ls (.long v :: st) σ ρ) : ql_J p l e s m below meth c b D tA adC adR (pc) ls (st) σ ρ := by
  intro H locs lsA hP hD hS hl
  exact lv_ldc2 (own := RL) C.1.1 C.1.2.1 C.1.2.2.2.2.1 (ql_tb C.1 _ hw) hd (kk H locs lsA hP hD hS hl)
theorem ql_land {p : Program} {l : Launch} {e : Env} {s : State} {m : MethodId} {below : List Frame} {meth : Method} {c : Code} {b L : Nat} {xs : Nat → Int32} {D : va_G} {tA : FieldType → ClassId} {adC adR : Nat → Nat} (C : ql_C p s m meth c b L xs D tA adC adR) {pc : Nat} {ls : List (Option Value)} {st : List Value} {σ ρ : nh_S} {x y : Int64} (hd : decode code pc = .ok (.land, 1)) (kk : ql_J p l e s m below meth c b D tA adC adR (pc + 1) ls (.long (x &&& y) :: st) σ ρ) : ql_J p l e s m below meth c b D tA adC adR (pc) ls (.long y :: .long x :: st) σ ρ := by
  intro H locs lsA hP hD hS hl
  exact lv_land C.1.1 C.1.2.1 hd (kk H locs lsA hP hD hS hl)
theorem ql_lor {p : Program} {l : Launch} {e : Env} {s : State} {m : MethodId} {below : List Frame} {meth : Method} {c : Code} {b L : Nat} {xs : Nat → Int32} {D : va_G} {tA : FieldType → ClassId} {adC adR : Nat → Nat} (C : ql_C p s m meth c b L xs D tA adC adR) {pc : Nat} {ls : List (Option Value)} {st : List Value} {σ ρ : nh_S} {x y : Int64} (hd : decode code pc = .ok (.lor, 1)) (kk : ql_J p l e s m below meth c b D tA adC adR (pc + 1) ls (.long (x ||| y) :: st) σ ρ) : ql_J p l e s m below meth c b D tA adC adR (pc) ls (.long y :: .long x :: st) σ ρ := by
  intro H locs lsA hP hD hS hl
  exact lv_lor C.1.1 C.1.2.1 hd (kk H locs lsA hP hD hS hl)
set_option maxRecDepth 20000 in
theorem q_feed {p : Program} {l : Launch} {e : Env} {s : State} {m : MethodId} {below : List Frame} {meth : Method} {c : Code} {b L : Nat} {xs : Nat → Int32} {D : va_G} {tA : FieldType → ClassId} {adC adR : Nat → Nat} (C : ql_C p s m meth c b L xs D tA adC adR) (hL : L ≤ 2560) {i : Nat} (hi : i + 5 ≤ L) {S : SP} {σ ρ : nh_S} (hW : WF S) (hC : CR σ S) (hR : RR ρ S) (next : ∀ S' σ' ρ', WF S' → CR σ' S' → RR ρ' S' → ql_J p l e s m below meth c b D tA adC adR (1313) [some (.ref b), some (.ref (adC 0)), some (.ref (adR 0)), some (.int (nI i))] ([]) σ' ρ') : ql_J p l e s m below meth c b D tA adC adR (188) [some (.ref b), some (.ref (adC 0)), some (.ref (adR 0)), some (.int (nI i))] ([]) σ ρ := by
  refine ql_aload C dL_law_188 rfl rfl ?_
  refine ql_arg C hL (k := 1) dL_law_189 dL_law_190 dL_law_191 dL_law_192 dL_law_193 rfl (by omega) ?_
  refine ql_arg C hL (k := 2) dL_law_194 dL_law_195 dL_law_196 dL_law_197 dL_law_198 rfl (by omega) ?_
  refine ql_i2l C dL_law_199 ?_
  refine ql_bipush C (v := 32) dL_law_200 (by decide) ?_
  refine ql_lshl C dL_law_202 ?_
  refine ql_arg C hL (k := 3) dL_law_203 dL_law_204 dL_law_205 dL_law_206 dL_law_207 rfl (by omega) ?_
  refine ql_i2l C dL_law_208 ?_
  refine ql_ldc2 C kc_L_13 dL_law_209 ?_
  refine ql_land C dL_law_212 ?_
  refine ql_lor C dL_law_213 ?_
  refine ql_callC C (As := [.int (xs (i + 1)), .long (((xs (i + 2)).toInt64 <<< ((32 : Int32).toInt64 &&& 63)) ||| ((xs (i + 3)).toInt64 &&& 4294967295))]) yf_X8_feed ⟨by decide, by decide⟩ rfl rfl vl_L_15 dL_law_214 rfl rfl (Nat.le_of_ble_eq_true rfl) (Nat.le_of_ble_eq_true rfl) (c_feed hC hW _ _ (fun σ' hC' => ⟨_, rfl, ?_⟩))
  refine ql_aload C dL_law_217 rfl rfl ?_
  refine ql_arg C hL (k := 1) dL_law_218 dL_law_219 dL_law_220 dL_law_221 dL_law_222 rfl (by omega) ?_
  refine ql_arg C hL (k := 2) dL_law_223 dL_law_224 dL_law_225 dL_law_226 dL_law_227 rfl (by omega) ?_
  refine ql_i2l C dL_law_228 ?_
  refine ql_bipush C (v := 32) dL_law_229 (by decide) ?_
  refine ql_lshl C dL_law_231 ?_
  refine ql_arg C hL (k := 3) dL_law_232 dL_law_233 dL_law_234 dL_law_235 dL_law_236 rfl (by omega) ?_
  refine ql_i2l C dL_law_237 ?_
  refine ql_ldc2 C kc_L_13 dL_law_238 ?_
  refine ql_land C dL_law_241 ?_
  refine ql_lor C dL_law_242 ?_
  refine ql_callR C (As := [.int (xs (i + 1)), .long (((xs (i + 2)).toInt64 <<< ((32 : Int32).toInt64 &&& 63)) ||| ((xs (i + 3)).toInt64 &&& 4294967295))]) yf_X9_feed ⟨by decide, by decide⟩ rfl rfl vl_L_19 dL_law_243 rfl rfl (Nat.le_of_ble_eq_true rfl) (Nat.le_of_ble_eq_true rfl) (r_feed hR hW _ _ (fun ρ' hR' => ⟨_, rfl, ?_⟩))
  refine ql_eq C (tgt := 1313) dL_law_246 (by decide) ?_
  exact next _ _ _ (WF_nFeed hW _ _) hC' hR'
set_option maxRecDepth 20000 in
theorem q_parish {p : Program} {l : Launch} {e : Env} {s : State} {m : MethodId} {below : List Frame} {meth : Method} {c : Code} {b L : Nat} {xs : Nat → Int32} {D : va_G} {tA : FieldType → ClassId} {adC adR : Nat → Nat} (C : ql_C p s m meth c b L xs D tA adC adR) (hL : L ≤ 2560) {i : Nat} (hi : i + 5 ≤ L) {S : SP} {σ ρ : nh_S} (hW : WF S) (hC : CR σ S) (hR : RR ρ S) (next : ∀ S' σ' ρ', WF S' → CR σ' S' → RR ρ' S' → ql_J p l e s m below meth c b D tA adC adR (1313) [some (.ref b), some (.ref (adC 0)), some (.ref (adR 0)), some (.int (nI i))] ([]) σ' ρ') : ql_J p l e s m below meth c b D tA adC adR (251) [some (.ref b), some (.ref (adC 0)), some (.ref (adR 0)), some (.int (nI i))] ([]) σ ρ := by
  refine ql_aload C dL_law_251 rfl rfl ?_
  refine ql_callC C (As := []) yf_X8_parish ⟨by decide, by decide⟩ rfl rfl vl_L_20 dL_law_252 rfl rfl (Nat.le_of_ble_eq_true rfl) (Nat.le_of_ble_eq_true rfl) (c_parish hC hW  (fun σ' hC' => ⟨_, rfl, ?_⟩))
  refine ql_aload C dL_law_255 rfl rfl ?_
  refine ql_callR C (As := []) yf_X9_parish ⟨by decide, by decide⟩ rfl rfl vl_L_24 dL_law_256 rfl rfl (Nat.le_of_ble_eq_true rfl) (Nat.le_of_ble_eq_true rfl) (r_parish hR hW  (fun ρ' hR' => ⟨_, rfl, ?_⟩))
  refine ql_eq C (tgt := 1313) dL_law_259 (by decide) ?_
  exact next _ _ _ (WF_nParish hW) hC' hR'
set_option maxRecDepth 20000 in
theorem q_plan {p : Program} {l : Launch} {e : Env} {s : State} {m : MethodId} {below : List Frame} {meth : Method} {c : Code} {b L : Nat} {xs : Nat → Int32} {D : va_G} {tA : FieldType → ClassId} {adC adR : Nat → Nat} (C : ql_C p s m meth c b L xs D tA adC adR) (hL : L ≤ 2560) {i : Nat} (hi : i + 5 ≤ L) {S : SP} {σ ρ : nh_S} (hW : WF S) (hC : CR σ S) (hR : RR ρ S) (next : ∀ S' σ' ρ', WF S' → CR σ' S' → RR ρ' S' → ql_J p l e s m below meth c b D tA adC adR (1313) [some (.ref b), some (.ref (adC 0)), some (.ref (adR 0)), some (.int (nI i))] ([]) σ' ρ') : ql_J p l e s m below meth c b D tA adC adR (264) [some (.ref b), some (.ref (adC 0)), some (.ref (adR 0)), some (.int (nI i))] ([]) σ ρ := by
  refine ql_aload C dL_law_264 rfl rfl ?_
  refine ql_callC C (As := []) yf_X8_plan ⟨by decide, by decide⟩ rfl rfl vl_L_25 dL_law_265 rfl rfl (Nat.le_of_ble_eq_true rfl) (Nat.le_of_ble_eq_true rfl) (c_plan hC hW  (fun σ' hC' => ⟨_, rfl, ?_⟩))
  refine ql_aload C dL_law_268 rfl rfl ?_
  refine ql_callR C (As := []) yf_X9_plan ⟨by decide, by decide⟩ rfl rfl vl_L_28 dL_law_269 rfl rfl (Nat.le_of_ble_eq_true rfl) (Nat.le_of_ble_eq_true rfl) (r_plan hR hW  (fun ρ' hR' => ⟨_, rfl, ?_⟩))
  refine ql_eq C (tgt := 1313) dL_law_272 (by decide) ?_
  exact next _ _ _ (WF_nPlan hW) hC' hR'
set_option maxRecDepth 20000 in
theorem q_fault {p : Program} {l : Launch} {e : Env} {s : State} {m : MethodId} {below : List Frame} {meth : Method} {c : Code} {b L : Nat} {xs : Nat → Int32} {D : va_G} {tA : FieldType → ClassId} {adC adR : Nat → Nat} (C : ql_C p s m meth c b L xs D tA adC adR) (hL : L ≤ 2560) {i : Nat} (hi : i + 5 ≤ L) {S : SP} {σ ρ : nh_S} (hW : WF S) (hC : CR σ S) (hR : RR ρ S) (next : ∀ S' σ' ρ', WF S' → CR σ' S' → RR ρ' S' → ql_J p l e s m below meth c b D tA adC adR (1313) [some (.ref b), some (.ref (adC 0)), some (.ref (adR 0)), some (.int (nI i))] ([]) σ' ρ') : ql_J p l e s m below meth c b D tA adC adR (277) [some (.ref b), some (.ref (adC 0)), some (.ref (adR 0)), some (.int (nI i))] ([]) σ ρ := by
  refine ql_aload C dL_law_277 rfl rfl ?_
  refine ql_callC C (As := []) yf_X8_fault ⟨by decide, by decide⟩ rfl rfl vl_L_29 dL_law_278 rfl rfl (Nat.le_of_ble_eq_true rfl) (Nat.le_of_ble_eq_true rfl) (c_fault hC  ⟨_, rfl, ?_⟩)
  refine ql_aload C dL_law_281 rfl rfl ?_
  refine ql_callR C (As := []) yf_X9_fault ⟨by decide, by decide⟩ rfl rfl vl_L_32 dL_law_282 rfl rfl (Nat.le_of_ble_eq_true rfl) (Nat.le_of_ble_eq_true rfl) (r_fault hR  ⟨_, rfl, ?_⟩)
  refine ql_eq C (tgt := 1313) dL_law_285 (by decide) ?_
  exact next _ _ _ hW hC hR
set_option maxRecDepth 20000 in
theorem q_told {p : Program} {l : Launch} {e : Env} {s : State} {m : MethodId} {below : List Frame} {meth : Method} {c : Code} {b L : Nat} {xs : Nat → Int32} {D : va_G} {tA : FieldType → ClassId} {adC adR : Nat → Nat} (C : ql_C p s m meth c b L xs D tA adC adR) (hL : L ≤ 2560) {i : Nat} (hi : i + 5 ≤ L) {S : SP} {σ ρ : nh_S} (hW : WF S) (hC : CR σ S) (hR : RR ρ S) (next : ∀ S' σ' ρ', WF S' → CR σ' S' → RR ρ' S' → ql_J p l e s m below meth c b D tA adC adR (1313) [some (.ref b), some (.ref (adC 0)), some (.ref (adR 0)), some (.int (nI i))] ([]) σ' ρ') : ql_J p l e s m below meth c b D tA adC adR (290) [some (.ref b), some (.ref (adC 0)), some (.ref (adR 0)), some (.int (nI i))] ([]) σ ρ := by
  refine ql_aload C dL_law_290 rfl rfl ?_
  refine ql_arg C hL (k := 1) dL_law_291 dL_law_292 dL_law_293 dL_law_294 dL_law_295 rfl (by omega) ?_
  refine ql_callC C (As := [.int (xs (i + 1))]) yf_X8_told ⟨by decide, by decide⟩ rfl rfl vl_L_33 dL_law_296 rfl rfl (Nat.le_of_ble_eq_true rfl) (Nat.le_of_ble_eq_true rfl) (c_told hC hW _ ⟨_, rfl, ?_⟩)
  refine ql_aload C dL_law_299 rfl rfl ?_
  refine ql_arg C hL (k := 1) dL_law_300 dL_law_301 dL_law_302 dL_law_303 dL_law_304 rfl (by omega) ?_
  refine ql_callR C (As := [.int (xs (i + 1))]) yf_X9_told ⟨by decide, by decide⟩ rfl rfl vl_L_37 dL_law_305 rfl rfl (Nat.le_of_ble_eq_true rfl) (Nat.le_of_ble_eq_true rfl) (r_told hR hW _ ⟨_, rfl, ?_⟩)
  refine ql_eq C (tgt := 1313) dL_law_308 (by decide) ?_
  exact next _ _ _ hW hC hR
set_option maxRecDepth 20000 in
theorem q_house {p : Program} {l : Launch} {e : Env} {s : State} {m : MethodId} {below : List Frame} {meth : Method} {c : Code} {b L : Nat} {xs : Nat → Int32} {D : va_G} {tA : FieldType → ClassId} {adC adR : Nat → Nat} (C : ql_C p s m meth c b L xs D tA adC adR) (hL : L ≤ 2560) {i : Nat} (hi : i + 5 ≤ L) {S : SP} {σ ρ : nh_S} (hW : WF S) (hC : CR σ S) (hR : RR ρ S) (next : ∀ S' σ' ρ', WF S' → CR σ' S' → RR ρ' S' → ql_J p l e s m below meth c b D tA adC adR (1313) [some (.ref b), some (.ref (adC 0)), some (.ref (adR 0)), some (.int (nI i))] ([]) σ' ρ') : ql_J p l e s m below meth c b D tA adC adR (313) [some (.ref b), some (.ref (adC 0)), some (.ref (adR 0)), some (.int (nI i))] ([]) σ ρ := by
  refine ql_aload C dL_law_313 rfl rfl ?_
  refine ql_arg C hL (k := 1) dL_law_314 dL_law_315 dL_law_316 dL_law_317 dL_law_318 rfl (by omega) ?_
  refine ql_arg C hL (k := 2) dL_law_319 dL_law_320 dL_law_321 dL_law_322 dL_law_323 rfl (by omega) ?_
  refine ql_callC C (As := [.int (xs (i + 1)), .int (xs (i + 2))]) yf_X8_house ⟨by decide, by decide⟩ rfl rfl vl_L_38 dL_law_324 rfl rfl (Nat.le_of_ble_eq_true rfl) (Nat.le_of_ble_eq_true rfl) (c_house hC hW _ _ ⟨_, rfl, ?_⟩)
  refine ql_aload C dL_law_327 rfl rfl ?_
  refine ql_arg C hL (k := 1) dL_law_328 dL_law_329 dL_law_330 dL_law_331 dL_law_332 rfl (by omega) ?_
  refine ql_arg C hL (k := 2) dL_law_333 dL_law_334 dL_law_335 dL_law_336 dL_law_337 rfl (by omega) ?_
  refine ql_callR C (As := [.int (xs (i + 1)), .int (xs (i + 2))]) yf_X9_house ⟨by decide, by decide⟩ rfl rfl vl_L_42 dL_law_338 rfl rfl (Nat.le_of_ble_eq_true rfl) (Nat.le_of_ble_eq_true rfl) (r_house hR hW _ _ ⟨_, rfl, ?_⟩)
  refine ql_eq C (tgt := 1313) dL_law_341 (by decide) ?_
  exact next _ _ _ hW hC hR
set_option maxRecDepth 20000 in
theorem q_far {p : Program} {l : Launch} {e : Env} {s : State} {m : MethodId} {below : List Frame} {meth : Method} {c : Code} {b L : Nat} {xs : Nat → Int32} {D : va_G} {tA : FieldType → ClassId} {adC adR : Nat → Nat} (C : ql_C p s m meth c b L xs D tA adC adR) (hL : L ≤ 2560) {i : Nat} (hi : i + 5 ≤ L) {S : SP} {σ ρ : nh_S} (hW : WF S) (hC : CR σ S) (hR : RR ρ S) (next : ∀ S' σ' ρ', WF S' → CR σ' S' → RR ρ' S' → ql_J p l e s m below meth c b D tA adC adR (1313) [some (.ref b), some (.ref (adC 0)), some (.ref (adR 0)), some (.int (nI i))] ([]) σ' ρ') : ql_J p l e s m below meth c b D tA adC adR (346) [some (.ref b), some (.ref (adC 0)), some (.ref (adR 0)), some (.int (nI i))] ([]) σ ρ := by
  refine ql_aload C dL_law_346 rfl rfl ?_
  refine ql_arg C hL (k := 1) dL_law_347 dL_law_348 dL_law_349 dL_law_350 dL_law_351 rfl (by omega) ?_
  refine ql_arg C hL (k := 2) dL_law_352 dL_law_353 dL_law_354 dL_law_355 dL_law_356 rfl (by omega) ?_
  refine ql_callC C (As := [.int (xs (i + 1)), .int (xs (i + 2))]) yf_X8_far ⟨by decide, by decide⟩ rfl rfl vl_L_43 dL_law_357 rfl rfl (Nat.le_of_ble_eq_true rfl) (Nat.le_of_ble_eq_true rfl) (c_far hC hW _ _ ⟨_, rfl, ?_⟩)
  refine ql_aload C dL_law_360 rfl rfl ?_
  refine ql_arg C hL (k := 1) dL_law_361 dL_law_362 dL_law_363 dL_law_364 dL_law_365 rfl (by omega) ?_
  refine ql_arg C hL (k := 2) dL_law_366 dL_law_367 dL_law_368 dL_law_369 dL_law_370 rfl (by omega) ?_
  refine ql_callR C (As := [.int (xs (i + 1)), .int (xs (i + 2))]) yf_X9_far ⟨by decide, by decide⟩ rfl rfl vl_L_46 dL_law_371 rfl rfl (Nat.le_of_ble_eq_true rfl) (Nat.le_of_ble_eq_true rfl) (r_far hR hW _ _ ⟨_, rfl, ?_⟩)
  refine ql_eq C (tgt := 1313) dL_law_374 (by decide) ?_
  exact next _ _ _ hW hC hR
set_option maxRecDepth 20000 in
theorem q_part {p : Program} {l : Launch} {e : Env} {s : State} {m : MethodId} {below : List Frame} {meth : Method} {c : Code} {b L : Nat} {xs : Nat → Int32} {D : va_G} {tA : FieldType → ClassId} {adC adR : Nat → Nat} (C : ql_C p s m meth c b L xs D tA adC adR) (hL : L ≤ 2560) {i : Nat} (hi : i + 5 ≤ L) {S : SP} {σ ρ : nh_S} (hW : WF S) (hC : CR σ S) (hR : RR ρ S) (next : ∀ S' σ' ρ', WF S' → CR σ' S' → RR ρ' S' → ql_J p l e s m below meth c b D tA adC adR (1313) [some (.ref b), some (.ref (adC 0)), some (.ref (adR 0)), some (.int (nI i))] ([]) σ' ρ') : ql_J p l e s m below meth c b D tA adC adR (379) [some (.ref b), some (.ref (adC 0)), some (.ref (adR 0)), some (.int (nI i))] ([]) σ ρ := by
  refine ql_aload C dL_law_379 rfl rfl ?_
  refine ql_arg C hL (k := 1) dL_law_380 dL_law_381 dL_law_382 dL_law_383 dL_law_384 rfl (by omega) ?_
  refine ql_arg C hL (k := 2) dL_law_385 dL_law_386 dL_law_387 dL_law_388 dL_law_389 rfl (by omega) ?_
  refine ql_callC C (As := [.int (xs (i + 1)), .int (xs (i + 2))]) yf_X8_part ⟨by decide, by decide⟩ rfl rfl vl_L_47 dL_law_390 rfl rfl (Nat.le_of_ble_eq_true rfl) (Nat.le_of_ble_eq_true rfl) (c_part hC hW _ _ ⟨_, rfl, ?_⟩)
  refine ql_aload C dL_law_393 rfl rfl ?_
  refine ql_arg C hL (k := 1) dL_law_394 dL_law_395 dL_law_396 dL_law_397 dL_law_398 rfl (by omega) ?_
  refine ql_arg C hL (k := 2) dL_law_399 dL_law_400 dL_law_401 dL_law_402 dL_law_403 rfl (by omega) ?_
  refine ql_callR C (As := [.int (xs (i + 1)), .int (xs (i + 2))]) yf_X9_part ⟨by decide, by decide⟩ rfl rfl vl_L_50 dL_law_404 rfl rfl (Nat.le_of_ble_eq_true rfl) (Nat.le_of_ble_eq_true rfl) (r_part hR hW _ _ ⟨_, rfl, ?_⟩)
  refine ql_eq C (tgt := 1313) dL_law_407 (by decide) ?_
  exact next _ _ _ hW hC hR
set_option maxRecDepth 20000 in
theorem q_away {p : Program} {l : Launch} {e : Env} {s : State} {m : MethodId} {below : List Frame} {meth : Method} {c : Code} {b L : Nat} {xs : Nat → Int32} {D : va_G} {tA : FieldType → ClassId} {adC adR : Nat → Nat} (C : ql_C p s m meth c b L xs D tA adC adR) (hL : L ≤ 2560) {i : Nat} (hi : i + 5 ≤ L) {S : SP} {σ ρ : nh_S} (hW : WF S) (hC : CR σ S) (hR : RR ρ S) (next : ∀ S' σ' ρ', WF S' → CR σ' S' → RR ρ' S' → ql_J p l e s m below meth c b D tA adC adR (1313) [some (.ref b), some (.ref (adC 0)), some (.ref (adR 0)), some (.int (nI i))] ([]) σ' ρ') : ql_J p l e s m below meth c b D tA adC adR (412) [some (.ref b), some (.ref (adC 0)), some (.ref (adR 0)), some (.int (nI i))] ([]) σ ρ := by
  refine ql_aload C dL_law_412 rfl rfl ?_
  refine ql_arg C hL (k := 1) dL_law_413 dL_law_414 dL_law_415 dL_law_416 dL_law_417 rfl (by omega) ?_
  refine ql_callC C (As := [.int (xs (i + 1))]) yf_X8_away ⟨by decide, by decide⟩ rfl rfl vl_L_51 dL_law_418 rfl rfl (Nat.le_of_ble_eq_true rfl) (Nat.le_of_ble_eq_true rfl) (c_away hC hW _ (fun σ' hC' => ⟨_, rfl, ?_⟩))
  refine ql_aload C dL_law_421 rfl rfl ?_
  refine ql_arg C hL (k := 1) dL_law_422 dL_law_423 dL_law_424 dL_law_425 dL_law_426 rfl (by omega) ?_
  refine ql_callR C (As := [.int (xs (i + 1))]) yf_X9_away ⟨by decide, by decide⟩ rfl rfl vl_L_54 dL_law_427 rfl rfl (Nat.le_of_ble_eq_true rfl) (Nat.le_of_ble_eq_true rfl) (r_away hR hW _ (fun ρ' hR' => ⟨_, rfl, ?_⟩))
  refine ql_eq C (tgt := 1313) dL_law_430 (by decide) ?_
  exact next _ _ _ (WF_nAway hW _) hC' hR'
set_option maxRecDepth 20000 in
theorem q_awake {p : Program} {l : Launch} {e : Env} {s : State} {m : MethodId} {below : List Frame} {meth : Method} {c : Code} {b L : Nat} {xs : Nat → Int32} {D : va_G} {tA : FieldType → ClassId} {adC adR : Nat → Nat} (C : ql_C p s m meth c b L xs D tA adC adR) (hL : L ≤ 2560) {i : Nat} (hi : i + 5 ≤ L) {S : SP} {σ ρ : nh_S} (hW : WF S) (hC : CR σ S) (hR : RR ρ S) (next : ∀ S' σ' ρ', WF S' → CR σ' S' → RR ρ' S' → ql_J p l e s m below meth c b D tA adC adR (1313) [some (.ref b), some (.ref (adC 0)), some (.ref (adR 0)), some (.int (nI i))] ([]) σ' ρ') : ql_J p l e s m below meth c b D tA adC adR (435) [some (.ref b), some (.ref (adC 0)), some (.ref (adR 0)), some (.int (nI i))] ([]) σ ρ := by
  refine ql_aload C dL_law_435 rfl rfl ?_
  refine ql_arg C hL (k := 1) dL_law_436 dL_law_437 dL_law_438 dL_law_439 dL_law_440 rfl (by omega) ?_
  refine ql_arg C hL (k := 2) dL_law_441 dL_law_442 dL_law_443 dL_law_444 dL_law_445 rfl (by omega) ?_
  refine ql_callC C (As := [.int (xs (i + 1)), .int (xs (i + 2))]) yf_X8_awake ⟨by decide, by decide⟩ rfl rfl vl_L_55 dL_law_446 rfl rfl (Nat.le_of_ble_eq_true rfl) (Nat.le_of_ble_eq_true rfl) (c_awake hC hW _ _ (fun σ' hC' => ⟨_, rfl, ?_⟩))
  refine ql_aload C dL_law_449 rfl rfl ?_
  refine ql_arg C hL (k := 1) dL_law_450 dL_law_451 dL_law_452 dL_law_453 dL_law_454 rfl (by omega) ?_
  refine ql_arg C hL (k := 2) dL_law_455 dL_law_456 dL_law_457 dL_law_458 dL_law_459 rfl (by omega) ?_
  refine ql_callR C (As := [.int (xs (i + 1)), .int (xs (i + 2))]) yf_X9_awake ⟨by decide, by decide⟩ rfl rfl vl_L_58 dL_law_460 rfl rfl (Nat.le_of_ble_eq_true rfl) (Nat.le_of_ble_eq_true rfl) (r_awake hR hW _ _ (fun ρ' hR' => ⟨_, rfl, ?_⟩))
  refine ql_eq C (tgt := 1313) dL_law_463 (by decide) ?_
  exact next _ _ _ hW hC' hR'
set_option maxRecDepth 20000 in
theorem q_comes {p : Program} {l : Launch} {e : Env} {s : State} {m : MethodId} {below : List Frame} {meth : Method} {c : Code} {b L : Nat} {xs : Nat → Int32} {D : va_G} {tA : FieldType → ClassId} {adC adR : Nat → Nat} (C : ql_C p s m meth c b L xs D tA adC adR) (hL : L ≤ 2560) {i : Nat} (hi : i + 5 ≤ L) {S : SP} {σ ρ : nh_S} (hW : WF S) (hC : CR σ S) (hR : RR ρ S) (next : ∀ S' σ' ρ', WF S' → CR σ' S' → RR ρ' S' → ql_J p l e s m below meth c b D tA adC adR (1313) [some (.ref b), some (.ref (adC 0)), some (.ref (adR 0)), some (.int (nI i))] ([]) σ' ρ') : ql_J p l e s m below meth c b D tA adC adR (468) [some (.ref b), some (.ref (adC 0)), some (.ref (adR 0)), some (.int (nI i))] ([]) σ ρ := by
  refine ql_aload C dL_law_468 rfl rfl ?_
  refine ql_arg C hL (k := 1) dL_law_469 dL_law_470 dL_law_471 dL_law_472 dL_law_473 rfl (by omega) ?_
  refine ql_arg C hL (k := 2) dL_law_474 dL_law_475 dL_law_476 dL_law_477 dL_law_478 rfl (by omega) ?_
  refine ql_arg C hL (k := 3) dL_law_479 dL_law_480 dL_law_481 dL_law_482 dL_law_483 rfl (by omega) ?_
  refine ql_callC C (As := [.int (xs (i + 1)), .int (xs (i + 2)), .int (xs (i + 3))]) yf_X8_comes ⟨by decide, by decide⟩ rfl rfl vl_L_59 dL_law_484 rfl rfl (Nat.le_of_ble_eq_true rfl) (Nat.le_of_ble_eq_true rfl) (c_comes hC hW _ _ _ (fun σ' hC' => ⟨_, rfl, ?_⟩))
  refine ql_aload C dL_law_487 rfl rfl ?_
  refine ql_arg C hL (k := 1) dL_law_488 dL_law_489 dL_law_490 dL_law_491 dL_law_492 rfl (by omega) ?_
  refine ql_arg C hL (k := 2) dL_law_493 dL_law_494 dL_law_495 dL_law_496 dL_law_497 rfl (by omega) ?_
  refine ql_arg C hL (k := 3) dL_law_498 dL_law_499 dL_law_500 dL_law_501 dL_law_502 rfl (by omega) ?_
  refine ql_callR C (As := [.int (xs (i + 1)), .int (xs (i + 2)), .int (xs (i + 3))]) yf_X9_comes ⟨by decide, by decide⟩ rfl rfl vl_L_63 dL_law_503 rfl rfl (Nat.le_of_ble_eq_true rfl) (Nat.le_of_ble_eq_true rfl) (r_comes hR hW _ _ _ (fun ρ' hR' => ⟨_, rfl, ?_⟩))
  refine ql_eq C (tgt := 1313) dL_law_506 (by decide) ?_
  exact next _ _ _ hW hC' hR'
set_option maxRecDepth 20000 in
theorem q_stands {p : Program} {l : Launch} {e : Env} {s : State} {m : MethodId} {below : List Frame} {meth : Method} {c : Code} {b L : Nat} {xs : Nat → Int32} {D : va_G} {tA : FieldType → ClassId} {adC adR : Nat → Nat} (C : ql_C p s m meth c b L xs D tA adC adR) (hL : L ≤ 2560) {i : Nat} (hi : i + 5 ≤ L) {S : SP} {σ ρ : nh_S} (hW : WF S) (hC : CR σ S) (hR : RR ρ S) (next : ∀ S' σ' ρ', WF S' → CR σ' S' → RR ρ' S' → ql_J p l e s m below meth c b D tA adC adR (1313) [some (.ref b), some (.ref (adC 0)), some (.ref (adR 0)), some (.int (nI i))] ([]) σ' ρ') : ql_J p l e s m below meth c b D tA adC adR (511) [some (.ref b), some (.ref (adC 0)), some (.ref (adR 0)), some (.int (nI i))] ([]) σ ρ := by
  refine ql_aload C dL_law_511 rfl rfl ?_
  refine ql_arg C hL (k := 1) dL_law_512 dL_law_513 dL_law_514 dL_law_515 dL_law_516 rfl (by omega) ?_
  refine ql_arg C hL (k := 2) dL_law_517 dL_law_518 dL_law_519 dL_law_520 dL_law_521 rfl (by omega) ?_
  refine ql_callC C (As := [.int (xs (i + 1)), .int (xs (i + 2))]) yf_X8_stands ⟨by decide, by decide⟩ rfl rfl vl_L_64 dL_law_522 rfl rfl (Nat.le_of_ble_eq_true rfl) (Nat.le_of_ble_eq_true rfl) (c_stands hC hW _ _ (fun σ' hC' => ⟨_, rfl, ?_⟩))
  refine ql_aload C dL_law_525 rfl rfl ?_
  refine ql_arg C hL (k := 1) dL_law_526 dL_law_527 dL_law_528 dL_law_529 dL_law_530 rfl (by omega) ?_
  refine ql_arg C hL (k := 2) dL_law_531 dL_law_532 dL_law_533 dL_law_534 dL_law_535 rfl (by omega) ?_
  refine ql_callR C (As := [.int (xs (i + 1)), .int (xs (i + 2))]) yf_X9_stands ⟨by decide, by decide⟩ rfl rfl vl_L_67 dL_law_536 rfl rfl (Nat.le_of_ble_eq_true rfl) (Nat.le_of_ble_eq_true rfl) (r_stands hR hW _ _ (fun ρ' hR' => ⟨_, rfl, ?_⟩))
  refine ql_eq C (tgt := 1313) dL_law_539 (by decide) ?_
  exact next _ _ _ hW hC' hR'
set_option maxRecDepth 20000 in
theorem q_put {p : Program} {l : Launch} {e : Env} {s : State} {m : MethodId} {below : List Frame} {meth : Method} {c : Code} {b L : Nat} {xs : Nat → Int32} {D : va_G} {tA : FieldType → ClassId} {adC adR : Nat → Nat} (C : ql_C p s m meth c b L xs D tA adC adR) (hL : L ≤ 2560) {i : Nat} (hi : i + 5 ≤ L) {S : SP} {σ ρ : nh_S} (hW : WF S) (hC : CR σ S) (hR : RR ρ S) (next : ∀ S' σ' ρ', WF S' → CR σ' S' → RR ρ' S' → ql_J p l e s m below meth c b D tA adC adR (1313) [some (.ref b), some (.ref (adC 0)), some (.ref (adR 0)), some (.int (nI i))] ([]) σ' ρ') : ql_J p l e s m below meth c b D tA adC adR (544) [some (.ref b), some (.ref (adC 0)), some (.ref (adR 0)), some (.int (nI i))] ([]) σ ρ := by
  refine ql_aload C dL_law_544 rfl rfl ?_
  refine ql_arg C hL (k := 1) dL_law_545 dL_law_546 dL_law_547 dL_law_548 dL_law_549 rfl (by omega) ?_
  refine ql_arg C hL (k := 2) dL_law_550 dL_law_551 dL_law_552 dL_law_553 dL_law_554 rfl (by omega) ?_
  refine ql_arg C hL (k := 3) dL_law_555 dL_law_556 dL_law_557 dL_law_558 dL_law_559 rfl (by omega) ?_
  refine ql_callC C (As := [.int (xs (i + 1)), .int (xs (i + 2)), .int (xs (i + 3))]) yf_X8_put ⟨by decide, by decide⟩ rfl rfl vl_L_68 dL_law_560 rfl rfl (Nat.le_of_ble_eq_true rfl) (Nat.le_of_ble_eq_true rfl) (c_put hC hW _ _ _ (fun σ' hC' => ⟨_, rfl, ?_⟩))
  refine ql_aload C dL_law_563 rfl rfl ?_
  refine ql_arg C hL (k := 1) dL_law_564 dL_law_565 dL_law_566 dL_law_567 dL_law_568 rfl (by omega) ?_
  refine ql_arg C hL (k := 2) dL_law_569 dL_law_570 dL_law_571 dL_law_572 dL_law_573 rfl (by omega) ?_
  refine ql_arg C hL (k := 3) dL_law_574 dL_law_575 dL_law_576 dL_law_577 dL_law_578 rfl (by omega) ?_
  refine ql_callR C (As := [.int (xs (i + 1)), .int (xs (i + 2)), .int (xs (i + 3))]) yf_X9_put ⟨by decide, by decide⟩ rfl rfl vl_L_71 dL_law_579 rfl rfl (Nat.le_of_ble_eq_true rfl) (Nat.le_of_ble_eq_true rfl) (r_put hR hW _ _ _ (fun ρ' hR' => ⟨_, rfl, ?_⟩))
  refine ql_eq C (tgt := 1313) dL_law_582 (by decide) ?_
  exact next _ _ _ hW hC' hR'
set_option maxRecDepth 20000 in
theorem q_waited {p : Program} {l : Launch} {e : Env} {s : State} {m : MethodId} {below : List Frame} {meth : Method} {c : Code} {b L : Nat} {xs : Nat → Int32} {D : va_G} {tA : FieldType → ClassId} {adC adR : Nat → Nat} (C : ql_C p s m meth c b L xs D tA adC adR) (hL : L ≤ 2560) {i : Nat} (hi : i + 5 ≤ L) {S : SP} {σ ρ : nh_S} (hW : WF S) (hC : CR σ S) (hR : RR ρ S) (next : ∀ S' σ' ρ', WF S' → CR σ' S' → RR ρ' S' → ql_J p l e s m below meth c b D tA adC adR (1313) [some (.ref b), some (.ref (adC 0)), some (.ref (adR 0)), some (.int (nI i))] ([]) σ' ρ') : ql_J p l e s m below meth c b D tA adC adR (587) [some (.ref b), some (.ref (adC 0)), some (.ref (adR 0)), some (.int (nI i))] ([]) σ ρ := by
  refine ql_aload C dL_law_587 rfl rfl ?_
  refine ql_arg C hL (k := 1) dL_law_588 dL_law_589 dL_law_590 dL_law_591 dL_law_592 rfl (by omega) ?_
  refine ql_arg C hL (k := 2) dL_law_593 dL_law_594 dL_law_595 dL_law_596 dL_law_597 rfl (by omega) ?_
  refine ql_callC C (As := [.int (xs (i + 1)), .int (xs (i + 2))]) yf_X8_waited ⟨by decide, by decide⟩ rfl rfl vl_L_72 dL_law_598 rfl rfl (Nat.le_of_ble_eq_true rfl) (Nat.le_of_ble_eq_true rfl) (c_waited hC hW _ _ (fun σ' hC' => ⟨_, rfl, ?_⟩))
  refine ql_aload C dL_law_601 rfl rfl ?_
  refine ql_arg C hL (k := 1) dL_law_602 dL_law_603 dL_law_604 dL_law_605 dL_law_606 rfl (by omega) ?_
  refine ql_arg C hL (k := 2) dL_law_607 dL_law_608 dL_law_609 dL_law_610 dL_law_611 rfl (by omega) ?_
  refine ql_callR C (As := [.int (xs (i + 1)), .int (xs (i + 2))]) yf_X9_waited ⟨by decide, by decide⟩ rfl rfl vl_L_75 dL_law_612 rfl rfl (Nat.le_of_ble_eq_true rfl) (Nat.le_of_ble_eq_true rfl) (r_waited hR hW _ _ (fun ρ' hR' => ⟨_, rfl, ?_⟩))
  refine ql_eq C (tgt := 1313) dL_law_615 (by decide) ?_
  exact next _ _ _ hW hC' hR'
set_option maxRecDepth 20000 in
theorem q_odds {p : Program} {l : Launch} {e : Env} {s : State} {m : MethodId} {below : List Frame} {meth : Method} {c : Code} {b L : Nat} {xs : Nat → Int32} {D : va_G} {tA : FieldType → ClassId} {adC adR : Nat → Nat} (C : ql_C p s m meth c b L xs D tA adC adR) (hL : L ≤ 2560) {i : Nat} (hi : i + 5 ≤ L) {S : SP} {σ ρ : nh_S} (hW : WF S) (hC : CR σ S) (hR : RR ρ S) (next : ∀ S' σ' ρ', WF S' → CR σ' S' → RR ρ' S' → ql_J p l e s m below meth c b D tA adC adR (1313) [some (.ref b), some (.ref (adC 0)), some (.ref (adR 0)), some (.int (nI i))] ([]) σ' ρ') : ql_J p l e s m below meth c b D tA adC adR (620) [some (.ref b), some (.ref (adC 0)), some (.ref (adR 0)), some (.int (nI i))] ([]) σ ρ := by
  refine ql_aload C dL_law_620 rfl rfl ?_
  refine ql_arg C hL (k := 1) dL_law_621 dL_law_622 dL_law_623 dL_law_624 dL_law_625 rfl (by omega) ?_
  refine ql_arg C hL (k := 2) dL_law_626 dL_law_627 dL_law_628 dL_law_629 dL_law_630 rfl (by omega) ?_
  refine ql_arg C hL (k := 3) dL_law_631 dL_law_632 dL_law_633 dL_law_634 dL_law_635 rfl (by omega) ?_
  refine ql_arg C hL (k := 4) dL_law_636 dL_law_637 dL_law_638 dL_law_639 dL_law_640 rfl (by omega) ?_
  refine ql_callC C (As := [.int (xs (i + 1)), .int (xs (i + 2)), .int (xs (i + 3)), .int (xs (i + 4))]) yf_X8_odds ⟨by decide, by decide⟩ rfl rfl vl_L_76 dL_law_641 rfl rfl (Nat.le_of_ble_eq_true rfl) (Nat.le_of_ble_eq_true rfl) (c_odds hC hW _ _ _ _ (fun σ' hC' => ⟨_, rfl, ?_⟩))
  refine ql_aload C dL_law_644 rfl rfl ?_
  refine ql_arg C hL (k := 1) dL_law_645 dL_law_646 dL_law_647 dL_law_648 dL_law_649 rfl (by omega) ?_
  refine ql_arg C hL (k := 2) dL_law_650 dL_law_651 dL_law_652 dL_law_653 dL_law_654 rfl (by omega) ?_
  refine ql_arg C hL (k := 3) dL_law_655 dL_law_656 dL_law_657 dL_law_658 dL_law_659 rfl (by omega) ?_
  refine ql_arg C hL (k := 4) dL_law_660 dL_law_661 dL_law_662 dL_law_663 dL_law_664 rfl (by omega) ?_
  refine ql_callR C (As := [.int (xs (i + 1)), .int (xs (i + 2)), .int (xs (i + 3)), .int (xs (i + 4))]) yf_X9_odds ⟨by decide, by decide⟩ rfl rfl vl_L_80 dL_law_665 rfl rfl (Nat.le_of_ble_eq_true rfl) (Nat.le_of_ble_eq_true rfl) (r_odds hR hW _ _ _ _ (fun ρ' hR' => ⟨_, rfl, ?_⟩))
  refine ql_eq C (tgt := 1313) dL_law_668 (by decide) ?_
  exact next _ _ _ hW hC' hR'
set_option maxRecDepth 20000 in
theorem q_night {p : Program} {l : Launch} {e : Env} {s : State} {m : MethodId} {below : List Frame} {meth : Method} {c : Code} {b L : Nat} {xs : Nat → Int32} {D : va_G} {tA : FieldType → ClassId} {adC adR : Nat → Nat} (C : ql_C p s m meth c b L xs D tA adC adR) (hL : L ≤ 2560) {i : Nat} (hi : i + 5 ≤ L) {S : SP} {σ ρ : nh_S} (hW : WF S) (hC : CR σ S) (hR : RR ρ S) (next : ∀ S' σ' ρ', WF S' → CR σ' S' → RR ρ' S' → ql_J p l e s m below meth c b D tA adC adR (1313) [some (.ref b), some (.ref (adC 0)), some (.ref (adR 0)), some (.int (nI i))] ([]) σ' ρ') : ql_J p l e s m below meth c b D tA adC adR (673) [some (.ref b), some (.ref (adC 0)), some (.ref (adR 0)), some (.int (nI i))] ([]) σ ρ := by
  refine ql_aload C dL_law_673 rfl rfl ?_
  refine ql_arg C hL (k := 1) dL_law_674 dL_law_675 dL_law_676 dL_law_677 dL_law_678 rfl (by omega) ?_
  refine ql_callC C (As := [.int (xs (i + 1))]) yf_X8_night ⟨by decide, by decide⟩ rfl rfl vl_L_81 dL_law_679 rfl rfl (Nat.le_of_ble_eq_true rfl) (Nat.le_of_ble_eq_true rfl) (c_night hC hW _ (fun σ' hC' => ⟨_, rfl, ?_⟩))
  refine ql_aload C dL_law_682 rfl rfl ?_
  refine ql_arg C hL (k := 1) dL_law_683 dL_law_684 dL_law_685 dL_law_686 dL_law_687 rfl (by omega) ?_
  refine ql_callR C (As := [.int (xs (i + 1))]) yf_X9_night ⟨by decide, by decide⟩ rfl rfl vl_L_84 dL_law_688 rfl rfl (Nat.le_of_ble_eq_true rfl) (Nat.le_of_ble_eq_true rfl) (r_night hR hW _ (fun ρ' hR' => ⟨_, rfl, ?_⟩))
  refine ql_eq C (tgt := 1313) dL_law_691 (by decide) ?_
  exact next _ _ _ (WF_nNight hW _) hC' hR'
set_option maxRecDepth 20000 in
theorem q_crier {p : Program} {l : Launch} {e : Env} {s : State} {m : MethodId} {below : List Frame} {meth : Method} {c : Code} {b L : Nat} {xs : Nat → Int32} {D : va_G} {tA : FieldType → ClassId} {adC adR : Nat → Nat} (C : ql_C p s m meth c b L xs D tA adC adR) (hL : L ≤ 2560) {i : Nat} (hi : i + 5 ≤ L) {S : SP} {σ ρ : nh_S} (hW : WF S) (hC : CR σ S) (hR : RR ρ S) (next : ∀ S' σ' ρ', WF S' → CR σ' S' → RR ρ' S' → ql_J p l e s m below meth c b D tA adC adR (1313) [some (.ref b), some (.ref (adC 0)), some (.ref (adR 0)), some (.int (nI i))] ([]) σ' ρ') : ql_J p l e s m below meth c b D tA adC adR (696) [some (.ref b), some (.ref (adC 0)), some (.ref (adR 0)), some (.int (nI i))] ([]) σ ρ := by
  refine ql_aload C dL_law_696 rfl rfl ?_
  refine ql_arg C hL (k := 1) dL_law_697 dL_law_698 dL_law_699 dL_law_700 dL_law_701 rfl (by omega) ?_
  refine ql_arg C hL (k := 2) dL_law_702 dL_law_703 dL_law_704 dL_law_705 dL_law_706 rfl (by omega) ?_
  refine ql_arg C hL (k := 3) dL_law_707 dL_law_708 dL_law_709 dL_law_710 dL_law_711 rfl (by omega) ?_
  refine ql_callC C (As := [.int (xs (i + 1)), .int (xs (i + 2)), .int (xs (i + 3))]) yf_X8_crier ⟨by decide, by decide⟩ rfl rfl vl_L_85 dL_law_712 rfl rfl (Nat.le_of_ble_eq_true rfl) (Nat.le_of_ble_eq_true rfl) (c_crier hC hW _ _ _ (fun σ' hC' => ⟨_, rfl, ?_⟩))
  refine ql_aload C dL_law_715 rfl rfl ?_
  refine ql_arg C hL (k := 1) dL_law_716 dL_law_717 dL_law_718 dL_law_719 dL_law_720 rfl (by omega) ?_
  refine ql_arg C hL (k := 2) dL_law_721 dL_law_722 dL_law_723 dL_law_724 dL_law_725 rfl (by omega) ?_
  refine ql_arg C hL (k := 3) dL_law_726 dL_law_727 dL_law_728 dL_law_729 dL_law_730 rfl (by omega) ?_
  refine ql_callR C (As := [.int (xs (i + 1)), .int (xs (i + 2)), .int (xs (i + 3))]) yf_X9_crier ⟨by decide, by decide⟩ rfl rfl vl_L_88 dL_law_731 rfl rfl (Nat.le_of_ble_eq_true rfl) (Nat.le_of_ble_eq_true rfl) (r_crier hR hW _ _ _ (fun ρ' hR' => ⟨_, rfl, ?_⟩))
  refine ql_eq C (tgt := 1313) dL_law_734 (by decide) ?_
  exact next _ _ _ hW hC' hR'
set_option maxRecDepth 20000 in
theorem q_keepAt {p : Program} {l : Launch} {e : Env} {s : State} {m : MethodId} {below : List Frame} {meth : Method} {c : Code} {b L : Nat} {xs : Nat → Int32} {D : va_G} {tA : FieldType → ClassId} {adC adR : Nat → Nat} (C : ql_C p s m meth c b L xs D tA adC adR) (hL : L ≤ 2560) {i : Nat} (hi : i + 5 ≤ L) {S : SP} {σ ρ : nh_S} (hW : WF S) (hC : CR σ S) (hR : RR ρ S) (next : ∀ S' σ' ρ', WF S' → CR σ' S' → RR ρ' S' → ql_J p l e s m below meth c b D tA adC adR (1313) [some (.ref b), some (.ref (adC 0)), some (.ref (adR 0)), some (.int (nI i))] ([]) σ' ρ') : ql_J p l e s m below meth c b D tA adC adR (739) [some (.ref b), some (.ref (adC 0)), some (.ref (adR 0)), some (.int (nI i))] ([]) σ ρ := by
  refine ql_aload C dL_law_739 rfl rfl ?_
  refine ql_arg C hL (k := 1) dL_law_740 dL_law_741 dL_law_742 dL_law_743 dL_law_744 rfl (by omega) ?_
  refine ql_arg C hL (k := 2) dL_law_745 dL_law_746 dL_law_747 dL_law_748 dL_law_749 rfl (by omega) ?_
  refine ql_callC C (As := [.int (xs (i + 1)), .int (xs (i + 2))]) yf_X8_keepAt ⟨by decide, by decide⟩ rfl rfl vl_L_89 dL_law_750 rfl rfl (Nat.le_of_ble_eq_true rfl) (Nat.le_of_ble_eq_true rfl) (c_keepAt hC hW _ _ (fun σ' hC' => ⟨_, rfl, ?_⟩))
  refine ql_aload C dL_law_753 rfl rfl ?_
  refine ql_arg C hL (k := 1) dL_law_754 dL_law_755 dL_law_756 dL_law_757 dL_law_758 rfl (by omega) ?_
  refine ql_arg C hL (k := 2) dL_law_759 dL_law_760 dL_law_761 dL_law_762 dL_law_763 rfl (by omega) ?_
  refine ql_callR C (As := [.int (xs (i + 1)), .int (xs (i + 2))]) yf_X9_keepAt ⟨by decide, by decide⟩ rfl rfl vl_L_92 dL_law_764 rfl rfl (Nat.le_of_ble_eq_true rfl) (Nat.le_of_ble_eq_true rfl) (r_keepAt hR hW _ _ (fun ρ' hR' => ⟨_, rfl, ?_⟩))
  refine ql_eq C (tgt := 1313) dL_law_767 (by decide) ?_
  exact next _ _ _ (WF_nKeepAt hW _ _) hC' hR'
set_option maxRecDepth 20000 in
theorem q_kept {p : Program} {l : Launch} {e : Env} {s : State} {m : MethodId} {below : List Frame} {meth : Method} {c : Code} {b L : Nat} {xs : Nat → Int32} {D : va_G} {tA : FieldType → ClassId} {adC adR : Nat → Nat} (C : ql_C p s m meth c b L xs D tA adC adR) (hL : L ≤ 2560) {i : Nat} (hi : i + 5 ≤ L) {S : SP} {σ ρ : nh_S} (hW : WF S) (hC : CR σ S) (hR : RR ρ S) (next : ∀ S' σ' ρ', WF S' → CR σ' S' → RR ρ' S' → ql_J p l e s m below meth c b D tA adC adR (1313) [some (.ref b), some (.ref (adC 0)), some (.ref (adR 0)), some (.int (nI i))] ([]) σ' ρ') : ql_J p l e s m below meth c b D tA adC adR (772) [some (.ref b), some (.ref (adC 0)), some (.ref (adR 0)), some (.int (nI i))] ([]) σ ρ := by
  refine ql_aload C dL_law_772 rfl rfl ?_
  refine ql_arg C hL (k := 1) dL_law_773 dL_law_774 dL_law_775 dL_law_776 dL_law_777 rfl (by omega) ?_
  refine ql_arg C hL (k := 2) dL_law_778 dL_law_779 dL_law_780 dL_law_781 dL_law_782 rfl (by omega) ?_
  refine ql_arg C hL (k := 3) dL_law_783 dL_law_784 dL_law_785 dL_law_786 dL_law_787 rfl (by omega) ?_
  refine ql_callC C (As := [.int (xs (i + 1)), .int (xs (i + 2)), .int (xs (i + 3))]) yf_X8_kept ⟨by decide, by decide⟩ rfl rfl vl_L_93 dL_law_788 rfl rfl (Nat.le_of_ble_eq_true rfl) (Nat.le_of_ble_eq_true rfl) (c_kept hC hW _ _ _ (fun σ' hC' => ⟨_, rfl, ?_⟩))
  refine ql_aload C dL_law_791 rfl rfl ?_
  refine ql_arg C hL (k := 1) dL_law_792 dL_law_793 dL_law_794 dL_law_795 dL_law_796 rfl (by omega) ?_
  refine ql_arg C hL (k := 2) dL_law_797 dL_law_798 dL_law_799 dL_law_800 dL_law_801 rfl (by omega) ?_
  refine ql_arg C hL (k := 3) dL_law_802 dL_law_803 dL_law_804 dL_law_805 dL_law_806 rfl (by omega) ?_
  refine ql_callR C (As := [.int (xs (i + 1)), .int (xs (i + 2)), .int (xs (i + 3))]) yf_X9_kept ⟨by decide, by decide⟩ rfl rfl vl_L_96 dL_law_807 rfl rfl (Nat.le_of_ble_eq_true rfl) (Nat.le_of_ble_eq_true rfl) (r_kept hR hW _ _ _ (fun ρ' hR' => ⟨_, rfl, ?_⟩))
  refine ql_eq C (tgt := 1313) dL_law_810 (by decide) ?_
  exact next _ _ _ hW hC' hR'
set_option maxRecDepth 20000 in
theorem q_reach {p : Program} {l : Launch} {e : Env} {s : State} {m : MethodId} {below : List Frame} {meth : Method} {c : Code} {b L : Nat} {xs : Nat → Int32} {D : va_G} {tA : FieldType → ClassId} {adC adR : Nat → Nat} (C : ql_C p s m meth c b L xs D tA adC adR) (hL : L ≤ 2560) {i : Nat} (hi : i + 5 ≤ L) {S : SP} {σ ρ : nh_S} (hW : WF S) (hC : CR σ S) (hR : RR ρ S) (next : ∀ S' σ' ρ', WF S' → CR σ' S' → RR ρ' S' → ql_J p l e s m below meth c b D tA adC adR (1313) [some (.ref b), some (.ref (adC 0)), some (.ref (adR 0)), some (.int (nI i))] ([]) σ' ρ') : ql_J p l e s m below meth c b D tA adC adR (815) [some (.ref b), some (.ref (adC 0)), some (.ref (adR 0)), some (.int (nI i))] ([]) σ ρ := by
  refine ql_aload C dL_law_815 rfl rfl ?_
  refine ql_arg C hL (k := 1) dL_law_816 dL_law_817 dL_law_818 dL_law_819 dL_law_820 rfl (by omega) ?_
  refine ql_callC C (As := [.int (xs (i + 1))]) yf_X8_reach ⟨by decide, by decide⟩ rfl rfl vl_L_97 dL_law_821 rfl rfl (Nat.le_of_ble_eq_true rfl) (Nat.le_of_ble_eq_true rfl) (c_reach hC hW _ ⟨_, rfl, ?_⟩)
  refine ql_aload C dL_law_824 rfl rfl ?_
  refine ql_arg C hL (k := 1) dL_law_825 dL_law_826 dL_law_827 dL_law_828 dL_law_829 rfl (by omega) ?_
  refine ql_callR C (As := [.int (xs (i + 1))]) yf_X9_reach ⟨by decide, by decide⟩ rfl rfl vl_L_100 dL_law_830 rfl rfl (Nat.le_of_ble_eq_true rfl) (Nat.le_of_ble_eq_true rfl) (r_reach hR hW _ ⟨_, rfl, ?_⟩)
  refine ql_eq C (tgt := 1313) dL_law_833 (by decide) ?_
  exact next _ _ _ hW hC hR
set_option maxRecDepth 20000 in
theorem q_needed {p : Program} {l : Launch} {e : Env} {s : State} {m : MethodId} {below : List Frame} {meth : Method} {c : Code} {b L : Nat} {xs : Nat → Int32} {D : va_G} {tA : FieldType → ClassId} {adC adR : Nat → Nat} (C : ql_C p s m meth c b L xs D tA adC adR) (hL : L ≤ 2560) {i : Nat} (hi : i + 5 ≤ L) {S : SP} {σ ρ : nh_S} (hW : WF S) (hC : CR σ S) (hR : RR ρ S) (next : ∀ S' σ' ρ', WF S' → CR σ' S' → RR ρ' S' → ql_J p l e s m below meth c b D tA adC adR (1313) [some (.ref b), some (.ref (adC 0)), some (.ref (adR 0)), some (.int (nI i))] ([]) σ' ρ') : ql_J p l e s m below meth c b D tA adC adR (838) [some (.ref b), some (.ref (adC 0)), some (.ref (adR 0)), some (.int (nI i))] ([]) σ ρ := by
  refine ql_aload C dL_law_838 rfl rfl ?_
  refine ql_arg C hL (k := 1) dL_law_839 dL_law_840 dL_law_841 dL_law_842 dL_law_843 rfl (by omega) ?_
  refine ql_callC C (As := [.int (xs (i + 1))]) yf_X8_needed ⟨by decide, by decide⟩ rfl rfl vl_L_101 dL_law_844 rfl rfl (Nat.le_of_ble_eq_true rfl) (Nat.le_of_ble_eq_true rfl) (c_needed hC hW _ ⟨_, rfl, ?_⟩)
  refine ql_aload C dL_law_847 rfl rfl ?_
  refine ql_arg C hL (k := 1) dL_law_848 dL_law_849 dL_law_850 dL_law_851 dL_law_852 rfl (by omega) ?_
  refine ql_callR C (As := [.int (xs (i + 1))]) yf_X9_needed ⟨by decide, by decide⟩ rfl rfl vl_L_104 dL_law_853 rfl rfl (Nat.le_of_ble_eq_true rfl) (Nat.le_of_ble_eq_true rfl) (r_needed hR hW _ ⟨_, rfl, ?_⟩)
  refine ql_eq C (tgt := 1313) dL_law_856 (by decide) ?_
  exact next _ _ _ hW hC hR
set_option maxRecDepth 20000 in
theorem q_fit {p : Program} {l : Launch} {e : Env} {s : State} {m : MethodId} {below : List Frame} {meth : Method} {c : Code} {b L : Nat} {xs : Nat → Int32} {D : va_G} {tA : FieldType → ClassId} {adC adR : Nat → Nat} (C : ql_C p s m meth c b L xs D tA adC adR) (hL : L ≤ 2560) {i : Nat} (hi : i + 5 ≤ L) {S : SP} {σ ρ : nh_S} (hW : WF S) (hC : CR σ S) (hR : RR ρ S) (next : ∀ S' σ' ρ', WF S' → CR σ' S' → RR ρ' S' → ql_J p l e s m below meth c b D tA adC adR (1313) [some (.ref b), some (.ref (adC 0)), some (.ref (adR 0)), some (.int (nI i))] ([]) σ' ρ') : ql_J p l e s m below meth c b D tA adC adR (861) [some (.ref b), some (.ref (adC 0)), some (.ref (adR 0)), some (.int (nI i))] ([]) σ ρ := by
  refine ql_aload C dL_law_861 rfl rfl ?_
  refine ql_arg C hL (k := 1) dL_law_862 dL_law_863 dL_law_864 dL_law_865 dL_law_866 rfl (by omega) ?_
  refine ql_arg C hL (k := 2) dL_law_867 dL_law_868 dL_law_869 dL_law_870 dL_law_871 rfl (by omega) ?_
  refine ql_callC C (As := [.int (xs (i + 1)), .int (xs (i + 2))]) yf_X8_fit ⟨by decide, by decide⟩ rfl rfl vl_L_105 dL_law_872 rfl rfl (Nat.le_of_ble_eq_true rfl) (Nat.le_of_ble_eq_true rfl) (c_fit hC hW _ _ (fun σ' hC' => ⟨_, rfl, ?_⟩))
  refine ql_aload C dL_law_875 rfl rfl ?_
  refine ql_arg C hL (k := 1) dL_law_876 dL_law_877 dL_law_878 dL_law_879 dL_law_880 rfl (by omega) ?_
  refine ql_arg C hL (k := 2) dL_law_881 dL_law_882 dL_law_883 dL_law_884 dL_law_885 rfl (by omega) ?_
  refine ql_callR C (As := [.int (xs (i + 1)), .int (xs (i + 2))]) yf_X9_fit ⟨by decide, by decide⟩ rfl rfl vl_L_108 dL_law_886 rfl rfl (Nat.le_of_ble_eq_true rfl) (Nat.le_of_ble_eq_true rfl) (r_fit hR hW _ _ (fun ρ' hR' => ⟨_, rfl, ?_⟩))
  refine ql_eq C (tgt := 1313) dL_law_889 (by decide) ?_
  exact next _ _ _ (WF_nFit hW _ _) hC' hR'
set_option maxRecDepth 20000 in
theorem q_ladders {p : Program} {l : Launch} {e : Env} {s : State} {m : MethodId} {below : List Frame} {meth : Method} {c : Code} {b L : Nat} {xs : Nat → Int32} {D : va_G} {tA : FieldType → ClassId} {adC adR : Nat → Nat} (C : ql_C p s m meth c b L xs D tA adC adR) (hL : L ≤ 2560) {i : Nat} (hi : i + 5 ≤ L) {S : SP} {σ ρ : nh_S} (hW : WF S) (hC : CR σ S) (hR : RR ρ S) (next : ∀ S' σ' ρ', WF S' → CR σ' S' → RR ρ' S' → ql_J p l e s m below meth c b D tA adC adR (1313) [some (.ref b), some (.ref (adC 0)), some (.ref (adR 0)), some (.int (nI i))] ([]) σ' ρ') : ql_J p l e s m below meth c b D tA adC adR (894) [some (.ref b), some (.ref (adC 0)), some (.ref (adR 0)), some (.int (nI i))] ([]) σ ρ := by
  refine ql_aload C dL_law_894 rfl rfl ?_
  refine ql_arg C hL (k := 1) dL_law_895 dL_law_896 dL_law_897 dL_law_898 dL_law_899 rfl (by omega) ?_
  refine ql_arg C hL (k := 2) dL_law_900 dL_law_901 dL_law_902 dL_law_903 dL_law_904 rfl (by omega) ?_
  refine ql_callC C (As := [.int (xs (i + 1)), .int (xs (i + 2))]) yf_X8_ladders ⟨by decide, by decide⟩ rfl rfl vl_L_109 dL_law_905 rfl rfl (Nat.le_of_ble_eq_true rfl) (Nat.le_of_ble_eq_true rfl) (c_ladders hC hW _ _ (fun σ' hC' => ⟨_, rfl, ?_⟩))
  refine ql_aload C dL_law_908 rfl rfl ?_
  refine ql_arg C hL (k := 1) dL_law_909 dL_law_910 dL_law_911 dL_law_912 dL_law_913 rfl (by omega) ?_
  refine ql_arg C hL (k := 2) dL_law_914 dL_law_915 dL_law_916 dL_law_917 dL_law_918 rfl (by omega) ?_
  refine ql_callR C (As := [.int (xs (i + 1)), .int (xs (i + 2))]) yf_X9_ladders ⟨by decide, by decide⟩ rfl rfl vl_L_112 dL_law_919 rfl rfl (Nat.le_of_ble_eq_true rfl) (Nat.le_of_ble_eq_true rfl) (r_ladders hR hW _ _ (fun ρ' hR' => ⟨_, rfl, ?_⟩))
  refine ql_eq C (tgt := 1313) dL_law_922 (by decide) ?_
  exact next _ _ _ hW hC' hR'
set_option maxRecDepth 20000 in
theorem q_longest {p : Program} {l : Launch} {e : Env} {s : State} {m : MethodId} {below : List Frame} {meth : Method} {c : Code} {b L : Nat} {xs : Nat → Int32} {D : va_G} {tA : FieldType → ClassId} {adC adR : Nat → Nat} (C : ql_C p s m meth c b L xs D tA adC adR) (hL : L ≤ 2560) {i : Nat} (hi : i + 5 ≤ L) {S : SP} {σ ρ : nh_S} (hW : WF S) (hC : CR σ S) (hR : RR ρ S) (next : ∀ S' σ' ρ', WF S' → CR σ' S' → RR ρ' S' → ql_J p l e s m below meth c b D tA adC adR (1313) [some (.ref b), some (.ref (adC 0)), some (.ref (adR 0)), some (.int (nI i))] ([]) σ' ρ') : ql_J p l e s m below meth c b D tA adC adR (927) [some (.ref b), some (.ref (adC 0)), some (.ref (adR 0)), some (.int (nI i))] ([]) σ ρ := by
  refine ql_aload C dL_law_927 rfl rfl ?_
  refine ql_arg C hL (k := 1) dL_law_928 dL_law_929 dL_law_930 dL_law_931 dL_law_932 rfl (by omega) ?_
  refine ql_callC C (As := [.int (xs (i + 1))]) yf_X8_longest ⟨by decide, by decide⟩ rfl rfl vl_L_113 dL_law_933 rfl rfl (Nat.le_of_ble_eq_true rfl) (Nat.le_of_ble_eq_true rfl) (c_longest hC hW _ (fun σ' hC' => ⟨_, rfl, ?_⟩))
  refine ql_aload C dL_law_936 rfl rfl ?_
  refine ql_arg C hL (k := 1) dL_law_937 dL_law_938 dL_law_939 dL_law_940 dL_law_941 rfl (by omega) ?_
  refine ql_callR C (As := [.int (xs (i + 1))]) yf_X9_longest ⟨by decide, by decide⟩ rfl rfl vl_L_116 dL_law_942 rfl rfl (Nat.le_of_ble_eq_true rfl) (Nat.le_of_ble_eq_true rfl) (r_longest hR hW _ (fun ρ' hR' => ⟨_, rfl, ?_⟩))
  refine ql_eq C (tgt := 1313) dL_law_945 (by decide) ?_
  exact next _ _ _ hW hC' hR'
set_option maxRecDepth 20000 in
theorem q_cost {p : Program} {l : Launch} {e : Env} {s : State} {m : MethodId} {below : List Frame} {meth : Method} {c : Code} {b L : Nat} {xs : Nat → Int32} {D : va_G} {tA : FieldType → ClassId} {adC adR : Nat → Nat} (C : ql_C p s m meth c b L xs D tA adC adR) (hL : L ≤ 2560) {i : Nat} (hi : i + 5 ≤ L) {S : SP} {σ ρ : nh_S} (hW : WF S) (hC : CR σ S) (hR : RR ρ S) (next : ∀ S' σ' ρ', WF S' → CR σ' S' → RR ρ' S' → ql_J p l e s m below meth c b D tA adC adR (1313) [some (.ref b), some (.ref (adC 0)), some (.ref (adR 0)), some (.int (nI i))] ([]) σ' ρ') : ql_J p l e s m below meth c b D tA adC adR (950) [some (.ref b), some (.ref (adC 0)), some (.ref (adR 0)), some (.int (nI i))] ([]) σ ρ := by
  refine ql_aload C dL_law_950 rfl rfl ?_
  refine ql_arg C hL (k := 1) dL_law_951 dL_law_952 dL_law_953 dL_law_954 dL_law_955 rfl (by omega) ?_
  refine ql_arg C hL (k := 2) dL_law_956 dL_law_957 dL_law_958 dL_law_959 dL_law_960 rfl (by omega) ?_
  refine ql_callC C (As := [.int (xs (i + 1)), .int (xs (i + 2))]) yf_X8_cost ⟨by decide, by decide⟩ rfl rfl vl_L_117 dL_law_961 rfl rfl (Nat.le_of_ble_eq_true rfl) (Nat.le_of_ble_eq_true rfl) (c_cost hC hW _ _ (fun σ' hC' => ⟨_, rfl, ?_⟩))
  refine ql_aload C dL_law_964 rfl rfl ?_
  refine ql_arg C hL (k := 1) dL_law_965 dL_law_966 dL_law_967 dL_law_968 dL_law_969 rfl (by omega) ?_
  refine ql_arg C hL (k := 2) dL_law_970 dL_law_971 dL_law_972 dL_law_973 dL_law_974 rfl (by omega) ?_
  refine ql_callR C (As := [.int (xs (i + 1)), .int (xs (i + 2))]) yf_X9_cost ⟨by decide, by decide⟩ rfl rfl vl_L_120 dL_law_975 rfl rfl (Nat.le_of_ble_eq_true rfl) (Nat.le_of_ble_eq_true rfl) (r_cost hR hW _ _ (fun ρ' hR' => ⟨_, rfl, ?_⟩))
  refine ql_eq C (tgt := 1313) dL_law_978 (by decide) ?_
  exact next _ _ _ (WF_nCost hW _ _) hC' hR'
set_option maxRecDepth 20000 in
theorem q_store {p : Program} {l : Launch} {e : Env} {s : State} {m : MethodId} {below : List Frame} {meth : Method} {c : Code} {b L : Nat} {xs : Nat → Int32} {D : va_G} {tA : FieldType → ClassId} {adC adR : Nat → Nat} (C : ql_C p s m meth c b L xs D tA adC adR) (hL : L ≤ 2560) {i : Nat} (hi : i + 5 ≤ L) {S : SP} {σ ρ : nh_S} (hW : WF S) (hC : CR σ S) (hR : RR ρ S) (next : ∀ S' σ' ρ', WF S' → CR σ' S' → RR ρ' S' → ql_J p l e s m below meth c b D tA adC adR (1313) [some (.ref b), some (.ref (adC 0)), some (.ref (adR 0)), some (.int (nI i))] ([]) σ' ρ') : ql_J p l e s m below meth c b D tA adC adR (983) [some (.ref b), some (.ref (adC 0)), some (.ref (adR 0)), some (.int (nI i))] ([]) σ ρ := by
  refine ql_aload C dL_law_983 rfl rfl ?_
  refine ql_arg C hL (k := 1) dL_law_984 dL_law_985 dL_law_986 dL_law_987 dL_law_988 rfl (by omega) ?_
  refine ql_callC C (As := [.int (xs (i + 1))]) yf_X8_store ⟨by decide, by decide⟩ rfl rfl vl_L_121 dL_law_989 rfl rfl (Nat.le_of_ble_eq_true rfl) (Nat.le_of_ble_eq_true rfl) (c_store hC hW _ (fun σ' hC' => ⟨_, rfl, ?_⟩))
  refine ql_aload C dL_law_992 rfl rfl ?_
  refine ql_arg C hL (k := 1) dL_law_993 dL_law_994 dL_law_995 dL_law_996 dL_law_997 rfl (by omega) ?_
  refine ql_callR C (As := [.int (xs (i + 1))]) yf_X9_store ⟨by decide, by decide⟩ rfl rfl vl_L_124 dL_law_998 rfl rfl (Nat.le_of_ble_eq_true rfl) (Nat.le_of_ble_eq_true rfl) (r_store hR hW _ (fun ρ' hR' => ⟨_, rfl, ?_⟩))
  refine ql_eq C (tgt := 1313) dL_law_1001 (by decide) ?_
  exact next _ _ _ (WF_nStore hW _) hC' hR'
set_option maxRecDepth 20000 in
theorem q_spares {p : Program} {l : Launch} {e : Env} {s : State} {m : MethodId} {below : List Frame} {meth : Method} {c : Code} {b L : Nat} {xs : Nat → Int32} {D : va_G} {tA : FieldType → ClassId} {adC adR : Nat → Nat} (C : ql_C p s m meth c b L xs D tA adC adR) (hL : L ≤ 2560) {i : Nat} (hi : i + 5 ≤ L) {S : SP} {σ ρ : nh_S} (hW : WF S) (hC : CR σ S) (hR : RR ρ S) (next : ∀ S' σ' ρ', WF S' → CR σ' S' → RR ρ' S' → ql_J p l e s m below meth c b D tA adC adR (1313) [some (.ref b), some (.ref (adC 0)), some (.ref (adR 0)), some (.int (nI i))] ([]) σ' ρ') : ql_J p l e s m below meth c b D tA adC adR (1006) [some (.ref b), some (.ref (adC 0)), some (.ref (adR 0)), some (.int (nI i))] ([]) σ ρ := by
  refine ql_aload C dL_law_1006 rfl rfl ?_
  refine ql_arg C hL (k := 1) dL_law_1007 dL_law_1008 dL_law_1009 dL_law_1010 dL_law_1011 rfl (by omega) ?_
  refine ql_arg C hL (k := 2) dL_law_1012 dL_law_1013 dL_law_1014 dL_law_1015 dL_law_1016 rfl (by omega) ?_
  refine ql_arg C hL (k := 3) dL_law_1017 dL_law_1018 dL_law_1019 dL_law_1020 dL_law_1021 rfl (by omega) ?_
  refine ql_arg C hL (k := 4) dL_law_1022 dL_law_1023 dL_law_1024 dL_law_1025 dL_law_1026 rfl (by omega) ?_
  refine ql_callC C (As := [.int (xs (i + 1)), .int (xs (i + 2)), .int (xs (i + 3)), .int (xs (i + 4))]) yf_X8_spares ⟨by decide, by decide⟩ rfl rfl vl_L_125 dL_law_1027 rfl rfl (Nat.le_of_ble_eq_true rfl) (Nat.le_of_ble_eq_true rfl) (c_spares hC hW _ _ _ _ (fun σ' hC' => ⟨_, rfl, ?_⟩))
  refine ql_aload C dL_law_1030 rfl rfl ?_
  refine ql_arg C hL (k := 1) dL_law_1031 dL_law_1032 dL_law_1033 dL_law_1034 dL_law_1035 rfl (by omega) ?_
  refine ql_arg C hL (k := 2) dL_law_1036 dL_law_1037 dL_law_1038 dL_law_1039 dL_law_1040 rfl (by omega) ?_
  refine ql_arg C hL (k := 3) dL_law_1041 dL_law_1042 dL_law_1043 dL_law_1044 dL_law_1045 rfl (by omega) ?_
  refine ql_arg C hL (k := 4) dL_law_1046 dL_law_1047 dL_law_1048 dL_law_1049 dL_law_1050 rfl (by omega) ?_
  refine ql_callR C (As := [.int (xs (i + 1)), .int (xs (i + 2)), .int (xs (i + 3)), .int (xs (i + 4))]) yf_X9_spares ⟨by decide, by decide⟩ rfl rfl vl_L_128 dL_law_1051 rfl rfl (Nat.le_of_ble_eq_true rfl) (Nat.le_of_ble_eq_true rfl) (r_spares hR hW _ _ _ _ (fun ρ' hR' => ⟨_, rfl, ?_⟩))
  refine ql_eq C (tgt := 1313) dL_law_1054 (by decide) ?_
  exact next _ _ _ hW hC' hR'
set_option maxRecDepth 20000 in
theorem q_two {p : Program} {l : Launch} {e : Env} {s : State} {m : MethodId} {below : List Frame} {meth : Method} {c : Code} {b L : Nat} {xs : Nat → Int32} {D : va_G} {tA : FieldType → ClassId} {adC adR : Nat → Nat} (C : ql_C p s m meth c b L xs D tA adC adR) (hL : L ≤ 2560) {i : Nat} (hi : i + 5 ≤ L) {S : SP} {σ ρ : nh_S} (hW : WF S) (hC : CR σ S) (hR : RR ρ S) (next : ∀ S' σ' ρ', WF S' → CR σ' S' → RR ρ' S' → ql_J p l e s m below meth c b D tA adC adR (1313) [some (.ref b), some (.ref (adC 0)), some (.ref (adR 0)), some (.int (nI i))] ([]) σ' ρ') : ql_J p l e s m below meth c b D tA adC adR (1059) [some (.ref b), some (.ref (adC 0)), some (.ref (adR 0)), some (.int (nI i))] ([]) σ ρ := by
  refine ql_aload C dL_law_1059 rfl rfl ?_
  refine ql_arg C hL (k := 1) dL_law_1060 dL_law_1061 dL_law_1062 dL_law_1063 dL_law_1064 rfl (by omega) ?_
  refine ql_arg C hL (k := 2) dL_law_1065 dL_law_1066 dL_law_1067 dL_law_1068 dL_law_1069 rfl (by omega) ?_
  refine ql_arg C hL (k := 3) dL_law_1070 dL_law_1071 dL_law_1072 dL_law_1073 dL_law_1074 rfl (by omega) ?_
  refine ql_arg C hL (k := 4) dL_law_1075 dL_law_1076 dL_law_1077 dL_law_1078 dL_law_1079 rfl (by omega) ?_
  refine ql_callC C (As := [.int (xs (i + 1)), .int (xs (i + 2)), .int (xs (i + 3)), .int (xs (i + 4))]) yf_X8_two ⟨by decide, by decide⟩ rfl rfl vl_L_129 dL_law_1080 rfl rfl (Nat.le_of_ble_eq_true rfl) (Nat.le_of_ble_eq_true rfl) (c_two hC hW _ _ _ _ (fun σ' hC' => ⟨_, rfl, ?_⟩))
  refine ql_aload C dL_law_1083 rfl rfl ?_
  refine ql_arg C hL (k := 1) dL_law_1084 dL_law_1085 dL_law_1086 dL_law_1087 dL_law_1088 rfl (by omega) ?_
  refine ql_arg C hL (k := 2) dL_law_1089 dL_law_1090 dL_law_1091 dL_law_1092 dL_law_1093 rfl (by omega) ?_
  refine ql_arg C hL (k := 3) dL_law_1094 dL_law_1095 dL_law_1096 dL_law_1097 dL_law_1098 rfl (by omega) ?_
  refine ql_arg C hL (k := 4) dL_law_1099 dL_law_1100 dL_law_1101 dL_law_1102 dL_law_1103 rfl (by omega) ?_
  refine ql_callR C (As := [.int (xs (i + 1)), .int (xs (i + 2)), .int (xs (i + 3)), .int (xs (i + 4))]) yf_X9_two ⟨by decide, by decide⟩ rfl rfl vl_L_132 dL_law_1104 rfl rfl (Nat.le_of_ble_eq_true rfl) (Nat.le_of_ble_eq_true rfl) (r_two hR hW _ _ _ _ (fun ρ' hR' => ⟨_, rfl, ?_⟩))
  refine ql_eq C (tgt := 1313) dL_law_1107 (by decide) ?_
  exact next _ _ _ hW hC' hR'
set_option maxRecDepth 20000 in
theorem q_log {p : Program} {l : Launch} {e : Env} {s : State} {m : MethodId} {below : List Frame} {meth : Method} {c : Code} {b L : Nat} {xs : Nat → Int32} {D : va_G} {tA : FieldType → ClassId} {adC adR : Nat → Nat} (C : ql_C p s m meth c b L xs D tA adC adR) (hL : L ≤ 2560) {i : Nat} (hi : i + 5 ≤ L) {S : SP} {σ ρ : nh_S} (hW : WF S) (hC : CR σ S) (hR : RR ρ S) (next : ∀ S' σ' ρ', WF S' → CR σ' S' → RR ρ' S' → ql_J p l e s m below meth c b D tA adC adR (1313) [some (.ref b), some (.ref (adC 0)), some (.ref (adR 0)), some (.int (nI i))] ([]) σ' ρ') : ql_J p l e s m below meth c b D tA adC adR (1112) [some (.ref b), some (.ref (adC 0)), some (.ref (adR 0)), some (.int (nI i))] ([]) σ ρ := by
  refine ql_aload C dL_law_1112 rfl rfl ?_
  refine ql_arg C hL (k := 1) dL_law_1113 dL_law_1114 dL_law_1115 dL_law_1116 dL_law_1117 rfl (by omega) ?_
  refine ql_arg C hL (k := 2) dL_law_1118 dL_law_1119 dL_law_1120 dL_law_1121 dL_law_1122 rfl (by omega) ?_
  refine ql_callC C (As := [.int (xs (i + 1)), .int (xs (i + 2))]) yf_X8_log ⟨by decide, by decide⟩ rfl rfl vl_L_133 dL_law_1123 rfl rfl (Nat.le_of_ble_eq_true rfl) (Nat.le_of_ble_eq_true rfl) (c_log hC hW _ _ (fun σ' hC' => ⟨_, rfl, ?_⟩))
  refine ql_aload C dL_law_1126 rfl rfl ?_
  refine ql_arg C hL (k := 1) dL_law_1127 dL_law_1128 dL_law_1129 dL_law_1130 dL_law_1131 rfl (by omega) ?_
  refine ql_arg C hL (k := 2) dL_law_1132 dL_law_1133 dL_law_1134 dL_law_1135 dL_law_1136 rfl (by omega) ?_
  refine ql_callR C (As := [.int (xs (i + 1)), .int (xs (i + 2))]) yf_X9_log ⟨by decide, by decide⟩ rfl rfl vl_L_136 dL_law_1137 rfl rfl (Nat.le_of_ble_eq_true rfl) (Nat.le_of_ble_eq_true rfl) (r_log hR hW _ _ (fun ρ' hR' => ⟨_, rfl, ?_⟩))
  refine ql_eq C (tgt := 1313) dL_law_1140 (by decide) ?_
  exact next _ _ _ (WF_nLog hW _ _) hC' hR'
set_option maxRecDepth 20000 in
theorem q_clear {p : Program} {l : Launch} {e : Env} {s : State} {m : MethodId} {below : List Frame} {meth : Method} {c : Code} {b L : Nat} {xs : Nat → Int32} {D : va_G} {tA : FieldType → ClassId} {adC adR : Nat → Nat} (C : ql_C p s m meth c b L xs D tA adC adR) (hL : L ≤ 2560) {i : Nat} (hi : i + 5 ≤ L) {S : SP} {σ ρ : nh_S} (hW : WF S) (hC : CR σ S) (hR : RR ρ S) (next : ∀ S' σ' ρ', WF S' → CR σ' S' → RR ρ' S' → ql_J p l e s m below meth c b D tA adC adR (1313) [some (.ref b), some (.ref (adC 0)), some (.ref (adR 0)), some (.int (nI i))] ([]) σ' ρ') : ql_J p l e s m below meth c b D tA adC adR (1145) [some (.ref b), some (.ref (adC 0)), some (.ref (adR 0)), some (.int (nI i))] ([]) σ ρ := by
  refine ql_aload C dL_law_1145 rfl rfl ?_
  refine ql_callC C (As := []) yf_X8_clear ⟨by decide, by decide⟩ rfl rfl vl_L_137 dL_law_1146 rfl rfl (Nat.le_of_ble_eq_true rfl) (Nat.le_of_ble_eq_true rfl) (c_clear hC hW  (fun σ' hC' => ⟨_, rfl, ?_⟩))
  refine ql_aload C dL_law_1149 rfl rfl ?_
  refine ql_callR C (As := []) yf_X9_clear ⟨by decide, by decide⟩ rfl rfl vl_L_140 dL_law_1150 rfl rfl (Nat.le_of_ble_eq_true rfl) (Nat.le_of_ble_eq_true rfl) (r_clear hR hW  (fun ρ' hR' => ⟨_, rfl, ?_⟩))
  refine ql_eq C (tgt := 1313) dL_law_1153 (by decide) ?_
  exact next _ _ _ (WF_nClear hW) hC' hR'
set_option maxRecDepth 20000 in
theorem q_late {p : Program} {l : Launch} {e : Env} {s : State} {m : MethodId} {below : List Frame} {meth : Method} {c : Code} {b L : Nat} {xs : Nat → Int32} {D : va_G} {tA : FieldType → ClassId} {adC adR : Nat → Nat} (C : ql_C p s m meth c b L xs D tA adC adR) (hL : L ≤ 2560) {i : Nat} (hi : i + 5 ≤ L) {S : SP} {σ ρ : nh_S} (hW : WF S) (hC : CR σ S) (hR : RR ρ S) (next : ∀ S' σ' ρ', WF S' → CR σ' S' → RR ρ' S' → ql_J p l e s m below meth c b D tA adC adR (1313) [some (.ref b), some (.ref (adC 0)), some (.ref (adR 0)), some (.int (nI i))] ([]) σ' ρ') : ql_J p l e s m below meth c b D tA adC adR (1158) [some (.ref b), some (.ref (adC 0)), some (.ref (adR 0)), some (.int (nI i))] ([]) σ ρ := by
  refine ql_aload C dL_law_1158 rfl rfl ?_
  refine ql_arg C hL (k := 1) dL_law_1159 dL_law_1160 dL_law_1161 dL_law_1162 dL_law_1163 rfl (by omega) ?_
  refine ql_arg C hL (k := 2) dL_law_1164 dL_law_1165 dL_law_1166 dL_law_1167 dL_law_1168 rfl (by omega) ?_
  refine ql_arg C hL (k := 3) dL_law_1169 dL_law_1170 dL_law_1171 dL_law_1172 dL_law_1173 rfl (by omega) ?_
  refine ql_callC C (As := [.int (xs (i + 1)), .int (xs (i + 2)), .int (xs (i + 3))]) yf_X8_late ⟨by decide, by decide⟩ rfl rfl vl_L_141 dL_law_1174 rfl rfl (Nat.le_of_ble_eq_true rfl) (Nat.le_of_ble_eq_true rfl) (c_late hC hW _ _ _ (fun σ' hC' => ⟨_, rfl, ?_⟩))
  refine ql_aload C dL_law_1177 rfl rfl ?_
  refine ql_arg C hL (k := 1) dL_law_1178 dL_law_1179 dL_law_1180 dL_law_1181 dL_law_1182 rfl (by omega) ?_
  refine ql_arg C hL (k := 2) dL_law_1183 dL_law_1184 dL_law_1185 dL_law_1186 dL_law_1187 rfl (by omega) ?_
  refine ql_arg C hL (k := 3) dL_law_1188 dL_law_1189 dL_law_1190 dL_law_1191 dL_law_1192 rfl (by omega) ?_
  refine ql_callR C (As := [.int (xs (i + 1)), .int (xs (i + 2)), .int (xs (i + 3))]) yf_X9_late ⟨by decide, by decide⟩ rfl rfl vl_L_144 dL_law_1193 rfl rfl (Nat.le_of_ble_eq_true rfl) (Nat.le_of_ble_eq_true rfl) (r_late hR hW _ _ _ (fun ρ' hR' => ⟨_, rfl, ?_⟩))
  refine ql_eq C (tgt := 1313) dL_law_1196 (by decide) ?_
  exact next _ _ _ hW hC' hR'
set_option maxRecDepth 20000 in
theorem q_judge {p : Program} {l : Launch} {e : Env} {s : State} {m : MethodId} {below : List Frame} {meth : Method} {c : Code} {b L : Nat} {xs : Nat → Int32} {D : va_G} {tA : FieldType → ClassId} {adC adR : Nat → Nat} (C : ql_C p s m meth c b L xs D tA adC adR) (hL : L ≤ 2560) {i : Nat} (hi : i + 5 ≤ L) {S : SP} {σ ρ : nh_S} (hW : WF S) (hC : CR σ S) (hR : RR ρ S) (next : ∀ S' σ' ρ', WF S' → CR σ' S' → RR ρ' S' → ql_J p l e s m below meth c b D tA adC adR (1313) [some (.ref b), some (.ref (adC 0)), some (.ref (adR 0)), some (.int (nI i))] ([]) σ' ρ') : ql_J p l e s m below meth c b D tA adC adR (1201) [some (.ref b), some (.ref (adC 0)), some (.ref (adR 0)), some (.int (nI i))] ([]) σ ρ := by
  refine ql_aload C dL_law_1201 rfl rfl ?_
  refine ql_arg C hL (k := 1) dL_law_1202 dL_law_1203 dL_law_1204 dL_law_1205 dL_law_1206 rfl (by omega) ?_
  refine ql_arg C hL (k := 2) dL_law_1207 dL_law_1208 dL_law_1209 dL_law_1210 dL_law_1211 rfl (by omega) ?_
  refine ql_arg C hL (k := 3) dL_law_1212 dL_law_1213 dL_law_1214 dL_law_1215 dL_law_1216 rfl (by omega) ?_
  refine ql_callC C (As := [.int (xs (i + 1)), .int (xs (i + 2)), .int (xs (i + 3))]) yf_X8_judge ⟨by decide, by decide⟩ rfl rfl vl_L_145 dL_law_1217 rfl rfl (Nat.le_of_ble_eq_true rfl) (Nat.le_of_ble_eq_true rfl) (c_judge hC hW _ _ _ (fun σ' hC' => ⟨_, rfl, ?_⟩))
  refine ql_aload C dL_law_1220 rfl rfl ?_
  refine ql_arg C hL (k := 1) dL_law_1221 dL_law_1222 dL_law_1223 dL_law_1224 dL_law_1225 rfl (by omega) ?_
  refine ql_arg C hL (k := 2) dL_law_1226 dL_law_1227 dL_law_1228 dL_law_1229 dL_law_1230 rfl (by omega) ?_
  refine ql_arg C hL (k := 3) dL_law_1231 dL_law_1232 dL_law_1233 dL_law_1234 dL_law_1235 rfl (by omega) ?_
  refine ql_callR C (As := [.int (xs (i + 1)), .int (xs (i + 2)), .int (xs (i + 3))]) yf_X9_judge ⟨by decide, by decide⟩ rfl rfl vl_L_148 dL_law_1236 rfl rfl (Nat.le_of_ble_eq_true rfl) (Nat.le_of_ble_eq_true rfl) (r_judge hR hW _ _ _ (fun ρ' hR' => ⟨_, rfl, ?_⟩))
  refine ql_eq C (tgt := 1313) dL_law_1239 (by decide) ?_
  exact next _ _ _ hW hC' hR'
set_option maxRecDepth 20000 in
theorem q_seed {p : Program} {l : Launch} {e : Env} {s : State} {m : MethodId} {below : List Frame} {meth : Method} {c : Code} {b L : Nat} {xs : Nat → Int32} {D : va_G} {tA : FieldType → ClassId} {adC adR : Nat → Nat} (C : ql_C p s m meth c b L xs D tA adC adR) (hL : L ≤ 2560) {i : Nat} (hi : i + 5 ≤ L) {S : SP} {σ ρ : nh_S} (hW : WF S) (hC : CR σ S) (hR : RR ρ S) (next : ∀ S' σ' ρ', WF S' → CR σ' S' → RR ρ' S' → ql_J p l e s m below meth c b D tA adC adR (1313) [some (.ref b), some (.ref (adC 0)), some (.ref (adR 0)), some (.int (nI i))] ([]) σ' ρ') : ql_J p l e s m below meth c b D tA adC adR (1244) [some (.ref b), some (.ref (adC 0)), some (.ref (adR 0)), some (.int (nI i))] ([]) σ ρ := by
  refine ql_aload C dL_law_1244 rfl rfl ?_
  refine ql_arg C hL (k := 1) dL_law_1245 dL_law_1246 dL_law_1247 dL_law_1248 dL_law_1249 rfl (by omega) ?_
  refine ql_callC C (As := [.int (xs (i + 1))]) yf_X8_seed ⟨by decide, by decide⟩ rfl rfl vl_L_149 dL_law_1250 rfl rfl (Nat.le_of_ble_eq_true rfl) (Nat.le_of_ble_eq_true rfl) (c_seed hC hW _ (fun σ' hC' => ⟨_, rfl, ?_⟩))
  refine ql_aload C dL_law_1253 rfl rfl ?_
  refine ql_arg C hL (k := 1) dL_law_1254 dL_law_1255 dL_law_1256 dL_law_1257 dL_law_1258 rfl (by omega) ?_
  refine ql_callR C (As := [.int (xs (i + 1))]) yf_X9_seed ⟨by decide, by decide⟩ rfl rfl vl_L_152 dL_law_1259 rfl rfl (Nat.le_of_ble_eq_true rfl) (Nat.le_of_ble_eq_true rfl) (r_seed hR hW _ (fun ρ' hR' => ⟨_, rfl, ?_⟩))
  refine ql_eq C (tgt := 1313) dL_law_1262 (by decide) ?_
  exact next _ _ _ (WF_nSeed hW _) hC' hR'
set_option maxRecDepth 20000 in
theorem q_keep {p : Program} {l : Launch} {e : Env} {s : State} {m : MethodId} {below : List Frame} {meth : Method} {c : Code} {b L : Nat} {xs : Nat → Int32} {D : va_G} {tA : FieldType → ClassId} {adC adR : Nat → Nat} (C : ql_C p s m meth c b L xs D tA adC adR) (hL : L ≤ 2560) {i : Nat} (hi : i + 5 ≤ L) {S : SP} {σ ρ : nh_S} (hW : WF S) (hC : CR σ S) (hR : RR ρ S) (next : ∀ S' σ' ρ', WF S' → CR σ' S' → RR ρ' S' → ql_J p l e s m below meth c b D tA adC adR (1313) [some (.ref b), some (.ref (adC 0)), some (.ref (adR 0)), some (.int (nI i))] ([]) σ' ρ') : ql_J p l e s m below meth c b D tA adC adR (1267) [some (.ref b), some (.ref (adC 0)), some (.ref (adR 0)), some (.int (nI i))] ([]) σ ρ := by
  refine ql_aload C dL_law_1267 rfl rfl ?_
  refine ql_arg C hL (k := 1) dL_law_1268 dL_law_1269 dL_law_1270 dL_law_1271 dL_law_1272 rfl (by omega) ?_
  refine ql_callC C (As := [.int (xs (i + 1))]) yf_X8_keep ⟨by decide, by decide⟩ rfl rfl vl_L_153 dL_law_1273 rfl rfl (Nat.le_of_ble_eq_true rfl) (Nat.le_of_ble_eq_true rfl) (c_keep hC hW _ (fun σ' hC' => ⟨_, rfl, ?_⟩))
  refine ql_aload C dL_law_1276 rfl rfl ?_
  refine ql_arg C hL (k := 1) dL_law_1277 dL_law_1278 dL_law_1279 dL_law_1280 dL_law_1281 rfl (by omega) ?_
  refine ql_callR C (As := [.int (xs (i + 1))]) yf_X9_keep ⟨by decide, by decide⟩ rfl rfl vl_L_156 dL_law_1282 rfl rfl (Nat.le_of_ble_eq_true rfl) (Nat.le_of_ble_eq_true rfl) (r_keep hR hW _ (fun ρ' hR' => ⟨_, rfl, ?_⟩))
  refine ql_eq C (tgt := 1313) dL_law_1285 (by decide) ?_
  exact next _ _ _ (WF_nKeep hW _) hC' hR'
set_option maxRecDepth 20000 in
theorem q_goBack {p : Program} {l : Launch} {e : Env} {s : State} {m : MethodId} {below : List Frame} {meth : Method} {c : Code} {b L : Nat} {xs : Nat → Int32} {D : va_G} {tA : FieldType → ClassId} {adC adR : Nat → Nat} (C : ql_C p s m meth c b L xs D tA adC adR) (hL : L ≤ 2560) {i : Nat} (hi : i + 5 ≤ L) {S : SP} {σ ρ : nh_S} (hW : WF S) (hC : CR σ S) (hR : RR ρ S) (next : ∀ S' σ' ρ', WF S' → CR σ' S' → RR ρ' S' → ql_J p l e s m below meth c b D tA adC adR (1313) [some (.ref b), some (.ref (adC 0)), some (.ref (adR 0)), some (.int (nI i))] ([]) σ' ρ') : ql_J p l e s m below meth c b D tA adC adR (1290) [some (.ref b), some (.ref (adC 0)), some (.ref (adR 0)), some (.int (nI i))] ([]) σ ρ := by
  refine ql_aload C dL_law_1290 rfl rfl ?_
  refine ql_arg C hL (k := 1) dL_law_1291 dL_law_1292 dL_law_1293 dL_law_1294 dL_law_1295 rfl (by omega) ?_
  refine ql_callC C (As := [.int (xs (i + 1))]) yf_X8_goBack ⟨by decide, by decide⟩ rfl rfl vl_L_157 dL_law_1296 rfl rfl (Nat.le_of_ble_eq_true rfl) (Nat.le_of_ble_eq_true rfl) (c_goBack hC hW _ (fun σ' hC' => ⟨_, rfl, ?_⟩))
  refine ql_aload C dL_law_1299 rfl rfl ?_
  refine ql_arg C hL (k := 1) dL_law_1300 dL_law_1301 dL_law_1302 dL_law_1303 dL_law_1304 rfl (by omega) ?_
  refine ql_callR C (As := [.int (xs (i + 1))]) yf_X9_goBack ⟨by decide, by decide⟩ rfl rfl vl_L_160 dL_law_1305 rfl rfl (Nat.le_of_ble_eq_true rfl) (Nat.le_of_ble_eq_true rfl) (r_goBack hR hW _ (fun ρ' hR' => ⟨_, rfl, ?_⟩))
  refine ql_eq C (tgt := 1313) dL_law_1308 (by decide) ?_
  exact next _ _ _ (WF_nGoBack hW _) hC' hR'
