/-! ===== the law's walk ===== -/
def sx (xs : Nat → Int32) (n : Nat) : Int := (xs n).toInt
theorem sx_rg (xs : Nat → Int32) (n : Nat) : r32 (sx xs n) := by
  have := Int32.le_toInt (xs n)
  have := Int32.toInt_lt (xs n)
  unfold sx r32
  omega
def lw_B (E : En) (b : Bn) (L : Nat) (xs : Nat → Int32) : Prop := match b with
  | (_, _, _, _, s0, _, _, _, _, _, _, _) => va_X (eAd E 148) L xs s0 s0.heap ∧ eAd E 148 < s0.heap.size ∧ eS0 E = s0.heap.size
section LW
variable {E : En} {b : Bn} {Q : State → Prop} {L i pc : Nat} {xs : Nat → Int32} {s : Mem} {ls : List (Nat × AV)} {st : List AV} {cc : ByteArray} {nL d : Nat} {own : String} {ret : Option FieldType}
theorem x_scr (G : ab_G E b cc nL own ret d) (B : lw_B E b L xs) (hi : i < L) (hL : L ≤ 2560) (hd : decode cc pc = .ok (.iaload, 1)) (kk : ab_X E b Q nL (pc + 1) ls (vI (sx xs i) :: st) s) : ab_X E b Q nL pc ls (vI i :: vR 148 :: st) s := by
  obtain ⟨p, l, e, R, s0, m, args, below, meth, c, cells, slots⟩ := b
  intro H locs a hR hS hl ho hs
  refine va_sld (i := nI i) G.1 G.2.1 B.1 B.2.1 (fun z => absurd B.2.1 (by have z : eS0 E ≤ eAd E 148 := z; rw [B.2.2] at z; omega)) hS (vp_in_nI hi (by omega)) hd ?_
  rw [nI_clamp (by omega)]
  have := kk H locs a hR hS hl ho (okc (sx_rg xs i) (oks (oks hs).2).2)
  rw [show (vI (sx xs i) :: st).map (ab_c E) = .int (xs i) :: st.map (ab_c E) by
    show Value.int (Int32.ofInt (sx xs i)) :: st.map (ab_c E) = _
    unfold sx
    rw [Int32.ofInt_toInt]] at this
  exact this
theorem x_scrlen (G : ab_G E b cc nL own ret d) (B : lw_B E b L xs) (hL : L ≤ 2560) (hd : decode cc pc = .ok (.arraylength, 1)) (kk : ab_X E b Q nL (pc + 1) ls (vI L :: st) s) : ab_X E b Q nL pc ls (vR 148 :: st) s := by
  obtain ⟨p, l, e, R, s0, m, args, below, meth, c, cells, slots⟩ := b
  intro H locs a hR hS hl ho hs
  exact va_slen G.1 G.2.1 B.1 B.2.1 (fun z => absurd B.2.1 (by have z : eS0 E ≤ eAd E 148 := z; rw [B.2.2] at z; omega)) hS hd (kk H locs a hR hS hl ho (okc (show r32 (L : Int) by unfold r32; omega) (oks hs).2))
theorem x_arg (G : ab_G E b cc nL own ret d) (B : lw_B E b L xs) {j : Nat} (hj : j ≤ 4) (hi : i + 5 ≤ L) (hL : L ≤ 2560) (d0 : decode cc pc = .ok (.aload_n 0, 1)) (d1 : decode cc (pc + 1) = .ok (.iload_n 3, 1)) (d2 : decode cc (pc + 2) = .ok (.iconst j, 1)) (d3 : decode cc (pc + 3) = .ok (.iadd, 1)) (d4 : decode cc (pc + 4) = .ok (.iaload, 1)) (kk : ab_X E b Q nL (pc + 5) [(3, vI i), (2, vR 0), (1, vR 17), (0, vR 148)] (vI (sx xs (i + j)) :: st) s) : ab_X E b Q nL pc [(3, vI i), (2, vR 0), (1, vR 17), (0, vR 148)] st s := by
  refine x_aload_n (j := 3) G d0 rfl rfl ?_
  refine x_iload_n (j := 0) G d1 rfl rfl ?_
  refine x_iconst G d2 (by omega) ?_
  refine x_iadd G d3 ?_
  rw [w32_id (by omega) (by omega), show (i : Int) + (j : Int) = ((i + j : Nat) : Int) by omega]
  exact x_scr (i := i + j) G B (by omega) hL d4 kk
end LW
theorem and31 (x : Int) : ∃ n : Nat, andI x 31 = (n : Int) ∧ n < 32 := by
  unfold andI
  have h : (Int32.ofInt x &&& Int32.ofInt 31).toBitVec = (Int32.ofInt x).toBitVec &&& 31#32 := rfl
  have h2 : ((Int32.ofInt x).toBitVec &&& 31#32).toNat ≤ 31 := by
    rw [BitVec.toNat_and]
    exact Nat.and_le_right
  refine ⟨((Int32.ofInt x).toBitVec &&& 31#32).toNat, ?_, by omega⟩
  show ((Int32.ofInt x &&& Int32.ofInt 31).toBitVec).toInt = _
  rw [h]
  exact BitVec.toInt_eq_toNat_of_lt (by omega)

theorem lc_0 {E : En} {b : Bn} {Q : State → Prop} {L i : Nat} {xs : Nat → Int32} {s : Mem} (G : ab_G E b code 4 RL (some .boolean) 2048) (B : lw_B E b L xs) (hL : L ≤ 2560) (hi : i + 5 ≤ L) (hI : Inv s) (kk : ∀ s', Inv s' → ab_X E b Q 4 1072 [(3, vI i), (2, vR 0), (1, vR 17), (0, vR 148)] [] s') : ab_X E b Q 4 168 [(3, vI i), (2, vR 0), (1, vR 17), (0, vR 148)] [] s := by
  obtain ⟨r, s1, s2, h1, h2, h3⟩ := call_write hI (sx xs (i + 1)) (orL (shlL (sx xs (i + 2)) 32) (andL (sx xs (i + 3)) 4294967295)) (ol_rt _)
  refine x_aload_n (j := 2) G dL_law_168 rfl rfl ?_
  refine x_arg (j := 1) G B (by decide) hi hL dL_law_169 dL_law_170 dL_law_171 dL_law_172 dL_law_173 ?_
  refine x_arg (j := 2) G B (by decide) hi hL dL_law_174 dL_law_175 dL_law_176 dL_law_177 dL_law_178 ?_
  refine x_i2l G dL_law_179 ?_
  refine x_bipush G dL_law_180 (by decide) (by decide) ?_
  refine x_lshl G dL_law_182 ?_
  refine x_arg (j := 3) G B (by decide) hi hL dL_law_183 dL_law_184 dL_law_185 dL_law_186 dL_law_187 ?_
  refine x_i2l G dL_law_188 ?_
  refine x_ldc2 (x := 4294967295) G wd_1235 dL_law_189 rfl (by decide) ?_
  refine x_land G dL_law_192 ?_
  refine x_lor G dL_law_193 ?_
  refine cv_541 (k := 17) (As := [vI (sx xs (i + 1)), vL (orL (shlL (sx xs (i + 2)) 32) (andL (sx xs (i + 3)) 4294967295))]) (rest := []) G (rX8_write h1) sh_17 (by decide) rfl rfl (Nat.le_of_ble_eq_true rfl) dL_law_194 ?_
  refine x_aload_n (j := 1) G dL_law_197 rfl rfl ?_
  refine x_arg (j := 1) G B (by decide) hi hL dL_law_198 dL_law_199 dL_law_200 dL_law_201 dL_law_202 ?_
  refine x_arg (j := 2) G B (by decide) hi hL dL_law_203 dL_law_204 dL_law_205 dL_law_206 dL_law_207 ?_
  refine x_i2l G dL_law_208 ?_
  refine x_bipush G dL_law_209 (by decide) (by decide) ?_
  refine x_lshl G dL_law_211 ?_
  refine x_arg (j := 3) G B (by decide) hi hL dL_law_212 dL_law_213 dL_law_214 dL_law_215 dL_law_216 ?_
  refine x_i2l G dL_law_217 ?_
  refine x_ldc2 (x := 4294967295) G wd_1235 dL_law_218 rfl (by decide) ?_
  refine x_land G dL_law_221 ?_
  refine x_lor G dL_law_222 ?_
  refine cv_942 (k := 0) (As := [vI (sx xs (i + 1)), vL (orL (shlL (sx xs (i + 2)) 32) (andL (sx xs (i + 3)) 4294967295))]) (rest := [vI r]) G (rX9_write h2) sh_0 (by decide) rfl rfl (Nat.le_of_ble_eq_true rfl) dL_law_223 ?_
  exact x_icmp_eq (tgt := 1072) G dL_law_226 (by decide) (fun _ => kk s2 h3) (fun h => absurd rfl h)
theorem lc_1 {E : En} {b : Bn} {Q : State → Prop} {L i : Nat} {xs : Nat → Int32} {s : Mem} (G : ab_G E b code 4 RL (some .boolean) 2048) (B : lw_B E b L xs) (hL : L ≤ 2560) (hi : i + 5 ≤ L) (hI : Inv s) (kk : ∀ s', Inv s' → ab_X E b Q 4 1072 [(3, vI i), (2, vR 0), (1, vR 17), (0, vR 148)] [] s') : ab_X E b Q 4 231 [(3, vI i), (2, vR 0), (1, vR 17), (0, vR 148)] [] s := by
  obtain ⟨r, s1, s2, h1, h2, h3⟩ := call_wipe hI 
  refine x_aload_n (j := 2) G dL_law_231 rfl rfl ?_
  refine cv_545 (k := 17) (As := []) (rest := []) G (rX8_wipe h1) sh_17 (by decide) rfl rfl (Nat.le_of_ble_eq_true rfl) dL_law_232 ?_
  refine x_aload_n (j := 1) G dL_law_235 rfl rfl ?_
  refine cv_950 (k := 0) (As := []) (rest := [vI r]) G (rX9_wipe h2) sh_0 (by decide) rfl rfl (Nat.le_of_ble_eq_true rfl) dL_law_236 ?_
  exact x_icmp_eq (tgt := 1072) G dL_law_239 (by decide) (fun _ => kk s2 h3) (fun h => absurd rfl h)
theorem lc_2 {E : En} {b : Bn} {Q : State → Prop} {L i : Nat} {xs : Nat → Int32} {s : Mem} (G : ab_G E b code 4 RL (some .boolean) 2048) (B : lw_B E b L xs) (hL : L ≤ 2560) (hi : i + 5 ≤ L) (hI : Inv s) (kk : ∀ s', Inv s' → ab_X E b Q 4 1072 [(3, vI i), (2, vR 0), (1, vR 17), (0, vR 148)] [] s') : ab_X E b Q 4 244 [(3, vI i), (2, vR 0), (1, vR 17), (0, vR 148)] [] s := by
  obtain ⟨r, s1, s2, h1, h2, h3⟩ := call_fault hI 
  refine x_aload_n (j := 2) G dL_law_244 rfl rfl ?_
  refine cv_549 (k := 17) (As := []) (rest := []) G (rX8_fault h1) sh_17 (by decide) rfl rfl (Nat.le_of_ble_eq_true rfl) dL_law_245 ?_
  refine x_aload_n (j := 1) G dL_law_248 rfl rfl ?_
  refine cv_954 (k := 0) (As := []) (rest := [vI r]) G (rX9_fault h2) sh_0 (by decide) rfl rfl (Nat.le_of_ble_eq_true rfl) dL_law_249 ?_
  exact x_icmp_eq (tgt := 1072) G dL_law_252 (by decide) (fun _ => kk s2 h3) (fun h => absurd rfl h)
theorem lc_3 {E : En} {b : Bn} {Q : State → Prop} {L i : Nat} {xs : Nat → Int32} {s : Mem} (G : ab_G E b code 4 RL (some .boolean) 2048) (B : lw_B E b L xs) (hL : L ≤ 2560) (hi : i + 5 ≤ L) (hI : Inv s) (kk : ∀ s', Inv s' → ab_X E b Q 4 1072 [(3, vI i), (2, vR 0), (1, vR 17), (0, vR 148)] [] s') : ab_X E b Q 4 257 [(3, vI i), (2, vR 0), (1, vR 17), (0, vR 148)] [] s := by
  obtain ⟨r, s1, s2, h1, h2, h3⟩ := call_lay hI 
  refine x_aload_n (j := 2) G dL_law_257 rfl rfl ?_
  refine cv_553 (k := 17) (As := []) (rest := []) G (rX8_lay h1) sh_17 (by decide) rfl rfl (Nat.le_of_ble_eq_true rfl) dL_law_258 ?_
  refine x_aload_n (j := 1) G dL_law_261 rfl rfl ?_
  refine cv_994 (k := 0) (As := []) (rest := [vI r]) G (rX9_lay h2) sh_0 (by decide) rfl rfl (Nat.le_of_ble_eq_true rfl) dL_law_262 ?_
  exact x_icmp_eq (tgt := 1072) G dL_law_265 (by decide) (fun _ => kk s2 h3) (fun h => absurd rfl h)
theorem lc_4 {E : En} {b : Bn} {Q : State → Prop} {L i : Nat} {xs : Nat → Int32} {s : Mem} (G : ab_G E b code 4 RL (some .boolean) 2048) (B : lw_B E b L xs) (hL : L ≤ 2560) (hi : i + 5 ≤ L) (hI : Inv s) (kk : ∀ s', Inv s' → ab_X E b Q 4 1072 [(3, vI i), (2, vR 0), (1, vR 17), (0, vR 148)] [] s') : ab_X E b Q 4 270 [(3, vI i), (2, vR 0), (1, vR 17), (0, vR 148)] [] s := by
  obtain ⟨r, s1, s2, h1, h2, h3⟩ := call_storm hI (sx xs (i + 1)) (sx xs (i + 2)) (sx xs (i + 3))
  refine x_aload_n (j := 2) G dL_law_270 rfl rfl ?_
  refine x_arg (j := 1) G B (by decide) hi hL dL_law_271 dL_law_272 dL_law_273 dL_law_274 dL_law_275 ?_
  refine x_arg (j := 2) G B (by decide) hi hL dL_law_276 dL_law_277 dL_law_278 dL_law_279 dL_law_280 ?_
  refine x_arg (j := 3) G B (by decide) hi hL dL_law_281 dL_law_282 dL_law_283 dL_law_284 dL_law_285 ?_
  refine cv_554 (k := 17) (As := [vI (sx xs (i + 1)), vI (sx xs (i + 2)), vI (sx xs (i + 3))]) (rest := []) G (rX8_storm h1) sh_17 (by decide) rfl rfl (Nat.le_of_ble_eq_true rfl) dL_law_286 ?_
  refine x_aload_n (j := 1) G dL_law_289 rfl rfl ?_
  refine x_arg (j := 1) G B (by decide) hi hL dL_law_290 dL_law_291 dL_law_292 dL_law_293 dL_law_294 ?_
  refine x_arg (j := 2) G B (by decide) hi hL dL_law_295 dL_law_296 dL_law_297 dL_law_298 dL_law_299 ?_
  refine x_arg (j := 3) G B (by decide) hi hL dL_law_300 dL_law_301 dL_law_302 dL_law_303 dL_law_304 ?_
  refine cv_998 (k := 0) (As := [vI (sx xs (i + 1)), vI (sx xs (i + 2)), vI (sx xs (i + 3))]) (rest := [vI r]) G (rX9_storm h2) sh_0 (by decide) rfl rfl (Nat.le_of_ble_eq_true rfl) dL_law_305 ?_
  exact x_icmp_eq (tgt := 1072) G dL_law_308 (by decide) (fun _ => kk s2 h3) (fun h => absurd rfl h)
theorem lc_5 {E : En} {b : Bn} {Q : State → Prop} {L i : Nat} {xs : Nat → Int32} {s : Mem} (G : ab_G E b code 4 RL (some .boolean) 2048) (B : lw_B E b L xs) (hL : L ≤ 2560) (hi : i + 5 ≤ L) (hI : Inv s) (kk : ∀ s', Inv s' → ab_X E b Q 4 1072 [(3, vI i), (2, vR 0), (1, vR 17), (0, vR 148)] [] s') : ab_X E b Q 4 313 [(3, vI i), (2, vR 0), (1, vR 17), (0, vR 148)] [] s := by
  obtain ⟨r, s1, s2, h1, h2, h3⟩ := call_open hI (sx xs (i + 1)) (sx xs (i + 2)) (sx xs (i + 3))
  refine x_aload_n (j := 2) G dL_law_313 rfl rfl ?_
  refine x_arg (j := 1) G B (by decide) hi hL dL_law_314 dL_law_315 dL_law_316 dL_law_317 dL_law_318 ?_
  refine x_arg (j := 2) G B (by decide) hi hL dL_law_319 dL_law_320 dL_law_321 dL_law_322 dL_law_323 ?_
  refine x_arg (j := 3) G B (by decide) hi hL dL_law_324 dL_law_325 dL_law_326 dL_law_327 dL_law_328 ?_
  refine cv_565 (k := 17) (As := [vI (sx xs (i + 1)), vI (sx xs (i + 2)), vI (sx xs (i + 3))]) (rest := []) G (rX8_open h1) sh_17 (by decide) rfl rfl (Nat.le_of_ble_eq_true rfl) dL_law_329 ?_
  refine x_aload_n (j := 1) G dL_law_332 rfl rfl ?_
  refine x_arg (j := 1) G B (by decide) hi hL dL_law_333 dL_law_334 dL_law_335 dL_law_336 dL_law_337 ?_
  refine x_arg (j := 2) G B (by decide) hi hL dL_law_338 dL_law_339 dL_law_340 dL_law_341 dL_law_342 ?_
  refine x_arg (j := 3) G B (by decide) hi hL dL_law_343 dL_law_344 dL_law_345 dL_law_346 dL_law_347 ?_
  refine cv_1014 (k := 0) (As := [vI (sx xs (i + 1)), vI (sx xs (i + 2)), vI (sx xs (i + 3))]) (rest := [vI r]) G (rX9_open h2) sh_0 (by decide) rfl rfl (Nat.le_of_ble_eq_true rfl) dL_law_348 ?_
  exact x_icmp_eq (tgt := 1072) G dL_law_351 (by decide) (fun _ => kk s2 h3) (fun h => absurd rfl h)
theorem lc_6 {E : En} {b : Bn} {Q : State → Prop} {L i : Nat} {xs : Nat → Int32} {s : Mem} (G : ab_G E b code 4 RL (some .boolean) 2048) (B : lw_B E b L xs) (hL : L ≤ 2560) (hi : i + 5 ≤ L) (hI : Inv s) (kk : ∀ s', Inv s' → ab_X E b Q 4 1072 [(3, vI i), (2, vR 0), (1, vR 17), (0, vR 148)] [] s') : ab_X E b Q 4 356 [(3, vI i), (2, vR 0), (1, vR 17), (0, vR 148)] [] s := by
  obtain ⟨r, s1, s2, h1, h2, h3⟩ := call_risk hI (sx xs (i + 1)) (sx xs (i + 2)) (sx xs (i + 3))
  refine x_aload_n (j := 2) G dL_law_356 rfl rfl ?_
  refine x_arg (j := 1) G B (by decide) hi hL dL_law_357 dL_law_358 dL_law_359 dL_law_360 dL_law_361 ?_
  refine x_arg (j := 2) G B (by decide) hi hL dL_law_362 dL_law_363 dL_law_364 dL_law_365 dL_law_366 ?_
  refine x_arg (j := 3) G B (by decide) hi hL dL_law_367 dL_law_368 dL_law_369 dL_law_370 dL_law_371 ?_
  refine cv_577 (k := 17) (As := [vI (sx xs (i + 1)), vI (sx xs (i + 2)), vI (sx xs (i + 3))]) (rest := []) G (rX8_risk h1) sh_17 (by decide) rfl rfl (Nat.le_of_ble_eq_true rfl) dL_law_372 ?_
  refine x_aload_n (j := 1) G dL_law_375 rfl rfl ?_
  refine x_arg (j := 1) G B (by decide) hi hL dL_law_376 dL_law_377 dL_law_378 dL_law_379 dL_law_380 ?_
  refine x_arg (j := 2) G B (by decide) hi hL dL_law_381 dL_law_382 dL_law_383 dL_law_384 dL_law_385 ?_
  refine x_arg (j := 3) G B (by decide) hi hL dL_law_386 dL_law_387 dL_law_388 dL_law_389 dL_law_390 ?_
  refine cv_1026 (k := 0) (As := [vI (sx xs (i + 1)), vI (sx xs (i + 2)), vI (sx xs (i + 3))]) (rest := [vI r]) G (rX9_risk h2) sh_0 (by decide) rfl rfl (Nat.le_of_ble_eq_true rfl) dL_law_391 ?_
  exact x_icmp_eq (tgt := 1072) G dL_law_394 (by decide) (fun _ => kk s2 h3) (fun h => absurd rfl h)
theorem lc_7 {E : En} {b : Bn} {Q : State → Prop} {L i : Nat} {xs : Nat → Int32} {s : Mem} (G : ab_G E b code 4 RL (some .boolean) 2048) (B : lw_B E b L xs) (hL : L ≤ 2560) (hi : i + 5 ≤ L) (hI : Inv s) (kk : ∀ s', Inv s' → ab_X E b Q 4 1072 [(3, vI i), (2, vR 0), (1, vR 17), (0, vR 148)] [] s') : ab_X E b Q 4 399 [(3, vI i), (2, vR 0), (1, vR 17), (0, vR 148)] [] s := by
  obtain ⟨r, s1, s2, h1, h2, h3⟩ := call_reach hI (sx xs (i + 1)) (sx xs (i + 2)) (sx xs (i + 3)) (sx xs (i + 4))
  refine x_aload_n (j := 2) G dL_law_399 rfl rfl ?_
  refine x_arg (j := 1) G B (by decide) hi hL dL_law_400 dL_law_401 dL_law_402 dL_law_403 dL_law_404 ?_
  refine x_arg (j := 2) G B (by decide) hi hL dL_law_405 dL_law_406 dL_law_407 dL_law_408 dL_law_409 ?_
  refine x_arg (j := 3) G B (by decide) hi hL dL_law_410 dL_law_411 dL_law_412 dL_law_413 dL_law_414 ?_
  refine x_arg (j := 4) G B (by decide) hi hL dL_law_415 dL_law_416 dL_law_417 dL_law_418 dL_law_419 ?_
  refine cv_586 (k := 17) (As := [vI (sx xs (i + 1)), vI (sx xs (i + 2)), vI (sx xs (i + 3)), vI (sx xs (i + 4))]) (rest := []) G (rX8_reach h1) sh_17 (by decide) rfl rfl (Nat.le_of_ble_eq_true rfl) dL_law_420 ?_
  refine x_aload_n (j := 1) G dL_law_423 rfl rfl ?_
  refine x_arg (j := 1) G B (by decide) hi hL dL_law_424 dL_law_425 dL_law_426 dL_law_427 dL_law_428 ?_
  refine x_arg (j := 2) G B (by decide) hi hL dL_law_429 dL_law_430 dL_law_431 dL_law_432 dL_law_433 ?_
  refine x_arg (j := 3) G B (by decide) hi hL dL_law_434 dL_law_435 dL_law_436 dL_law_437 dL_law_438 ?_
  refine x_arg (j := 4) G B (by decide) hi hL dL_law_439 dL_law_440 dL_law_441 dL_law_442 dL_law_443 ?_
  refine cv_1038 (k := 0) (As := [vI (sx xs (i + 1)), vI (sx xs (i + 2)), vI (sx xs (i + 3)), vI (sx xs (i + 4))]) (rest := [vI r]) G (rX9_reach h2) sh_0 (by decide) rfl rfl (Nat.le_of_ble_eq_true rfl) dL_law_444 ?_
  exact x_icmp_eq (tgt := 1072) G dL_law_447 (by decide) (fun _ => kk s2 h3) (fun h => absurd rfl h)
theorem lc_8 {E : En} {b : Bn} {Q : State → Prop} {L i : Nat} {xs : Nat → Int32} {s : Mem} (G : ab_G E b code 4 RL (some .boolean) 2048) (B : lw_B E b L xs) (hL : L ≤ 2560) (hi : i + 5 ≤ L) (hI : Inv s) (kk : ∀ s', Inv s' → ab_X E b Q 4 1072 [(3, vI i), (2, vR 0), (1, vR 17), (0, vR 148)] [] s') : ab_X E b Q 4 452 [(3, vI i), (2, vR 0), (1, vR 17), (0, vR 148)] [] s := by
  obtain ⟨r, s1, s2, h1, h2, h3⟩ := call_plan hI (sx xs (i + 1)) (sx xs (i + 2)) (sx xs (i + 3))
  refine x_aload_n (j := 2) G dL_law_452 rfl rfl ?_
  refine x_arg (j := 1) G B (by decide) hi hL dL_law_453 dL_law_454 dL_law_455 dL_law_456 dL_law_457 ?_
  refine x_arg (j := 2) G B (by decide) hi hL dL_law_458 dL_law_459 dL_law_460 dL_law_461 dL_law_462 ?_
  refine x_arg (j := 3) G B (by decide) hi hL dL_law_463 dL_law_464 dL_law_465 dL_law_466 dL_law_467 ?_
  refine cv_594 (k := 17) (As := [vI (sx xs (i + 1)), vI (sx xs (i + 2)), vI (sx xs (i + 3))]) (rest := []) G (rX8_plan h1) sh_17 (by decide) rfl rfl (Nat.le_of_ble_eq_true rfl) dL_law_468 ?_
  refine x_aload_n (j := 1) G dL_law_471 rfl rfl ?_
  refine x_arg (j := 1) G B (by decide) hi hL dL_law_472 dL_law_473 dL_law_474 dL_law_475 dL_law_476 ?_
  refine x_arg (j := 2) G B (by decide) hi hL dL_law_477 dL_law_478 dL_law_479 dL_law_480 dL_law_481 ?_
  refine x_arg (j := 3) G B (by decide) hi hL dL_law_482 dL_law_483 dL_law_484 dL_law_485 dL_law_486 ?_
  refine cv_1054 (k := 0) (As := [vI (sx xs (i + 1)), vI (sx xs (i + 2)), vI (sx xs (i + 3))]) (rest := [vI r]) G (rX9_plan h2) sh_0 (by decide) rfl rfl (Nat.le_of_ble_eq_true rfl) dL_law_487 ?_
  exact x_icmp_eq (tgt := 1072) G dL_law_490 (by decide) (fun _ => kk s2 h3) (fun h => absurd rfl h)
theorem lc_9 {E : En} {b : Bn} {Q : State → Prop} {L i : Nat} {xs : Nat → Int32} {s : Mem} (G : ab_G E b code 4 RL (some .boolean) 2048) (B : lw_B E b L xs) (hL : L ≤ 2560) (hi : i + 5 ≤ L) (hI : Inv s) (kk : ∀ s', Inv s' → ab_X E b Q 4 1072 [(3, vI i), (2, vR 0), (1, vR 17), (0, vR 148)] [] s') : ab_X E b Q 4 495 [(3, vI i), (2, vR 0), (1, vR 17), (0, vR 148)] [] s := by
  obtain ⟨r, s1, s2, h1, h2, h3⟩ := call_value hI (sx xs (i + 1))
  refine x_aload_n (j := 2) G dL_law_495 rfl rfl ?_
  refine x_arg (j := 1) G B (by decide) hi hL dL_law_496 dL_law_497 dL_law_498 dL_law_499 dL_law_500 ?_
  refine cv_606 (k := 17) (As := [vI (sx xs (i + 1))]) (rest := []) G (rX8_value h1) sh_17 (by decide) rfl rfl (Nat.le_of_ble_eq_true rfl) dL_law_501 ?_
  refine x_aload_n (j := 1) G dL_law_504 rfl rfl ?_
  refine x_arg (j := 1) G B (by decide) hi hL dL_law_505 dL_law_506 dL_law_507 dL_law_508 dL_law_509 ?_
  refine cv_1058 (k := 0) (As := [vI (sx xs (i + 1))]) (rest := [vL r]) G (rX9_value h2) sh_0 (by decide) rfl rfl (Nat.le_of_ble_eq_true rfl) dL_law_510 ?_
  exact x_lcmp_eq (tgt := 1072) G dL_law_513 rfl dL_law_514 (by decide) (fun _ => kk s2 h3) (fun h => absurd rfl h)
theorem lc_10 {E : En} {b : Bn} {Q : State → Prop} {L i : Nat} {xs : Nat → Int32} {s : Mem} (G : ab_G E b code 4 RL (some .boolean) 2048) (B : lw_B E b L xs) (hL : L ≤ 2560) (hi : i + 5 ≤ L) (hI : Inv s) (kk : ∀ s', Inv s' → ab_X E b Q 4 1072 [(3, vI i), (2, vR 0), (1, vR 17), (0, vR 148)] [] s') : ab_X E b Q 4 519 [(3, vI i), (2, vR 0), (1, vR 17), (0, vR 148)] [] s := by
  obtain ⟨r, s1, s2, h1, h2, h3⟩ := call_in hI (sx xs (i + 1)) (sx xs (i + 2))
  refine x_aload_n (j := 2) G dL_law_519 rfl rfl ?_
  refine x_arg (j := 1) G B (by decide) hi hL dL_law_520 dL_law_521 dL_law_522 dL_law_523 dL_law_524 ?_
  refine x_arg (j := 2) G B (by decide) hi hL dL_law_525 dL_law_526 dL_law_527 dL_law_528 dL_law_529 ?_
  refine cv_664 (k := 17) (As := [vI (sx xs (i + 1)), vI (sx xs (i + 2))]) (rest := []) G (rX8_in h1) sh_17 (by decide) rfl rfl (Nat.le_of_ble_eq_true rfl) dL_law_530 ?_
  refine x_aload_n (j := 1) G dL_law_533 rfl rfl ?_
  refine x_arg (j := 1) G B (by decide) hi hL dL_law_534 dL_law_535 dL_law_536 dL_law_537 dL_law_538 ?_
  refine x_arg (j := 2) G B (by decide) hi hL dL_law_539 dL_law_540 dL_law_541 dL_law_542 dL_law_543 ?_
  refine cv_1085 (k := 0) (As := [vI (sx xs (i + 1)), vI (sx xs (i + 2))]) (rest := [vI r]) G (rX9_in h2) sh_0 (by decide) rfl rfl (Nat.le_of_ble_eq_true rfl) dL_law_544 ?_
  exact x_icmp_eq (tgt := 1072) G dL_law_547 (by decide) (fun _ => kk s2 h3) (fun h => absurd rfl h)
theorem lc_11 {E : En} {b : Bn} {Q : State → Prop} {L i : Nat} {xs : Nat → Int32} {s : Mem} (G : ab_G E b code 4 RL (some .boolean) 2048) (B : lw_B E b L xs) (hL : L ≤ 2560) (hi : i + 5 ≤ L) (hI : Inv s) (kk : ∀ s', Inv s' → ab_X E b Q 4 1072 [(3, vI i), (2, vR 0), (1, vR 17), (0, vR 148)] [] s') : ab_X E b Q 4 552 [(3, vI i), (2, vR 0), (1, vR 17), (0, vR 148)] [] s := by
  obtain ⟨r, s1, s2, h1, h2, h3⟩ := call_lives hI (sx xs (i + 1)) (sx xs (i + 2)) (sx xs (i + 3))
  refine x_aload_n (j := 2) G dL_law_552 rfl rfl ?_
  refine x_arg (j := 1) G B (by decide) hi hL dL_law_553 dL_law_554 dL_law_555 dL_law_556 dL_law_557 ?_
  refine x_arg (j := 2) G B (by decide) hi hL dL_law_558 dL_law_559 dL_law_560 dL_law_561 dL_law_562 ?_
  refine x_arg (j := 3) G B (by decide) hi hL dL_law_563 dL_law_564 dL_law_565 dL_law_566 dL_law_567 ?_
  refine cv_669 (k := 17) (As := [vI (sx xs (i + 1)), vI (sx xs (i + 2)), vI (sx xs (i + 3))]) (rest := []) G (rX8_lives h1) sh_17 (by decide) rfl rfl (Nat.le_of_ble_eq_true rfl) dL_law_568 ?_
  refine x_aload_n (j := 1) G dL_law_571 rfl rfl ?_
  refine x_arg (j := 1) G B (by decide) hi hL dL_law_572 dL_law_573 dL_law_574 dL_law_575 dL_law_576 ?_
  refine x_arg (j := 2) G B (by decide) hi hL dL_law_577 dL_law_578 dL_law_579 dL_law_580 dL_law_581 ?_
  refine x_arg (j := 3) G B (by decide) hi hL dL_law_582 dL_law_583 dL_law_584 dL_law_585 dL_law_586 ?_
  refine cv_1093 (k := 0) (As := [vI (sx xs (i + 1)), vI (sx xs (i + 2)), vI (sx xs (i + 3))]) (rest := [vI r]) G (rX9_lives h2) sh_0 (by decide) rfl rfl (Nat.le_of_ble_eq_true rfl) dL_law_587 ?_
  exact x_icmp_eq (tgt := 1072) G dL_law_590 (by decide) (fun _ => kk s2 h3) (fun h => absurd rfl h)
theorem lc_12 {E : En} {b : Bn} {Q : State → Prop} {L i : Nat} {xs : Nat → Int32} {s : Mem} (G : ab_G E b code 4 RL (some .boolean) 2048) (B : lw_B E b L xs) (hL : L ≤ 2560) (hi : i + 5 ≤ L) (hI : Inv s) (kk : ∀ s', Inv s' → ab_X E b Q 4 1072 [(3, vI i), (2, vR 0), (1, vR 17), (0, vR 148)] [] s') : ab_X E b Q 4 595 [(3, vI i), (2, vR 0), (1, vR 17), (0, vR 148)] [] s := by
  obtain ⟨r, s1, s2, h1, h2, h3⟩ := call_mean hI 
  refine x_aload_n (j := 2) G dL_law_595 rfl rfl ?_
  refine cv_674 (k := 17) (As := []) (rest := []) G (rX8_mean h1) sh_17 (by decide) rfl rfl (Nat.le_of_ble_eq_true rfl) dL_law_596 ?_
  refine x_aload_n (j := 1) G dL_law_599 rfl rfl ?_
  refine cv_1101 (k := 0) (As := []) (rest := [vL r]) G (rX9_mean h2) sh_0 (by decide) rfl rfl (Nat.le_of_ble_eq_true rfl) dL_law_600 ?_
  exact x_lcmp_eq (tgt := 1072) G dL_law_603 rfl dL_law_604 (by decide) (fun _ => kk s2 h3) (fun h => absurd rfl h)
theorem lc_13 {E : En} {b : Bn} {Q : State → Prop} {L i : Nat} {xs : Nat → Int32} {s : Mem} (G : ab_G E b code 4 RL (some .boolean) 2048) (B : lw_B E b L xs) (hL : L ≤ 2560) (hi : i + 5 ≤ L) (hI : Inv s) (kk : ∀ s', Inv s' → ab_X E b Q 4 1072 [(3, vI i), (2, vR 0), (1, vR 17), (0, vR 148)] [] s') : ab_X E b Q 4 609 [(3, vI i), (2, vR 0), (1, vR 17), (0, vR 148)] [] s := by
  obtain ⟨r, s1, s2, h1, h2, h3⟩ := call_shut hI (sx xs (i + 1))
  refine x_aload_n (j := 2) G dL_law_609 rfl rfl ?_
  refine x_arg (j := 1) G B (by decide) hi hL dL_law_610 dL_law_611 dL_law_612 dL_law_613 dL_law_614 ?_
  refine cv_683 (k := 17) (As := [vI (sx xs (i + 1))]) (rest := []) G (rX8_shut h1) sh_17 (by decide) rfl rfl (Nat.le_of_ble_eq_true rfl) dL_law_615 ?_
  refine x_aload_n (j := 1) G dL_law_618 rfl rfl ?_
  refine x_arg (j := 1) G B (by decide) hi hL dL_law_619 dL_law_620 dL_law_621 dL_law_622 dL_law_623 ?_
  refine cv_1117 (k := 0) (As := [vI (sx xs (i + 1))]) (rest := [vI r]) G (rX9_shut h2) sh_0 (by decide) rfl rfl (Nat.le_of_ble_eq_true rfl) dL_law_624 ?_
  exact x_icmp_eq (tgt := 1072) G dL_law_627 (by decide) (fun _ => kk s2 h3) (fun h => absurd rfl h)
theorem lc_14 {E : En} {b : Bn} {Q : State → Prop} {L i : Nat} {xs : Nat → Int32} {s : Mem} (G : ab_G E b code 4 RL (some .boolean) 2048) (B : lw_B E b L xs) (hL : L ≤ 2560) (hi : i + 5 ≤ L) (hI : Inv s) (kk : ∀ s', Inv s' → ab_X E b Q 4 1072 [(3, vI i), (2, vR 0), (1, vR 17), (0, vR 148)] [] s') : ab_X E b Q 4 632 [(3, vI i), (2, vR 0), (1, vR 17), (0, vR 148)] [] s := by
  obtain ⟨r, s1, s2, h1, h2, h3⟩ := call_sign hI (sx xs (i + 1))
  refine x_aload_n (j := 2) G dL_law_632 rfl rfl ?_
  refine x_arg (j := 1) G B (by decide) hi hL dL_law_633 dL_law_634 dL_law_635 dL_law_636 dL_law_637 ?_
  refine cv_687 (k := 17) (As := [vI (sx xs (i + 1))]) (rest := []) G (rX8_sign h1) sh_17 (by decide) rfl rfl (Nat.le_of_ble_eq_true rfl) dL_law_638 ?_
  refine x_aload_n (j := 1) G dL_law_641 rfl rfl ?_
  refine x_arg (j := 1) G B (by decide) hi hL dL_law_642 dL_law_643 dL_law_644 dL_law_645 dL_law_646 ?_
  refine cv_1121 (k := 0) (As := [vI (sx xs (i + 1))]) (rest := [vI r]) G (rX9_sign h2) sh_0 (by decide) rfl rfl (Nat.le_of_ble_eq_true rfl) dL_law_647 ?_
  exact x_icmp_eq (tgt := 1072) G dL_law_650 (by decide) (fun _ => kk s2 h3) (fun h => absurd rfl h)
theorem lc_15 {E : En} {b : Bn} {Q : State → Prop} {L i : Nat} {xs : Nat → Int32} {s : Mem} (G : ab_G E b code 4 RL (some .boolean) 2048) (B : lw_B E b L xs) (hL : L ≤ 2560) (hi : i + 5 ≤ L) (hI : Inv s) (kk : ∀ s', Inv s' → ab_X E b Q 4 1072 [(3, vI i), (2, vR 0), (1, vR 17), (0, vR 148)] [] s') : ab_X E b Q 4 655 [(3, vI i), (2, vR 0), (1, vR 17), (0, vR 148)] [] s := by
  obtain ⟨r, s1, s2, h1, h2, h3⟩ := call_now hI (sx xs (i + 1))
  refine x_aload_n (j := 2) G dL_law_655 rfl rfl ?_
  refine x_arg (j := 1) G B (by decide) hi hL dL_law_656 dL_law_657 dL_law_658 dL_law_659 dL_law_660 ?_
  refine cv_695 (k := 17) (As := [vI (sx xs (i + 1))]) (rest := []) G (rX8_now h1) sh_17 (by decide) rfl rfl (Nat.le_of_ble_eq_true rfl) dL_law_661 ?_
  refine x_aload_n (j := 1) G dL_law_664 rfl rfl ?_
  refine x_arg (j := 1) G B (by decide) hi hL dL_law_665 dL_law_666 dL_law_667 dL_law_668 dL_law_669 ?_
  refine cv_1125 (k := 0) (As := [vI (sx xs (i + 1))]) (rest := [vI r]) G (rX9_now h2) sh_0 (by decide) rfl rfl (Nat.le_of_ble_eq_true rfl) dL_law_670 ?_
  exact x_icmp_eq (tgt := 1072) G dL_law_673 (by decide) (fun _ => kk s2 h3) (fun h => absurd rfl h)
theorem lc_16 {E : En} {b : Bn} {Q : State → Prop} {L i : Nat} {xs : Nat → Int32} {s : Mem} (G : ab_G E b code 4 RL (some .boolean) 2048) (B : lw_B E b L xs) (hL : L ≤ 2560) (hi : i + 5 ≤ L) (hI : Inv s) (kk : ∀ s', Inv s' → ab_X E b Q 4 1072 [(3, vI i), (2, vR 0), (1, vR 17), (0, vR 148)] [] s') : ab_X E b Q 4 678 [(3, vI i), (2, vR 0), (1, vR 17), (0, vR 148)] [] s := by
  obtain ⟨r, s1, s2, h1, h2, h3⟩ := call_set hI (sx xs (i + 1)) (sx xs (i + 2))
  refine x_aload_n (j := 2) G dL_law_678 rfl rfl ?_
  refine x_arg (j := 1) G B (by decide) hi hL dL_law_679 dL_law_680 dL_law_681 dL_law_682 dL_law_683 ?_
  refine x_arg (j := 2) G B (by decide) hi hL dL_law_684 dL_law_685 dL_law_686 dL_law_687 dL_law_688 ?_
  refine cv_699 (k := 17) (As := [vI (sx xs (i + 1)), vI (sx xs (i + 2))]) (rest := []) G (rX8_set h1) sh_17 (by decide) rfl rfl (Nat.le_of_ble_eq_true rfl) dL_law_689 ?_
  refine x_aload_n (j := 1) G dL_law_692 rfl rfl ?_
  refine x_arg (j := 1) G B (by decide) hi hL dL_law_693 dL_law_694 dL_law_695 dL_law_696 dL_law_697 ?_
  refine x_arg (j := 2) G B (by decide) hi hL dL_law_698 dL_law_699 dL_law_700 dL_law_701 dL_law_702 ?_
  refine cv_1129 (k := 0) (As := [vI (sx xs (i + 1)), vI (sx xs (i + 2))]) (rest := [vI r]) G (rX9_set h2) sh_0 (by decide) rfl rfl (Nat.le_of_ble_eq_true rfl) dL_law_703 ?_
  exact x_icmp_eq (tgt := 1072) G dL_law_706 (by decide) (fun _ => kk s2 h3) (fun h => absurd rfl h)
theorem lc_17 {E : En} {b : Bn} {Q : State → Prop} {L i : Nat} {xs : Nat → Int32} {s : Mem} (G : ab_G E b code 4 RL (some .boolean) 2048) (B : lw_B E b L xs) (hL : L ≤ 2560) (hi : i + 5 ≤ L) (hI : Inv s) (kk : ∀ s', Inv s' → ab_X E b Q 4 1072 [(3, vI i), (2, vR 0), (1, vR 17), (0, vR 148)] [] s') : ab_X E b Q 4 711 [(3, vI i), (2, vR 0), (1, vR 17), (0, vR 148)] [] s := by
  obtain ⟨r, s1, s2, h1, h2, h3⟩ := call_by hI (sx xs (i + 1))
  refine x_aload_n (j := 2) G dL_law_711 rfl rfl ?_
  refine x_arg (j := 1) G B (by decide) hi hL dL_law_712 dL_law_713 dL_law_714 dL_law_715 dL_law_716 ?_
  refine cv_703 (k := 17) (As := [vI (sx xs (i + 1))]) (rest := []) G (rX8_by h1) sh_17 (by decide) rfl rfl (Nat.le_of_ble_eq_true rfl) dL_law_717 ?_
  refine x_aload_n (j := 1) G dL_law_720 rfl rfl ?_
  refine x_arg (j := 1) G B (by decide) hi hL dL_law_721 dL_law_722 dL_law_723 dL_law_724 dL_law_725 ?_
  refine cv_1133 (k := 0) (As := [vI (sx xs (i + 1))]) (rest := [vL r]) G (rX9_by h2) sh_0 (by decide) rfl rfl (Nat.le_of_ble_eq_true rfl) dL_law_726 ?_
  exact x_lcmp_eq (tgt := 1072) G dL_law_729 rfl dL_law_730 (by decide) (fun _ => kk s2 h3) (fun h => absurd rfl h)
theorem lc_18 {E : En} {b : Bn} {Q : State → Prop} {L i : Nat} {xs : Nat → Int32} {s : Mem} (G : ab_G E b code 4 RL (some .boolean) 2048) (B : lw_B E b L xs) (hL : L ≤ 2560) (hi : i + 5 ≤ L) (hI : Inv s) (kk : ∀ s', Inv s' → ab_X E b Q 4 1072 [(3, vI i), (2, vR 0), (1, vR 17), (0, vR 148)] [] s') : ab_X E b Q 4 735 [(3, vI i), (2, vR 0), (1, vR 17), (0, vR 148)] [] s := by
  obtain ⟨r, s1, s2, h1, h2, h3⟩ := call_ran hI (sx xs (i + 1)) (sx xs (i + 2)) (sx xs (i + 3))
  refine x_aload_n (j := 2) G dL_law_735 rfl rfl ?_
  refine x_arg (j := 1) G B (by decide) hi hL dL_law_736 dL_law_737 dL_law_738 dL_law_739 dL_law_740 ?_
  refine x_arg (j := 2) G B (by decide) hi hL dL_law_741 dL_law_742 dL_law_743 dL_law_744 dL_law_745 ?_
  refine x_arg (j := 3) G B (by decide) hi hL dL_law_746 dL_law_747 dL_law_748 dL_law_749 dL_law_750 ?_
  refine cv_746 (k := 17) (As := [vI (sx xs (i + 1)), vI (sx xs (i + 2)), vI (sx xs (i + 3))]) (rest := []) G (rX8_ran h1) sh_17 (by decide) rfl rfl (Nat.le_of_ble_eq_true rfl) dL_law_751 ?_
  refine x_aload_n (j := 1) G dL_law_754 rfl rfl ?_
  refine x_arg (j := 1) G B (by decide) hi hL dL_law_755 dL_law_756 dL_law_757 dL_law_758 dL_law_759 ?_
  refine x_arg (j := 2) G B (by decide) hi hL dL_law_760 dL_law_761 dL_law_762 dL_law_763 dL_law_764 ?_
  refine x_arg (j := 3) G B (by decide) hi hL dL_law_765 dL_law_766 dL_law_767 dL_law_768 dL_law_769 ?_
  refine cv_1156 (k := 0) (As := [vI (sx xs (i + 1)), vI (sx xs (i + 2)), vI (sx xs (i + 3))]) (rest := [vI r]) G (rX9_ran h2) sh_0 (by decide) rfl rfl (Nat.le_of_ble_eq_true rfl) dL_law_770 ?_
  exact x_icmp_eq (tgt := 1072) G dL_law_773 (by decide) (fun _ => kk s2 h3) (fun h => absurd rfl h)
theorem lc_19 {E : En} {b : Bn} {Q : State → Prop} {L i : Nat} {xs : Nat → Int32} {s : Mem} (G : ab_G E b code 4 RL (some .boolean) 2048) (B : lw_B E b L xs) (hL : L ≤ 2560) (hi : i + 5 ≤ L) (hI : Inv s) (kk : ∀ s', Inv s' → ab_X E b Q 4 1072 [(3, vI i), (2, vR 0), (1, vR 17), (0, vR 148)] [] s') : ab_X E b Q 4 778 [(3, vI i), (2, vR 0), (1, vR 17), (0, vR 148)] [] s := by
  obtain ⟨r, s1, s2, h1, h2, h3⟩ := call_alone hI (sx xs (i + 1))
  refine x_aload_n (j := 2) G dL_law_778 rfl rfl ?_
  refine x_arg (j := 1) G B (by decide) hi hL dL_law_779 dL_law_780 dL_law_781 dL_law_782 dL_law_783 ?_
  refine cv_750 (k := 17) (As := [vI (sx xs (i + 1))]) (rest := []) G (rX8_alone h1) sh_17 (by decide) rfl rfl (Nat.le_of_ble_eq_true rfl) dL_law_784 ?_
  refine x_aload_n (j := 1) G dL_law_787 rfl rfl ?_
  refine x_arg (j := 1) G B (by decide) hi hL dL_law_788 dL_law_789 dL_law_790 dL_law_791 dL_law_792 ?_
  refine cv_1160 (k := 0) (As := [vI (sx xs (i + 1))]) (rest := [vL r]) G (rX9_alone h2) sh_0 (by decide) rfl rfl (Nat.le_of_ble_eq_true rfl) dL_law_793 ?_
  exact x_lcmp_eq (tgt := 1072) G dL_law_796 rfl dL_law_797 (by decide) (fun _ => kk s2 h3) (fun h => absurd rfl h)
theorem lc_20 {E : En} {b : Bn} {Q : State → Prop} {L i : Nat} {xs : Nat → Int32} {s : Mem} (G : ab_G E b code 4 RL (some .boolean) 2048) (B : lw_B E b L xs) (hL : L ≤ 2560) (hi : i + 5 ≤ L) (hI : Inv s) (kk : ∀ s', Inv s' → ab_X E b Q 4 1072 [(3, vI i), (2, vR 0), (1, vR 17), (0, vR 148)] [] s') : ab_X E b Q 4 802 [(3, vI i), (2, vR 0), (1, vR 17), (0, vR 148)] [] s := by
  obtain ⟨r, s1, s2, h1, h2, h3⟩ := call_does hI (sx xs (i + 1)) (sx xs (i + 2)) (sx xs (i + 3))
  refine x_aload_n (j := 2) G dL_law_802 rfl rfl ?_
  refine x_arg (j := 1) G B (by decide) hi hL dL_law_803 dL_law_804 dL_law_805 dL_law_806 dL_law_807 ?_
  refine x_arg (j := 2) G B (by decide) hi hL dL_law_808 dL_law_809 dL_law_810 dL_law_811 dL_law_812 ?_
  refine x_arg (j := 3) G B (by decide) hi hL dL_law_813 dL_law_814 dL_law_815 dL_law_816 dL_law_817 ?_
  refine cv_779 (k := 17) (As := [vI (sx xs (i + 1)), vI (sx xs (i + 2)), vI (sx xs (i + 3))]) (rest := []) G (rX8_does h1) sh_17 (by decide) rfl rfl (Nat.le_of_ble_eq_true rfl) dL_law_818 ?_
  refine x_aload_n (j := 1) G dL_law_821 rfl rfl ?_
  refine x_arg (j := 1) G B (by decide) hi hL dL_law_822 dL_law_823 dL_law_824 dL_law_825 dL_law_826 ?_
  refine x_arg (j := 2) G B (by decide) hi hL dL_law_827 dL_law_828 dL_law_829 dL_law_830 dL_law_831 ?_
  refine x_arg (j := 3) G B (by decide) hi hL dL_law_832 dL_law_833 dL_law_834 dL_law_835 dL_law_836 ?_
  refine cv_1184 (k := 0) (As := [vI (sx xs (i + 1)), vI (sx xs (i + 2)), vI (sx xs (i + 3))]) (rest := [vI r]) G (rX9_does h2) sh_0 (by decide) rfl rfl (Nat.le_of_ble_eq_true rfl) dL_law_837 ?_
  exact x_icmp_eq (tgt := 1072) G dL_law_840 (by decide) (fun _ => kk s2 h3) (fun h => absurd rfl h)
theorem lc_21 {E : En} {b : Bn} {Q : State → Prop} {L i : Nat} {xs : Nat → Int32} {s : Mem} (G : ab_G E b code 4 RL (some .boolean) 2048) (B : lw_B E b L xs) (hL : L ≤ 2560) (hi : i + 5 ≤ L) (hI : Inv s) (kk : ∀ s', Inv s' → ab_X E b Q 4 1072 [(3, vI i), (2, vR 0), (1, vR 17), (0, vR 148)] [] s') : ab_X E b Q 4 845 [(3, vI i), (2, vR 0), (1, vR 17), (0, vR 148)] [] s := by
  by_cases hz : sx xs (i + 1) = 0
  · obtain ⟨r, s1, s2, h1, h2, h3⟩ := call_better hI 0
    refine x_aload_n (j := 2) G dL_law_845 rfl rfl ?_
    refine x_arg (j := 1) G B (by decide) hi hL dL_law_846 dL_law_847 dL_law_848 dL_law_849 dL_law_850 ?_
    refine x_if_eq (tgt := 858) G dL_law_851 (by decide) (fun _ => ?_) (fun h => absurd hz h)
    refine x_iconst G dL_law_858 (by decide) ?_
    refine cv_787 (k := 17) (As := [vI 0]) (rest := []) G (rX8_better h1) sh_17 (by decide) rfl rfl (Nat.le_of_ble_eq_true rfl) dL_law_859 ?_
    refine x_aload_n (j := 1) G dL_law_862 rfl rfl ?_
    refine x_arg (j := 1) G B (by decide) hi hL dL_law_863 dL_law_864 dL_law_865 dL_law_866 dL_law_867 ?_
    refine x_if_eq (tgt := 875) G dL_law_868 (by decide) (fun _ => ?_) (fun h => absurd hz h)
    refine x_iconst G dL_law_875 (by decide) ?_
    refine cv_1188 (k := 0) (As := [vI 0]) (rest := [vI r]) G (rX9_better h2) sh_0 (by decide) rfl rfl (Nat.le_of_ble_eq_true rfl) dL_law_876 ?_
    exact x_icmp_eq (tgt := 1072) G dL_law_879 (by decide) (fun _ => kk s2 h3) (fun h => absurd rfl h)
  · obtain ⟨r, s1, s2, h1, h2, h3⟩ := call_better hI 1
    refine x_aload_n (j := 2) G dL_law_845 rfl rfl ?_
    refine x_arg (j := 1) G B (by decide) hi hL dL_law_846 dL_law_847 dL_law_848 dL_law_849 dL_law_850 ?_
    refine x_if_eq (tgt := 858) G dL_law_851 (by decide) (fun h => absurd h hz) (fun _ => ?_)
    refine x_iconst G dL_law_854 (by decide) ?_
    refine x_goto (tgt := 859) G dL_law_855 (by decide) ?_
    refine cv_787 (k := 17) (As := [vI 1]) (rest := []) G (rX8_better h1) sh_17 (by decide) rfl rfl (Nat.le_of_ble_eq_true rfl) dL_law_859 ?_
    refine x_aload_n (j := 1) G dL_law_862 rfl rfl ?_
    refine x_arg (j := 1) G B (by decide) hi hL dL_law_863 dL_law_864 dL_law_865 dL_law_866 dL_law_867 ?_
    refine x_if_eq (tgt := 875) G dL_law_868 (by decide) (fun h => absurd h hz) (fun _ => ?_)
    refine x_iconst G dL_law_871 (by decide) ?_
    refine x_goto (tgt := 876) G dL_law_872 (by decide) ?_
    refine cv_1188 (k := 0) (As := [vI 1]) (rest := [vI r]) G (rX9_better h2) sh_0 (by decide) rfl rfl (Nat.le_of_ble_eq_true rfl) dL_law_876 ?_
    exact x_icmp_eq (tgt := 1072) G dL_law_879 (by decide) (fun _ => kk s2 h3) (fun h => absurd rfl h)
theorem lc_22 {E : En} {b : Bn} {Q : State → Prop} {L i : Nat} {xs : Nat → Int32} {s : Mem} (G : ab_G E b code 4 RL (some .boolean) 2048) (B : lw_B E b L xs) (hL : L ≤ 2560) (hi : i + 5 ≤ L) (hI : Inv s) (kk : ∀ s', Inv s' → ab_X E b Q 4 1072 [(3, vI i), (2, vR 0), (1, vR 17), (0, vR 148)] [] s') : ab_X E b Q 4 884 [(3, vI i), (2, vR 0), (1, vR 17), (0, vR 148)] [] s := by
  obtain ⟨r, s1, s2, h1, h2, h3⟩ := call_gun hI (sx xs (i + 1))
  refine x_aload_n (j := 2) G dL_law_884 rfl rfl ?_
  refine x_arg (j := 1) G B (by decide) hi hL dL_law_885 dL_law_886 dL_law_887 dL_law_888 dL_law_889 ?_
  refine cv_797 (k := 17) (As := [vI (sx xs (i + 1))]) (rest := []) G (rX8_gun h1) sh_17 (by decide) rfl rfl (Nat.le_of_ble_eq_true rfl) dL_law_890 ?_
  refine x_aload_n (j := 1) G dL_law_893 rfl rfl ?_
  refine x_arg (j := 1) G B (by decide) hi hL dL_law_894 dL_law_895 dL_law_896 dL_law_897 dL_law_898 ?_
  refine cv_1196 (k := 0) (As := [vI (sx xs (i + 1))]) (rest := [vL r]) G (rX9_gun h2) sh_0 (by decide) rfl rfl (Nat.le_of_ble_eq_true rfl) dL_law_899 ?_
  exact x_lcmp_eq (tgt := 1072) G dL_law_902 rfl dL_law_903 (by decide) (fun _ => kk s2 h3) (fun h => absurd rfl h)
theorem lc_23 {E : En} {b : Bn} {Q : State → Prop} {L i : Nat} {xs : Nat → Int32} {s : Mem} (G : ab_G E b code 4 RL (some .boolean) 2048) (B : lw_B E b L xs) (hL : L ≤ 2560) (hi : i + 5 ≤ L) (hI : Inv s) (kk : ∀ s', Inv s' → ab_X E b Q 4 1072 [(3, vI i), (2, vR 0), (1, vR 17), (0, vR 148)] [] s') : ab_X E b Q 4 908 [(3, vI i), (2, vR 0), (1, vR 17), (0, vR 148)] [] s := by
  obtain ⟨r, s1, s2, h1, h2, h3⟩ := call_bestGun hI 
  refine x_aload_n (j := 2) G dL_law_908 rfl rfl ?_
  refine cv_806 (k := 17) (As := []) (rest := []) G (rX8_bestGun h1) sh_17 (by decide) rfl rfl (Nat.le_of_ble_eq_true rfl) dL_law_909 ?_
  refine x_aload_n (j := 1) G dL_law_912 rfl rfl ?_
  refine cv_1204 (k := 0) (As := []) (rest := [vI r]) G (rX9_bestGun h2) sh_0 (by decide) rfl rfl (Nat.le_of_ble_eq_true rfl) dL_law_913 ?_
  exact x_icmp_eq (tgt := 1072) G dL_law_916 (by decide) (fun _ => kk s2 h3) (fun h => absurd rfl h)
theorem lc_24 {E : En} {b : Bn} {Q : State → Prop} {L i : Nat} {xs : Nat → Int32} {s : Mem} (G : ab_G E b code 4 RL (some .boolean) 2048) (B : lw_B E b L xs) (hL : L ≤ 2560) (hi : i + 5 ≤ L) (hI : Inv s) (kk : ∀ s', Inv s' → ab_X E b Q 4 1072 [(3, vI i), (2, vR 0), (1, vR 17), (0, vR 148)] [] s') : ab_X E b Q 4 921 [(3, vI i), (2, vR 0), (1, vR 17), (0, vR 148)] [] s := by
  obtain ⟨r, s1, s2, h1, h2, h3⟩ := call_convoy hI (sx xs (i + 1)) (sx xs (i + 2)) (sx xs (i + 3))
  refine x_aload_n (j := 2) G dL_law_921 rfl rfl ?_
  refine x_arg (j := 1) G B (by decide) hi hL dL_law_922 dL_law_923 dL_law_924 dL_law_925 dL_law_926 ?_
  refine x_arg (j := 2) G B (by decide) hi hL dL_law_927 dL_law_928 dL_law_929 dL_law_930 dL_law_931 ?_
  refine x_arg (j := 3) G B (by decide) hi hL dL_law_932 dL_law_933 dL_law_934 dL_law_935 dL_law_936 ?_
  refine cv_810 (k := 17) (As := [vI (sx xs (i + 1)), vI (sx xs (i + 2)), vI (sx xs (i + 3))]) (rest := []) G (rX8_convoy h1) sh_17 (by decide) rfl rfl (Nat.le_of_ble_eq_true rfl) dL_law_937 ?_
  refine x_aload_n (j := 1) G dL_law_940 rfl rfl ?_
  refine x_arg (j := 1) G B (by decide) hi hL dL_law_941 dL_law_942 dL_law_943 dL_law_944 dL_law_945 ?_
  refine x_arg (j := 2) G B (by decide) hi hL dL_law_946 dL_law_947 dL_law_948 dL_law_949 dL_law_950 ?_
  refine x_arg (j := 3) G B (by decide) hi hL dL_law_951 dL_law_952 dL_law_953 dL_law_954 dL_law_955 ?_
  refine cv_1208 (k := 0) (As := [vI (sx xs (i + 1)), vI (sx xs (i + 2)), vI (sx xs (i + 3))]) (rest := [vL r]) G (rX9_convoy h2) sh_0 (by decide) rfl rfl (Nat.le_of_ble_eq_true rfl) dL_law_956 ?_
  exact x_lcmp_eq (tgt := 1072) G dL_law_959 rfl dL_law_960 (by decide) (fun _ => kk s2 h3) (fun h => absurd rfl h)
theorem lc_25 {E : En} {b : Bn} {Q : State → Prop} {L i : Nat} {xs : Nat → Int32} {s : Mem} (G : ab_G E b code 4 RL (some .boolean) 2048) (B : lw_B E b L xs) (hL : L ≤ 2560) (hi : i + 5 ≤ L) (hI : Inv s) (kk : ∀ s', Inv s' → ab_X E b Q 4 1072 [(3, vI i), (2, vR 0), (1, vR 17), (0, vR 148)] [] s') : ab_X E b Q 4 965 [(3, vI i), (2, vR 0), (1, vR 17), (0, vR 148)] [] s := by
  obtain ⟨r, s1, s2, h1, h2, h3⟩ := call_first hI 
  refine x_aload_n (j := 2) G dL_law_965 rfl rfl ?_
  refine cv_823 (k := 17) (As := []) (rest := []) G (rX8_first h1) sh_17 (by decide) rfl rfl (Nat.le_of_ble_eq_true rfl) dL_law_966 ?_
  refine x_aload_n (j := 1) G dL_law_969 rfl rfl ?_
  refine cv_1212 (k := 0) (As := []) (rest := [vL r]) G (rX9_first h2) sh_0 (by decide) rfl rfl (Nat.le_of_ble_eq_true rfl) dL_law_970 ?_
  exact x_lcmp_eq (tgt := 1072) G dL_law_973 rfl dL_law_974 (by decide) (fun _ => kk s2 h3) (fun h => absurd rfl h)
theorem lc_26 {E : En} {b : Bn} {Q : State → Prop} {L i : Nat} {xs : Nat → Int32} {s : Mem} (G : ab_G E b code 4 RL (some .boolean) 2048) (B : lw_B E b L xs) (hL : L ≤ 2560) (hi : i + 5 ≤ L) (hI : Inv s) (kk : ∀ s', Inv s' → ab_X E b Q 4 1072 [(3, vI i), (2, vR 0), (1, vR 17), (0, vR 148)] [] s') : ab_X E b Q 4 979 [(3, vI i), (2, vR 0), (1, vR 17), (0, vR 148)] [] s := by
  obtain ⟨r, s1, s2, h1, h2, h3⟩ := call_night hI (sx xs (i + 1)) (sx xs (i + 2)) (sx xs (i + 3))
  refine x_aload_n (j := 2) G dL_law_979 rfl rfl ?_
  refine x_arg (j := 1) G B (by decide) hi hL dL_law_980 dL_law_981 dL_law_982 dL_law_983 dL_law_984 ?_
  refine x_arg (j := 2) G B (by decide) hi hL dL_law_985 dL_law_986 dL_law_987 dL_law_988 dL_law_989 ?_
  refine x_arg (j := 3) G B (by decide) hi hL dL_law_990 dL_law_991 dL_law_992 dL_law_993 dL_law_994 ?_
  refine cv_831 (k := 17) (As := [vI (sx xs (i + 1)), vI (sx xs (i + 2)), vI (sx xs (i + 3))]) (rest := []) G (rX8_night h1) sh_17 (by decide) rfl rfl (Nat.le_of_ble_eq_true rfl) dL_law_995 ?_
  refine x_aload_n (j := 1) G dL_law_998 rfl rfl ?_
  refine x_arg (j := 1) G B (by decide) hi hL dL_law_999 dL_law_1000 dL_law_1001 dL_law_1002 dL_law_1003 ?_
  refine x_arg (j := 2) G B (by decide) hi hL dL_law_1004 dL_law_1005 dL_law_1006 dL_law_1007 dL_law_1008 ?_
  refine x_arg (j := 3) G B (by decide) hi hL dL_law_1009 dL_law_1010 dL_law_1011 dL_law_1012 dL_law_1013 ?_
  refine cv_1216 (k := 0) (As := [vI (sx xs (i + 1)), vI (sx xs (i + 2)), vI (sx xs (i + 3))]) (rest := [vL r]) G (rX9_night h2) sh_0 (by decide) rfl rfl (Nat.le_of_ble_eq_true rfl) dL_law_1014 ?_
  exact x_lcmp_eq (tgt := 1072) G dL_law_1017 rfl dL_law_1018 (by decide) (fun _ => kk s2 h3) (fun h => absurd rfl h)
theorem lc_27 {E : En} {b : Bn} {Q : State → Prop} {L i : Nat} {xs : Nat → Int32} {s : Mem} (G : ab_G E b code 4 RL (some .boolean) 2048) (B : lw_B E b L xs) (hL : L ≤ 2560) (hi : i + 5 ≤ L) (hI : Inv s) (kk : ∀ s', Inv s' → ab_X E b Q 4 1072 [(3, vI i), (2, vR 0), (1, vR 17), (0, vR 148)] [] s') : ab_X E b Q 4 1023 [(3, vI i), (2, vR 0), (1, vR 17), (0, vR 148)] [] s := by
  obtain ⟨r, s1, s2, h1, h2, h3⟩ := call_keep hI 
  refine x_aload_n (j := 2) G dL_law_1023 rfl rfl ?_
  refine cv_842 (k := 17) (As := []) (rest := []) G (rX8_keep h1) sh_17 (by decide) rfl rfl (Nat.le_of_ble_eq_true rfl) dL_law_1024 ?_
  refine x_aload_n (j := 1) G dL_law_1027 rfl rfl ?_
  refine cv_1223 (k := 0) (As := []) (rest := [vI r]) G (rX9_keep h2) sh_0 (by decide) rfl rfl (Nat.le_of_ble_eq_true rfl) dL_law_1028 ?_
  exact x_icmp_eq (tgt := 1072) G dL_law_1031 (by decide) (fun _ => kk s2 h3) (fun h => absurd rfl h)
theorem lc_28 {E : En} {b : Bn} {Q : State → Prop} {L i : Nat} {xs : Nat → Int32} {s : Mem} (G : ab_G E b code 4 RL (some .boolean) 2048) (B : lw_B E b L xs) (hL : L ≤ 2560) (hi : i + 5 ≤ L) (hI : Inv s) (kk : ∀ s', Inv s' → ab_X E b Q 4 1072 [(3, vI i), (2, vR 0), (1, vR 17), (0, vR 148)] [] s') : ab_X E b Q 4 1036 [(3, vI i), (2, vR 0), (1, vR 17), (0, vR 148)] [] s := by
  obtain ⟨r, s1, s2, h1, h2, h3⟩ := call_back hI 
  refine x_aload_n (j := 2) G dL_law_1036 rfl rfl ?_
  refine cv_851 (k := 17) (As := []) (rest := []) G (rX8_back h1) sh_17 (by decide) rfl rfl (Nat.le_of_ble_eq_true rfl) dL_law_1037 ?_
  refine x_aload_n (j := 1) G dL_law_1040 rfl rfl ?_
  refine cv_1227 (k := 0) (As := []) (rest := [vI r]) G (rX9_back h2) sh_0 (by decide) rfl rfl (Nat.le_of_ble_eq_true rfl) dL_law_1041 ?_
  exact x_icmp_eq (tgt := 1072) G dL_law_1044 (by decide) (fun _ => kk s2 h3) (fun h => absurd rfl h)
theorem lc_29 {E : En} {b : Bn} {Q : State → Prop} {L i : Nat} {xs : Nat → Int32} {s : Mem} (G : ab_G E b code 4 RL (some .boolean) 2048) (B : lw_B E b L xs) (hL : L ≤ 2560) (hi : i + 5 ≤ L) (hI : Inv s) (kk : ∀ s', Inv s' → ab_X E b Q 4 1072 [(3, vI i), (2, vR 0), (1, vR 17), (0, vR 148)] [] s') : ab_X E b Q 4 1049 [(3, vI i), (2, vR 0), (1, vR 17), (0, vR 148)] [] s := by
  obtain ⟨r, s1, s2, h1, h2, h3⟩ := call_count hI (sx xs (i + 1))
  refine x_aload_n (j := 2) G dL_law_1049 rfl rfl ?_
  refine x_arg (j := 1) G B (by decide) hi hL dL_law_1050 dL_law_1051 dL_law_1052 dL_law_1053 dL_law_1054 ?_
  refine cv_855 (k := 17) (As := [vI (sx xs (i + 1))]) (rest := []) G (rX8_count h1) sh_17 (by decide) rfl rfl (Nat.le_of_ble_eq_true rfl) dL_law_1055 ?_
  refine x_aload_n (j := 1) G dL_law_1058 rfl rfl ?_
  refine x_arg (j := 1) G B (by decide) hi hL dL_law_1059 dL_law_1060 dL_law_1061 dL_law_1062 dL_law_1063 ?_
  refine cv_1231 (k := 0) (As := [vI (sx xs (i + 1))]) (rest := [vI r]) G (rX9_count h2) sh_0 (by decide) rfl rfl (Nat.le_of_ble_eq_true rfl) dL_law_1064 ?_
  exact x_icmp_eq (tgt := 1072) G dL_law_1067 (by decide) (fun _ => kk s2 h3) (fun h => absurd rfl h)
theorem lc_sw {E : En} {b : Bn} {Q : State → Prop} {L i : Nat} {xs : Nat → Int32} {s : Mem} (G : ab_G E b code 4 RL (some .boolean) 2048) (B : lw_B E b L xs) (hL : L ≤ 2560) (hi : i + 5 ≤ L) (hI : Inv s) (kk : ∀ s', Inv s' → ab_X E b Q 4 1072 [(3, vI i), (2, vR 0), (1, vR 17), (0, vR 148)] [] s') : ∀ n : Nat, n < 32 → ab_X E b Q 4 32 [(3, vI i), (2, vR 0), (1, vR 17), (0, vR 148)] [vI (n : Int)] s := by
  intro n hn
  match n, hn with
  | 0, _ => exact x_table (tgt := 168) G dL_law_32 (by decide) (by decide) (lc_0 G B hL hi hI kk)
  | 1, _ => exact x_table (tgt := 231) G dL_law_32 (by decide) (by decide) (lc_1 G B hL hi hI kk)
  | 2, _ => exact x_table (tgt := 244) G dL_law_32 (by decide) (by decide) (lc_2 G B hL hi hI kk)
  | 3, _ => exact x_table (tgt := 257) G dL_law_32 (by decide) (by decide) (lc_3 G B hL hi hI kk)
  | 4, _ => exact x_table (tgt := 270) G dL_law_32 (by decide) (by decide) (lc_4 G B hL hi hI kk)
  | 5, _ => exact x_table (tgt := 313) G dL_law_32 (by decide) (by decide) (lc_5 G B hL hi hI kk)
  | 6, _ => exact x_table (tgt := 356) G dL_law_32 (by decide) (by decide) (lc_6 G B hL hi hI kk)
  | 7, _ => exact x_table (tgt := 399) G dL_law_32 (by decide) (by decide) (lc_7 G B hL hi hI kk)
  | 8, _ => exact x_table (tgt := 452) G dL_law_32 (by decide) (by decide) (lc_8 G B hL hi hI kk)
  | 9, _ => exact x_table (tgt := 495) G dL_law_32 (by decide) (by decide) (lc_9 G B hL hi hI kk)
  | 10, _ => exact x_table (tgt := 519) G dL_law_32 (by decide) (by decide) (lc_10 G B hL hi hI kk)
  | 11, _ => exact x_table (tgt := 552) G dL_law_32 (by decide) (by decide) (lc_11 G B hL hi hI kk)
  | 12, _ => exact x_table (tgt := 595) G dL_law_32 (by decide) (by decide) (lc_12 G B hL hi hI kk)
  | 13, _ => exact x_table (tgt := 609) G dL_law_32 (by decide) (by decide) (lc_13 G B hL hi hI kk)
  | 14, _ => exact x_table (tgt := 632) G dL_law_32 (by decide) (by decide) (lc_14 G B hL hi hI kk)
  | 15, _ => exact x_table (tgt := 655) G dL_law_32 (by decide) (by decide) (lc_15 G B hL hi hI kk)
  | 16, _ => exact x_table (tgt := 678) G dL_law_32 (by decide) (by decide) (lc_16 G B hL hi hI kk)
  | 17, _ => exact x_table (tgt := 711) G dL_law_32 (by decide) (by decide) (lc_17 G B hL hi hI kk)
  | 18, _ => exact x_table (tgt := 735) G dL_law_32 (by decide) (by decide) (lc_18 G B hL hi hI kk)
  | 19, _ => exact x_table (tgt := 778) G dL_law_32 (by decide) (by decide) (lc_19 G B hL hi hI kk)
  | 20, _ => exact x_table (tgt := 802) G dL_law_32 (by decide) (by decide) (lc_20 G B hL hi hI kk)
  | 21, _ => exact x_table (tgt := 845) G dL_law_32 (by decide) (by decide) (lc_21 G B hL hi hI kk)
  | 22, _ => exact x_table (tgt := 884) G dL_law_32 (by decide) (by decide) (lc_22 G B hL hi hI kk)
  | 23, _ => exact x_table (tgt := 908) G dL_law_32 (by decide) (by decide) (lc_23 G B hL hi hI kk)
  | 24, _ => exact x_table (tgt := 921) G dL_law_32 (by decide) (by decide) (lc_24 G B hL hi hI kk)
  | 25, _ => exact x_table (tgt := 965) G dL_law_32 (by decide) (by decide) (lc_25 G B hL hi hI kk)
  | 26, _ => exact x_table (tgt := 979) G dL_law_32 (by decide) (by decide) (lc_26 G B hL hi hI kk)
  | 27, _ => exact x_table (tgt := 1023) G dL_law_32 (by decide) (by decide) (lc_27 G B hL hi hI kk)
  | 28, _ => exact x_table (tgt := 1036) G dL_law_32 (by decide) (by decide) (lc_28 G B hL hi hI kk)
  | 29, _ => exact x_table (tgt := 1049) G dL_law_32 (by decide) (by decide) (lc_29 G B hL hi hI kk)
  | 30, _ => exact x_table (tgt := 1072) G dL_law_32 (by decide) (by decide) (kk s hI)
  | 31, _ => exact x_table (tgt := 1072) G dL_law_32 (by decide) (by decide) (kk s hI)
  | n + 32, hn => exact absurd hn (by omega)
theorem lw_loop {E : En} {b : Bn} {Q : State → Prop} {L : Nat} {xs : Nat → Int32} (G : ab_G E b code 4 RL (some .boolean) 2048) (B : lw_B E b L xs) (hL : L ≤ 2560) (hend : ∀ s ls, ab_X E b Q 4 1078 ls [] s) : ∀ (m i : Nat) (s : Mem), L < i + m → i < 3000 → Inv s → ab_X E b Q 4 18 [(3, vI i), (2, vR 0), (1, vR 17), (0, vR 148)] [] s := by
  intro m
  induction m with
  | zero =>
    intro i s hm h30 hI
    refine x_iload_n (j := 0) G dL_law_18 rfl rfl ?_
    refine x_aload_n (j := 3) G dL_law_19 rfl rfl ?_
    refine x_scrlen G B hL dL_law_20 ?_
    refine x_iconst G dL_law_21 (by decide) ?_
    refine x_isub G dL_law_22 ?_
    rw [w32_id (by omega) (by omega)]
    exact x_icmp_gt (tgt := 1078) G dL_law_23 (by decide) (fun _ => hend _ _) (fun h => absurd h (by omega))
  | succ m ih =>
    intro i s hm h30 hI
    refine x_iload_n (j := 0) G dL_law_18 rfl rfl ?_
    refine x_aload_n (j := 3) G dL_law_19 rfl rfl ?_
    refine x_scrlen G B hL dL_law_20 ?_
    refine x_iconst G dL_law_21 (by decide) ?_
    refine x_isub G dL_law_22 ?_
    rw [w32_id (by omega) (by omega)]
    refine x_icmp_gt (tgt := 1078) G dL_law_23 (by decide) (fun _ => hend _ _) (fun h => ?_)
    have hi : i + 5 ≤ L := by omega
    refine x_aload_n (j := 3) G dL_law_26 rfl rfl ?_
    refine x_iload_n (j := 0) G dL_law_27 rfl rfl ?_
    refine x_scr (i := i) G B (by omega) hL dL_law_28 ?_
    refine x_bipush G dL_law_29 (by decide) (by decide) ?_
    refine x_iand G dL_law_31 ?_
    obtain ⟨n, hn, hn2⟩ := and31 (sx xs i)
    rw [hn]
    refine lc_sw G B hL hi hI (fun s' hI' => ?_) n hn2
    refine x_iinc (j := 0) (ls' := [(3, vI ((i + 5 : Nat) : Int)), (2, vR 0), (1, vR 17), (0, vR 148)]) G dL_law_1072 rfl (by decide) (by
      rw [w32_id (by omega) (by omega), show (i : Int) + 5 = ((i + 5 : Nat) : Int) by omega]; rfl) ?_
    exact x_goto (tgt := 18) G dL_law_1075 (by decide) (ih (i + 5) s' (by omega) (by omega) hI')

