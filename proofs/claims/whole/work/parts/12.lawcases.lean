set_option maxRecDepth 100000 in
theorem lawc_0 {Gc Gm : ZG} (hGc : zSH Gc = shC) (hGm : zSH Gm = shM) (N : Nat) {b L : Nat} {xs : Nat → Int32} {i : Nat} (hi : i + 4 ≤ L) (hL : L ≤ 2048) {σc σm σc1 σm1 : ZM} {r : Int32} (e1 : f_X8_net N (xs (i + 1)) σc = some (r, σc1)) (e2 : f_X9_net N (xs (i + 1)) σm = some (r, σm1)) (k : zL Gc Gm b L xs 1349 [(0, .ref b), (1, .ref (zad Gc 0)), (2, .ref (zad Gm 0)), (3, .int (nI i))] [] σc1 σm1) : zL Gc Gm b L xs 212 [(0, .ref b), (1, .ref (zad Gc 0)), (2, .ref (zad Gm 0)), (3, .int (nI i))] [] σc σm := by
  refine zl_aload_n 1 (q := 213) (j := 1) rfl dL_law_212 rfl rfl ?_
  refine zl_aload_n 0 (q := 214) (j := 0) rfl dL_law_213 rfl rfl ?_
  refine zl_iload_n 3 (q := 215) (j := 3) rfl dL_law_214 rfl rfl ?_
  refine zl_iconst (q := 216) (v := 1) rfl dL_law_215 (by decide) ?_
  refine zl_iadd (q := 217) rfl dL_law_216 (zni i 1 rfl) ?_
  refine zl_sld (q := 218) rfl dL_law_217 (by omega) (by omega) ?_
  refine zl_callC (q := 221) (As := [.int (xs (i + 1))]) (rest := []) (st1 := [.int r]) rfl dL_law_218 lv_RL_13 hGc rfl rfl (Nat.le_of_ble_eq_true rfl) (ok_X8_net hGc N (by decide) e1) rfl ?_
  refine zl_aload_n 2 (q := 222) (j := 2) rfl dL_law_221 rfl rfl ?_
  refine zl_aload_n 0 (q := 223) (j := 0) rfl dL_law_222 rfl rfl ?_
  refine zl_iload_n 3 (q := 224) (j := 3) rfl dL_law_223 rfl rfl ?_
  refine zl_iconst (q := 225) (v := 1) rfl dL_law_224 (by decide) ?_
  refine zl_iadd (q := 226) rfl dL_law_225 (zni i 1 rfl) ?_
  refine zl_sld (q := 227) rfl dL_law_226 (by omega) (by omega) ?_
  refine zl_callM (q := 230) (As := [.int (xs (i + 1))]) (rest := [.int r]) (st1 := [.int r, .int r]) rfl dL_law_227 lv_RL_17 hGm rfl rfl (Nat.le_of_ble_eq_true rfl) (ok_X9_net hGm N (by decide) e2) rfl ?_
  refine zl_icmp_eq (q := 233) (tgt := 1349) rfl (by decide) dL_law_230 (fun _ => k) (fun h => absurd rfl h)
set_option maxRecDepth 100000 in
theorem lawc_1 {Gc Gm : ZG} (hGc : zSH Gc = shC) (hGm : zSH Gm = shM) (N : Nat) {b L : Nat} {xs : Nat → Int32} {i : Nat} (hi : i + 4 ≤ L) (hL : L ≤ 2048) {σc σm σc1 σm1 : ZM} {r : Int32} (e1 : f_X8_tie N (xs (i + 1)) (xs (i + 2)) (zbo (xs (i + 3))) σc = some (r, σc1)) (e2 : f_X9_tie N (xs (i + 1)) (xs (i + 2)) (zbo (xs (i + 3))) σm = some (r, σm1)) (k : zL Gc Gm b L xs 1349 [(0, .ref b), (1, .ref (zad Gc 0)), (2, .ref (zad Gm 0)), (3, .int (nI i))] [] σc1 σm1) : zL Gc Gm b L xs 235 [(0, .ref b), (1, .ref (zad Gc 0)), (2, .ref (zad Gm 0)), (3, .int (nI i))] [] σc σm := by
  by_cases hb3 : xs (i + 3) = 0
  · rw [show zbo (xs (i + 3)) = 0 from if_pos hb3] at e1 e2
    refine zl_aload_n 1 (q := 236) (j := 1) rfl dL_law_235 rfl rfl ?_
    refine zl_aload_n 0 (q := 237) (j := 0) rfl dL_law_236 rfl rfl ?_
    refine zl_iload_n 3 (q := 238) (j := 3) rfl dL_law_237 rfl rfl ?_
    refine zl_iconst (q := 239) (v := 1) rfl dL_law_238 (by decide) ?_
    refine zl_iadd (q := 240) rfl dL_law_239 (zni i 1 rfl) ?_
    refine zl_sld (q := 241) rfl dL_law_240 (by omega) (by omega) ?_
    refine zl_aload_n 0 (q := 242) (j := 0) rfl dL_law_241 rfl rfl ?_
    refine zl_iload_n 3 (q := 243) (j := 3) rfl dL_law_242 rfl rfl ?_
    refine zl_iconst (q := 244) (v := 2) rfl dL_law_243 (by decide) ?_
    refine zl_iadd (q := 245) rfl dL_law_244 (zni i 2 rfl) ?_
    refine zl_sld (q := 246) rfl dL_law_245 (by omega) (by omega) ?_
    refine zl_aload_n 0 (q := 247) (j := 0) rfl dL_law_246 rfl rfl ?_
    refine zl_iload_n 3 (q := 248) (j := 3) rfl dL_law_247 rfl rfl ?_
    refine zl_iconst (q := 249) (v := 3) rfl dL_law_248 (by decide) ?_
    refine zl_iadd (q := 250) rfl dL_law_249 (zni i 3 rfl) ?_
    refine zl_sld (q := 251) rfl dL_law_250 (by omega) (by omega) ?_
    refine zl_if_eq (q := 254) (tgt := 258) rfl (by decide) dL_law_251 (fun _ => ?_) (fun h => absurd hb3 h)
    refine zl_iconst (q := 259) (v := 0) rfl dL_law_258 (by decide) ?_
    refine zl_callC (q := 262) (As := [.int (xs (i + 1)), .int (xs (i + 2)), .int 0]) (rest := []) (st1 := [.int r]) rfl dL_law_259 lv_RL_18 hGc rfl rfl (Nat.le_of_ble_eq_true rfl) (ok_X8_tie hGc N (by decide) e1) rfl ?_
    refine zl_aload_n 2 (q := 263) (j := 2) rfl dL_law_262 rfl rfl ?_
    refine zl_aload_n 0 (q := 264) (j := 0) rfl dL_law_263 rfl rfl ?_
    refine zl_iload_n 3 (q := 265) (j := 3) rfl dL_law_264 rfl rfl ?_
    refine zl_iconst (q := 266) (v := 1) rfl dL_law_265 (by decide) ?_
    refine zl_iadd (q := 267) rfl dL_law_266 (zni i 1 rfl) ?_
    refine zl_sld (q := 268) rfl dL_law_267 (by omega) (by omega) ?_
    refine zl_aload_n 0 (q := 269) (j := 0) rfl dL_law_268 rfl rfl ?_
    refine zl_iload_n 3 (q := 270) (j := 3) rfl dL_law_269 rfl rfl ?_
    refine zl_iconst (q := 271) (v := 2) rfl dL_law_270 (by decide) ?_
    refine zl_iadd (q := 272) rfl dL_law_271 (zni i 2 rfl) ?_
    refine zl_sld (q := 273) rfl dL_law_272 (by omega) (by omega) ?_
    refine zl_aload_n 0 (q := 274) (j := 0) rfl dL_law_273 rfl rfl ?_
    refine zl_iload_n 3 (q := 275) (j := 3) rfl dL_law_274 rfl rfl ?_
    refine zl_iconst (q := 276) (v := 3) rfl dL_law_275 (by decide) ?_
    refine zl_iadd (q := 277) rfl dL_law_276 (zni i 3 rfl) ?_
    refine zl_sld (q := 278) rfl dL_law_277 (by omega) (by omega) ?_
    refine zl_if_eq (q := 281) (tgt := 285) rfl (by decide) dL_law_278 (fun _ => ?_) (fun h => absurd hb3 h)
    refine zl_iconst (q := 286) (v := 0) rfl dL_law_285 (by decide) ?_
    refine zl_callM (q := 289) (As := [.int (xs (i + 1)), .int (xs (i + 2)), .int 0]) (rest := [.int r]) (st1 := [.int r, .int r]) rfl dL_law_286 lv_RL_22 hGm rfl rfl (Nat.le_of_ble_eq_true rfl) (ok_X9_tie hGm N (by decide) e2) rfl ?_
    refine zl_icmp_eq (q := 292) (tgt := 1349) rfl (by decide) dL_law_289 (fun _ => k) (fun h => absurd rfl h)
  · rw [show zbo (xs (i + 3)) = 1 from if_neg hb3] at e1 e2
    refine zl_aload_n 1 (q := 236) (j := 1) rfl dL_law_235 rfl rfl ?_
    refine zl_aload_n 0 (q := 237) (j := 0) rfl dL_law_236 rfl rfl ?_
    refine zl_iload_n 3 (q := 238) (j := 3) rfl dL_law_237 rfl rfl ?_
    refine zl_iconst (q := 239) (v := 1) rfl dL_law_238 (by decide) ?_
    refine zl_iadd (q := 240) rfl dL_law_239 (zni i 1 rfl) ?_
    refine zl_sld (q := 241) rfl dL_law_240 (by omega) (by omega) ?_
    refine zl_aload_n 0 (q := 242) (j := 0) rfl dL_law_241 rfl rfl ?_
    refine zl_iload_n 3 (q := 243) (j := 3) rfl dL_law_242 rfl rfl ?_
    refine zl_iconst (q := 244) (v := 2) rfl dL_law_243 (by decide) ?_
    refine zl_iadd (q := 245) rfl dL_law_244 (zni i 2 rfl) ?_
    refine zl_sld (q := 246) rfl dL_law_245 (by omega) (by omega) ?_
    refine zl_aload_n 0 (q := 247) (j := 0) rfl dL_law_246 rfl rfl ?_
    refine zl_iload_n 3 (q := 248) (j := 3) rfl dL_law_247 rfl rfl ?_
    refine zl_iconst (q := 249) (v := 3) rfl dL_law_248 (by decide) ?_
    refine zl_iadd (q := 250) rfl dL_law_249 (zni i 3 rfl) ?_
    refine zl_sld (q := 251) rfl dL_law_250 (by omega) (by omega) ?_
    refine zl_if_eq (q := 254) (tgt := 258) rfl (by decide) dL_law_251 (fun h => absurd h hb3) (fun _ => ?_)
    refine zl_iconst (q := 255) (v := 1) rfl dL_law_254 (by decide) ?_
    refine zl_goto (tgt := 259) (by decide) dL_law_255 ?_
    refine zl_callC (q := 262) (As := [.int (xs (i + 1)), .int (xs (i + 2)), .int 1]) (rest := []) (st1 := [.int r]) rfl dL_law_259 lv_RL_18 hGc rfl rfl (Nat.le_of_ble_eq_true rfl) (ok_X8_tie hGc N (by decide) e1) rfl ?_
    refine zl_aload_n 2 (q := 263) (j := 2) rfl dL_law_262 rfl rfl ?_
    refine zl_aload_n 0 (q := 264) (j := 0) rfl dL_law_263 rfl rfl ?_
    refine zl_iload_n 3 (q := 265) (j := 3) rfl dL_law_264 rfl rfl ?_
    refine zl_iconst (q := 266) (v := 1) rfl dL_law_265 (by decide) ?_
    refine zl_iadd (q := 267) rfl dL_law_266 (zni i 1 rfl) ?_
    refine zl_sld (q := 268) rfl dL_law_267 (by omega) (by omega) ?_
    refine zl_aload_n 0 (q := 269) (j := 0) rfl dL_law_268 rfl rfl ?_
    refine zl_iload_n 3 (q := 270) (j := 3) rfl dL_law_269 rfl rfl ?_
    refine zl_iconst (q := 271) (v := 2) rfl dL_law_270 (by decide) ?_
    refine zl_iadd (q := 272) rfl dL_law_271 (zni i 2 rfl) ?_
    refine zl_sld (q := 273) rfl dL_law_272 (by omega) (by omega) ?_
    refine zl_aload_n 0 (q := 274) (j := 0) rfl dL_law_273 rfl rfl ?_
    refine zl_iload_n 3 (q := 275) (j := 3) rfl dL_law_274 rfl rfl ?_
    refine zl_iconst (q := 276) (v := 3) rfl dL_law_275 (by decide) ?_
    refine zl_iadd (q := 277) rfl dL_law_276 (zni i 3 rfl) ?_
    refine zl_sld (q := 278) rfl dL_law_277 (by omega) (by omega) ?_
    refine zl_if_eq (q := 281) (tgt := 285) rfl (by decide) dL_law_278 (fun h => absurd h hb3) (fun _ => ?_)
    refine zl_iconst (q := 282) (v := 1) rfl dL_law_281 (by decide) ?_
    refine zl_goto (tgt := 286) (by decide) dL_law_282 ?_
    refine zl_callM (q := 289) (As := [.int (xs (i + 1)), .int (xs (i + 2)), .int 1]) (rest := [.int r]) (st1 := [.int r, .int r]) rfl dL_law_286 lv_RL_22 hGm rfl rfl (Nat.le_of_ble_eq_true rfl) (ok_X9_tie hGm N (by decide) e2) rfl ?_
    refine zl_icmp_eq (q := 292) (tgt := 1349) rfl (by decide) dL_law_289 (fun _ => k) (fun h => absurd rfl h)
set_option maxRecDepth 100000 in
theorem lawc_2 {Gc Gm : ZG} (hGc : zSH Gc = shC) (hGm : zSH Gm = shM) (N : Nat) {b L : Nat} {xs : Nat → Int32} {i : Nat} (hi : i + 4 ≤ L) (hL : L ≤ 2048) {σc σm σc1 σm1 : ZM} {r : Int32} (e1 : f_X8_tied N (xs (i + 1)) (xs (i + 2)) σc = some (r, σc1)) (e2 : f_X9_tied N (xs (i + 1)) (xs (i + 2)) σm = some (r, σm1)) (k : zL Gc Gm b L xs 1349 [(0, .ref b), (1, .ref (zad Gc 0)), (2, .ref (zad Gm 0)), (3, .int (nI i))] [] σc1 σm1) : zL Gc Gm b L xs 294 [(0, .ref b), (1, .ref (zad Gc 0)), (2, .ref (zad Gm 0)), (3, .int (nI i))] [] σc σm := by
  refine zl_aload_n 1 (q := 295) (j := 1) rfl dL_law_294 rfl rfl ?_
  refine zl_aload_n 0 (q := 296) (j := 0) rfl dL_law_295 rfl rfl ?_
  refine zl_iload_n 3 (q := 297) (j := 3) rfl dL_law_296 rfl rfl ?_
  refine zl_iconst (q := 298) (v := 1) rfl dL_law_297 (by decide) ?_
  refine zl_iadd (q := 299) rfl dL_law_298 (zni i 1 rfl) ?_
  refine zl_sld (q := 300) rfl dL_law_299 (by omega) (by omega) ?_
  refine zl_aload_n 0 (q := 301) (j := 0) rfl dL_law_300 rfl rfl ?_
  refine zl_iload_n 3 (q := 302) (j := 3) rfl dL_law_301 rfl rfl ?_
  refine zl_iconst (q := 303) (v := 2) rfl dL_law_302 (by decide) ?_
  refine zl_iadd (q := 304) rfl dL_law_303 (zni i 2 rfl) ?_
  refine zl_sld (q := 305) rfl dL_law_304 (by omega) (by omega) ?_
  refine zl_callC (q := 308) (As := [.int (xs (i + 1)), .int (xs (i + 2))]) (rest := []) (st1 := [.int r]) rfl dL_law_305 lv_RL_23 hGc rfl rfl (Nat.le_of_ble_eq_true rfl) (ok_X8_tied hGc N (by decide) e1) rfl ?_
  refine zl_aload_n 2 (q := 309) (j := 2) rfl dL_law_308 rfl rfl ?_
  refine zl_aload_n 0 (q := 310) (j := 0) rfl dL_law_309 rfl rfl ?_
  refine zl_iload_n 3 (q := 311) (j := 3) rfl dL_law_310 rfl rfl ?_
  refine zl_iconst (q := 312) (v := 1) rfl dL_law_311 (by decide) ?_
  refine zl_iadd (q := 313) rfl dL_law_312 (zni i 1 rfl) ?_
  refine zl_sld (q := 314) rfl dL_law_313 (by omega) (by omega) ?_
  refine zl_aload_n 0 (q := 315) (j := 0) rfl dL_law_314 rfl rfl ?_
  refine zl_iload_n 3 (q := 316) (j := 3) rfl dL_law_315 rfl rfl ?_
  refine zl_iconst (q := 317) (v := 2) rfl dL_law_316 (by decide) ?_
  refine zl_iadd (q := 318) rfl dL_law_317 (zni i 2 rfl) ?_
  refine zl_sld (q := 319) rfl dL_law_318 (by omega) (by omega) ?_
  refine zl_callM (q := 322) (As := [.int (xs (i + 1)), .int (xs (i + 2))]) (rest := [.int r]) (st1 := [.int r, .int r]) rfl dL_law_319 lv_RL_27 hGm rfl rfl (Nat.le_of_ble_eq_true rfl) (ok_X9_tied hGm N (by decide) e2) rfl ?_
  refine zl_icmp_eq (q := 325) (tgt := 1349) rfl (by decide) dL_law_322 (fun _ => k) (fun h => absurd rfl h)
set_option maxRecDepth 100000 in
theorem lawc_3 {Gc Gm : ZG} (hGc : zSH Gc = shC) (hGm : zSH Gm = shM) (N : Nat) {b L : Nat} {xs : Nat → Int32} {i : Nat} (hi : i + 4 ≤ L) (hL : L ≤ 2048) {σc σm σc1 σm1 : ZM} {r : Int32} (e1 : f_X8_askers N (xs (i + 1)) (xs (i + 2)) σc = some (r, σc1)) (e2 : f_X9_askers N (xs (i + 1)) (xs (i + 2)) σm = some (r, σm1)) (k : zL Gc Gm b L xs 1349 [(0, .ref b), (1, .ref (zad Gc 0)), (2, .ref (zad Gm 0)), (3, .int (nI i))] [] σc1 σm1) : zL Gc Gm b L xs 327 [(0, .ref b), (1, .ref (zad Gc 0)), (2, .ref (zad Gm 0)), (3, .int (nI i))] [] σc σm := by
  refine zl_aload_n 1 (q := 328) (j := 1) rfl dL_law_327 rfl rfl ?_
  refine zl_aload_n 0 (q := 329) (j := 0) rfl dL_law_328 rfl rfl ?_
  refine zl_iload_n 3 (q := 330) (j := 3) rfl dL_law_329 rfl rfl ?_
  refine zl_iconst (q := 331) (v := 1) rfl dL_law_330 (by decide) ?_
  refine zl_iadd (q := 332) rfl dL_law_331 (zni i 1 rfl) ?_
  refine zl_sld (q := 333) rfl dL_law_332 (by omega) (by omega) ?_
  refine zl_aload_n 0 (q := 334) (j := 0) rfl dL_law_333 rfl rfl ?_
  refine zl_iload_n 3 (q := 335) (j := 3) rfl dL_law_334 rfl rfl ?_
  refine zl_iconst (q := 336) (v := 2) rfl dL_law_335 (by decide) ?_
  refine zl_iadd (q := 337) rfl dL_law_336 (zni i 2 rfl) ?_
  refine zl_sld (q := 338) rfl dL_law_337 (by omega) (by omega) ?_
  refine zl_callC (q := 341) (As := [.int (xs (i + 1)), .int (xs (i + 2))]) (rest := []) (st1 := [.int r]) rfl dL_law_338 lv_RL_28 hGc rfl rfl (Nat.le_of_ble_eq_true rfl) (ok_X8_askers hGc N (by decide) e1) rfl ?_
  refine zl_aload_n 2 (q := 342) (j := 2) rfl dL_law_341 rfl rfl ?_
  refine zl_aload_n 0 (q := 343) (j := 0) rfl dL_law_342 rfl rfl ?_
  refine zl_iload_n 3 (q := 344) (j := 3) rfl dL_law_343 rfl rfl ?_
  refine zl_iconst (q := 345) (v := 1) rfl dL_law_344 (by decide) ?_
  refine zl_iadd (q := 346) rfl dL_law_345 (zni i 1 rfl) ?_
  refine zl_sld (q := 347) rfl dL_law_346 (by omega) (by omega) ?_
  refine zl_aload_n 0 (q := 348) (j := 0) rfl dL_law_347 rfl rfl ?_
  refine zl_iload_n 3 (q := 349) (j := 3) rfl dL_law_348 rfl rfl ?_
  refine zl_iconst (q := 350) (v := 2) rfl dL_law_349 (by decide) ?_
  refine zl_iadd (q := 351) rfl dL_law_350 (zni i 2 rfl) ?_
  refine zl_sld (q := 352) rfl dL_law_351 (by omega) (by omega) ?_
  refine zl_callM (q := 355) (As := [.int (xs (i + 1)), .int (xs (i + 2))]) (rest := [.int r]) (st1 := [.int r, .int r]) rfl dL_law_352 lv_RL_31 hGm rfl rfl (Nat.le_of_ble_eq_true rfl) (ok_X9_askers hGm N (by decide) e2) rfl ?_
  refine zl_icmp_eq (q := 358) (tgt := 1349) rfl (by decide) dL_law_355 (fun _ => k) (fun h => absurd rfl h)
set_option maxRecDepth 100000 in
theorem lawc_4 {Gc Gm : ZG} (hGc : zSH Gc = shC) (hGm : zSH Gm = shM) (N : Nat) {b L : Nat} {xs : Nat → Int32} {i : Nat} (hi : i + 4 ≤ L) (hL : L ≤ 2048) {σc σm σc1 σm1 : ZM} {r : Int32} (e1 : f_X8_guess N (xs (i + 1)) (xs (i + 2)) σc = some (r, σc1)) (e2 : f_X9_guess N (xs (i + 1)) (xs (i + 2)) σm = some (r, σm1)) (k : zL Gc Gm b L xs 1349 [(0, .ref b), (1, .ref (zad Gc 0)), (2, .ref (zad Gm 0)), (3, .int (nI i))] [] σc1 σm1) : zL Gc Gm b L xs 360 [(0, .ref b), (1, .ref (zad Gc 0)), (2, .ref (zad Gm 0)), (3, .int (nI i))] [] σc σm := by
  refine zl_aload_n 1 (q := 361) (j := 1) rfl dL_law_360 rfl rfl ?_
  refine zl_aload_n 0 (q := 362) (j := 0) rfl dL_law_361 rfl rfl ?_
  refine zl_iload_n 3 (q := 363) (j := 3) rfl dL_law_362 rfl rfl ?_
  refine zl_iconst (q := 364) (v := 1) rfl dL_law_363 (by decide) ?_
  refine zl_iadd (q := 365) rfl dL_law_364 (zni i 1 rfl) ?_
  refine zl_sld (q := 366) rfl dL_law_365 (by omega) (by omega) ?_
  refine zl_aload_n 0 (q := 367) (j := 0) rfl dL_law_366 rfl rfl ?_
  refine zl_iload_n 3 (q := 368) (j := 3) rfl dL_law_367 rfl rfl ?_
  refine zl_iconst (q := 369) (v := 2) rfl dL_law_368 (by decide) ?_
  refine zl_iadd (q := 370) rfl dL_law_369 (zni i 2 rfl) ?_
  refine zl_sld (q := 371) rfl dL_law_370 (by omega) (by omega) ?_
  refine zl_callC (q := 374) (As := [.int (xs (i + 1)), .int (xs (i + 2))]) (rest := []) (st1 := [.int r]) rfl dL_law_371 lv_RL_32 hGc rfl rfl (Nat.le_of_ble_eq_true rfl) (ok_X8_guess hGc N (by decide) e1) rfl ?_
  refine zl_aload_n 2 (q := 375) (j := 2) rfl dL_law_374 rfl rfl ?_
  refine zl_aload_n 0 (q := 376) (j := 0) rfl dL_law_375 rfl rfl ?_
  refine zl_iload_n 3 (q := 377) (j := 3) rfl dL_law_376 rfl rfl ?_
  refine zl_iconst (q := 378) (v := 1) rfl dL_law_377 (by decide) ?_
  refine zl_iadd (q := 379) rfl dL_law_378 (zni i 1 rfl) ?_
  refine zl_sld (q := 380) rfl dL_law_379 (by omega) (by omega) ?_
  refine zl_aload_n 0 (q := 381) (j := 0) rfl dL_law_380 rfl rfl ?_
  refine zl_iload_n 3 (q := 382) (j := 3) rfl dL_law_381 rfl rfl ?_
  refine zl_iconst (q := 383) (v := 2) rfl dL_law_382 (by decide) ?_
  refine zl_iadd (q := 384) rfl dL_law_383 (zni i 2 rfl) ?_
  refine zl_sld (q := 385) rfl dL_law_384 (by omega) (by omega) ?_
  refine zl_callM (q := 388) (As := [.int (xs (i + 1)), .int (xs (i + 2))]) (rest := [.int r]) (st1 := [.int r, .int r]) rfl dL_law_385 lv_RL_35 hGm rfl rfl (Nat.le_of_ble_eq_true rfl) (ok_X9_guess hGm N (by decide) e2) rfl ?_
  refine zl_icmp_eq (q := 391) (tgt := 1349) rfl (by decide) dL_law_388 (fun _ => k) (fun h => absurd rfl h)
set_option maxRecDepth 100000 in
theorem lawc_5 {Gc Gm : ZG} (hGc : zSH Gc = shC) (hGm : zSH Gm = shM) (N : Nat) {b L : Nat} {xs : Nat → Int32} {i : Nat} (hi : i + 4 ≤ L) (hL : L ≤ 2048) {σc σm σc1 σm1 : ZM} {r : Int32} (e1 : f_X8_site N (xs (i + 1)) (xs (i + 2)) σc = some (r, σc1)) (e2 : f_X9_site N (xs (i + 1)) (xs (i + 2)) σm = some (r, σm1)) (k : zL Gc Gm b L xs 1349 [(0, .ref b), (1, .ref (zad Gc 0)), (2, .ref (zad Gm 0)), (3, .int (nI i))] [] σc1 σm1) : zL Gc Gm b L xs 393 [(0, .ref b), (1, .ref (zad Gc 0)), (2, .ref (zad Gm 0)), (3, .int (nI i))] [] σc σm := by
  refine zl_aload_n 1 (q := 394) (j := 1) rfl dL_law_393 rfl rfl ?_
  refine zl_aload_n 0 (q := 395) (j := 0) rfl dL_law_394 rfl rfl ?_
  refine zl_iload_n 3 (q := 396) (j := 3) rfl dL_law_395 rfl rfl ?_
  refine zl_iconst (q := 397) (v := 1) rfl dL_law_396 (by decide) ?_
  refine zl_iadd (q := 398) rfl dL_law_397 (zni i 1 rfl) ?_
  refine zl_sld (q := 399) rfl dL_law_398 (by omega) (by omega) ?_
  refine zl_aload_n 0 (q := 400) (j := 0) rfl dL_law_399 rfl rfl ?_
  refine zl_iload_n 3 (q := 401) (j := 3) rfl dL_law_400 rfl rfl ?_
  refine zl_iconst (q := 402) (v := 2) rfl dL_law_401 (by decide) ?_
  refine zl_iadd (q := 403) rfl dL_law_402 (zni i 2 rfl) ?_
  refine zl_sld (q := 404) rfl dL_law_403 (by omega) (by omega) ?_
  refine zl_callC (q := 407) (As := [.int (xs (i + 1)), .int (xs (i + 2))]) (rest := []) (st1 := [.int r]) rfl dL_law_404 lv_RL_36 hGc rfl rfl (Nat.le_of_ble_eq_true rfl) (ok_X8_site hGc N (by decide) e1) rfl ?_
  refine zl_aload_n 2 (q := 408) (j := 2) rfl dL_law_407 rfl rfl ?_
  refine zl_aload_n 0 (q := 409) (j := 0) rfl dL_law_408 rfl rfl ?_
  refine zl_iload_n 3 (q := 410) (j := 3) rfl dL_law_409 rfl rfl ?_
  refine zl_iconst (q := 411) (v := 1) rfl dL_law_410 (by decide) ?_
  refine zl_iadd (q := 412) rfl dL_law_411 (zni i 1 rfl) ?_
  refine zl_sld (q := 413) rfl dL_law_412 (by omega) (by omega) ?_
  refine zl_aload_n 0 (q := 414) (j := 0) rfl dL_law_413 rfl rfl ?_
  refine zl_iload_n 3 (q := 415) (j := 3) rfl dL_law_414 rfl rfl ?_
  refine zl_iconst (q := 416) (v := 2) rfl dL_law_415 (by decide) ?_
  refine zl_iadd (q := 417) rfl dL_law_416 (zni i 2 rfl) ?_
  refine zl_sld (q := 418) rfl dL_law_417 (by omega) (by omega) ?_
  refine zl_callM (q := 421) (As := [.int (xs (i + 1)), .int (xs (i + 2))]) (rest := [.int r]) (st1 := [.int r, .int r]) rfl dL_law_418 lv_RL_39 hGm rfl rfl (Nat.le_of_ble_eq_true rfl) (ok_X9_site hGm N (by decide) e2) rfl ?_
  refine zl_icmp_eq (q := 424) (tgt := 1349) rfl (by decide) dL_law_421 (fun _ => k) (fun h => absurd rfl h)
set_option maxRecDepth 100000 in
theorem lawc_6 {Gc Gm : ZG} (hGc : zSH Gc = shC) (hGm : zSH Gm = shM) (N : Nat) {b L : Nat} {xs : Nat → Int32} {i : Nat} (hi : i + 4 ≤ L) (hL : L ≤ 2048) {σc σm σc1 σm1 : ZM} {r : Int32} (e1 : f_X8_room N (xs (i + 1)) (xs (i + 2)) σc = some (r, σc1)) (e2 : f_X9_room N (xs (i + 1)) (xs (i + 2)) σm = some (r, σm1)) (k : zL Gc Gm b L xs 1349 [(0, .ref b), (1, .ref (zad Gc 0)), (2, .ref (zad Gm 0)), (3, .int (nI i))] [] σc1 σm1) : zL Gc Gm b L xs 426 [(0, .ref b), (1, .ref (zad Gc 0)), (2, .ref (zad Gm 0)), (3, .int (nI i))] [] σc σm := by
  refine zl_aload_n 1 (q := 427) (j := 1) rfl dL_law_426 rfl rfl ?_
  refine zl_aload_n 0 (q := 428) (j := 0) rfl dL_law_427 rfl rfl ?_
  refine zl_iload_n 3 (q := 429) (j := 3) rfl dL_law_428 rfl rfl ?_
  refine zl_iconst (q := 430) (v := 1) rfl dL_law_429 (by decide) ?_
  refine zl_iadd (q := 431) rfl dL_law_430 (zni i 1 rfl) ?_
  refine zl_sld (q := 432) rfl dL_law_431 (by omega) (by omega) ?_
  refine zl_aload_n 0 (q := 433) (j := 0) rfl dL_law_432 rfl rfl ?_
  refine zl_iload_n 3 (q := 434) (j := 3) rfl dL_law_433 rfl rfl ?_
  refine zl_iconst (q := 435) (v := 2) rfl dL_law_434 (by decide) ?_
  refine zl_iadd (q := 436) rfl dL_law_435 (zni i 2 rfl) ?_
  refine zl_sld (q := 437) rfl dL_law_436 (by omega) (by omega) ?_
  refine zl_callC (q := 440) (As := [.int (xs (i + 1)), .int (xs (i + 2))]) (rest := []) (st1 := [.int r]) rfl dL_law_437 lv_RL_40 hGc rfl rfl (Nat.le_of_ble_eq_true rfl) (ok_X8_room hGc N (by decide) e1) rfl ?_
  refine zl_aload_n 2 (q := 441) (j := 2) rfl dL_law_440 rfl rfl ?_
  refine zl_aload_n 0 (q := 442) (j := 0) rfl dL_law_441 rfl rfl ?_
  refine zl_iload_n 3 (q := 443) (j := 3) rfl dL_law_442 rfl rfl ?_
  refine zl_iconst (q := 444) (v := 1) rfl dL_law_443 (by decide) ?_
  refine zl_iadd (q := 445) rfl dL_law_444 (zni i 1 rfl) ?_
  refine zl_sld (q := 446) rfl dL_law_445 (by omega) (by omega) ?_
  refine zl_aload_n 0 (q := 447) (j := 0) rfl dL_law_446 rfl rfl ?_
  refine zl_iload_n 3 (q := 448) (j := 3) rfl dL_law_447 rfl rfl ?_
  refine zl_iconst (q := 449) (v := 2) rfl dL_law_448 (by decide) ?_
  refine zl_iadd (q := 450) rfl dL_law_449 (zni i 2 rfl) ?_
  refine zl_sld (q := 451) rfl dL_law_450 (by omega) (by omega) ?_
  refine zl_callM (q := 454) (As := [.int (xs (i + 1)), .int (xs (i + 2))]) (rest := [.int r]) (st1 := [.int r, .int r]) rfl dL_law_451 lv_RL_43 hGm rfl rfl (Nat.le_of_ble_eq_true rfl) (ok_X9_room hGm N (by decide) e2) rfl ?_
  refine zl_icmp_eq (q := 457) (tgt := 1349) rfl (by decide) dL_law_454 (fun _ => k) (fun h => absurd rfl h)
set_option maxRecDepth 100000 in
theorem lawc_7 {Gc Gm : ZG} (hGc : zSH Gc = shC) (hGm : zSH Gm = shM) (N : Nat) {b L : Nat} {xs : Nat → Int32} {i : Nat} (hi : i + 4 ≤ L) (hL : L ≤ 2048) {σc σm σc1 σm1 : ZM} {r : Int32} (e1 : f_X8_up N (xs (i + 1)) (zbo (xs (i + 2))) σc = some (r, σc1)) (e2 : f_X9_up N (xs (i + 1)) (zbo (xs (i + 2))) σm = some (r, σm1)) (k : zL Gc Gm b L xs 1349 [(0, .ref b), (1, .ref (zad Gc 0)), (2, .ref (zad Gm 0)), (3, .int (nI i))] [] σc1 σm1) : zL Gc Gm b L xs 459 [(0, .ref b), (1, .ref (zad Gc 0)), (2, .ref (zad Gm 0)), (3, .int (nI i))] [] σc σm := by
  by_cases hb2 : xs (i + 2) = 0
  · rw [show zbo (xs (i + 2)) = 0 from if_pos hb2] at e1 e2
    refine zl_aload_n 1 (q := 460) (j := 1) rfl dL_law_459 rfl rfl ?_
    refine zl_aload_n 0 (q := 461) (j := 0) rfl dL_law_460 rfl rfl ?_
    refine zl_iload_n 3 (q := 462) (j := 3) rfl dL_law_461 rfl rfl ?_
    refine zl_iconst (q := 463) (v := 1) rfl dL_law_462 (by decide) ?_
    refine zl_iadd (q := 464) rfl dL_law_463 (zni i 1 rfl) ?_
    refine zl_sld (q := 465) rfl dL_law_464 (by omega) (by omega) ?_
    refine zl_aload_n 0 (q := 466) (j := 0) rfl dL_law_465 rfl rfl ?_
    refine zl_iload_n 3 (q := 467) (j := 3) rfl dL_law_466 rfl rfl ?_
    refine zl_iconst (q := 468) (v := 2) rfl dL_law_467 (by decide) ?_
    refine zl_iadd (q := 469) rfl dL_law_468 (zni i 2 rfl) ?_
    refine zl_sld (q := 470) rfl dL_law_469 (by omega) (by omega) ?_
    refine zl_if_eq (q := 473) (tgt := 477) rfl (by decide) dL_law_470 (fun _ => ?_) (fun h => absurd hb2 h)
    refine zl_iconst (q := 478) (v := 0) rfl dL_law_477 (by decide) ?_
    refine zl_callC (q := 481) (As := [.int (xs (i + 1)), .int 0]) (rest := []) (st1 := [.int r]) rfl dL_law_478 lv_RL_44 hGc rfl rfl (Nat.le_of_ble_eq_true rfl) (ok_X8_up hGc N (by decide) e1) rfl ?_
    refine zl_aload_n 2 (q := 482) (j := 2) rfl dL_law_481 rfl rfl ?_
    refine zl_aload_n 0 (q := 483) (j := 0) rfl dL_law_482 rfl rfl ?_
    refine zl_iload_n 3 (q := 484) (j := 3) rfl dL_law_483 rfl rfl ?_
    refine zl_iconst (q := 485) (v := 1) rfl dL_law_484 (by decide) ?_
    refine zl_iadd (q := 486) rfl dL_law_485 (zni i 1 rfl) ?_
    refine zl_sld (q := 487) rfl dL_law_486 (by omega) (by omega) ?_
    refine zl_aload_n 0 (q := 488) (j := 0) rfl dL_law_487 rfl rfl ?_
    refine zl_iload_n 3 (q := 489) (j := 3) rfl dL_law_488 rfl rfl ?_
    refine zl_iconst (q := 490) (v := 2) rfl dL_law_489 (by decide) ?_
    refine zl_iadd (q := 491) rfl dL_law_490 (zni i 2 rfl) ?_
    refine zl_sld (q := 492) rfl dL_law_491 (by omega) (by omega) ?_
    refine zl_if_eq (q := 495) (tgt := 499) rfl (by decide) dL_law_492 (fun _ => ?_) (fun h => absurd hb2 h)
    refine zl_iconst (q := 500) (v := 0) rfl dL_law_499 (by decide) ?_
    refine zl_callM (q := 503) (As := [.int (xs (i + 1)), .int 0]) (rest := [.int r]) (st1 := [.int r, .int r]) rfl dL_law_500 lv_RL_48 hGm rfl rfl (Nat.le_of_ble_eq_true rfl) (ok_X9_up hGm N (by decide) e2) rfl ?_
    refine zl_icmp_eq (q := 506) (tgt := 1349) rfl (by decide) dL_law_503 (fun _ => k) (fun h => absurd rfl h)
  · rw [show zbo (xs (i + 2)) = 1 from if_neg hb2] at e1 e2
    refine zl_aload_n 1 (q := 460) (j := 1) rfl dL_law_459 rfl rfl ?_
    refine zl_aload_n 0 (q := 461) (j := 0) rfl dL_law_460 rfl rfl ?_
    refine zl_iload_n 3 (q := 462) (j := 3) rfl dL_law_461 rfl rfl ?_
    refine zl_iconst (q := 463) (v := 1) rfl dL_law_462 (by decide) ?_
    refine zl_iadd (q := 464) rfl dL_law_463 (zni i 1 rfl) ?_
    refine zl_sld (q := 465) rfl dL_law_464 (by omega) (by omega) ?_
    refine zl_aload_n 0 (q := 466) (j := 0) rfl dL_law_465 rfl rfl ?_
    refine zl_iload_n 3 (q := 467) (j := 3) rfl dL_law_466 rfl rfl ?_
    refine zl_iconst (q := 468) (v := 2) rfl dL_law_467 (by decide) ?_
    refine zl_iadd (q := 469) rfl dL_law_468 (zni i 2 rfl) ?_
    refine zl_sld (q := 470) rfl dL_law_469 (by omega) (by omega) ?_
    refine zl_if_eq (q := 473) (tgt := 477) rfl (by decide) dL_law_470 (fun h => absurd h hb2) (fun _ => ?_)
    refine zl_iconst (q := 474) (v := 1) rfl dL_law_473 (by decide) ?_
    refine zl_goto (tgt := 478) (by decide) dL_law_474 ?_
    refine zl_callC (q := 481) (As := [.int (xs (i + 1)), .int 1]) (rest := []) (st1 := [.int r]) rfl dL_law_478 lv_RL_44 hGc rfl rfl (Nat.le_of_ble_eq_true rfl) (ok_X8_up hGc N (by decide) e1) rfl ?_
    refine zl_aload_n 2 (q := 482) (j := 2) rfl dL_law_481 rfl rfl ?_
    refine zl_aload_n 0 (q := 483) (j := 0) rfl dL_law_482 rfl rfl ?_
    refine zl_iload_n 3 (q := 484) (j := 3) rfl dL_law_483 rfl rfl ?_
    refine zl_iconst (q := 485) (v := 1) rfl dL_law_484 (by decide) ?_
    refine zl_iadd (q := 486) rfl dL_law_485 (zni i 1 rfl) ?_
    refine zl_sld (q := 487) rfl dL_law_486 (by omega) (by omega) ?_
    refine zl_aload_n 0 (q := 488) (j := 0) rfl dL_law_487 rfl rfl ?_
    refine zl_iload_n 3 (q := 489) (j := 3) rfl dL_law_488 rfl rfl ?_
    refine zl_iconst (q := 490) (v := 2) rfl dL_law_489 (by decide) ?_
    refine zl_iadd (q := 491) rfl dL_law_490 (zni i 2 rfl) ?_
    refine zl_sld (q := 492) rfl dL_law_491 (by omega) (by omega) ?_
    refine zl_if_eq (q := 495) (tgt := 499) rfl (by decide) dL_law_492 (fun h => absurd h hb2) (fun _ => ?_)
    refine zl_iconst (q := 496) (v := 1) rfl dL_law_495 (by decide) ?_
    refine zl_goto (tgt := 500) (by decide) dL_law_496 ?_
    refine zl_callM (q := 503) (As := [.int (xs (i + 1)), .int 1]) (rest := [.int r]) (st1 := [.int r, .int r]) rfl dL_law_500 lv_RL_48 hGm rfl rfl (Nat.le_of_ble_eq_true rfl) (ok_X9_up hGm N (by decide) e2) rfl ?_
    refine zl_icmp_eq (q := 506) (tgt := 1349) rfl (by decide) dL_law_503 (fun _ => k) (fun h => absurd rfl h)
set_option maxRecDepth 100000 in
theorem lawc_8 {Gc Gm : ZG} (hGc : zSH Gc = shC) (hGm : zSH Gm = shM) (N : Nat) {b L : Nat} {xs : Nat → Int32} {i : Nat} (hi : i + 4 ≤ L) (hL : L ≤ 2048) {σc σm σc1 σm1 : ZM} {r : Int32} (e1 : f_X8_kind N (xs (i + 1)) (xs (i + 2)) σc = some (r, σc1)) (e2 : f_X9_kind N (xs (i + 1)) (xs (i + 2)) σm = some (r, σm1)) (k : zL Gc Gm b L xs 1349 [(0, .ref b), (1, .ref (zad Gc 0)), (2, .ref (zad Gm 0)), (3, .int (nI i))] [] σc1 σm1) : zL Gc Gm b L xs 508 [(0, .ref b), (1, .ref (zad Gc 0)), (2, .ref (zad Gm 0)), (3, .int (nI i))] [] σc σm := by
  refine zl_aload_n 1 (q := 509) (j := 1) rfl dL_law_508 rfl rfl ?_
  refine zl_aload_n 0 (q := 510) (j := 0) rfl dL_law_509 rfl rfl ?_
  refine zl_iload_n 3 (q := 511) (j := 3) rfl dL_law_510 rfl rfl ?_
  refine zl_iconst (q := 512) (v := 1) rfl dL_law_511 (by decide) ?_
  refine zl_iadd (q := 513) rfl dL_law_512 (zni i 1 rfl) ?_
  refine zl_sld (q := 514) rfl dL_law_513 (by omega) (by omega) ?_
  refine zl_aload_n 0 (q := 515) (j := 0) rfl dL_law_514 rfl rfl ?_
  refine zl_iload_n 3 (q := 516) (j := 3) rfl dL_law_515 rfl rfl ?_
  refine zl_iconst (q := 517) (v := 2) rfl dL_law_516 (by decide) ?_
  refine zl_iadd (q := 518) rfl dL_law_517 (zni i 2 rfl) ?_
  refine zl_sld (q := 519) rfl dL_law_518 (by omega) (by omega) ?_
  refine zl_callC (q := 522) (As := [.int (xs (i + 1)), .int (xs (i + 2))]) (rest := []) (st1 := [.int r]) rfl dL_law_519 lv_RL_49 hGc rfl rfl (Nat.le_of_ble_eq_true rfl) (ok_X8_kind hGc N (by decide) e1) rfl ?_
  refine zl_aload_n 2 (q := 523) (j := 2) rfl dL_law_522 rfl rfl ?_
  refine zl_aload_n 0 (q := 524) (j := 0) rfl dL_law_523 rfl rfl ?_
  refine zl_iload_n 3 (q := 525) (j := 3) rfl dL_law_524 rfl rfl ?_
  refine zl_iconst (q := 526) (v := 1) rfl dL_law_525 (by decide) ?_
  refine zl_iadd (q := 527) rfl dL_law_526 (zni i 1 rfl) ?_
  refine zl_sld (q := 528) rfl dL_law_527 (by omega) (by omega) ?_
  refine zl_aload_n 0 (q := 529) (j := 0) rfl dL_law_528 rfl rfl ?_
  refine zl_iload_n 3 (q := 530) (j := 3) rfl dL_law_529 rfl rfl ?_
  refine zl_iconst (q := 531) (v := 2) rfl dL_law_530 (by decide) ?_
  refine zl_iadd (q := 532) rfl dL_law_531 (zni i 2 rfl) ?_
  refine zl_sld (q := 533) rfl dL_law_532 (by omega) (by omega) ?_
  refine zl_callM (q := 536) (As := [.int (xs (i + 1)), .int (xs (i + 2))]) (rest := [.int r]) (st1 := [.int r, .int r]) rfl dL_law_533 lv_RL_52 hGm rfl rfl (Nat.le_of_ble_eq_true rfl) (ok_X9_kind hGm N (by decide) e2) rfl ?_
  refine zl_icmp_eq (q := 539) (tgt := 1349) rfl (by decide) dL_law_536 (fun _ => k) (fun h => absurd rfl h)
set_option maxRecDepth 100000 in
theorem lawc_9 {Gc Gm : ZG} (hGc : zSH Gc = shC) (hGm : zSH Gm = shM) (N : Nat) {b L : Nat} {xs : Nat → Int32} {i : Nat} (hi : i + 4 ≤ L) (hL : L ≤ 2048) {σc σm σc1 σm1 : ZM} {r : Int32} (e1 : f_X8_held N (xs (i + 1)) (xs (i + 2)) σc = some (r, σc1)) (e2 : f_X9_held N (xs (i + 1)) (xs (i + 2)) σm = some (r, σm1)) (k : zL Gc Gm b L xs 1349 [(0, .ref b), (1, .ref (zad Gc 0)), (2, .ref (zad Gm 0)), (3, .int (nI i))] [] σc1 σm1) : zL Gc Gm b L xs 541 [(0, .ref b), (1, .ref (zad Gc 0)), (2, .ref (zad Gm 0)), (3, .int (nI i))] [] σc σm := by
  refine zl_aload_n 1 (q := 542) (j := 1) rfl dL_law_541 rfl rfl ?_
  refine zl_aload_n 0 (q := 543) (j := 0) rfl dL_law_542 rfl rfl ?_
  refine zl_iload_n 3 (q := 544) (j := 3) rfl dL_law_543 rfl rfl ?_
  refine zl_iconst (q := 545) (v := 1) rfl dL_law_544 (by decide) ?_
  refine zl_iadd (q := 546) rfl dL_law_545 (zni i 1 rfl) ?_
  refine zl_sld (q := 547) rfl dL_law_546 (by omega) (by omega) ?_
  refine zl_aload_n 0 (q := 548) (j := 0) rfl dL_law_547 rfl rfl ?_
  refine zl_iload_n 3 (q := 549) (j := 3) rfl dL_law_548 rfl rfl ?_
  refine zl_iconst (q := 550) (v := 2) rfl dL_law_549 (by decide) ?_
  refine zl_iadd (q := 551) rfl dL_law_550 (zni i 2 rfl) ?_
  refine zl_sld (q := 552) rfl dL_law_551 (by omega) (by omega) ?_
  refine zl_callC (q := 555) (As := [.int (xs (i + 1)), .int (xs (i + 2))]) (rest := []) (st1 := [.int r]) rfl dL_law_552 lv_RL_53 hGc rfl rfl (Nat.le_of_ble_eq_true rfl) (ok_X8_held hGc N (by decide) e1) rfl ?_
  refine zl_aload_n 2 (q := 556) (j := 2) rfl dL_law_555 rfl rfl ?_
  refine zl_aload_n 0 (q := 557) (j := 0) rfl dL_law_556 rfl rfl ?_
  refine zl_iload_n 3 (q := 558) (j := 3) rfl dL_law_557 rfl rfl ?_
  refine zl_iconst (q := 559) (v := 1) rfl dL_law_558 (by decide) ?_
  refine zl_iadd (q := 560) rfl dL_law_559 (zni i 1 rfl) ?_
  refine zl_sld (q := 561) rfl dL_law_560 (by omega) (by omega) ?_
  refine zl_aload_n 0 (q := 562) (j := 0) rfl dL_law_561 rfl rfl ?_
  refine zl_iload_n 3 (q := 563) (j := 3) rfl dL_law_562 rfl rfl ?_
  refine zl_iconst (q := 564) (v := 2) rfl dL_law_563 (by decide) ?_
  refine zl_iadd (q := 565) rfl dL_law_564 (zni i 2 rfl) ?_
  refine zl_sld (q := 566) rfl dL_law_565 (by omega) (by omega) ?_
  refine zl_callM (q := 569) (As := [.int (xs (i + 1)), .int (xs (i + 2))]) (rest := [.int r]) (st1 := [.int r, .int r]) rfl dL_law_566 lv_RL_56 hGm rfl rfl (Nat.le_of_ble_eq_true rfl) (ok_X9_held hGm N (by decide) e2) rfl ?_
  refine zl_icmp_eq (q := 572) (tgt := 1349) rfl (by decide) dL_law_569 (fun _ => k) (fun h => absurd rfl h)
set_option maxRecDepth 100000 in
theorem lawc_10 {Gc Gm : ZG} (hGc : zSH Gc = shC) (hGm : zSH Gm = shM) (N : Nat) {b L : Nat} {xs : Nat → Int32} {i : Nat} (hi : i + 4 ≤ L) (hL : L ≤ 2048) {σc σm σc1 σm1 : ZM} {r : Int32} (e1 : f_X8_near N (xs (i + 1)) (zbo (xs (i + 2))) σc = some (r, σc1)) (e2 : f_X9_near N (xs (i + 1)) (zbo (xs (i + 2))) σm = some (r, σm1)) (k : zL Gc Gm b L xs 1349 [(0, .ref b), (1, .ref (zad Gc 0)), (2, .ref (zad Gm 0)), (3, .int (nI i))] [] σc1 σm1) : zL Gc Gm b L xs 574 [(0, .ref b), (1, .ref (zad Gc 0)), (2, .ref (zad Gm 0)), (3, .int (nI i))] [] σc σm := by
  by_cases hb2 : xs (i + 2) = 0
  · rw [show zbo (xs (i + 2)) = 0 from if_pos hb2] at e1 e2
    refine zl_aload_n 1 (q := 575) (j := 1) rfl dL_law_574 rfl rfl ?_
    refine zl_aload_n 0 (q := 576) (j := 0) rfl dL_law_575 rfl rfl ?_
    refine zl_iload_n 3 (q := 577) (j := 3) rfl dL_law_576 rfl rfl ?_
    refine zl_iconst (q := 578) (v := 1) rfl dL_law_577 (by decide) ?_
    refine zl_iadd (q := 579) rfl dL_law_578 (zni i 1 rfl) ?_
    refine zl_sld (q := 580) rfl dL_law_579 (by omega) (by omega) ?_
    refine zl_aload_n 0 (q := 581) (j := 0) rfl dL_law_580 rfl rfl ?_
    refine zl_iload_n 3 (q := 582) (j := 3) rfl dL_law_581 rfl rfl ?_
    refine zl_iconst (q := 583) (v := 2) rfl dL_law_582 (by decide) ?_
    refine zl_iadd (q := 584) rfl dL_law_583 (zni i 2 rfl) ?_
    refine zl_sld (q := 585) rfl dL_law_584 (by omega) (by omega) ?_
    refine zl_if_eq (q := 588) (tgt := 592) rfl (by decide) dL_law_585 (fun _ => ?_) (fun h => absurd hb2 h)
    refine zl_iconst (q := 593) (v := 0) rfl dL_law_592 (by decide) ?_
    refine zl_callC (q := 596) (As := [.int (xs (i + 1)), .int 0]) (rest := []) (st1 := [.int r]) rfl dL_law_593 lv_RL_57 hGc rfl rfl (Nat.le_of_ble_eq_true rfl) (ok_X8_near hGc N (by decide) e1) rfl ?_
    refine zl_aload_n 2 (q := 597) (j := 2) rfl dL_law_596 rfl rfl ?_
    refine zl_aload_n 0 (q := 598) (j := 0) rfl dL_law_597 rfl rfl ?_
    refine zl_iload_n 3 (q := 599) (j := 3) rfl dL_law_598 rfl rfl ?_
    refine zl_iconst (q := 600) (v := 1) rfl dL_law_599 (by decide) ?_
    refine zl_iadd (q := 601) rfl dL_law_600 (zni i 1 rfl) ?_
    refine zl_sld (q := 602) rfl dL_law_601 (by omega) (by omega) ?_
    refine zl_aload_n 0 (q := 603) (j := 0) rfl dL_law_602 rfl rfl ?_
    refine zl_iload_n 3 (q := 604) (j := 3) rfl dL_law_603 rfl rfl ?_
    refine zl_iconst (q := 605) (v := 2) rfl dL_law_604 (by decide) ?_
    refine zl_iadd (q := 606) rfl dL_law_605 (zni i 2 rfl) ?_
    refine zl_sld (q := 607) rfl dL_law_606 (by omega) (by omega) ?_
    refine zl_if_eq (q := 610) (tgt := 614) rfl (by decide) dL_law_607 (fun _ => ?_) (fun h => absurd hb2 h)
    refine zl_iconst (q := 615) (v := 0) rfl dL_law_614 (by decide) ?_
    refine zl_callM (q := 618) (As := [.int (xs (i + 1)), .int 0]) (rest := [.int r]) (st1 := [.int r, .int r]) rfl dL_law_615 lv_RL_60 hGm rfl rfl (Nat.le_of_ble_eq_true rfl) (ok_X9_near hGm N (by decide) e2) rfl ?_
    refine zl_icmp_eq (q := 621) (tgt := 1349) rfl (by decide) dL_law_618 (fun _ => k) (fun h => absurd rfl h)
  · rw [show zbo (xs (i + 2)) = 1 from if_neg hb2] at e1 e2
    refine zl_aload_n 1 (q := 575) (j := 1) rfl dL_law_574 rfl rfl ?_
    refine zl_aload_n 0 (q := 576) (j := 0) rfl dL_law_575 rfl rfl ?_
    refine zl_iload_n 3 (q := 577) (j := 3) rfl dL_law_576 rfl rfl ?_
    refine zl_iconst (q := 578) (v := 1) rfl dL_law_577 (by decide) ?_
    refine zl_iadd (q := 579) rfl dL_law_578 (zni i 1 rfl) ?_
    refine zl_sld (q := 580) rfl dL_law_579 (by omega) (by omega) ?_
    refine zl_aload_n 0 (q := 581) (j := 0) rfl dL_law_580 rfl rfl ?_
    refine zl_iload_n 3 (q := 582) (j := 3) rfl dL_law_581 rfl rfl ?_
    refine zl_iconst (q := 583) (v := 2) rfl dL_law_582 (by decide) ?_
    refine zl_iadd (q := 584) rfl dL_law_583 (zni i 2 rfl) ?_
    refine zl_sld (q := 585) rfl dL_law_584 (by omega) (by omega) ?_
    refine zl_if_eq (q := 588) (tgt := 592) rfl (by decide) dL_law_585 (fun h => absurd h hb2) (fun _ => ?_)
    refine zl_iconst (q := 589) (v := 1) rfl dL_law_588 (by decide) ?_
    refine zl_goto (tgt := 593) (by decide) dL_law_589 ?_
    refine zl_callC (q := 596) (As := [.int (xs (i + 1)), .int 1]) (rest := []) (st1 := [.int r]) rfl dL_law_593 lv_RL_57 hGc rfl rfl (Nat.le_of_ble_eq_true rfl) (ok_X8_near hGc N (by decide) e1) rfl ?_
    refine zl_aload_n 2 (q := 597) (j := 2) rfl dL_law_596 rfl rfl ?_
    refine zl_aload_n 0 (q := 598) (j := 0) rfl dL_law_597 rfl rfl ?_
    refine zl_iload_n 3 (q := 599) (j := 3) rfl dL_law_598 rfl rfl ?_
    refine zl_iconst (q := 600) (v := 1) rfl dL_law_599 (by decide) ?_
    refine zl_iadd (q := 601) rfl dL_law_600 (zni i 1 rfl) ?_
    refine zl_sld (q := 602) rfl dL_law_601 (by omega) (by omega) ?_
    refine zl_aload_n 0 (q := 603) (j := 0) rfl dL_law_602 rfl rfl ?_
    refine zl_iload_n 3 (q := 604) (j := 3) rfl dL_law_603 rfl rfl ?_
    refine zl_iconst (q := 605) (v := 2) rfl dL_law_604 (by decide) ?_
    refine zl_iadd (q := 606) rfl dL_law_605 (zni i 2 rfl) ?_
    refine zl_sld (q := 607) rfl dL_law_606 (by omega) (by omega) ?_
    refine zl_if_eq (q := 610) (tgt := 614) rfl (by decide) dL_law_607 (fun h => absurd h hb2) (fun _ => ?_)
    refine zl_iconst (q := 611) (v := 1) rfl dL_law_610 (by decide) ?_
    refine zl_goto (tgt := 615) (by decide) dL_law_611 ?_
    refine zl_callM (q := 618) (As := [.int (xs (i + 1)), .int 1]) (rest := [.int r]) (st1 := [.int r, .int r]) rfl dL_law_615 lv_RL_60 hGm rfl rfl (Nat.le_of_ble_eq_true rfl) (ok_X9_near hGm N (by decide) e2) rfl ?_
    refine zl_icmp_eq (q := 621) (tgt := 1349) rfl (by decide) dL_law_618 (fun _ => k) (fun h => absurd rfl h)
set_option maxRecDepth 100000 in
theorem lawc_11 {Gc Gm : ZG} (hGc : zSH Gc = shC) (hGm : zSH Gm = shM) (N : Nat) {b L : Nat} {xs : Nat → Int32} {i : Nat} (hi : i + 4 ≤ L) (hL : L ≤ 2048) {σc σm σc1 σm1 : ZM} {r : Int32} (e1 : f_X8_late N (xs (i + 1)) (xs (i + 2)) (xs (i + 3)) σc = some (r, σc1)) (e2 : f_X9_late N (xs (i + 1)) (xs (i + 2)) (xs (i + 3)) σm = some (r, σm1)) (k : zL Gc Gm b L xs 1349 [(0, .ref b), (1, .ref (zad Gc 0)), (2, .ref (zad Gm 0)), (3, .int (nI i))] [] σc1 σm1) : zL Gc Gm b L xs 623 [(0, .ref b), (1, .ref (zad Gc 0)), (2, .ref (zad Gm 0)), (3, .int (nI i))] [] σc σm := by
  refine zl_aload_n 1 (q := 624) (j := 1) rfl dL_law_623 rfl rfl ?_
  refine zl_aload_n 0 (q := 625) (j := 0) rfl dL_law_624 rfl rfl ?_
  refine zl_iload_n 3 (q := 626) (j := 3) rfl dL_law_625 rfl rfl ?_
  refine zl_iconst (q := 627) (v := 1) rfl dL_law_626 (by decide) ?_
  refine zl_iadd (q := 628) rfl dL_law_627 (zni i 1 rfl) ?_
  refine zl_sld (q := 629) rfl dL_law_628 (by omega) (by omega) ?_
  refine zl_aload_n 0 (q := 630) (j := 0) rfl dL_law_629 rfl rfl ?_
  refine zl_iload_n 3 (q := 631) (j := 3) rfl dL_law_630 rfl rfl ?_
  refine zl_iconst (q := 632) (v := 2) rfl dL_law_631 (by decide) ?_
  refine zl_iadd (q := 633) rfl dL_law_632 (zni i 2 rfl) ?_
  refine zl_sld (q := 634) rfl dL_law_633 (by omega) (by omega) ?_
  refine zl_aload_n 0 (q := 635) (j := 0) rfl dL_law_634 rfl rfl ?_
  refine zl_iload_n 3 (q := 636) (j := 3) rfl dL_law_635 rfl rfl ?_
  refine zl_iconst (q := 637) (v := 3) rfl dL_law_636 (by decide) ?_
  refine zl_iadd (q := 638) rfl dL_law_637 (zni i 3 rfl) ?_
  refine zl_sld (q := 639) rfl dL_law_638 (by omega) (by omega) ?_
  refine zl_callC (q := 642) (As := [.int (xs (i + 1)), .int (xs (i + 2)), .int (xs (i + 3))]) (rest := []) (st1 := [.int r]) rfl dL_law_639 lv_RL_61 hGc rfl rfl (Nat.le_of_ble_eq_true rfl) (ok_X8_late hGc N (by decide) e1) rfl ?_
  refine zl_aload_n 2 (q := 643) (j := 2) rfl dL_law_642 rfl rfl ?_
  refine zl_aload_n 0 (q := 644) (j := 0) rfl dL_law_643 rfl rfl ?_
  refine zl_iload_n 3 (q := 645) (j := 3) rfl dL_law_644 rfl rfl ?_
  refine zl_iconst (q := 646) (v := 1) rfl dL_law_645 (by decide) ?_
  refine zl_iadd (q := 647) rfl dL_law_646 (zni i 1 rfl) ?_
  refine zl_sld (q := 648) rfl dL_law_647 (by omega) (by omega) ?_
  refine zl_aload_n 0 (q := 649) (j := 0) rfl dL_law_648 rfl rfl ?_
  refine zl_iload_n 3 (q := 650) (j := 3) rfl dL_law_649 rfl rfl ?_
  refine zl_iconst (q := 651) (v := 2) rfl dL_law_650 (by decide) ?_
  refine zl_iadd (q := 652) rfl dL_law_651 (zni i 2 rfl) ?_
  refine zl_sld (q := 653) rfl dL_law_652 (by omega) (by omega) ?_
  refine zl_aload_n 0 (q := 654) (j := 0) rfl dL_law_653 rfl rfl ?_
  refine zl_iload_n 3 (q := 655) (j := 3) rfl dL_law_654 rfl rfl ?_
  refine zl_iconst (q := 656) (v := 3) rfl dL_law_655 (by decide) ?_
  refine zl_iadd (q := 657) rfl dL_law_656 (zni i 3 rfl) ?_
  refine zl_sld (q := 658) rfl dL_law_657 (by omega) (by omega) ?_
  refine zl_callM (q := 661) (As := [.int (xs (i + 1)), .int (xs (i + 2)), .int (xs (i + 3))]) (rest := [.int r]) (st1 := [.int r, .int r]) rfl dL_law_658 lv_RL_65 hGm rfl rfl (Nat.le_of_ble_eq_true rfl) (ok_X9_late hGm N (by decide) e2) rfl ?_
  refine zl_icmp_eq (q := 664) (tgt := 1349) rfl (by decide) dL_law_661 (fun _ => k) (fun h => absurd rfl h)
set_option maxRecDepth 100000 in
theorem lawc_12 {Gc Gm : ZG} (hGc : zSH Gc = shC) (hGm : zSH Gm = shM) (N : Nat) {b L : Nat} {xs : Nat → Int32} {i : Nat} (hi : i + 4 ≤ L) (hL : L ≤ 2048) {σc σm σc1 σm1 : ZM} {r : Int32} (e1 : f_X8_rounds N σc = some (r, σc1)) (e2 : f_X9_rounds N σm = some (r, σm1)) (k : zL Gc Gm b L xs 1349 [(0, .ref b), (1, .ref (zad Gc 0)), (2, .ref (zad Gm 0)), (3, .int (nI i))] [] σc1 σm1) : zL Gc Gm b L xs 666 [(0, .ref b), (1, .ref (zad Gc 0)), (2, .ref (zad Gm 0)), (3, .int (nI i))] [] σc σm := by
  refine zl_aload_n 1 (q := 667) (j := 1) rfl dL_law_666 rfl rfl ?_
  refine zl_callC (q := 670) (As := []) (rest := []) (st1 := [.int r]) rfl dL_law_667 lv_RL_66 hGc rfl rfl (Nat.le_of_ble_eq_true rfl) (ok_X8_rounds hGc N (by decide) e1) rfl ?_
  refine zl_aload_n 2 (q := 671) (j := 2) rfl dL_law_670 rfl rfl ?_
  refine zl_callM (q := 674) (As := []) (rest := [.int r]) (st1 := [.int r, .int r]) rfl dL_law_671 lv_RL_70 hGm rfl rfl (Nat.le_of_ble_eq_true rfl) (ok_X9_rounds hGm N (by decide) e2) rfl ?_
  refine zl_icmp_eq (q := 677) (tgt := 1349) rfl (by decide) dL_law_674 (fun _ => k) (fun h => absurd rfl h)
set_option maxRecDepth 100000 in
theorem lawc_13 {Gc Gm : ZG} (hGc : zSH Gc = shC) (hGm : zSH Gm = shM) (N : Nat) {b L : Nat} {xs : Nat → Int32} {i : Nat} (hi : i + 4 ≤ L) (hL : L ≤ 2048) {σc σm σc1 σm1 : ZM} {r : Int32} (e1 : f_X8_comes N (xs (i + 1)) σc = some (r, σc1)) (e2 : f_X9_comes N (xs (i + 1)) σm = some (r, σm1)) (k : zL Gc Gm b L xs 1349 [(0, .ref b), (1, .ref (zad Gc 0)), (2, .ref (zad Gm 0)), (3, .int (nI i))] [] σc1 σm1) : zL Gc Gm b L xs 679 [(0, .ref b), (1, .ref (zad Gc 0)), (2, .ref (zad Gm 0)), (3, .int (nI i))] [] σc σm := by
  refine zl_aload_n 1 (q := 680) (j := 1) rfl dL_law_679 rfl rfl ?_
  refine zl_aload_n 0 (q := 681) (j := 0) rfl dL_law_680 rfl rfl ?_
  refine zl_iload_n 3 (q := 682) (j := 3) rfl dL_law_681 rfl rfl ?_
  refine zl_iconst (q := 683) (v := 1) rfl dL_law_682 (by decide) ?_
  refine zl_iadd (q := 684) rfl dL_law_683 (zni i 1 rfl) ?_
  refine zl_sld (q := 685) rfl dL_law_684 (by omega) (by omega) ?_
  refine zl_callC (q := 688) (As := [.int (xs (i + 1))]) (rest := []) (st1 := [.int r]) rfl dL_law_685 lv_RL_71 hGc rfl rfl (Nat.le_of_ble_eq_true rfl) (ok_X8_comes hGc N (by decide) e1) rfl ?_
  refine zl_aload_n 2 (q := 689) (j := 2) rfl dL_law_688 rfl rfl ?_
  refine zl_aload_n 0 (q := 690) (j := 0) rfl dL_law_689 rfl rfl ?_
  refine zl_iload_n 3 (q := 691) (j := 3) rfl dL_law_690 rfl rfl ?_
  refine zl_iconst (q := 692) (v := 1) rfl dL_law_691 (by decide) ?_
  refine zl_iadd (q := 693) rfl dL_law_692 (zni i 1 rfl) ?_
  refine zl_sld (q := 694) rfl dL_law_693 (by omega) (by omega) ?_
  refine zl_callM (q := 697) (As := [.int (xs (i + 1))]) (rest := [.int r]) (st1 := [.int r, .int r]) rfl dL_law_694 lv_RL_74 hGm rfl rfl (Nat.le_of_ble_eq_true rfl) (ok_X9_comes hGm N (by decide) e2) rfl ?_
  refine zl_icmp_eq (q := 700) (tgt := 1349) rfl (by decide) dL_law_697 (fun _ => k) (fun h => absurd rfl h)
set_option maxRecDepth 100000 in
theorem lawc_14 {Gc Gm : ZG} (hGc : zSH Gc = shC) (hGm : zSH Gm = shM) (N : Nat) {b L : Nat} {xs : Nat → Int32} {i : Nat} (hi : i + 4 ≤ L) (hL : L ≤ 2048) {σc σm σc1 σm1 : ZM} {r : Int32} (e1 : f_X8_names N (xs (i + 1)) σc = some (r, σc1)) (e2 : f_X9_names N (xs (i + 1)) σm = some (r, σm1)) (k : zL Gc Gm b L xs 1349 [(0, .ref b), (1, .ref (zad Gc 0)), (2, .ref (zad Gm 0)), (3, .int (nI i))] [] σc1 σm1) : zL Gc Gm b L xs 702 [(0, .ref b), (1, .ref (zad Gc 0)), (2, .ref (zad Gm 0)), (3, .int (nI i))] [] σc σm := by
  refine zl_aload_n 1 (q := 703) (j := 1) rfl dL_law_702 rfl rfl ?_
  refine zl_aload_n 0 (q := 704) (j := 0) rfl dL_law_703 rfl rfl ?_
  refine zl_iload_n 3 (q := 705) (j := 3) rfl dL_law_704 rfl rfl ?_
  refine zl_iconst (q := 706) (v := 1) rfl dL_law_705 (by decide) ?_
  refine zl_iadd (q := 707) rfl dL_law_706 (zni i 1 rfl) ?_
  refine zl_sld (q := 708) rfl dL_law_707 (by omega) (by omega) ?_
  refine zl_callC (q := 711) (As := [.int (xs (i + 1))]) (rest := []) (st1 := [.int r]) rfl dL_law_708 lv_RL_75 hGc rfl rfl (Nat.le_of_ble_eq_true rfl) (ok_X8_names hGc N (by decide) e1) rfl ?_
  refine zl_aload_n 2 (q := 712) (j := 2) rfl dL_law_711 rfl rfl ?_
  refine zl_aload_n 0 (q := 713) (j := 0) rfl dL_law_712 rfl rfl ?_
  refine zl_iload_n 3 (q := 714) (j := 3) rfl dL_law_713 rfl rfl ?_
  refine zl_iconst (q := 715) (v := 1) rfl dL_law_714 (by decide) ?_
  refine zl_iadd (q := 716) rfl dL_law_715 (zni i 1 rfl) ?_
  refine zl_sld (q := 717) rfl dL_law_716 (by omega) (by omega) ?_
  refine zl_callM (q := 720) (As := [.int (xs (i + 1))]) (rest := [.int r]) (st1 := [.int r, .int r]) rfl dL_law_717 lv_RL_78 hGm rfl rfl (Nat.le_of_ble_eq_true rfl) (ok_X9_names hGm N (by decide) e2) rfl ?_
  refine zl_icmp_eq (q := 723) (tgt := 1349) rfl (by decide) dL_law_720 (fun _ => k) (fun h => absurd rfl h)
set_option maxRecDepth 100000 in
theorem lawc_15 {Gc Gm : ZG} (hGc : zSH Gc = shC) (hGm : zSH Gm = shM) (N : Nat) {b L : Nat} {xs : Nat → Int32} {i : Nat} (hi : i + 4 ≤ L) (hL : L ≤ 2048) {σc σm σc1 σm1 : ZM} {r : Int32} (e1 : f_X8_way N (xs (i + 1)) (xs (i + 2)) σc = some (r, σc1)) (e2 : f_X9_way N (xs (i + 1)) (xs (i + 2)) σm = some (r, σm1)) (k : zL Gc Gm b L xs 1349 [(0, .ref b), (1, .ref (zad Gc 0)), (2, .ref (zad Gm 0)), (3, .int (nI i))] [] σc1 σm1) : zL Gc Gm b L xs 725 [(0, .ref b), (1, .ref (zad Gc 0)), (2, .ref (zad Gm 0)), (3, .int (nI i))] [] σc σm := by
  refine zl_aload_n 1 (q := 726) (j := 1) rfl dL_law_725 rfl rfl ?_
  refine zl_aload_n 0 (q := 727) (j := 0) rfl dL_law_726 rfl rfl ?_
  refine zl_iload_n 3 (q := 728) (j := 3) rfl dL_law_727 rfl rfl ?_
  refine zl_iconst (q := 729) (v := 1) rfl dL_law_728 (by decide) ?_
  refine zl_iadd (q := 730) rfl dL_law_729 (zni i 1 rfl) ?_
  refine zl_sld (q := 731) rfl dL_law_730 (by omega) (by omega) ?_
  refine zl_aload_n 0 (q := 732) (j := 0) rfl dL_law_731 rfl rfl ?_
  refine zl_iload_n 3 (q := 733) (j := 3) rfl dL_law_732 rfl rfl ?_
  refine zl_iconst (q := 734) (v := 2) rfl dL_law_733 (by decide) ?_
  refine zl_iadd (q := 735) rfl dL_law_734 (zni i 2 rfl) ?_
  refine zl_sld (q := 736) rfl dL_law_735 (by omega) (by omega) ?_
  refine zl_callC (q := 739) (As := [.int (xs (i + 1)), .int (xs (i + 2))]) (rest := []) (st1 := [.int r]) rfl dL_law_736 lv_RL_79 hGc rfl rfl (Nat.le_of_ble_eq_true rfl) (ok_X8_way hGc N (by decide) e1) rfl ?_
  refine zl_aload_n 2 (q := 740) (j := 2) rfl dL_law_739 rfl rfl ?_
  refine zl_aload_n 0 (q := 741) (j := 0) rfl dL_law_740 rfl rfl ?_
  refine zl_iload_n 3 (q := 742) (j := 3) rfl dL_law_741 rfl rfl ?_
  refine zl_iconst (q := 743) (v := 1) rfl dL_law_742 (by decide) ?_
  refine zl_iadd (q := 744) rfl dL_law_743 (zni i 1 rfl) ?_
  refine zl_sld (q := 745) rfl dL_law_744 (by omega) (by omega) ?_
  refine zl_aload_n 0 (q := 746) (j := 0) rfl dL_law_745 rfl rfl ?_
  refine zl_iload_n 3 (q := 747) (j := 3) rfl dL_law_746 rfl rfl ?_
  refine zl_iconst (q := 748) (v := 2) rfl dL_law_747 (by decide) ?_
  refine zl_iadd (q := 749) rfl dL_law_748 (zni i 2 rfl) ?_
  refine zl_sld (q := 750) rfl dL_law_749 (by omega) (by omega) ?_
  refine zl_callM (q := 753) (As := [.int (xs (i + 1)), .int (xs (i + 2))]) (rest := [.int r]) (st1 := [.int r, .int r]) rfl dL_law_750 lv_RL_82 hGm rfl rfl (Nat.le_of_ble_eq_true rfl) (ok_X9_way hGm N (by decide) e2) rfl ?_
  refine zl_icmp_eq (q := 756) (tgt := 1349) rfl (by decide) dL_law_753 (fun _ => k) (fun h => absurd rfl h)
set_option maxRecDepth 100000 in
theorem lawc_16 {Gc Gm : ZG} (hGc : zSH Gc = shC) (hGm : zSH Gm = shM) (N : Nat) {b L : Nat} {xs : Nat → Int32} {i : Nat} (hi : i + 4 ≤ L) (hL : L ≤ 2048) {σc σm σc1 σm1 : ZM} {r : Int32} (e1 : f_X8_told N (xs (i + 1)) σc = some (r, σc1)) (e2 : f_X9_told N (xs (i + 1)) σm = some (r, σm1)) (k : zL Gc Gm b L xs 1349 [(0, .ref b), (1, .ref (zad Gc 0)), (2, .ref (zad Gm 0)), (3, .int (nI i))] [] σc1 σm1) : zL Gc Gm b L xs 758 [(0, .ref b), (1, .ref (zad Gc 0)), (2, .ref (zad Gm 0)), (3, .int (nI i))] [] σc σm := by
  refine zl_aload_n 1 (q := 759) (j := 1) rfl dL_law_758 rfl rfl ?_
  refine zl_aload_n 0 (q := 760) (j := 0) rfl dL_law_759 rfl rfl ?_
  refine zl_iload_n 3 (q := 761) (j := 3) rfl dL_law_760 rfl rfl ?_
  refine zl_iconst (q := 762) (v := 1) rfl dL_law_761 (by decide) ?_
  refine zl_iadd (q := 763) rfl dL_law_762 (zni i 1 rfl) ?_
  refine zl_sld (q := 764) rfl dL_law_763 (by omega) (by omega) ?_
  refine zl_callC (q := 767) (As := [.int (xs (i + 1))]) (rest := []) (st1 := [.int r]) rfl dL_law_764 lv_RL_83 hGc rfl rfl (Nat.le_of_ble_eq_true rfl) (ok_X8_told hGc N (by decide) e1) rfl ?_
  refine zl_aload_n 2 (q := 768) (j := 2) rfl dL_law_767 rfl rfl ?_
  refine zl_aload_n 0 (q := 769) (j := 0) rfl dL_law_768 rfl rfl ?_
  refine zl_iload_n 3 (q := 770) (j := 3) rfl dL_law_769 rfl rfl ?_
  refine zl_iconst (q := 771) (v := 1) rfl dL_law_770 (by decide) ?_
  refine zl_iadd (q := 772) rfl dL_law_771 (zni i 1 rfl) ?_
  refine zl_sld (q := 773) rfl dL_law_772 (by omega) (by omega) ?_
  refine zl_callM (q := 776) (As := [.int (xs (i + 1))]) (rest := [.int r]) (st1 := [.int r, .int r]) rfl dL_law_773 lv_RL_86 hGm rfl rfl (Nat.le_of_ble_eq_true rfl) (ok_X9_told hGm N (by decide) e2) rfl ?_
  refine zl_icmp_eq (q := 779) (tgt := 1349) rfl (by decide) dL_law_776 (fun _ => k) (fun h => absurd rfl h)
set_option maxRecDepth 100000 in
theorem lawc_17 {Gc Gm : ZG} (hGc : zSH Gc = shC) (hGm : zSH Gm = shM) (N : Nat) {b L : Nat} {xs : Nat → Int32} {i : Nat} (hi : i + 4 ≤ L) (hL : L ≤ 2048) {σc σm σc1 σm1 : ZM} {r : Int32} (e1 : f_X8_why N (xs (i + 1)) σc = some (r, σc1)) (e2 : f_X9_why N (xs (i + 1)) σm = some (r, σm1)) (k : zL Gc Gm b L xs 1349 [(0, .ref b), (1, .ref (zad Gc 0)), (2, .ref (zad Gm 0)), (3, .int (nI i))] [] σc1 σm1) : zL Gc Gm b L xs 781 [(0, .ref b), (1, .ref (zad Gc 0)), (2, .ref (zad Gm 0)), (3, .int (nI i))] [] σc σm := by
  refine zl_aload_n 1 (q := 782) (j := 1) rfl dL_law_781 rfl rfl ?_
  refine zl_aload_n 0 (q := 783) (j := 0) rfl dL_law_782 rfl rfl ?_
  refine zl_iload_n 3 (q := 784) (j := 3) rfl dL_law_783 rfl rfl ?_
  refine zl_iconst (q := 785) (v := 1) rfl dL_law_784 (by decide) ?_
  refine zl_iadd (q := 786) rfl dL_law_785 (zni i 1 rfl) ?_
  refine zl_sld (q := 787) rfl dL_law_786 (by omega) (by omega) ?_
  refine zl_callC (q := 790) (As := [.int (xs (i + 1))]) (rest := []) (st1 := [.int r]) rfl dL_law_787 lv_RL_87 hGc rfl rfl (Nat.le_of_ble_eq_true rfl) (ok_X8_why hGc N (by decide) e1) rfl ?_
  refine zl_aload_n 2 (q := 791) (j := 2) rfl dL_law_790 rfl rfl ?_
  refine zl_aload_n 0 (q := 792) (j := 0) rfl dL_law_791 rfl rfl ?_
  refine zl_iload_n 3 (q := 793) (j := 3) rfl dL_law_792 rfl rfl ?_
  refine zl_iconst (q := 794) (v := 1) rfl dL_law_793 (by decide) ?_
  refine zl_iadd (q := 795) rfl dL_law_794 (zni i 1 rfl) ?_
  refine zl_sld (q := 796) rfl dL_law_795 (by omega) (by omega) ?_
  refine zl_callM (q := 799) (As := [.int (xs (i + 1))]) (rest := [.int r]) (st1 := [.int r, .int r]) rfl dL_law_796 lv_RL_90 hGm rfl rfl (Nat.le_of_ble_eq_true rfl) (ok_X9_why hGm N (by decide) e2) rfl ?_
  refine zl_icmp_eq (q := 802) (tgt := 1349) rfl (by decide) dL_law_799 (fun _ => k) (fun h => absurd rfl h)
set_option maxRecDepth 100000 in
theorem lawc_18 {Gc Gm : ZG} (hGc : zSH Gc = shC) (hGm : zSH Gm = shM) (N : Nat) {b L : Nat} {xs : Nat → Int32} {i : Nat} (hi : i + 4 ≤ L) (hL : L ≤ 2048) {σc σm σc1 σm1 : ZM} {r : Int32} (e1 : f_X8_load N (xs (i + 1)) σc = some (r, σc1)) (e2 : f_X9_load N (xs (i + 1)) σm = some (r, σm1)) (k : zL Gc Gm b L xs 1349 [(0, .ref b), (1, .ref (zad Gc 0)), (2, .ref (zad Gm 0)), (3, .int (nI i))] [] σc1 σm1) : zL Gc Gm b L xs 804 [(0, .ref b), (1, .ref (zad Gc 0)), (2, .ref (zad Gm 0)), (3, .int (nI i))] [] σc σm := by
  refine zl_aload_n 1 (q := 805) (j := 1) rfl dL_law_804 rfl rfl ?_
  refine zl_aload_n 0 (q := 806) (j := 0) rfl dL_law_805 rfl rfl ?_
  refine zl_iload_n 3 (q := 807) (j := 3) rfl dL_law_806 rfl rfl ?_
  refine zl_iconst (q := 808) (v := 1) rfl dL_law_807 (by decide) ?_
  refine zl_iadd (q := 809) rfl dL_law_808 (zni i 1 rfl) ?_
  refine zl_sld (q := 810) rfl dL_law_809 (by omega) (by omega) ?_
  refine zl_callC (q := 813) (As := [.int (xs (i + 1))]) (rest := []) (st1 := [.int r]) rfl dL_law_810 lv_RL_91 hGc rfl rfl (Nat.le_of_ble_eq_true rfl) (ok_X8_load hGc N (by decide) e1) rfl ?_
  refine zl_aload_n 2 (q := 814) (j := 2) rfl dL_law_813 rfl rfl ?_
  refine zl_aload_n 0 (q := 815) (j := 0) rfl dL_law_814 rfl rfl ?_
  refine zl_iload_n 3 (q := 816) (j := 3) rfl dL_law_815 rfl rfl ?_
  refine zl_iconst (q := 817) (v := 1) rfl dL_law_816 (by decide) ?_
  refine zl_iadd (q := 818) rfl dL_law_817 (zni i 1 rfl) ?_
  refine zl_sld (q := 819) rfl dL_law_818 (by omega) (by omega) ?_
  refine zl_callM (q := 822) (As := [.int (xs (i + 1))]) (rest := [.int r]) (st1 := [.int r, .int r]) rfl dL_law_819 lv_RL_94 hGm rfl rfl (Nat.le_of_ble_eq_true rfl) (ok_X9_load hGm N (by decide) e2) rfl ?_
  refine zl_icmp_eq (q := 825) (tgt := 1349) rfl (by decide) dL_law_822 (fun _ => k) (fun h => absurd rfl h)
set_option maxRecDepth 100000 in
theorem lawc_19 {Gc Gm : ZG} (hGc : zSH Gc = shC) (hGm : zSH Gm = shM) (N : Nat) {b L : Nat} {xs : Nat → Int32} {i : Nat} (hi : i + 4 ≤ L) (hL : L ≤ 2048) {σc σm σc1 σm1 : ZM} {r : Int32} (e1 : f_X8_excess N σc = some (r, σc1)) (e2 : f_X9_excess N σm = some (r, σm1)) (k : zL Gc Gm b L xs 1349 [(0, .ref b), (1, .ref (zad Gc 0)), (2, .ref (zad Gm 0)), (3, .int (nI i))] [] σc1 σm1) : zL Gc Gm b L xs 827 [(0, .ref b), (1, .ref (zad Gc 0)), (2, .ref (zad Gm 0)), (3, .int (nI i))] [] σc σm := by
  refine zl_aload_n 1 (q := 828) (j := 1) rfl dL_law_827 rfl rfl ?_
  refine zl_callC (q := 831) (As := []) (rest := []) (st1 := [.int r]) rfl dL_law_828 lv_RL_95 hGc rfl rfl (Nat.le_of_ble_eq_true rfl) (ok_X8_excess hGc N (by decide) e1) rfl ?_
  refine zl_aload_n 2 (q := 832) (j := 2) rfl dL_law_831 rfl rfl ?_
  refine zl_callM (q := 835) (As := []) (rest := [.int r]) (st1 := [.int r, .int r]) rfl dL_law_832 lv_RL_98 hGm rfl rfl (Nat.le_of_ble_eq_true rfl) (ok_X9_excess hGm N (by decide) e2) rfl ?_
  refine zl_icmp_eq (q := 838) (tgt := 1349) rfl (by decide) dL_law_835 (fun _ => k) (fun h => absurd rfl h)
set_option maxRecDepth 100000 in
theorem lawc_20 {Gc Gm : ZG} (hGc : zSH Gc = shC) (hGm : zSH Gm = shM) (N : Nat) {b L : Nat} {xs : Nat → Int32} {i : Nat} (hi : i + 4 ≤ L) (hL : L ≤ 2048) {σc σm σc1 σm1 : ZM} {r : Int64} (e1 : f_X8_sum N σc = some (r, σc1)) (e2 : f_X9_sum N σm = some (r, σm1)) (k : zL Gc Gm b L xs 1349 [(0, .ref b), (1, .ref (zad Gc 0)), (2, .ref (zad Gm 0)), (3, .int (nI i))] [] σc1 σm1) : zL Gc Gm b L xs 840 [(0, .ref b), (1, .ref (zad Gc 0)), (2, .ref (zad Gm 0)), (3, .int (nI i))] [] σc σm := by
  refine zl_aload_n 1 (q := 841) (j := 1) rfl dL_law_840 rfl rfl ?_
  refine zl_callC (q := 844) (As := []) (rest := []) (st1 := [.long r]) rfl dL_law_841 lv_RL_99 hGc rfl rfl (Nat.le_of_ble_eq_true rfl) (ok_X8_sum hGc N (by decide) e1) rfl ?_
  refine zl_aload_n 2 (q := 845) (j := 2) rfl dL_law_844 rfl rfl ?_
  refine zl_callM (q := 848) (As := []) (rest := [.long r]) (st1 := [.long r, .long r]) rfl dL_law_845 lv_RL_103 hGm rfl rfl (Nat.le_of_ble_eq_true rfl) (ok_X9_sum hGm N (by decide) e2) rfl ?_
  refine zl_lcmp (q := 849) rfl dL_law_848 ?_
  refine zl_if_eq (q := 852) (tgt := 1349) rfl (by decide) dL_law_849 (fun _ => ?_) (fun h => absurd (lg_cmp_self r) h)
  exact k
set_option maxRecDepth 100000 in
theorem lawc_21 {Gc Gm : ZG} (hGc : zSH Gc = shC) (hGm : zSH Gm = shM) (N : Nat) {b L : Nat} {xs : Nat → Int32} {i : Nat} (hi : i + 4 ≤ L) (hL : L ≤ 2048) {σc σm σc1 σm1 : ZM} {r : Int32} (e1 : f_X8_without N (xs (i + 1)) σc = some (r, σc1)) (e2 : f_X9_without N (xs (i + 1)) σm = some (r, σm1)) (k : zL Gc Gm b L xs 1349 [(0, .ref b), (1, .ref (zad Gc 0)), (2, .ref (zad Gm 0)), (3, .int (nI i))] [] σc1 σm1) : zL Gc Gm b L xs 854 [(0, .ref b), (1, .ref (zad Gc 0)), (2, .ref (zad Gm 0)), (3, .int (nI i))] [] σc σm := by
  refine zl_aload_n 1 (q := 855) (j := 1) rfl dL_law_854 rfl rfl ?_
  refine zl_aload_n 0 (q := 856) (j := 0) rfl dL_law_855 rfl rfl ?_
  refine zl_iload_n 3 (q := 857) (j := 3) rfl dL_law_856 rfl rfl ?_
  refine zl_iconst (q := 858) (v := 1) rfl dL_law_857 (by decide) ?_
  refine zl_iadd (q := 859) rfl dL_law_858 (zni i 1 rfl) ?_
  refine zl_sld (q := 860) rfl dL_law_859 (by omega) (by omega) ?_
  refine zl_callC (q := 863) (As := [.int (xs (i + 1))]) (rest := []) (st1 := [.int r]) rfl dL_law_860 lv_RL_104 hGc rfl rfl (Nat.le_of_ble_eq_true rfl) (ok_X8_without hGc N (by decide) e1) rfl ?_
  refine zl_aload_n 2 (q := 864) (j := 2) rfl dL_law_863 rfl rfl ?_
  refine zl_aload_n 0 (q := 865) (j := 0) rfl dL_law_864 rfl rfl ?_
  refine zl_iload_n 3 (q := 866) (j := 3) rfl dL_law_865 rfl rfl ?_
  refine zl_iconst (q := 867) (v := 1) rfl dL_law_866 (by decide) ?_
  refine zl_iadd (q := 868) rfl dL_law_867 (zni i 1 rfl) ?_
  refine zl_sld (q := 869) rfl dL_law_868 (by omega) (by omega) ?_
  refine zl_callM (q := 872) (As := [.int (xs (i + 1))]) (rest := [.int r]) (st1 := [.int r, .int r]) rfl dL_law_869 lv_RL_107 hGm rfl rfl (Nat.le_of_ble_eq_true rfl) (ok_X9_without hGm N (by decide) e2) rfl ?_
  refine zl_icmp_eq (q := 875) (tgt := 1349) rfl (by decide) dL_law_872 (fun _ => k) (fun h => absurd rfl h)
set_option maxRecDepth 100000 in
theorem lawc_22 {Gc Gm : ZG} (hGc : zSH Gc = shC) (hGm : zSH Gm = shM) (N : Nat) {b L : Nat} {xs : Nat → Int32} {i : Nat} (hi : i + 4 ≤ L) (hL : L ≤ 2048) {σc σm σc1 σm1 : ZM} {r : Int32} (e1 : f_X8_moves N (xs (i + 1)) (xs (i + 2)) σc = some (r, σc1)) (e2 : f_X9_moves N (xs (i + 1)) (xs (i + 2)) σm = some (r, σm1)) (k : zL Gc Gm b L xs 1349 [(0, .ref b), (1, .ref (zad Gc 0)), (2, .ref (zad Gm 0)), (3, .int (nI i))] [] σc1 σm1) : zL Gc Gm b L xs 877 [(0, .ref b), (1, .ref (zad Gc 0)), (2, .ref (zad Gm 0)), (3, .int (nI i))] [] σc σm := by
  refine zl_aload_n 1 (q := 878) (j := 1) rfl dL_law_877 rfl rfl ?_
  refine zl_aload_n 0 (q := 879) (j := 0) rfl dL_law_878 rfl rfl ?_
  refine zl_iload_n 3 (q := 880) (j := 3) rfl dL_law_879 rfl rfl ?_
  refine zl_iconst (q := 881) (v := 1) rfl dL_law_880 (by decide) ?_
  refine zl_iadd (q := 882) rfl dL_law_881 (zni i 1 rfl) ?_
  refine zl_sld (q := 883) rfl dL_law_882 (by omega) (by omega) ?_
  refine zl_aload_n 0 (q := 884) (j := 0) rfl dL_law_883 rfl rfl ?_
  refine zl_iload_n 3 (q := 885) (j := 3) rfl dL_law_884 rfl rfl ?_
  refine zl_iconst (q := 886) (v := 2) rfl dL_law_885 (by decide) ?_
  refine zl_iadd (q := 887) rfl dL_law_886 (zni i 2 rfl) ?_
  refine zl_sld (q := 888) rfl dL_law_887 (by omega) (by omega) ?_
  refine zl_callC (q := 891) (As := [.int (xs (i + 1)), .int (xs (i + 2))]) (rest := []) (st1 := [.int r]) rfl dL_law_888 lv_RL_108 hGc rfl rfl (Nat.le_of_ble_eq_true rfl) (ok_X8_moves hGc N (by decide) e1) rfl ?_
  refine zl_aload_n 2 (q := 892) (j := 2) rfl dL_law_891 rfl rfl ?_
  refine zl_aload_n 0 (q := 893) (j := 0) rfl dL_law_892 rfl rfl ?_
  refine zl_iload_n 3 (q := 894) (j := 3) rfl dL_law_893 rfl rfl ?_
  refine zl_iconst (q := 895) (v := 1) rfl dL_law_894 (by decide) ?_
  refine zl_iadd (q := 896) rfl dL_law_895 (zni i 1 rfl) ?_
  refine zl_sld (q := 897) rfl dL_law_896 (by omega) (by omega) ?_
  refine zl_aload_n 0 (q := 898) (j := 0) rfl dL_law_897 rfl rfl ?_
  refine zl_iload_n 3 (q := 899) (j := 3) rfl dL_law_898 rfl rfl ?_
  refine zl_iconst (q := 900) (v := 2) rfl dL_law_899 (by decide) ?_
  refine zl_iadd (q := 901) rfl dL_law_900 (zni i 2 rfl) ?_
  refine zl_sld (q := 902) rfl dL_law_901 (by omega) (by omega) ?_
  refine zl_callM (q := 905) (As := [.int (xs (i + 1)), .int (xs (i + 2))]) (rest := [.int r]) (st1 := [.int r, .int r]) rfl dL_law_902 lv_RL_111 hGm rfl rfl (Nat.le_of_ble_eq_true rfl) (ok_X9_moves hGm N (by decide) e2) rfl ?_
  refine zl_icmp_eq (q := 908) (tgt := 1349) rfl (by decide) dL_law_905 (fun _ => k) (fun h => absurd rfl h)
set_option maxRecDepth 100000 in
theorem lawc_23 {Gc Gm : ZG} (hGc : zSH Gc = shC) (hGm : zSH Gm = shM) (N : Nat) {b L : Nat} {xs : Nat → Int32} {i : Nat} (hi : i + 4 ≤ L) (hL : L ≤ 2048) {σc σm σc1 σm1 : ZM} {r : Int32} (e1 : f_X8_trial N σc = some (r, σc1)) (e2 : f_X9_trial N σm = some (r, σm1)) (k : zL Gc Gm b L xs 1349 [(0, .ref b), (1, .ref (zad Gc 0)), (2, .ref (zad Gm 0)), (3, .int (nI i))] [] σc1 σm1) : zL Gc Gm b L xs 910 [(0, .ref b), (1, .ref (zad Gc 0)), (2, .ref (zad Gm 0)), (3, .int (nI i))] [] σc σm := by
  refine zl_aload_n 1 (q := 911) (j := 1) rfl dL_law_910 rfl rfl ?_
  refine zl_callC (q := 914) (As := []) (rest := []) (st1 := [.int r]) rfl dL_law_911 lv_RL_112 hGc rfl rfl (Nat.le_of_ble_eq_true rfl) (ok_X8_trial hGc N (by decide) e1) rfl ?_
  refine zl_aload_n 2 (q := 915) (j := 2) rfl dL_law_914 rfl rfl ?_
  refine zl_callM (q := 918) (As := []) (rest := [.int r]) (st1 := [.int r, .int r]) rfl dL_law_915 lv_RL_115 hGm rfl rfl (Nat.le_of_ble_eq_true rfl) (ok_X9_trial hGm N (by decide) e2) rfl ?_
  refine zl_icmp_eq (q := 921) (tgt := 1349) rfl (by decide) dL_law_918 (fun _ => k) (fun h => absurd rfl h)
set_option maxRecDepth 100000 in
theorem lawc_24 {Gc Gm : ZG} (hGc : zSH Gc = shC) (hGm : zSH Gm = shM) (N : Nat) {b L : Nat} {xs : Nat → Int32} {i : Nat} (hi : i + 4 ≤ L) (hL : L ≤ 2048) {σc σm σc1 σm1 : ZM} {r : Int32} (e1 : f_X8_seen N (xs (i + 1)) (xs (i + 2)) (xs (i + 3)) σc = some (r, σc1)) (e2 : f_X9_seen N (xs (i + 1)) (xs (i + 2)) (xs (i + 3)) σm = some (r, σm1)) (k : zL Gc Gm b L xs 1349 [(0, .ref b), (1, .ref (zad Gc 0)), (2, .ref (zad Gm 0)), (3, .int (nI i))] [] σc1 σm1) : zL Gc Gm b L xs 923 [(0, .ref b), (1, .ref (zad Gc 0)), (2, .ref (zad Gm 0)), (3, .int (nI i))] [] σc σm := by
  refine zl_aload_n 1 (q := 924) (j := 1) rfl dL_law_923 rfl rfl ?_
  refine zl_aload_n 0 (q := 925) (j := 0) rfl dL_law_924 rfl rfl ?_
  refine zl_iload_n 3 (q := 926) (j := 3) rfl dL_law_925 rfl rfl ?_
  refine zl_iconst (q := 927) (v := 1) rfl dL_law_926 (by decide) ?_
  refine zl_iadd (q := 928) rfl dL_law_927 (zni i 1 rfl) ?_
  refine zl_sld (q := 929) rfl dL_law_928 (by omega) (by omega) ?_
  refine zl_aload_n 0 (q := 930) (j := 0) rfl dL_law_929 rfl rfl ?_
  refine zl_iload_n 3 (q := 931) (j := 3) rfl dL_law_930 rfl rfl ?_
  refine zl_iconst (q := 932) (v := 2) rfl dL_law_931 (by decide) ?_
  refine zl_iadd (q := 933) rfl dL_law_932 (zni i 2 rfl) ?_
  refine zl_sld (q := 934) rfl dL_law_933 (by omega) (by omega) ?_
  refine zl_aload_n 0 (q := 935) (j := 0) rfl dL_law_934 rfl rfl ?_
  refine zl_iload_n 3 (q := 936) (j := 3) rfl dL_law_935 rfl rfl ?_
  refine zl_iconst (q := 937) (v := 3) rfl dL_law_936 (by decide) ?_
  refine zl_iadd (q := 938) rfl dL_law_937 (zni i 3 rfl) ?_
  refine zl_sld (q := 939) rfl dL_law_938 (by omega) (by omega) ?_
  refine zl_callC (q := 942) (As := [.int (xs (i + 1)), .int (xs (i + 2)), .int (xs (i + 3))]) (rest := []) (st1 := [.int r]) rfl dL_law_939 lv_RL_116 hGc rfl rfl (Nat.le_of_ble_eq_true rfl) (ok_X8_seen hGc N (by decide) e1) rfl ?_
  refine zl_aload_n 2 (q := 943) (j := 2) rfl dL_law_942 rfl rfl ?_
  refine zl_aload_n 0 (q := 944) (j := 0) rfl dL_law_943 rfl rfl ?_
  refine zl_iload_n 3 (q := 945) (j := 3) rfl dL_law_944 rfl rfl ?_
  refine zl_iconst (q := 946) (v := 1) rfl dL_law_945 (by decide) ?_
  refine zl_iadd (q := 947) rfl dL_law_946 (zni i 1 rfl) ?_
  refine zl_sld (q := 948) rfl dL_law_947 (by omega) (by omega) ?_
  refine zl_aload_n 0 (q := 949) (j := 0) rfl dL_law_948 rfl rfl ?_
  refine zl_iload_n 3 (q := 950) (j := 3) rfl dL_law_949 rfl rfl ?_
  refine zl_iconst (q := 951) (v := 2) rfl dL_law_950 (by decide) ?_
  refine zl_iadd (q := 952) rfl dL_law_951 (zni i 2 rfl) ?_
  refine zl_sld (q := 953) rfl dL_law_952 (by omega) (by omega) ?_
  refine zl_aload_n 0 (q := 954) (j := 0) rfl dL_law_953 rfl rfl ?_
  refine zl_iload_n 3 (q := 955) (j := 3) rfl dL_law_954 rfl rfl ?_
  refine zl_iconst (q := 956) (v := 3) rfl dL_law_955 (by decide) ?_
  refine zl_iadd (q := 957) rfl dL_law_956 (zni i 3 rfl) ?_
  refine zl_sld (q := 958) rfl dL_law_957 (by omega) (by omega) ?_
  refine zl_callM (q := 961) (As := [.int (xs (i + 1)), .int (xs (i + 2)), .int (xs (i + 3))]) (rest := [.int r]) (st1 := [.int r, .int r]) rfl dL_law_958 lv_RL_119 hGm rfl rfl (Nat.le_of_ble_eq_true rfl) (ok_X9_seen hGm N (by decide) e2) rfl ?_
  refine zl_icmp_eq (q := 964) (tgt := 1349) rfl (by decide) dL_law_961 (fun _ => k) (fun h => absurd rfl h)
set_option maxRecDepth 100000 in
theorem lawc_25 {Gc Gm : ZG} (hGc : zSH Gc = shC) (hGm : zSH Gm = shM) (N : Nat) {b L : Nat} {xs : Nat → Int32} {i : Nat} (hi : i + 4 ≤ L) (hL : L ≤ 2048) {σc σm σc1 σm1 : ZM} {r : Int32} (e1 : f_X8_cases N σc = some (r, σc1)) (e2 : f_X9_cases N σm = some (r, σm1)) (k : zL Gc Gm b L xs 1349 [(0, .ref b), (1, .ref (zad Gc 0)), (2, .ref (zad Gm 0)), (3, .int (nI i))] [] σc1 σm1) : zL Gc Gm b L xs 966 [(0, .ref b), (1, .ref (zad Gc 0)), (2, .ref (zad Gm 0)), (3, .int (nI i))] [] σc σm := by
  refine zl_aload_n 1 (q := 967) (j := 1) rfl dL_law_966 rfl rfl ?_
  refine zl_callC (q := 970) (As := []) (rest := []) (st1 := [.int r]) rfl dL_law_967 lv_RL_120 hGc rfl rfl (Nat.le_of_ble_eq_true rfl) (ok_X8_cases hGc N (by decide) e1) rfl ?_
  refine zl_aload_n 2 (q := 971) (j := 2) rfl dL_law_970 rfl rfl ?_
  refine zl_callM (q := 974) (As := []) (rest := [.int r]) (st1 := [.int r, .int r]) rfl dL_law_971 lv_RL_123 hGm rfl rfl (Nat.le_of_ble_eq_true rfl) (ok_X9_cases hGm N (by decide) e2) rfl ?_
  refine zl_icmp_eq (q := 977) (tgt := 1349) rfl (by decide) dL_law_974 (fun _ => k) (fun h => absurd rfl h)
set_option maxRecDepth 100000 in
theorem lawc_26 {Gc Gm : ZG} (hGc : zSH Gc = shC) (hGm : zSH Gm = shM) (N : Nat) {b L : Nat} {xs : Nat → Int32} {i : Nat} (hi : i + 4 ≤ L) (hL : L ≤ 2048) {σc σm σc1 σm1 : ZM} {r : Int32} (e1 : f_X8_agree N σc = some (r, σc1)) (e2 : f_X9_agree N σm = some (r, σm1)) (k : zL Gc Gm b L xs 1349 [(0, .ref b), (1, .ref (zad Gc 0)), (2, .ref (zad Gm 0)), (3, .int (nI i))] [] σc1 σm1) : zL Gc Gm b L xs 979 [(0, .ref b), (1, .ref (zad Gc 0)), (2, .ref (zad Gm 0)), (3, .int (nI i))] [] σc σm := by
  refine zl_aload_n 1 (q := 980) (j := 1) rfl dL_law_979 rfl rfl ?_
  refine zl_callC (q := 983) (As := []) (rest := []) (st1 := [.int r]) rfl dL_law_980 lv_RL_124 hGc rfl rfl (Nat.le_of_ble_eq_true rfl) (ok_X8_agree hGc N (by decide) e1) rfl ?_
  refine zl_aload_n 2 (q := 984) (j := 2) rfl dL_law_983 rfl rfl ?_
  refine zl_callM (q := 987) (As := []) (rest := [.int r]) (st1 := [.int r, .int r]) rfl dL_law_984 lv_RL_127 hGm rfl rfl (Nat.le_of_ble_eq_true rfl) (ok_X9_agree hGm N (by decide) e2) rfl ?_
  refine zl_icmp_eq (q := 990) (tgt := 1349) rfl (by decide) dL_law_987 (fun _ => k) (fun h => absurd rfl h)
set_option maxRecDepth 100000 in
theorem lawc_27 {Gc Gm : ZG} (hGc : zSH Gc = shC) (hGm : zSH Gm = shM) (N : Nat) {b L : Nat} {xs : Nat → Int32} {i : Nat} (hi : i + 4 ≤ L) (hL : L ≤ 2048) {σc σm σc1 σm1 : ZM} {r : Int32} (e1 : f_X8_could N (xs (i + 1)) σc = some (r, σc1)) (e2 : f_X9_could N (xs (i + 1)) σm = some (r, σm1)) (k : zL Gc Gm b L xs 1349 [(0, .ref b), (1, .ref (zad Gc 0)), (2, .ref (zad Gm 0)), (3, .int (nI i))] [] σc1 σm1) : zL Gc Gm b L xs 992 [(0, .ref b), (1, .ref (zad Gc 0)), (2, .ref (zad Gm 0)), (3, .int (nI i))] [] σc σm := by
  refine zl_aload_n 1 (q := 993) (j := 1) rfl dL_law_992 rfl rfl ?_
  refine zl_aload_n 0 (q := 994) (j := 0) rfl dL_law_993 rfl rfl ?_
  refine zl_iload_n 3 (q := 995) (j := 3) rfl dL_law_994 rfl rfl ?_
  refine zl_iconst (q := 996) (v := 1) rfl dL_law_995 (by decide) ?_
  refine zl_iadd (q := 997) rfl dL_law_996 (zni i 1 rfl) ?_
  refine zl_sld (q := 998) rfl dL_law_997 (by omega) (by omega) ?_
  refine zl_callC (q := 1001) (As := [.int (xs (i + 1))]) (rest := []) (st1 := [.int r]) rfl dL_law_998 lv_RL_128 hGc rfl rfl (Nat.le_of_ble_eq_true rfl) (ok_X8_could hGc N (by decide) e1) rfl ?_
  refine zl_aload_n 2 (q := 1002) (j := 2) rfl dL_law_1001 rfl rfl ?_
  refine zl_aload_n 0 (q := 1003) (j := 0) rfl dL_law_1002 rfl rfl ?_
  refine zl_iload_n 3 (q := 1004) (j := 3) rfl dL_law_1003 rfl rfl ?_
  refine zl_iconst (q := 1005) (v := 1) rfl dL_law_1004 (by decide) ?_
  refine zl_iadd (q := 1006) rfl dL_law_1005 (zni i 1 rfl) ?_
  refine zl_sld (q := 1007) rfl dL_law_1006 (by omega) (by omega) ?_
  refine zl_callM (q := 1010) (As := [.int (xs (i + 1))]) (rest := [.int r]) (st1 := [.int r, .int r]) rfl dL_law_1007 lv_RL_131 hGm rfl rfl (Nat.le_of_ble_eq_true rfl) (ok_X9_could hGm N (by decide) e2) rfl ?_
  refine zl_icmp_eq (q := 1013) (tgt := 1349) rfl (by decide) dL_law_1010 (fun _ => k) (fun h => absurd rfl h)
set_option maxRecDepth 100000 in
theorem lawc_28 {Gc Gm : ZG} (hGc : zSH Gc = shC) (hGm : zSH Gm = shM) (N : Nat) {b L : Nat} {xs : Nat → Int32} {i : Nat} (hi : i + 4 ≤ L) (hL : L ≤ 2048) {σc σm σc1 σm1 : ZM} {r : Int32} (e1 : f_X8_rules N (xs (i + 1)) σc = some (r, σc1)) (e2 : f_X9_rules N (xs (i + 1)) σm = some (r, σm1)) (k : zL Gc Gm b L xs 1349 [(0, .ref b), (1, .ref (zad Gc 0)), (2, .ref (zad Gm 0)), (3, .int (nI i))] [] σc1 σm1) : zL Gc Gm b L xs 1015 [(0, .ref b), (1, .ref (zad Gc 0)), (2, .ref (zad Gm 0)), (3, .int (nI i))] [] σc σm := by
  refine zl_aload_n 1 (q := 1016) (j := 1) rfl dL_law_1015 rfl rfl ?_
  refine zl_aload_n 0 (q := 1017) (j := 0) rfl dL_law_1016 rfl rfl ?_
  refine zl_iload_n 3 (q := 1018) (j := 3) rfl dL_law_1017 rfl rfl ?_
  refine zl_iconst (q := 1019) (v := 1) rfl dL_law_1018 (by decide) ?_
  refine zl_iadd (q := 1020) rfl dL_law_1019 (zni i 1 rfl) ?_
  refine zl_sld (q := 1021) rfl dL_law_1020 (by omega) (by omega) ?_
  refine zl_callC (q := 1024) (As := [.int (xs (i + 1))]) (rest := []) (st1 := [.int r]) rfl dL_law_1021 lv_RL_132 hGc rfl rfl (Nat.le_of_ble_eq_true rfl) (ok_X8_rules hGc N (by decide) e1) rfl ?_
  refine zl_aload_n 2 (q := 1025) (j := 2) rfl dL_law_1024 rfl rfl ?_
  refine zl_aload_n 0 (q := 1026) (j := 0) rfl dL_law_1025 rfl rfl ?_
  refine zl_iload_n 3 (q := 1027) (j := 3) rfl dL_law_1026 rfl rfl ?_
  refine zl_iconst (q := 1028) (v := 1) rfl dL_law_1027 (by decide) ?_
  refine zl_iadd (q := 1029) rfl dL_law_1028 (zni i 1 rfl) ?_
  refine zl_sld (q := 1030) rfl dL_law_1029 (by omega) (by omega) ?_
  refine zl_callM (q := 1033) (As := [.int (xs (i + 1))]) (rest := [.int r]) (st1 := [.int r, .int r]) rfl dL_law_1030 lv_RL_135 hGm rfl rfl (Nat.le_of_ble_eq_true rfl) (ok_X9_rules hGm N (by decide) e2) rfl ?_
  refine zl_icmp_eq (q := 1036) (tgt := 1349) rfl (by decide) dL_law_1033 (fun _ => k) (fun h => absurd rfl h)
set_option maxRecDepth 100000 in
theorem lawc_29 {Gc Gm : ZG} (hGc : zSH Gc = shC) (hGm : zSH Gm = shM) (N : Nat) {b L : Nat} {xs : Nat → Int32} {i : Nat} (hi : i + 4 ≤ L) (hL : L ≤ 2048) {σc σm σc1 σm1 : ZM} {r : Int32} (e1 : f_X8_learn N σc = some (r, σc1)) (e2 : f_X9_learn N σm = some (r, σm1)) (k : zL Gc Gm b L xs 1349 [(0, .ref b), (1, .ref (zad Gc 0)), (2, .ref (zad Gm 0)), (3, .int (nI i))] [] σc1 σm1) : zL Gc Gm b L xs 1038 [(0, .ref b), (1, .ref (zad Gc 0)), (2, .ref (zad Gm 0)), (3, .int (nI i))] [] σc σm := by
  refine zl_aload_n 1 (q := 1039) (j := 1) rfl dL_law_1038 rfl rfl ?_
  refine zl_callC (q := 1042) (As := []) (rest := []) (st1 := [.int r]) rfl dL_law_1039 lv_RL_136 hGc rfl rfl (Nat.le_of_ble_eq_true rfl) (ok_X8_learn hGc N (by decide) e1) rfl ?_
  refine zl_aload_n 2 (q := 1043) (j := 2) rfl dL_law_1042 rfl rfl ?_
  refine zl_callM (q := 1046) (As := []) (rest := [.int r]) (st1 := [.int r, .int r]) rfl dL_law_1043 lv_RL_139 hGm rfl rfl (Nat.le_of_ble_eq_true rfl) (ok_X9_learn hGm N (by decide) e2) rfl ?_
  refine zl_icmp_eq (q := 1049) (tgt := 1349) rfl (by decide) dL_law_1046 (fun _ => k) (fun h => absurd rfl h)
set_option maxRecDepth 100000 in
theorem lawc_30 {Gc Gm : ZG} (hGc : zSH Gc = shC) (hGm : zSH Gm = shM) (N : Nat) {b L : Nat} {xs : Nat → Int32} {i : Nat} (hi : i + 4 ≤ L) (hL : L ≤ 2048) {σc σm σc1 σm1 : ZM} {r : Int32} (e1 : f_X8_quarrel N σc = some (r, σc1)) (e2 : f_X9_quarrel N σm = some (r, σm1)) (k : zL Gc Gm b L xs 1349 [(0, .ref b), (1, .ref (zad Gc 0)), (2, .ref (zad Gm 0)), (3, .int (nI i))] [] σc1 σm1) : zL Gc Gm b L xs 1051 [(0, .ref b), (1, .ref (zad Gc 0)), (2, .ref (zad Gm 0)), (3, .int (nI i))] [] σc σm := by
  refine zl_aload_n 1 (q := 1052) (j := 1) rfl dL_law_1051 rfl rfl ?_
  refine zl_callC (q := 1055) (As := []) (rest := []) (st1 := [.int r]) rfl dL_law_1052 lv_RL_140 hGc rfl rfl (Nat.le_of_ble_eq_true rfl) (ok_X8_quarrel hGc N (by decide) e1) rfl ?_
  refine zl_aload_n 2 (q := 1056) (j := 2) rfl dL_law_1055 rfl rfl ?_
  refine zl_callM (q := 1059) (As := []) (rest := [.int r]) (st1 := [.int r, .int r]) rfl dL_law_1056 lv_RL_143 hGm rfl rfl (Nat.le_of_ble_eq_true rfl) (ok_X9_quarrel hGm N (by decide) e2) rfl ?_
  refine zl_icmp_eq (q := 1062) (tgt := 1349) rfl (by decide) dL_law_1059 (fun _ => k) (fun h => absurd rfl h)
set_option maxRecDepth 100000 in
theorem lawc_31 {Gc Gm : ZG} (hGc : zSH Gc = shC) (hGm : zSH Gm = shM) (N : Nat) {b L : Nat} {xs : Nat → Int32} {i : Nat} (hi : i + 4 ≤ L) (hL : L ≤ 2048) {σc σm σc1 σm1 : ZM} {r : Int32} (e1 : f_X8_next N (zbo (xs (i + 1))) σc = some (r, σc1)) (e2 : f_X9_next N (zbo (xs (i + 1))) σm = some (r, σm1)) (k : zL Gc Gm b L xs 1349 [(0, .ref b), (1, .ref (zad Gc 0)), (2, .ref (zad Gm 0)), (3, .int (nI i))] [] σc1 σm1) : zL Gc Gm b L xs 1064 [(0, .ref b), (1, .ref (zad Gc 0)), (2, .ref (zad Gm 0)), (3, .int (nI i))] [] σc σm := by
  by_cases hb1 : xs (i + 1) = 0
  · rw [show zbo (xs (i + 1)) = 0 from if_pos hb1] at e1 e2
    refine zl_aload_n 1 (q := 1065) (j := 1) rfl dL_law_1064 rfl rfl ?_
    refine zl_aload_n 0 (q := 1066) (j := 0) rfl dL_law_1065 rfl rfl ?_
    refine zl_iload_n 3 (q := 1067) (j := 3) rfl dL_law_1066 rfl rfl ?_
    refine zl_iconst (q := 1068) (v := 1) rfl dL_law_1067 (by decide) ?_
    refine zl_iadd (q := 1069) rfl dL_law_1068 (zni i 1 rfl) ?_
    refine zl_sld (q := 1070) rfl dL_law_1069 (by omega) (by omega) ?_
    refine zl_if_eq (q := 1073) (tgt := 1077) rfl (by decide) dL_law_1070 (fun _ => ?_) (fun h => absurd hb1 h)
    refine zl_iconst (q := 1078) (v := 0) rfl dL_law_1077 (by decide) ?_
    refine zl_callC (q := 1081) (As := [.int 0]) (rest := []) (st1 := [.int r]) rfl dL_law_1078 lv_RL_144 hGc rfl rfl (Nat.le_of_ble_eq_true rfl) (ok_X8_next hGc N (by decide) e1) rfl ?_
    refine zl_aload_n 2 (q := 1082) (j := 2) rfl dL_law_1081 rfl rfl ?_
    refine zl_aload_n 0 (q := 1083) (j := 0) rfl dL_law_1082 rfl rfl ?_
    refine zl_iload_n 3 (q := 1084) (j := 3) rfl dL_law_1083 rfl rfl ?_
    refine zl_iconst (q := 1085) (v := 1) rfl dL_law_1084 (by decide) ?_
    refine zl_iadd (q := 1086) rfl dL_law_1085 (zni i 1 rfl) ?_
    refine zl_sld (q := 1087) rfl dL_law_1086 (by omega) (by omega) ?_
    refine zl_if_eq (q := 1090) (tgt := 1094) rfl (by decide) dL_law_1087 (fun _ => ?_) (fun h => absurd hb1 h)
    refine zl_iconst (q := 1095) (v := 0) rfl dL_law_1094 (by decide) ?_
    refine zl_callM (q := 1098) (As := [.int 0]) (rest := [.int r]) (st1 := [.int r, .int r]) rfl dL_law_1095 lv_RL_148 hGm rfl rfl (Nat.le_of_ble_eq_true rfl) (ok_X9_next hGm N (by decide) e2) rfl ?_
    refine zl_icmp_eq (q := 1101) (tgt := 1349) rfl (by decide) dL_law_1098 (fun _ => k) (fun h => absurd rfl h)
  · rw [show zbo (xs (i + 1)) = 1 from if_neg hb1] at e1 e2
    refine zl_aload_n 1 (q := 1065) (j := 1) rfl dL_law_1064 rfl rfl ?_
    refine zl_aload_n 0 (q := 1066) (j := 0) rfl dL_law_1065 rfl rfl ?_
    refine zl_iload_n 3 (q := 1067) (j := 3) rfl dL_law_1066 rfl rfl ?_
    refine zl_iconst (q := 1068) (v := 1) rfl dL_law_1067 (by decide) ?_
    refine zl_iadd (q := 1069) rfl dL_law_1068 (zni i 1 rfl) ?_
    refine zl_sld (q := 1070) rfl dL_law_1069 (by omega) (by omega) ?_
    refine zl_if_eq (q := 1073) (tgt := 1077) rfl (by decide) dL_law_1070 (fun h => absurd h hb1) (fun _ => ?_)
    refine zl_iconst (q := 1074) (v := 1) rfl dL_law_1073 (by decide) ?_
    refine zl_goto (tgt := 1078) (by decide) dL_law_1074 ?_
    refine zl_callC (q := 1081) (As := [.int 1]) (rest := []) (st1 := [.int r]) rfl dL_law_1078 lv_RL_144 hGc rfl rfl (Nat.le_of_ble_eq_true rfl) (ok_X8_next hGc N (by decide) e1) rfl ?_
    refine zl_aload_n 2 (q := 1082) (j := 2) rfl dL_law_1081 rfl rfl ?_
    refine zl_aload_n 0 (q := 1083) (j := 0) rfl dL_law_1082 rfl rfl ?_
    refine zl_iload_n 3 (q := 1084) (j := 3) rfl dL_law_1083 rfl rfl ?_
    refine zl_iconst (q := 1085) (v := 1) rfl dL_law_1084 (by decide) ?_
    refine zl_iadd (q := 1086) rfl dL_law_1085 (zni i 1 rfl) ?_
    refine zl_sld (q := 1087) rfl dL_law_1086 (by omega) (by omega) ?_
    refine zl_if_eq (q := 1090) (tgt := 1094) rfl (by decide) dL_law_1087 (fun h => absurd h hb1) (fun _ => ?_)
    refine zl_iconst (q := 1091) (v := 1) rfl dL_law_1090 (by decide) ?_
    refine zl_goto (tgt := 1095) (by decide) dL_law_1091 ?_
    refine zl_callM (q := 1098) (As := [.int 1]) (rest := [.int r]) (st1 := [.int r, .int r]) rfl dL_law_1095 lv_RL_148 hGm rfl rfl (Nat.le_of_ble_eq_true rfl) (ok_X9_next hGm N (by decide) e2) rfl ?_
    refine zl_icmp_eq (q := 1101) (tgt := 1349) rfl (by decide) dL_law_1098 (fun _ => k) (fun h => absurd rfl h)
set_option maxRecDepth 100000 in
theorem lawc_32 {Gc Gm : ZG} (hGc : zSH Gc = shC) (hGm : zSH Gm = shM) (N : Nat) {b L : Nat} {xs : Nat → Int32} {i : Nat} (hi : i + 4 ≤ L) (hL : L ≤ 2048) {σc σm σc1 σm1 : ZM} {r : Int32} (e1 : f_X8_best N (zbo (xs (i + 1))) σc = some (r, σc1)) (e2 : f_X9_best N (zbo (xs (i + 1))) σm = some (r, σm1)) (k : zL Gc Gm b L xs 1349 [(0, .ref b), (1, .ref (zad Gc 0)), (2, .ref (zad Gm 0)), (3, .int (nI i))] [] σc1 σm1) : zL Gc Gm b L xs 1103 [(0, .ref b), (1, .ref (zad Gc 0)), (2, .ref (zad Gm 0)), (3, .int (nI i))] [] σc σm := by
  by_cases hb1 : xs (i + 1) = 0
  · rw [show zbo (xs (i + 1)) = 0 from if_pos hb1] at e1 e2
    refine zl_aload_n 1 (q := 1104) (j := 1) rfl dL_law_1103 rfl rfl ?_
    refine zl_aload_n 0 (q := 1105) (j := 0) rfl dL_law_1104 rfl rfl ?_
    refine zl_iload_n 3 (q := 1106) (j := 3) rfl dL_law_1105 rfl rfl ?_
    refine zl_iconst (q := 1107) (v := 1) rfl dL_law_1106 (by decide) ?_
    refine zl_iadd (q := 1108) rfl dL_law_1107 (zni i 1 rfl) ?_
    refine zl_sld (q := 1109) rfl dL_law_1108 (by omega) (by omega) ?_
    refine zl_if_eq (q := 1112) (tgt := 1116) rfl (by decide) dL_law_1109 (fun _ => ?_) (fun h => absurd hb1 h)
    refine zl_iconst (q := 1117) (v := 0) rfl dL_law_1116 (by decide) ?_
    refine zl_callC (q := 1120) (As := [.int 0]) (rest := []) (st1 := [.int r]) rfl dL_law_1117 lv_RL_149 hGc rfl rfl (Nat.le_of_ble_eq_true rfl) (ok_X8_best hGc N (by decide) e1) rfl ?_
    refine zl_aload_n 2 (q := 1121) (j := 2) rfl dL_law_1120 rfl rfl ?_
    refine zl_aload_n 0 (q := 1122) (j := 0) rfl dL_law_1121 rfl rfl ?_
    refine zl_iload_n 3 (q := 1123) (j := 3) rfl dL_law_1122 rfl rfl ?_
    refine zl_iconst (q := 1124) (v := 1) rfl dL_law_1123 (by decide) ?_
    refine zl_iadd (q := 1125) rfl dL_law_1124 (zni i 1 rfl) ?_
    refine zl_sld (q := 1126) rfl dL_law_1125 (by omega) (by omega) ?_
    refine zl_if_eq (q := 1129) (tgt := 1133) rfl (by decide) dL_law_1126 (fun _ => ?_) (fun h => absurd hb1 h)
    refine zl_iconst (q := 1134) (v := 0) rfl dL_law_1133 (by decide) ?_
    refine zl_callM (q := 1137) (As := [.int 0]) (rest := [.int r]) (st1 := [.int r, .int r]) rfl dL_law_1134 lv_RL_152 hGm rfl rfl (Nat.le_of_ble_eq_true rfl) (ok_X9_best hGm N (by decide) e2) rfl ?_
    refine zl_icmp_eq (q := 1140) (tgt := 1349) rfl (by decide) dL_law_1137 (fun _ => k) (fun h => absurd rfl h)
  · rw [show zbo (xs (i + 1)) = 1 from if_neg hb1] at e1 e2
    refine zl_aload_n 1 (q := 1104) (j := 1) rfl dL_law_1103 rfl rfl ?_
    refine zl_aload_n 0 (q := 1105) (j := 0) rfl dL_law_1104 rfl rfl ?_
    refine zl_iload_n 3 (q := 1106) (j := 3) rfl dL_law_1105 rfl rfl ?_
    refine zl_iconst (q := 1107) (v := 1) rfl dL_law_1106 (by decide) ?_
    refine zl_iadd (q := 1108) rfl dL_law_1107 (zni i 1 rfl) ?_
    refine zl_sld (q := 1109) rfl dL_law_1108 (by omega) (by omega) ?_
    refine zl_if_eq (q := 1112) (tgt := 1116) rfl (by decide) dL_law_1109 (fun h => absurd h hb1) (fun _ => ?_)
    refine zl_iconst (q := 1113) (v := 1) rfl dL_law_1112 (by decide) ?_
    refine zl_goto (tgt := 1117) (by decide) dL_law_1113 ?_
    refine zl_callC (q := 1120) (As := [.int 1]) (rest := []) (st1 := [.int r]) rfl dL_law_1117 lv_RL_149 hGc rfl rfl (Nat.le_of_ble_eq_true rfl) (ok_X8_best hGc N (by decide) e1) rfl ?_
    refine zl_aload_n 2 (q := 1121) (j := 2) rfl dL_law_1120 rfl rfl ?_
    refine zl_aload_n 0 (q := 1122) (j := 0) rfl dL_law_1121 rfl rfl ?_
    refine zl_iload_n 3 (q := 1123) (j := 3) rfl dL_law_1122 rfl rfl ?_
    refine zl_iconst (q := 1124) (v := 1) rfl dL_law_1123 (by decide) ?_
    refine zl_iadd (q := 1125) rfl dL_law_1124 (zni i 1 rfl) ?_
    refine zl_sld (q := 1126) rfl dL_law_1125 (by omega) (by omega) ?_
    refine zl_if_eq (q := 1129) (tgt := 1133) rfl (by decide) dL_law_1126 (fun h => absurd h hb1) (fun _ => ?_)
    refine zl_iconst (q := 1130) (v := 1) rfl dL_law_1129 (by decide) ?_
    refine zl_goto (tgt := 1134) (by decide) dL_law_1130 ?_
    refine zl_callM (q := 1137) (As := [.int 1]) (rest := [.int r]) (st1 := [.int r, .int r]) rfl dL_law_1134 lv_RL_152 hGm rfl rfl (Nat.le_of_ble_eq_true rfl) (ok_X9_best hGm N (by decide) e2) rfl ?_
    refine zl_icmp_eq (q := 1140) (tgt := 1349) rfl (by decide) dL_law_1137 (fun _ => k) (fun h => absurd rfl h)
set_option maxRecDepth 100000 in
theorem lawc_33 {Gc Gm : ZG} (hGc : zSH Gc = shC) (hGm : zSH Gm = shM) (N : Nat) {b L : Nat} {xs : Nat → Int32} {i : Nat} (hi : i + 4 ≤ L) (hL : L ≤ 2048) {σc σm σc1 σm1 : ZM} {r : Int64} (e1 : f_X8_bestSum N (zbo (xs (i + 1))) σc = some (r, σc1)) (e2 : f_X9_bestSum N (zbo (xs (i + 1))) σm = some (r, σm1)) (k : zL Gc Gm b L xs 1349 [(0, .ref b), (1, .ref (zad Gc 0)), (2, .ref (zad Gm 0)), (3, .int (nI i))] [] σc1 σm1) : zL Gc Gm b L xs 1142 [(0, .ref b), (1, .ref (zad Gc 0)), (2, .ref (zad Gm 0)), (3, .int (nI i))] [] σc σm := by
  by_cases hb1 : xs (i + 1) = 0
  · rw [show zbo (xs (i + 1)) = 0 from if_pos hb1] at e1 e2
    refine zl_aload_n 1 (q := 1143) (j := 1) rfl dL_law_1142 rfl rfl ?_
    refine zl_aload_n 0 (q := 1144) (j := 0) rfl dL_law_1143 rfl rfl ?_
    refine zl_iload_n 3 (q := 1145) (j := 3) rfl dL_law_1144 rfl rfl ?_
    refine zl_iconst (q := 1146) (v := 1) rfl dL_law_1145 (by decide) ?_
    refine zl_iadd (q := 1147) rfl dL_law_1146 (zni i 1 rfl) ?_
    refine zl_sld (q := 1148) rfl dL_law_1147 (by omega) (by omega) ?_
    refine zl_if_eq (q := 1151) (tgt := 1155) rfl (by decide) dL_law_1148 (fun _ => ?_) (fun h => absurd hb1 h)
    refine zl_iconst (q := 1156) (v := 0) rfl dL_law_1155 (by decide) ?_
    refine zl_callC (q := 1159) (As := [.int 0]) (rest := []) (st1 := [.long r]) rfl dL_law_1156 lv_RL_153 hGc rfl rfl (Nat.le_of_ble_eq_true rfl) (ok_X8_bestSum hGc N (by decide) e1) rfl ?_
    refine zl_aload_n 2 (q := 1160) (j := 2) rfl dL_law_1159 rfl rfl ?_
    refine zl_aload_n 0 (q := 1161) (j := 0) rfl dL_law_1160 rfl rfl ?_
    refine zl_iload_n 3 (q := 1162) (j := 3) rfl dL_law_1161 rfl rfl ?_
    refine zl_iconst (q := 1163) (v := 1) rfl dL_law_1162 (by decide) ?_
    refine zl_iadd (q := 1164) rfl dL_law_1163 (zni i 1 rfl) ?_
    refine zl_sld (q := 1165) rfl dL_law_1164 (by omega) (by omega) ?_
    refine zl_if_eq (q := 1168) (tgt := 1172) rfl (by decide) dL_law_1165 (fun _ => ?_) (fun h => absurd hb1 h)
    refine zl_iconst (q := 1173) (v := 0) rfl dL_law_1172 (by decide) ?_
    refine zl_callM (q := 1176) (As := [.int 0]) (rest := [.long r]) (st1 := [.long r, .long r]) rfl dL_law_1173 lv_RL_157 hGm rfl rfl (Nat.le_of_ble_eq_true rfl) (ok_X9_bestSum hGm N (by decide) e2) rfl ?_
    refine zl_lcmp (q := 1177) rfl dL_law_1176 ?_
    refine zl_if_eq (q := 1180) (tgt := 1349) rfl (by decide) dL_law_1177 (fun _ => ?_) (fun h => absurd (lg_cmp_self r) h)
    exact k
  · rw [show zbo (xs (i + 1)) = 1 from if_neg hb1] at e1 e2
    refine zl_aload_n 1 (q := 1143) (j := 1) rfl dL_law_1142 rfl rfl ?_
    refine zl_aload_n 0 (q := 1144) (j := 0) rfl dL_law_1143 rfl rfl ?_
    refine zl_iload_n 3 (q := 1145) (j := 3) rfl dL_law_1144 rfl rfl ?_
    refine zl_iconst (q := 1146) (v := 1) rfl dL_law_1145 (by decide) ?_
    refine zl_iadd (q := 1147) rfl dL_law_1146 (zni i 1 rfl) ?_
    refine zl_sld (q := 1148) rfl dL_law_1147 (by omega) (by omega) ?_
    refine zl_if_eq (q := 1151) (tgt := 1155) rfl (by decide) dL_law_1148 (fun h => absurd h hb1) (fun _ => ?_)
    refine zl_iconst (q := 1152) (v := 1) rfl dL_law_1151 (by decide) ?_
    refine zl_goto (tgt := 1156) (by decide) dL_law_1152 ?_
    refine zl_callC (q := 1159) (As := [.int 1]) (rest := []) (st1 := [.long r]) rfl dL_law_1156 lv_RL_153 hGc rfl rfl (Nat.le_of_ble_eq_true rfl) (ok_X8_bestSum hGc N (by decide) e1) rfl ?_
    refine zl_aload_n 2 (q := 1160) (j := 2) rfl dL_law_1159 rfl rfl ?_
    refine zl_aload_n 0 (q := 1161) (j := 0) rfl dL_law_1160 rfl rfl ?_
    refine zl_iload_n 3 (q := 1162) (j := 3) rfl dL_law_1161 rfl rfl ?_
    refine zl_iconst (q := 1163) (v := 1) rfl dL_law_1162 (by decide) ?_
    refine zl_iadd (q := 1164) rfl dL_law_1163 (zni i 1 rfl) ?_
    refine zl_sld (q := 1165) rfl dL_law_1164 (by omega) (by omega) ?_
    refine zl_if_eq (q := 1168) (tgt := 1172) rfl (by decide) dL_law_1165 (fun h => absurd h hb1) (fun _ => ?_)
    refine zl_iconst (q := 1169) (v := 1) rfl dL_law_1168 (by decide) ?_
    refine zl_goto (tgt := 1173) (by decide) dL_law_1169 ?_
    refine zl_callM (q := 1176) (As := [.int 1]) (rest := [.long r]) (st1 := [.long r, .long r]) rfl dL_law_1173 lv_RL_157 hGm rfl rfl (Nat.le_of_ble_eq_true rfl) (ok_X9_bestSum hGm N (by decide) e2) rfl ?_
    refine zl_lcmp (q := 1177) rfl dL_law_1176 ?_
    refine zl_if_eq (q := 1180) (tgt := 1349) rfl (by decide) dL_law_1177 (fun _ => ?_) (fun h => absurd (lg_cmp_self r) h)
    exact k
set_option maxRecDepth 100000 in
theorem lawc_34 {Gc Gm : ZG} (hGc : zSH Gc = shC) (hGm : zSH Gm = shM) (N : Nat) {b L : Nat} {xs : Nat → Int32} {i : Nat} (hi : i + 4 ≤ L) (hL : L ≤ 2048) {σc σm σc1 σm1 : ZM} {r : Int32} (e1 : f_X8_bestKind N (zbo (xs (i + 1))) (xs (i + 2)) σc = some (r, σc1)) (e2 : f_X9_bestKind N (zbo (xs (i + 1))) (xs (i + 2)) σm = some (r, σm1)) (k : zL Gc Gm b L xs 1349 [(0, .ref b), (1, .ref (zad Gc 0)), (2, .ref (zad Gm 0)), (3, .int (nI i))] [] σc1 σm1) : zL Gc Gm b L xs 1182 [(0, .ref b), (1, .ref (zad Gc 0)), (2, .ref (zad Gm 0)), (3, .int (nI i))] [] σc σm := by
  by_cases hb1 : xs (i + 1) = 0
  · rw [show zbo (xs (i + 1)) = 0 from if_pos hb1] at e1 e2
    refine zl_aload_n 1 (q := 1183) (j := 1) rfl dL_law_1182 rfl rfl ?_
    refine zl_aload_n 0 (q := 1184) (j := 0) rfl dL_law_1183 rfl rfl ?_
    refine zl_iload_n 3 (q := 1185) (j := 3) rfl dL_law_1184 rfl rfl ?_
    refine zl_iconst (q := 1186) (v := 1) rfl dL_law_1185 (by decide) ?_
    refine zl_iadd (q := 1187) rfl dL_law_1186 (zni i 1 rfl) ?_
    refine zl_sld (q := 1188) rfl dL_law_1187 (by omega) (by omega) ?_
    refine zl_if_eq (q := 1191) (tgt := 1195) rfl (by decide) dL_law_1188 (fun _ => ?_) (fun h => absurd hb1 h)
    refine zl_iconst (q := 1196) (v := 0) rfl dL_law_1195 (by decide) ?_
    refine zl_aload_n 0 (q := 1197) (j := 0) rfl dL_law_1196 rfl rfl ?_
    refine zl_iload_n 3 (q := 1198) (j := 3) rfl dL_law_1197 rfl rfl ?_
    refine zl_iconst (q := 1199) (v := 2) rfl dL_law_1198 (by decide) ?_
    refine zl_iadd (q := 1200) rfl dL_law_1199 (zni i 2 rfl) ?_
    refine zl_sld (q := 1201) rfl dL_law_1200 (by omega) (by omega) ?_
    refine zl_callC (q := 1204) (As := [.int 0, .int (xs (i + 2))]) (rest := []) (st1 := [.int r]) rfl dL_law_1201 lv_RL_158 hGc rfl rfl (Nat.le_of_ble_eq_true rfl) (ok_X8_bestKind hGc N (by decide) e1) rfl ?_
    refine zl_aload_n 2 (q := 1205) (j := 2) rfl dL_law_1204 rfl rfl ?_
    refine zl_aload_n 0 (q := 1206) (j := 0) rfl dL_law_1205 rfl rfl ?_
    refine zl_iload_n 3 (q := 1207) (j := 3) rfl dL_law_1206 rfl rfl ?_
    refine zl_iconst (q := 1208) (v := 1) rfl dL_law_1207 (by decide) ?_
    refine zl_iadd (q := 1209) rfl dL_law_1208 (zni i 1 rfl) ?_
    refine zl_sld (q := 1210) rfl dL_law_1209 (by omega) (by omega) ?_
    refine zl_if_eq (q := 1213) (tgt := 1217) rfl (by decide) dL_law_1210 (fun _ => ?_) (fun h => absurd hb1 h)
    refine zl_iconst (q := 1218) (v := 0) rfl dL_law_1217 (by decide) ?_
    refine zl_aload_n 0 (q := 1219) (j := 0) rfl dL_law_1218 rfl rfl ?_
    refine zl_iload_n 3 (q := 1220) (j := 3) rfl dL_law_1219 rfl rfl ?_
    refine zl_iconst (q := 1221) (v := 2) rfl dL_law_1220 (by decide) ?_
    refine zl_iadd (q := 1222) rfl dL_law_1221 (zni i 2 rfl) ?_
    refine zl_sld (q := 1223) rfl dL_law_1222 (by omega) (by omega) ?_
    refine zl_callM (q := 1226) (As := [.int 0, .int (xs (i + 2))]) (rest := [.int r]) (st1 := [.int r, .int r]) rfl dL_law_1223 lv_RL_162 hGm rfl rfl (Nat.le_of_ble_eq_true rfl) (ok_X9_bestKind hGm N (by decide) e2) rfl ?_
    refine zl_icmp_eq (q := 1229) (tgt := 1349) rfl (by decide) dL_law_1226 (fun _ => k) (fun h => absurd rfl h)
  · rw [show zbo (xs (i + 1)) = 1 from if_neg hb1] at e1 e2
    refine zl_aload_n 1 (q := 1183) (j := 1) rfl dL_law_1182 rfl rfl ?_
    refine zl_aload_n 0 (q := 1184) (j := 0) rfl dL_law_1183 rfl rfl ?_
    refine zl_iload_n 3 (q := 1185) (j := 3) rfl dL_law_1184 rfl rfl ?_
    refine zl_iconst (q := 1186) (v := 1) rfl dL_law_1185 (by decide) ?_
    refine zl_iadd (q := 1187) rfl dL_law_1186 (zni i 1 rfl) ?_
    refine zl_sld (q := 1188) rfl dL_law_1187 (by omega) (by omega) ?_
    refine zl_if_eq (q := 1191) (tgt := 1195) rfl (by decide) dL_law_1188 (fun h => absurd h hb1) (fun _ => ?_)
    refine zl_iconst (q := 1192) (v := 1) rfl dL_law_1191 (by decide) ?_
    refine zl_goto (tgt := 1196) (by decide) dL_law_1192 ?_
    refine zl_aload_n 0 (q := 1197) (j := 0) rfl dL_law_1196 rfl rfl ?_
    refine zl_iload_n 3 (q := 1198) (j := 3) rfl dL_law_1197 rfl rfl ?_
    refine zl_iconst (q := 1199) (v := 2) rfl dL_law_1198 (by decide) ?_
    refine zl_iadd (q := 1200) rfl dL_law_1199 (zni i 2 rfl) ?_
    refine zl_sld (q := 1201) rfl dL_law_1200 (by omega) (by omega) ?_
    refine zl_callC (q := 1204) (As := [.int 1, .int (xs (i + 2))]) (rest := []) (st1 := [.int r]) rfl dL_law_1201 lv_RL_158 hGc rfl rfl (Nat.le_of_ble_eq_true rfl) (ok_X8_bestKind hGc N (by decide) e1) rfl ?_
    refine zl_aload_n 2 (q := 1205) (j := 2) rfl dL_law_1204 rfl rfl ?_
    refine zl_aload_n 0 (q := 1206) (j := 0) rfl dL_law_1205 rfl rfl ?_
    refine zl_iload_n 3 (q := 1207) (j := 3) rfl dL_law_1206 rfl rfl ?_
    refine zl_iconst (q := 1208) (v := 1) rfl dL_law_1207 (by decide) ?_
    refine zl_iadd (q := 1209) rfl dL_law_1208 (zni i 1 rfl) ?_
    refine zl_sld (q := 1210) rfl dL_law_1209 (by omega) (by omega) ?_
    refine zl_if_eq (q := 1213) (tgt := 1217) rfl (by decide) dL_law_1210 (fun h => absurd h hb1) (fun _ => ?_)
    refine zl_iconst (q := 1214) (v := 1) rfl dL_law_1213 (by decide) ?_
    refine zl_goto (tgt := 1218) (by decide) dL_law_1214 ?_
    refine zl_aload_n 0 (q := 1219) (j := 0) rfl dL_law_1218 rfl rfl ?_
    refine zl_iload_n 3 (q := 1220) (j := 3) rfl dL_law_1219 rfl rfl ?_
    refine zl_iconst (q := 1221) (v := 2) rfl dL_law_1220 (by decide) ?_
    refine zl_iadd (q := 1222) rfl dL_law_1221 (zni i 2 rfl) ?_
    refine zl_sld (q := 1223) rfl dL_law_1222 (by omega) (by omega) ?_
    refine zl_callM (q := 1226) (As := [.int 1, .int (xs (i + 2))]) (rest := [.int r]) (st1 := [.int r, .int r]) rfl dL_law_1223 lv_RL_162 hGm rfl rfl (Nat.le_of_ble_eq_true rfl) (ok_X9_bestKind hGm N (by decide) e2) rfl ?_
    refine zl_icmp_eq (q := 1229) (tgt := 1349) rfl (by decide) dL_law_1226 (fun _ => k) (fun h => absurd rfl h)
set_option maxRecDepth 100000 in
theorem lawc_35 {Gc Gm : ZG} (hGc : zSH Gc = shC) (hGm : zSH Gm = shM) (N : Nat) {b L : Nat} {xs : Nat → Int32} {i : Nat} (hi : i + 4 ≤ L) (hL : L ≤ 2048) {σc σm σc1 σm1 : ZM} {r : Int32} (e1 : f_X8_aim N (xs (i + 1)) (xs (i + 2)) σc = some (r, σc1)) (e2 : f_X9_aim N (xs (i + 1)) (xs (i + 2)) σm = some (r, σm1)) (k : zL Gc Gm b L xs 1349 [(0, .ref b), (1, .ref (zad Gc 0)), (2, .ref (zad Gm 0)), (3, .int (nI i))] [] σc1 σm1) : zL Gc Gm b L xs 1231 [(0, .ref b), (1, .ref (zad Gc 0)), (2, .ref (zad Gm 0)), (3, .int (nI i))] [] σc σm := by
  refine zl_aload_n 1 (q := 1232) (j := 1) rfl dL_law_1231 rfl rfl ?_
  refine zl_aload_n 0 (q := 1233) (j := 0) rfl dL_law_1232 rfl rfl ?_
  refine zl_iload_n 3 (q := 1234) (j := 3) rfl dL_law_1233 rfl rfl ?_
  refine zl_iconst (q := 1235) (v := 1) rfl dL_law_1234 (by decide) ?_
  refine zl_iadd (q := 1236) rfl dL_law_1235 (zni i 1 rfl) ?_
  refine zl_sld (q := 1237) rfl dL_law_1236 (by omega) (by omega) ?_
  refine zl_aload_n 0 (q := 1238) (j := 0) rfl dL_law_1237 rfl rfl ?_
  refine zl_iload_n 3 (q := 1239) (j := 3) rfl dL_law_1238 rfl rfl ?_
  refine zl_iconst (q := 1240) (v := 2) rfl dL_law_1239 (by decide) ?_
  refine zl_iadd (q := 1241) rfl dL_law_1240 (zni i 2 rfl) ?_
  refine zl_sld (q := 1242) rfl dL_law_1241 (by omega) (by omega) ?_
  refine zl_callC (q := 1245) (As := [.int (xs (i + 1)), .int (xs (i + 2))]) (rest := []) (st1 := [.int r]) rfl dL_law_1242 lv_RL_163 hGc rfl rfl (Nat.le_of_ble_eq_true rfl) (ok_X8_aim hGc N (by decide) e1) rfl ?_
  refine zl_aload_n 2 (q := 1246) (j := 2) rfl dL_law_1245 rfl rfl ?_
  refine zl_aload_n 0 (q := 1247) (j := 0) rfl dL_law_1246 rfl rfl ?_
  refine zl_iload_n 3 (q := 1248) (j := 3) rfl dL_law_1247 rfl rfl ?_
  refine zl_iconst (q := 1249) (v := 1) rfl dL_law_1248 (by decide) ?_
  refine zl_iadd (q := 1250) rfl dL_law_1249 (zni i 1 rfl) ?_
  refine zl_sld (q := 1251) rfl dL_law_1250 (by omega) (by omega) ?_
  refine zl_aload_n 0 (q := 1252) (j := 0) rfl dL_law_1251 rfl rfl ?_
  refine zl_iload_n 3 (q := 1253) (j := 3) rfl dL_law_1252 rfl rfl ?_
  refine zl_iconst (q := 1254) (v := 2) rfl dL_law_1253 (by decide) ?_
  refine zl_iadd (q := 1255) rfl dL_law_1254 (zni i 2 rfl) ?_
  refine zl_sld (q := 1256) rfl dL_law_1255 (by omega) (by omega) ?_
  refine zl_callM (q := 1259) (As := [.int (xs (i + 1)), .int (xs (i + 2))]) (rest := [.int r]) (st1 := [.int r, .int r]) rfl dL_law_1256 lv_RL_166 hGm rfl rfl (Nat.le_of_ble_eq_true rfl) (ok_X9_aim hGm N (by decide) e2) rfl ?_
  refine zl_icmp_eq (q := 1262) (tgt := 1349) rfl (by decide) dL_law_1259 (fun _ => k) (fun h => absurd rfl h)
set_option maxRecDepth 100000 in
theorem lawc_36 {Gc Gm : ZG} (hGc : zSH Gc = shC) (hGm : zSH Gm = shM) (N : Nat) {b L : Nat} {xs : Nat → Int32} {i : Nat} (hi : i + 4 ≤ L) (hL : L ≤ 2048) {σc σm σc1 σm1 : ZM} {r : Int32} (e1 : f_X8_steps N σc = some (r, σc1)) (e2 : f_X9_steps N σm = some (r, σm1)) (k : zL Gc Gm b L xs 1349 [(0, .ref b), (1, .ref (zad Gc 0)), (2, .ref (zad Gm 0)), (3, .int (nI i))] [] σc1 σm1) : zL Gc Gm b L xs 1264 [(0, .ref b), (1, .ref (zad Gc 0)), (2, .ref (zad Gm 0)), (3, .int (nI i))] [] σc σm := by
  refine zl_aload_n 1 (q := 1265) (j := 1) rfl dL_law_1264 rfl rfl ?_
  refine zl_callC (q := 1268) (As := []) (rest := []) (st1 := [.int r]) rfl dL_law_1265 lv_RL_167 hGc rfl rfl (Nat.le_of_ble_eq_true rfl) (ok_X8_steps hGc N (by decide) e1) rfl ?_
  refine zl_aload_n 2 (q := 1269) (j := 2) rfl dL_law_1268 rfl rfl ?_
  refine zl_callM (q := 1272) (As := []) (rest := [.int r]) (st1 := [.int r, .int r]) rfl dL_law_1269 lv_RL_170 hGm rfl rfl (Nat.le_of_ble_eq_true rfl) (ok_X9_steps hGm N (by decide) e2) rfl ?_
  refine zl_icmp_eq (q := 1275) (tgt := 1349) rfl (by decide) dL_law_1272 (fun _ => k) (fun h => absurd rfl h)
set_option maxRecDepth 100000 in
theorem lawc_37 {Gc Gm : ZG} (hGc : zSH Gc = shC) (hGm : zSH Gm = shM) (N : Nat) {b L : Nat} {xs : Nat → Int32} {i : Nat} (hi : i + 4 ≤ L) (hL : L ≤ 2048) {σc σm σc1 σm1 : ZM} {r : Int32} (e1 : f_X8_step N (xs (i + 1)) σc = some (r, σc1)) (e2 : f_X9_step N (xs (i + 1)) σm = some (r, σm1)) (k : zL Gc Gm b L xs 1349 [(0, .ref b), (1, .ref (zad Gc 0)), (2, .ref (zad Gm 0)), (3, .int (nI i))] [] σc1 σm1) : zL Gc Gm b L xs 1277 [(0, .ref b), (1, .ref (zad Gc 0)), (2, .ref (zad Gm 0)), (3, .int (nI i))] [] σc σm := by
  refine zl_aload_n 1 (q := 1278) (j := 1) rfl dL_law_1277 rfl rfl ?_
  refine zl_aload_n 0 (q := 1279) (j := 0) rfl dL_law_1278 rfl rfl ?_
  refine zl_iload_n 3 (q := 1280) (j := 3) rfl dL_law_1279 rfl rfl ?_
  refine zl_iconst (q := 1281) (v := 1) rfl dL_law_1280 (by decide) ?_
  refine zl_iadd (q := 1282) rfl dL_law_1281 (zni i 1 rfl) ?_
  refine zl_sld (q := 1283) rfl dL_law_1282 (by omega) (by omega) ?_
  refine zl_callC (q := 1286) (As := [.int (xs (i + 1))]) (rest := []) (st1 := [.int r]) rfl dL_law_1283 lv_RL_171 hGc rfl rfl (Nat.le_of_ble_eq_true rfl) (ok_X8_step hGc N (by decide) e1) rfl ?_
  refine zl_aload_n 2 (q := 1287) (j := 2) rfl dL_law_1286 rfl rfl ?_
  refine zl_aload_n 0 (q := 1288) (j := 0) rfl dL_law_1287 rfl rfl ?_
  refine zl_iload_n 3 (q := 1289) (j := 3) rfl dL_law_1288 rfl rfl ?_
  refine zl_iconst (q := 1290) (v := 1) rfl dL_law_1289 (by decide) ?_
  refine zl_iadd (q := 1291) rfl dL_law_1290 (zni i 1 rfl) ?_
  refine zl_sld (q := 1292) rfl dL_law_1291 (by omega) (by omega) ?_
  refine zl_callM (q := 1295) (As := [.int (xs (i + 1))]) (rest := [.int r]) (st1 := [.int r, .int r]) rfl dL_law_1292 lv_RL_174 hGm rfl rfl (Nat.le_of_ble_eq_true rfl) (ok_X9_step hGm N (by decide) e2) rfl ?_
  refine zl_icmp_eq (q := 1298) (tgt := 1349) rfl (by decide) dL_law_1295 (fun _ => k) (fun h => absurd rfl h)
set_option maxRecDepth 100000 in
theorem lawc_38 {Gc Gm : ZG} (hGc : zSH Gc = shC) (hGm : zSH Gm = shM) (N : Nat) {b L : Nat} {xs : Nat → Int32} {i : Nat} (hi : i + 4 ≤ L) (hL : L ≤ 2048) {σc σm σc1 σm1 : ZM} {r : Int32} (e1 : f_X8_stepWorst N σc = some (r, σc1)) (e2 : f_X9_stepWorst N σm = some (r, σm1)) (k : zL Gc Gm b L xs 1349 [(0, .ref b), (1, .ref (zad Gc 0)), (2, .ref (zad Gm 0)), (3, .int (nI i))] [] σc1 σm1) : zL Gc Gm b L xs 1300 [(0, .ref b), (1, .ref (zad Gc 0)), (2, .ref (zad Gm 0)), (3, .int (nI i))] [] σc σm := by
  refine zl_aload_n 1 (q := 1301) (j := 1) rfl dL_law_1300 rfl rfl ?_
  refine zl_callC (q := 1304) (As := []) (rest := []) (st1 := [.int r]) rfl dL_law_1301 lv_RL_175 hGc rfl rfl (Nat.le_of_ble_eq_true rfl) (ok_X8_stepWorst hGc N (by decide) e1) rfl ?_
  refine zl_aload_n 2 (q := 1305) (j := 2) rfl dL_law_1304 rfl rfl ?_
  refine zl_callM (q := 1308) (As := []) (rest := [.int r]) (st1 := [.int r, .int r]) rfl dL_law_1305 lv_RL_178 hGm rfl rfl (Nat.le_of_ble_eq_true rfl) (ok_X9_stepWorst hGm N (by decide) e2) rfl ?_
  refine zl_icmp_eq (q := 1311) (tgt := 1349) rfl (by decide) dL_law_1308 (fun _ => k) (fun h => absurd rfl h)
set_option maxRecDepth 100000 in
theorem lawc_39 {Gc Gm : ZG} (hGc : zSH Gc = shC) (hGm : zSH Gm = shM) (N : Nat) {b L : Nat} {xs : Nat → Int32} {i : Nat} (hi : i + 4 ≤ L) (hL : L ≤ 2048) {σc σm σc1 σm1 : ZM} {r : Int32} (e1 : f_X8_go N σc = some (r, σc1)) (e2 : f_X9_go N σm = some (r, σm1)) (k : zL Gc Gm b L xs 1349 [(0, .ref b), (1, .ref (zad Gc 0)), (2, .ref (zad Gm 0)), (3, .int (nI i))] [] σc1 σm1) : zL Gc Gm b L xs 1313 [(0, .ref b), (1, .ref (zad Gc 0)), (2, .ref (zad Gm 0)), (3, .int (nI i))] [] σc σm := by
  refine zl_aload_n 1 (q := 1314) (j := 1) rfl dL_law_1313 rfl rfl ?_
  refine zl_callC (q := 1317) (As := []) (rest := []) (st1 := [.int r]) rfl dL_law_1314 lv_RL_179 hGc rfl rfl (Nat.le_of_ble_eq_true rfl) (ok_X8_go hGc N (by decide) e1) rfl ?_
  refine zl_aload_n 2 (q := 1318) (j := 2) rfl dL_law_1317 rfl rfl ?_
  refine zl_callM (q := 1321) (As := []) (rest := [.int r]) (st1 := [.int r, .int r]) rfl dL_law_1318 lv_RL_182 hGm rfl rfl (Nat.le_of_ble_eq_true rfl) (ok_X9_go hGm N (by decide) e2) rfl ?_
  refine zl_icmp_eq (q := 1324) (tgt := 1349) rfl (by decide) dL_law_1321 (fun _ => k) (fun h => absurd rfl h)
set_option maxRecDepth 100000 in
theorem lawc_40 {Gc Gm : ZG} (hGc : zSH Gc = shC) (hGm : zSH Gm = shM) (N : Nat) {b L : Nat} {xs : Nat → Int32} {i : Nat} (hi : i + 4 ≤ L) (hL : L ≤ 2048) {σc σm σc1 σm1 : ZM} {r : Int32} (e1 : f_X8_count N (xs (i + 1)) σc = some (r, σc1)) (e2 : f_X9_count N (xs (i + 1)) σm = some (r, σm1)) (k : zL Gc Gm b L xs 1349 [(0, .ref b), (1, .ref (zad Gc 0)), (2, .ref (zad Gm 0)), (3, .int (nI i))] [] σc1 σm1) : zL Gc Gm b L xs 1326 [(0, .ref b), (1, .ref (zad Gc 0)), (2, .ref (zad Gm 0)), (3, .int (nI i))] [] σc σm := by
  refine zl_aload_n 1 (q := 1327) (j := 1) rfl dL_law_1326 rfl rfl ?_
  refine zl_aload_n 0 (q := 1328) (j := 0) rfl dL_law_1327 rfl rfl ?_
  refine zl_iload_n 3 (q := 1329) (j := 3) rfl dL_law_1328 rfl rfl ?_
  refine zl_iconst (q := 1330) (v := 1) rfl dL_law_1329 (by decide) ?_
  refine zl_iadd (q := 1331) rfl dL_law_1330 (zni i 1 rfl) ?_
  refine zl_sld (q := 1332) rfl dL_law_1331 (by omega) (by omega) ?_
  refine zl_callC (q := 1335) (As := [.int (xs (i + 1))]) (rest := []) (st1 := [.int r]) rfl dL_law_1332 lv_RL_183 hGc rfl rfl (Nat.le_of_ble_eq_true rfl) (ok_X8_count hGc N (by decide) e1) rfl ?_
  refine zl_aload_n 2 (q := 1336) (j := 2) rfl dL_law_1335 rfl rfl ?_
  refine zl_aload_n 0 (q := 1337) (j := 0) rfl dL_law_1336 rfl rfl ?_
  refine zl_iload_n 3 (q := 1338) (j := 3) rfl dL_law_1337 rfl rfl ?_
  refine zl_iconst (q := 1339) (v := 1) rfl dL_law_1338 (by decide) ?_
  refine zl_iadd (q := 1340) rfl dL_law_1339 (zni i 1 rfl) ?_
  refine zl_sld (q := 1341) rfl dL_law_1340 (by omega) (by omega) ?_
  refine zl_callM (q := 1344) (As := [.int (xs (i + 1))]) (rest := [.int r]) (st1 := [.int r, .int r]) rfl dL_law_1341 lv_RL_186 hGm rfl rfl (Nat.le_of_ble_eq_true rfl) (ok_X9_count hGm N (by decide) e2) rfl ?_
  refine zl_icmp_eq (q := 1347) (tgt := 1349) rfl (by decide) dL_law_1344 (fun _ => k) (fun h => absurd rfl h)
/-- every call of the law, one by one -/
def zAll (Inv : ZM → ZM → Prop) (N : Nat) : Prop :=
  (∀ x : Int32, zSt Inv (f_X8_net N x) (f_X9_net N x)) ∧
  (∀ x y z : Int32, zSt Inv (f_X8_tie N x y (zbo z)) (f_X9_tie N x y (zbo z))) ∧
  (∀ x y : Int32, zSt Inv (f_X8_tied N x y) (f_X9_tied N x y)) ∧
  (∀ x y : Int32, zSt Inv (f_X8_askers N x y) (f_X9_askers N x y)) ∧
  (∀ x y : Int32, zSt Inv (f_X8_guess N x y) (f_X9_guess N x y)) ∧
  (∀ x y : Int32, zSt Inv (f_X8_site N x y) (f_X9_site N x y)) ∧
  (∀ x y : Int32, zSt Inv (f_X8_room N x y) (f_X9_room N x y)) ∧
  (∀ x y : Int32, zSt Inv (f_X8_up N x (zbo y)) (f_X9_up N x (zbo y))) ∧
  (∀ x y : Int32, zSt Inv (f_X8_kind N x y) (f_X9_kind N x y)) ∧
  (∀ x y : Int32, zSt Inv (f_X8_held N x y) (f_X9_held N x y)) ∧
  (∀ x y : Int32, zSt Inv (f_X8_near N x (zbo y)) (f_X9_near N x (zbo y))) ∧
  (∀ x y z : Int32, zSt Inv (f_X8_late N x y z) (f_X9_late N x y z)) ∧
  (zSt Inv (f_X8_rounds N) (f_X9_rounds N)) ∧
  (∀ x : Int32, zSt Inv (f_X8_comes N x) (f_X9_comes N x)) ∧
  (∀ x : Int32, zSt Inv (f_X8_names N x) (f_X9_names N x)) ∧
  (∀ x y : Int32, zSt Inv (f_X8_way N x y) (f_X9_way N x y)) ∧
  (∀ x : Int32, zSt Inv (f_X8_told N x) (f_X9_told N x)) ∧
  (∀ x : Int32, zSt Inv (f_X8_why N x) (f_X9_why N x)) ∧
  (∀ x : Int32, zSt Inv (f_X8_load N x) (f_X9_load N x)) ∧
  (zSt Inv (f_X8_excess N) (f_X9_excess N)) ∧
  (zSt Inv (f_X8_sum N) (f_X9_sum N)) ∧
  (∀ x : Int32, zSt Inv (f_X8_without N x) (f_X9_without N x)) ∧
  (∀ x y : Int32, zSt Inv (f_X8_moves N x y) (f_X9_moves N x y)) ∧
  (zSt Inv (f_X8_trial N) (f_X9_trial N)) ∧
  (∀ x y z : Int32, zSt Inv (f_X8_seen N x y z) (f_X9_seen N x y z)) ∧
  (zSt Inv (f_X8_cases N) (f_X9_cases N)) ∧
  (zSt Inv (f_X8_agree N) (f_X9_agree N)) ∧
  (∀ x : Int32, zSt Inv (f_X8_could N x) (f_X9_could N x)) ∧
  (∀ x : Int32, zSt Inv (f_X8_rules N x) (f_X9_rules N x)) ∧
  (zSt Inv (f_X8_learn N) (f_X9_learn N)) ∧
  (zSt Inv (f_X8_quarrel N) (f_X9_quarrel N)) ∧
  (∀ x : Int32, zSt Inv (f_X8_next N (zbo x)) (f_X9_next N (zbo x))) ∧
  (∀ x : Int32, zSt Inv (f_X8_best N (zbo x)) (f_X9_best N (zbo x))) ∧
  (∀ x : Int32, zSt Inv (f_X8_bestSum N (zbo x)) (f_X9_bestSum N (zbo x))) ∧
  (∀ x y : Int32, zSt Inv (f_X8_bestKind N (zbo x) y) (f_X9_bestKind N (zbo x) y)) ∧
  (∀ x y : Int32, zSt Inv (f_X8_aim N x y) (f_X9_aim N x y)) ∧
  (zSt Inv (f_X8_steps N) (f_X9_steps N)) ∧
  (∀ x : Int32, zSt Inv (f_X8_step N x) (f_X9_step N x)) ∧
  (zSt Inv (f_X8_stepWorst N) (f_X9_stepWorst N)) ∧
  (zSt Inv (f_X8_go N) (f_X9_go N)) ∧
  (∀ x : Int32, zSt Inv (f_X8_count N x) (f_X9_count N x))
theorem zlen_lt {L i : Nat} (hL : L ≤ 2048) (hi : i ≤ L + 4) : (nI L - 4 < nI i) ↔ L < i + 4 := by
  have h4 : (4 : Int32) = nI 4 := rfl
  rw [h4, Int32.lt_iff_toInt_lt, pk_sub_toInt (by omega) (by omega), nI_toInt (by omega)]
  omega
set_option maxRecDepth 100000 in
set_option maxHeartbeats 4000000 in
theorem law_loop {Inv : ZM → ZM → Prop} {N : Nat} (hall : zAll Inv N) {Gc Gm : ZG} (hGc : zSH Gc = shC) (hGm : zSH Gm = shM) {b L : Nat} {xs : Nat → Int32} (hL : L ≤ 2048) : ∀ (n i : Nat) (σc σm : ZM), i ≤ L + 3 → L + 4 ≤ n + i → Inv σc σm → zL Gc Gm b L xs 18 [(0, .ref b), (1, .ref (zad Gc 0)), (2, .ref (zad Gm 0)), (3, .int (nI i))] [] σc σm := by
  intro n
  induction n with
  | zero => intro i σc σm h1 h2; omega
  | succ n ih =>
    intro i σc σm h1 h2 hI
    refine zl_iload_n 3 (q := 19) (j := 3) rfl dL_law_18 rfl rfl ?_
    refine zl_aload_n 0 (q := 20) (j := 0) rfl dL_law_19 rfl rfl ?_
    refine zl_slen (q := 21) rfl dL_law_20 ?_
    refine zl_iconst (q := 22) (v := 4) rfl dL_law_21 (by decide) ?_
    refine zl_isub (q := 23) rfl dL_law_22 ?_
    refine zl_icmp_gt (q := 26) (tgt := 1355) rfl (by decide) dL_law_23 (fun _ => ?_) (fun hc => ?_)
    · refine zl_iconst (q := 1356) (v := 1) rfl dL_law_1355 (by decide) ?_
      exact zl_true dL_law_1356
    · have hi : i + 4 ≤ L := by
        have : ¬ L < i + 4 := fun h => hc ((zlen_lt (i := i) hL (by omega)).mpr h)
        omega
      have hnext : ∀ σc1 σm1 : ZM, Inv σc1 σm1 → zL Gc Gm b L xs 1349 [(0, .ref b), (1, .ref (zad Gc 0)), (2, .ref (zad Gm 0)), (3, .int (nI i))] [] σc1 σm1 := by
        intro σc1 σm1 hI1
        refine zl_iinc 3 (q := 1352) (v := nI (i + 4)) (lv1 := [(3, .int (nI (i + 4))), (0, .ref b), (1, .ref (zad Gc 0)), (2, .ref (zad Gm 0))]) rfl dL_law_1349 rfl (zni i 4 rfl) (by decide) rfl ?_
        refine zl_goto (tgt := 18) (by decide) dL_law_1352 ?_
        have := ih (i + 4) σc1 σm1 (by omega) (by omega) hI1
        intro p e s m below meth c C K H locs ls hP hM hS hl
        exact this p e s m below meth c C K H locs ls hP hM hS (lv_sub hl [1, 2, 3, 0] rfl)
      refine zl_aload_n 0 (q := 27) (j := 0) rfl dL_law_26 rfl rfl ?_
      refine zl_iload_n 3 (q := 28) (j := 3) rfl dL_law_27 rfl rfl ?_
      refine zl_sld (q := 29) rfl dL_law_28 (by omega) (by omega) ?_
      refine zl_bipush (q := 31) (v := 63) rfl dL_law_29 (by decide) ?_
      refine zl_iand (q := 32) rfl dL_law_31 ?_
      obtain ⟨j, hj, ej⟩ := pk_andE (xs i) (m := 63) 6 (by decide)
      rw [ej]
      rcases (show j = 0 ∨ j = 1 ∨ j = 2 ∨ j = 3 ∨ j = 4 ∨ j = 5 ∨ j = 6 ∨ j = 7 ∨ j = 8 ∨ j = 9 ∨ j = 10 ∨ j = 11 ∨ j = 12 ∨ j = 13 ∨ j = 14 ∨ j = 15 ∨ j = 16 ∨ j = 17 ∨ j = 18 ∨ j = 19 ∨ j = 20 ∨ j = 21 ∨ j = 22 ∨ j = 23 ∨ j = 24 ∨ j = 25 ∨ j = 26 ∨ j = 27 ∨ j = 28 ∨ j = 29 ∨ j = 30 ∨ j = 31 ∨ j = 32 ∨ j = 33 ∨ j = 34 ∨ j = 35 ∨ j = 36 ∨ j = 37 ∨ j = 38 ∨ j = 39 ∨ j = 40 ∨ (40 < j ∧ j < 64) by omega) with rfl | rfl | rfl | rfl | rfl | rfl | rfl | rfl | rfl | rfl | rfl | rfl | rfl | rfl | rfl | rfl | rfl | rfl | rfl | rfl | rfl | rfl | rfl | rfl | rfl | rfl | rfl | rfl | rfl | rfl | rfl | rfl | rfl | rfl | rfl | rfl | rfl | rfl | rfl | rfl | rfl | ⟨hj1, hj2⟩
      · obtain ⟨r, σc1, σm1, e1, e2, hI1⟩ := hall.1 (xs (i + 1)) σc σm hI
        refine zl_tableIn (off := 180) (tgt := 212) dL_law_32 (by decide) (by decide) rfl (by decide) ?_
        exact lawc_0 hGc hGm N hi hL e1 e2 (hnext σc1 σm1 hI1)
      · obtain ⟨r, σc1, σm1, e1, e2, hI1⟩ := hall.2.1 (xs (i + 1)) (xs (i + 2)) (xs (i + 3)) σc σm hI
        refine zl_tableIn (off := 203) (tgt := 235) dL_law_32 (by decide) (by decide) rfl (by decide) ?_
        exact lawc_1 hGc hGm N hi hL e1 e2 (hnext σc1 σm1 hI1)
      · obtain ⟨r, σc1, σm1, e1, e2, hI1⟩ := hall.2.2.1 (xs (i + 1)) (xs (i + 2)) σc σm hI
        refine zl_tableIn (off := 262) (tgt := 294) dL_law_32 (by decide) (by decide) rfl (by decide) ?_
        exact lawc_2 hGc hGm N hi hL e1 e2 (hnext σc1 σm1 hI1)
      · obtain ⟨r, σc1, σm1, e1, e2, hI1⟩ := hall.2.2.2.1 (xs (i + 1)) (xs (i + 2)) σc σm hI
        refine zl_tableIn (off := 295) (tgt := 327) dL_law_32 (by decide) (by decide) rfl (by decide) ?_
        exact lawc_3 hGc hGm N hi hL e1 e2 (hnext σc1 σm1 hI1)
      · obtain ⟨r, σc1, σm1, e1, e2, hI1⟩ := hall.2.2.2.2.1 (xs (i + 1)) (xs (i + 2)) σc σm hI
        refine zl_tableIn (off := 328) (tgt := 360) dL_law_32 (by decide) (by decide) rfl (by decide) ?_
        exact lawc_4 hGc hGm N hi hL e1 e2 (hnext σc1 σm1 hI1)
      · obtain ⟨r, σc1, σm1, e1, e2, hI1⟩ := hall.2.2.2.2.2.1 (xs (i + 1)) (xs (i + 2)) σc σm hI
        refine zl_tableIn (off := 361) (tgt := 393) dL_law_32 (by decide) (by decide) rfl (by decide) ?_
        exact lawc_5 hGc hGm N hi hL e1 e2 (hnext σc1 σm1 hI1)
      · obtain ⟨r, σc1, σm1, e1, e2, hI1⟩ := hall.2.2.2.2.2.2.1 (xs (i + 1)) (xs (i + 2)) σc σm hI
        refine zl_tableIn (off := 394) (tgt := 426) dL_law_32 (by decide) (by decide) rfl (by decide) ?_
        exact lawc_6 hGc hGm N hi hL e1 e2 (hnext σc1 σm1 hI1)
      · obtain ⟨r, σc1, σm1, e1, e2, hI1⟩ := hall.2.2.2.2.2.2.2.1 (xs (i + 1)) (xs (i + 2)) σc σm hI
        refine zl_tableIn (off := 427) (tgt := 459) dL_law_32 (by decide) (by decide) rfl (by decide) ?_
        exact lawc_7 hGc hGm N hi hL e1 e2 (hnext σc1 σm1 hI1)
      · obtain ⟨r, σc1, σm1, e1, e2, hI1⟩ := hall.2.2.2.2.2.2.2.2.1 (xs (i + 1)) (xs (i + 2)) σc σm hI
        refine zl_tableIn (off := 476) (tgt := 508) dL_law_32 (by decide) (by decide) rfl (by decide) ?_
        exact lawc_8 hGc hGm N hi hL e1 e2 (hnext σc1 σm1 hI1)
      · obtain ⟨r, σc1, σm1, e1, e2, hI1⟩ := hall.2.2.2.2.2.2.2.2.2.1 (xs (i + 1)) (xs (i + 2)) σc σm hI
        refine zl_tableIn (off := 509) (tgt := 541) dL_law_32 (by decide) (by decide) rfl (by decide) ?_
        exact lawc_9 hGc hGm N hi hL e1 e2 (hnext σc1 σm1 hI1)
      · obtain ⟨r, σc1, σm1, e1, e2, hI1⟩ := hall.2.2.2.2.2.2.2.2.2.2.1 (xs (i + 1)) (xs (i + 2)) σc σm hI
        refine zl_tableIn (off := 542) (tgt := 574) dL_law_32 (by decide) (by decide) rfl (by decide) ?_
        exact lawc_10 hGc hGm N hi hL e1 e2 (hnext σc1 σm1 hI1)
      · obtain ⟨r, σc1, σm1, e1, e2, hI1⟩ := hall.2.2.2.2.2.2.2.2.2.2.2.1 (xs (i + 1)) (xs (i + 2)) (xs (i + 3)) σc σm hI
        refine zl_tableIn (off := 591) (tgt := 623) dL_law_32 (by decide) (by decide) rfl (by decide) ?_
        exact lawc_11 hGc hGm N hi hL e1 e2 (hnext σc1 σm1 hI1)
      · obtain ⟨r, σc1, σm1, e1, e2, hI1⟩ := hall.2.2.2.2.2.2.2.2.2.2.2.2.1 σc σm hI
        refine zl_tableIn (off := 634) (tgt := 666) dL_law_32 (by decide) (by decide) rfl (by decide) ?_
        exact lawc_12 hGc hGm N hi hL e1 e2 (hnext σc1 σm1 hI1)
      · obtain ⟨r, σc1, σm1, e1, e2, hI1⟩ := hall.2.2.2.2.2.2.2.2.2.2.2.2.2.1 (xs (i + 1)) σc σm hI
        refine zl_tableIn (off := 647) (tgt := 679) dL_law_32 (by decide) (by decide) rfl (by decide) ?_
        exact lawc_13 hGc hGm N hi hL e1 e2 (hnext σc1 σm1 hI1)
      · obtain ⟨r, σc1, σm1, e1, e2, hI1⟩ := hall.2.2.2.2.2.2.2.2.2.2.2.2.2.2.1 (xs (i + 1)) σc σm hI
        refine zl_tableIn (off := 670) (tgt := 702) dL_law_32 (by decide) (by decide) rfl (by decide) ?_
        exact lawc_14 hGc hGm N hi hL e1 e2 (hnext σc1 σm1 hI1)
      · obtain ⟨r, σc1, σm1, e1, e2, hI1⟩ := hall.2.2.2.2.2.2.2.2.2.2.2.2.2.2.2.1 (xs (i + 1)) (xs (i + 2)) σc σm hI
        refine zl_tableIn (off := 693) (tgt := 725) dL_law_32 (by decide) (by decide) rfl (by decide) ?_
        exact lawc_15 hGc hGm N hi hL e1 e2 (hnext σc1 σm1 hI1)
      · obtain ⟨r, σc1, σm1, e1, e2, hI1⟩ := hall.2.2.2.2.2.2.2.2.2.2.2.2.2.2.2.2.1 (xs (i + 1)) σc σm hI
        refine zl_tableIn (off := 726) (tgt := 758) dL_law_32 (by decide) (by decide) rfl (by decide) ?_
        exact lawc_16 hGc hGm N hi hL e1 e2 (hnext σc1 σm1 hI1)
      · obtain ⟨r, σc1, σm1, e1, e2, hI1⟩ := hall.2.2.2.2.2.2.2.2.2.2.2.2.2.2.2.2.2.1 (xs (i + 1)) σc σm hI
        refine zl_tableIn (off := 749) (tgt := 781) dL_law_32 (by decide) (by decide) rfl (by decide) ?_
        exact lawc_17 hGc hGm N hi hL e1 e2 (hnext σc1 σm1 hI1)
      · obtain ⟨r, σc1, σm1, e1, e2, hI1⟩ := hall.2.2.2.2.2.2.2.2.2.2.2.2.2.2.2.2.2.2.1 (xs (i + 1)) σc σm hI
        refine zl_tableIn (off := 772) (tgt := 804) dL_law_32 (by decide) (by decide) rfl (by decide) ?_
        exact lawc_18 hGc hGm N hi hL e1 e2 (hnext σc1 σm1 hI1)
      · obtain ⟨r, σc1, σm1, e1, e2, hI1⟩ := hall.2.2.2.2.2.2.2.2.2.2.2.2.2.2.2.2.2.2.2.1 σc σm hI
        refine zl_tableIn (off := 795) (tgt := 827) dL_law_32 (by decide) (by decide) rfl (by decide) ?_
        exact lawc_19 hGc hGm N hi hL e1 e2 (hnext σc1 σm1 hI1)
      · obtain ⟨r, σc1, σm1, e1, e2, hI1⟩ := hall.2.2.2.2.2.2.2.2.2.2.2.2.2.2.2.2.2.2.2.2.1 σc σm hI
        refine zl_tableIn (off := 808) (tgt := 840) dL_law_32 (by decide) (by decide) rfl (by decide) ?_
        exact lawc_20 hGc hGm N hi hL e1 e2 (hnext σc1 σm1 hI1)
      · obtain ⟨r, σc1, σm1, e1, e2, hI1⟩ := hall.2.2.2.2.2.2.2.2.2.2.2.2.2.2.2.2.2.2.2.2.2.1 (xs (i + 1)) σc σm hI
        refine zl_tableIn (off := 822) (tgt := 854) dL_law_32 (by decide) (by decide) rfl (by decide) ?_
        exact lawc_21 hGc hGm N hi hL e1 e2 (hnext σc1 σm1 hI1)
      · obtain ⟨r, σc1, σm1, e1, e2, hI1⟩ := hall.2.2.2.2.2.2.2.2.2.2.2.2.2.2.2.2.2.2.2.2.2.2.1 (xs (i + 1)) (xs (i + 2)) σc σm hI
        refine zl_tableIn (off := 845) (tgt := 877) dL_law_32 (by decide) (by decide) rfl (by decide) ?_
        exact lawc_22 hGc hGm N hi hL e1 e2 (hnext σc1 σm1 hI1)
      · obtain ⟨r, σc1, σm1, e1, e2, hI1⟩ := hall.2.2.2.2.2.2.2.2.2.2.2.2.2.2.2.2.2.2.2.2.2.2.2.1 σc σm hI
        refine zl_tableIn (off := 878) (tgt := 910) dL_law_32 (by decide) (by decide) rfl (by decide) ?_
        exact lawc_23 hGc hGm N hi hL e1 e2 (hnext σc1 σm1 hI1)
      · obtain ⟨r, σc1, σm1, e1, e2, hI1⟩ := hall.2.2.2.2.2.2.2.2.2.2.2.2.2.2.2.2.2.2.2.2.2.2.2.2.1 (xs (i + 1)) (xs (i + 2)) (xs (i + 3)) σc σm hI
        refine zl_tableIn (off := 891) (tgt := 923) dL_law_32 (by decide) (by decide) rfl (by decide) ?_
        exact lawc_24 hGc hGm N hi hL e1 e2 (hnext σc1 σm1 hI1)
      · obtain ⟨r, σc1, σm1, e1, e2, hI1⟩ := hall.2.2.2.2.2.2.2.2.2.2.2.2.2.2.2.2.2.2.2.2.2.2.2.2.2.1 σc σm hI
        refine zl_tableIn (off := 934) (tgt := 966) dL_law_32 (by decide) (by decide) rfl (by decide) ?_
        exact lawc_25 hGc hGm N hi hL e1 e2 (hnext σc1 σm1 hI1)
      · obtain ⟨r, σc1, σm1, e1, e2, hI1⟩ := hall.2.2.2.2.2.2.2.2.2.2.2.2.2.2.2.2.2.2.2.2.2.2.2.2.2.2.1 σc σm hI
        refine zl_tableIn (off := 947) (tgt := 979) dL_law_32 (by decide) (by decide) rfl (by decide) ?_
        exact lawc_26 hGc hGm N hi hL e1 e2 (hnext σc1 σm1 hI1)
      · obtain ⟨r, σc1, σm1, e1, e2, hI1⟩ := hall.2.2.2.2.2.2.2.2.2.2.2.2.2.2.2.2.2.2.2.2.2.2.2.2.2.2.2.1 (xs (i + 1)) σc σm hI
        refine zl_tableIn (off := 960) (tgt := 992) dL_law_32 (by decide) (by decide) rfl (by decide) ?_
        exact lawc_27 hGc hGm N hi hL e1 e2 (hnext σc1 σm1 hI1)
      · obtain ⟨r, σc1, σm1, e1, e2, hI1⟩ := hall.2.2.2.2.2.2.2.2.2.2.2.2.2.2.2.2.2.2.2.2.2.2.2.2.2.2.2.2.1 (xs (i + 1)) σc σm hI
        refine zl_tableIn (off := 983) (tgt := 1015) dL_law_32 (by decide) (by decide) rfl (by decide) ?_
        exact lawc_28 hGc hGm N hi hL e1 e2 (hnext σc1 σm1 hI1)
      · obtain ⟨r, σc1, σm1, e1, e2, hI1⟩ := hall.2.2.2.2.2.2.2.2.2.2.2.2.2.2.2.2.2.2.2.2.2.2.2.2.2.2.2.2.2.1 σc σm hI
        refine zl_tableIn (off := 1006) (tgt := 1038) dL_law_32 (by decide) (by decide) rfl (by decide) ?_
        exact lawc_29 hGc hGm N hi hL e1 e2 (hnext σc1 σm1 hI1)
      · obtain ⟨r, σc1, σm1, e1, e2, hI1⟩ := hall.2.2.2.2.2.2.2.2.2.2.2.2.2.2.2.2.2.2.2.2.2.2.2.2.2.2.2.2.2.2.1 σc σm hI
        refine zl_tableIn (off := 1019) (tgt := 1051) dL_law_32 (by decide) (by decide) rfl (by decide) ?_
        exact lawc_30 hGc hGm N hi hL e1 e2 (hnext σc1 σm1 hI1)
      · obtain ⟨r, σc1, σm1, e1, e2, hI1⟩ := hall.2.2.2.2.2.2.2.2.2.2.2.2.2.2.2.2.2.2.2.2.2.2.2.2.2.2.2.2.2.2.2.1 (xs (i + 1)) σc σm hI
        refine zl_tableIn (off := 1032) (tgt := 1064) dL_law_32 (by decide) (by decide) rfl (by decide) ?_
        exact lawc_31 hGc hGm N hi hL e1 e2 (hnext σc1 σm1 hI1)
      · obtain ⟨r, σc1, σm1, e1, e2, hI1⟩ := hall.2.2.2.2.2.2.2.2.2.2.2.2.2.2.2.2.2.2.2.2.2.2.2.2.2.2.2.2.2.2.2.2.1 (xs (i + 1)) σc σm hI
        refine zl_tableIn (off := 1071) (tgt := 1103) dL_law_32 (by decide) (by decide) rfl (by decide) ?_
        exact lawc_32 hGc hGm N hi hL e1 e2 (hnext σc1 σm1 hI1)
      · obtain ⟨r, σc1, σm1, e1, e2, hI1⟩ := hall.2.2.2.2.2.2.2.2.2.2.2.2.2.2.2.2.2.2.2.2.2.2.2.2.2.2.2.2.2.2.2.2.2.1 (xs (i + 1)) σc σm hI
        refine zl_tableIn (off := 1110) (tgt := 1142) dL_law_32 (by decide) (by decide) rfl (by decide) ?_
        exact lawc_33 hGc hGm N hi hL e1 e2 (hnext σc1 σm1 hI1)
      · obtain ⟨r, σc1, σm1, e1, e2, hI1⟩ := hall.2.2.2.2.2.2.2.2.2.2.2.2.2.2.2.2.2.2.2.2.2.2.2.2.2.2.2.2.2.2.2.2.2.2.1 (xs (i + 1)) (xs (i + 2)) σc σm hI
        refine zl_tableIn (off := 1150) (tgt := 1182) dL_law_32 (by decide) (by decide) rfl (by decide) ?_
        exact lawc_34 hGc hGm N hi hL e1 e2 (hnext σc1 σm1 hI1)
      · obtain ⟨r, σc1, σm1, e1, e2, hI1⟩ := hall.2.2.2.2.2.2.2.2.2.2.2.2.2.2.2.2.2.2.2.2.2.2.2.2.2.2.2.2.2.2.2.2.2.2.2.1 (xs (i + 1)) (xs (i + 2)) σc σm hI
        refine zl_tableIn (off := 1199) (tgt := 1231) dL_law_32 (by decide) (by decide) rfl (by decide) ?_
        exact lawc_35 hGc hGm N hi hL e1 e2 (hnext σc1 σm1 hI1)
      · obtain ⟨r, σc1, σm1, e1, e2, hI1⟩ := hall.2.2.2.2.2.2.2.2.2.2.2.2.2.2.2.2.2.2.2.2.2.2.2.2.2.2.2.2.2.2.2.2.2.2.2.2.1 σc σm hI
        refine zl_tableIn (off := 1232) (tgt := 1264) dL_law_32 (by decide) (by decide) rfl (by decide) ?_
        exact lawc_36 hGc hGm N hi hL e1 e2 (hnext σc1 σm1 hI1)
      · obtain ⟨r, σc1, σm1, e1, e2, hI1⟩ := hall.2.2.2.2.2.2.2.2.2.2.2.2.2.2.2.2.2.2.2.2.2.2.2.2.2.2.2.2.2.2.2.2.2.2.2.2.2.1 (xs (i + 1)) σc σm hI
        refine zl_tableIn (off := 1245) (tgt := 1277) dL_law_32 (by decide) (by decide) rfl (by decide) ?_
        exact lawc_37 hGc hGm N hi hL e1 e2 (hnext σc1 σm1 hI1)
      · obtain ⟨r, σc1, σm1, e1, e2, hI1⟩ := hall.2.2.2.2.2.2.2.2.2.2.2.2.2.2.2.2.2.2.2.2.2.2.2.2.2.2.2.2.2.2.2.2.2.2.2.2.2.2.1 σc σm hI
        refine zl_tableIn (off := 1268) (tgt := 1300) dL_law_32 (by decide) (by decide) rfl (by decide) ?_
        exact lawc_38 hGc hGm N hi hL e1 e2 (hnext σc1 σm1 hI1)
      · obtain ⟨r, σc1, σm1, e1, e2, hI1⟩ := hall.2.2.2.2.2.2.2.2.2.2.2.2.2.2.2.2.2.2.2.2.2.2.2.2.2.2.2.2.2.2.2.2.2.2.2.2.2.2.2.1 σc σm hI
        refine zl_tableIn (off := 1281) (tgt := 1313) dL_law_32 (by decide) (by decide) rfl (by decide) ?_
        exact lawc_39 hGc hGm N hi hL e1 e2 (hnext σc1 σm1 hI1)
      · obtain ⟨r, σc1, σm1, e1, e2, hI1⟩ := hall.2.2.2.2.2.2.2.2.2.2.2.2.2.2.2.2.2.2.2.2.2.2.2.2.2.2.2.2.2.2.2.2.2.2.2.2.2.2.2.2 (xs (i + 1)) σc σm hI
        refine zl_tableIn (off := 1294) (tgt := 1326) dL_law_32 (by decide) (by decide) rfl (by decide) ?_
        exact lawc_40 hGc hGm N hi hL e1 e2 (hnext σc1 σm1 hI1)
      · refine zl_tableOut (tgt := 1349) dL_law_32 (Or.inr ?_) (by decide) (hnext σc σm hI)
        rw [nI_toInt (by omega)]
        omega
