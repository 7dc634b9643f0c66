/-! THE LAW: its cases -/
set_option maxRecDepth 4000 in
theorem lc_bolt {G : Gm} {b L : Nat} {xs : Nat → Int32} (O : LawOk G b L xs) {a a2 : Nat → Nat} {out : Nat} {o0 : Nat → Int64} {k n : Nat} (hkn : k ≤ room_1.cells ∧ n ≤ room_1.slots) {i : Nat} (hi : i + 7 ≤ L) {wx wm : va_W} (hr : Rel (gK G) a a2 wx wm) (z : ∀ wx2 wm2, Rel (gK G) a a2 wx2 wm2 → V G k n (wsL G out o0 wx2 wm2) 1412 (lvL b (a 0) (a2 0) out i) []) : V G k n (wsL G out o0 wx wm) 204 (lvL b (a 0) (a2 0) out i) [] := by
  obtain ⟨h, hX, hbl, hbA, hL, -, -, -⟩ := O
  obtain ⟨f1, ⟨fs1, g1⟩, f2, ⟨fs2, g2⟩⟩ := Rel_at hr
  have n1 : wx.length = 68 := by simpa using congrArg List.length f1
  have n2 : wm.length = 30 := by simpa using congrArg List.length f2
  obtain ⟨r, wx2, wm2, cX, cM, hr2⟩ := k_bolt (F := 301) (by decide) hr (xs (zI (i : Int) + 1).toNatClampNeg) (xs (zI (i : Int) + 2).toNatClampNeg) (xs (zI (i : Int) + 3).toNatClampNeg) (xs (zI (i : Int) + 4).toNatClampNeg) (xs (zI (i : Int) + 5).toNatClampNeg)
  obtain ⟨f3, -, f4, -⟩ := Rel_at hr2
  have n3 : wx2.length = 68 := by simpa using congrArg List.length f3
  refine V_aload_n (pc := 204) h 1 dL_law_204 rfl ?_
  refine V_aload_n (pc := 205) h 0 dL_law_205 rfl ?_
  refine V_iload (pc := 206) h 4 dL_law_206 rfl ?_
  refine V_iconst (pc := 208) h dL_law_208 ic_1 ?_
  refine V_iadd (pc := 209) h dL_law_209 ?_
  refine V_sld (pc := 210) h hX hbl hbA (inx (t := 1) hi hL (by omega)) dL_law_210 ?_
  refine V_aload_n (pc := 211) h 0 dL_law_211 rfl ?_
  refine V_iload (pc := 212) h 4 dL_law_212 rfl ?_
  refine V_iconst (pc := 214) h dL_law_214 ic_2 ?_
  refine V_iadd (pc := 215) h dL_law_215 ?_
  refine V_sld (pc := 216) h hX hbl hbA (inx (t := 2) hi hL (by omega)) dL_law_216 ?_
  refine V_aload_n (pc := 217) h 0 dL_law_217 rfl ?_
  refine V_iload (pc := 218) h 4 dL_law_218 rfl ?_
  refine V_iconst (pc := 220) h dL_law_220 ic_3 ?_
  refine V_iadd (pc := 221) h dL_law_221 ?_
  refine V_sld (pc := 222) h hX hbl hbA (inx (t := 3) hi hL (by omega)) dL_law_222 ?_
  refine V_aload_n (pc := 223) h 0 dL_law_223 rfl ?_
  refine V_iload (pc := 224) h 4 dL_law_224 rfl ?_
  refine V_iconst (pc := 226) h dL_law_226 ic_4 ?_
  refine V_iadd (pc := 227) h dL_law_227 ?_
  refine V_sld (pc := 228) h hX hbl hbA (inx (t := 4) hi hL (by omega)) dL_law_228 ?_
  refine V_aload_n (pc := 229) h 0 dL_law_229 rfl ?_
  refine V_iload (pc := 230) h 4 dL_law_230 rfl ?_
  refine V_iconst (pc := 232) h dL_law_232 ic_5 ?_
  refine V_iadd (pc := 233) h dL_law_233 ?_
  refine V_sld (pc := 234) h hX hbl hbA (inx (t := 5) hi hL (by omega)) dL_law_234 ?_
  refine V_mid (pre := [outc (gK G) out o0]) (mid := wx) (post := wm) (pc := 235) h _ cX mf_X_bolt lk_RL_23 im_X_bolt se_X_bolt ⟨Nat.le_of_ble_eq_true rfl, Nat.le_of_ble_eq_true rfl⟩ hkn (by rw [n1]; rfl) (f3.trans f1.symm) g1 rfl rfl rfl (Nat.le_of_ble_eq_true rfl) [.int r] rfl dL_law_235 ?_
  refine V_aload_n (pc := 238) h 2 dL_law_238 rfl ?_
  refine V_aload_n (pc := 239) h 0 dL_law_239 rfl ?_
  refine V_iload (pc := 240) h 4 dL_law_240 rfl ?_
  refine V_iconst (pc := 242) h dL_law_242 ic_1 ?_
  refine V_iadd (pc := 243) h dL_law_243 ?_
  refine V_sld (pc := 244) h hX hbl hbA (inx (t := 1) hi hL (by omega)) dL_law_244 ?_
  refine V_aload_n (pc := 245) h 0 dL_law_245 rfl ?_
  refine V_iload (pc := 246) h 4 dL_law_246 rfl ?_
  refine V_iconst (pc := 248) h dL_law_248 ic_2 ?_
  refine V_iadd (pc := 249) h dL_law_249 ?_
  refine V_sld (pc := 250) h hX hbl hbA (inx (t := 2) hi hL (by omega)) dL_law_250 ?_
  refine V_aload_n (pc := 251) h 0 dL_law_251 rfl ?_
  refine V_iload (pc := 252) h 4 dL_law_252 rfl ?_
  refine V_iconst (pc := 254) h dL_law_254 ic_3 ?_
  refine V_iadd (pc := 255) h dL_law_255 ?_
  refine V_sld (pc := 256) h hX hbl hbA (inx (t := 3) hi hL (by omega)) dL_law_256 ?_
  refine V_aload_n (pc := 257) h 0 dL_law_257 rfl ?_
  refine V_iload (pc := 258) h 4 dL_law_258 rfl ?_
  refine V_iconst (pc := 260) h dL_law_260 ic_4 ?_
  refine V_iadd (pc := 261) h dL_law_261 ?_
  refine V_sld (pc := 262) h hX hbl hbA (inx (t := 4) hi hL (by omega)) dL_law_262 ?_
  refine V_aload_n (pc := 263) h 0 dL_law_263 rfl ?_
  refine V_iload (pc := 264) h 4 dL_law_264 rfl ?_
  refine V_iconst (pc := 266) h dL_law_266 ic_5 ?_
  refine V_iadd (pc := 267) h dL_law_267 ?_
  refine V_sld (pc := 268) h hX hbl hbA (inx (t := 5) hi hL (by omega)) dL_law_268 ?_
  refine V_ws _ wl_1 ?_
  refine V_mid (pre := [outc (gK G) out o0] ++ wx2) (mid := wm) (post := []) (pc := 269) h _ cM mf_M_bolt lk_RL_27 im_M_bolt se_M_bolt ⟨Nat.le_of_ble_eq_true rfl, Nat.le_of_ble_eq_true rfl⟩ hkn (by rw [List.length_append, n3, n2]; rfl) (f4.trans f2.symm) g2 rfl rfl rfl (Nat.le_of_ble_eq_true rfl) [.int r, .int r] rfl dL_law_269 ?_
  refine V_ws _ wl_2 ?_
  exact V_icmp_eq (pc := 272) h 1412 dL_law_272 (by decide) (fun _ => z wx2 wm2 hr2) (fun hn => absurd rfl hn)
set_option maxRecDepth 4000 in
theorem lc_plates {G : Gm} {b L : Nat} {xs : Nat → Int32} (O : LawOk G b L xs) {a a2 : Nat → Nat} {out : Nat} {o0 : Nat → Int64} {k n : Nat} (hkn : k ≤ room_1.cells ∧ n ≤ room_1.slots) {i : Nat} (hi : i + 7 ≤ L) {wx wm : va_W} (hr : Rel (gK G) a a2 wx wm) (z : ∀ wx2 wm2, Rel (gK G) a a2 wx2 wm2 → V G k n (wsL G out o0 wx2 wm2) 1412 (lvL b (a 0) (a2 0) out i) []) : V G k n (wsL G out o0 wx wm) 277 (lvL b (a 0) (a2 0) out i) [] := by
  obtain ⟨h, hX, hbl, hbA, hL, -, -, -⟩ := O
  obtain ⟨f1, ⟨fs1, g1⟩, f2, ⟨fs2, g2⟩⟩ := Rel_at hr
  have n1 : wx.length = 68 := by simpa using congrArg List.length f1
  have n2 : wm.length = 30 := by simpa using congrArg List.length f2
  obtain ⟨r, wx2, wm2, cX, cM, hr2⟩ := k_plates (F := 301) (by decide) hr (xs (zI (i : Int) + 1).toNatClampNeg) (xs (zI (i : Int) + 2).toNatClampNeg)
  obtain ⟨f3, -, f4, -⟩ := Rel_at hr2
  have n3 : wx2.length = 68 := by simpa using congrArg List.length f3
  refine V_aload_n (pc := 277) h 1 dL_law_277 rfl ?_
  refine V_aload_n (pc := 278) h 0 dL_law_278 rfl ?_
  refine V_iload (pc := 279) h 4 dL_law_279 rfl ?_
  refine V_iconst (pc := 281) h dL_law_281 ic_1 ?_
  refine V_iadd (pc := 282) h dL_law_282 ?_
  refine V_sld (pc := 283) h hX hbl hbA (inx (t := 1) hi hL (by omega)) dL_law_283 ?_
  refine V_aload_n (pc := 284) h 0 dL_law_284 rfl ?_
  refine V_iload (pc := 285) h 4 dL_law_285 rfl ?_
  refine V_iconst (pc := 287) h dL_law_287 ic_2 ?_
  refine V_iadd (pc := 288) h dL_law_288 ?_
  refine V_sld (pc := 289) h hX hbl hbA (inx (t := 2) hi hL (by omega)) dL_law_289 ?_
  refine V_mid (pre := [outc (gK G) out o0]) (mid := wx) (post := wm) (pc := 290) h _ cX mf_X_plates lk_RL_28 im_X_plates se_X_plates ⟨Nat.le_of_ble_eq_true rfl, Nat.le_of_ble_eq_true rfl⟩ hkn (by rw [n1]; rfl) (f3.trans f1.symm) g1 rfl rfl rfl (Nat.le_of_ble_eq_true rfl) [.int r] rfl dL_law_290 ?_
  refine V_aload_n (pc := 293) h 2 dL_law_293 rfl ?_
  refine V_aload_n (pc := 294) h 0 dL_law_294 rfl ?_
  refine V_iload (pc := 295) h 4 dL_law_295 rfl ?_
  refine V_iconst (pc := 297) h dL_law_297 ic_1 ?_
  refine V_iadd (pc := 298) h dL_law_298 ?_
  refine V_sld (pc := 299) h hX hbl hbA (inx (t := 1) hi hL (by omega)) dL_law_299 ?_
  refine V_aload_n (pc := 300) h 0 dL_law_300 rfl ?_
  refine V_iload (pc := 301) h 4 dL_law_301 rfl ?_
  refine V_iconst (pc := 303) h dL_law_303 ic_2 ?_
  refine V_iadd (pc := 304) h dL_law_304 ?_
  refine V_sld (pc := 305) h hX hbl hbA (inx (t := 2) hi hL (by omega)) dL_law_305 ?_
  refine V_ws _ wl_1 ?_
  refine V_mid (pre := [outc (gK G) out o0] ++ wx2) (mid := wm) (post := []) (pc := 306) h _ cM mf_M_plates lk_RL_31 im_M_plates se_M_plates ⟨Nat.le_of_ble_eq_true rfl, Nat.le_of_ble_eq_true rfl⟩ hkn (by rw [List.length_append, n3, n2]; rfl) (f4.trans f2.symm) g2 rfl rfl rfl (Nat.le_of_ble_eq_true rfl) [.int r, .int r] rfl dL_law_306 ?_
  refine V_ws _ wl_2 ?_
  exact V_icmp_eq (pc := 309) h 1412 dL_law_309 (by decide) (fun _ => z wx2 wm2 hr2) (fun hn => absurd rfl hn)
set_option maxRecDepth 4000 in
theorem lc_pitch {G : Gm} {b L : Nat} {xs : Nat → Int32} (O : LawOk G b L xs) {a a2 : Nat → Nat} {out : Nat} {o0 : Nat → Int64} {k n : Nat} (hkn : k ≤ room_1.cells ∧ n ≤ room_1.slots) {i : Nat} (hi : i + 7 ≤ L) {wx wm : va_W} (hr : Rel (gK G) a a2 wx wm) (z : ∀ wx2 wm2, Rel (gK G) a a2 wx2 wm2 → V G k n (wsL G out o0 wx2 wm2) 1412 (lvL b (a 0) (a2 0) out i) []) : V G k n (wsL G out o0 wx wm) 314 (lvL b (a 0) (a2 0) out i) [] := by
  obtain ⟨h, hX, hbl, hbA, hL, -, -, -⟩ := O
  obtain ⟨f1, ⟨fs1, g1⟩, f2, ⟨fs2, g2⟩⟩ := Rel_at hr
  have n1 : wx.length = 68 := by simpa using congrArg List.length f1
  have n2 : wm.length = 30 := by simpa using congrArg List.length f2
  obtain ⟨r, wx2, wm2, cX, cM, hr2⟩ := k_pitch (F := 301) (by decide) hr (xs (zI (i : Int) + 1).toNatClampNeg) (xs (zI (i : Int) + 2).toNatClampNeg)
  obtain ⟨f3, -, f4, -⟩ := Rel_at hr2
  have n3 : wx2.length = 68 := by simpa using congrArg List.length f3
  refine V_aload_n (pc := 314) h 1 dL_law_314 rfl ?_
  refine V_aload_n (pc := 315) h 0 dL_law_315 rfl ?_
  refine V_iload (pc := 316) h 4 dL_law_316 rfl ?_
  refine V_iconst (pc := 318) h dL_law_318 ic_1 ?_
  refine V_iadd (pc := 319) h dL_law_319 ?_
  refine V_sld (pc := 320) h hX hbl hbA (inx (t := 1) hi hL (by omega)) dL_law_320 ?_
  refine V_aload_n (pc := 321) h 0 dL_law_321 rfl ?_
  refine V_iload (pc := 322) h 4 dL_law_322 rfl ?_
  refine V_iconst (pc := 324) h dL_law_324 ic_2 ?_
  refine V_iadd (pc := 325) h dL_law_325 ?_
  refine V_sld (pc := 326) h hX hbl hbA (inx (t := 2) hi hL (by omega)) dL_law_326 ?_
  refine V_mid (pre := [outc (gK G) out o0]) (mid := wx) (post := wm) (pc := 327) h _ cX mf_X_pitch lk_RL_32 im_X_pitch se_X_pitch ⟨Nat.le_of_ble_eq_true rfl, Nat.le_of_ble_eq_true rfl⟩ hkn (by rw [n1]; rfl) (f3.trans f1.symm) g1 rfl rfl rfl (Nat.le_of_ble_eq_true rfl) [.int r] rfl dL_law_327 ?_
  refine V_aload_n (pc := 330) h 2 dL_law_330 rfl ?_
  refine V_aload_n (pc := 331) h 0 dL_law_331 rfl ?_
  refine V_iload (pc := 332) h 4 dL_law_332 rfl ?_
  refine V_iconst (pc := 334) h dL_law_334 ic_1 ?_
  refine V_iadd (pc := 335) h dL_law_335 ?_
  refine V_sld (pc := 336) h hX hbl hbA (inx (t := 1) hi hL (by omega)) dL_law_336 ?_
  refine V_aload_n (pc := 337) h 0 dL_law_337 rfl ?_
  refine V_iload (pc := 338) h 4 dL_law_338 rfl ?_
  refine V_iconst (pc := 340) h dL_law_340 ic_2 ?_
  refine V_iadd (pc := 341) h dL_law_341 ?_
  refine V_sld (pc := 342) h hX hbl hbA (inx (t := 2) hi hL (by omega)) dL_law_342 ?_
  refine V_ws _ wl_1 ?_
  refine V_mid (pre := [outc (gK G) out o0] ++ wx2) (mid := wm) (post := []) (pc := 343) h _ cM mf_M_pitch lk_RL_35 im_M_pitch se_M_pitch ⟨Nat.le_of_ble_eq_true rfl, Nat.le_of_ble_eq_true rfl⟩ hkn (by rw [List.length_append, n3, n2]; rfl) (f4.trans f2.symm) g2 rfl rfl rfl (Nat.le_of_ble_eq_true rfl) [.int r, .int r] rfl dL_law_343 ?_
  refine V_ws _ wl_2 ?_
  exact V_icmp_eq (pc := 346) h 1412 dL_law_346 (by decide) (fun _ => z wx2 wm2 hr2) (fun hn => absurd rfl hn)
set_option maxRecDepth 4000 in
theorem lc_alters {G : Gm} {b L : Nat} {xs : Nat → Int32} (O : LawOk G b L xs) {a a2 : Nat → Nat} {out : Nat} {o0 : Nat → Int64} {k n : Nat} (hkn : k ≤ room_1.cells ∧ n ≤ room_1.slots) {i : Nat} (hi : i + 7 ≤ L) {wx wm : va_W} (hr : Rel (gK G) a a2 wx wm) (z : ∀ wx2 wm2, Rel (gK G) a a2 wx2 wm2 → V G k n (wsL G out o0 wx2 wm2) 1412 (lvL b (a 0) (a2 0) out i) []) : V G k n (wsL G out o0 wx wm) 351 (lvL b (a 0) (a2 0) out i) [] := by
  obtain ⟨h, hX, hbl, hbA, hL, -, -, -⟩ := O
  obtain ⟨f1, ⟨fs1, g1⟩, f2, ⟨fs2, g2⟩⟩ := Rel_at hr
  have n1 : wx.length = 68 := by simpa using congrArg List.length f1
  have n2 : wm.length = 30 := by simpa using congrArg List.length f2
  obtain ⟨r, wx2, wm2, cX, cM, hr2⟩ := k_alters (F := 301) (by decide) hr (xs (zI (i : Int) + 1).toNatClampNeg) (xs (zI (i : Int) + 2).toNatClampNeg) (xs (zI (i : Int) + 3).toNatClampNeg) (xs (zI (i : Int) + 4).toNatClampNeg) (xs (zI (i : Int) + 5).toNatClampNeg) (xs (zI (i : Int) + 6).toNatClampNeg)
  obtain ⟨f3, -, f4, -⟩ := Rel_at hr2
  have n3 : wx2.length = 68 := by simpa using congrArg List.length f3
  refine V_aload_n (pc := 351) h 1 dL_law_351 rfl ?_
  refine V_aload_n (pc := 352) h 0 dL_law_352 rfl ?_
  refine V_iload (pc := 353) h 4 dL_law_353 rfl ?_
  refine V_iconst (pc := 355) h dL_law_355 ic_1 ?_
  refine V_iadd (pc := 356) h dL_law_356 ?_
  refine V_sld (pc := 357) h hX hbl hbA (inx (t := 1) hi hL (by omega)) dL_law_357 ?_
  refine V_aload_n (pc := 358) h 0 dL_law_358 rfl ?_
  refine V_iload (pc := 359) h 4 dL_law_359 rfl ?_
  refine V_iconst (pc := 361) h dL_law_361 ic_2 ?_
  refine V_iadd (pc := 362) h dL_law_362 ?_
  refine V_sld (pc := 363) h hX hbl hbA (inx (t := 2) hi hL (by omega)) dL_law_363 ?_
  refine V_aload_n (pc := 364) h 0 dL_law_364 rfl ?_
  refine V_iload (pc := 365) h 4 dL_law_365 rfl ?_
  refine V_iconst (pc := 367) h dL_law_367 ic_3 ?_
  refine V_iadd (pc := 368) h dL_law_368 ?_
  refine V_sld (pc := 369) h hX hbl hbA (inx (t := 3) hi hL (by omega)) dL_law_369 ?_
  refine V_aload_n (pc := 370) h 0 dL_law_370 rfl ?_
  refine V_iload (pc := 371) h 4 dL_law_371 rfl ?_
  refine V_iconst (pc := 373) h dL_law_373 ic_4 ?_
  refine V_iadd (pc := 374) h dL_law_374 ?_
  refine V_sld (pc := 375) h hX hbl hbA (inx (t := 4) hi hL (by omega)) dL_law_375 ?_
  refine V_aload_n (pc := 376) h 0 dL_law_376 rfl ?_
  refine V_iload (pc := 377) h 4 dL_law_377 rfl ?_
  refine V_iconst (pc := 379) h dL_law_379 ic_5 ?_
  refine V_iadd (pc := 380) h dL_law_380 ?_
  refine V_sld (pc := 381) h hX hbl hbA (inx (t := 5) hi hL (by omega)) dL_law_381 ?_
  refine V_aload_n (pc := 382) h 0 dL_law_382 rfl ?_
  refine V_iload (pc := 383) h 4 dL_law_383 rfl ?_
  refine V_bipush (pc := 385) h (v := 6) dL_law_385 (by decide) ?_
  refine V_iadd (pc := 387) h dL_law_387 ?_
  refine V_sld (pc := 388) h hX hbl hbA (inx (t := 6) hi hL (by omega)) dL_law_388 ?_
  refine V_mid (pre := [outc (gK G) out o0]) (mid := wx) (post := wm) (pc := 389) h _ cX mf_X_alters lk_RL_36 im_X_alters se_X_alters ⟨Nat.le_of_ble_eq_true rfl, Nat.le_of_ble_eq_true rfl⟩ hkn (by rw [n1]; rfl) (f3.trans f1.symm) g1 rfl rfl rfl (Nat.le_of_ble_eq_true rfl) [.int r] rfl dL_law_389 ?_
  refine V_aload_n (pc := 392) h 2 dL_law_392 rfl ?_
  refine V_aload_n (pc := 393) h 0 dL_law_393 rfl ?_
  refine V_iload (pc := 394) h 4 dL_law_394 rfl ?_
  refine V_iconst (pc := 396) h dL_law_396 ic_1 ?_
  refine V_iadd (pc := 397) h dL_law_397 ?_
  refine V_sld (pc := 398) h hX hbl hbA (inx (t := 1) hi hL (by omega)) dL_law_398 ?_
  refine V_aload_n (pc := 399) h 0 dL_law_399 rfl ?_
  refine V_iload (pc := 400) h 4 dL_law_400 rfl ?_
  refine V_iconst (pc := 402) h dL_law_402 ic_2 ?_
  refine V_iadd (pc := 403) h dL_law_403 ?_
  refine V_sld (pc := 404) h hX hbl hbA (inx (t := 2) hi hL (by omega)) dL_law_404 ?_
  refine V_aload_n (pc := 405) h 0 dL_law_405 rfl ?_
  refine V_iload (pc := 406) h 4 dL_law_406 rfl ?_
  refine V_iconst (pc := 408) h dL_law_408 ic_3 ?_
  refine V_iadd (pc := 409) h dL_law_409 ?_
  refine V_sld (pc := 410) h hX hbl hbA (inx (t := 3) hi hL (by omega)) dL_law_410 ?_
  refine V_aload_n (pc := 411) h 0 dL_law_411 rfl ?_
  refine V_iload (pc := 412) h 4 dL_law_412 rfl ?_
  refine V_iconst (pc := 414) h dL_law_414 ic_4 ?_
  refine V_iadd (pc := 415) h dL_law_415 ?_
  refine V_sld (pc := 416) h hX hbl hbA (inx (t := 4) hi hL (by omega)) dL_law_416 ?_
  refine V_aload_n (pc := 417) h 0 dL_law_417 rfl ?_
  refine V_iload (pc := 418) h 4 dL_law_418 rfl ?_
  refine V_iconst (pc := 420) h dL_law_420 ic_5 ?_
  refine V_iadd (pc := 421) h dL_law_421 ?_
  refine V_sld (pc := 422) h hX hbl hbA (inx (t := 5) hi hL (by omega)) dL_law_422 ?_
  refine V_aload_n (pc := 423) h 0 dL_law_423 rfl ?_
  refine V_iload (pc := 424) h 4 dL_law_424 rfl ?_
  refine V_bipush (pc := 426) h (v := 6) dL_law_426 (by decide) ?_
  refine V_iadd (pc := 428) h dL_law_428 ?_
  refine V_sld (pc := 429) h hX hbl hbA (inx (t := 6) hi hL (by omega)) dL_law_429 ?_
  refine V_ws _ wl_1 ?_
  refine V_mid (pre := [outc (gK G) out o0] ++ wx2) (mid := wm) (post := []) (pc := 430) h _ cM mf_M_alters lk_RL_40 im_M_alters se_M_alters ⟨Nat.le_of_ble_eq_true rfl, Nat.le_of_ble_eq_true rfl⟩ hkn (by rw [List.length_append, n3, n2]; rfl) (f4.trans f2.symm) g2 rfl rfl rfl (Nat.le_of_ble_eq_true rfl) [.int r, .int r] rfl dL_law_430 ?_
  refine V_ws _ wl_2 ?_
  exact V_icmp_eq (pc := 433) h 1412 dL_law_433 (by decide) (fun _ => z wx2 wm2 hr2) (fun hn => absurd rfl hn)
set_option maxRecDepth 4000 in
theorem lc_takes {G : Gm} {b L : Nat} {xs : Nat → Int32} (O : LawOk G b L xs) {a a2 : Nat → Nat} {out : Nat} {o0 : Nat → Int64} {k n : Nat} (hkn : k ≤ room_1.cells ∧ n ≤ room_1.slots) {i : Nat} (hi : i + 7 ≤ L) {wx wm : va_W} (hr : Rel (gK G) a a2 wx wm) (z : ∀ wx2 wm2, Rel (gK G) a a2 wx2 wm2 → V G k n (wsL G out o0 wx2 wm2) 1412 (lvL b (a 0) (a2 0) out i) []) : V G k n (wsL G out o0 wx wm) 438 (lvL b (a 0) (a2 0) out i) [] := by
  obtain ⟨h, hX, hbl, hbA, hL, -, -, -⟩ := O
  obtain ⟨f1, ⟨fs1, g1⟩, f2, ⟨fs2, g2⟩⟩ := Rel_at hr
  have n1 : wx.length = 68 := by simpa using congrArg List.length f1
  have n2 : wm.length = 30 := by simpa using congrArg List.length f2
  by_cases hy : (xs (zI (i : Int) + 2).toNatClampNeg) = (0 : Int32)
  · skip
    obtain ⟨r, wx2, wm2, cX, cM, hr2⟩ := k_takes (F := 301) (by decide) hr (xs (zI (i : Int) + 1).toNatClampNeg) (0 : Int32) (Or.inl rfl)
    obtain ⟨f3, -, f4, -⟩ := Rel_at hr2
    have n3 : wx2.length = 68 := by simpa using congrArg List.length f3
    refine V_aload_n (pc := 438) h 1 dL_law_438 rfl ?_
    refine V_aload_n (pc := 439) h 0 dL_law_439 rfl ?_
    refine V_iload (pc := 440) h 4 dL_law_440 rfl ?_
    refine V_iconst (pc := 442) h dL_law_442 ic_1 ?_
    refine V_iadd (pc := 443) h dL_law_443 ?_
    refine V_sld (pc := 444) h hX hbl hbA (inx (t := 1) hi hL (by omega)) dL_law_444 ?_
    refine V_aload_n (pc := 445) h 0 dL_law_445 rfl ?_
    refine V_iload (pc := 446) h 4 dL_law_446 rfl ?_
    refine V_iconst (pc := 448) h dL_law_448 ic_2 ?_
    refine V_iadd (pc := 449) h dL_law_449 ?_
    refine V_sld (pc := 450) h hX hbl hbA (inx (t := 2) hi hL (by omega)) dL_law_450 ?_
    refine V_if_eq (pc := 451) h 458 dL_law_451 (by decide) (fun _ => ?_) (fun hn => absurd hy hn)
    refine V_iconst (pc := 458) h dL_law_458 ic_0 ?_
    refine V_mid (pre := [outc (gK G) out o0]) (mid := wx) (post := wm) (pc := 459) h _ cX mf_X_takes lk_RL_41 im_X_takes se_X_takes ⟨Nat.le_of_ble_eq_true rfl, Nat.le_of_ble_eq_true rfl⟩ hkn (by rw [n1]; rfl) (f3.trans f1.symm) g1 rfl rfl rfl (Nat.le_of_ble_eq_true rfl) [.int r] rfl dL_law_459 ?_
    refine V_aload_n (pc := 462) h 2 dL_law_462 rfl ?_
    refine V_aload_n (pc := 463) h 0 dL_law_463 rfl ?_
    refine V_iload (pc := 464) h 4 dL_law_464 rfl ?_
    refine V_iconst (pc := 466) h dL_law_466 ic_1 ?_
    refine V_iadd (pc := 467) h dL_law_467 ?_
    refine V_sld (pc := 468) h hX hbl hbA (inx (t := 1) hi hL (by omega)) dL_law_468 ?_
    refine V_aload_n (pc := 469) h 0 dL_law_469 rfl ?_
    refine V_iload (pc := 470) h 4 dL_law_470 rfl ?_
    refine V_iconst (pc := 472) h dL_law_472 ic_2 ?_
    refine V_iadd (pc := 473) h dL_law_473 ?_
    refine V_sld (pc := 474) h hX hbl hbA (inx (t := 2) hi hL (by omega)) dL_law_474 ?_
    refine V_if_eq (pc := 475) h 482 dL_law_475 (by decide) (fun _ => ?_) (fun hn => absurd hy hn)
    refine V_iconst (pc := 482) h dL_law_482 ic_0 ?_
    refine V_ws _ wl_1 ?_
    refine V_mid (pre := [outc (gK G) out o0] ++ wx2) (mid := wm) (post := []) (pc := 483) h _ cM mf_M_takes lk_RL_45 im_M_takes se_M_takes ⟨Nat.le_of_ble_eq_true rfl, Nat.le_of_ble_eq_true rfl⟩ hkn (by rw [List.length_append, n3, n2]; rfl) (f4.trans f2.symm) g2 rfl rfl rfl (Nat.le_of_ble_eq_true rfl) [.int r, .int r] rfl dL_law_483 ?_
    refine V_ws _ wl_2 ?_
    exact V_icmp_eq (pc := 486) h 1412 dL_law_486 (by decide) (fun _ => z wx2 wm2 hr2) (fun hn => absurd rfl hn)
  · skip
    obtain ⟨r, wx2, wm2, cX, cM, hr2⟩ := k_takes (F := 301) (by decide) hr (xs (zI (i : Int) + 1).toNatClampNeg) (1 : Int32) (Or.inr rfl)
    obtain ⟨f3, -, f4, -⟩ := Rel_at hr2
    have n3 : wx2.length = 68 := by simpa using congrArg List.length f3
    refine V_aload_n (pc := 438) h 1 dL_law_438 rfl ?_
    refine V_aload_n (pc := 439) h 0 dL_law_439 rfl ?_
    refine V_iload (pc := 440) h 4 dL_law_440 rfl ?_
    refine V_iconst (pc := 442) h dL_law_442 ic_1 ?_
    refine V_iadd (pc := 443) h dL_law_443 ?_
    refine V_sld (pc := 444) h hX hbl hbA (inx (t := 1) hi hL (by omega)) dL_law_444 ?_
    refine V_aload_n (pc := 445) h 0 dL_law_445 rfl ?_
    refine V_iload (pc := 446) h 4 dL_law_446 rfl ?_
    refine V_iconst (pc := 448) h dL_law_448 ic_2 ?_
    refine V_iadd (pc := 449) h dL_law_449 ?_
    refine V_sld (pc := 450) h hX hbl hbA (inx (t := 2) hi hL (by omega)) dL_law_450 ?_
    refine V_if_eq (pc := 451) h 458 dL_law_451 (by decide) (fun hn => absurd hn hy) (fun _ => ?_)
    refine V_iconst (pc := 454) h dL_law_454 ic_1 ?_
    refine V_goto (pc := 455) (tgt := 459) h dL_law_455 (by decide) ?_
    refine V_mid (pre := [outc (gK G) out o0]) (mid := wx) (post := wm) (pc := 459) h _ cX mf_X_takes lk_RL_41 im_X_takes se_X_takes ⟨Nat.le_of_ble_eq_true rfl, Nat.le_of_ble_eq_true rfl⟩ hkn (by rw [n1]; rfl) (f3.trans f1.symm) g1 rfl rfl rfl (Nat.le_of_ble_eq_true rfl) [.int r] rfl dL_law_459 ?_
    refine V_aload_n (pc := 462) h 2 dL_law_462 rfl ?_
    refine V_aload_n (pc := 463) h 0 dL_law_463 rfl ?_
    refine V_iload (pc := 464) h 4 dL_law_464 rfl ?_
    refine V_iconst (pc := 466) h dL_law_466 ic_1 ?_
    refine V_iadd (pc := 467) h dL_law_467 ?_
    refine V_sld (pc := 468) h hX hbl hbA (inx (t := 1) hi hL (by omega)) dL_law_468 ?_
    refine V_aload_n (pc := 469) h 0 dL_law_469 rfl ?_
    refine V_iload (pc := 470) h 4 dL_law_470 rfl ?_
    refine V_iconst (pc := 472) h dL_law_472 ic_2 ?_
    refine V_iadd (pc := 473) h dL_law_473 ?_
    refine V_sld (pc := 474) h hX hbl hbA (inx (t := 2) hi hL (by omega)) dL_law_474 ?_
    refine V_if_eq (pc := 475) h 482 dL_law_475 (by decide) (fun hn => absurd hn hy) (fun _ => ?_)
    refine V_iconst (pc := 478) h dL_law_478 ic_1 ?_
    refine V_goto (pc := 479) (tgt := 483) h dL_law_479 (by decide) ?_
    refine V_ws _ wl_1 ?_
    refine V_mid (pre := [outc (gK G) out o0] ++ wx2) (mid := wm) (post := []) (pc := 483) h _ cM mf_M_takes lk_RL_45 im_M_takes se_M_takes ⟨Nat.le_of_ble_eq_true rfl, Nat.le_of_ble_eq_true rfl⟩ hkn (by rw [List.length_append, n3, n2]; rfl) (f4.trans f2.symm) g2 rfl rfl rfl (Nat.le_of_ble_eq_true rfl) [.int r, .int r] rfl dL_law_483 ?_
    refine V_ws _ wl_2 ?_
    exact V_icmp_eq (pc := 486) h 1412 dL_law_486 (by decide) (fun _ => z wx2 wm2 hr2) (fun hn => absurd rfl hn)
set_option maxRecDepth 4000 in
theorem lc_swaps {G : Gm} {b L : Nat} {xs : Nat → Int32} (O : LawOk G b L xs) {a a2 : Nat → Nat} {out : Nat} {o0 : Nat → Int64} {k n : Nat} (hkn : k ≤ room_1.cells ∧ n ≤ room_1.slots) {i : Nat} (hi : i + 7 ≤ L) {wx wm : va_W} (hr : Rel (gK G) a a2 wx wm) (z : ∀ wx2 wm2, Rel (gK G) a a2 wx2 wm2 → V G k n (wsL G out o0 wx2 wm2) 1412 (lvL b (a 0) (a2 0) out i) []) : V G k n (wsL G out o0 wx wm) 491 (lvL b (a 0) (a2 0) out i) [] := by
  obtain ⟨h, hX, hbl, hbA, hL, -, -, -⟩ := O
  obtain ⟨f1, ⟨fs1, g1⟩, f2, ⟨fs2, g2⟩⟩ := Rel_at hr
  have n1 : wx.length = 68 := by simpa using congrArg List.length f1
  have n2 : wm.length = 30 := by simpa using congrArg List.length f2
  obtain ⟨r, wx2, wm2, cX, cM, hr2⟩ := k_swaps (F := 301) (by decide) hr (xs (zI (i : Int) + 1).toNatClampNeg) (xs (zI (i : Int) + 2).toNatClampNeg)
  obtain ⟨f3, -, f4, -⟩ := Rel_at hr2
  have n3 : wx2.length = 68 := by simpa using congrArg List.length f3
  refine V_aload_n (pc := 491) h 1 dL_law_491 rfl ?_
  refine V_aload_n (pc := 492) h 0 dL_law_492 rfl ?_
  refine V_iload (pc := 493) h 4 dL_law_493 rfl ?_
  refine V_iconst (pc := 495) h dL_law_495 ic_1 ?_
  refine V_iadd (pc := 496) h dL_law_496 ?_
  refine V_sld (pc := 497) h hX hbl hbA (inx (t := 1) hi hL (by omega)) dL_law_497 ?_
  refine V_aload_n (pc := 498) h 0 dL_law_498 rfl ?_
  refine V_iload (pc := 499) h 4 dL_law_499 rfl ?_
  refine V_iconst (pc := 501) h dL_law_501 ic_2 ?_
  refine V_iadd (pc := 502) h dL_law_502 ?_
  refine V_sld (pc := 503) h hX hbl hbA (inx (t := 2) hi hL (by omega)) dL_law_503 ?_
  refine V_mid (pre := [outc (gK G) out o0]) (mid := wx) (post := wm) (pc := 504) h _ cX mf_X_swaps lk_RL_46 im_X_swaps se_X_swaps ⟨Nat.le_of_ble_eq_true rfl, Nat.le_of_ble_eq_true rfl⟩ hkn (by rw [n1]; rfl) (f3.trans f1.symm) g1 rfl rfl rfl (Nat.le_of_ble_eq_true rfl) [.int r] rfl dL_law_504 ?_
  refine V_aload_n (pc := 507) h 2 dL_law_507 rfl ?_
  refine V_aload_n (pc := 508) h 0 dL_law_508 rfl ?_
  refine V_iload (pc := 509) h 4 dL_law_509 rfl ?_
  refine V_iconst (pc := 511) h dL_law_511 ic_1 ?_
  refine V_iadd (pc := 512) h dL_law_512 ?_
  refine V_sld (pc := 513) h hX hbl hbA (inx (t := 1) hi hL (by omega)) dL_law_513 ?_
  refine V_aload_n (pc := 514) h 0 dL_law_514 rfl ?_
  refine V_iload (pc := 515) h 4 dL_law_515 rfl ?_
  refine V_iconst (pc := 517) h dL_law_517 ic_2 ?_
  refine V_iadd (pc := 518) h dL_law_518 ?_
  refine V_sld (pc := 519) h hX hbl hbA (inx (t := 2) hi hL (by omega)) dL_law_519 ?_
  refine V_ws _ wl_1 ?_
  refine V_mid (pre := [outc (gK G) out o0] ++ wx2) (mid := wm) (post := []) (pc := 520) h _ cM mf_M_swaps lk_RL_50 im_M_swaps se_M_swaps ⟨Nat.le_of_ble_eq_true rfl, Nat.le_of_ble_eq_true rfl⟩ hkn (by rw [List.length_append, n3, n2]; rfl) (f4.trans f2.symm) g2 rfl rfl rfl (Nat.le_of_ble_eq_true rfl) [.int r, .int r] rfl dL_law_520 ?_
  refine V_ws _ wl_2 ?_
  exact V_icmp_eq (pc := 523) h 1412 dL_law_523 (by decide) (fun _ => z wx2 wm2 hr2) (fun hn => absurd rfl hn)
set_option maxRecDepth 4000 in
theorem lc_clears {G : Gm} {b L : Nat} {xs : Nat → Int32} (O : LawOk G b L xs) {a a2 : Nat → Nat} {out : Nat} {o0 : Nat → Int64} {k n : Nat} (hkn : k ≤ room_1.cells ∧ n ≤ room_1.slots) {i : Nat} (hi : i + 7 ≤ L) {wx wm : va_W} (hr : Rel (gK G) a a2 wx wm) (z : ∀ wx2 wm2, Rel (gK G) a a2 wx2 wm2 → V G k n (wsL G out o0 wx2 wm2) 1412 (lvL b (a 0) (a2 0) out i) []) : V G k n (wsL G out o0 wx wm) 528 (lvL b (a 0) (a2 0) out i) [] := by
  obtain ⟨h, hX, hbl, hbA, hL, -, -, -⟩ := O
  obtain ⟨f1, ⟨fs1, g1⟩, f2, ⟨fs2, g2⟩⟩ := Rel_at hr
  have n1 : wx.length = 68 := by simpa using congrArg List.length f1
  have n2 : wm.length = 30 := by simpa using congrArg List.length f2
  obtain ⟨r, wx2, wm2, cX, cM, hr2⟩ := k_clears (F := 301) (by decide) hr 
  obtain ⟨f3, -, f4, -⟩ := Rel_at hr2
  have n3 : wx2.length = 68 := by simpa using congrArg List.length f3
  refine V_aload_n (pc := 528) h 1 dL_law_528 rfl ?_
  refine V_mid (pre := [outc (gK G) out o0]) (mid := wx) (post := wm) (pc := 529) h _ cX mf_X_clears lk_RL_51 im_X_clears se_X_clears ⟨Nat.le_of_ble_eq_true rfl, Nat.le_of_ble_eq_true rfl⟩ hkn (by rw [n1]; rfl) (f3.trans f1.symm) g1 rfl rfl rfl (Nat.le_of_ble_eq_true rfl) [.int r] rfl dL_law_529 ?_
  refine V_aload_n (pc := 532) h 2 dL_law_532 rfl ?_
  refine V_ws _ wl_1 ?_
  refine V_mid (pre := [outc (gK G) out o0] ++ wx2) (mid := wm) (post := []) (pc := 533) h _ cM mf_M_clears lk_RL_55 im_M_clears se_M_clears ⟨Nat.le_of_ble_eq_true rfl, Nat.le_of_ble_eq_true rfl⟩ hkn (by rw [List.length_append, n3, n2]; rfl) (f4.trans f2.symm) g2 rfl rfl rfl (Nat.le_of_ble_eq_true rfl) [.int r, .int r] rfl dL_law_533 ?_
  refine V_ws _ wl_2 ?_
  exact V_icmp_eq (pc := 536) h 1412 dL_law_536 (by decide) (fun _ => z wx2 wm2 hr2) (fun hn => absurd rfl hn)
set_option maxRecDepth 4000 in
theorem lc_sign {G : Gm} {b L : Nat} {xs : Nat → Int32} (O : LawOk G b L xs) {a a2 : Nat → Nat} {out : Nat} {o0 : Nat → Int64} {k n : Nat} (hkn : k ≤ room_1.cells ∧ n ≤ room_1.slots) {i : Nat} (hi : i + 7 ≤ L) {wx wm : va_W} (hr : Rel (gK G) a a2 wx wm) (z : ∀ wx2 wm2, Rel (gK G) a a2 wx2 wm2 → V G k n (wsL G out o0 wx2 wm2) 1412 (lvL b (a 0) (a2 0) out i) []) : V G k n (wsL G out o0 wx wm) 541 (lvL b (a 0) (a2 0) out i) [] := by
  obtain ⟨h, hX, hbl, hbA, hL, -, -, -⟩ := O
  obtain ⟨f1, ⟨fs1, g1⟩, f2, ⟨fs2, g2⟩⟩ := Rel_at hr
  have n1 : wx.length = 68 := by simpa using congrArg List.length f1
  have n2 : wm.length = 30 := by simpa using congrArg List.length f2
  obtain ⟨r, wx2, wm2, cX, cM, hr2⟩ := k_sign (F := 301) (by decide) hr (xs (zI (i : Int) + 1).toNatClampNeg)
  obtain ⟨f3, -, f4, -⟩ := Rel_at hr2
  have n3 : wx2.length = 68 := by simpa using congrArg List.length f3
  refine V_aload_n (pc := 541) h 1 dL_law_541 rfl ?_
  refine V_aload_n (pc := 542) h 0 dL_law_542 rfl ?_
  refine V_iload (pc := 543) h 4 dL_law_543 rfl ?_
  refine V_iconst (pc := 545) h dL_law_545 ic_1 ?_
  refine V_iadd (pc := 546) h dL_law_546 ?_
  refine V_sld (pc := 547) h hX hbl hbA (inx (t := 1) hi hL (by omega)) dL_law_547 ?_
  refine V_mid (pre := [outc (gK G) out o0]) (mid := wx) (post := wm) (pc := 548) h _ cX mf_X_sign lk_RL_56 im_X_sign se_X_sign ⟨Nat.le_of_ble_eq_true rfl, Nat.le_of_ble_eq_true rfl⟩ hkn (by rw [n1]; rfl) (f3.trans f1.symm) g1 rfl rfl rfl (Nat.le_of_ble_eq_true rfl) [.int r] rfl dL_law_548 ?_
  refine V_aload_n (pc := 551) h 2 dL_law_551 rfl ?_
  refine V_aload_n (pc := 552) h 0 dL_law_552 rfl ?_
  refine V_iload (pc := 553) h 4 dL_law_553 rfl ?_
  refine V_iconst (pc := 555) h dL_law_555 ic_1 ?_
  refine V_iadd (pc := 556) h dL_law_556 ?_
  refine V_sld (pc := 557) h hX hbl hbA (inx (t := 1) hi hL (by omega)) dL_law_557 ?_
  refine V_ws _ wl_1 ?_
  refine V_mid (pre := [outc (gK G) out o0] ++ wx2) (mid := wm) (post := []) (pc := 558) h _ cM mf_M_sign lk_RL_60 im_M_sign se_M_sign ⟨Nat.le_of_ble_eq_true rfl, Nat.le_of_ble_eq_true rfl⟩ hkn (by rw [List.length_append, n3, n2]; rfl) (f4.trans f2.symm) g2 rfl rfl rfl (Nat.le_of_ble_eq_true rfl) [.int r, .int r] rfl dL_law_558 ?_
  refine V_ws _ wl_2 ?_
  exact V_icmp_eq (pc := 561) h 1412 dL_law_561 (by decide) (fun _ => z wx2 wm2 hr2) (fun hn => absurd rfl hn)
set_option maxRecDepth 4000 in
theorem lc_end {G : Gm} {b L : Nat} {xs : Nat → Int32} (O : LawOk G b L xs) {a a2 : Nat → Nat} {out : Nat} {o0 : Nat → Int64} {k n : Nat} (hkn : k ≤ room_1.cells ∧ n ≤ room_1.slots) {i : Nat} (hi : i + 7 ≤ L) {wx wm : va_W} (hr : Rel (gK G) a a2 wx wm) (z : ∀ wx2 wm2, Rel (gK G) a a2 wx2 wm2 → V G k n (wsL G out o0 wx2 wm2) 1412 (lvL b (a 0) (a2 0) out i) []) : V G k n (wsL G out o0 wx wm) 566 (lvL b (a 0) (a2 0) out i) [] := by
  obtain ⟨h, hX, hbl, hbA, hL, -, -, -⟩ := O
  obtain ⟨f1, ⟨fs1, g1⟩, f2, ⟨fs2, g2⟩⟩ := Rel_at hr
  have n1 : wx.length = 68 := by simpa using congrArg List.length f1
  have n2 : wm.length = 30 := by simpa using congrArg List.length f2
  obtain ⟨r, wx2, wm2, cX, cM, hr2⟩ := k_end (F := 301) (by decide) hr (xs (zI (i : Int) + 1).toNatClampNeg)
  obtain ⟨f3, -, f4, -⟩ := Rel_at hr2
  have n3 : wx2.length = 68 := by simpa using congrArg List.length f3
  refine V_aload_n (pc := 566) h 1 dL_law_566 rfl ?_
  refine V_aload_n (pc := 567) h 0 dL_law_567 rfl ?_
  refine V_iload (pc := 568) h 4 dL_law_568 rfl ?_
  refine V_iconst (pc := 570) h dL_law_570 ic_1 ?_
  refine V_iadd (pc := 571) h dL_law_571 ?_
  refine V_sld (pc := 572) h hX hbl hbA (inx (t := 1) hi hL (by omega)) dL_law_572 ?_
  refine V_mid (pre := [outc (gK G) out o0]) (mid := wx) (post := wm) (pc := 573) h _ cX mf_X_end lk_RL_61 im_X_end se_X_end ⟨Nat.le_of_ble_eq_true rfl, Nat.le_of_ble_eq_true rfl⟩ hkn (by rw [n1]; rfl) (f3.trans f1.symm) g1 rfl rfl rfl (Nat.le_of_ble_eq_true rfl) [.int r] rfl dL_law_573 ?_
  refine V_aload_n (pc := 576) h 2 dL_law_576 rfl ?_
  refine V_aload_n (pc := 577) h 0 dL_law_577 rfl ?_
  refine V_iload (pc := 578) h 4 dL_law_578 rfl ?_
  refine V_iconst (pc := 580) h dL_law_580 ic_1 ?_
  refine V_iadd (pc := 581) h dL_law_581 ?_
  refine V_sld (pc := 582) h hX hbl hbA (inx (t := 1) hi hL (by omega)) dL_law_582 ?_
  refine V_ws _ wl_1 ?_
  refine V_mid (pre := [outc (gK G) out o0] ++ wx2) (mid := wm) (post := []) (pc := 583) h _ cM mf_M_end lk_RL_65 im_M_end se_M_end ⟨Nat.le_of_ble_eq_true rfl, Nat.le_of_ble_eq_true rfl⟩ hkn (by rw [List.length_append, n3, n2]; rfl) (f4.trans f2.symm) g2 rfl rfl rfl (Nat.le_of_ble_eq_true rfl) [.int r, .int r] rfl dL_law_583 ?_
  refine V_ws _ wl_2 ?_
  exact V_icmp_eq (pc := 586) h 1412 dL_law_586 (by decide) (fun _ => z wx2 wm2 hr2) (fun hn => absurd rfl hn)
set_option maxRecDepth 4000 in
theorem lc_joint {G : Gm} {b L : Nat} {xs : Nat → Int32} (O : LawOk G b L xs) {a a2 : Nat → Nat} {out : Nat} {o0 : Nat → Int64} {k n : Nat} (hkn : k ≤ room_1.cells ∧ n ≤ room_1.slots) {i : Nat} (hi : i + 7 ≤ L) {wx wm : va_W} (hr : Rel (gK G) a a2 wx wm) (z : ∀ wx2 wm2, Rel (gK G) a a2 wx2 wm2 → V G k n (wsL G out o0 wx2 wm2) 1412 (lvL b (a 0) (a2 0) out i) []) : V G k n (wsL G out o0 wx wm) 591 (lvL b (a 0) (a2 0) out i) [] := by
  obtain ⟨h, hX, hbl, hbA, hL, -, -, -⟩ := O
  obtain ⟨f1, ⟨fs1, g1⟩, f2, ⟨fs2, g2⟩⟩ := Rel_at hr
  have n1 : wx.length = 68 := by simpa using congrArg List.length f1
  have n2 : wm.length = 30 := by simpa using congrArg List.length f2
  obtain ⟨r, wx2, wm2, cX, cM, hr2⟩ := k_joint (F := 301) (by decide) hr 
  obtain ⟨f3, -, f4, -⟩ := Rel_at hr2
  have n3 : wx2.length = 68 := by simpa using congrArg List.length f3
  refine V_aload_n (pc := 591) h 1 dL_law_591 rfl ?_
  refine V_mid (pre := [outc (gK G) out o0]) (mid := wx) (post := wm) (pc := 592) h _ cX mf_X_joint lk_RL_66 im_X_joint se_X_joint ⟨Nat.le_of_ble_eq_true rfl, Nat.le_of_ble_eq_true rfl⟩ hkn (by rw [n1]; rfl) (f3.trans f1.symm) g1 rfl rfl rfl (Nat.le_of_ble_eq_true rfl) [.int r] rfl dL_law_592 ?_
  refine V_aload_n (pc := 595) h 2 dL_law_595 rfl ?_
  refine V_ws _ wl_1 ?_
  refine V_mid (pre := [outc (gK G) out o0] ++ wx2) (mid := wm) (post := []) (pc := 596) h _ cM mf_M_joint lk_RL_69 im_M_joint se_M_joint ⟨Nat.le_of_ble_eq_true rfl, Nat.le_of_ble_eq_true rfl⟩ hkn (by rw [List.length_append, n3, n2]; rfl) (f4.trans f2.symm) g2 rfl rfl rfl (Nat.le_of_ble_eq_true rfl) [.int r, .int r] rfl dL_law_596 ?_
  refine V_ws _ wl_2 ?_
  exact V_icmp_eq (pc := 599) h 1412 dL_law_599 (by decide) (fun _ => z wx2 wm2 hr2) (fun hn => absurd rfl hn)
set_option maxRecDepth 4000 in
theorem lc_force {G : Gm} {b L : Nat} {xs : Nat → Int32} (O : LawOk G b L xs) {a a2 : Nat → Nat} {out : Nat} {o0 : Nat → Int64} {k n : Nat} (hkn : k ≤ room_1.cells ∧ n ≤ room_1.slots) {i : Nat} (hi : i + 7 ≤ L) {wx wm : va_W} (hr : Rel (gK G) a a2 wx wm) (z : ∀ wx2 wm2, Rel (gK G) a a2 wx2 wm2 → V G k n (wsL G out o0 wx2 wm2) 1412 (lvL b (a 0) (a2 0) out i) []) : V G k n (wsL G out o0 wx wm) 672 (lvL b (a 0) (a2 0) out i) [] := by
  obtain ⟨h, hX, hbl, hbA, hL, -, -, -⟩ := O
  obtain ⟨f1, ⟨fs1, g1⟩, f2, ⟨fs2, g2⟩⟩ := Rel_at hr
  have n1 : wx.length = 68 := by simpa using congrArg List.length f1
  have n2 : wm.length = 30 := by simpa using congrArg List.length f2
  obtain ⟨r, wx2, wm2, cX, cM, hr2⟩ := k_force (F := 301) (by decide) hr (xs (zI (i : Int) + 1).toNatClampNeg) (xs (zI (i : Int) + 2).toNatClampNeg)
  obtain ⟨f3, -, f4, -⟩ := Rel_at hr2
  have n3 : wx2.length = 68 := by simpa using congrArg List.length f3
  refine V_aload_n (pc := 672) h 1 dL_law_672 rfl ?_
  refine V_aload_n (pc := 673) h 0 dL_law_673 rfl ?_
  refine V_iload (pc := 674) h 4 dL_law_674 rfl ?_
  refine V_iconst (pc := 676) h dL_law_676 ic_1 ?_
  refine V_iadd (pc := 677) h dL_law_677 ?_
  refine V_sld (pc := 678) h hX hbl hbA (inx (t := 1) hi hL (by omega)) dL_law_678 ?_
  refine V_aload_n (pc := 679) h 0 dL_law_679 rfl ?_
  refine V_iload (pc := 680) h 4 dL_law_680 rfl ?_
  refine V_iconst (pc := 682) h dL_law_682 ic_2 ?_
  refine V_iadd (pc := 683) h dL_law_683 ?_
  refine V_sld (pc := 684) h hX hbl hbA (inx (t := 2) hi hL (by omega)) dL_law_684 ?_
  refine V_mid (pre := [outc (gK G) out o0]) (mid := wx) (post := wm) (pc := 685) h _ cX mf_X_force lk_RL_79 im_X_force se_X_force ⟨Nat.le_of_ble_eq_true rfl, Nat.le_of_ble_eq_true rfl⟩ hkn (by rw [n1]; rfl) (f3.trans f1.symm) g1 rfl rfl rfl (Nat.le_of_ble_eq_true rfl) [.int r] rfl dL_law_685 ?_
  refine V_aload_n (pc := 688) h 2 dL_law_688 rfl ?_
  refine V_aload_n (pc := 689) h 0 dL_law_689 rfl ?_
  refine V_iload (pc := 690) h 4 dL_law_690 rfl ?_
  refine V_iconst (pc := 692) h dL_law_692 ic_1 ?_
  refine V_iadd (pc := 693) h dL_law_693 ?_
  refine V_sld (pc := 694) h hX hbl hbA (inx (t := 1) hi hL (by omega)) dL_law_694 ?_
  refine V_aload_n (pc := 695) h 0 dL_law_695 rfl ?_
  refine V_iload (pc := 696) h 4 dL_law_696 rfl ?_
  refine V_iconst (pc := 698) h dL_law_698 ic_2 ?_
  refine V_iadd (pc := 699) h dL_law_699 ?_
  refine V_sld (pc := 700) h hX hbl hbA (inx (t := 2) hi hL (by omega)) dL_law_700 ?_
  refine V_ws _ wl_1 ?_
  refine V_mid (pre := [outc (gK G) out o0] ++ wx2) (mid := wm) (post := []) (pc := 701) h _ cM mf_M_force lk_RL_82 im_M_force se_M_force ⟨Nat.le_of_ble_eq_true rfl, Nat.le_of_ble_eq_true rfl⟩ hkn (by rw [List.length_append, n3, n2]; rfl) (f4.trans f2.symm) g2 rfl rfl rfl (Nat.le_of_ble_eq_true rfl) [.int r, .int r] rfl dL_law_701 ?_
  refine V_ws _ wl_2 ?_
  exact V_icmp_eq (pc := 704) h 1412 dL_law_704 (by decide) (fun _ => z wx2 wm2 hr2) (fun hn => absurd rfl hn)
set_option maxRecDepth 4000 in
theorem lc_slip {G : Gm} {b L : Nat} {xs : Nat → Int32} (O : LawOk G b L xs) {a a2 : Nat → Nat} {out : Nat} {o0 : Nat → Int64} {k n : Nat} (hkn : k ≤ room_1.cells ∧ n ≤ room_1.slots) {i : Nat} (hi : i + 7 ≤ L) {wx wm : va_W} (hr : Rel (gK G) a a2 wx wm) (z : ∀ wx2 wm2, Rel (gK G) a a2 wx2 wm2 → V G k n (wsL G out o0 wx2 wm2) 1412 (lvL b (a 0) (a2 0) out i) []) : V G k n (wsL G out o0 wx wm) 709 (lvL b (a 0) (a2 0) out i) [] := by
  obtain ⟨h, hX, hbl, hbA, hL, -, -, -⟩ := O
  obtain ⟨f1, ⟨fs1, g1⟩, f2, ⟨fs2, g2⟩⟩ := Rel_at hr
  have n1 : wx.length = 68 := by simpa using congrArg List.length f1
  have n2 : wm.length = 30 := by simpa using congrArg List.length f2
  obtain ⟨r, wx2, wm2, cX, cM, hr2⟩ := k_slip (F := 301) (by decide) hr (xs (zI (i : Int) + 1).toNatClampNeg) (xs (zI (i : Int) + 2).toNatClampNeg)
  obtain ⟨f3, -, f4, -⟩ := Rel_at hr2
  have n3 : wx2.length = 68 := by simpa using congrArg List.length f3
  refine V_aload_n (pc := 709) h 1 dL_law_709 rfl ?_
  refine V_aload_n (pc := 710) h 0 dL_law_710 rfl ?_
  refine V_iload (pc := 711) h 4 dL_law_711 rfl ?_
  refine V_iconst (pc := 713) h dL_law_713 ic_1 ?_
  refine V_iadd (pc := 714) h dL_law_714 ?_
  refine V_sld (pc := 715) h hX hbl hbA (inx (t := 1) hi hL (by omega)) dL_law_715 ?_
  refine V_aload_n (pc := 716) h 0 dL_law_716 rfl ?_
  refine V_iload (pc := 717) h 4 dL_law_717 rfl ?_
  refine V_iconst (pc := 719) h dL_law_719 ic_2 ?_
  refine V_iadd (pc := 720) h dL_law_720 ?_
  refine V_sld (pc := 721) h hX hbl hbA (inx (t := 2) hi hL (by omega)) dL_law_721 ?_
  refine V_mid (pre := [outc (gK G) out o0]) (mid := wx) (post := wm) (pc := 722) h _ cX mf_X_slip lk_RL_83 im_X_slip se_X_slip ⟨Nat.le_of_ble_eq_true rfl, Nat.le_of_ble_eq_true rfl⟩ hkn (by rw [n1]; rfl) (f3.trans f1.symm) g1 rfl rfl rfl (Nat.le_of_ble_eq_true rfl) [.int r] rfl dL_law_722 ?_
  refine V_aload_n (pc := 725) h 2 dL_law_725 rfl ?_
  refine V_aload_n (pc := 726) h 0 dL_law_726 rfl ?_
  refine V_iload (pc := 727) h 4 dL_law_727 rfl ?_
  refine V_iconst (pc := 729) h dL_law_729 ic_1 ?_
  refine V_iadd (pc := 730) h dL_law_730 ?_
  refine V_sld (pc := 731) h hX hbl hbA (inx (t := 1) hi hL (by omega)) dL_law_731 ?_
  refine V_aload_n (pc := 732) h 0 dL_law_732 rfl ?_
  refine V_iload (pc := 733) h 4 dL_law_733 rfl ?_
  refine V_iconst (pc := 735) h dL_law_735 ic_2 ?_
  refine V_iadd (pc := 736) h dL_law_736 ?_
  refine V_sld (pc := 737) h hX hbl hbA (inx (t := 2) hi hL (by omega)) dL_law_737 ?_
  refine V_ws _ wl_1 ?_
  refine V_mid (pre := [outc (gK G) out o0] ++ wx2) (mid := wm) (post := []) (pc := 738) h _ cM mf_M_slip lk_RL_86 im_M_slip se_M_slip ⟨Nat.le_of_ble_eq_true rfl, Nat.le_of_ble_eq_true rfl⟩ hkn (by rw [List.length_append, n3, n2]; rfl) (f4.trans f2.symm) g2 rfl rfl rfl (Nat.le_of_ble_eq_true rfl) [.int r, .int r] rfl dL_law_738 ?_
  refine V_ws _ wl_2 ?_
  exact V_icmp_eq (pc := 741) h 1412 dL_law_741 (by decide) (fun _ => z wx2 wm2 hr2) (fun hn => absurd rfl hn)
set_option maxRecDepth 4000 in
theorem lc_bears {G : Gm} {b L : Nat} {xs : Nat → Int32} (O : LawOk G b L xs) {a a2 : Nat → Nat} {out : Nat} {o0 : Nat → Int64} {k n : Nat} (hkn : k ≤ room_1.cells ∧ n ≤ room_1.slots) {i : Nat} (hi : i + 7 ≤ L) {wx wm : va_W} (hr : Rel (gK G) a a2 wx wm) (z : ∀ wx2 wm2, Rel (gK G) a a2 wx2 wm2 → V G k n (wsL G out o0 wx2 wm2) 1412 (lvL b (a 0) (a2 0) out i) []) : V G k n (wsL G out o0 wx wm) 746 (lvL b (a 0) (a2 0) out i) [] := by
  obtain ⟨h, hX, hbl, hbA, hL, -, -, -⟩ := O
  obtain ⟨f1, ⟨fs1, g1⟩, f2, ⟨fs2, g2⟩⟩ := Rel_at hr
  have n1 : wx.length = 68 := by simpa using congrArg List.length f1
  have n2 : wm.length = 30 := by simpa using congrArg List.length f2
  obtain ⟨r, wx2, wm2, cX, cM, hr2⟩ := k_bears (F := 301) (by decide) hr (xs (zI (i : Int) + 1).toNatClampNeg) (xs (zI (i : Int) + 2).toNatClampNeg)
  obtain ⟨f3, -, f4, -⟩ := Rel_at hr2
  have n3 : wx2.length = 68 := by simpa using congrArg List.length f3
  refine V_aload_n (pc := 746) h 1 dL_law_746 rfl ?_
  refine V_aload_n (pc := 747) h 0 dL_law_747 rfl ?_
  refine V_iload (pc := 748) h 4 dL_law_748 rfl ?_
  refine V_iconst (pc := 750) h dL_law_750 ic_1 ?_
  refine V_iadd (pc := 751) h dL_law_751 ?_
  refine V_sld (pc := 752) h hX hbl hbA (inx (t := 1) hi hL (by omega)) dL_law_752 ?_
  refine V_aload_n (pc := 753) h 0 dL_law_753 rfl ?_
  refine V_iload (pc := 754) h 4 dL_law_754 rfl ?_
  refine V_iconst (pc := 756) h dL_law_756 ic_2 ?_
  refine V_iadd (pc := 757) h dL_law_757 ?_
  refine V_sld (pc := 758) h hX hbl hbA (inx (t := 2) hi hL (by omega)) dL_law_758 ?_
  refine V_mid (pre := [outc (gK G) out o0]) (mid := wx) (post := wm) (pc := 759) h _ cX mf_X_bears lk_RL_87 im_X_bears se_X_bears ⟨Nat.le_of_ble_eq_true rfl, Nat.le_of_ble_eq_true rfl⟩ hkn (by rw [n1]; rfl) (f3.trans f1.symm) g1 rfl rfl rfl (Nat.le_of_ble_eq_true rfl) [.int r] rfl dL_law_759 ?_
  refine V_aload_n (pc := 762) h 2 dL_law_762 rfl ?_
  refine V_aload_n (pc := 763) h 0 dL_law_763 rfl ?_
  refine V_iload (pc := 764) h 4 dL_law_764 rfl ?_
  refine V_iconst (pc := 766) h dL_law_766 ic_1 ?_
  refine V_iadd (pc := 767) h dL_law_767 ?_
  refine V_sld (pc := 768) h hX hbl hbA (inx (t := 1) hi hL (by omega)) dL_law_768 ?_
  refine V_aload_n (pc := 769) h 0 dL_law_769 rfl ?_
  refine V_iload (pc := 770) h 4 dL_law_770 rfl ?_
  refine V_iconst (pc := 772) h dL_law_772 ic_2 ?_
  refine V_iadd (pc := 773) h dL_law_773 ?_
  refine V_sld (pc := 774) h hX hbl hbA (inx (t := 2) hi hL (by omega)) dL_law_774 ?_
  refine V_ws _ wl_1 ?_
  refine V_mid (pre := [outc (gK G) out o0] ++ wx2) (mid := wm) (post := []) (pc := 775) h _ cM mf_M_bears lk_RL_90 im_M_bears se_M_bears ⟨Nat.le_of_ble_eq_true rfl, Nat.le_of_ble_eq_true rfl⟩ hkn (by rw [List.length_append, n3, n2]; rfl) (f4.trans f2.symm) g2 rfl rfl rfl (Nat.le_of_ble_eq_true rfl) [.int r, .int r] rfl dL_law_775 ?_
  refine V_ws _ wl_2 ?_
  exact V_icmp_eq (pc := 778) h 1412 dL_law_778 (by decide) (fun _ => z wx2 wm2 hr2) (fun hn => absurd rfl hn)
set_option maxRecDepth 4000 in
theorem lc_stretch {G : Gm} {b L : Nat} {xs : Nat → Int32} (O : LawOk G b L xs) {a a2 : Nat → Nat} {out : Nat} {o0 : Nat → Int64} {k n : Nat} (hkn : k ≤ room_1.cells ∧ n ≤ room_1.slots) {i : Nat} (hi : i + 7 ≤ L) {wx wm : va_W} (hr : Rel (gK G) a a2 wx wm) (z : ∀ wx2 wm2, Rel (gK G) a a2 wx2 wm2 → V G k n (wsL G out o0 wx2 wm2) 1412 (lvL b (a 0) (a2 0) out i) []) : V G k n (wsL G out o0 wx wm) 783 (lvL b (a 0) (a2 0) out i) [] := by
  obtain ⟨h, hX, hbl, hbA, hL, -, -, -⟩ := O
  obtain ⟨f1, ⟨fs1, g1⟩, f2, ⟨fs2, g2⟩⟩ := Rel_at hr
  have n1 : wx.length = 68 := by simpa using congrArg List.length f1
  have n2 : wm.length = 30 := by simpa using congrArg List.length f2
  obtain ⟨r, wx2, wm2, cX, cM, hr2⟩ := k_stretch (F := 301) (by decide) hr (xs (zI (i : Int) + 1).toNatClampNeg)
  obtain ⟨f3, -, f4, -⟩ := Rel_at hr2
  have n3 : wx2.length = 68 := by simpa using congrArg List.length f3
  refine V_aload_n (pc := 783) h 1 dL_law_783 rfl ?_
  refine V_aload_n (pc := 784) h 0 dL_law_784 rfl ?_
  refine V_iload (pc := 785) h 4 dL_law_785 rfl ?_
  refine V_iconst (pc := 787) h dL_law_787 ic_1 ?_
  refine V_iadd (pc := 788) h dL_law_788 ?_
  refine V_sld (pc := 789) h hX hbl hbA (inx (t := 1) hi hL (by omega)) dL_law_789 ?_
  refine V_mid (pre := [outc (gK G) out o0]) (mid := wx) (post := wm) (pc := 790) h _ cX mf_X_stretch lk_RL_91 im_X_stretch se_X_stretch ⟨Nat.le_of_ble_eq_true rfl, Nat.le_of_ble_eq_true rfl⟩ hkn (by rw [n1]; rfl) (f3.trans f1.symm) g1 rfl rfl rfl (Nat.le_of_ble_eq_true rfl) [.int r] rfl dL_law_790 ?_
  refine V_aload_n (pc := 793) h 2 dL_law_793 rfl ?_
  refine V_aload_n (pc := 794) h 0 dL_law_794 rfl ?_
  refine V_iload (pc := 795) h 4 dL_law_795 rfl ?_
  refine V_iconst (pc := 797) h dL_law_797 ic_1 ?_
  refine V_iadd (pc := 798) h dL_law_798 ?_
  refine V_sld (pc := 799) h hX hbl hbA (inx (t := 1) hi hL (by omega)) dL_law_799 ?_
  refine V_ws _ wl_1 ?_
  refine V_mid (pre := [outc (gK G) out o0] ++ wx2) (mid := wm) (post := []) (pc := 800) h _ cM mf_M_stretch lk_RL_94 im_M_stretch se_M_stretch ⟨Nat.le_of_ble_eq_true rfl, Nat.le_of_ble_eq_true rfl⟩ hkn (by rw [List.length_append, n3, n2]; rfl) (f4.trans f2.symm) g2 rfl rfl rfl (Nat.le_of_ble_eq_true rfl) [.int r, .int r] rfl dL_law_800 ?_
  refine V_ws _ wl_2 ?_
  exact V_icmp_eq (pc := 803) h 1412 dL_law_803 (by decide) (fun _ => z wx2 wm2 hr2) (fun hn => absurd rfl hn)
set_option maxRecDepth 4000 in
theorem lc_state {G : Gm} {b L : Nat} {xs : Nat → Int32} (O : LawOk G b L xs) {a a2 : Nat → Nat} {out : Nat} {o0 : Nat → Int64} {k n : Nat} (hkn : k ≤ room_1.cells ∧ n ≤ room_1.slots) {i : Nat} (hi : i + 7 ≤ L) {wx wm : va_W} (hr : Rel (gK G) a a2 wx wm) (z : ∀ wx2 wm2, Rel (gK G) a a2 wx2 wm2 → V G k n (wsL G out o0 wx2 wm2) 1412 (lvL b (a 0) (a2 0) out i) []) : V G k n (wsL G out o0 wx wm) 808 (lvL b (a 0) (a2 0) out i) [] := by
  obtain ⟨h, hX, hbl, hbA, hL, -, -, -⟩ := O
  obtain ⟨f1, ⟨fs1, g1⟩, f2, ⟨fs2, g2⟩⟩ := Rel_at hr
  have n1 : wx.length = 68 := by simpa using congrArg List.length f1
  have n2 : wm.length = 30 := by simpa using congrArg List.length f2
  obtain ⟨r, wx2, wm2, cX, cM, hr2⟩ := k_state (F := 301) (by decide) hr (xs (zI (i : Int) + 1).toNatClampNeg) (xs (zI (i : Int) + 2).toNatClampNeg)
  obtain ⟨f3, -, f4, -⟩ := Rel_at hr2
  have n3 : wx2.length = 68 := by simpa using congrArg List.length f3
  refine V_aload_n (pc := 808) h 1 dL_law_808 rfl ?_
  refine V_aload_n (pc := 809) h 0 dL_law_809 rfl ?_
  refine V_iload (pc := 810) h 4 dL_law_810 rfl ?_
  refine V_iconst (pc := 812) h dL_law_812 ic_1 ?_
  refine V_iadd (pc := 813) h dL_law_813 ?_
  refine V_sld (pc := 814) h hX hbl hbA (inx (t := 1) hi hL (by omega)) dL_law_814 ?_
  refine V_aload_n (pc := 815) h 0 dL_law_815 rfl ?_
  refine V_iload (pc := 816) h 4 dL_law_816 rfl ?_
  refine V_iconst (pc := 818) h dL_law_818 ic_2 ?_
  refine V_iadd (pc := 819) h dL_law_819 ?_
  refine V_sld (pc := 820) h hX hbl hbA (inx (t := 2) hi hL (by omega)) dL_law_820 ?_
  refine V_mid (pre := [outc (gK G) out o0]) (mid := wx) (post := wm) (pc := 821) h _ cX mf_X_state lk_RL_95 im_X_state se_X_state ⟨Nat.le_of_ble_eq_true rfl, Nat.le_of_ble_eq_true rfl⟩ hkn (by rw [n1]; rfl) (f3.trans f1.symm) g1 rfl rfl rfl (Nat.le_of_ble_eq_true rfl) [.int r] rfl dL_law_821 ?_
  refine V_aload_n (pc := 824) h 2 dL_law_824 rfl ?_
  refine V_aload_n (pc := 825) h 0 dL_law_825 rfl ?_
  refine V_iload (pc := 826) h 4 dL_law_826 rfl ?_
  refine V_iconst (pc := 828) h dL_law_828 ic_1 ?_
  refine V_iadd (pc := 829) h dL_law_829 ?_
  refine V_sld (pc := 830) h hX hbl hbA (inx (t := 1) hi hL (by omega)) dL_law_830 ?_
  refine V_aload_n (pc := 831) h 0 dL_law_831 rfl ?_
  refine V_iload (pc := 832) h 4 dL_law_832 rfl ?_
  refine V_iconst (pc := 834) h dL_law_834 ic_2 ?_
  refine V_iadd (pc := 835) h dL_law_835 ?_
  refine V_sld (pc := 836) h hX hbl hbA (inx (t := 2) hi hL (by omega)) dL_law_836 ?_
  refine V_ws _ wl_1 ?_
  refine V_mid (pre := [outc (gK G) out o0] ++ wx2) (mid := wm) (post := []) (pc := 837) h _ cM mf_M_state lk_RL_98 im_M_state se_M_state ⟨Nat.le_of_ble_eq_true rfl, Nat.le_of_ble_eq_true rfl⟩ hkn (by rw [List.length_append, n3, n2]; rfl) (f4.trans f2.symm) g2 rfl rfl rfl (Nat.le_of_ble_eq_true rfl) [.int r, .int r] rfl dL_law_837 ?_
  refine V_ws _ wl_2 ?_
  exact V_icmp_eq (pc := 840) h 1412 dL_law_840 (by decide) (fun _ => z wx2 wm2 hr2) (fun hn => absurd rfl hn)
set_option maxRecDepth 4000 in
theorem lc_idle {G : Gm} {b L : Nat} {xs : Nat → Int32} (O : LawOk G b L xs) {a a2 : Nat → Nat} {out : Nat} {o0 : Nat → Int64} {k n : Nat} (hkn : k ≤ room_1.cells ∧ n ≤ room_1.slots) {i : Nat} (hi : i + 7 ≤ L) {wx wm : va_W} (hr : Rel (gK G) a a2 wx wm) (z : ∀ wx2 wm2, Rel (gK G) a a2 wx2 wm2 → V G k n (wsL G out o0 wx2 wm2) 1412 (lvL b (a 0) (a2 0) out i) []) : V G k n (wsL G out o0 wx wm) 845 (lvL b (a 0) (a2 0) out i) [] := by
  obtain ⟨h, hX, hbl, hbA, hL, -, -, -⟩ := O
  obtain ⟨f1, ⟨fs1, g1⟩, f2, ⟨fs2, g2⟩⟩ := Rel_at hr
  have n1 : wx.length = 68 := by simpa using congrArg List.length f1
  have n2 : wm.length = 30 := by simpa using congrArg List.length f2
  obtain ⟨r, wx2, wm2, cX, cM, hr2⟩ := k_idle (F := 301) (by decide) hr (xs (zI (i : Int) + 1).toNatClampNeg)
  obtain ⟨f3, -, f4, -⟩ := Rel_at hr2
  have n3 : wx2.length = 68 := by simpa using congrArg List.length f3
  refine V_aload_n (pc := 845) h 1 dL_law_845 rfl ?_
  refine V_aload_n (pc := 846) h 0 dL_law_846 rfl ?_
  refine V_iload (pc := 847) h 4 dL_law_847 rfl ?_
  refine V_iconst (pc := 849) h dL_law_849 ic_1 ?_
  refine V_iadd (pc := 850) h dL_law_850 ?_
  refine V_sld (pc := 851) h hX hbl hbA (inx (t := 1) hi hL (by omega)) dL_law_851 ?_
  refine V_mid (pre := [outc (gK G) out o0]) (mid := wx) (post := wm) (pc := 852) h _ cX mf_X_idle lk_RL_99 im_X_idle se_X_idle ⟨Nat.le_of_ble_eq_true rfl, Nat.le_of_ble_eq_true rfl⟩ hkn (by rw [n1]; rfl) (f3.trans f1.symm) g1 rfl rfl rfl (Nat.le_of_ble_eq_true rfl) [.int r] rfl dL_law_852 ?_
  refine V_aload_n (pc := 855) h 2 dL_law_855 rfl ?_
  refine V_aload_n (pc := 856) h 0 dL_law_856 rfl ?_
  refine V_iload (pc := 857) h 4 dL_law_857 rfl ?_
  refine V_iconst (pc := 859) h dL_law_859 ic_1 ?_
  refine V_iadd (pc := 860) h dL_law_860 ?_
  refine V_sld (pc := 861) h hX hbl hbA (inx (t := 1) hi hL (by omega)) dL_law_861 ?_
  refine V_ws _ wl_1 ?_
  refine V_mid (pre := [outc (gK G) out o0] ++ wx2) (mid := wm) (post := []) (pc := 862) h _ cM mf_M_idle lk_RL_102 im_M_idle se_M_idle ⟨Nat.le_of_ble_eq_true rfl, Nat.le_of_ble_eq_true rfl⟩ hkn (by rw [List.length_append, n3, n2]; rfl) (f4.trans f2.symm) g2 rfl rfl rfl (Nat.le_of_ble_eq_true rfl) [.int r, .int r] rfl dL_law_862 ?_
  refine V_ws _ wl_2 ?_
  exact V_icmp_eq (pc := 865) h 1412 dL_law_865 (by decide) (fun _ => z wx2 wm2 hr2) (fun hn => absurd rfl hn)
set_option maxRecDepth 4000 in
theorem lc_hardest {G : Gm} {b L : Nat} {xs : Nat → Int32} (O : LawOk G b L xs) {a a2 : Nat → Nat} {out : Nat} {o0 : Nat → Int64} {k n : Nat} (hkn : k ≤ room_1.cells ∧ n ≤ room_1.slots) {i : Nat} (hi : i + 7 ≤ L) {wx wm : va_W} (hr : Rel (gK G) a a2 wx wm) (z : ∀ wx2 wm2, Rel (gK G) a a2 wx2 wm2 → V G k n (wsL G out o0 wx2 wm2) 1412 (lvL b (a 0) (a2 0) out i) []) : V G k n (wsL G out o0 wx wm) 870 (lvL b (a 0) (a2 0) out i) [] := by
  obtain ⟨h, hX, hbl, hbA, hL, -, -, -⟩ := O
  obtain ⟨f1, ⟨fs1, g1⟩, f2, ⟨fs2, g2⟩⟩ := Rel_at hr
  have n1 : wx.length = 68 := by simpa using congrArg List.length f1
  have n2 : wm.length = 30 := by simpa using congrArg List.length f2
  obtain ⟨r, wx2, wm2, cX, cM, hr2⟩ := k_hardest (F := 301) (by decide) hr (xs (zI (i : Int) + 1).toNatClampNeg)
  obtain ⟨f3, -, f4, -⟩ := Rel_at hr2
  have n3 : wx2.length = 68 := by simpa using congrArg List.length f3
  refine V_aload_n (pc := 870) h 1 dL_law_870 rfl ?_
  refine V_aload_n (pc := 871) h 0 dL_law_871 rfl ?_
  refine V_iload (pc := 872) h 4 dL_law_872 rfl ?_
  refine V_iconst (pc := 874) h dL_law_874 ic_1 ?_
  refine V_iadd (pc := 875) h dL_law_875 ?_
  refine V_sld (pc := 876) h hX hbl hbA (inx (t := 1) hi hL (by omega)) dL_law_876 ?_
  refine V_mid (pre := [outc (gK G) out o0]) (mid := wx) (post := wm) (pc := 877) h _ cX mf_X_hardest lk_RL_103 im_X_hardest se_X_hardest ⟨Nat.le_of_ble_eq_true rfl, Nat.le_of_ble_eq_true rfl⟩ hkn (by rw [n1]; rfl) (f3.trans f1.symm) g1 rfl rfl rfl (Nat.le_of_ble_eq_true rfl) [.int r] rfl dL_law_877 ?_
  refine V_aload_n (pc := 880) h 2 dL_law_880 rfl ?_
  refine V_aload_n (pc := 881) h 0 dL_law_881 rfl ?_
  refine V_iload (pc := 882) h 4 dL_law_882 rfl ?_
  refine V_iconst (pc := 884) h dL_law_884 ic_1 ?_
  refine V_iadd (pc := 885) h dL_law_885 ?_
  refine V_sld (pc := 886) h hX hbl hbA (inx (t := 1) hi hL (by omega)) dL_law_886 ?_
  refine V_ws _ wl_1 ?_
  refine V_mid (pre := [outc (gK G) out o0] ++ wx2) (mid := wm) (post := []) (pc := 887) h _ cM mf_M_hardest lk_RL_106 im_M_hardest se_M_hardest ⟨Nat.le_of_ble_eq_true rfl, Nat.le_of_ble_eq_true rfl⟩ hkn (by rw [List.length_append, n3, n2]; rfl) (f4.trans f2.symm) g2 rfl rfl rfl (Nat.le_of_ble_eq_true rfl) [.int r, .int r] rfl dL_law_887 ?_
  refine V_ws _ wl_2 ?_
  exact V_icmp_eq (pc := 890) h 1412 dL_law_890 (by decide) (fun _ => z wx2 wm2 hr2) (fun hn => absurd rfl hn)
set_option maxRecDepth 4000 in
theorem lc_margin {G : Gm} {b L : Nat} {xs : Nat → Int32} (O : LawOk G b L xs) {a a2 : Nat → Nat} {out : Nat} {o0 : Nat → Int64} {k n : Nat} (hkn : k ≤ room_1.cells ∧ n ≤ room_1.slots) {i : Nat} (hi : i + 7 ≤ L) {wx wm : va_W} (hr : Rel (gK G) a a2 wx wm) (z : ∀ wx2 wm2, Rel (gK G) a a2 wx2 wm2 → V G k n (wsL G out o0 wx2 wm2) 1412 (lvL b (a 0) (a2 0) out i) []) : V G k n (wsL G out o0 wx wm) 895 (lvL b (a 0) (a2 0) out i) [] := by
  obtain ⟨h, hX, hbl, hbA, hL, -, -, -⟩ := O
  obtain ⟨f1, ⟨fs1, g1⟩, f2, ⟨fs2, g2⟩⟩ := Rel_at hr
  have n1 : wx.length = 68 := by simpa using congrArg List.length f1
  have n2 : wm.length = 30 := by simpa using congrArg List.length f2
  obtain ⟨r, wx2, wm2, cX, cM, hr2⟩ := k_margin (F := 301) (by decide) hr (xs (zI (i : Int) + 1).toNatClampNeg)
  obtain ⟨f3, -, f4, -⟩ := Rel_at hr2
  have n3 : wx2.length = 68 := by simpa using congrArg List.length f3
  refine V_aload_n (pc := 895) h 1 dL_law_895 rfl ?_
  refine V_aload_n (pc := 896) h 0 dL_law_896 rfl ?_
  refine V_iload (pc := 897) h 4 dL_law_897 rfl ?_
  refine V_iconst (pc := 899) h dL_law_899 ic_1 ?_
  refine V_iadd (pc := 900) h dL_law_900 ?_
  refine V_sld (pc := 901) h hX hbl hbA (inx (t := 1) hi hL (by omega)) dL_law_901 ?_
  refine V_mid (pre := [outc (gK G) out o0]) (mid := wx) (post := wm) (pc := 902) h _ cX mf_X_margin lk_RL_107 im_X_margin se_X_margin ⟨Nat.le_of_ble_eq_true rfl, Nat.le_of_ble_eq_true rfl⟩ hkn (by rw [n1]; rfl) (f3.trans f1.symm) g1 rfl rfl rfl (Nat.le_of_ble_eq_true rfl) [.int r] rfl dL_law_902 ?_
  refine V_aload_n (pc := 905) h 2 dL_law_905 rfl ?_
  refine V_aload_n (pc := 906) h 0 dL_law_906 rfl ?_
  refine V_iload (pc := 907) h 4 dL_law_907 rfl ?_
  refine V_iconst (pc := 909) h dL_law_909 ic_1 ?_
  refine V_iadd (pc := 910) h dL_law_910 ?_
  refine V_sld (pc := 911) h hX hbl hbA (inx (t := 1) hi hL (by omega)) dL_law_911 ?_
  refine V_ws _ wl_1 ?_
  refine V_mid (pre := [outc (gK G) out o0] ++ wx2) (mid := wm) (post := []) (pc := 912) h _ cM mf_M_margin lk_RL_110 im_M_margin se_M_margin ⟨Nat.le_of_ble_eq_true rfl, Nat.le_of_ble_eq_true rfl⟩ hkn (by rw [List.length_append, n3, n2]; rfl) (f4.trans f2.symm) g2 rfl rfl rfl (Nat.le_of_ble_eq_true rfl) [.int r, .int r] rfl dL_law_912 ?_
  refine V_ws _ wl_2 ?_
  exact V_icmp_eq (pc := 915) h 1412 dL_law_915 (by decide) (fun _ => z wx2 wm2 hr2) (fun hn => absurd rfl hn)
set_option maxRecDepth 4000 in
theorem lc_work {G : Gm} {b L : Nat} {xs : Nat → Int32} (O : LawOk G b L xs) {a a2 : Nat → Nat} {out : Nat} {o0 : Nat → Int64} {k n : Nat} (hkn : k ≤ room_1.cells ∧ n ≤ room_1.slots) {i : Nat} (hi : i + 7 ≤ L) {wx wm : va_W} (hr : Rel (gK G) a a2 wx wm) (z : ∀ wx2 wm2, Rel (gK G) a a2 wx2 wm2 → V G k n (wsL G out o0 wx2 wm2) 1412 (lvL b (a 0) (a2 0) out i) []) : V G k n (wsL G out o0 wx wm) 920 (lvL b (a 0) (a2 0) out i) [] := by
  obtain ⟨h, hX, hbl, hbA, hL, -, -, -⟩ := O
  obtain ⟨f1, ⟨fs1, g1⟩, f2, ⟨fs2, g2⟩⟩ := Rel_at hr
  have n1 : wx.length = 68 := by simpa using congrArg List.length f1
  have n2 : wm.length = 30 := by simpa using congrArg List.length f2
  obtain ⟨r, wx2, wm2, cX, cM, hr2⟩ := k_work (F := 301) (by decide) hr (xs (zI (i : Int) + 1).toNatClampNeg)
  obtain ⟨f3, -, f4, -⟩ := Rel_at hr2
  have n3 : wx2.length = 68 := by simpa using congrArg List.length f3
  refine V_aload_n (pc := 920) h 1 dL_law_920 rfl ?_
  refine V_aload_n (pc := 921) h 0 dL_law_921 rfl ?_
  refine V_iload (pc := 922) h 4 dL_law_922 rfl ?_
  refine V_iconst (pc := 924) h dL_law_924 ic_1 ?_
  refine V_iadd (pc := 925) h dL_law_925 ?_
  refine V_sld (pc := 926) h hX hbl hbA (inx (t := 1) hi hL (by omega)) dL_law_926 ?_
  refine V_mid (pre := [outc (gK G) out o0]) (mid := wx) (post := wm) (pc := 927) h _ cX mf_X_work lk_RL_111 im_X_work se_X_work ⟨Nat.le_of_ble_eq_true rfl, Nat.le_of_ble_eq_true rfl⟩ hkn (by rw [n1]; rfl) (f3.trans f1.symm) g1 rfl rfl rfl (Nat.le_of_ble_eq_true rfl) [.int r] rfl dL_law_927 ?_
  refine V_aload_n (pc := 930) h 2 dL_law_930 rfl ?_
  refine V_aload_n (pc := 931) h 0 dL_law_931 rfl ?_
  refine V_iload (pc := 932) h 4 dL_law_932 rfl ?_
  refine V_iconst (pc := 934) h dL_law_934 ic_1 ?_
  refine V_iadd (pc := 935) h dL_law_935 ?_
  refine V_sld (pc := 936) h hX hbl hbA (inx (t := 1) hi hL (by omega)) dL_law_936 ?_
  refine V_ws _ wl_1 ?_
  refine V_mid (pre := [outc (gK G) out o0] ++ wx2) (mid := wm) (post := []) (pc := 937) h _ cM mf_M_work lk_RL_114 im_M_work se_M_work ⟨Nat.le_of_ble_eq_true rfl, Nat.le_of_ble_eq_true rfl⟩ hkn (by rw [List.length_append, n3, n2]; rfl) (f4.trans f2.symm) g2 rfl rfl rfl (Nat.le_of_ble_eq_true rfl) [.int r, .int r] rfl dL_law_937 ?_
  refine V_ws _ wl_2 ?_
  exact V_icmp_eq (pc := 940) h 1412 dL_law_940 (by decide) (fun _ => z wx2 wm2 hr2) (fun hn => absurd rfl hn)
set_option maxRecDepth 4000 in
theorem lc_set {G : Gm} {b L : Nat} {xs : Nat → Int32} (O : LawOk G b L xs) {a a2 : Nat → Nat} {out : Nat} {o0 : Nat → Int64} {k n : Nat} (hkn : k ≤ room_1.cells ∧ n ≤ room_1.slots) {i : Nat} (hi : i + 7 ≤ L) {wx wm : va_W} (hr : Rel (gK G) a a2 wx wm) (z : ∀ wx2 wm2, Rel (gK G) a a2 wx2 wm2 → V G k n (wsL G out o0 wx2 wm2) 1412 (lvL b (a 0) (a2 0) out i) []) : V G k n (wsL G out o0 wx wm) 945 (lvL b (a 0) (a2 0) out i) [] := by
  obtain ⟨h, hX, hbl, hbA, hL, -, -, -⟩ := O
  obtain ⟨f1, ⟨fs1, g1⟩, f2, ⟨fs2, g2⟩⟩ := Rel_at hr
  have n1 : wx.length = 68 := by simpa using congrArg List.length f1
  have n2 : wm.length = 30 := by simpa using congrArg List.length f2
  obtain ⟨r, wx2, wm2, cX, cM, hr2⟩ := k_set (F := 301) (by decide) hr (xs (zI (i : Int) + 1).toNatClampNeg) (xs (zI (i : Int) + 2).toNatClampNeg)
  obtain ⟨f3, -, f4, -⟩ := Rel_at hr2
  have n3 : wx2.length = 68 := by simpa using congrArg List.length f3
  refine V_aload_n (pc := 945) h 1 dL_law_945 rfl ?_
  refine V_aload_n (pc := 946) h 0 dL_law_946 rfl ?_
  refine V_iload (pc := 947) h 4 dL_law_947 rfl ?_
  refine V_iconst (pc := 949) h dL_law_949 ic_1 ?_
  refine V_iadd (pc := 950) h dL_law_950 ?_
  refine V_sld (pc := 951) h hX hbl hbA (inx (t := 1) hi hL (by omega)) dL_law_951 ?_
  refine V_aload_n (pc := 952) h 0 dL_law_952 rfl ?_
  refine V_iload (pc := 953) h 4 dL_law_953 rfl ?_
  refine V_iconst (pc := 955) h dL_law_955 ic_2 ?_
  refine V_iadd (pc := 956) h dL_law_956 ?_
  refine V_sld (pc := 957) h hX hbl hbA (inx (t := 2) hi hL (by omega)) dL_law_957 ?_
  refine V_mid (pre := [outc (gK G) out o0]) (mid := wx) (post := wm) (pc := 958) h _ cX mf_X_set lk_RL_115 im_X_set se_X_set ⟨Nat.le_of_ble_eq_true rfl, Nat.le_of_ble_eq_true rfl⟩ hkn (by rw [n1]; rfl) (f3.trans f1.symm) g1 rfl rfl rfl (Nat.le_of_ble_eq_true rfl) [.int r] rfl dL_law_958 ?_
  refine V_aload_n (pc := 961) h 2 dL_law_961 rfl ?_
  refine V_aload_n (pc := 962) h 0 dL_law_962 rfl ?_
  refine V_iload (pc := 963) h 4 dL_law_963 rfl ?_
  refine V_iconst (pc := 965) h dL_law_965 ic_1 ?_
  refine V_iadd (pc := 966) h dL_law_966 ?_
  refine V_sld (pc := 967) h hX hbl hbA (inx (t := 1) hi hL (by omega)) dL_law_967 ?_
  refine V_aload_n (pc := 968) h 0 dL_law_968 rfl ?_
  refine V_iload (pc := 969) h 4 dL_law_969 rfl ?_
  refine V_iconst (pc := 971) h dL_law_971 ic_2 ?_
  refine V_iadd (pc := 972) h dL_law_972 ?_
  refine V_sld (pc := 973) h hX hbl hbA (inx (t := 2) hi hL (by omega)) dL_law_973 ?_
  refine V_ws _ wl_1 ?_
  refine V_mid (pre := [outc (gK G) out o0] ++ wx2) (mid := wm) (post := []) (pc := 974) h _ cM mf_M_set lk_RL_118 im_M_set se_M_set ⟨Nat.le_of_ble_eq_true rfl, Nat.le_of_ble_eq_true rfl⟩ hkn (by rw [List.length_append, n3, n2]; rfl) (f4.trans f2.symm) g2 rfl rfl rfl (Nat.le_of_ble_eq_true rfl) [.int r, .int r] rfl dL_law_974 ?_
  refine V_ws _ wl_2 ?_
  exact V_icmp_eq (pc := 977) h 1412 dL_law_977 (by decide) (fun _ => z wx2 wm2 hr2) (fun hn => absurd rfl hn)
set_option maxRecDepth 4000 in
theorem lc_falls {G : Gm} {b L : Nat} {xs : Nat → Int32} (O : LawOk G b L xs) {a a2 : Nat → Nat} {out : Nat} {o0 : Nat → Int64} {k n : Nat} (hkn : k ≤ room_1.cells ∧ n ≤ room_1.slots) {i : Nat} (hi : i + 7 ≤ L) {wx wm : va_W} (hr : Rel (gK G) a a2 wx wm) (z : ∀ wx2 wm2, Rel (gK G) a a2 wx2 wm2 → V G k n (wsL G out o0 wx2 wm2) 1412 (lvL b (a 0) (a2 0) out i) []) : V G k n (wsL G out o0 wx wm) 982 (lvL b (a 0) (a2 0) out i) [] := by
  obtain ⟨h, hX, hbl, hbA, hL, -, -, -⟩ := O
  obtain ⟨f1, ⟨fs1, g1⟩, f2, ⟨fs2, g2⟩⟩ := Rel_at hr
  have n1 : wx.length = 68 := by simpa using congrArg List.length f1
  have n2 : wm.length = 30 := by simpa using congrArg List.length f2
  obtain ⟨r, wx2, wm2, cX, cM, hr2⟩ := k_falls (F := 301) (by decide) hr (xs (zI (i : Int) + 1).toNatClampNeg) (xs (zI (i : Int) + 2).toNatClampNeg) (xs (zI (i : Int) + 3).toNatClampNeg)
  obtain ⟨f3, -, f4, -⟩ := Rel_at hr2
  have n3 : wx2.length = 68 := by simpa using congrArg List.length f3
  refine V_aload_n (pc := 982) h 1 dL_law_982 rfl ?_
  refine V_aload_n (pc := 983) h 0 dL_law_983 rfl ?_
  refine V_iload (pc := 984) h 4 dL_law_984 rfl ?_
  refine V_iconst (pc := 986) h dL_law_986 ic_1 ?_
  refine V_iadd (pc := 987) h dL_law_987 ?_
  refine V_sld (pc := 988) h hX hbl hbA (inx (t := 1) hi hL (by omega)) dL_law_988 ?_
  refine V_aload_n (pc := 989) h 0 dL_law_989 rfl ?_
  refine V_iload (pc := 990) h 4 dL_law_990 rfl ?_
  refine V_iconst (pc := 992) h dL_law_992 ic_2 ?_
  refine V_iadd (pc := 993) h dL_law_993 ?_
  refine V_sld (pc := 994) h hX hbl hbA (inx (t := 2) hi hL (by omega)) dL_law_994 ?_
  refine V_aload_n (pc := 995) h 0 dL_law_995 rfl ?_
  refine V_iload (pc := 996) h 4 dL_law_996 rfl ?_
  refine V_iconst (pc := 998) h dL_law_998 ic_3 ?_
  refine V_iadd (pc := 999) h dL_law_999 ?_
  refine V_sld (pc := 1000) h hX hbl hbA (inx (t := 3) hi hL (by omega)) dL_law_1000 ?_
  refine V_mid (pre := [outc (gK G) out o0]) (mid := wx) (post := wm) (pc := 1001) h _ cX mf_X_falls lk_RL_119 im_X_falls se_X_falls ⟨Nat.le_of_ble_eq_true rfl, Nat.le_of_ble_eq_true rfl⟩ hkn (by rw [n1]; rfl) (f3.trans f1.symm) g1 rfl rfl rfl (Nat.le_of_ble_eq_true rfl) [.int r] rfl dL_law_1001 ?_
  refine V_aload_n (pc := 1004) h 2 dL_law_1004 rfl ?_
  refine V_aload_n (pc := 1005) h 0 dL_law_1005 rfl ?_
  refine V_iload (pc := 1006) h 4 dL_law_1006 rfl ?_
  refine V_iconst (pc := 1008) h dL_law_1008 ic_1 ?_
  refine V_iadd (pc := 1009) h dL_law_1009 ?_
  refine V_sld (pc := 1010) h hX hbl hbA (inx (t := 1) hi hL (by omega)) dL_law_1010 ?_
  refine V_aload_n (pc := 1011) h 0 dL_law_1011 rfl ?_
  refine V_iload (pc := 1012) h 4 dL_law_1012 rfl ?_
  refine V_iconst (pc := 1014) h dL_law_1014 ic_2 ?_
  refine V_iadd (pc := 1015) h dL_law_1015 ?_
  refine V_sld (pc := 1016) h hX hbl hbA (inx (t := 2) hi hL (by omega)) dL_law_1016 ?_
  refine V_aload_n (pc := 1017) h 0 dL_law_1017 rfl ?_
  refine V_iload (pc := 1018) h 4 dL_law_1018 rfl ?_
  refine V_iconst (pc := 1020) h dL_law_1020 ic_3 ?_
  refine V_iadd (pc := 1021) h dL_law_1021 ?_
  refine V_sld (pc := 1022) h hX hbl hbA (inx (t := 3) hi hL (by omega)) dL_law_1022 ?_
  refine V_ws _ wl_1 ?_
  refine V_mid (pre := [outc (gK G) out o0] ++ wx2) (mid := wm) (post := []) (pc := 1023) h _ cM mf_M_falls lk_RL_123 im_M_falls se_M_falls ⟨Nat.le_of_ble_eq_true rfl, Nat.le_of_ble_eq_true rfl⟩ hkn (by rw [List.length_append, n3, n2]; rfl) (f4.trans f2.symm) g2 rfl rfl rfl (Nat.le_of_ble_eq_true rfl) [.int r, .int r] rfl dL_law_1023 ?_
  refine V_ws _ wl_2 ?_
  exact V_icmp_eq (pc := 1026) h 1412 dL_law_1026 (by decide) (fun _ => z wx2 wm2 hr2) (fun hn => absurd rfl hn)
set_option maxRecDepth 4000 in
theorem lc_opens {G : Gm} {b L : Nat} {xs : Nat → Int32} (O : LawOk G b L xs) {a a2 : Nat → Nat} {out : Nat} {o0 : Nat → Int64} {k n : Nat} (hkn : k ≤ room_1.cells ∧ n ≤ room_1.slots) {i : Nat} (hi : i + 7 ≤ L) {wx wm : va_W} (hr : Rel (gK G) a a2 wx wm) (z : ∀ wx2 wm2, Rel (gK G) a a2 wx2 wm2 → V G k n (wsL G out o0 wx2 wm2) 1412 (lvL b (a 0) (a2 0) out i) []) : V G k n (wsL G out o0 wx wm) 1031 (lvL b (a 0) (a2 0) out i) [] := by
  obtain ⟨h, hX, hbl, hbA, hL, -, -, -⟩ := O
  obtain ⟨f1, ⟨fs1, g1⟩, f2, ⟨fs2, g2⟩⟩ := Rel_at hr
  have n1 : wx.length = 68 := by simpa using congrArg List.length f1
  have n2 : wm.length = 30 := by simpa using congrArg List.length f2
  obtain ⟨r, wx2, wm2, cX, cM, hr2⟩ := k_opens (F := 301) (by decide) hr (xs (zI (i : Int) + 1).toNatClampNeg)
  obtain ⟨f3, -, f4, -⟩ := Rel_at hr2
  have n3 : wx2.length = 68 := by simpa using congrArg List.length f3
  refine V_aload_n (pc := 1031) h 1 dL_law_1031 rfl ?_
  refine V_aload_n (pc := 1032) h 0 dL_law_1032 rfl ?_
  refine V_iload (pc := 1033) h 4 dL_law_1033 rfl ?_
  refine V_iconst (pc := 1035) h dL_law_1035 ic_1 ?_
  refine V_iadd (pc := 1036) h dL_law_1036 ?_
  refine V_sld (pc := 1037) h hX hbl hbA (inx (t := 1) hi hL (by omega)) dL_law_1037 ?_
  refine V_mid (pre := [outc (gK G) out o0]) (mid := wx) (post := wm) (pc := 1038) h _ cX mf_X_opens lk_RL_124 im_X_opens se_X_opens ⟨Nat.le_of_ble_eq_true rfl, Nat.le_of_ble_eq_true rfl⟩ hkn (by rw [n1]; rfl) (f3.trans f1.symm) g1 rfl rfl rfl (Nat.le_of_ble_eq_true rfl) [.int r] rfl dL_law_1038 ?_
  refine V_aload_n (pc := 1041) h 2 dL_law_1041 rfl ?_
  refine V_aload_n (pc := 1042) h 0 dL_law_1042 rfl ?_
  refine V_iload (pc := 1043) h 4 dL_law_1043 rfl ?_
  refine V_iconst (pc := 1045) h dL_law_1045 ic_1 ?_
  refine V_iadd (pc := 1046) h dL_law_1046 ?_
  refine V_sld (pc := 1047) h hX hbl hbA (inx (t := 1) hi hL (by omega)) dL_law_1047 ?_
  refine V_ws _ wl_1 ?_
  refine V_mid (pre := [outc (gK G) out o0] ++ wx2) (mid := wm) (post := []) (pc := 1048) h _ cM mf_M_opens lk_RL_127 im_M_opens se_M_opens ⟨Nat.le_of_ble_eq_true rfl, Nat.le_of_ble_eq_true rfl⟩ hkn (by rw [List.length_append, n3, n2]; rfl) (f4.trans f2.symm) g2 rfl rfl rfl (Nat.le_of_ble_eq_true rfl) [.int r, .int r] rfl dL_law_1048 ?_
  refine V_ws _ wl_2 ?_
  exact V_icmp_eq (pc := 1051) h 1412 dL_law_1051 (by decide) (fun _ => z wx2 wm2 hr2) (fun hn => absurd rfl hn)
set_option maxRecDepth 4000 in
theorem lc_events {G : Gm} {b L : Nat} {xs : Nat → Int32} (O : LawOk G b L xs) {a a2 : Nat → Nat} {out : Nat} {o0 : Nat → Int64} {k n : Nat} (hkn : k ≤ room_1.cells ∧ n ≤ room_1.slots) {i : Nat} (hi : i + 7 ≤ L) {wx wm : va_W} (hr : Rel (gK G) a a2 wx wm) (z : ∀ wx2 wm2, Rel (gK G) a a2 wx2 wm2 → V G k n (wsL G out o0 wx2 wm2) 1412 (lvL b (a 0) (a2 0) out i) []) : V G k n (wsL G out o0 wx wm) 1056 (lvL b (a 0) (a2 0) out i) [] := by
  obtain ⟨h, hX, hbl, hbA, hL, -, -, -⟩ := O
  obtain ⟨f1, ⟨fs1, g1⟩, f2, ⟨fs2, g2⟩⟩ := Rel_at hr
  have n1 : wx.length = 68 := by simpa using congrArg List.length f1
  have n2 : wm.length = 30 := by simpa using congrArg List.length f2
  obtain ⟨r, wx2, wm2, cX, cM, hr2⟩ := k_events (F := 301) (by decide) hr 
  obtain ⟨f3, -, f4, -⟩ := Rel_at hr2
  have n3 : wx2.length = 68 := by simpa using congrArg List.length f3
  refine V_aload_n (pc := 1056) h 1 dL_law_1056 rfl ?_
  refine V_mid (pre := [outc (gK G) out o0]) (mid := wx) (post := wm) (pc := 1057) h _ cX mf_X_events lk_RL_128 im_X_events se_X_events ⟨Nat.le_of_ble_eq_true rfl, Nat.le_of_ble_eq_true rfl⟩ hkn (by rw [n1]; rfl) (f3.trans f1.symm) g1 rfl rfl rfl (Nat.le_of_ble_eq_true rfl) [.int r] rfl dL_law_1057 ?_
  refine V_aload_n (pc := 1060) h 2 dL_law_1060 rfl ?_
  refine V_ws _ wl_1 ?_
  refine V_mid (pre := [outc (gK G) out o0] ++ wx2) (mid := wm) (post := []) (pc := 1061) h _ cM mf_M_events lk_RL_131 im_M_events se_M_events ⟨Nat.le_of_ble_eq_true rfl, Nat.le_of_ble_eq_true rfl⟩ hkn (by rw [List.length_append, n3, n2]; rfl) (f4.trans f2.symm) g2 rfl rfl rfl (Nat.le_of_ble_eq_true rfl) [.int r, .int r] rfl dL_law_1061 ?_
  refine V_ws _ wl_2 ?_
  exact V_icmp_eq (pc := 1064) h 1412 dL_law_1064 (by decide) (fun _ => z wx2 wm2 hr2) (fun hn => absurd rfl hn)
set_option maxRecDepth 4000 in
theorem lc_event {G : Gm} {b L : Nat} {xs : Nat → Int32} (O : LawOk G b L xs) {a a2 : Nat → Nat} {out : Nat} {o0 : Nat → Int64} {k n : Nat} (hkn : k ≤ room_1.cells ∧ n ≤ room_1.slots) {i : Nat} (hi : i + 7 ≤ L) {wx wm : va_W} (hr : Rel (gK G) a a2 wx wm) (z : ∀ wx2 wm2, Rel (gK G) a a2 wx2 wm2 → V G k n (wsL G out o0 wx2 wm2) 1412 (lvL b (a 0) (a2 0) out i) []) : V G k n (wsL G out o0 wx wm) 1069 (lvL b (a 0) (a2 0) out i) [] := by
  obtain ⟨h, hX, hbl, hbA, hL, -, -, -⟩ := O
  obtain ⟨f1, ⟨fs1, g1⟩, f2, ⟨fs2, g2⟩⟩ := Rel_at hr
  have n1 : wx.length = 68 := by simpa using congrArg List.length f1
  have n2 : wm.length = 30 := by simpa using congrArg List.length f2
  obtain ⟨r, wx2, wm2, cX, cM, hr2⟩ := k_event (F := 301) (by decide) hr (xs (zI (i : Int) + 1).toNatClampNeg)
  obtain ⟨f3, -, f4, -⟩ := Rel_at hr2
  have n3 : wx2.length = 68 := by simpa using congrArg List.length f3
  refine V_aload_n (pc := 1069) h 1 dL_law_1069 rfl ?_
  refine V_aload_n (pc := 1070) h 0 dL_law_1070 rfl ?_
  refine V_iload (pc := 1071) h 4 dL_law_1071 rfl ?_
  refine V_iconst (pc := 1073) h dL_law_1073 ic_1 ?_
  refine V_iadd (pc := 1074) h dL_law_1074 ?_
  refine V_sld (pc := 1075) h hX hbl hbA (inx (t := 1) hi hL (by omega)) dL_law_1075 ?_
  refine V_mid (pre := [outc (gK G) out o0]) (mid := wx) (post := wm) (pc := 1076) h _ cX mf_X_event lk_RL_132 im_X_event se_X_event ⟨Nat.le_of_ble_eq_true rfl, Nat.le_of_ble_eq_true rfl⟩ hkn (by rw [n1]; rfl) (f3.trans f1.symm) g1 rfl rfl rfl (Nat.le_of_ble_eq_true rfl) [.int r] rfl dL_law_1076 ?_
  refine V_aload_n (pc := 1079) h 2 dL_law_1079 rfl ?_
  refine V_aload_n (pc := 1080) h 0 dL_law_1080 rfl ?_
  refine V_iload (pc := 1081) h 4 dL_law_1081 rfl ?_
  refine V_iconst (pc := 1083) h dL_law_1083 ic_1 ?_
  refine V_iadd (pc := 1084) h dL_law_1084 ?_
  refine V_sld (pc := 1085) h hX hbl hbA (inx (t := 1) hi hL (by omega)) dL_law_1085 ?_
  refine V_ws _ wl_1 ?_
  refine V_mid (pre := [outc (gK G) out o0] ++ wx2) (mid := wm) (post := []) (pc := 1086) h _ cM mf_M_event lk_RL_135 im_M_event se_M_event ⟨Nat.le_of_ble_eq_true rfl, Nat.le_of_ble_eq_true rfl⟩ hkn (by rw [List.length_append, n3, n2]; rfl) (f4.trans f2.symm) g2 rfl rfl rfl (Nat.le_of_ble_eq_true rfl) [.int r, .int r] rfl dL_law_1086 ?_
  refine V_ws _ wl_2 ?_
  exact V_icmp_eq (pc := 1089) h 1412 dL_law_1089 (by decide) (fun _ => z wx2 wm2 hr2) (fun hn => absurd rfl hn)
set_option maxRecDepth 4000 in
theorem lc_peak {G : Gm} {b L : Nat} {xs : Nat → Int32} (O : LawOk G b L xs) {a a2 : Nat → Nat} {out : Nat} {o0 : Nat → Int64} {k n : Nat} (hkn : k ≤ room_1.cells ∧ n ≤ room_1.slots) {i : Nat} (hi : i + 7 ≤ L) {wx wm : va_W} (hr : Rel (gK G) a a2 wx wm) (z : ∀ wx2 wm2, Rel (gK G) a a2 wx2 wm2 → V G k n (wsL G out o0 wx2 wm2) 1412 (lvL b (a 0) (a2 0) out i) []) : V G k n (wsL G out o0 wx wm) 1094 (lvL b (a 0) (a2 0) out i) [] := by
  obtain ⟨h, hX, hbl, hbA, hL, -, -, -⟩ := O
  obtain ⟨f1, ⟨fs1, g1⟩, f2, ⟨fs2, g2⟩⟩ := Rel_at hr
  have n1 : wx.length = 68 := by simpa using congrArg List.length f1
  have n2 : wm.length = 30 := by simpa using congrArg List.length f2
  obtain ⟨r, wx2, wm2, cX, cM, hr2⟩ := k_peak (F := 301) (by decide) hr 
  obtain ⟨f3, -, f4, -⟩ := Rel_at hr2
  have n3 : wx2.length = 68 := by simpa using congrArg List.length f3
  refine V_aload_n (pc := 1094) h 1 dL_law_1094 rfl ?_
  refine V_mid (pre := [outc (gK G) out o0]) (mid := wx) (post := wm) (pc := 1095) h _ cX mf_X_peak lk_RL_136 im_X_peak se_X_peak ⟨Nat.le_of_ble_eq_true rfl, Nat.le_of_ble_eq_true rfl⟩ hkn (by rw [n1]; rfl) (f3.trans f1.symm) g1 rfl rfl rfl (Nat.le_of_ble_eq_true rfl) [.int r] rfl dL_law_1095 ?_
  refine V_aload_n (pc := 1098) h 2 dL_law_1098 rfl ?_
  refine V_ws _ wl_1 ?_
  refine V_mid (pre := [outc (gK G) out o0] ++ wx2) (mid := wm) (post := []) (pc := 1099) h _ cM mf_M_peak lk_RL_139 im_M_peak se_M_peak ⟨Nat.le_of_ble_eq_true rfl, Nat.le_of_ble_eq_true rfl⟩ hkn (by rw [List.length_append, n3, n2]; rfl) (f4.trans f2.symm) g2 rfl rfl rfl (Nat.le_of_ble_eq_true rfl) [.int r, .int r] rfl dL_law_1099 ?_
  refine V_ws _ wl_2 ?_
  exact V_icmp_eq (pc := 1102) h 1412 dL_law_1102 (by decide) (fun _ => z wx2 wm2 hr2) (fun hn => absurd rfl hn)
set_option maxRecDepth 4000 in
theorem lc_order {G : Gm} {b L : Nat} {xs : Nat → Int32} (O : LawOk G b L xs) {a a2 : Nat → Nat} {out : Nat} {o0 : Nat → Int64} {k n : Nat} (hkn : k ≤ room_1.cells ∧ n ≤ room_1.slots) {i : Nat} (hi : i + 7 ≤ L) {wx wm : va_W} (hr : Rel (gK G) a a2 wx wm) (z : ∀ wx2 wm2, Rel (gK G) a a2 wx2 wm2 → V G k n (wsL G out o0 wx2 wm2) 1412 (lvL b (a 0) (a2 0) out i) []) : V G k n (wsL G out o0 wx wm) 1107 (lvL b (a 0) (a2 0) out i) [] := by
  obtain ⟨h, hX, hbl, hbA, hL, -, -, -⟩ := O
  obtain ⟨f1, ⟨fs1, g1⟩, f2, ⟨fs2, g2⟩⟩ := Rel_at hr
  have n1 : wx.length = 68 := by simpa using congrArg List.length f1
  have n2 : wm.length = 30 := by simpa using congrArg List.length f2
  obtain ⟨r, wx2, wm2, cX, cM, hr2⟩ := k_order (F := 301) (by decide) hr 
  obtain ⟨f3, -, f4, -⟩ := Rel_at hr2
  have n3 : wx2.length = 68 := by simpa using congrArg List.length f3
  refine V_aload_n (pc := 1107) h 1 dL_law_1107 rfl ?_
  refine V_mid (pre := [outc (gK G) out o0]) (mid := wx) (post := wm) (pc := 1108) h _ cX mf_X_order lk_RL_140 im_X_order se_X_order ⟨Nat.le_of_ble_eq_true rfl, Nat.le_of_ble_eq_true rfl⟩ hkn (by rw [n1]; rfl) (f3.trans f1.symm) g1 rfl rfl rfl (Nat.le_of_ble_eq_true rfl) [.int r] rfl dL_law_1108 ?_
  refine V_aload_n (pc := 1111) h 2 dL_law_1111 rfl ?_
  refine V_ws _ wl_1 ?_
  refine V_mid (pre := [outc (gK G) out o0] ++ wx2) (mid := wm) (post := []) (pc := 1112) h _ cM mf_M_order lk_RL_143 im_M_order se_M_order ⟨Nat.le_of_ble_eq_true rfl, Nat.le_of_ble_eq_true rfl⟩ hkn (by rw [List.length_append, n3, n2]; rfl) (f4.trans f2.symm) g2 rfl rfl rfl (Nat.le_of_ble_eq_true rfl) [.int r, .int r] rfl dL_law_1112 ?_
  refine V_ws _ wl_2 ?_
  exact V_icmp_eq (pc := 1115) h 1412 dL_law_1115 (by decide) (fun _ => z wx2 wm2 hr2) (fun hn => absurd rfl hn)
set_option maxRecDepth 4000 in
theorem lc_when {G : Gm} {b L : Nat} {xs : Nat → Int32} (O : LawOk G b L xs) {a a2 : Nat → Nat} {out : Nat} {o0 : Nat → Int64} {k n : Nat} (hkn : k ≤ room_1.cells ∧ n ≤ room_1.slots) {i : Nat} (hi : i + 7 ≤ L) {wx wm : va_W} (hr : Rel (gK G) a a2 wx wm) (z : ∀ wx2 wm2, Rel (gK G) a a2 wx2 wm2 → V G k n (wsL G out o0 wx2 wm2) 1412 (lvL b (a 0) (a2 0) out i) []) : V G k n (wsL G out o0 wx wm) 1120 (lvL b (a 0) (a2 0) out i) [] := by
  obtain ⟨h, hX, hbl, hbA, hL, -, -, -⟩ := O
  obtain ⟨f1, ⟨fs1, g1⟩, f2, ⟨fs2, g2⟩⟩ := Rel_at hr
  have n1 : wx.length = 68 := by simpa using congrArg List.length f1
  have n2 : wm.length = 30 := by simpa using congrArg List.length f2
  obtain ⟨r, wx2, wm2, cX, cM, hr2⟩ := k_when (F := 301) (by decide) hr (xs (zI (i : Int) + 1).toNatClampNeg) (xs (zI (i : Int) + 2).toNatClampNeg)
  obtain ⟨f3, -, f4, -⟩ := Rel_at hr2
  have n3 : wx2.length = 68 := by simpa using congrArg List.length f3
  refine V_aload_n (pc := 1120) h 1 dL_law_1120 rfl ?_
  refine V_aload_n (pc := 1121) h 0 dL_law_1121 rfl ?_
  refine V_iload (pc := 1122) h 4 dL_law_1122 rfl ?_
  refine V_iconst (pc := 1124) h dL_law_1124 ic_1 ?_
  refine V_iadd (pc := 1125) h dL_law_1125 ?_
  refine V_sld (pc := 1126) h hX hbl hbA (inx (t := 1) hi hL (by omega)) dL_law_1126 ?_
  refine V_aload_n (pc := 1127) h 0 dL_law_1127 rfl ?_
  refine V_iload (pc := 1128) h 4 dL_law_1128 rfl ?_
  refine V_iconst (pc := 1130) h dL_law_1130 ic_2 ?_
  refine V_iadd (pc := 1131) h dL_law_1131 ?_
  refine V_sld (pc := 1132) h hX hbl hbA (inx (t := 2) hi hL (by omega)) dL_law_1132 ?_
  refine V_mid (pre := [outc (gK G) out o0]) (mid := wx) (post := wm) (pc := 1133) h _ cX mf_X_when lk_RL_144 im_X_when se_X_when ⟨Nat.le_of_ble_eq_true rfl, Nat.le_of_ble_eq_true rfl⟩ hkn (by rw [n1]; rfl) (f3.trans f1.symm) g1 rfl rfl rfl (Nat.le_of_ble_eq_true rfl) [.int r] rfl dL_law_1133 ?_
  refine V_aload_n (pc := 1136) h 2 dL_law_1136 rfl ?_
  refine V_aload_n (pc := 1137) h 0 dL_law_1137 rfl ?_
  refine V_iload (pc := 1138) h 4 dL_law_1138 rfl ?_
  refine V_iconst (pc := 1140) h dL_law_1140 ic_1 ?_
  refine V_iadd (pc := 1141) h dL_law_1141 ?_
  refine V_sld (pc := 1142) h hX hbl hbA (inx (t := 1) hi hL (by omega)) dL_law_1142 ?_
  refine V_aload_n (pc := 1143) h 0 dL_law_1143 rfl ?_
  refine V_iload (pc := 1144) h 4 dL_law_1144 rfl ?_
  refine V_iconst (pc := 1146) h dL_law_1146 ic_2 ?_
  refine V_iadd (pc := 1147) h dL_law_1147 ?_
  refine V_sld (pc := 1148) h hX hbl hbA (inx (t := 2) hi hL (by omega)) dL_law_1148 ?_
  refine V_ws _ wl_1 ?_
  refine V_mid (pre := [outc (gK G) out o0] ++ wx2) (mid := wm) (post := []) (pc := 1149) h _ cM mf_M_when lk_RL_147 im_M_when se_M_when ⟨Nat.le_of_ble_eq_true rfl, Nat.le_of_ble_eq_true rfl⟩ hkn (by rw [List.length_append, n3, n2]; rfl) (f4.trans f2.symm) g2 rfl rfl rfl (Nat.le_of_ble_eq_true rfl) [.int r, .int r] rfl dL_law_1149 ?_
  refine V_ws _ wl_2 ?_
  exact V_icmp_eq (pc := 1152) h 1412 dL_law_1152 (by decide) (fun _ => z wx2 wm2 hr2) (fun hn => absurd rfl hn)
set_option maxRecDepth 4000 in
theorem lc_sheds {G : Gm} {b L : Nat} {xs : Nat → Int32} (O : LawOk G b L xs) {a a2 : Nat → Nat} {out : Nat} {o0 : Nat → Int64} {k n : Nat} (hkn : k ≤ room_1.cells ∧ n ≤ room_1.slots) {i : Nat} (hi : i + 7 ≤ L) {wx wm : va_W} (hr : Rel (gK G) a a2 wx wm) (z : ∀ wx2 wm2, Rel (gK G) a a2 wx2 wm2 → V G k n (wsL G out o0 wx2 wm2) 1412 (lvL b (a 0) (a2 0) out i) []) : V G k n (wsL G out o0 wx wm) 1157 (lvL b (a 0) (a2 0) out i) [] := by
  obtain ⟨h, hX, hbl, hbA, hL, -, -, -⟩ := O
  obtain ⟨f1, ⟨fs1, g1⟩, f2, ⟨fs2, g2⟩⟩ := Rel_at hr
  have n1 : wx.length = 68 := by simpa using congrArg List.length f1
  have n2 : wm.length = 30 := by simpa using congrArg List.length f2
  obtain ⟨r, wx2, wm2, cX, cM, hr2⟩ := k_sheds (F := 301) (by decide) hr (xs (zI (i : Int) + 1).toNatClampNeg)
  obtain ⟨f3, -, f4, -⟩ := Rel_at hr2
  have n3 : wx2.length = 68 := by simpa using congrArg List.length f3
  refine V_aload_n (pc := 1157) h 1 dL_law_1157 rfl ?_
  refine V_aload_n (pc := 1158) h 0 dL_law_1158 rfl ?_
  refine V_iload (pc := 1159) h 4 dL_law_1159 rfl ?_
  refine V_iconst (pc := 1161) h dL_law_1161 ic_1 ?_
  refine V_iadd (pc := 1162) h dL_law_1162 ?_
  refine V_sld (pc := 1163) h hX hbl hbA (inx (t := 1) hi hL (by omega)) dL_law_1163 ?_
  refine V_mid (pre := [outc (gK G) out o0]) (mid := wx) (post := wm) (pc := 1164) h _ cX mf_X_sheds lk_RL_148 im_X_sheds se_X_sheds ⟨Nat.le_of_ble_eq_true rfl, Nat.le_of_ble_eq_true rfl⟩ hkn (by rw [n1]; rfl) (f3.trans f1.symm) g1 rfl rfl rfl (Nat.le_of_ble_eq_true rfl) [.int r] rfl dL_law_1164 ?_
  refine V_aload_n (pc := 1167) h 2 dL_law_1167 rfl ?_
  refine V_aload_n (pc := 1168) h 0 dL_law_1168 rfl ?_
  refine V_iload (pc := 1169) h 4 dL_law_1169 rfl ?_
  refine V_iconst (pc := 1171) h dL_law_1171 ic_1 ?_
  refine V_iadd (pc := 1172) h dL_law_1172 ?_
  refine V_sld (pc := 1173) h hX hbl hbA (inx (t := 1) hi hL (by omega)) dL_law_1173 ?_
  refine V_ws _ wl_1 ?_
  refine V_mid (pre := [outc (gK G) out o0] ++ wx2) (mid := wm) (post := []) (pc := 1174) h _ cM mf_M_sheds lk_RL_151 im_M_sheds se_M_sheds ⟨Nat.le_of_ble_eq_true rfl, Nat.le_of_ble_eq_true rfl⟩ hkn (by rw [List.length_append, n3, n2]; rfl) (f4.trans f2.symm) g2 rfl rfl rfl (Nat.le_of_ble_eq_true rfl) [.int r, .int r] rfl dL_law_1174 ?_
  refine V_ws _ wl_2 ?_
  exact V_icmp_eq (pc := 1177) h 1412 dL_law_1177 (by decide) (fun _ => z wx2 wm2 hr2) (fun hn => absurd rfl hn)
set_option maxRecDepth 4000 in
theorem lc_replays {G : Gm} {b L : Nat} {xs : Nat → Int32} (O : LawOk G b L xs) {a a2 : Nat → Nat} {out : Nat} {o0 : Nat → Int64} {k n : Nat} (hkn : k ≤ room_1.cells ∧ n ≤ room_1.slots) {i : Nat} (hi : i + 7 ≤ L) {wx wm : va_W} (hr : Rel (gK G) a a2 wx wm) (z : ∀ wx2 wm2, Rel (gK G) a a2 wx2 wm2 → V G k n (wsL G out o0 wx2 wm2) 1412 (lvL b (a 0) (a2 0) out i) []) : V G k n (wsL G out o0 wx wm) 1182 (lvL b (a 0) (a2 0) out i) [] := by
  obtain ⟨h, hX, hbl, hbA, hL, -, -, -⟩ := O
  obtain ⟨f1, ⟨fs1, g1⟩, f2, ⟨fs2, g2⟩⟩ := Rel_at hr
  have n1 : wx.length = 68 := by simpa using congrArg List.length f1
  have n2 : wm.length = 30 := by simpa using congrArg List.length f2
  obtain ⟨r, wx2, wm2, cX, cM, hr2⟩ := k_replays (F := 301) (by decide) hr 
  obtain ⟨f3, -, f4, -⟩ := Rel_at hr2
  have n3 : wx2.length = 68 := by simpa using congrArg List.length f3
  refine V_aload_n (pc := 1182) h 1 dL_law_1182 rfl ?_
  refine V_mid (pre := [outc (gK G) out o0]) (mid := wx) (post := wm) (pc := 1183) h _ cX mf_X_replays lk_RL_152 im_X_replays se_X_replays ⟨Nat.le_of_ble_eq_true rfl, Nat.le_of_ble_eq_true rfl⟩ hkn (by rw [n1]; rfl) (f3.trans f1.symm) g1 rfl rfl rfl (Nat.le_of_ble_eq_true rfl) [.int r] rfl dL_law_1183 ?_
  refine V_aload_n (pc := 1186) h 2 dL_law_1186 rfl ?_
  refine V_ws _ wl_1 ?_
  refine V_mid (pre := [outc (gK G) out o0] ++ wx2) (mid := wm) (post := []) (pc := 1187) h _ cM mf_M_replays lk_RL_155 im_M_replays se_M_replays ⟨Nat.le_of_ble_eq_true rfl, Nat.le_of_ble_eq_true rfl⟩ hkn (by rw [List.length_append, n3, n2]; rfl) (f4.trans f2.symm) g2 rfl rfl rfl (Nat.le_of_ble_eq_true rfl) [.int r, .int r] rfl dL_law_1187 ?_
  refine V_ws _ wl_2 ?_
  exact V_icmp_eq (pc := 1190) h 1412 dL_law_1190 (by decide) (fun _ => z wx2 wm2 hr2) (fun hn => absurd rfl hn)
set_option maxRecDepth 4000 in
theorem lc_without {G : Gm} {b L : Nat} {xs : Nat → Int32} (O : LawOk G b L xs) {a a2 : Nat → Nat} {out : Nat} {o0 : Nat → Int64} {k n : Nat} (hkn : k ≤ room_1.cells ∧ n ≤ room_1.slots) {i : Nat} (hi : i + 7 ≤ L) {wx wm : va_W} (hr : Rel (gK G) a a2 wx wm) (z : ∀ wx2 wm2, Rel (gK G) a a2 wx2 wm2 → V G k n (wsL G out o0 wx2 wm2) 1412 (lvL b (a 0) (a2 0) out i) []) : V G k n (wsL G out o0 wx wm) 1195 (lvL b (a 0) (a2 0) out i) [] := by
  obtain ⟨h, hX, hbl, hbA, hL, -, -, -⟩ := O
  obtain ⟨f1, ⟨fs1, g1⟩, f2, ⟨fs2, g2⟩⟩ := Rel_at hr
  have n1 : wx.length = 68 := by simpa using congrArg List.length f1
  have n2 : wm.length = 30 := by simpa using congrArg List.length f2
  obtain ⟨r, wx2, wm2, cX, cM, hr2⟩ := k_without (F := 301) (by decide) hr (xs (zI (i : Int) + 1).toNatClampNeg)
  obtain ⟨f3, -, f4, -⟩ := Rel_at hr2
  have n3 : wx2.length = 68 := by simpa using congrArg List.length f3
  refine V_aload_n (pc := 1195) h 1 dL_law_1195 rfl ?_
  refine V_aload_n (pc := 1196) h 0 dL_law_1196 rfl ?_
  refine V_iload (pc := 1197) h 4 dL_law_1197 rfl ?_
  refine V_iconst (pc := 1199) h dL_law_1199 ic_1 ?_
  refine V_iadd (pc := 1200) h dL_law_1200 ?_
  refine V_sld (pc := 1201) h hX hbl hbA (inx (t := 1) hi hL (by omega)) dL_law_1201 ?_
  refine V_mid (pre := [outc (gK G) out o0]) (mid := wx) (post := wm) (pc := 1202) h _ cX mf_X_without lk_RL_156 im_X_without se_X_without ⟨Nat.le_of_ble_eq_true rfl, Nat.le_of_ble_eq_true rfl⟩ hkn (by rw [n1]; rfl) (f3.trans f1.symm) g1 rfl rfl rfl (Nat.le_of_ble_eq_true rfl) [.int r] rfl dL_law_1202 ?_
  refine V_aload_n (pc := 1205) h 2 dL_law_1205 rfl ?_
  refine V_aload_n (pc := 1206) h 0 dL_law_1206 rfl ?_
  refine V_iload (pc := 1207) h 4 dL_law_1207 rfl ?_
  refine V_iconst (pc := 1209) h dL_law_1209 ic_1 ?_
  refine V_iadd (pc := 1210) h dL_law_1210 ?_
  refine V_sld (pc := 1211) h hX hbl hbA (inx (t := 1) hi hL (by omega)) dL_law_1211 ?_
  refine V_ws _ wl_1 ?_
  refine V_mid (pre := [outc (gK G) out o0] ++ wx2) (mid := wm) (post := []) (pc := 1212) h _ cM mf_M_without lk_RL_159 im_M_without se_M_without ⟨Nat.le_of_ble_eq_true rfl, Nat.le_of_ble_eq_true rfl⟩ hkn (by rw [List.length_append, n3, n2]; rfl) (f4.trans f2.symm) g2 rfl rfl rfl (Nat.le_of_ble_eq_true rfl) [.int r, .int r] rfl dL_law_1212 ?_
  refine V_ws _ wl_2 ?_
  exact V_icmp_eq (pc := 1215) h 1412 dL_law_1215 (by decide) (fun _ => z wx2 wm2 hr2) (fun hn => absurd rfl hn)
set_option maxRecDepth 4000 in
theorem lc_tunes {G : Gm} {b L : Nat} {xs : Nat → Int32} (O : LawOk G b L xs) {a a2 : Nat → Nat} {out : Nat} {o0 : Nat → Int64} {k n : Nat} (hkn : k ≤ room_1.cells ∧ n ≤ room_1.slots) {i : Nat} (hi : i + 7 ≤ L) {wx wm : va_W} (hr : Rel (gK G) a a2 wx wm) (z : ∀ wx2 wm2, Rel (gK G) a a2 wx2 wm2 → V G k n (wsL G out o0 wx2 wm2) 1412 (lvL b (a 0) (a2 0) out i) []) : V G k n (wsL G out o0 wx wm) 1220 (lvL b (a 0) (a2 0) out i) [] := by
  obtain ⟨h, hX, hbl, hbA, hL, -, -, -⟩ := O
  obtain ⟨f1, ⟨fs1, g1⟩, f2, ⟨fs2, g2⟩⟩ := Rel_at hr
  have n1 : wx.length = 68 := by simpa using congrArg List.length f1
  have n2 : wm.length = 30 := by simpa using congrArg List.length f2
  obtain ⟨r, wx2, wm2, cX, cM, hr2⟩ := k_tunes (F := 301) (by decide) hr (xs (zI (i : Int) + 1).toNatClampNeg)
  obtain ⟨f3, -, f4, -⟩ := Rel_at hr2
  have n3 : wx2.length = 68 := by simpa using congrArg List.length f3
  refine V_aload_n (pc := 1220) h 1 dL_law_1220 rfl ?_
  refine V_aload_n (pc := 1221) h 0 dL_law_1221 rfl ?_
  refine V_iload (pc := 1222) h 4 dL_law_1222 rfl ?_
  refine V_iconst (pc := 1224) h dL_law_1224 ic_1 ?_
  refine V_iadd (pc := 1225) h dL_law_1225 ?_
  refine V_sld (pc := 1226) h hX hbl hbA (inx (t := 1) hi hL (by omega)) dL_law_1226 ?_
  refine V_mid (pre := [outc (gK G) out o0]) (mid := wx) (post := wm) (pc := 1227) h _ cX mf_X_tunes lk_RL_160 im_X_tunes se_X_tunes ⟨Nat.le_of_ble_eq_true rfl, Nat.le_of_ble_eq_true rfl⟩ hkn (by rw [n1]; rfl) (f3.trans f1.symm) g1 rfl rfl rfl (Nat.le_of_ble_eq_true rfl) [.int r] rfl dL_law_1227 ?_
  refine V_aload_n (pc := 1230) h 2 dL_law_1230 rfl ?_
  refine V_aload_n (pc := 1231) h 0 dL_law_1231 rfl ?_
  refine V_iload (pc := 1232) h 4 dL_law_1232 rfl ?_
  refine V_iconst (pc := 1234) h dL_law_1234 ic_1 ?_
  refine V_iadd (pc := 1235) h dL_law_1235 ?_
  refine V_sld (pc := 1236) h hX hbl hbA (inx (t := 1) hi hL (by omega)) dL_law_1236 ?_
  refine V_ws _ wl_1 ?_
  refine V_mid (pre := [outc (gK G) out o0] ++ wx2) (mid := wm) (post := []) (pc := 1237) h _ cM mf_M_tunes lk_RL_163 im_M_tunes se_M_tunes ⟨Nat.le_of_ble_eq_true rfl, Nat.le_of_ble_eq_true rfl⟩ hkn (by rw [List.length_append, n3, n2]; rfl) (f4.trans f2.symm) g2 rfl rfl rfl (Nat.le_of_ble_eq_true rfl) [.int r, .int r] rfl dL_law_1237 ?_
  refine V_ws _ wl_2 ?_
  exact V_icmp_eq (pc := 1240) h 1412 dL_law_1240 (by decide) (fun _ => z wx2 wm2 hr2) (fun hn => absurd rfl hn)
set_option maxRecDepth 4000 in
theorem lc_arranges {G : Gm} {b L : Nat} {xs : Nat → Int32} (O : LawOk G b L xs) {a a2 : Nat → Nat} {out : Nat} {o0 : Nat → Int64} {k n : Nat} (hkn : k ≤ room_1.cells ∧ n ≤ room_1.slots) {i : Nat} (hi : i + 7 ≤ L) {wx wm : va_W} (hr : Rel (gK G) a a2 wx wm) (z : ∀ wx2 wm2, Rel (gK G) a a2 wx2 wm2 → V G k n (wsL G out o0 wx2 wm2) 1412 (lvL b (a 0) (a2 0) out i) []) : V G k n (wsL G out o0 wx wm) 1245 (lvL b (a 0) (a2 0) out i) [] := by
  obtain ⟨h, hX, hbl, hbA, hL, -, -, -⟩ := O
  obtain ⟨f1, ⟨fs1, g1⟩, f2, ⟨fs2, g2⟩⟩ := Rel_at hr
  have n1 : wx.length = 68 := by simpa using congrArg List.length f1
  have n2 : wm.length = 30 := by simpa using congrArg List.length f2
  obtain ⟨r, wx2, wm2, cX, cM, hr2⟩ := k_arranges (F := 301) (by decide) hr 
  obtain ⟨f3, -, f4, -⟩ := Rel_at hr2
  have n3 : wx2.length = 68 := by simpa using congrArg List.length f3
  refine V_aload_n (pc := 1245) h 1 dL_law_1245 rfl ?_
  refine V_mid (pre := [outc (gK G) out o0]) (mid := wx) (post := wm) (pc := 1246) h _ cX mf_X_arranges lk_RL_164 im_X_arranges se_X_arranges ⟨Nat.le_of_ble_eq_true rfl, Nat.le_of_ble_eq_true rfl⟩ hkn (by rw [n1]; rfl) (f3.trans f1.symm) g1 rfl rfl rfl (Nat.le_of_ble_eq_true rfl) [.int r] rfl dL_law_1246 ?_
  refine V_aload_n (pc := 1249) h 2 dL_law_1249 rfl ?_
  refine V_ws _ wl_1 ?_
  refine V_mid (pre := [outc (gK G) out o0] ++ wx2) (mid := wm) (post := []) (pc := 1250) h _ cM mf_M_arranges lk_RL_167 im_M_arranges se_M_arranges ⟨Nat.le_of_ble_eq_true rfl, Nat.le_of_ble_eq_true rfl⟩ hkn (by rw [List.length_append, n3, n2]; rfl) (f4.trans f2.symm) g2 rfl rfl rfl (Nat.le_of_ble_eq_true rfl) [.int r, .int r] rfl dL_law_1250 ?_
  refine V_ws _ wl_2 ?_
  exact V_icmp_eq (pc := 1253) h 1412 dL_law_1253 (by decide) (fun _ => z wx2 wm2 hr2) (fun hn => absurd rfl hn)
set_option maxRecDepth 4000 in
theorem lc_fits {G : Gm} {b L : Nat} {xs : Nat → Int32} (O : LawOk G b L xs) {a a2 : Nat → Nat} {out : Nat} {o0 : Nat → Int64} {k n : Nat} (hkn : k ≤ room_1.cells ∧ n ≤ room_1.slots) {i : Nat} (hi : i + 7 ≤ L) {wx wm : va_W} (hr : Rel (gK G) a a2 wx wm) (z : ∀ wx2 wm2, Rel (gK G) a a2 wx2 wm2 → V G k n (wsL G out o0 wx2 wm2) 1412 (lvL b (a 0) (a2 0) out i) []) : V G k n (wsL G out o0 wx wm) 1258 (lvL b (a 0) (a2 0) out i) [] := by
  obtain ⟨h, hX, hbl, hbA, hL, -, -, -⟩ := O
  obtain ⟨f1, ⟨fs1, g1⟩, f2, ⟨fs2, g2⟩⟩ := Rel_at hr
  have n1 : wx.length = 68 := by simpa using congrArg List.length f1
  have n2 : wm.length = 30 := by simpa using congrArg List.length f2
  obtain ⟨r, wx2, wm2, cX, cM, hr2⟩ := k_fits (F := 301) (by decide) hr (xs (zI (i : Int) + 1).toNatClampNeg)
  obtain ⟨f3, -, f4, -⟩ := Rel_at hr2
  have n3 : wx2.length = 68 := by simpa using congrArg List.length f3
  refine V_aload_n (pc := 1258) h 1 dL_law_1258 rfl ?_
  refine V_aload_n (pc := 1259) h 0 dL_law_1259 rfl ?_
  refine V_iload (pc := 1260) h 4 dL_law_1260 rfl ?_
  refine V_iconst (pc := 1262) h dL_law_1262 ic_1 ?_
  refine V_iadd (pc := 1263) h dL_law_1263 ?_
  refine V_sld (pc := 1264) h hX hbl hbA (inx (t := 1) hi hL (by omega)) dL_law_1264 ?_
  refine V_mid (pre := [outc (gK G) out o0]) (mid := wx) (post := wm) (pc := 1265) h _ cX mf_X_fits lk_RL_168 im_X_fits se_X_fits ⟨Nat.le_of_ble_eq_true rfl, Nat.le_of_ble_eq_true rfl⟩ hkn (by rw [n1]; rfl) (f3.trans f1.symm) g1 rfl rfl rfl (Nat.le_of_ble_eq_true rfl) [.int r] rfl dL_law_1265 ?_
  refine V_aload_n (pc := 1268) h 2 dL_law_1268 rfl ?_
  refine V_aload_n (pc := 1269) h 0 dL_law_1269 rfl ?_
  refine V_iload (pc := 1270) h 4 dL_law_1270 rfl ?_
  refine V_iconst (pc := 1272) h dL_law_1272 ic_1 ?_
  refine V_iadd (pc := 1273) h dL_law_1273 ?_
  refine V_sld (pc := 1274) h hX hbl hbA (inx (t := 1) hi hL (by omega)) dL_law_1274 ?_
  refine V_ws _ wl_1 ?_
  refine V_mid (pre := [outc (gK G) out o0] ++ wx2) (mid := wm) (post := []) (pc := 1275) h _ cM mf_M_fits lk_RL_171 im_M_fits se_M_fits ⟨Nat.le_of_ble_eq_true rfl, Nat.le_of_ble_eq_true rfl⟩ hkn (by rw [List.length_append, n3, n2]; rfl) (f4.trans f2.symm) g2 rfl rfl rfl (Nat.le_of_ble_eq_true rfl) [.int r, .int r] rfl dL_law_1275 ?_
  refine V_ws _ wl_2 ?_
  exact V_icmp_eq (pc := 1278) h 1412 dL_law_1278 (by decide) (fun _ => z wx2 wm2 hr2) (fun hn => absurd rfl hn)
set_option maxRecDepth 4000 in
theorem lc_chance {G : Gm} {b L : Nat} {xs : Nat → Int32} (O : LawOk G b L xs) {a a2 : Nat → Nat} {out : Nat} {o0 : Nat → Int64} {k n : Nat} (hkn : k ≤ room_1.cells ∧ n ≤ room_1.slots) {i : Nat} (hi : i + 7 ≤ L) {wx wm : va_W} (hr : Rel (gK G) a a2 wx wm) (z : ∀ wx2 wm2, Rel (gK G) a a2 wx2 wm2 → V G k n (wsL G out o0 wx2 wm2) 1412 (lvL b (a 0) (a2 0) out i) []) : V G k n (wsL G out o0 wx wm) 1283 (lvL b (a 0) (a2 0) out i) [] := by
  obtain ⟨h, hX, hbl, hbA, hL, -, -, -⟩ := O
  obtain ⟨f1, ⟨fs1, g1⟩, f2, ⟨fs2, g2⟩⟩ := Rel_at hr
  have n1 : wx.length = 68 := by simpa using congrArg List.length f1
  have n2 : wm.length = 30 := by simpa using congrArg List.length f2
  obtain ⟨r, wx2, wm2, cX, cM, hr2⟩ := k_chance (F := 301) (by decide) hr (xs (zI (i : Int) + 1).toNatClampNeg) (xs (zI (i : Int) + 2).toNatClampNeg) (xs (zI (i : Int) + 3).toNatClampNeg)
  obtain ⟨f3, -, f4, -⟩ := Rel_at hr2
  have n3 : wx2.length = 68 := by simpa using congrArg List.length f3
  refine V_aload_n (pc := 1283) h 1 dL_law_1283 rfl ?_
  refine V_aload_n (pc := 1284) h 0 dL_law_1284 rfl ?_
  refine V_iload (pc := 1285) h 4 dL_law_1285 rfl ?_
  refine V_iconst (pc := 1287) h dL_law_1287 ic_1 ?_
  refine V_iadd (pc := 1288) h dL_law_1288 ?_
  refine V_sld (pc := 1289) h hX hbl hbA (inx (t := 1) hi hL (by omega)) dL_law_1289 ?_
  refine V_aload_n (pc := 1290) h 0 dL_law_1290 rfl ?_
  refine V_iload (pc := 1291) h 4 dL_law_1291 rfl ?_
  refine V_iconst (pc := 1293) h dL_law_1293 ic_2 ?_
  refine V_iadd (pc := 1294) h dL_law_1294 ?_
  refine V_sld (pc := 1295) h hX hbl hbA (inx (t := 2) hi hL (by omega)) dL_law_1295 ?_
  refine V_aload_n (pc := 1296) h 0 dL_law_1296 rfl ?_
  refine V_iload (pc := 1297) h 4 dL_law_1297 rfl ?_
  refine V_iconst (pc := 1299) h dL_law_1299 ic_3 ?_
  refine V_iadd (pc := 1300) h dL_law_1300 ?_
  refine V_sld (pc := 1301) h hX hbl hbA (inx (t := 3) hi hL (by omega)) dL_law_1301 ?_
  refine V_mid (pre := [outc (gK G) out o0]) (mid := wx) (post := wm) (pc := 1302) h _ cX mf_X_chance lk_RL_172 im_X_chance se_X_chance ⟨Nat.le_of_ble_eq_true rfl, Nat.le_of_ble_eq_true rfl⟩ hkn (by rw [n1]; rfl) (f3.trans f1.symm) g1 rfl rfl rfl (Nat.le_of_ble_eq_true rfl) [.int r] rfl dL_law_1302 ?_
  refine V_aload_n (pc := 1305) h 2 dL_law_1305 rfl ?_
  refine V_aload_n (pc := 1306) h 0 dL_law_1306 rfl ?_
  refine V_iload (pc := 1307) h 4 dL_law_1307 rfl ?_
  refine V_iconst (pc := 1309) h dL_law_1309 ic_1 ?_
  refine V_iadd (pc := 1310) h dL_law_1310 ?_
  refine V_sld (pc := 1311) h hX hbl hbA (inx (t := 1) hi hL (by omega)) dL_law_1311 ?_
  refine V_aload_n (pc := 1312) h 0 dL_law_1312 rfl ?_
  refine V_iload (pc := 1313) h 4 dL_law_1313 rfl ?_
  refine V_iconst (pc := 1315) h dL_law_1315 ic_2 ?_
  refine V_iadd (pc := 1316) h dL_law_1316 ?_
  refine V_sld (pc := 1317) h hX hbl hbA (inx (t := 2) hi hL (by omega)) dL_law_1317 ?_
  refine V_aload_n (pc := 1318) h 0 dL_law_1318 rfl ?_
  refine V_iload (pc := 1319) h 4 dL_law_1319 rfl ?_
  refine V_iconst (pc := 1321) h dL_law_1321 ic_3 ?_
  refine V_iadd (pc := 1322) h dL_law_1322 ?_
  refine V_sld (pc := 1323) h hX hbl hbA (inx (t := 3) hi hL (by omega)) dL_law_1323 ?_
  refine V_ws _ wl_1 ?_
  refine V_mid (pre := [outc (gK G) out o0] ++ wx2) (mid := wm) (post := []) (pc := 1324) h _ cM mf_M_chance lk_RL_175 im_M_chance se_M_chance ⟨Nat.le_of_ble_eq_true rfl, Nat.le_of_ble_eq_true rfl⟩ hkn (by rw [List.length_append, n3, n2]; rfl) (f4.trans f2.symm) g2 rfl rfl rfl (Nat.le_of_ble_eq_true rfl) [.int r, .int r] rfl dL_law_1324 ?_
  refine V_ws _ wl_2 ?_
  exact V_icmp_eq (pc := 1327) h 1412 dL_law_1327 (by decide) (fun _ => z wx2 wm2 hr2) (fun hn => absurd rfl hn)
set_option maxRecDepth 4000 in
theorem lc_count {G : Gm} {b L : Nat} {xs : Nat → Int32} (O : LawOk G b L xs) {a a2 : Nat → Nat} {out : Nat} {o0 : Nat → Int64} {k n : Nat} (hkn : k ≤ room_1.cells ∧ n ≤ room_1.slots) {i : Nat} (hi : i + 7 ≤ L) {wx wm : va_W} (hr : Rel (gK G) a a2 wx wm) (z : ∀ wx2 wm2, Rel (gK G) a a2 wx2 wm2 → V G k n (wsL G out o0 wx2 wm2) 1412 (lvL b (a 0) (a2 0) out i) []) : V G k n (wsL G out o0 wx wm) 1332 (lvL b (a 0) (a2 0) out i) [] := by
  obtain ⟨h, hX, hbl, hbA, hL, -, -, -⟩ := O
  obtain ⟨f1, ⟨fs1, g1⟩, f2, ⟨fs2, g2⟩⟩ := Rel_at hr
  have n1 : wx.length = 68 := by simpa using congrArg List.length f1
  have n2 : wm.length = 30 := by simpa using congrArg List.length f2
  obtain ⟨r, wx2, wm2, cX, cM, hr2⟩ := k_count (F := 301) (by decide) hr (xs (zI (i : Int) + 1).toNatClampNeg)
  obtain ⟨f3, -, f4, -⟩ := Rel_at hr2
  have n3 : wx2.length = 68 := by simpa using congrArg List.length f3
  refine V_aload_n (pc := 1332) h 1 dL_law_1332 rfl ?_
  refine V_aload_n (pc := 1333) h 0 dL_law_1333 rfl ?_
  refine V_iload (pc := 1334) h 4 dL_law_1334 rfl ?_
  refine V_iconst (pc := 1336) h dL_law_1336 ic_1 ?_
  refine V_iadd (pc := 1337) h dL_law_1337 ?_
  refine V_sld (pc := 1338) h hX hbl hbA (inx (t := 1) hi hL (by omega)) dL_law_1338 ?_
  refine V_mid (pre := [outc (gK G) out o0]) (mid := wx) (post := wm) (pc := 1339) h _ cX mf_X_count lk_RL_176 im_X_count se_X_count ⟨Nat.le_of_ble_eq_true rfl, Nat.le_of_ble_eq_true rfl⟩ hkn (by rw [n1]; rfl) (f3.trans f1.symm) g1 rfl rfl rfl (Nat.le_of_ble_eq_true rfl) [.int r] rfl dL_law_1339 ?_
  refine V_aload_n (pc := 1342) h 2 dL_law_1342 rfl ?_
  refine V_aload_n (pc := 1343) h 0 dL_law_1343 rfl ?_
  refine V_iload (pc := 1344) h 4 dL_law_1344 rfl ?_
  refine V_iconst (pc := 1346) h dL_law_1346 ic_1 ?_
  refine V_iadd (pc := 1347) h dL_law_1347 ?_
  refine V_sld (pc := 1348) h hX hbl hbA (inx (t := 1) hi hL (by omega)) dL_law_1348 ?_
  refine V_ws _ wl_1 ?_
  refine V_mid (pre := [outc (gK G) out o0] ++ wx2) (mid := wm) (post := []) (pc := 1349) h _ cM mf_M_count lk_RL_179 im_M_count se_M_count ⟨Nat.le_of_ble_eq_true rfl, Nat.le_of_ble_eq_true rfl⟩ hkn (by rw [List.length_append, n3, n2]; rfl) (f4.trans f2.symm) g2 rfl rfl rfl (Nat.le_of_ble_eq_true rfl) [.int r, .int r] rfl dL_law_1349 ?_
  refine V_ws _ wl_2 ?_
  exact V_icmp_eq (pc := 1352) h 1412 dL_law_1352 (by decide) (fun _ => z wx2 wm2 hr2) (fun hn => absurd rfl hn)
