/-! the law, case by case -/
set_option maxRecDepth 100000 in
theorem lc_0 {X : xX} (hX : xBase X) {V : xT} {mc ms : Nat} (hE : xEng X m_L_law 12 mc ms V) {b L : Nat} {xs : Nat → Int32} (hs : LSc X b L xs) {c : xCx} {I : xIn} (hA : c.2.2.2 (2, 9) = b) {i : Nat} (hi : i + 7 ≤ L) {k n mc9 ms9 : Nat} (hk : k + mc9 ≤ mc) (hn : n + ms9 ≤ ms) {F : Int × Int} {C9 D9 : xIn → xCx → Prop} (hW : xMet X m_L_net 11 [xr (0, 0), xi (sx xs (i + 1)), xr (2, 0)] (I, xst c) mc9 ms9 (wPost c F.2 (fun c9 => c9.2.1 (2, 0) 0 = (Int32.ofInt F.1).toInt64) C9)) (hR : ∀ I9 c9, C9 I9 c9 → xRet rI X m_X10_net 11 [xr (1, 0), xi (sx xs (i + 1))] c9 I9 0 0 (fun v J => D9 J c9 ∧ (v, J (1, 0) 32) = F) xNo) (next : ∀ J c9, D9 J c9 → (∀ p : xP, p.1 < 3 → c9.2.2.2 p = c.2.2.2 p) → V 3918 [(0, xr (2, 9)), (1, xr (0, 0)), (2, xr (1, 0)), (3, xr (2, 0)), (4, xr (2, 1)), (5, xi (i : Int))] [] (J, xst c9) (k + mc9) (n + ms9)) : V 260 [(0, xr (2, 9)), (1, xr (0, 0)), (2, xr (1, 0)), (3, xr (2, 0)), (4, xr (2, 1)), (5, xi (i : Int))] [] (I, xst c) k n := by
  refine x_aload_n (pc := 260) (j := 1) hE dL_law_260 rfl ?_
  refine x_aload_n (pc := 261) (j := 0) hE dL_law_261 rfl ?_
  refine x_iload (pc := 262) (j := 5) hE dL_law_262 rfl ?_
  refine x_iconst (pc := 264) hE dL_law_264 ?_
  refine x_iadd (pc := 265) hE dL_law_265 ?_
  refine x_sld (pc := 266) hE hs dL_law_266 hA (m := i + 1) (by omega) (by omega) ?_
  refine x_aload_n (pc := 267) (j := 3) hE dL_law_267 rfl ?_
  refine x_cw (pc := 268) (as := [xr (0, 0), xi (sx xs (i + 1)), xr (2, 0)]) hE hW dL_law_268 pl_L_net lk_RL_171 rfl (Nat.le_refl _) hk hn rfl ?_
  intro I1 c1 hO hA9 hC9
  have hA2 : c1.2.2.2 (2, 9) = b := (hA9 _ (by decide)).trans hA
  refine x_istore (pc := 271) (lo9 := [(6, xi F.2), (0, xr (2, 9)), (1, xr (0, 0)), (2, xr (1, 0)), (3, xr (2, 0)), (4, xr (2, 1)), (5, xi (i : Int))]) hE dL_law_271 (by decide) rfl ?_
  refine x_aload_n (pc := 273) (j := 3) hE dL_law_273 rfl ?_
  refine x_aload_n (pc := 274) (j := 1) hE dL_law_274 rfl ?_
  refine x_iload (pc := 275) (j := 6) hE dL_law_275 rfl ?_
  refine x_iconst (pc := 277) hE dL_law_277 ?_
  refine x_iadd (pc := 278) hE dL_law_278 ?_
  refine x_sld (pc := 279) hE hs dL_law_279 hA2 (m := i + 1) (by omega) (by omega) ?_
  refine x_cr (pc := 280) (q := (1, 0)) (as := [xi (sx xs (i + 1))]) (st := []) hE dL_law_280 pl_X10_net lk_RL_176 rfl (lvm1 _ (by decide)) rfl rfl (Nat.le_refl _) hk hn (Nat.le_of_ble_eq_true rfl) (hR I1 c1 hC9) ?_
  rintro v J9 ⟨hD9, hF⟩
  obtain ⟨e1, e2⟩ : v = F.1 ∧ J9 (1, 0) 32 = F.2 := ⟨congrArg Prod.fst hF, congrArg Prod.snd hF⟩
  subst e1
  refine x_istore (pc := 283) (lo9 := [(7, xi F.1), (6, xi F.2), (0, xr (2, 9)), (1, xr (0, 0)), (2, xr (1, 0)), (3, xr (2, 0)), (4, xr (2, 1)), (5, xi (i : Int))]) hE dL_law_283 (by decide) rfl ?_
  refine x_aload_n (pc := 285) (j := 4) hE dL_law_285 rfl ?_
  refine x_cr (pc := 286) (q := (1, 0)) (as := []) (st := []) hE dL_law_286 pl_X10_thrown lk_RL_177 rfl (lvm1 _ (by decide)) rfl rfl (Nat.le_refl _) hk hn (Nat.le_of_ble_eq_true rfl) (ok_thrown hX 11) ?_
  rintro t9 J9 ⟨rfl, rfl⟩
  show V 289 [(7, xi F.1), (6, xi F.2), (0, xr (2, 9)), (1, xr (0, 0)), (2, xr (1, 0)), (3, xr (2, 0)), (4, xr (2, 1)), (5, xi (i : Int))] [xi (J9 (1, 0) 32)] (J9, xst c1) _ _
  rw [e2]
  refine x_iload (pc := 289) (j := 1) hE dL_law_289 rfl ?_
  refine x_icmp_same (pc := 291) (tgt := 296) hE dL_law_291 rfl ?_
  refine x_iload (pc := 296) (j := 1) hE dL_law_296 rfl ?_
  refine x_in hE (fun hI9 => ?_)
  have hx : xin F.2 := e2 ▸ hI9 (1, 0) 32
  refine x_if_ne (pc := 298) (tgt := 313) hE dL_law_298 rfl hx (fun _ => x_goto (pc := 313) (tgt := 3918) hE dL_law_313 rfl (x_loc hE [2, 3, 4, 5, 6, 7] rfl (next _ _ hD9 hA9))) (fun hz0 => ?_)
  refine x_aload_n (pc := 301) (j := 5) hE dL_law_301 rfl ?_
  refine x_iconst (pc := 302) hE dL_law_302 ?_
  refine x_laload (pc := 303) (nn := 1) hE dL_law_303 rfl (lvm2 _ (by decide)) (by decide) (by decide) ?_
  show V 304 [(7, xi F.1), (6, xi F.2), (0, xr (2, 9)), (1, xr (0, 0)), (2, xr (1, 0)), (3, xr (2, 0)), (4, xr (2, 1)), (5, xi (i : Int))] [xl (c1.2.1 (2, 0) 0)] (J9, xst c1) _ _
  rw [hO hz0]
  refine x_iload (pc := 304) (j := 0) hE dL_law_304 rfl ?_
  refine x_i2l (pc := 306) hE dL_law_306 ?_
  refine x_lcmp (pc := 307) hE dL_law_307 ?_
  rw [lg_same]
  exact x_if_eq (pc := 308) (tgt := 313) hE dL_law_308 rfl (by decide) (fun _ => x_goto (pc := 313) (tgt := 3918) hE dL_law_313 rfl (x_loc hE [2, 3, 4, 5, 6, 7] rfl (next _ _ hD9 hA9))) (fun h => absurd rfl h)

set_option maxRecDepth 100000 in
theorem lc_1 {X : xX} (hX : xBase X) {V : xT} {mc ms : Nat} (hE : xEng X m_L_law 12 mc ms V) {b L : Nat} {xs : Nat → Int32} (hs : LSc X b L xs) {c : xCx} {I : xIn} (hA : c.2.2.2 (2, 9) = b) {i : Nat} (hi : i + 7 ≤ L) {k n mc9 ms9 : Nat} (hk : k + mc9 ≤ mc) (hn : n + ms9 ≤ ms) {F : Int × Int} {C9 D9 : xIn → xCx → Prop} (hW : xMet X m_L_edge 11 [xr (0, 0), xi (sx xs (i + 1)), xi (sx xs (i + 2)), xi (sx xs (i + 3)), xi (sx xs (i + 4)), xi (sx xs (i + 5)), xi (sx xs (i + 6)), xr (2, 0)] (I, xst c) mc9 ms9 (wPost c F.2 (fun c9 => c9.2.1 (2, 0) 0 = (Int32.ofInt F.1).toInt64) C9)) (hR : ∀ I9 c9, C9 I9 c9 → xRet rI X m_X10_edge 11 [xr (1, 0), xi (sx xs (i + 1)), xi (sx xs (i + 2)), xi (sx xs (i + 3)), xi (sx xs (i + 4)), xi (sx xs (i + 5)), xi (sx xs (i + 6))] c9 I9 0 0 (fun v J => D9 J c9 ∧ (v, J (1, 0) 32) = F) xNo) (next : ∀ J c9, D9 J c9 → (∀ p : xP, p.1 < 3 → c9.2.2.2 p = c.2.2.2 p) → V 3918 [(0, xr (2, 9)), (1, xr (0, 0)), (2, xr (1, 0)), (3, xr (2, 0)), (4, xr (2, 1)), (5, xi (i : Int))] [] (J, xst c9) (k + mc9) (n + ms9)) : V 316 [(0, xr (2, 9)), (1, xr (0, 0)), (2, xr (1, 0)), (3, xr (2, 0)), (4, xr (2, 1)), (5, xi (i : Int))] [] (I, xst c) k n := by
  refine x_aload_n (pc := 316) (j := 1) hE dL_law_316 rfl ?_
  refine x_aload_n (pc := 317) (j := 0) hE dL_law_317 rfl ?_
  refine x_iload (pc := 318) (j := 5) hE dL_law_318 rfl ?_
  refine x_iconst (pc := 320) hE dL_law_320 ?_
  refine x_iadd (pc := 321) hE dL_law_321 ?_
  refine x_sld (pc := 322) hE hs dL_law_322 hA (m := i + 1) (by omega) (by omega) ?_
  refine x_aload_n (pc := 323) (j := 0) hE dL_law_323 rfl ?_
  refine x_iload (pc := 324) (j := 5) hE dL_law_324 rfl ?_
  refine x_iconst (pc := 326) hE dL_law_326 ?_
  refine x_iadd (pc := 327) hE dL_law_327 ?_
  refine x_sld (pc := 328) hE hs dL_law_328 hA (m := i + 2) (by omega) (by omega) ?_
  refine x_aload_n (pc := 329) (j := 0) hE dL_law_329 rfl ?_
  refine x_iload (pc := 330) (j := 5) hE dL_law_330 rfl ?_
  refine x_iconst (pc := 332) hE dL_law_332 ?_
  refine x_iadd (pc := 333) hE dL_law_333 ?_
  refine x_sld (pc := 334) hE hs dL_law_334 hA (m := i + 3) (by omega) (by omega) ?_
  refine x_aload_n (pc := 335) (j := 0) hE dL_law_335 rfl ?_
  refine x_iload (pc := 336) (j := 5) hE dL_law_336 rfl ?_
  refine x_iconst (pc := 338) hE dL_law_338 ?_
  refine x_iadd (pc := 339) hE dL_law_339 ?_
  refine x_sld (pc := 340) hE hs dL_law_340 hA (m := i + 4) (by omega) (by omega) ?_
  refine x_aload_n (pc := 341) (j := 0) hE dL_law_341 rfl ?_
  refine x_iload (pc := 342) (j := 5) hE dL_law_342 rfl ?_
  refine x_iconst (pc := 344) hE dL_law_344 ?_
  refine x_iadd (pc := 345) hE dL_law_345 ?_
  refine x_sld (pc := 346) hE hs dL_law_346 hA (m := i + 5) (by omega) (by omega) ?_
  refine x_aload_n (pc := 347) (j := 0) hE dL_law_347 rfl ?_
  refine x_iload (pc := 348) (j := 5) hE dL_law_348 rfl ?_
  refine x_bipush (pc := 350) hE dL_law_350 (by decide) ?_
  refine x_iadd (pc := 352) hE dL_law_352 ?_
  refine x_sld (pc := 353) hE hs dL_law_353 hA (m := i + 6) (by omega) (by omega) ?_
  refine x_aload_n (pc := 354) (j := 3) hE dL_law_354 rfl ?_
  refine x_cw (pc := 355) (as := [xr (0, 0), xi (sx xs (i + 1)), xi (sx xs (i + 2)), xi (sx xs (i + 3)), xi (sx xs (i + 4)), xi (sx xs (i + 5)), xi (sx xs (i + 6)), xr (2, 0)]) hE hW dL_law_355 pl_L_edge lk_RL_180 rfl (Nat.le_refl _) hk hn rfl ?_
  intro I1 c1 hO hA9 hC9
  have hA2 : c1.2.2.2 (2, 9) = b := (hA9 _ (by decide)).trans hA
  refine x_istore (pc := 358) (lo9 := [(6, xi F.2), (0, xr (2, 9)), (1, xr (0, 0)), (2, xr (1, 0)), (3, xr (2, 0)), (4, xr (2, 1)), (5, xi (i : Int))]) hE dL_law_358 (by decide) rfl ?_
  refine x_aload_n (pc := 360) (j := 3) hE dL_law_360 rfl ?_
  refine x_aload_n (pc := 361) (j := 1) hE dL_law_361 rfl ?_
  refine x_iload (pc := 362) (j := 6) hE dL_law_362 rfl ?_
  refine x_iconst (pc := 364) hE dL_law_364 ?_
  refine x_iadd (pc := 365) hE dL_law_365 ?_
  refine x_sld (pc := 366) hE hs dL_law_366 hA2 (m := i + 1) (by omega) (by omega) ?_
  refine x_aload_n (pc := 367) (j := 1) hE dL_law_367 rfl ?_
  refine x_iload (pc := 368) (j := 6) hE dL_law_368 rfl ?_
  refine x_iconst (pc := 370) hE dL_law_370 ?_
  refine x_iadd (pc := 371) hE dL_law_371 ?_
  refine x_sld (pc := 372) hE hs dL_law_372 hA2 (m := i + 2) (by omega) (by omega) ?_
  refine x_aload_n (pc := 373) (j := 1) hE dL_law_373 rfl ?_
  refine x_iload (pc := 374) (j := 6) hE dL_law_374 rfl ?_
  refine x_iconst (pc := 376) hE dL_law_376 ?_
  refine x_iadd (pc := 377) hE dL_law_377 ?_
  refine x_sld (pc := 378) hE hs dL_law_378 hA2 (m := i + 3) (by omega) (by omega) ?_
  refine x_aload_n (pc := 379) (j := 1) hE dL_law_379 rfl ?_
  refine x_iload (pc := 380) (j := 6) hE dL_law_380 rfl ?_
  refine x_iconst (pc := 382) hE dL_law_382 ?_
  refine x_iadd (pc := 383) hE dL_law_383 ?_
  refine x_sld (pc := 384) hE hs dL_law_384 hA2 (m := i + 4) (by omega) (by omega) ?_
  refine x_aload_n (pc := 385) (j := 1) hE dL_law_385 rfl ?_
  refine x_iload (pc := 386) (j := 6) hE dL_law_386 rfl ?_
  refine x_iconst (pc := 388) hE dL_law_388 ?_
  refine x_iadd (pc := 389) hE dL_law_389 ?_
  refine x_sld (pc := 390) hE hs dL_law_390 hA2 (m := i + 5) (by omega) (by omega) ?_
  refine x_aload_n (pc := 391) (j := 1) hE dL_law_391 rfl ?_
  refine x_iload (pc := 392) (j := 6) hE dL_law_392 rfl ?_
  refine x_bipush (pc := 394) hE dL_law_394 (by decide) ?_
  refine x_iadd (pc := 396) hE dL_law_396 ?_
  refine x_sld (pc := 397) hE hs dL_law_397 hA2 (m := i + 6) (by omega) (by omega) ?_
  refine x_cr (pc := 398) (q := (1, 0)) (as := [xi (sx xs (i + 1)), xi (sx xs (i + 2)), xi (sx xs (i + 3)), xi (sx xs (i + 4)), xi (sx xs (i + 5)), xi (sx xs (i + 6))]) (st := []) hE dL_law_398 pl_X10_edge lk_RL_183 rfl (lvm1 _ (by decide)) rfl rfl (Nat.le_refl _) hk hn (Nat.le_of_ble_eq_true rfl) (hR I1 c1 hC9) ?_
  rintro v J9 ⟨hD9, hF⟩
  obtain ⟨e1, e2⟩ : v = F.1 ∧ J9 (1, 0) 32 = F.2 := ⟨congrArg Prod.fst hF, congrArg Prod.snd hF⟩
  subst e1
  refine x_istore (pc := 401) (lo9 := [(7, xi F.1), (6, xi F.2), (0, xr (2, 9)), (1, xr (0, 0)), (2, xr (1, 0)), (3, xr (2, 0)), (4, xr (2, 1)), (5, xi (i : Int))]) hE dL_law_401 (by decide) rfl ?_
  refine x_aload_n (pc := 403) (j := 4) hE dL_law_403 rfl ?_
  refine x_cr (pc := 404) (q := (1, 0)) (as := []) (st := []) hE dL_law_404 pl_X10_thrown lk_RL_177 rfl (lvm1 _ (by decide)) rfl rfl (Nat.le_refl _) hk hn (Nat.le_of_ble_eq_true rfl) (ok_thrown hX 11) ?_
  rintro t9 J9 ⟨rfl, rfl⟩
  show V 407 [(7, xi F.1), (6, xi F.2), (0, xr (2, 9)), (1, xr (0, 0)), (2, xr (1, 0)), (3, xr (2, 0)), (4, xr (2, 1)), (5, xi (i : Int))] [xi (J9 (1, 0) 32)] (J9, xst c1) _ _
  rw [e2]
  refine x_iload (pc := 407) (j := 1) hE dL_law_407 rfl ?_
  refine x_icmp_same (pc := 409) (tgt := 414) hE dL_law_409 rfl ?_
  refine x_iload (pc := 414) (j := 1) hE dL_law_414 rfl ?_
  refine x_in hE (fun hI9 => ?_)
  have hx : xin F.2 := e2 ▸ hI9 (1, 0) 32
  refine x_if_ne (pc := 416) (tgt := 431) hE dL_law_416 rfl hx (fun _ => x_goto (pc := 431) (tgt := 3918) hE dL_law_431 rfl (x_loc hE [2, 3, 4, 5, 6, 7] rfl (next _ _ hD9 hA9))) (fun hz0 => ?_)
  refine x_aload_n (pc := 419) (j := 5) hE dL_law_419 rfl ?_
  refine x_iconst (pc := 420) hE dL_law_420 ?_
  refine x_laload (pc := 421) (nn := 1) hE dL_law_421 rfl (lvm2 _ (by decide)) (by decide) (by decide) ?_
  show V 422 [(7, xi F.1), (6, xi F.2), (0, xr (2, 9)), (1, xr (0, 0)), (2, xr (1, 0)), (3, xr (2, 0)), (4, xr (2, 1)), (5, xi (i : Int))] [xl (c1.2.1 (2, 0) 0)] (J9, xst c1) _ _
  rw [hO hz0]
  refine x_iload (pc := 422) (j := 0) hE dL_law_422 rfl ?_
  refine x_i2l (pc := 424) hE dL_law_424 ?_
  refine x_lcmp (pc := 425) hE dL_law_425 ?_
  rw [lg_same]
  exact x_if_eq (pc := 426) (tgt := 431) hE dL_law_426 rfl (by decide) (fun _ => x_goto (pc := 431) (tgt := 3918) hE dL_law_431 rfl (x_loc hE [2, 3, 4, 5, 6, 7] rfl (next _ _ hD9 hA9))) (fun h => absurd rfl h)

set_option maxRecDepth 100000 in
theorem lc_2 {X : xX} (hX : xBase X) {V : xT} {mc ms : Nat} (hE : xEng X m_L_law 12 mc ms V) {b L : Nat} {xs : Nat → Int32} (hs : LSc X b L xs) {c : xCx} {I : xIn} (hA : c.2.2.2 (2, 9) = b) {i : Nat} (hi : i + 7 ≤ L) {k n mc9 ms9 : Nat} (hk : k + mc9 ≤ mc) (hn : n + ms9 ≤ ms) {F : Int × Int} {C9 D9 : xIn → xCx → Prop} (hW : xMet X m_L_change 11 [xr (0, 0), xi (sx xs (i + 1)), xi (sx xs (i + 2)), xi (sx xs (i + 3)), xi (sx xs (i + 4)), xi (sx xs (i + 5)), xr (2, 0)] (I, xst c) mc9 ms9 (wPost c F.2 (fun c9 => c9.2.1 (2, 0) 0 = (Int32.ofInt F.1).toInt64) C9)) (hR : ∀ I9 c9, C9 I9 c9 → xRet rI X m_X10_change 11 [xr (1, 0), xi (sx xs (i + 1)), xi (sx xs (i + 2)), xi (sx xs (i + 3)), xi (sx xs (i + 4)), xi (sx xs (i + 5))] c9 I9 0 0 (fun v J => D9 J c9 ∧ (v, J (1, 0) 32) = F) xNo) (next : ∀ J c9, D9 J c9 → (∀ p : xP, p.1 < 3 → c9.2.2.2 p = c.2.2.2 p) → V 3918 [(0, xr (2, 9)), (1, xr (0, 0)), (2, xr (1, 0)), (3, xr (2, 0)), (4, xr (2, 1)), (5, xi (i : Int))] [] (J, xst c9) (k + mc9) (n + ms9)) : V 434 [(0, xr (2, 9)), (1, xr (0, 0)), (2, xr (1, 0)), (3, xr (2, 0)), (4, xr (2, 1)), (5, xi (i : Int))] [] (I, xst c) k n := by
  refine x_aload_n (pc := 434) (j := 1) hE dL_law_434 rfl ?_
  refine x_aload_n (pc := 435) (j := 0) hE dL_law_435 rfl ?_
  refine x_iload (pc := 436) (j := 5) hE dL_law_436 rfl ?_
  refine x_iconst (pc := 438) hE dL_law_438 ?_
  refine x_iadd (pc := 439) hE dL_law_439 ?_
  refine x_sld (pc := 440) hE hs dL_law_440 hA (m := i + 1) (by omega) (by omega) ?_
  refine x_aload_n (pc := 441) (j := 0) hE dL_law_441 rfl ?_
  refine x_iload (pc := 442) (j := 5) hE dL_law_442 rfl ?_
  refine x_iconst (pc := 444) hE dL_law_444 ?_
  refine x_iadd (pc := 445) hE dL_law_445 ?_
  refine x_sld (pc := 446) hE hs dL_law_446 hA (m := i + 2) (by omega) (by omega) ?_
  refine x_aload_n (pc := 447) (j := 0) hE dL_law_447 rfl ?_
  refine x_iload (pc := 448) (j := 5) hE dL_law_448 rfl ?_
  refine x_iconst (pc := 450) hE dL_law_450 ?_
  refine x_iadd (pc := 451) hE dL_law_451 ?_
  refine x_sld (pc := 452) hE hs dL_law_452 hA (m := i + 3) (by omega) (by omega) ?_
  refine x_aload_n (pc := 453) (j := 0) hE dL_law_453 rfl ?_
  refine x_iload (pc := 454) (j := 5) hE dL_law_454 rfl ?_
  refine x_iconst (pc := 456) hE dL_law_456 ?_
  refine x_iadd (pc := 457) hE dL_law_457 ?_
  refine x_sld (pc := 458) hE hs dL_law_458 hA (m := i + 4) (by omega) (by omega) ?_
  refine x_aload_n (pc := 459) (j := 0) hE dL_law_459 rfl ?_
  refine x_iload (pc := 460) (j := 5) hE dL_law_460 rfl ?_
  refine x_iconst (pc := 462) hE dL_law_462 ?_
  refine x_iadd (pc := 463) hE dL_law_463 ?_
  refine x_sld (pc := 464) hE hs dL_law_464 hA (m := i + 5) (by omega) (by omega) ?_
  refine x_aload_n (pc := 465) (j := 3) hE dL_law_465 rfl ?_
  refine x_cw (pc := 466) (as := [xr (0, 0), xi (sx xs (i + 1)), xi (sx xs (i + 2)), xi (sx xs (i + 3)), xi (sx xs (i + 4)), xi (sx xs (i + 5)), xr (2, 0)]) hE hW dL_law_466 pl_L_change lk_RL_184 rfl (Nat.le_refl _) hk hn rfl ?_
  intro I1 c1 hO hA9 hC9
  have hA2 : c1.2.2.2 (2, 9) = b := (hA9 _ (by decide)).trans hA
  refine x_istore (pc := 469) (lo9 := [(6, xi F.2), (0, xr (2, 9)), (1, xr (0, 0)), (2, xr (1, 0)), (3, xr (2, 0)), (4, xr (2, 1)), (5, xi (i : Int))]) hE dL_law_469 (by decide) rfl ?_
  refine x_aload_n (pc := 471) (j := 3) hE dL_law_471 rfl ?_
  refine x_aload_n (pc := 472) (j := 1) hE dL_law_472 rfl ?_
  refine x_iload (pc := 473) (j := 6) hE dL_law_473 rfl ?_
  refine x_iconst (pc := 475) hE dL_law_475 ?_
  refine x_iadd (pc := 476) hE dL_law_476 ?_
  refine x_sld (pc := 477) hE hs dL_law_477 hA2 (m := i + 1) (by omega) (by omega) ?_
  refine x_aload_n (pc := 478) (j := 1) hE dL_law_478 rfl ?_
  refine x_iload (pc := 479) (j := 6) hE dL_law_479 rfl ?_
  refine x_iconst (pc := 481) hE dL_law_481 ?_
  refine x_iadd (pc := 482) hE dL_law_482 ?_
  refine x_sld (pc := 483) hE hs dL_law_483 hA2 (m := i + 2) (by omega) (by omega) ?_
  refine x_aload_n (pc := 484) (j := 1) hE dL_law_484 rfl ?_
  refine x_iload (pc := 485) (j := 6) hE dL_law_485 rfl ?_
  refine x_iconst (pc := 487) hE dL_law_487 ?_
  refine x_iadd (pc := 488) hE dL_law_488 ?_
  refine x_sld (pc := 489) hE hs dL_law_489 hA2 (m := i + 3) (by omega) (by omega) ?_
  refine x_aload_n (pc := 490) (j := 1) hE dL_law_490 rfl ?_
  refine x_iload (pc := 491) (j := 6) hE dL_law_491 rfl ?_
  refine x_iconst (pc := 493) hE dL_law_493 ?_
  refine x_iadd (pc := 494) hE dL_law_494 ?_
  refine x_sld (pc := 495) hE hs dL_law_495 hA2 (m := i + 4) (by omega) (by omega) ?_
  refine x_aload_n (pc := 496) (j := 1) hE dL_law_496 rfl ?_
  refine x_iload (pc := 497) (j := 6) hE dL_law_497 rfl ?_
  refine x_iconst (pc := 499) hE dL_law_499 ?_
  refine x_iadd (pc := 500) hE dL_law_500 ?_
  refine x_sld (pc := 501) hE hs dL_law_501 hA2 (m := i + 5) (by omega) (by omega) ?_
  refine x_cr (pc := 502) (q := (1, 0)) (as := [xi (sx xs (i + 1)), xi (sx xs (i + 2)), xi (sx xs (i + 3)), xi (sx xs (i + 4)), xi (sx xs (i + 5))]) (st := []) hE dL_law_502 pl_X10_change lk_RL_187 rfl (lvm1 _ (by decide)) rfl rfl (Nat.le_refl _) hk hn (Nat.le_of_ble_eq_true rfl) (hR I1 c1 hC9) ?_
  rintro v J9 ⟨hD9, hF⟩
  obtain ⟨e1, e2⟩ : v = F.1 ∧ J9 (1, 0) 32 = F.2 := ⟨congrArg Prod.fst hF, congrArg Prod.snd hF⟩
  subst e1
  refine x_istore (pc := 505) (lo9 := [(7, xi F.1), (6, xi F.2), (0, xr (2, 9)), (1, xr (0, 0)), (2, xr (1, 0)), (3, xr (2, 0)), (4, xr (2, 1)), (5, xi (i : Int))]) hE dL_law_505 (by decide) rfl ?_
  refine x_aload_n (pc := 507) (j := 4) hE dL_law_507 rfl ?_
  refine x_cr (pc := 508) (q := (1, 0)) (as := []) (st := []) hE dL_law_508 pl_X10_thrown lk_RL_177 rfl (lvm1 _ (by decide)) rfl rfl (Nat.le_refl _) hk hn (Nat.le_of_ble_eq_true rfl) (ok_thrown hX 11) ?_
  rintro t9 J9 ⟨rfl, rfl⟩
  show V 511 [(7, xi F.1), (6, xi F.2), (0, xr (2, 9)), (1, xr (0, 0)), (2, xr (1, 0)), (3, xr (2, 0)), (4, xr (2, 1)), (5, xi (i : Int))] [xi (J9 (1, 0) 32)] (J9, xst c1) _ _
  rw [e2]
  refine x_iload (pc := 511) (j := 1) hE dL_law_511 rfl ?_
  refine x_icmp_same (pc := 513) (tgt := 518) hE dL_law_513 rfl ?_
  refine x_iload (pc := 518) (j := 1) hE dL_law_518 rfl ?_
  refine x_in hE (fun hI9 => ?_)
  have hx : xin F.2 := e2 ▸ hI9 (1, 0) 32
  refine x_if_ne (pc := 520) (tgt := 535) hE dL_law_520 rfl hx (fun _ => x_goto (pc := 535) (tgt := 3918) hE dL_law_535 rfl (x_loc hE [2, 3, 4, 5, 6, 7] rfl (next _ _ hD9 hA9))) (fun hz0 => ?_)
  refine x_aload_n (pc := 523) (j := 5) hE dL_law_523 rfl ?_
  refine x_iconst (pc := 524) hE dL_law_524 ?_
  refine x_laload (pc := 525) (nn := 1) hE dL_law_525 rfl (lvm2 _ (by decide)) (by decide) (by decide) ?_
  show V 526 [(7, xi F.1), (6, xi F.2), (0, xr (2, 9)), (1, xr (0, 0)), (2, xr (1, 0)), (3, xr (2, 0)), (4, xr (2, 1)), (5, xi (i : Int))] [xl (c1.2.1 (2, 0) 0)] (J9, xst c1) _ _
  rw [hO hz0]
  refine x_iload (pc := 526) (j := 0) hE dL_law_526 rfl ?_
  refine x_i2l (pc := 528) hE dL_law_528 ?_
  refine x_lcmp (pc := 529) hE dL_law_529 ?_
  rw [lg_same]
  exact x_if_eq (pc := 530) (tgt := 535) hE dL_law_530 rfl (by decide) (fun _ => x_goto (pc := 535) (tgt := 3918) hE dL_law_535 rfl (x_loc hE [2, 3, 4, 5, 6, 7] rfl (next _ _ hD9 hA9))) (fun h => absurd rfl h)

set_option maxRecDepth 100000 in
theorem lc_3 {X : xX} (hX : xBase X) {V : xT} {mc ms : Nat} (hE : xEng X m_L_law 12 mc ms V) {b L : Nat} {xs : Nat → Int32} (hs : LSc X b L xs) {c : xCx} {I : xIn} (hA : c.2.2.2 (2, 9) = b) {i : Nat} (hi : i + 7 ≤ L) {k n mc9 ms9 : Nat} (hk : k + mc9 ≤ mc) (hn : n + ms9 ≤ ms) {F : Int × Int} {C9 D9 : xIn → xCx → Prop} (hW : xMet X m_L_drop 11 [xr (0, 0), xi (sx xs (i + 1)), xi (sx xs (i + 2)), xr (2, 0)] (I, xst c) mc9 ms9 (wPost c F.2 (fun c9 => c9.2.1 (2, 0) 0 = (Int32.ofInt F.1).toInt64) C9)) (hR : ∀ I9 c9, C9 I9 c9 → xRet rI X m_X10_drop 11 [xr (1, 0), xi (sx xs (i + 1)), xi (sx xs (i + 2))] c9 I9 0 0 (fun v J => D9 J c9 ∧ (v, J (1, 0) 32) = F) xNo) (next : ∀ J c9, D9 J c9 → (∀ p : xP, p.1 < 3 → c9.2.2.2 p = c.2.2.2 p) → V 3918 [(0, xr (2, 9)), (1, xr (0, 0)), (2, xr (1, 0)), (3, xr (2, 0)), (4, xr (2, 1)), (5, xi (i : Int))] [] (J, xst c9) (k + mc9) (n + ms9)) : V 538 [(0, xr (2, 9)), (1, xr (0, 0)), (2, xr (1, 0)), (3, xr (2, 0)), (4, xr (2, 1)), (5, xi (i : Int))] [] (I, xst c) k n := by
  refine x_aload_n (pc := 538) (j := 1) hE dL_law_538 rfl ?_
  refine x_aload_n (pc := 539) (j := 0) hE dL_law_539 rfl ?_
  refine x_iload (pc := 540) (j := 5) hE dL_law_540 rfl ?_
  refine x_iconst (pc := 542) hE dL_law_542 ?_
  refine x_iadd (pc := 543) hE dL_law_543 ?_
  refine x_sld (pc := 544) hE hs dL_law_544 hA (m := i + 1) (by omega) (by omega) ?_
  refine x_aload_n (pc := 545) (j := 0) hE dL_law_545 rfl ?_
  refine x_iload (pc := 546) (j := 5) hE dL_law_546 rfl ?_
  refine x_iconst (pc := 548) hE dL_law_548 ?_
  refine x_iadd (pc := 549) hE dL_law_549 ?_
  refine x_sld (pc := 550) hE hs dL_law_550 hA (m := i + 2) (by omega) (by omega) ?_
  refine x_aload_n (pc := 551) (j := 3) hE dL_law_551 rfl ?_
  refine x_cw (pc := 552) (as := [xr (0, 0), xi (sx xs (i + 1)), xi (sx xs (i + 2)), xr (2, 0)]) hE hW dL_law_552 pl_L_drop lk_RL_188 rfl (Nat.le_refl _) hk hn rfl ?_
  intro I1 c1 hO hA9 hC9
  have hA2 : c1.2.2.2 (2, 9) = b := (hA9 _ (by decide)).trans hA
  refine x_istore (pc := 555) (lo9 := [(6, xi F.2), (0, xr (2, 9)), (1, xr (0, 0)), (2, xr (1, 0)), (3, xr (2, 0)), (4, xr (2, 1)), (5, xi (i : Int))]) hE dL_law_555 (by decide) rfl ?_
  refine x_aload_n (pc := 557) (j := 3) hE dL_law_557 rfl ?_
  refine x_aload_n (pc := 558) (j := 1) hE dL_law_558 rfl ?_
  refine x_iload (pc := 559) (j := 6) hE dL_law_559 rfl ?_
  refine x_iconst (pc := 561) hE dL_law_561 ?_
  refine x_iadd (pc := 562) hE dL_law_562 ?_
  refine x_sld (pc := 563) hE hs dL_law_563 hA2 (m := i + 1) (by omega) (by omega) ?_
  refine x_aload_n (pc := 564) (j := 1) hE dL_law_564 rfl ?_
  refine x_iload (pc := 565) (j := 6) hE dL_law_565 rfl ?_
  refine x_iconst (pc := 567) hE dL_law_567 ?_
  refine x_iadd (pc := 568) hE dL_law_568 ?_
  refine x_sld (pc := 569) hE hs dL_law_569 hA2 (m := i + 2) (by omega) (by omega) ?_
  refine x_cr (pc := 570) (q := (1, 0)) (as := [xi (sx xs (i + 1)), xi (sx xs (i + 2))]) (st := []) hE dL_law_570 pl_X10_drop lk_RL_191 rfl (lvm1 _ (by decide)) rfl rfl (Nat.le_refl _) hk hn (Nat.le_of_ble_eq_true rfl) (hR I1 c1 hC9) ?_
  rintro v J9 ⟨hD9, hF⟩
  obtain ⟨e1, e2⟩ : v = F.1 ∧ J9 (1, 0) 32 = F.2 := ⟨congrArg Prod.fst hF, congrArg Prod.snd hF⟩
  subst e1
  refine x_istore (pc := 573) (lo9 := [(7, xi F.1), (6, xi F.2), (0, xr (2, 9)), (1, xr (0, 0)), (2, xr (1, 0)), (3, xr (2, 0)), (4, xr (2, 1)), (5, xi (i : Int))]) hE dL_law_573 (by decide) rfl ?_
  refine x_aload_n (pc := 575) (j := 4) hE dL_law_575 rfl ?_
  refine x_cr (pc := 576) (q := (1, 0)) (as := []) (st := []) hE dL_law_576 pl_X10_thrown lk_RL_177 rfl (lvm1 _ (by decide)) rfl rfl (Nat.le_refl _) hk hn (Nat.le_of_ble_eq_true rfl) (ok_thrown hX 11) ?_
  rintro t9 J9 ⟨rfl, rfl⟩
  show V 579 [(7, xi F.1), (6, xi F.2), (0, xr (2, 9)), (1, xr (0, 0)), (2, xr (1, 0)), (3, xr (2, 0)), (4, xr (2, 1)), (5, xi (i : Int))] [xi (J9 (1, 0) 32)] (J9, xst c1) _ _
  rw [e2]
  refine x_iload (pc := 579) (j := 1) hE dL_law_579 rfl ?_
  refine x_icmp_same (pc := 581) (tgt := 586) hE dL_law_581 rfl ?_
  refine x_iload (pc := 586) (j := 1) hE dL_law_586 rfl ?_
  refine x_in hE (fun hI9 => ?_)
  have hx : xin F.2 := e2 ▸ hI9 (1, 0) 32
  refine x_if_ne (pc := 588) (tgt := 603) hE dL_law_588 rfl hx (fun _ => x_goto (pc := 603) (tgt := 3918) hE dL_law_603 rfl (x_loc hE [2, 3, 4, 5, 6, 7] rfl (next _ _ hD9 hA9))) (fun hz0 => ?_)
  refine x_aload_n (pc := 591) (j := 5) hE dL_law_591 rfl ?_
  refine x_iconst (pc := 592) hE dL_law_592 ?_
  refine x_laload (pc := 593) (nn := 1) hE dL_law_593 rfl (lvm2 _ (by decide)) (by decide) (by decide) ?_
  show V 594 [(7, xi F.1), (6, xi F.2), (0, xr (2, 9)), (1, xr (0, 0)), (2, xr (1, 0)), (3, xr (2, 0)), (4, xr (2, 1)), (5, xi (i : Int))] [xl (c1.2.1 (2, 0) 0)] (J9, xst c1) _ _
  rw [hO hz0]
  refine x_iload (pc := 594) (j := 0) hE dL_law_594 rfl ?_
  refine x_i2l (pc := 596) hE dL_law_596 ?_
  refine x_lcmp (pc := 597) hE dL_law_597 ?_
  rw [lg_same]
  exact x_if_eq (pc := 598) (tgt := 603) hE dL_law_598 rfl (by decide) (fun _ => x_goto (pc := 603) (tgt := 3918) hE dL_law_603 rfl (x_loc hE [2, 3, 4, 5, 6, 7] rfl (next _ _ hD9 hA9))) (fun h => absurd rfl h)

set_option maxRecDepth 100000 in
theorem lc_4 {X : xX} (hX : xBase X) {V : xT} {mc ms : Nat} (hE : xEng X m_L_law 12 mc ms V) {b L : Nat} {xs : Nat → Int32} (hs : LSc X b L xs) {c : xCx} {I : xIn} (hA : c.2.2.2 (2, 9) = b) {i : Nat} (hi : i + 7 ≤ L) {k n mc9 ms9 : Nat} (hk : k + mc9 ≤ mc) (hn : n + ms9 ≤ ms) {F : Int × Int} {C9 D9 : xIn → xCx → Prop} (hW : xMet X m_L_edges 11 [xr (0, 0), xi (sx xs (i + 1)), xr (2, 0)] (I, xst c) mc9 ms9 (wPost c F.2 (fun c9 => c9.2.1 (2, 0) 0 = (Int32.ofInt F.1).toInt64) C9)) (hR : ∀ I9 c9, C9 I9 c9 → xRet rI X m_X10_edges 11 [xr (1, 0), xi (sx xs (i + 1))] c9 I9 0 0 (fun v J => D9 J c9 ∧ (v, J (1, 0) 32) = F) xNo) (next : ∀ J c9, D9 J c9 → (∀ p : xP, p.1 < 3 → c9.2.2.2 p = c.2.2.2 p) → V 3918 [(0, xr (2, 9)), (1, xr (0, 0)), (2, xr (1, 0)), (3, xr (2, 0)), (4, xr (2, 1)), (5, xi (i : Int))] [] (J, xst c9) (k + mc9) (n + ms9)) : V 606 [(0, xr (2, 9)), (1, xr (0, 0)), (2, xr (1, 0)), (3, xr (2, 0)), (4, xr (2, 1)), (5, xi (i : Int))] [] (I, xst c) k n := by
  refine x_aload_n (pc := 606) (j := 1) hE dL_law_606 rfl ?_
  refine x_aload_n (pc := 607) (j := 0) hE dL_law_607 rfl ?_
  refine x_iload (pc := 608) (j := 5) hE dL_law_608 rfl ?_
  refine x_iconst (pc := 610) hE dL_law_610 ?_
  refine x_iadd (pc := 611) hE dL_law_611 ?_
  refine x_sld (pc := 612) hE hs dL_law_612 hA (m := i + 1) (by omega) (by omega) ?_
  refine x_aload_n (pc := 613) (j := 3) hE dL_law_613 rfl ?_
  refine x_cw (pc := 614) (as := [xr (0, 0), xi (sx xs (i + 1)), xr (2, 0)]) hE hW dL_law_614 pl_L_edges lk_RL_192 rfl (Nat.le_refl _) hk hn rfl ?_
  intro I1 c1 hO hA9 hC9
  have hA2 : c1.2.2.2 (2, 9) = b := (hA9 _ (by decide)).trans hA
  refine x_istore (pc := 617) (lo9 := [(6, xi F.2), (0, xr (2, 9)), (1, xr (0, 0)), (2, xr (1, 0)), (3, xr (2, 0)), (4, xr (2, 1)), (5, xi (i : Int))]) hE dL_law_617 (by decide) rfl ?_
  refine x_aload_n (pc := 619) (j := 3) hE dL_law_619 rfl ?_
  refine x_aload_n (pc := 620) (j := 1) hE dL_law_620 rfl ?_
  refine x_iload (pc := 621) (j := 6) hE dL_law_621 rfl ?_
  refine x_iconst (pc := 623) hE dL_law_623 ?_
  refine x_iadd (pc := 624) hE dL_law_624 ?_
  refine x_sld (pc := 625) hE hs dL_law_625 hA2 (m := i + 1) (by omega) (by omega) ?_
  refine x_cr (pc := 626) (q := (1, 0)) (as := [xi (sx xs (i + 1))]) (st := []) hE dL_law_626 pl_X10_edges lk_RL_194 rfl (lvm1 _ (by decide)) rfl rfl (Nat.le_refl _) hk hn (Nat.le_of_ble_eq_true rfl) (hR I1 c1 hC9) ?_
  rintro v J9 ⟨hD9, hF⟩
  obtain ⟨e1, e2⟩ : v = F.1 ∧ J9 (1, 0) 32 = F.2 := ⟨congrArg Prod.fst hF, congrArg Prod.snd hF⟩
  subst e1
  refine x_istore (pc := 629) (lo9 := [(7, xi F.1), (6, xi F.2), (0, xr (2, 9)), (1, xr (0, 0)), (2, xr (1, 0)), (3, xr (2, 0)), (4, xr (2, 1)), (5, xi (i : Int))]) hE dL_law_629 (by decide) rfl ?_
  refine x_aload_n (pc := 631) (j := 4) hE dL_law_631 rfl ?_
  refine x_cr (pc := 632) (q := (1, 0)) (as := []) (st := []) hE dL_law_632 pl_X10_thrown lk_RL_177 rfl (lvm1 _ (by decide)) rfl rfl (Nat.le_refl _) hk hn (Nat.le_of_ble_eq_true rfl) (ok_thrown hX 11) ?_
  rintro t9 J9 ⟨rfl, rfl⟩
  show V 635 [(7, xi F.1), (6, xi F.2), (0, xr (2, 9)), (1, xr (0, 0)), (2, xr (1, 0)), (3, xr (2, 0)), (4, xr (2, 1)), (5, xi (i : Int))] [xi (J9 (1, 0) 32)] (J9, xst c1) _ _
  rw [e2]
  refine x_iload (pc := 635) (j := 1) hE dL_law_635 rfl ?_
  refine x_icmp_same (pc := 637) (tgt := 642) hE dL_law_637 rfl ?_
  refine x_iload (pc := 642) (j := 1) hE dL_law_642 rfl ?_
  refine x_in hE (fun hI9 => ?_)
  have hx : xin F.2 := e2 ▸ hI9 (1, 0) 32
  refine x_if_ne (pc := 644) (tgt := 659) hE dL_law_644 rfl hx (fun _ => x_goto (pc := 659) (tgt := 3918) hE dL_law_659 rfl (x_loc hE [2, 3, 4, 5, 6, 7] rfl (next _ _ hD9 hA9))) (fun hz0 => ?_)
  refine x_aload_n (pc := 647) (j := 5) hE dL_law_647 rfl ?_
  refine x_iconst (pc := 648) hE dL_law_648 ?_
  refine x_laload (pc := 649) (nn := 1) hE dL_law_649 rfl (lvm2 _ (by decide)) (by decide) (by decide) ?_
  show V 650 [(7, xi F.1), (6, xi F.2), (0, xr (2, 9)), (1, xr (0, 0)), (2, xr (1, 0)), (3, xr (2, 0)), (4, xr (2, 1)), (5, xi (i : Int))] [xl (c1.2.1 (2, 0) 0)] (J9, xst c1) _ _
  rw [hO hz0]
  refine x_iload (pc := 650) (j := 0) hE dL_law_650 rfl ?_
  refine x_i2l (pc := 652) hE dL_law_652 ?_
  refine x_lcmp (pc := 653) hE dL_law_653 ?_
  rw [lg_same]
  exact x_if_eq (pc := 654) (tgt := 659) hE dL_law_654 rfl (by decide) (fun _ => x_goto (pc := 659) (tgt := 3918) hE dL_law_659 rfl (x_loc hE [2, 3, 4, 5, 6, 7] rfl (next _ _ hD9 hA9))) (fun h => absurd rfl h)

set_option maxRecDepth 100000 in
theorem lc_5 {X : xX} (hX : xBase X) {V : xT} {mc ms : Nat} (hE : xEng X m_L_law 12 mc ms V) {b L : Nat} {xs : Nat → Int32} (hs : LSc X b L xs) {c : xCx} {I : xIn} (hA : c.2.2.2 (2, 9) = b) {i : Nat} (hi : i + 7 ≤ L) {k n mc9 ms9 : Nat} (hk : k + mc9 ≤ mc) (hn : n + ms9 ≤ ms) {F : Int × Int} {C9 D9 : xIn → xCx → Prop} (hW : xMet X m_L_supply 11 [xr (0, 0), xi (sx xs (i + 1)), xi (sx xs (i + 2)), xi (sx xs (i + 3)), xr (2, 0)] (I, xst c) mc9 ms9 (wPost c F.2 (fun c9 => c9.2.1 (2, 0) 0 = (Int32.ofInt F.1).toInt64) C9)) (hR : ∀ I9 c9, C9 I9 c9 → xRet rI X m_X10_supply 11 [xr (1, 0), xi (sx xs (i + 1)), xi (sx xs (i + 2)), xi (sx xs (i + 3))] c9 I9 0 0 (fun v J => D9 J c9 ∧ (v, J (1, 0) 32) = F) xNo) (next : ∀ J c9, D9 J c9 → (∀ p : xP, p.1 < 3 → c9.2.2.2 p = c.2.2.2 p) → V 3918 [(0, xr (2, 9)), (1, xr (0, 0)), (2, xr (1, 0)), (3, xr (2, 0)), (4, xr (2, 1)), (5, xi (i : Int))] [] (J, xst c9) (k + mc9) (n + ms9)) : V 662 [(0, xr (2, 9)), (1, xr (0, 0)), (2, xr (1, 0)), (3, xr (2, 0)), (4, xr (2, 1)), (5, xi (i : Int))] [] (I, xst c) k n := by
  refine x_aload_n (pc := 662) (j := 1) hE dL_law_662 rfl ?_
  refine x_aload_n (pc := 663) (j := 0) hE dL_law_663 rfl ?_
  refine x_iload (pc := 664) (j := 5) hE dL_law_664 rfl ?_
  refine x_iconst (pc := 666) hE dL_law_666 ?_
  refine x_iadd (pc := 667) hE dL_law_667 ?_
  refine x_sld (pc := 668) hE hs dL_law_668 hA (m := i + 1) (by omega) (by omega) ?_
  refine x_aload_n (pc := 669) (j := 0) hE dL_law_669 rfl ?_
  refine x_iload (pc := 670) (j := 5) hE dL_law_670 rfl ?_
  refine x_iconst (pc := 672) hE dL_law_672 ?_
  refine x_iadd (pc := 673) hE dL_law_673 ?_
  refine x_sld (pc := 674) hE hs dL_law_674 hA (m := i + 2) (by omega) (by omega) ?_
  refine x_aload_n (pc := 675) (j := 0) hE dL_law_675 rfl ?_
  refine x_iload (pc := 676) (j := 5) hE dL_law_676 rfl ?_
  refine x_iconst (pc := 678) hE dL_law_678 ?_
  refine x_iadd (pc := 679) hE dL_law_679 ?_
  refine x_sld (pc := 680) hE hs dL_law_680 hA (m := i + 3) (by omega) (by omega) ?_
  refine x_aload_n (pc := 681) (j := 3) hE dL_law_681 rfl ?_
  refine x_cw (pc := 682) (as := [xr (0, 0), xi (sx xs (i + 1)), xi (sx xs (i + 2)), xi (sx xs (i + 3)), xr (2, 0)]) hE hW dL_law_682 pl_L_supply lk_RL_195 rfl (Nat.le_refl _) hk hn rfl ?_
  intro I1 c1 hO hA9 hC9
  have hA2 : c1.2.2.2 (2, 9) = b := (hA9 _ (by decide)).trans hA
  refine x_istore (pc := 685) (lo9 := [(6, xi F.2), (0, xr (2, 9)), (1, xr (0, 0)), (2, xr (1, 0)), (3, xr (2, 0)), (4, xr (2, 1)), (5, xi (i : Int))]) hE dL_law_685 (by decide) rfl ?_
  refine x_aload_n (pc := 687) (j := 3) hE dL_law_687 rfl ?_
  refine x_aload_n (pc := 688) (j := 1) hE dL_law_688 rfl ?_
  refine x_iload (pc := 689) (j := 6) hE dL_law_689 rfl ?_
  refine x_iconst (pc := 691) hE dL_law_691 ?_
  refine x_iadd (pc := 692) hE dL_law_692 ?_
  refine x_sld (pc := 693) hE hs dL_law_693 hA2 (m := i + 1) (by omega) (by omega) ?_
  refine x_aload_n (pc := 694) (j := 1) hE dL_law_694 rfl ?_
  refine x_iload (pc := 695) (j := 6) hE dL_law_695 rfl ?_
  refine x_iconst (pc := 697) hE dL_law_697 ?_
  refine x_iadd (pc := 698) hE dL_law_698 ?_
  refine x_sld (pc := 699) hE hs dL_law_699 hA2 (m := i + 2) (by omega) (by omega) ?_
  refine x_aload_n (pc := 700) (j := 1) hE dL_law_700 rfl ?_
  refine x_iload (pc := 701) (j := 6) hE dL_law_701 rfl ?_
  refine x_iconst (pc := 703) hE dL_law_703 ?_
  refine x_iadd (pc := 704) hE dL_law_704 ?_
  refine x_sld (pc := 705) hE hs dL_law_705 hA2 (m := i + 3) (by omega) (by omega) ?_
  refine x_cr (pc := 706) (q := (1, 0)) (as := [xi (sx xs (i + 1)), xi (sx xs (i + 2)), xi (sx xs (i + 3))]) (st := []) hE dL_law_706 pl_X10_supply lk_RL_198 rfl (lvm1 _ (by decide)) rfl rfl (Nat.le_refl _) hk hn (Nat.le_of_ble_eq_true rfl) (hR I1 c1 hC9) ?_
  rintro v J9 ⟨hD9, hF⟩
  obtain ⟨e1, e2⟩ : v = F.1 ∧ J9 (1, 0) 32 = F.2 := ⟨congrArg Prod.fst hF, congrArg Prod.snd hF⟩
  subst e1
  refine x_istore (pc := 709) (lo9 := [(7, xi F.1), (6, xi F.2), (0, xr (2, 9)), (1, xr (0, 0)), (2, xr (1, 0)), (3, xr (2, 0)), (4, xr (2, 1)), (5, xi (i : Int))]) hE dL_law_709 (by decide) rfl ?_
  refine x_aload_n (pc := 711) (j := 4) hE dL_law_711 rfl ?_
  refine x_cr (pc := 712) (q := (1, 0)) (as := []) (st := []) hE dL_law_712 pl_X10_thrown lk_RL_177 rfl (lvm1 _ (by decide)) rfl rfl (Nat.le_refl _) hk hn (Nat.le_of_ble_eq_true rfl) (ok_thrown hX 11) ?_
  rintro t9 J9 ⟨rfl, rfl⟩
  show V 715 [(7, xi F.1), (6, xi F.2), (0, xr (2, 9)), (1, xr (0, 0)), (2, xr (1, 0)), (3, xr (2, 0)), (4, xr (2, 1)), (5, xi (i : Int))] [xi (J9 (1, 0) 32)] (J9, xst c1) _ _
  rw [e2]
  refine x_iload (pc := 715) (j := 1) hE dL_law_715 rfl ?_
  refine x_icmp_same (pc := 717) (tgt := 722) hE dL_law_717 rfl ?_
  refine x_iload (pc := 722) (j := 1) hE dL_law_722 rfl ?_
  refine x_in hE (fun hI9 => ?_)
  have hx : xin F.2 := e2 ▸ hI9 (1, 0) 32
  refine x_if_ne (pc := 724) (tgt := 739) hE dL_law_724 rfl hx (fun _ => x_goto (pc := 739) (tgt := 3918) hE dL_law_739 rfl (x_loc hE [2, 3, 4, 5, 6, 7] rfl (next _ _ hD9 hA9))) (fun hz0 => ?_)
  refine x_aload_n (pc := 727) (j := 5) hE dL_law_727 rfl ?_
  refine x_iconst (pc := 728) hE dL_law_728 ?_
  refine x_laload (pc := 729) (nn := 1) hE dL_law_729 rfl (lvm2 _ (by decide)) (by decide) (by decide) ?_
  show V 730 [(7, xi F.1), (6, xi F.2), (0, xr (2, 9)), (1, xr (0, 0)), (2, xr (1, 0)), (3, xr (2, 0)), (4, xr (2, 1)), (5, xi (i : Int))] [xl (c1.2.1 (2, 0) 0)] (J9, xst c1) _ _
  rw [hO hz0]
  refine x_iload (pc := 730) (j := 0) hE dL_law_730 rfl ?_
  refine x_i2l (pc := 732) hE dL_law_732 ?_
  refine x_lcmp (pc := 733) hE dL_law_733 ?_
  rw [lg_same]
  exact x_if_eq (pc := 734) (tgt := 739) hE dL_law_734 rfl (by decide) (fun _ => x_goto (pc := 739) (tgt := 3918) hE dL_law_739 rfl (x_loc hE [2, 3, 4, 5, 6, 7] rfl (next _ _ hD9 hA9))) (fun h => absurd rfl h)

set_option maxRecDepth 100000 in
theorem lc_6 {X : xX} (hX : xBase X) {V : xT} {mc ms : Nat} (hE : xEng X m_L_law 12 mc ms V) {b L : Nat} {xs : Nat → Int32} (hs : LSc X b L xs) {c : xCx} {I : xIn} (hA : c.2.2.2 (2, 9) = b) {i : Nat} (hi : i + 7 ≤ L) {k n mc9 ms9 : Nat} (hk : k + mc9 ≤ mc) (hn : n + ms9 ≤ ms) {F : Int × Int} {C9 D9 : xIn → xCx → Prop} (hW : xMet X m_L_most 11 [xr (0, 0), xi (sx xs (i + 1)), xi (sx xs (i + 2)), xi (sx xs (i + 3)), xr (2, 0)] (I, xst c) mc9 ms9 (wPost c F.2 (fun c9 => c9.2.1 (2, 0) 0 = (Int32.ofInt F.1).toInt64) C9)) (hR : ∀ I9 c9, C9 I9 c9 → xRet rI X m_X10_most 11 [xr (1, 0), xi (sx xs (i + 1)), xi (sx xs (i + 2)), xi (sx xs (i + 3))] c9 I9 0 0 (fun v J => D9 J c9 ∧ (v, J (1, 0) 32) = F) xNo) (next : ∀ J c9, D9 J c9 → (∀ p : xP, p.1 < 3 → c9.2.2.2 p = c.2.2.2 p) → V 3918 [(0, xr (2, 9)), (1, xr (0, 0)), (2, xr (1, 0)), (3, xr (2, 0)), (4, xr (2, 1)), (5, xi (i : Int))] [] (J, xst c9) (k + mc9) (n + ms9)) : V 742 [(0, xr (2, 9)), (1, xr (0, 0)), (2, xr (1, 0)), (3, xr (2, 0)), (4, xr (2, 1)), (5, xi (i : Int))] [] (I, xst c) k n := by
  refine x_aload_n (pc := 742) (j := 1) hE dL_law_742 rfl ?_
  refine x_aload_n (pc := 743) (j := 0) hE dL_law_743 rfl ?_
  refine x_iload (pc := 744) (j := 5) hE dL_law_744 rfl ?_
  refine x_iconst (pc := 746) hE dL_law_746 ?_
  refine x_iadd (pc := 747) hE dL_law_747 ?_
  refine x_sld (pc := 748) hE hs dL_law_748 hA (m := i + 1) (by omega) (by omega) ?_
  refine x_aload_n (pc := 749) (j := 0) hE dL_law_749 rfl ?_
  refine x_iload (pc := 750) (j := 5) hE dL_law_750 rfl ?_
  refine x_iconst (pc := 752) hE dL_law_752 ?_
  refine x_iadd (pc := 753) hE dL_law_753 ?_
  refine x_sld (pc := 754) hE hs dL_law_754 hA (m := i + 2) (by omega) (by omega) ?_
  refine x_aload_n (pc := 755) (j := 0) hE dL_law_755 rfl ?_
  refine x_iload (pc := 756) (j := 5) hE dL_law_756 rfl ?_
  refine x_iconst (pc := 758) hE dL_law_758 ?_
  refine x_iadd (pc := 759) hE dL_law_759 ?_
  refine x_sld (pc := 760) hE hs dL_law_760 hA (m := i + 3) (by omega) (by omega) ?_
  refine x_aload_n (pc := 761) (j := 3) hE dL_law_761 rfl ?_
  refine x_cw (pc := 762) (as := [xr (0, 0), xi (sx xs (i + 1)), xi (sx xs (i + 2)), xi (sx xs (i + 3)), xr (2, 0)]) hE hW dL_law_762 pl_L_most lk_RL_199 rfl (Nat.le_refl _) hk hn rfl ?_
  intro I1 c1 hO hA9 hC9
  have hA2 : c1.2.2.2 (2, 9) = b := (hA9 _ (by decide)).trans hA
  refine x_istore (pc := 765) (lo9 := [(6, xi F.2), (0, xr (2, 9)), (1, xr (0, 0)), (2, xr (1, 0)), (3, xr (2, 0)), (4, xr (2, 1)), (5, xi (i : Int))]) hE dL_law_765 (by decide) rfl ?_
  refine x_aload_n (pc := 767) (j := 3) hE dL_law_767 rfl ?_
  refine x_aload_n (pc := 768) (j := 1) hE dL_law_768 rfl ?_
  refine x_iload (pc := 769) (j := 6) hE dL_law_769 rfl ?_
  refine x_iconst (pc := 771) hE dL_law_771 ?_
  refine x_iadd (pc := 772) hE dL_law_772 ?_
  refine x_sld (pc := 773) hE hs dL_law_773 hA2 (m := i + 1) (by omega) (by omega) ?_
  refine x_aload_n (pc := 774) (j := 1) hE dL_law_774 rfl ?_
  refine x_iload (pc := 775) (j := 6) hE dL_law_775 rfl ?_
  refine x_iconst (pc := 777) hE dL_law_777 ?_
  refine x_iadd (pc := 778) hE dL_law_778 ?_
  refine x_sld (pc := 779) hE hs dL_law_779 hA2 (m := i + 2) (by omega) (by omega) ?_
  refine x_aload_n (pc := 780) (j := 1) hE dL_law_780 rfl ?_
  refine x_iload (pc := 781) (j := 6) hE dL_law_781 rfl ?_
  refine x_iconst (pc := 783) hE dL_law_783 ?_
  refine x_iadd (pc := 784) hE dL_law_784 ?_
  refine x_sld (pc := 785) hE hs dL_law_785 hA2 (m := i + 3) (by omega) (by omega) ?_
  refine x_cr (pc := 786) (q := (1, 0)) (as := [xi (sx xs (i + 1)), xi (sx xs (i + 2)), xi (sx xs (i + 3))]) (st := []) hE dL_law_786 pl_X10_most lk_RL_201 rfl (lvm1 _ (by decide)) rfl rfl (Nat.le_refl _) hk hn (Nat.le_of_ble_eq_true rfl) (hR I1 c1 hC9) ?_
  rintro v J9 ⟨hD9, hF⟩
  obtain ⟨e1, e2⟩ : v = F.1 ∧ J9 (1, 0) 32 = F.2 := ⟨congrArg Prod.fst hF, congrArg Prod.snd hF⟩
  subst e1
  refine x_istore (pc := 789) (lo9 := [(7, xi F.1), (6, xi F.2), (0, xr (2, 9)), (1, xr (0, 0)), (2, xr (1, 0)), (3, xr (2, 0)), (4, xr (2, 1)), (5, xi (i : Int))]) hE dL_law_789 (by decide) rfl ?_
  refine x_aload_n (pc := 791) (j := 4) hE dL_law_791 rfl ?_
  refine x_cr (pc := 792) (q := (1, 0)) (as := []) (st := []) hE dL_law_792 pl_X10_thrown lk_RL_177 rfl (lvm1 _ (by decide)) rfl rfl (Nat.le_refl _) hk hn (Nat.le_of_ble_eq_true rfl) (ok_thrown hX 11) ?_
  rintro t9 J9 ⟨rfl, rfl⟩
  show V 795 [(7, xi F.1), (6, xi F.2), (0, xr (2, 9)), (1, xr (0, 0)), (2, xr (1, 0)), (3, xr (2, 0)), (4, xr (2, 1)), (5, xi (i : Int))] [xi (J9 (1, 0) 32)] (J9, xst c1) _ _
  rw [e2]
  refine x_iload (pc := 795) (j := 1) hE dL_law_795 rfl ?_
  refine x_icmp_same (pc := 797) (tgt := 802) hE dL_law_797 rfl ?_
  refine x_iload (pc := 802) (j := 1) hE dL_law_802 rfl ?_
  refine x_in hE (fun hI9 => ?_)
  have hx : xin F.2 := e2 ▸ hI9 (1, 0) 32
  refine x_if_ne (pc := 804) (tgt := 819) hE dL_law_804 rfl hx (fun _ => x_goto (pc := 819) (tgt := 3918) hE dL_law_819 rfl (x_loc hE [2, 3, 4, 5, 6, 7] rfl (next _ _ hD9 hA9))) (fun hz0 => ?_)
  refine x_aload_n (pc := 807) (j := 5) hE dL_law_807 rfl ?_
  refine x_iconst (pc := 808) hE dL_law_808 ?_
  refine x_laload (pc := 809) (nn := 1) hE dL_law_809 rfl (lvm2 _ (by decide)) (by decide) (by decide) ?_
  show V 810 [(7, xi F.1), (6, xi F.2), (0, xr (2, 9)), (1, xr (0, 0)), (2, xr (1, 0)), (3, xr (2, 0)), (4, xr (2, 1)), (5, xi (i : Int))] [xl (c1.2.1 (2, 0) 0)] (J9, xst c1) _ _
  rw [hO hz0]
  refine x_iload (pc := 810) (j := 0) hE dL_law_810 rfl ?_
  refine x_i2l (pc := 812) hE dL_law_812 ?_
  refine x_lcmp (pc := 813) hE dL_law_813 ?_
  rw [lg_same]
  exact x_if_eq (pc := 814) (tgt := 819) hE dL_law_814 rfl (by decide) (fun _ => x_goto (pc := 819) (tgt := 3918) hE dL_law_819 rfl (x_loc hE [2, 3, 4, 5, 6, 7] rfl (next _ _ hD9 hA9))) (fun h => absurd rfl h)

set_option maxRecDepth 100000 in
theorem lc_7 {X : xX} (hX : xBase X) {V : xT} {mc ms : Nat} (hE : xEng X m_L_law 12 mc ms V) {b L : Nat} {xs : Nat → Int32} (hs : LSc X b L xs) {c : xCx} {I : xIn} (hA : c.2.2.2 (2, 9) = b) {i : Nat} (hi : i + 7 ≤ L) {k n mc9 ms9 : Nat} (hk : k + mc9 ≤ mc) (hn : n + ms9 ≤ ms) {F : Int × Int} {C9 D9 : xIn → xCx → Prop} (hW : xMet X m_L_flow 11 [xr (0, 0), xi (sx xs (i + 1)), xi (sx xs (i + 2)), xi (sx xs (i + 3)), xi (sx xs (i + 4)), xr (2, 0)] (I, xst c) mc9 ms9 (wPost c F.2 (fun c9 => c9.2.1 (2, 0) 0 = (Int32.ofInt F.1).toInt64) C9)) (hR : ∀ I9 c9, C9 I9 c9 → xRet rI X m_X10_flow 11 [xr (1, 0), xi (sx xs (i + 1)), xi (sx xs (i + 2)), xi (sx xs (i + 3)), xi (sx xs (i + 4))] c9 I9 0 0 (fun v J => D9 J c9 ∧ (v, J (1, 0) 32) = F) xNo) (next : ∀ J c9, D9 J c9 → (∀ p : xP, p.1 < 3 → c9.2.2.2 p = c.2.2.2 p) → V 3918 [(0, xr (2, 9)), (1, xr (0, 0)), (2, xr (1, 0)), (3, xr (2, 0)), (4, xr (2, 1)), (5, xi (i : Int))] [] (J, xst c9) (k + mc9) (n + ms9)) : V 822 [(0, xr (2, 9)), (1, xr (0, 0)), (2, xr (1, 0)), (3, xr (2, 0)), (4, xr (2, 1)), (5, xi (i : Int))] [] (I, xst c) k n := by
  refine x_aload_n (pc := 822) (j := 1) hE dL_law_822 rfl ?_
  refine x_aload_n (pc := 823) (j := 0) hE dL_law_823 rfl ?_
  refine x_iload (pc := 824) (j := 5) hE dL_law_824 rfl ?_
  refine x_iconst (pc := 826) hE dL_law_826 ?_
  refine x_iadd (pc := 827) hE dL_law_827 ?_
  refine x_sld (pc := 828) hE hs dL_law_828 hA (m := i + 1) (by omega) (by omega) ?_
  refine x_aload_n (pc := 829) (j := 0) hE dL_law_829 rfl ?_
  refine x_iload (pc := 830) (j := 5) hE dL_law_830 rfl ?_
  refine x_iconst (pc := 832) hE dL_law_832 ?_
  refine x_iadd (pc := 833) hE dL_law_833 ?_
  refine x_sld (pc := 834) hE hs dL_law_834 hA (m := i + 2) (by omega) (by omega) ?_
  refine x_aload_n (pc := 835) (j := 0) hE dL_law_835 rfl ?_
  refine x_iload (pc := 836) (j := 5) hE dL_law_836 rfl ?_
  refine x_iconst (pc := 838) hE dL_law_838 ?_
  refine x_iadd (pc := 839) hE dL_law_839 ?_
  refine x_sld (pc := 840) hE hs dL_law_840 hA (m := i + 3) (by omega) (by omega) ?_
  refine x_aload_n (pc := 841) (j := 0) hE dL_law_841 rfl ?_
  refine x_iload (pc := 842) (j := 5) hE dL_law_842 rfl ?_
  refine x_iconst (pc := 844) hE dL_law_844 ?_
  refine x_iadd (pc := 845) hE dL_law_845 ?_
  refine x_sld (pc := 846) hE hs dL_law_846 hA (m := i + 4) (by omega) (by omega) ?_
  refine x_aload_n (pc := 847) (j := 3) hE dL_law_847 rfl ?_
  refine x_cw (pc := 848) (as := [xr (0, 0), xi (sx xs (i + 1)), xi (sx xs (i + 2)), xi (sx xs (i + 3)), xi (sx xs (i + 4)), xr (2, 0)]) hE hW dL_law_848 pl_L_flow lk_RL_202 rfl (Nat.le_refl _) hk hn rfl ?_
  intro I1 c1 hO hA9 hC9
  have hA2 : c1.2.2.2 (2, 9) = b := (hA9 _ (by decide)).trans hA
  refine x_istore (pc := 851) (lo9 := [(6, xi F.2), (0, xr (2, 9)), (1, xr (0, 0)), (2, xr (1, 0)), (3, xr (2, 0)), (4, xr (2, 1)), (5, xi (i : Int))]) hE dL_law_851 (by decide) rfl ?_
  refine x_aload_n (pc := 853) (j := 3) hE dL_law_853 rfl ?_
  refine x_aload_n (pc := 854) (j := 1) hE dL_law_854 rfl ?_
  refine x_iload (pc := 855) (j := 6) hE dL_law_855 rfl ?_
  refine x_iconst (pc := 857) hE dL_law_857 ?_
  refine x_iadd (pc := 858) hE dL_law_858 ?_
  refine x_sld (pc := 859) hE hs dL_law_859 hA2 (m := i + 1) (by omega) (by omega) ?_
  refine x_aload_n (pc := 860) (j := 1) hE dL_law_860 rfl ?_
  refine x_iload (pc := 861) (j := 6) hE dL_law_861 rfl ?_
  refine x_iconst (pc := 863) hE dL_law_863 ?_
  refine x_iadd (pc := 864) hE dL_law_864 ?_
  refine x_sld (pc := 865) hE hs dL_law_865 hA2 (m := i + 2) (by omega) (by omega) ?_
  refine x_aload_n (pc := 866) (j := 1) hE dL_law_866 rfl ?_
  refine x_iload (pc := 867) (j := 6) hE dL_law_867 rfl ?_
  refine x_iconst (pc := 869) hE dL_law_869 ?_
  refine x_iadd (pc := 870) hE dL_law_870 ?_
  refine x_sld (pc := 871) hE hs dL_law_871 hA2 (m := i + 3) (by omega) (by omega) ?_
  refine x_aload_n (pc := 872) (j := 1) hE dL_law_872 rfl ?_
  refine x_iload (pc := 873) (j := 6) hE dL_law_873 rfl ?_
  refine x_iconst (pc := 875) hE dL_law_875 ?_
  refine x_iadd (pc := 876) hE dL_law_876 ?_
  refine x_sld (pc := 877) hE hs dL_law_877 hA2 (m := i + 4) (by omega) (by omega) ?_
  refine x_cr (pc := 878) (q := (1, 0)) (as := [xi (sx xs (i + 1)), xi (sx xs (i + 2)), xi (sx xs (i + 3)), xi (sx xs (i + 4))]) (st := []) hE dL_law_878 pl_X10_flow lk_RL_205 rfl (lvm1 _ (by decide)) rfl rfl (Nat.le_refl _) hk hn (Nat.le_of_ble_eq_true rfl) (hR I1 c1 hC9) ?_
  rintro v J9 ⟨hD9, hF⟩
  obtain ⟨e1, e2⟩ : v = F.1 ∧ J9 (1, 0) 32 = F.2 := ⟨congrArg Prod.fst hF, congrArg Prod.snd hF⟩
  subst e1
  refine x_istore (pc := 881) (lo9 := [(7, xi F.1), (6, xi F.2), (0, xr (2, 9)), (1, xr (0, 0)), (2, xr (1, 0)), (3, xr (2, 0)), (4, xr (2, 1)), (5, xi (i : Int))]) hE dL_law_881 (by decide) rfl ?_
  refine x_aload_n (pc := 883) (j := 4) hE dL_law_883 rfl ?_
  refine x_cr (pc := 884) (q := (1, 0)) (as := []) (st := []) hE dL_law_884 pl_X10_thrown lk_RL_177 rfl (lvm1 _ (by decide)) rfl rfl (Nat.le_refl _) hk hn (Nat.le_of_ble_eq_true rfl) (ok_thrown hX 11) ?_
  rintro t9 J9 ⟨rfl, rfl⟩
  show V 887 [(7, xi F.1), (6, xi F.2), (0, xr (2, 9)), (1, xr (0, 0)), (2, xr (1, 0)), (3, xr (2, 0)), (4, xr (2, 1)), (5, xi (i : Int))] [xi (J9 (1, 0) 32)] (J9, xst c1) _ _
  rw [e2]
  refine x_iload (pc := 887) (j := 1) hE dL_law_887 rfl ?_
  refine x_icmp_same (pc := 889) (tgt := 894) hE dL_law_889 rfl ?_
  refine x_iload (pc := 894) (j := 1) hE dL_law_894 rfl ?_
  refine x_in hE (fun hI9 => ?_)
  have hx : xin F.2 := e2 ▸ hI9 (1, 0) 32
  refine x_if_ne (pc := 896) (tgt := 911) hE dL_law_896 rfl hx (fun _ => x_goto (pc := 911) (tgt := 3918) hE dL_law_911 rfl (x_loc hE [2, 3, 4, 5, 6, 7] rfl (next _ _ hD9 hA9))) (fun hz0 => ?_)
  refine x_aload_n (pc := 899) (j := 5) hE dL_law_899 rfl ?_
  refine x_iconst (pc := 900) hE dL_law_900 ?_
  refine x_laload (pc := 901) (nn := 1) hE dL_law_901 rfl (lvm2 _ (by decide)) (by decide) (by decide) ?_
  show V 902 [(7, xi F.1), (6, xi F.2), (0, xr (2, 9)), (1, xr (0, 0)), (2, xr (1, 0)), (3, xr (2, 0)), (4, xr (2, 1)), (5, xi (i : Int))] [xl (c1.2.1 (2, 0) 0)] (J9, xst c1) _ _
  rw [hO hz0]
  refine x_iload (pc := 902) (j := 0) hE dL_law_902 rfl ?_
  refine x_i2l (pc := 904) hE dL_law_904 ?_
  refine x_lcmp (pc := 905) hE dL_law_905 ?_
  rw [lg_same]
  exact x_if_eq (pc := 906) (tgt := 911) hE dL_law_906 rfl (by decide) (fun _ => x_goto (pc := 911) (tgt := 3918) hE dL_law_911 rfl (x_loc hE [2, 3, 4, 5, 6, 7] rfl (next _ _ hD9 hA9))) (fun h => absurd rfl h)

set_option maxRecDepth 100000 in
theorem lc_8 {X : xX} (hX : xBase X) {V : xT} {mc ms : Nat} (hE : xEng X m_L_law 12 mc ms V) {b L : Nat} {xs : Nat → Int32} (hs : LSc X b L xs) {c : xCx} {I : xIn} (hA : c.2.2.2 (2, 9) = b) {i : Nat} (hi : i + 7 ≤ L) {k n mc9 ms9 : Nat} (hk : k + mc9 ≤ mc) (hn : n + ms9 ≤ ms) {F : Int × Int} {C9 D9 : xIn → xCx → Prop} (hW : xMet X m_L_crowd 11 [xr (0, 0), xi (sx xs (i + 1)), xi (sx xs (i + 2)), xi (sx xs (i + 3)), xr (2, 0)] (I, xst c) mc9 ms9 (wPost c F.2 (fun c9 => c9.2.1 (2, 0) 0 = (Int32.ofInt F.1).toInt64) C9)) (hR : ∀ I9 c9, C9 I9 c9 → xRet rI X m_X10_crowd 11 [xr (1, 0), xi (sx xs (i + 1)), xi (sx xs (i + 2)), xi (sx xs (i + 3))] c9 I9 0 0 (fun v J => D9 J c9 ∧ (v, J (1, 0) 32) = F) xNo) (next : ∀ J c9, D9 J c9 → (∀ p : xP, p.1 < 3 → c9.2.2.2 p = c.2.2.2 p) → V 3918 [(0, xr (2, 9)), (1, xr (0, 0)), (2, xr (1, 0)), (3, xr (2, 0)), (4, xr (2, 1)), (5, xi (i : Int))] [] (J, xst c9) (k + mc9) (n + ms9)) : V 914 [(0, xr (2, 9)), (1, xr (0, 0)), (2, xr (1, 0)), (3, xr (2, 0)), (4, xr (2, 1)), (5, xi (i : Int))] [] (I, xst c) k n := by
  refine x_aload_n (pc := 914) (j := 1) hE dL_law_914 rfl ?_
  refine x_aload_n (pc := 915) (j := 0) hE dL_law_915 rfl ?_
  refine x_iload (pc := 916) (j := 5) hE dL_law_916 rfl ?_
  refine x_iconst (pc := 918) hE dL_law_918 ?_
  refine x_iadd (pc := 919) hE dL_law_919 ?_
  refine x_sld (pc := 920) hE hs dL_law_920 hA (m := i + 1) (by omega) (by omega) ?_
  refine x_aload_n (pc := 921) (j := 0) hE dL_law_921 rfl ?_
  refine x_iload (pc := 922) (j := 5) hE dL_law_922 rfl ?_
  refine x_iconst (pc := 924) hE dL_law_924 ?_
  refine x_iadd (pc := 925) hE dL_law_925 ?_
  refine x_sld (pc := 926) hE hs dL_law_926 hA (m := i + 2) (by omega) (by omega) ?_
  refine x_aload_n (pc := 927) (j := 0) hE dL_law_927 rfl ?_
  refine x_iload (pc := 928) (j := 5) hE dL_law_928 rfl ?_
  refine x_iconst (pc := 930) hE dL_law_930 ?_
  refine x_iadd (pc := 931) hE dL_law_931 ?_
  refine x_sld (pc := 932) hE hs dL_law_932 hA (m := i + 3) (by omega) (by omega) ?_
  refine x_aload_n (pc := 933) (j := 3) hE dL_law_933 rfl ?_
  refine x_cw (pc := 934) (as := [xr (0, 0), xi (sx xs (i + 1)), xi (sx xs (i + 2)), xi (sx xs (i + 3)), xr (2, 0)]) hE hW dL_law_934 pl_L_crowd lk_RL_206 rfl (Nat.le_refl _) hk hn rfl ?_
  intro I1 c1 hO hA9 hC9
  have hA2 : c1.2.2.2 (2, 9) = b := (hA9 _ (by decide)).trans hA
  refine x_istore (pc := 937) (lo9 := [(6, xi F.2), (0, xr (2, 9)), (1, xr (0, 0)), (2, xr (1, 0)), (3, xr (2, 0)), (4, xr (2, 1)), (5, xi (i : Int))]) hE dL_law_937 (by decide) rfl ?_
  refine x_aload_n (pc := 939) (j := 3) hE dL_law_939 rfl ?_
  refine x_aload_n (pc := 940) (j := 1) hE dL_law_940 rfl ?_
  refine x_iload (pc := 941) (j := 6) hE dL_law_941 rfl ?_
  refine x_iconst (pc := 943) hE dL_law_943 ?_
  refine x_iadd (pc := 944) hE dL_law_944 ?_
  refine x_sld (pc := 945) hE hs dL_law_945 hA2 (m := i + 1) (by omega) (by omega) ?_
  refine x_aload_n (pc := 946) (j := 1) hE dL_law_946 rfl ?_
  refine x_iload (pc := 947) (j := 6) hE dL_law_947 rfl ?_
  refine x_iconst (pc := 949) hE dL_law_949 ?_
  refine x_iadd (pc := 950) hE dL_law_950 ?_
  refine x_sld (pc := 951) hE hs dL_law_951 hA2 (m := i + 2) (by omega) (by omega) ?_
  refine x_aload_n (pc := 952) (j := 1) hE dL_law_952 rfl ?_
  refine x_iload (pc := 953) (j := 6) hE dL_law_953 rfl ?_
  refine x_iconst (pc := 955) hE dL_law_955 ?_
  refine x_iadd (pc := 956) hE dL_law_956 ?_
  refine x_sld (pc := 957) hE hs dL_law_957 hA2 (m := i + 3) (by omega) (by omega) ?_
  refine x_cr (pc := 958) (q := (1, 0)) (as := [xi (sx xs (i + 1)), xi (sx xs (i + 2)), xi (sx xs (i + 3))]) (st := []) hE dL_law_958 pl_X10_crowd lk_RL_208 rfl (lvm1 _ (by decide)) rfl rfl (Nat.le_refl _) hk hn (Nat.le_of_ble_eq_true rfl) (hR I1 c1 hC9) ?_
  rintro v J9 ⟨hD9, hF⟩
  obtain ⟨e1, e2⟩ : v = F.1 ∧ J9 (1, 0) 32 = F.2 := ⟨congrArg Prod.fst hF, congrArg Prod.snd hF⟩
  subst e1
  refine x_istore (pc := 961) (lo9 := [(7, xi F.1), (6, xi F.2), (0, xr (2, 9)), (1, xr (0, 0)), (2, xr (1, 0)), (3, xr (2, 0)), (4, xr (2, 1)), (5, xi (i : Int))]) hE dL_law_961 (by decide) rfl ?_
  refine x_aload_n (pc := 963) (j := 4) hE dL_law_963 rfl ?_
  refine x_cr (pc := 964) (q := (1, 0)) (as := []) (st := []) hE dL_law_964 pl_X10_thrown lk_RL_177 rfl (lvm1 _ (by decide)) rfl rfl (Nat.le_refl _) hk hn (Nat.le_of_ble_eq_true rfl) (ok_thrown hX 11) ?_
  rintro t9 J9 ⟨rfl, rfl⟩
  show V 967 [(7, xi F.1), (6, xi F.2), (0, xr (2, 9)), (1, xr (0, 0)), (2, xr (1, 0)), (3, xr (2, 0)), (4, xr (2, 1)), (5, xi (i : Int))] [xi (J9 (1, 0) 32)] (J9, xst c1) _ _
  rw [e2]
  refine x_iload (pc := 967) (j := 1) hE dL_law_967 rfl ?_
  refine x_icmp_same (pc := 969) (tgt := 974) hE dL_law_969 rfl ?_
  refine x_iload (pc := 974) (j := 1) hE dL_law_974 rfl ?_
  refine x_in hE (fun hI9 => ?_)
  have hx : xin F.2 := e2 ▸ hI9 (1, 0) 32
  refine x_if_ne (pc := 976) (tgt := 991) hE dL_law_976 rfl hx (fun _ => x_goto (pc := 991) (tgt := 3918) hE dL_law_991 rfl (x_loc hE [2, 3, 4, 5, 6, 7] rfl (next _ _ hD9 hA9))) (fun hz0 => ?_)
  refine x_aload_n (pc := 979) (j := 5) hE dL_law_979 rfl ?_
  refine x_iconst (pc := 980) hE dL_law_980 ?_
  refine x_laload (pc := 981) (nn := 1) hE dL_law_981 rfl (lvm2 _ (by decide)) (by decide) (by decide) ?_
  show V 982 [(7, xi F.1), (6, xi F.2), (0, xr (2, 9)), (1, xr (0, 0)), (2, xr (1, 0)), (3, xr (2, 0)), (4, xr (2, 1)), (5, xi (i : Int))] [xl (c1.2.1 (2, 0) 0)] (J9, xst c1) _ _
  rw [hO hz0]
  refine x_iload (pc := 982) (j := 0) hE dL_law_982 rfl ?_
  refine x_i2l (pc := 984) hE dL_law_984 ?_
  refine x_lcmp (pc := 985) hE dL_law_985 ?_
  rw [lg_same]
  exact x_if_eq (pc := 986) (tgt := 991) hE dL_law_986 rfl (by decide) (fun _ => x_goto (pc := 991) (tgt := 3918) hE dL_law_991 rfl (x_loc hE [2, 3, 4, 5, 6, 7] rfl (next _ _ hD9 hA9))) (fun h => absurd rfl h)

set_option maxRecDepth 100000 in
theorem lc_9 {X : xX} (hX : xBase X) {V : xT} {mc ms : Nat} (hE : xEng X m_L_law 12 mc ms V) {b L : Nat} {xs : Nat → Int32} (hs : LSc X b L xs) {c : xCx} {I : xIn} (hA : c.2.2.2 (2, 9) = b) {i : Nat} (hi : i + 7 ≤ L) {k n mc9 ms9 : Nat} (hk : k + mc9 ≤ mc) (hn : n + ms9 ≤ ms) {bz : Bool} (hbz : bz = decide ((sx xs (i + 4)) ≠ 0)) {F : Int × Int} {C9 D9 : xIn → xCx → Prop} (hW : xMet X m_L_cut 11 [xr (0, 0), xi (sx xs (i + 1)), xi (sx xs (i + 2)), xi (sx xs (i + 3)), xi (xbi bz), xr (2, 0)] (I, xst c) mc9 ms9 (wPost c F.2 (fun c9 => c9.2.1 (2, 0) 0 = (Int32.ofInt F.1).toInt64) C9)) (hR : ∀ I9 c9, C9 I9 c9 → xRet rI X m_X10_cut 11 [xr (1, 0), xi (sx xs (i + 1)), xi (sx xs (i + 2)), xi (sx xs (i + 3)), xi (xbi bz)] c9 I9 0 0 (fun v J => D9 J c9 ∧ (v, J (1, 0) 32) = F) xNo) (next : ∀ J c9, D9 J c9 → (∀ p : xP, p.1 < 3 → c9.2.2.2 p = c.2.2.2 p) → V 3918 [(0, xr (2, 9)), (1, xr (0, 0)), (2, xr (1, 0)), (3, xr (2, 0)), (4, xr (2, 1)), (5, xi (i : Int))] [] (J, xst c9) (k + mc9) (n + ms9)) : V 994 [(0, xr (2, 9)), (1, xr (0, 0)), (2, xr (1, 0)), (3, xr (2, 0)), (4, xr (2, 1)), (5, xi (i : Int))] [] (I, xst c) k n := by
  rcases Decidable.em ((sx xs (i + 4)) = 0) with hz | hz
  · have hb9 : bz = false := by rw [hbz]; simp [hz]
    subst hb9
    refine x_aload_n (pc := 994) (j := 1) hE dL_law_994 rfl ?_
    refine x_aload_n (pc := 995) (j := 0) hE dL_law_995 rfl ?_
    refine x_iload (pc := 996) (j := 5) hE dL_law_996 rfl ?_
    refine x_iconst (pc := 998) hE dL_law_998 ?_
    refine x_iadd (pc := 999) hE dL_law_999 ?_
    refine x_sld (pc := 1000) hE hs dL_law_1000 hA (m := i + 1) (by omega) (by omega) ?_
    refine x_aload_n (pc := 1001) (j := 0) hE dL_law_1001 rfl ?_
    refine x_iload (pc := 1002) (j := 5) hE dL_law_1002 rfl ?_
    refine x_iconst (pc := 1004) hE dL_law_1004 ?_
    refine x_iadd (pc := 1005) hE dL_law_1005 ?_
    refine x_sld (pc := 1006) hE hs dL_law_1006 hA (m := i + 2) (by omega) (by omega) ?_
    refine x_aload_n (pc := 1007) (j := 0) hE dL_law_1007 rfl ?_
    refine x_iload (pc := 1008) (j := 5) hE dL_law_1008 rfl ?_
    refine x_iconst (pc := 1010) hE dL_law_1010 ?_
    refine x_iadd (pc := 1011) hE dL_law_1011 ?_
    refine x_sld (pc := 1012) hE hs dL_law_1012 hA (m := i + 3) (by omega) (by omega) ?_
    refine x_aload_n (pc := 1013) (j := 0) hE dL_law_1013 rfl ?_
    refine x_iload (pc := 1014) (j := 5) hE dL_law_1014 rfl ?_
    refine x_iconst (pc := 1016) hE dL_law_1016 ?_
    refine x_iadd (pc := 1017) hE dL_law_1017 ?_
    refine x_sld (pc := 1018) hE hs dL_law_1018 hA (m := i + 4) (by omega) (by omega) ?_
    refine x_if_eq (pc := 1019) (tgt := 1026) hE dL_law_1019 rfl (xin_ti _) (fun _ => ?_) (fun h => absurd hz h)
    refine x_iconst (pc := 1026) hE dL_law_1026 ?_
    refine x_aload_n (pc := 1027) (j := 3) hE dL_law_1027 rfl ?_
    refine x_cw (pc := 1028) (as := [xr (0, 0), xi (sx xs (i + 1)), xi (sx xs (i + 2)), xi (sx xs (i + 3)), xi 0, xr (2, 0)]) hE hW dL_law_1028 pl_L_cut lk_RL_209 rfl (Nat.le_refl _) hk hn rfl ?_
    intro I1 c1 hO hA9 hC9
    have hA2 : c1.2.2.2 (2, 9) = b := (hA9 _ (by decide)).trans hA
    refine x_istore (pc := 1031) (lo9 := [(6, xi F.2), (0, xr (2, 9)), (1, xr (0, 0)), (2, xr (1, 0)), (3, xr (2, 0)), (4, xr (2, 1)), (5, xi (i : Int))]) hE dL_law_1031 (by decide) rfl ?_
    refine x_aload_n (pc := 1033) (j := 3) hE dL_law_1033 rfl ?_
    refine x_aload_n (pc := 1034) (j := 1) hE dL_law_1034 rfl ?_
    refine x_iload (pc := 1035) (j := 6) hE dL_law_1035 rfl ?_
    refine x_iconst (pc := 1037) hE dL_law_1037 ?_
    refine x_iadd (pc := 1038) hE dL_law_1038 ?_
    refine x_sld (pc := 1039) hE hs dL_law_1039 hA2 (m := i + 1) (by omega) (by omega) ?_
    refine x_aload_n (pc := 1040) (j := 1) hE dL_law_1040 rfl ?_
    refine x_iload (pc := 1041) (j := 6) hE dL_law_1041 rfl ?_
    refine x_iconst (pc := 1043) hE dL_law_1043 ?_
    refine x_iadd (pc := 1044) hE dL_law_1044 ?_
    refine x_sld (pc := 1045) hE hs dL_law_1045 hA2 (m := i + 2) (by omega) (by omega) ?_
    refine x_aload_n (pc := 1046) (j := 1) hE dL_law_1046 rfl ?_
    refine x_iload (pc := 1047) (j := 6) hE dL_law_1047 rfl ?_
    refine x_iconst (pc := 1049) hE dL_law_1049 ?_
    refine x_iadd (pc := 1050) hE dL_law_1050 ?_
    refine x_sld (pc := 1051) hE hs dL_law_1051 hA2 (m := i + 3) (by omega) (by omega) ?_
    refine x_aload_n (pc := 1052) (j := 1) hE dL_law_1052 rfl ?_
    refine x_iload (pc := 1053) (j := 6) hE dL_law_1053 rfl ?_
    refine x_iconst (pc := 1055) hE dL_law_1055 ?_
    refine x_iadd (pc := 1056) hE dL_law_1056 ?_
    refine x_sld (pc := 1057) hE hs dL_law_1057 hA2 (m := i + 4) (by omega) (by omega) ?_
    refine x_if_eq (pc := 1058) (tgt := 1065) hE dL_law_1058 rfl (xin_ti _) (fun _ => ?_) (fun h => absurd hz h)
    refine x_iconst (pc := 1065) hE dL_law_1065 ?_
    refine x_cr (pc := 1066) (q := (1, 0)) (as := [xi (sx xs (i + 1)), xi (sx xs (i + 2)), xi (sx xs (i + 3)), xi 0]) (st := []) hE dL_law_1066 pl_X10_cut lk_RL_212 rfl (lvm1 _ (by decide)) rfl rfl (Nat.le_refl _) hk hn (Nat.le_of_ble_eq_true rfl) (hR I1 c1 hC9) ?_
    rintro v J9 ⟨hD9, hF⟩
    obtain ⟨e1, e2⟩ : v = F.1 ∧ J9 (1, 0) 32 = F.2 := ⟨congrArg Prod.fst hF, congrArg Prod.snd hF⟩
    subst e1
    refine x_istore (pc := 1069) (lo9 := [(7, xi F.1), (6, xi F.2), (0, xr (2, 9)), (1, xr (0, 0)), (2, xr (1, 0)), (3, xr (2, 0)), (4, xr (2, 1)), (5, xi (i : Int))]) hE dL_law_1069 (by decide) rfl ?_
    refine x_aload_n (pc := 1071) (j := 4) hE dL_law_1071 rfl ?_
    refine x_cr (pc := 1072) (q := (1, 0)) (as := []) (st := []) hE dL_law_1072 pl_X10_thrown lk_RL_177 rfl (lvm1 _ (by decide)) rfl rfl (Nat.le_refl _) hk hn (Nat.le_of_ble_eq_true rfl) (ok_thrown hX 11) ?_
    rintro t9 J9 ⟨rfl, rfl⟩
    show V 1075 [(7, xi F.1), (6, xi F.2), (0, xr (2, 9)), (1, xr (0, 0)), (2, xr (1, 0)), (3, xr (2, 0)), (4, xr (2, 1)), (5, xi (i : Int))] [xi (J9 (1, 0) 32)] (J9, xst c1) _ _
    rw [e2]
    refine x_iload (pc := 1075) (j := 1) hE dL_law_1075 rfl ?_
    refine x_icmp_same (pc := 1077) (tgt := 1082) hE dL_law_1077 rfl ?_
    refine x_iload (pc := 1082) (j := 1) hE dL_law_1082 rfl ?_
    refine x_in hE (fun hI9 => ?_)
    have hx : xin F.2 := e2 ▸ hI9 (1, 0) 32
    refine x_if_ne (pc := 1084) (tgt := 1099) hE dL_law_1084 rfl hx (fun _ => x_goto (pc := 1099) (tgt := 3918) hE dL_law_1099 rfl (x_loc hE [2, 3, 4, 5, 6, 7] rfl (next _ _ hD9 hA9))) (fun hz0 => ?_)
    refine x_aload_n (pc := 1087) (j := 5) hE dL_law_1087 rfl ?_
    refine x_iconst (pc := 1088) hE dL_law_1088 ?_
    refine x_laload (pc := 1089) (nn := 1) hE dL_law_1089 rfl (lvm2 _ (by decide)) (by decide) (by decide) ?_
    show V 1090 [(7, xi F.1), (6, xi F.2), (0, xr (2, 9)), (1, xr (0, 0)), (2, xr (1, 0)), (3, xr (2, 0)), (4, xr (2, 1)), (5, xi (i : Int))] [xl (c1.2.1 (2, 0) 0)] (J9, xst c1) _ _
    rw [hO hz0]
    refine x_iload (pc := 1090) (j := 0) hE dL_law_1090 rfl ?_
    refine x_i2l (pc := 1092) hE dL_law_1092 ?_
    refine x_lcmp (pc := 1093) hE dL_law_1093 ?_
    rw [lg_same]
    exact x_if_eq (pc := 1094) (tgt := 1099) hE dL_law_1094 rfl (by decide) (fun _ => x_goto (pc := 1099) (tgt := 3918) hE dL_law_1099 rfl (x_loc hE [2, 3, 4, 5, 6, 7] rfl (next _ _ hD9 hA9))) (fun h => absurd rfl h)
  · have hb9 : bz = true := by rw [hbz]; simp [hz]
    subst hb9
    refine x_aload_n (pc := 994) (j := 1) hE dL_law_994 rfl ?_
    refine x_aload_n (pc := 995) (j := 0) hE dL_law_995 rfl ?_
    refine x_iload (pc := 996) (j := 5) hE dL_law_996 rfl ?_
    refine x_iconst (pc := 998) hE dL_law_998 ?_
    refine x_iadd (pc := 999) hE dL_law_999 ?_
    refine x_sld (pc := 1000) hE hs dL_law_1000 hA (m := i + 1) (by omega) (by omega) ?_
    refine x_aload_n (pc := 1001) (j := 0) hE dL_law_1001 rfl ?_
    refine x_iload (pc := 1002) (j := 5) hE dL_law_1002 rfl ?_
    refine x_iconst (pc := 1004) hE dL_law_1004 ?_
    refine x_iadd (pc := 1005) hE dL_law_1005 ?_
    refine x_sld (pc := 1006) hE hs dL_law_1006 hA (m := i + 2) (by omega) (by omega) ?_
    refine x_aload_n (pc := 1007) (j := 0) hE dL_law_1007 rfl ?_
    refine x_iload (pc := 1008) (j := 5) hE dL_law_1008 rfl ?_
    refine x_iconst (pc := 1010) hE dL_law_1010 ?_
    refine x_iadd (pc := 1011) hE dL_law_1011 ?_
    refine x_sld (pc := 1012) hE hs dL_law_1012 hA (m := i + 3) (by omega) (by omega) ?_
    refine x_aload_n (pc := 1013) (j := 0) hE dL_law_1013 rfl ?_
    refine x_iload (pc := 1014) (j := 5) hE dL_law_1014 rfl ?_
    refine x_iconst (pc := 1016) hE dL_law_1016 ?_
    refine x_iadd (pc := 1017) hE dL_law_1017 ?_
    refine x_sld (pc := 1018) hE hs dL_law_1018 hA (m := i + 4) (by omega) (by omega) ?_
    refine x_if_eq (pc := 1019) (tgt := 1026) hE dL_law_1019 rfl (xin_ti _) (fun h => absurd h hz) (fun _ => ?_)
    refine x_iconst (pc := 1022) hE dL_law_1022 ?_
    refine x_goto (pc := 1023) (tgt := 1027) hE dL_law_1023 rfl ?_
    refine x_aload_n (pc := 1027) (j := 3) hE dL_law_1027 rfl ?_
    refine x_cw (pc := 1028) (as := [xr (0, 0), xi (sx xs (i + 1)), xi (sx xs (i + 2)), xi (sx xs (i + 3)), xi 1, xr (2, 0)]) hE hW dL_law_1028 pl_L_cut lk_RL_209 rfl (Nat.le_refl _) hk hn rfl ?_
    intro I1 c1 hO hA9 hC9
    have hA2 : c1.2.2.2 (2, 9) = b := (hA9 _ (by decide)).trans hA
    refine x_istore (pc := 1031) (lo9 := [(6, xi F.2), (0, xr (2, 9)), (1, xr (0, 0)), (2, xr (1, 0)), (3, xr (2, 0)), (4, xr (2, 1)), (5, xi (i : Int))]) hE dL_law_1031 (by decide) rfl ?_
    refine x_aload_n (pc := 1033) (j := 3) hE dL_law_1033 rfl ?_
    refine x_aload_n (pc := 1034) (j := 1) hE dL_law_1034 rfl ?_
    refine x_iload (pc := 1035) (j := 6) hE dL_law_1035 rfl ?_
    refine x_iconst (pc := 1037) hE dL_law_1037 ?_
    refine x_iadd (pc := 1038) hE dL_law_1038 ?_
    refine x_sld (pc := 1039) hE hs dL_law_1039 hA2 (m := i + 1) (by omega) (by omega) ?_
    refine x_aload_n (pc := 1040) (j := 1) hE dL_law_1040 rfl ?_
    refine x_iload (pc := 1041) (j := 6) hE dL_law_1041 rfl ?_
    refine x_iconst (pc := 1043) hE dL_law_1043 ?_
    refine x_iadd (pc := 1044) hE dL_law_1044 ?_
    refine x_sld (pc := 1045) hE hs dL_law_1045 hA2 (m := i + 2) (by omega) (by omega) ?_
    refine x_aload_n (pc := 1046) (j := 1) hE dL_law_1046 rfl ?_
    refine x_iload (pc := 1047) (j := 6) hE dL_law_1047 rfl ?_
    refine x_iconst (pc := 1049) hE dL_law_1049 ?_
    refine x_iadd (pc := 1050) hE dL_law_1050 ?_
    refine x_sld (pc := 1051) hE hs dL_law_1051 hA2 (m := i + 3) (by omega) (by omega) ?_
    refine x_aload_n (pc := 1052) (j := 1) hE dL_law_1052 rfl ?_
    refine x_iload (pc := 1053) (j := 6) hE dL_law_1053 rfl ?_
    refine x_iconst (pc := 1055) hE dL_law_1055 ?_
    refine x_iadd (pc := 1056) hE dL_law_1056 ?_
    refine x_sld (pc := 1057) hE hs dL_law_1057 hA2 (m := i + 4) (by omega) (by omega) ?_
    refine x_if_eq (pc := 1058) (tgt := 1065) hE dL_law_1058 rfl (xin_ti _) (fun h => absurd h hz) (fun _ => ?_)
    refine x_iconst (pc := 1061) hE dL_law_1061 ?_
    refine x_goto (pc := 1062) (tgt := 1066) hE dL_law_1062 rfl ?_
    refine x_cr (pc := 1066) (q := (1, 0)) (as := [xi (sx xs (i + 1)), xi (sx xs (i + 2)), xi (sx xs (i + 3)), xi 1]) (st := []) hE dL_law_1066 pl_X10_cut lk_RL_212 rfl (lvm1 _ (by decide)) rfl rfl (Nat.le_refl _) hk hn (Nat.le_of_ble_eq_true rfl) (hR I1 c1 hC9) ?_
    rintro v J9 ⟨hD9, hF⟩
    obtain ⟨e1, e2⟩ : v = F.1 ∧ J9 (1, 0) 32 = F.2 := ⟨congrArg Prod.fst hF, congrArg Prod.snd hF⟩
    subst e1
    refine x_istore (pc := 1069) (lo9 := [(7, xi F.1), (6, xi F.2), (0, xr (2, 9)), (1, xr (0, 0)), (2, xr (1, 0)), (3, xr (2, 0)), (4, xr (2, 1)), (5, xi (i : Int))]) hE dL_law_1069 (by decide) rfl ?_
    refine x_aload_n (pc := 1071) (j := 4) hE dL_law_1071 rfl ?_
    refine x_cr (pc := 1072) (q := (1, 0)) (as := []) (st := []) hE dL_law_1072 pl_X10_thrown lk_RL_177 rfl (lvm1 _ (by decide)) rfl rfl (Nat.le_refl _) hk hn (Nat.le_of_ble_eq_true rfl) (ok_thrown hX 11) ?_
    rintro t9 J9 ⟨rfl, rfl⟩
    show V 1075 [(7, xi F.1), (6, xi F.2), (0, xr (2, 9)), (1, xr (0, 0)), (2, xr (1, 0)), (3, xr (2, 0)), (4, xr (2, 1)), (5, xi (i : Int))] [xi (J9 (1, 0) 32)] (J9, xst c1) _ _
    rw [e2]
    refine x_iload (pc := 1075) (j := 1) hE dL_law_1075 rfl ?_
    refine x_icmp_same (pc := 1077) (tgt := 1082) hE dL_law_1077 rfl ?_
    refine x_iload (pc := 1082) (j := 1) hE dL_law_1082 rfl ?_
    refine x_in hE (fun hI9 => ?_)
    have hx : xin F.2 := e2 ▸ hI9 (1, 0) 32
    refine x_if_ne (pc := 1084) (tgt := 1099) hE dL_law_1084 rfl hx (fun _ => x_goto (pc := 1099) (tgt := 3918) hE dL_law_1099 rfl (x_loc hE [2, 3, 4, 5, 6, 7] rfl (next _ _ hD9 hA9))) (fun hz0 => ?_)
    refine x_aload_n (pc := 1087) (j := 5) hE dL_law_1087 rfl ?_
    refine x_iconst (pc := 1088) hE dL_law_1088 ?_
    refine x_laload (pc := 1089) (nn := 1) hE dL_law_1089 rfl (lvm2 _ (by decide)) (by decide) (by decide) ?_
    show V 1090 [(7, xi F.1), (6, xi F.2), (0, xr (2, 9)), (1, xr (0, 0)), (2, xr (1, 0)), (3, xr (2, 0)), (4, xr (2, 1)), (5, xi (i : Int))] [xl (c1.2.1 (2, 0) 0)] (J9, xst c1) _ _
    rw [hO hz0]
    refine x_iload (pc := 1090) (j := 0) hE dL_law_1090 rfl ?_
    refine x_i2l (pc := 1092) hE dL_law_1092 ?_
    refine x_lcmp (pc := 1093) hE dL_law_1093 ?_
    rw [lg_same]
    exact x_if_eq (pc := 1094) (tgt := 1099) hE dL_law_1094 rfl (by decide) (fun _ => x_goto (pc := 1099) (tgt := 3918) hE dL_law_1099 rfl (x_loc hE [2, 3, 4, 5, 6, 7] rfl (next _ _ hD9 hA9))) (fun h => absurd rfl h)

set_option maxRecDepth 100000 in
theorem lc_10 {X : xX} (hX : xBase X) {V : xT} {mc ms : Nat} (hE : xEng X m_L_law 12 mc ms V) {b L : Nat} {xs : Nat → Int32} (hs : LSc X b L xs) {c : xCx} {I : xIn} (hA : c.2.2.2 (2, 9) = b) {i : Nat} (hi : i + 7 ≤ L) {k n mc9 ms9 : Nat} (hk : k + mc9 ≤ mc) (hn : n + ms9 ≤ ms) {F : Int × Int} {C9 D9 : xIn → xCx → Prop} (hW : xMet X m_L_cutSum 11 [xr (0, 0), xi (sx xs (i + 1)), xi (sx xs (i + 2)), xi (sx xs (i + 3)), xi (sx xs (i + 4)), xr (2, 0)] (I, xst c) mc9 ms9 (wPost c F.2 (fun c9 => c9.2.1 (2, 0) 0 = (Int32.ofInt F.1).toInt64) C9)) (hR : ∀ I9 c9, C9 I9 c9 → xRet rI X m_X10_cutSum 11 [xr (1, 0), xi (sx xs (i + 1)), xi (sx xs (i + 2)), xi (sx xs (i + 3)), xi (sx xs (i + 4))] c9 I9 0 0 (fun v J => D9 J c9 ∧ (v, J (1, 0) 32) = F) xNo) (next : ∀ J c9, D9 J c9 → (∀ p : xP, p.1 < 3 → c9.2.2.2 p = c.2.2.2 p) → V 3918 [(0, xr (2, 9)), (1, xr (0, 0)), (2, xr (1, 0)), (3, xr (2, 0)), (4, xr (2, 1)), (5, xi (i : Int))] [] (J, xst c9) (k + mc9) (n + ms9)) : V 1102 [(0, xr (2, 9)), (1, xr (0, 0)), (2, xr (1, 0)), (3, xr (2, 0)), (4, xr (2, 1)), (5, xi (i : Int))] [] (I, xst c) k n := by
  refine x_aload_n (pc := 1102) (j := 1) hE dL_law_1102 rfl ?_
  refine x_aload_n (pc := 1103) (j := 0) hE dL_law_1103 rfl ?_
  refine x_iload (pc := 1104) (j := 5) hE dL_law_1104 rfl ?_
  refine x_iconst (pc := 1106) hE dL_law_1106 ?_
  refine x_iadd (pc := 1107) hE dL_law_1107 ?_
  refine x_sld (pc := 1108) hE hs dL_law_1108 hA (m := i + 1) (by omega) (by omega) ?_
  refine x_aload_n (pc := 1109) (j := 0) hE dL_law_1109 rfl ?_
  refine x_iload (pc := 1110) (j := 5) hE dL_law_1110 rfl ?_
  refine x_iconst (pc := 1112) hE dL_law_1112 ?_
  refine x_iadd (pc := 1113) hE dL_law_1113 ?_
  refine x_sld (pc := 1114) hE hs dL_law_1114 hA (m := i + 2) (by omega) (by omega) ?_
  refine x_aload_n (pc := 1115) (j := 0) hE dL_law_1115 rfl ?_
  refine x_iload (pc := 1116) (j := 5) hE dL_law_1116 rfl ?_
  refine x_iconst (pc := 1118) hE dL_law_1118 ?_
  refine x_iadd (pc := 1119) hE dL_law_1119 ?_
  refine x_sld (pc := 1120) hE hs dL_law_1120 hA (m := i + 3) (by omega) (by omega) ?_
  refine x_aload_n (pc := 1121) (j := 0) hE dL_law_1121 rfl ?_
  refine x_iload (pc := 1122) (j := 5) hE dL_law_1122 rfl ?_
  refine x_iconst (pc := 1124) hE dL_law_1124 ?_
  refine x_iadd (pc := 1125) hE dL_law_1125 ?_
  refine x_sld (pc := 1126) hE hs dL_law_1126 hA (m := i + 4) (by omega) (by omega) ?_
  refine x_aload_n (pc := 1127) (j := 3) hE dL_law_1127 rfl ?_
  refine x_cw (pc := 1128) (as := [xr (0, 0), xi (sx xs (i + 1)), xi (sx xs (i + 2)), xi (sx xs (i + 3)), xi (sx xs (i + 4)), xr (2, 0)]) hE hW dL_law_1128 pl_L_cutSum lk_RL_213 rfl (Nat.le_refl _) hk hn rfl ?_
  intro I1 c1 hO hA9 hC9
  have hA2 : c1.2.2.2 (2, 9) = b := (hA9 _ (by decide)).trans hA
  refine x_istore (pc := 1131) (lo9 := [(6, xi F.2), (0, xr (2, 9)), (1, xr (0, 0)), (2, xr (1, 0)), (3, xr (2, 0)), (4, xr (2, 1)), (5, xi (i : Int))]) hE dL_law_1131 (by decide) rfl ?_
  refine x_aload_n (pc := 1133) (j := 3) hE dL_law_1133 rfl ?_
  refine x_aload_n (pc := 1134) (j := 1) hE dL_law_1134 rfl ?_
  refine x_iload (pc := 1135) (j := 6) hE dL_law_1135 rfl ?_
  refine x_iconst (pc := 1137) hE dL_law_1137 ?_
  refine x_iadd (pc := 1138) hE dL_law_1138 ?_
  refine x_sld (pc := 1139) hE hs dL_law_1139 hA2 (m := i + 1) (by omega) (by omega) ?_
  refine x_aload_n (pc := 1140) (j := 1) hE dL_law_1140 rfl ?_
  refine x_iload (pc := 1141) (j := 6) hE dL_law_1141 rfl ?_
  refine x_iconst (pc := 1143) hE dL_law_1143 ?_
  refine x_iadd (pc := 1144) hE dL_law_1144 ?_
  refine x_sld (pc := 1145) hE hs dL_law_1145 hA2 (m := i + 2) (by omega) (by omega) ?_
  refine x_aload_n (pc := 1146) (j := 1) hE dL_law_1146 rfl ?_
  refine x_iload (pc := 1147) (j := 6) hE dL_law_1147 rfl ?_
  refine x_iconst (pc := 1149) hE dL_law_1149 ?_
  refine x_iadd (pc := 1150) hE dL_law_1150 ?_
  refine x_sld (pc := 1151) hE hs dL_law_1151 hA2 (m := i + 3) (by omega) (by omega) ?_
  refine x_aload_n (pc := 1152) (j := 1) hE dL_law_1152 rfl ?_
  refine x_iload (pc := 1153) (j := 6) hE dL_law_1153 rfl ?_
  refine x_iconst (pc := 1155) hE dL_law_1155 ?_
  refine x_iadd (pc := 1156) hE dL_law_1156 ?_
  refine x_sld (pc := 1157) hE hs dL_law_1157 hA2 (m := i + 4) (by omega) (by omega) ?_
  refine x_cr (pc := 1158) (q := (1, 0)) (as := [xi (sx xs (i + 1)), xi (sx xs (i + 2)), xi (sx xs (i + 3)), xi (sx xs (i + 4))]) (st := []) hE dL_law_1158 pl_X10_cutSum lk_RL_215 rfl (lvm1 _ (by decide)) rfl rfl (Nat.le_refl _) hk hn (Nat.le_of_ble_eq_true rfl) (hR I1 c1 hC9) ?_
  rintro v J9 ⟨hD9, hF⟩
  obtain ⟨e1, e2⟩ : v = F.1 ∧ J9 (1, 0) 32 = F.2 := ⟨congrArg Prod.fst hF, congrArg Prod.snd hF⟩
  subst e1
  refine x_istore (pc := 1161) (lo9 := [(7, xi F.1), (6, xi F.2), (0, xr (2, 9)), (1, xr (0, 0)), (2, xr (1, 0)), (3, xr (2, 0)), (4, xr (2, 1)), (5, xi (i : Int))]) hE dL_law_1161 (by decide) rfl ?_
  refine x_aload_n (pc := 1163) (j := 4) hE dL_law_1163 rfl ?_
  refine x_cr (pc := 1164) (q := (1, 0)) (as := []) (st := []) hE dL_law_1164 pl_X10_thrown lk_RL_177 rfl (lvm1 _ (by decide)) rfl rfl (Nat.le_refl _) hk hn (Nat.le_of_ble_eq_true rfl) (ok_thrown hX 11) ?_
  rintro t9 J9 ⟨rfl, rfl⟩
  show V 1167 [(7, xi F.1), (6, xi F.2), (0, xr (2, 9)), (1, xr (0, 0)), (2, xr (1, 0)), (3, xr (2, 0)), (4, xr (2, 1)), (5, xi (i : Int))] [xi (J9 (1, 0) 32)] (J9, xst c1) _ _
  rw [e2]
  refine x_iload (pc := 1167) (j := 1) hE dL_law_1167 rfl ?_
  refine x_icmp_same (pc := 1169) (tgt := 1174) hE dL_law_1169 rfl ?_
  refine x_iload (pc := 1174) (j := 1) hE dL_law_1174 rfl ?_
  refine x_in hE (fun hI9 => ?_)
  have hx : xin F.2 := e2 ▸ hI9 (1, 0) 32
  refine x_if_ne (pc := 1176) (tgt := 1191) hE dL_law_1176 rfl hx (fun _ => x_goto (pc := 1191) (tgt := 3918) hE dL_law_1191 rfl (x_loc hE [2, 3, 4, 5, 6, 7] rfl (next _ _ hD9 hA9))) (fun hz0 => ?_)
  refine x_aload_n (pc := 1179) (j := 5) hE dL_law_1179 rfl ?_
  refine x_iconst (pc := 1180) hE dL_law_1180 ?_
  refine x_laload (pc := 1181) (nn := 1) hE dL_law_1181 rfl (lvm2 _ (by decide)) (by decide) (by decide) ?_
  show V 1182 [(7, xi F.1), (6, xi F.2), (0, xr (2, 9)), (1, xr (0, 0)), (2, xr (1, 0)), (3, xr (2, 0)), (4, xr (2, 1)), (5, xi (i : Int))] [xl (c1.2.1 (2, 0) 0)] (J9, xst c1) _ _
  rw [hO hz0]
  refine x_iload (pc := 1182) (j := 0) hE dL_law_1182 rfl ?_
  refine x_i2l (pc := 1184) hE dL_law_1184 ?_
  refine x_lcmp (pc := 1185) hE dL_law_1185 ?_
  rw [lg_same]
  exact x_if_eq (pc := 1186) (tgt := 1191) hE dL_law_1186 rfl (by decide) (fun _ => x_goto (pc := 1191) (tgt := 3918) hE dL_law_1191 rfl (x_loc hE [2, 3, 4, 5, 6, 7] rfl (next _ _ hD9 hA9))) (fun h => absurd rfl h)

set_option maxRecDepth 100000 in
theorem lc_11 {X : xX} (hX : xBase X) {V : xT} {mc ms : Nat} (hE : xEng X m_L_law 12 mc ms V) {b L : Nat} {xs : Nat → Int32} (hs : LSc X b L xs) {c : xCx} {I : xIn} (hA : c.2.2.2 (2, 9) = b) {i : Nat} (hi : i + 7 ≤ L) {k n mc9 ms9 : Nat} (hk : k + mc9 ≤ mc) (hn : n + ms9 ≤ ms) {F : Int × Int} {C9 D9 : xIn → xCx → Prop} (hW : xMet X m_L_cuts 11 [xr (0, 0), xi (sx xs (i + 1)), xi (sx xs (i + 2)), xi (sx xs (i + 3)), xr (2, 0)] (I, xst c) mc9 ms9 (wPost c F.2 (fun c9 => c9.2.1 (2, 0) 0 = (Int32.ofInt F.1).toInt64) C9)) (hR : ∀ I9 c9, C9 I9 c9 → xRet rI X m_X10_cuts 11 [xr (1, 0), xi (sx xs (i + 1)), xi (sx xs (i + 2)), xi (sx xs (i + 3))] c9 I9 0 0 (fun v J => D9 J c9 ∧ (v, J (1, 0) 32) = F) xNo) (next : ∀ J c9, D9 J c9 → (∀ p : xP, p.1 < 3 → c9.2.2.2 p = c.2.2.2 p) → V 3918 [(0, xr (2, 9)), (1, xr (0, 0)), (2, xr (1, 0)), (3, xr (2, 0)), (4, xr (2, 1)), (5, xi (i : Int))] [] (J, xst c9) (k + mc9) (n + ms9)) : V 1194 [(0, xr (2, 9)), (1, xr (0, 0)), (2, xr (1, 0)), (3, xr (2, 0)), (4, xr (2, 1)), (5, xi (i : Int))] [] (I, xst c) k n := by
  refine x_aload_n (pc := 1194) (j := 1) hE dL_law_1194 rfl ?_
  refine x_aload_n (pc := 1195) (j := 0) hE dL_law_1195 rfl ?_
  refine x_iload (pc := 1196) (j := 5) hE dL_law_1196 rfl ?_
  refine x_iconst (pc := 1198) hE dL_law_1198 ?_
  refine x_iadd (pc := 1199) hE dL_law_1199 ?_
  refine x_sld (pc := 1200) hE hs dL_law_1200 hA (m := i + 1) (by omega) (by omega) ?_
  refine x_aload_n (pc := 1201) (j := 0) hE dL_law_1201 rfl ?_
  refine x_iload (pc := 1202) (j := 5) hE dL_law_1202 rfl ?_
  refine x_iconst (pc := 1204) hE dL_law_1204 ?_
  refine x_iadd (pc := 1205) hE dL_law_1205 ?_
  refine x_sld (pc := 1206) hE hs dL_law_1206 hA (m := i + 2) (by omega) (by omega) ?_
  refine x_aload_n (pc := 1207) (j := 0) hE dL_law_1207 rfl ?_
  refine x_iload (pc := 1208) (j := 5) hE dL_law_1208 rfl ?_
  refine x_iconst (pc := 1210) hE dL_law_1210 ?_
  refine x_iadd (pc := 1211) hE dL_law_1211 ?_
  refine x_sld (pc := 1212) hE hs dL_law_1212 hA (m := i + 3) (by omega) (by omega) ?_
  refine x_aload_n (pc := 1213) (j := 3) hE dL_law_1213 rfl ?_
  refine x_cw (pc := 1214) (as := [xr (0, 0), xi (sx xs (i + 1)), xi (sx xs (i + 2)), xi (sx xs (i + 3)), xr (2, 0)]) hE hW dL_law_1214 pl_L_cuts lk_RL_216 rfl (Nat.le_refl _) hk hn rfl ?_
  intro I1 c1 hO hA9 hC9
  have hA2 : c1.2.2.2 (2, 9) = b := (hA9 _ (by decide)).trans hA
  refine x_istore (pc := 1217) (lo9 := [(6, xi F.2), (0, xr (2, 9)), (1, xr (0, 0)), (2, xr (1, 0)), (3, xr (2, 0)), (4, xr (2, 1)), (5, xi (i : Int))]) hE dL_law_1217 (by decide) rfl ?_
  refine x_aload_n (pc := 1219) (j := 3) hE dL_law_1219 rfl ?_
  refine x_aload_n (pc := 1220) (j := 1) hE dL_law_1220 rfl ?_
  refine x_iload (pc := 1221) (j := 6) hE dL_law_1221 rfl ?_
  refine x_iconst (pc := 1223) hE dL_law_1223 ?_
  refine x_iadd (pc := 1224) hE dL_law_1224 ?_
  refine x_sld (pc := 1225) hE hs dL_law_1225 hA2 (m := i + 1) (by omega) (by omega) ?_
  refine x_aload_n (pc := 1226) (j := 1) hE dL_law_1226 rfl ?_
  refine x_iload (pc := 1227) (j := 6) hE dL_law_1227 rfl ?_
  refine x_iconst (pc := 1229) hE dL_law_1229 ?_
  refine x_iadd (pc := 1230) hE dL_law_1230 ?_
  refine x_sld (pc := 1231) hE hs dL_law_1231 hA2 (m := i + 2) (by omega) (by omega) ?_
  refine x_aload_n (pc := 1232) (j := 1) hE dL_law_1232 rfl ?_
  refine x_iload (pc := 1233) (j := 6) hE dL_law_1233 rfl ?_
  refine x_iconst (pc := 1235) hE dL_law_1235 ?_
  refine x_iadd (pc := 1236) hE dL_law_1236 ?_
  refine x_sld (pc := 1237) hE hs dL_law_1237 hA2 (m := i + 3) (by omega) (by omega) ?_
  refine x_cr (pc := 1238) (q := (1, 0)) (as := [xi (sx xs (i + 1)), xi (sx xs (i + 2)), xi (sx xs (i + 3))]) (st := []) hE dL_law_1238 pl_X10_cuts lk_RL_218 rfl (lvm1 _ (by decide)) rfl rfl (Nat.le_refl _) hk hn (Nat.le_of_ble_eq_true rfl) (hR I1 c1 hC9) ?_
  rintro v J9 ⟨hD9, hF⟩
  obtain ⟨e1, e2⟩ : v = F.1 ∧ J9 (1, 0) 32 = F.2 := ⟨congrArg Prod.fst hF, congrArg Prod.snd hF⟩
  subst e1
  refine x_istore (pc := 1241) (lo9 := [(7, xi F.1), (6, xi F.2), (0, xr (2, 9)), (1, xr (0, 0)), (2, xr (1, 0)), (3, xr (2, 0)), (4, xr (2, 1)), (5, xi (i : Int))]) hE dL_law_1241 (by decide) rfl ?_
  refine x_aload_n (pc := 1243) (j := 4) hE dL_law_1243 rfl ?_
  refine x_cr (pc := 1244) (q := (1, 0)) (as := []) (st := []) hE dL_law_1244 pl_X10_thrown lk_RL_177 rfl (lvm1 _ (by decide)) rfl rfl (Nat.le_refl _) hk hn (Nat.le_of_ble_eq_true rfl) (ok_thrown hX 11) ?_
  rintro t9 J9 ⟨rfl, rfl⟩
  show V 1247 [(7, xi F.1), (6, xi F.2), (0, xr (2, 9)), (1, xr (0, 0)), (2, xr (1, 0)), (3, xr (2, 0)), (4, xr (2, 1)), (5, xi (i : Int))] [xi (J9 (1, 0) 32)] (J9, xst c1) _ _
  rw [e2]
  refine x_iload (pc := 1247) (j := 1) hE dL_law_1247 rfl ?_
  refine x_icmp_same (pc := 1249) (tgt := 1254) hE dL_law_1249 rfl ?_
  refine x_iload (pc := 1254) (j := 1) hE dL_law_1254 rfl ?_
  refine x_in hE (fun hI9 => ?_)
  have hx : xin F.2 := e2 ▸ hI9 (1, 0) 32
  refine x_if_ne (pc := 1256) (tgt := 1271) hE dL_law_1256 rfl hx (fun _ => x_goto (pc := 1271) (tgt := 3918) hE dL_law_1271 rfl (x_loc hE [2, 3, 4, 5, 6, 7] rfl (next _ _ hD9 hA9))) (fun hz0 => ?_)
  refine x_aload_n (pc := 1259) (j := 5) hE dL_law_1259 rfl ?_
  refine x_iconst (pc := 1260) hE dL_law_1260 ?_
  refine x_laload (pc := 1261) (nn := 1) hE dL_law_1261 rfl (lvm2 _ (by decide)) (by decide) (by decide) ?_
  show V 1262 [(7, xi F.1), (6, xi F.2), (0, xr (2, 9)), (1, xr (0, 0)), (2, xr (1, 0)), (3, xr (2, 0)), (4, xr (2, 1)), (5, xi (i : Int))] [xl (c1.2.1 (2, 0) 0)] (J9, xst c1) _ _
  rw [hO hz0]
  refine x_iload (pc := 1262) (j := 0) hE dL_law_1262 rfl ?_
  refine x_i2l (pc := 1264) hE dL_law_1264 ?_
  refine x_lcmp (pc := 1265) hE dL_law_1265 ?_
  rw [lg_same]
  exact x_if_eq (pc := 1266) (tgt := 1271) hE dL_law_1266 rfl (by decide) (fun _ => x_goto (pc := 1271) (tgt := 3918) hE dL_law_1271 rfl (x_loc hE [2, 3, 4, 5, 6, 7] rfl (next _ _ hD9 hA9))) (fun h => absurd rfl h)

set_option maxRecDepth 100000 in
theorem lc_12 {X : xX} (hX : xBase X) {V : xT} {mc ms : Nat} (hE : xEng X m_L_law 12 mc ms V) {b L : Nat} {xs : Nat → Int32} (hs : LSc X b L xs) {c : xCx} {I : xIn} (hA : c.2.2.2 (2, 9) = b) {i : Nat} (hi : i + 7 ≤ L) {k n mc9 ms9 : Nat} (hk : k + mc9 ≤ mc) (hn : n + ms9 ≤ ms) {F : Bool × Int} {C9 D9 : xIn → xCx → Prop} (hW : xMet X m_L_isFull 11 [xr (0, 0), xi (sx xs (i + 1)), xi (sx xs (i + 2)), xi (sx xs (i + 3)), xi (sx xs (i + 4)), xr (2, 0)] (I, xst c) mc9 ms9 (wPost c F.2 (fun c9 => c9.2.1 (2, 0) 0 = blV F.1) C9)) (hR : ∀ I9 c9, C9 I9 c9 → xRet rB X m_X10_isFull 11 [xr (1, 0), xi (sx xs (i + 1)), xi (sx xs (i + 2)), xi (sx xs (i + 3)), xi (sx xs (i + 4))] c9 I9 0 0 (fun v J => D9 J c9 ∧ (v, J (1, 0) 32) = F) xNo) (next : ∀ J c9, D9 J c9 → (∀ p : xP, p.1 < 3 → c9.2.2.2 p = c.2.2.2 p) → V 3918 [(0, xr (2, 9)), (1, xr (0, 0)), (2, xr (1, 0)), (3, xr (2, 0)), (4, xr (2, 1)), (5, xi (i : Int))] [] (J, xst c9) (k + mc9) (n + ms9)) : V 1274 [(0, xr (2, 9)), (1, xr (0, 0)), (2, xr (1, 0)), (3, xr (2, 0)), (4, xr (2, 1)), (5, xi (i : Int))] [] (I, xst c) k n := by
  refine x_aload_n (pc := 1274) (j := 1) hE dL_law_1274 rfl ?_
  refine x_aload_n (pc := 1275) (j := 0) hE dL_law_1275 rfl ?_
  refine x_iload (pc := 1276) (j := 5) hE dL_law_1276 rfl ?_
  refine x_iconst (pc := 1278) hE dL_law_1278 ?_
  refine x_iadd (pc := 1279) hE dL_law_1279 ?_
  refine x_sld (pc := 1280) hE hs dL_law_1280 hA (m := i + 1) (by omega) (by omega) ?_
  refine x_aload_n (pc := 1281) (j := 0) hE dL_law_1281 rfl ?_
  refine x_iload (pc := 1282) (j := 5) hE dL_law_1282 rfl ?_
  refine x_iconst (pc := 1284) hE dL_law_1284 ?_
  refine x_iadd (pc := 1285) hE dL_law_1285 ?_
  refine x_sld (pc := 1286) hE hs dL_law_1286 hA (m := i + 2) (by omega) (by omega) ?_
  refine x_aload_n (pc := 1287) (j := 0) hE dL_law_1287 rfl ?_
  refine x_iload (pc := 1288) (j := 5) hE dL_law_1288 rfl ?_
  refine x_iconst (pc := 1290) hE dL_law_1290 ?_
  refine x_iadd (pc := 1291) hE dL_law_1291 ?_
  refine x_sld (pc := 1292) hE hs dL_law_1292 hA (m := i + 3) (by omega) (by omega) ?_
  refine x_aload_n (pc := 1293) (j := 0) hE dL_law_1293 rfl ?_
  refine x_iload (pc := 1294) (j := 5) hE dL_law_1294 rfl ?_
  refine x_iconst (pc := 1296) hE dL_law_1296 ?_
  refine x_iadd (pc := 1297) hE dL_law_1297 ?_
  refine x_sld (pc := 1298) hE hs dL_law_1298 hA (m := i + 4) (by omega) (by omega) ?_
  refine x_aload_n (pc := 1299) (j := 3) hE dL_law_1299 rfl ?_
  refine x_cw (pc := 1300) (as := [xr (0, 0), xi (sx xs (i + 1)), xi (sx xs (i + 2)), xi (sx xs (i + 3)), xi (sx xs (i + 4)), xr (2, 0)]) hE hW dL_law_1300 pl_L_isFull lk_RL_219 rfl (Nat.le_refl _) hk hn rfl ?_
  intro I1 c1 hO hA9 hC9
  have hA2 : c1.2.2.2 (2, 9) = b := (hA9 _ (by decide)).trans hA
  refine x_istore (pc := 1303) (lo9 := [(6, xi F.2), (0, xr (2, 9)), (1, xr (0, 0)), (2, xr (1, 0)), (3, xr (2, 0)), (4, xr (2, 1)), (5, xi (i : Int))]) hE dL_law_1303 (by decide) rfl ?_
  refine x_aload_n (pc := 1305) (j := 3) hE dL_law_1305 rfl ?_
  refine x_aload_n (pc := 1306) (j := 1) hE dL_law_1306 rfl ?_
  refine x_iload (pc := 1307) (j := 6) hE dL_law_1307 rfl ?_
  refine x_iconst (pc := 1309) hE dL_law_1309 ?_
  refine x_iadd (pc := 1310) hE dL_law_1310 ?_
  refine x_sld (pc := 1311) hE hs dL_law_1311 hA2 (m := i + 1) (by omega) (by omega) ?_
  refine x_aload_n (pc := 1312) (j := 1) hE dL_law_1312 rfl ?_
  refine x_iload (pc := 1313) (j := 6) hE dL_law_1313 rfl ?_
  refine x_iconst (pc := 1315) hE dL_law_1315 ?_
  refine x_iadd (pc := 1316) hE dL_law_1316 ?_
  refine x_sld (pc := 1317) hE hs dL_law_1317 hA2 (m := i + 2) (by omega) (by omega) ?_
  refine x_aload_n (pc := 1318) (j := 1) hE dL_law_1318 rfl ?_
  refine x_iload (pc := 1319) (j := 6) hE dL_law_1319 rfl ?_
  refine x_iconst (pc := 1321) hE dL_law_1321 ?_
  refine x_iadd (pc := 1322) hE dL_law_1322 ?_
  refine x_sld (pc := 1323) hE hs dL_law_1323 hA2 (m := i + 3) (by omega) (by omega) ?_
  refine x_aload_n (pc := 1324) (j := 1) hE dL_law_1324 rfl ?_
  refine x_iload (pc := 1325) (j := 6) hE dL_law_1325 rfl ?_
  refine x_iconst (pc := 1327) hE dL_law_1327 ?_
  refine x_iadd (pc := 1328) hE dL_law_1328 ?_
  refine x_sld (pc := 1329) hE hs dL_law_1329 hA2 (m := i + 4) (by omega) (by omega) ?_
  refine x_cr (pc := 1330) (q := (1, 0)) (as := [xi (sx xs (i + 1)), xi (sx xs (i + 2)), xi (sx xs (i + 3)), xi (sx xs (i + 4))]) (st := []) hE dL_law_1330 pl_X10_isFull lk_RL_221 rfl (lvm1 _ (by decide)) rfl rfl (Nat.le_refl _) hk hn (Nat.le_of_ble_eq_true rfl) (hR I1 c1 hC9) ?_
  rintro v J9 ⟨hD9, hF⟩
  obtain ⟨e1, e2⟩ : v = F.1 ∧ J9 (1, 0) 32 = F.2 := ⟨congrArg Prod.fst hF, congrArg Prod.snd hF⟩
  subst e1
  refine x_istore (pc := 1333) (lo9 := [(7, xi (xbi F.1)), (6, xi F.2), (0, xr (2, 9)), (1, xr (0, 0)), (2, xr (1, 0)), (3, xr (2, 0)), (4, xr (2, 1)), (5, xi (i : Int))]) hE dL_law_1333 (by decide) rfl ?_
  refine x_aload_n (pc := 1335) (j := 4) hE dL_law_1335 rfl ?_
  refine x_cr (pc := 1336) (q := (1, 0)) (as := []) (st := []) hE dL_law_1336 pl_X10_thrown lk_RL_177 rfl (lvm1 _ (by decide)) rfl rfl (Nat.le_refl _) hk hn (Nat.le_of_ble_eq_true rfl) (ok_thrown hX 11) ?_
  rintro t9 J9 ⟨rfl, rfl⟩
  show V 1339 [(7, xi (xbi F.1)), (6, xi F.2), (0, xr (2, 9)), (1, xr (0, 0)), (2, xr (1, 0)), (3, xr (2, 0)), (4, xr (2, 1)), (5, xi (i : Int))] [xi (J9 (1, 0) 32)] (J9, xst c1) _ _
  rw [e2]
  refine x_iload (pc := 1339) (j := 1) hE dL_law_1339 rfl ?_
  refine x_icmp_same (pc := 1341) (tgt := 1346) hE dL_law_1341 rfl ?_
  refine x_iload (pc := 1346) (j := 1) hE dL_law_1346 rfl ?_
  refine x_in hE (fun hI9 => ?_)
  have hx : xin F.2 := e2 ▸ hI9 (1, 0) 32
  refine x_if_ne (pc := 1348) (tgt := 1370) hE dL_law_1348 rfl hx (fun _ => x_goto (pc := 1370) (tgt := 3918) hE dL_law_1370 rfl (x_loc hE [2, 3, 4, 5, 6, 7] rfl (next _ _ hD9 hA9))) (fun hz0 => ?_)
  refine x_aload_n (pc := 1351) (j := 5) hE dL_law_1351 rfl ?_
  refine x_iconst (pc := 1352) hE dL_law_1352 ?_
  refine x_laload (pc := 1353) (nn := 1) hE dL_law_1353 rfl (lvm2 _ (by decide)) (by decide) (by decide) ?_
  show V 1354 [(7, xi (xbi F.1)), (6, xi F.2), (0, xr (2, 9)), (1, xr (0, 0)), (2, xr (1, 0)), (3, xr (2, 0)), (4, xr (2, 1)), (5, xi (i : Int))] [xl (c1.2.1 (2, 0) 0)] (J9, xst c1) _ _
  rw [hO hz0]
  refine x_iload (pc := 1354) (j := 0) hE dL_law_1354 rfl ?_
  have hb9 : ∀ st9, (F.1 = false → V 1364 [(7, xi (xbi F.1)), (6, xi F.2), (0, xr (2, 9)), (1, xr (0, 0)), (2, xr (1, 0)), (3, xr (2, 0)), (4, xr (2, 1)), (5, xi (i : Int))] (xl (Int64.ofNat ((0 : Fin 2) : Nat)) :: st9) (J9, xst c1) (k + mc9) (n + ms9)) → True := fun _ _ => trivial
  suffices hS9 : V 1364 [(7, xi (xbi F.1)), (6, xi F.2), (0, xr (2, 9)), (1, xr (0, 0)), (2, xr (1, 0)), (3, xr (2, 0)), (4, xr (2, 1)), (5, xi (i : Int))] [xl (blV F.1), xl (blV F.1)] (J9, xst c1) (k + mc9) (n + ms9) from ?_
  · refine x_ifb_eq (pc := 1356) (tgt := 1363) hE dL_law_1356 rfl (fun hb => ?_) (fun hb => ?_)
    · rw [hb] at hS9 ⊢
      exact x_lconst (pc := 1363) hE dL_law_1363 hS9
    · rw [hb] at hS9 ⊢
      exact x_lconst (pc := 1359) hE dL_law_1359 (x_goto (pc := 1360) (tgt := 1364) hE dL_law_1360 rfl hS9)
  refine x_lcmp (pc := 1364) hE dL_law_1364 ?_
  rw [lg_same]
  exact x_if_eq (pc := 1365) (tgt := 1370) hE dL_law_1365 rfl (by decide) (fun _ => x_goto (pc := 1370) (tgt := 3918) hE dL_law_1370 rfl (x_loc hE [2, 3, 4, 5, 6, 7] rfl (next _ _ hD9 hA9))) (fun h => absurd rfl h)

set_option maxRecDepth 100000 in
theorem lc_13 {X : xX} (hX : xBase X) {V : xT} {mc ms : Nat} (hE : xEng X m_L_law 12 mc ms V) {b L : Nat} {xs : Nat → Int32} (hs : LSc X b L xs) {c : xCx} {I : xIn} (hA : c.2.2.2 (2, 9) = b) {i : Nat} (hi : i + 7 ≤ L) {k n mc9 ms9 : Nat} (hk : k + mc9 ≤ mc) (hn : n + ms9 ≤ ms) {F : Int × Int} {C9 D9 : xIn → xCx → Prop} (hW : xMet X m_L_rounds 11 [xr (0, 0), xi (sx xs (i + 1)), xi (sx xs (i + 2)), xi (sx xs (i + 3)), xr (2, 0)] (I, xst c) mc9 ms9 (wPost c F.2 (fun c9 => c9.2.1 (2, 0) 0 = (Int32.ofInt F.1).toInt64) C9)) (hR : ∀ I9 c9, C9 I9 c9 → xRet rI X m_X10_rounds 11 [xr (1, 0), xi (sx xs (i + 1)), xi (sx xs (i + 2)), xi (sx xs (i + 3))] c9 I9 0 0 (fun v J => D9 J c9 ∧ (v, J (1, 0) 32) = F) xNo) (next : ∀ J c9, D9 J c9 → (∀ p : xP, p.1 < 3 → c9.2.2.2 p = c.2.2.2 p) → V 3918 [(0, xr (2, 9)), (1, xr (0, 0)), (2, xr (1, 0)), (3, xr (2, 0)), (4, xr (2, 1)), (5, xi (i : Int))] [] (J, xst c9) (k + mc9) (n + ms9)) : V 1373 [(0, xr (2, 9)), (1, xr (0, 0)), (2, xr (1, 0)), (3, xr (2, 0)), (4, xr (2, 1)), (5, xi (i : Int))] [] (I, xst c) k n := by
  refine x_aload_n (pc := 1373) (j := 1) hE dL_law_1373 rfl ?_
  refine x_aload_n (pc := 1374) (j := 0) hE dL_law_1374 rfl ?_
  refine x_iload (pc := 1375) (j := 5) hE dL_law_1375 rfl ?_
  refine x_iconst (pc := 1377) hE dL_law_1377 ?_
  refine x_iadd (pc := 1378) hE dL_law_1378 ?_
  refine x_sld (pc := 1379) hE hs dL_law_1379 hA (m := i + 1) (by omega) (by omega) ?_
  refine x_aload_n (pc := 1380) (j := 0) hE dL_law_1380 rfl ?_
  refine x_iload (pc := 1381) (j := 5) hE dL_law_1381 rfl ?_
  refine x_iconst (pc := 1383) hE dL_law_1383 ?_
  refine x_iadd (pc := 1384) hE dL_law_1384 ?_
  refine x_sld (pc := 1385) hE hs dL_law_1385 hA (m := i + 2) (by omega) (by omega) ?_
  refine x_aload_n (pc := 1386) (j := 0) hE dL_law_1386 rfl ?_
  refine x_iload (pc := 1387) (j := 5) hE dL_law_1387 rfl ?_
  refine x_iconst (pc := 1389) hE dL_law_1389 ?_
  refine x_iadd (pc := 1390) hE dL_law_1390 ?_
  refine x_sld (pc := 1391) hE hs dL_law_1391 hA (m := i + 3) (by omega) (by omega) ?_
  refine x_aload_n (pc := 1392) (j := 3) hE dL_law_1392 rfl ?_
  refine x_cw (pc := 1393) (as := [xr (0, 0), xi (sx xs (i + 1)), xi (sx xs (i + 2)), xi (sx xs (i + 3)), xr (2, 0)]) hE hW dL_law_1393 pl_L_rounds lk_RL_222 rfl (Nat.le_refl _) hk hn rfl ?_
  intro I1 c1 hO hA9 hC9
  have hA2 : c1.2.2.2 (2, 9) = b := (hA9 _ (by decide)).trans hA
  refine x_istore (pc := 1396) (lo9 := [(6, xi F.2), (0, xr (2, 9)), (1, xr (0, 0)), (2, xr (1, 0)), (3, xr (2, 0)), (4, xr (2, 1)), (5, xi (i : Int))]) hE dL_law_1396 (by decide) rfl ?_
  refine x_aload_n (pc := 1398) (j := 3) hE dL_law_1398 rfl ?_
  refine x_aload_n (pc := 1399) (j := 1) hE dL_law_1399 rfl ?_
  refine x_iload (pc := 1400) (j := 6) hE dL_law_1400 rfl ?_
  refine x_iconst (pc := 1402) hE dL_law_1402 ?_
  refine x_iadd (pc := 1403) hE dL_law_1403 ?_
  refine x_sld (pc := 1404) hE hs dL_law_1404 hA2 (m := i + 1) (by omega) (by omega) ?_
  refine x_aload_n (pc := 1405) (j := 1) hE dL_law_1405 rfl ?_
  refine x_iload (pc := 1406) (j := 6) hE dL_law_1406 rfl ?_
  refine x_iconst (pc := 1408) hE dL_law_1408 ?_
  refine x_iadd (pc := 1409) hE dL_law_1409 ?_
  refine x_sld (pc := 1410) hE hs dL_law_1410 hA2 (m := i + 2) (by omega) (by omega) ?_
  refine x_aload_n (pc := 1411) (j := 1) hE dL_law_1411 rfl ?_
  refine x_iload (pc := 1412) (j := 6) hE dL_law_1412 rfl ?_
  refine x_iconst (pc := 1414) hE dL_law_1414 ?_
  refine x_iadd (pc := 1415) hE dL_law_1415 ?_
  refine x_sld (pc := 1416) hE hs dL_law_1416 hA2 (m := i + 3) (by omega) (by omega) ?_
  refine x_cr (pc := 1417) (q := (1, 0)) (as := [xi (sx xs (i + 1)), xi (sx xs (i + 2)), xi (sx xs (i + 3))]) (st := []) hE dL_law_1417 pl_X10_rounds lk_RL_224 rfl (lvm1 _ (by decide)) rfl rfl (Nat.le_refl _) hk hn (Nat.le_of_ble_eq_true rfl) (hR I1 c1 hC9) ?_
  rintro v J9 ⟨hD9, hF⟩
  obtain ⟨e1, e2⟩ : v = F.1 ∧ J9 (1, 0) 32 = F.2 := ⟨congrArg Prod.fst hF, congrArg Prod.snd hF⟩
  subst e1
  refine x_istore (pc := 1420) (lo9 := [(7, xi F.1), (6, xi F.2), (0, xr (2, 9)), (1, xr (0, 0)), (2, xr (1, 0)), (3, xr (2, 0)), (4, xr (2, 1)), (5, xi (i : Int))]) hE dL_law_1420 (by decide) rfl ?_
  refine x_aload_n (pc := 1422) (j := 4) hE dL_law_1422 rfl ?_
  refine x_cr (pc := 1423) (q := (1, 0)) (as := []) (st := []) hE dL_law_1423 pl_X10_thrown lk_RL_177 rfl (lvm1 _ (by decide)) rfl rfl (Nat.le_refl _) hk hn (Nat.le_of_ble_eq_true rfl) (ok_thrown hX 11) ?_
  rintro t9 J9 ⟨rfl, rfl⟩
  show V 1426 [(7, xi F.1), (6, xi F.2), (0, xr (2, 9)), (1, xr (0, 0)), (2, xr (1, 0)), (3, xr (2, 0)), (4, xr (2, 1)), (5, xi (i : Int))] [xi (J9 (1, 0) 32)] (J9, xst c1) _ _
  rw [e2]
  refine x_iload (pc := 1426) (j := 1) hE dL_law_1426 rfl ?_
  refine x_icmp_same (pc := 1428) (tgt := 1433) hE dL_law_1428 rfl ?_
  refine x_iload (pc := 1433) (j := 1) hE dL_law_1433 rfl ?_
  refine x_in hE (fun hI9 => ?_)
  have hx : xin F.2 := e2 ▸ hI9 (1, 0) 32
  refine x_if_ne (pc := 1435) (tgt := 1450) hE dL_law_1435 rfl hx (fun _ => x_goto (pc := 1450) (tgt := 3918) hE dL_law_1450 rfl (x_loc hE [2, 3, 4, 5, 6, 7] rfl (next _ _ hD9 hA9))) (fun hz0 => ?_)
  refine x_aload_n (pc := 1438) (j := 5) hE dL_law_1438 rfl ?_
  refine x_iconst (pc := 1439) hE dL_law_1439 ?_
  refine x_laload (pc := 1440) (nn := 1) hE dL_law_1440 rfl (lvm2 _ (by decide)) (by decide) (by decide) ?_
  show V 1441 [(7, xi F.1), (6, xi F.2), (0, xr (2, 9)), (1, xr (0, 0)), (2, xr (1, 0)), (3, xr (2, 0)), (4, xr (2, 1)), (5, xi (i : Int))] [xl (c1.2.1 (2, 0) 0)] (J9, xst c1) _ _
  rw [hO hz0]
  refine x_iload (pc := 1441) (j := 0) hE dL_law_1441 rfl ?_
  refine x_i2l (pc := 1443) hE dL_law_1443 ?_
  refine x_lcmp (pc := 1444) hE dL_law_1444 ?_
  rw [lg_same]
  exact x_if_eq (pc := 1445) (tgt := 1450) hE dL_law_1445 rfl (by decide) (fun _ => x_goto (pc := 1450) (tgt := 3918) hE dL_law_1450 rfl (x_loc hE [2, 3, 4, 5, 6, 7] rfl (next _ _ hD9 hA9))) (fun h => absurd rfl h)

set_option maxRecDepth 100000 in
theorem lc_14 {X : xX} (hX : xBase X) {V : xT} {mc ms : Nat} (hE : xEng X m_L_law 12 mc ms V) {b L : Nat} {xs : Nat → Int32} (hs : LSc X b L xs) {c : xCx} {I : xIn} (hA : c.2.2.2 (2, 9) = b) {i : Nat} (hi : i + 7 ≤ L) {k n mc9 ms9 : Nat} (hk : k + mc9 ≤ mc) (hn : n + ms9 ≤ ms) {F : Int × Int} {C9 D9 : xIn → xCx → Prop} (hW : xMet X m_L_roundAmount 11 [xr (0, 0), xi (sx xs (i + 1)), xi (sx xs (i + 2)), xi (sx xs (i + 3)), xi (sx xs (i + 4)), xr (2, 0)] (I, xst c) mc9 ms9 (wPost c F.2 (fun c9 => c9.2.1 (2, 0) 0 = (Int32.ofInt F.1).toInt64) C9)) (hR : ∀ I9 c9, C9 I9 c9 → xRet rI X m_X10_roundAmount 11 [xr (1, 0), xi (sx xs (i + 1)), xi (sx xs (i + 2)), xi (sx xs (i + 3)), xi (sx xs (i + 4))] c9 I9 0 0 (fun v J => D9 J c9 ∧ (v, J (1, 0) 32) = F) xNo) (next : ∀ J c9, D9 J c9 → (∀ p : xP, p.1 < 3 → c9.2.2.2 p = c.2.2.2 p) → V 3918 [(0, xr (2, 9)), (1, xr (0, 0)), (2, xr (1, 0)), (3, xr (2, 0)), (4, xr (2, 1)), (5, xi (i : Int))] [] (J, xst c9) (k + mc9) (n + ms9)) : V 1453 [(0, xr (2, 9)), (1, xr (0, 0)), (2, xr (1, 0)), (3, xr (2, 0)), (4, xr (2, 1)), (5, xi (i : Int))] [] (I, xst c) k n := by
  refine x_aload_n (pc := 1453) (j := 1) hE dL_law_1453 rfl ?_
  refine x_aload_n (pc := 1454) (j := 0) hE dL_law_1454 rfl ?_
  refine x_iload (pc := 1455) (j := 5) hE dL_law_1455 rfl ?_
  refine x_iconst (pc := 1457) hE dL_law_1457 ?_
  refine x_iadd (pc := 1458) hE dL_law_1458 ?_
  refine x_sld (pc := 1459) hE hs dL_law_1459 hA (m := i + 1) (by omega) (by omega) ?_
  refine x_aload_n (pc := 1460) (j := 0) hE dL_law_1460 rfl ?_
  refine x_iload (pc := 1461) (j := 5) hE dL_law_1461 rfl ?_
  refine x_iconst (pc := 1463) hE dL_law_1463 ?_
  refine x_iadd (pc := 1464) hE dL_law_1464 ?_
  refine x_sld (pc := 1465) hE hs dL_law_1465 hA (m := i + 2) (by omega) (by omega) ?_
  refine x_aload_n (pc := 1466) (j := 0) hE dL_law_1466 rfl ?_
  refine x_iload (pc := 1467) (j := 5) hE dL_law_1467 rfl ?_
  refine x_iconst (pc := 1469) hE dL_law_1469 ?_
  refine x_iadd (pc := 1470) hE dL_law_1470 ?_
  refine x_sld (pc := 1471) hE hs dL_law_1471 hA (m := i + 3) (by omega) (by omega) ?_
  refine x_aload_n (pc := 1472) (j := 0) hE dL_law_1472 rfl ?_
  refine x_iload (pc := 1473) (j := 5) hE dL_law_1473 rfl ?_
  refine x_iconst (pc := 1475) hE dL_law_1475 ?_
  refine x_iadd (pc := 1476) hE dL_law_1476 ?_
  refine x_sld (pc := 1477) hE hs dL_law_1477 hA (m := i + 4) (by omega) (by omega) ?_
  refine x_aload_n (pc := 1478) (j := 3) hE dL_law_1478 rfl ?_
  refine x_cw (pc := 1479) (as := [xr (0, 0), xi (sx xs (i + 1)), xi (sx xs (i + 2)), xi (sx xs (i + 3)), xi (sx xs (i + 4)), xr (2, 0)]) hE hW dL_law_1479 pl_L_roundAmount lk_RL_225 rfl (Nat.le_refl _) hk hn rfl ?_
  intro I1 c1 hO hA9 hC9
  have hA2 : c1.2.2.2 (2, 9) = b := (hA9 _ (by decide)).trans hA
  refine x_istore (pc := 1482) (lo9 := [(6, xi F.2), (0, xr (2, 9)), (1, xr (0, 0)), (2, xr (1, 0)), (3, xr (2, 0)), (4, xr (2, 1)), (5, xi (i : Int))]) hE dL_law_1482 (by decide) rfl ?_
  refine x_aload_n (pc := 1484) (j := 3) hE dL_law_1484 rfl ?_
  refine x_aload_n (pc := 1485) (j := 1) hE dL_law_1485 rfl ?_
  refine x_iload (pc := 1486) (j := 6) hE dL_law_1486 rfl ?_
  refine x_iconst (pc := 1488) hE dL_law_1488 ?_
  refine x_iadd (pc := 1489) hE dL_law_1489 ?_
  refine x_sld (pc := 1490) hE hs dL_law_1490 hA2 (m := i + 1) (by omega) (by omega) ?_
  refine x_aload_n (pc := 1491) (j := 1) hE dL_law_1491 rfl ?_
  refine x_iload (pc := 1492) (j := 6) hE dL_law_1492 rfl ?_
  refine x_iconst (pc := 1494) hE dL_law_1494 ?_
  refine x_iadd (pc := 1495) hE dL_law_1495 ?_
  refine x_sld (pc := 1496) hE hs dL_law_1496 hA2 (m := i + 2) (by omega) (by omega) ?_
  refine x_aload_n (pc := 1497) (j := 1) hE dL_law_1497 rfl ?_
  refine x_iload (pc := 1498) (j := 6) hE dL_law_1498 rfl ?_
  refine x_iconst (pc := 1500) hE dL_law_1500 ?_
  refine x_iadd (pc := 1501) hE dL_law_1501 ?_
  refine x_sld (pc := 1502) hE hs dL_law_1502 hA2 (m := i + 3) (by omega) (by omega) ?_
  refine x_aload_n (pc := 1503) (j := 1) hE dL_law_1503 rfl ?_
  refine x_iload (pc := 1504) (j := 6) hE dL_law_1504 rfl ?_
  refine x_iconst (pc := 1506) hE dL_law_1506 ?_
  refine x_iadd (pc := 1507) hE dL_law_1507 ?_
  refine x_sld (pc := 1508) hE hs dL_law_1508 hA2 (m := i + 4) (by omega) (by omega) ?_
  refine x_cr (pc := 1509) (q := (1, 0)) (as := [xi (sx xs (i + 1)), xi (sx xs (i + 2)), xi (sx xs (i + 3)), xi (sx xs (i + 4))]) (st := []) hE dL_law_1509 pl_X10_roundAmount lk_RL_227 rfl (lvm1 _ (by decide)) rfl rfl (Nat.le_refl _) hk hn (Nat.le_of_ble_eq_true rfl) (hR I1 c1 hC9) ?_
  rintro v J9 ⟨hD9, hF⟩
  obtain ⟨e1, e2⟩ : v = F.1 ∧ J9 (1, 0) 32 = F.2 := ⟨congrArg Prod.fst hF, congrArg Prod.snd hF⟩
  subst e1
  refine x_istore (pc := 1512) (lo9 := [(7, xi F.1), (6, xi F.2), (0, xr (2, 9)), (1, xr (0, 0)), (2, xr (1, 0)), (3, xr (2, 0)), (4, xr (2, 1)), (5, xi (i : Int))]) hE dL_law_1512 (by decide) rfl ?_
  refine x_aload_n (pc := 1514) (j := 4) hE dL_law_1514 rfl ?_
  refine x_cr (pc := 1515) (q := (1, 0)) (as := []) (st := []) hE dL_law_1515 pl_X10_thrown lk_RL_177 rfl (lvm1 _ (by decide)) rfl rfl (Nat.le_refl _) hk hn (Nat.le_of_ble_eq_true rfl) (ok_thrown hX 11) ?_
  rintro t9 J9 ⟨rfl, rfl⟩
  show V 1518 [(7, xi F.1), (6, xi F.2), (0, xr (2, 9)), (1, xr (0, 0)), (2, xr (1, 0)), (3, xr (2, 0)), (4, xr (2, 1)), (5, xi (i : Int))] [xi (J9 (1, 0) 32)] (J9, xst c1) _ _
  rw [e2]
  refine x_iload (pc := 1518) (j := 1) hE dL_law_1518 rfl ?_
  refine x_icmp_same (pc := 1520) (tgt := 1525) hE dL_law_1520 rfl ?_
  refine x_iload (pc := 1525) (j := 1) hE dL_law_1525 rfl ?_
  refine x_in hE (fun hI9 => ?_)
  have hx : xin F.2 := e2 ▸ hI9 (1, 0) 32
  refine x_if_ne (pc := 1527) (tgt := 1542) hE dL_law_1527 rfl hx (fun _ => x_goto (pc := 1542) (tgt := 3918) hE dL_law_1542 rfl (x_loc hE [2, 3, 4, 5, 6, 7] rfl (next _ _ hD9 hA9))) (fun hz0 => ?_)
  refine x_aload_n (pc := 1530) (j := 5) hE dL_law_1530 rfl ?_
  refine x_iconst (pc := 1531) hE dL_law_1531 ?_
  refine x_laload (pc := 1532) (nn := 1) hE dL_law_1532 rfl (lvm2 _ (by decide)) (by decide) (by decide) ?_
  show V 1533 [(7, xi F.1), (6, xi F.2), (0, xr (2, 9)), (1, xr (0, 0)), (2, xr (1, 0)), (3, xr (2, 0)), (4, xr (2, 1)), (5, xi (i : Int))] [xl (c1.2.1 (2, 0) 0)] (J9, xst c1) _ _
  rw [hO hz0]
  refine x_iload (pc := 1533) (j := 0) hE dL_law_1533 rfl ?_
  refine x_i2l (pc := 1535) hE dL_law_1535 ?_
  refine x_lcmp (pc := 1536) hE dL_law_1536 ?_
  rw [lg_same]
  exact x_if_eq (pc := 1537) (tgt := 1542) hE dL_law_1537 rfl (by decide) (fun _ => x_goto (pc := 1542) (tgt := 3918) hE dL_law_1542 rfl (x_loc hE [2, 3, 4, 5, 6, 7] rfl (next _ _ hD9 hA9))) (fun h => absurd rfl h)

set_option maxRecDepth 100000 in
theorem lc_15 {X : xX} (hX : xBase X) {V : xT} {mc ms : Nat} (hE : xEng X m_L_law 12 mc ms V) {b L : Nat} {xs : Nat → Int32} (hs : LSc X b L xs) {c : xCx} {I : xIn} (hA : c.2.2.2 (2, 9) = b) {i : Nat} (hi : i + 7 ≤ L) {k n mc9 ms9 : Nat} (hk : k + mc9 ≤ mc) (hn : n + ms9 ≤ ms) {F : Int × Int} {C9 D9 : xIn → xCx → Prop} (hW : xMet X m_L_roundSign 11 [xr (0, 0), xi (sx xs (i + 1)), xi (sx xs (i + 2)), xi (sx xs (i + 3)), xi (sx xs (i + 4)), xi (sx xs (i + 5)), xr (2, 0)] (I, xst c) mc9 ms9 (wPost c F.2 (fun c9 => c9.2.1 (2, 0) 0 = (Int32.ofInt F.1).toInt64) C9)) (hR : ∀ I9 c9, C9 I9 c9 → xRet rI X m_X10_roundSign 11 [xr (1, 0), xi (sx xs (i + 1)), xi (sx xs (i + 2)), xi (sx xs (i + 3)), xi (sx xs (i + 4)), xi (sx xs (i + 5))] c9 I9 0 0 (fun v J => D9 J c9 ∧ (v, J (1, 0) 32) = F) xNo) (next : ∀ J c9, D9 J c9 → (∀ p : xP, p.1 < 3 → c9.2.2.2 p = c.2.2.2 p) → V 3918 [(0, xr (2, 9)), (1, xr (0, 0)), (2, xr (1, 0)), (3, xr (2, 0)), (4, xr (2, 1)), (5, xi (i : Int))] [] (J, xst c9) (k + mc9) (n + ms9)) : V 1545 [(0, xr (2, 9)), (1, xr (0, 0)), (2, xr (1, 0)), (3, xr (2, 0)), (4, xr (2, 1)), (5, xi (i : Int))] [] (I, xst c) k n := by
  refine x_aload_n (pc := 1545) (j := 1) hE dL_law_1545 rfl ?_
  refine x_aload_n (pc := 1546) (j := 0) hE dL_law_1546 rfl ?_
  refine x_iload (pc := 1547) (j := 5) hE dL_law_1547 rfl ?_
  refine x_iconst (pc := 1549) hE dL_law_1549 ?_
  refine x_iadd (pc := 1550) hE dL_law_1550 ?_
  refine x_sld (pc := 1551) hE hs dL_law_1551 hA (m := i + 1) (by omega) (by omega) ?_
  refine x_aload_n (pc := 1552) (j := 0) hE dL_law_1552 rfl ?_
  refine x_iload (pc := 1553) (j := 5) hE dL_law_1553 rfl ?_
  refine x_iconst (pc := 1555) hE dL_law_1555 ?_
  refine x_iadd (pc := 1556) hE dL_law_1556 ?_
  refine x_sld (pc := 1557) hE hs dL_law_1557 hA (m := i + 2) (by omega) (by omega) ?_
  refine x_aload_n (pc := 1558) (j := 0) hE dL_law_1558 rfl ?_
  refine x_iload (pc := 1559) (j := 5) hE dL_law_1559 rfl ?_
  refine x_iconst (pc := 1561) hE dL_law_1561 ?_
  refine x_iadd (pc := 1562) hE dL_law_1562 ?_
  refine x_sld (pc := 1563) hE hs dL_law_1563 hA (m := i + 3) (by omega) (by omega) ?_
  refine x_aload_n (pc := 1564) (j := 0) hE dL_law_1564 rfl ?_
  refine x_iload (pc := 1565) (j := 5) hE dL_law_1565 rfl ?_
  refine x_iconst (pc := 1567) hE dL_law_1567 ?_
  refine x_iadd (pc := 1568) hE dL_law_1568 ?_
  refine x_sld (pc := 1569) hE hs dL_law_1569 hA (m := i + 4) (by omega) (by omega) ?_
  refine x_aload_n (pc := 1570) (j := 0) hE dL_law_1570 rfl ?_
  refine x_iload (pc := 1571) (j := 5) hE dL_law_1571 rfl ?_
  refine x_iconst (pc := 1573) hE dL_law_1573 ?_
  refine x_iadd (pc := 1574) hE dL_law_1574 ?_
  refine x_sld (pc := 1575) hE hs dL_law_1575 hA (m := i + 5) (by omega) (by omega) ?_
  refine x_aload_n (pc := 1576) (j := 3) hE dL_law_1576 rfl ?_
  refine x_cw (pc := 1577) (as := [xr (0, 0), xi (sx xs (i + 1)), xi (sx xs (i + 2)), xi (sx xs (i + 3)), xi (sx xs (i + 4)), xi (sx xs (i + 5)), xr (2, 0)]) hE hW dL_law_1577 pl_L_roundSign lk_RL_228 rfl (Nat.le_refl _) hk hn rfl ?_
  intro I1 c1 hO hA9 hC9
  have hA2 : c1.2.2.2 (2, 9) = b := (hA9 _ (by decide)).trans hA
  refine x_istore (pc := 1580) (lo9 := [(6, xi F.2), (0, xr (2, 9)), (1, xr (0, 0)), (2, xr (1, 0)), (3, xr (2, 0)), (4, xr (2, 1)), (5, xi (i : Int))]) hE dL_law_1580 (by decide) rfl ?_
  refine x_aload_n (pc := 1582) (j := 3) hE dL_law_1582 rfl ?_
  refine x_aload_n (pc := 1583) (j := 1) hE dL_law_1583 rfl ?_
  refine x_iload (pc := 1584) (j := 6) hE dL_law_1584 rfl ?_
  refine x_iconst (pc := 1586) hE dL_law_1586 ?_
  refine x_iadd (pc := 1587) hE dL_law_1587 ?_
  refine x_sld (pc := 1588) hE hs dL_law_1588 hA2 (m := i + 1) (by omega) (by omega) ?_
  refine x_aload_n (pc := 1589) (j := 1) hE dL_law_1589 rfl ?_
  refine x_iload (pc := 1590) (j := 6) hE dL_law_1590 rfl ?_
  refine x_iconst (pc := 1592) hE dL_law_1592 ?_
  refine x_iadd (pc := 1593) hE dL_law_1593 ?_
  refine x_sld (pc := 1594) hE hs dL_law_1594 hA2 (m := i + 2) (by omega) (by omega) ?_
  refine x_aload_n (pc := 1595) (j := 1) hE dL_law_1595 rfl ?_
  refine x_iload (pc := 1596) (j := 6) hE dL_law_1596 rfl ?_
  refine x_iconst (pc := 1598) hE dL_law_1598 ?_
  refine x_iadd (pc := 1599) hE dL_law_1599 ?_
  refine x_sld (pc := 1600) hE hs dL_law_1600 hA2 (m := i + 3) (by omega) (by omega) ?_
  refine x_aload_n (pc := 1601) (j := 1) hE dL_law_1601 rfl ?_
  refine x_iload (pc := 1602) (j := 6) hE dL_law_1602 rfl ?_
  refine x_iconst (pc := 1604) hE dL_law_1604 ?_
  refine x_iadd (pc := 1605) hE dL_law_1605 ?_
  refine x_sld (pc := 1606) hE hs dL_law_1606 hA2 (m := i + 4) (by omega) (by omega) ?_
  refine x_aload_n (pc := 1607) (j := 1) hE dL_law_1607 rfl ?_
  refine x_iload (pc := 1608) (j := 6) hE dL_law_1608 rfl ?_
  refine x_iconst (pc := 1610) hE dL_law_1610 ?_
  refine x_iadd (pc := 1611) hE dL_law_1611 ?_
  refine x_sld (pc := 1612) hE hs dL_law_1612 hA2 (m := i + 5) (by omega) (by omega) ?_
  refine x_cr (pc := 1613) (q := (1, 0)) (as := [xi (sx xs (i + 1)), xi (sx xs (i + 2)), xi (sx xs (i + 3)), xi (sx xs (i + 4)), xi (sx xs (i + 5))]) (st := []) hE dL_law_1613 pl_X10_roundSign lk_RL_230 rfl (lvm1 _ (by decide)) rfl rfl (Nat.le_refl _) hk hn (Nat.le_of_ble_eq_true rfl) (hR I1 c1 hC9) ?_
  rintro v J9 ⟨hD9, hF⟩
  obtain ⟨e1, e2⟩ : v = F.1 ∧ J9 (1, 0) 32 = F.2 := ⟨congrArg Prod.fst hF, congrArg Prod.snd hF⟩
  subst e1
  refine x_istore (pc := 1616) (lo9 := [(7, xi F.1), (6, xi F.2), (0, xr (2, 9)), (1, xr (0, 0)), (2, xr (1, 0)), (3, xr (2, 0)), (4, xr (2, 1)), (5, xi (i : Int))]) hE dL_law_1616 (by decide) rfl ?_
  refine x_aload_n (pc := 1618) (j := 4) hE dL_law_1618 rfl ?_
  refine x_cr (pc := 1619) (q := (1, 0)) (as := []) (st := []) hE dL_law_1619 pl_X10_thrown lk_RL_177 rfl (lvm1 _ (by decide)) rfl rfl (Nat.le_refl _) hk hn (Nat.le_of_ble_eq_true rfl) (ok_thrown hX 11) ?_
  rintro t9 J9 ⟨rfl, rfl⟩
  show V 1622 [(7, xi F.1), (6, xi F.2), (0, xr (2, 9)), (1, xr (0, 0)), (2, xr (1, 0)), (3, xr (2, 0)), (4, xr (2, 1)), (5, xi (i : Int))] [xi (J9 (1, 0) 32)] (J9, xst c1) _ _
  rw [e2]
  refine x_iload (pc := 1622) (j := 1) hE dL_law_1622 rfl ?_
  refine x_icmp_same (pc := 1624) (tgt := 1629) hE dL_law_1624 rfl ?_
  refine x_iload (pc := 1629) (j := 1) hE dL_law_1629 rfl ?_
  refine x_in hE (fun hI9 => ?_)
  have hx : xin F.2 := e2 ▸ hI9 (1, 0) 32
  refine x_if_ne (pc := 1631) (tgt := 1646) hE dL_law_1631 rfl hx (fun _ => x_goto (pc := 1646) (tgt := 3918) hE dL_law_1646 rfl (x_loc hE [2, 3, 4, 5, 6, 7] rfl (next _ _ hD9 hA9))) (fun hz0 => ?_)
  refine x_aload_n (pc := 1634) (j := 5) hE dL_law_1634 rfl ?_
  refine x_iconst (pc := 1635) hE dL_law_1635 ?_
  refine x_laload (pc := 1636) (nn := 1) hE dL_law_1636 rfl (lvm2 _ (by decide)) (by decide) (by decide) ?_
  show V 1637 [(7, xi F.1), (6, xi F.2), (0, xr (2, 9)), (1, xr (0, 0)), (2, xr (1, 0)), (3, xr (2, 0)), (4, xr (2, 1)), (5, xi (i : Int))] [xl (c1.2.1 (2, 0) 0)] (J9, xst c1) _ _
  rw [hO hz0]
  refine x_iload (pc := 1637) (j := 0) hE dL_law_1637 rfl ?_
  refine x_i2l (pc := 1639) hE dL_law_1639 ?_
  refine x_lcmp (pc := 1640) hE dL_law_1640 ?_
  rw [lg_same]
  exact x_if_eq (pc := 1641) (tgt := 1646) hE dL_law_1641 rfl (by decide) (fun _ => x_goto (pc := 1646) (tgt := 3918) hE dL_law_1646 rfl (x_loc hE [2, 3, 4, 5, 6, 7] rfl (next _ _ hD9 hA9))) (fun h => absurd rfl h)

set_option maxRecDepth 100000 in
theorem lc_16 {X : xX} (hX : xBase X) {V : xT} {mc ms : Nat} (hE : xEng X m_L_law 12 mc ms V) {b L : Nat} {xs : Nat → Int32} (hs : LSc X b L xs) {c : xCx} {I : xIn} (hA : c.2.2.2 (2, 9) = b) {i : Nat} (hi : i + 7 ≤ L) {k n mc9 ms9 : Nat} (hk : k + mc9 ≤ mc) (hn : n + ms9 ≤ ms) {F : Int × Int} {C9 D9 : xIn → xCx → Prop} (hW : xMet X m_L_cost 11 [xr (0, 0), xi (sx xs (i + 1)), xi (sx xs (i + 2)), xi (sx xs (i + 3)), xr (2, 0)] (I, xst c) mc9 ms9 (wPost c F.2 (fun c9 => c9.2.1 (2, 0) 0 = (Int32.ofInt F.1).toInt64) C9)) (hR : ∀ I9 c9, C9 I9 c9 → xRet rI X m_X10_cost 11 [xr (1, 0), xi (sx xs (i + 1)), xi (sx xs (i + 2)), xi (sx xs (i + 3))] c9 I9 0 0 (fun v J => D9 J c9 ∧ (v, J (1, 0) 32) = F) xNo) (next : ∀ J c9, D9 J c9 → (∀ p : xP, p.1 < 3 → c9.2.2.2 p = c.2.2.2 p) → V 3918 [(0, xr (2, 9)), (1, xr (0, 0)), (2, xr (1, 0)), (3, xr (2, 0)), (4, xr (2, 1)), (5, xi (i : Int))] [] (J, xst c9) (k + mc9) (n + ms9)) : V 1649 [(0, xr (2, 9)), (1, xr (0, 0)), (2, xr (1, 0)), (3, xr (2, 0)), (4, xr (2, 1)), (5, xi (i : Int))] [] (I, xst c) k n := by
  refine x_aload_n (pc := 1649) (j := 1) hE dL_law_1649 rfl ?_
  refine x_aload_n (pc := 1650) (j := 0) hE dL_law_1650 rfl ?_
  refine x_iload (pc := 1651) (j := 5) hE dL_law_1651 rfl ?_
  refine x_iconst (pc := 1653) hE dL_law_1653 ?_
  refine x_iadd (pc := 1654) hE dL_law_1654 ?_
  refine x_sld (pc := 1655) hE hs dL_law_1655 hA (m := i + 1) (by omega) (by omega) ?_
  refine x_aload_n (pc := 1656) (j := 0) hE dL_law_1656 rfl ?_
  refine x_iload (pc := 1657) (j := 5) hE dL_law_1657 rfl ?_
  refine x_iconst (pc := 1659) hE dL_law_1659 ?_
  refine x_iadd (pc := 1660) hE dL_law_1660 ?_
  refine x_sld (pc := 1661) hE hs dL_law_1661 hA (m := i + 2) (by omega) (by omega) ?_
  refine x_aload_n (pc := 1662) (j := 0) hE dL_law_1662 rfl ?_
  refine x_iload (pc := 1663) (j := 5) hE dL_law_1663 rfl ?_
  refine x_iconst (pc := 1665) hE dL_law_1665 ?_
  refine x_iadd (pc := 1666) hE dL_law_1666 ?_
  refine x_sld (pc := 1667) hE hs dL_law_1667 hA (m := i + 3) (by omega) (by omega) ?_
  refine x_aload_n (pc := 1668) (j := 3) hE dL_law_1668 rfl ?_
  refine x_cw (pc := 1669) (as := [xr (0, 0), xi (sx xs (i + 1)), xi (sx xs (i + 2)), xi (sx xs (i + 3)), xr (2, 0)]) hE hW dL_law_1669 pl_L_cost lk_RL_231 rfl (Nat.le_refl _) hk hn rfl ?_
  intro I1 c1 hO hA9 hC9
  have hA2 : c1.2.2.2 (2, 9) = b := (hA9 _ (by decide)).trans hA
  refine x_istore (pc := 1672) (lo9 := [(6, xi F.2), (0, xr (2, 9)), (1, xr (0, 0)), (2, xr (1, 0)), (3, xr (2, 0)), (4, xr (2, 1)), (5, xi (i : Int))]) hE dL_law_1672 (by decide) rfl ?_
  refine x_aload_n (pc := 1674) (j := 3) hE dL_law_1674 rfl ?_
  refine x_aload_n (pc := 1675) (j := 1) hE dL_law_1675 rfl ?_
  refine x_iload (pc := 1676) (j := 6) hE dL_law_1676 rfl ?_
  refine x_iconst (pc := 1678) hE dL_law_1678 ?_
  refine x_iadd (pc := 1679) hE dL_law_1679 ?_
  refine x_sld (pc := 1680) hE hs dL_law_1680 hA2 (m := i + 1) (by omega) (by omega) ?_
  refine x_aload_n (pc := 1681) (j := 1) hE dL_law_1681 rfl ?_
  refine x_iload (pc := 1682) (j := 6) hE dL_law_1682 rfl ?_
  refine x_iconst (pc := 1684) hE dL_law_1684 ?_
  refine x_iadd (pc := 1685) hE dL_law_1685 ?_
  refine x_sld (pc := 1686) hE hs dL_law_1686 hA2 (m := i + 2) (by omega) (by omega) ?_
  refine x_aload_n (pc := 1687) (j := 1) hE dL_law_1687 rfl ?_
  refine x_iload (pc := 1688) (j := 6) hE dL_law_1688 rfl ?_
  refine x_iconst (pc := 1690) hE dL_law_1690 ?_
  refine x_iadd (pc := 1691) hE dL_law_1691 ?_
  refine x_sld (pc := 1692) hE hs dL_law_1692 hA2 (m := i + 3) (by omega) (by omega) ?_
  refine x_cr (pc := 1693) (q := (1, 0)) (as := [xi (sx xs (i + 1)), xi (sx xs (i + 2)), xi (sx xs (i + 3))]) (st := []) hE dL_law_1693 pl_X10_cost lk_RL_233 rfl (lvm1 _ (by decide)) rfl rfl (Nat.le_refl _) hk hn (Nat.le_of_ble_eq_true rfl) (hR I1 c1 hC9) ?_
  rintro v J9 ⟨hD9, hF⟩
  obtain ⟨e1, e2⟩ : v = F.1 ∧ J9 (1, 0) 32 = F.2 := ⟨congrArg Prod.fst hF, congrArg Prod.snd hF⟩
  subst e1
  refine x_istore (pc := 1696) (lo9 := [(7, xi F.1), (6, xi F.2), (0, xr (2, 9)), (1, xr (0, 0)), (2, xr (1, 0)), (3, xr (2, 0)), (4, xr (2, 1)), (5, xi (i : Int))]) hE dL_law_1696 (by decide) rfl ?_
  refine x_aload_n (pc := 1698) (j := 4) hE dL_law_1698 rfl ?_
  refine x_cr (pc := 1699) (q := (1, 0)) (as := []) (st := []) hE dL_law_1699 pl_X10_thrown lk_RL_177 rfl (lvm1 _ (by decide)) rfl rfl (Nat.le_refl _) hk hn (Nat.le_of_ble_eq_true rfl) (ok_thrown hX 11) ?_
  rintro t9 J9 ⟨rfl, rfl⟩
  show V 1702 [(7, xi F.1), (6, xi F.2), (0, xr (2, 9)), (1, xr (0, 0)), (2, xr (1, 0)), (3, xr (2, 0)), (4, xr (2, 1)), (5, xi (i : Int))] [xi (J9 (1, 0) 32)] (J9, xst c1) _ _
  rw [e2]
  refine x_iload (pc := 1702) (j := 1) hE dL_law_1702 rfl ?_
  refine x_icmp_same (pc := 1704) (tgt := 1709) hE dL_law_1704 rfl ?_
  refine x_iload (pc := 1709) (j := 1) hE dL_law_1709 rfl ?_
  refine x_in hE (fun hI9 => ?_)
  have hx : xin F.2 := e2 ▸ hI9 (1, 0) 32
  refine x_if_ne (pc := 1711) (tgt := 1726) hE dL_law_1711 rfl hx (fun _ => x_goto (pc := 1726) (tgt := 3918) hE dL_law_1726 rfl (x_loc hE [2, 3, 4, 5, 6, 7] rfl (next _ _ hD9 hA9))) (fun hz0 => ?_)
  refine x_aload_n (pc := 1714) (j := 5) hE dL_law_1714 rfl ?_
  refine x_iconst (pc := 1715) hE dL_law_1715 ?_
  refine x_laload (pc := 1716) (nn := 1) hE dL_law_1716 rfl (lvm2 _ (by decide)) (by decide) (by decide) ?_
  show V 1717 [(7, xi F.1), (6, xi F.2), (0, xr (2, 9)), (1, xr (0, 0)), (2, xr (1, 0)), (3, xr (2, 0)), (4, xr (2, 1)), (5, xi (i : Int))] [xl (c1.2.1 (2, 0) 0)] (J9, xst c1) _ _
  rw [hO hz0]
  refine x_iload (pc := 1717) (j := 0) hE dL_law_1717 rfl ?_
  refine x_i2l (pc := 1719) hE dL_law_1719 ?_
  refine x_lcmp (pc := 1720) hE dL_law_1720 ?_
  rw [lg_same]
  exact x_if_eq (pc := 1721) (tgt := 1726) hE dL_law_1721 rfl (by decide) (fun _ => x_goto (pc := 1726) (tgt := 3918) hE dL_law_1726 rfl (x_loc hE [2, 3, 4, 5, 6, 7] rfl (next _ _ hD9 hA9))) (fun h => absurd rfl h)

set_option maxRecDepth 100000 in
theorem lc_17 {X : xX} (hX : xBase X) {V : xT} {mc ms : Nat} (hE : xEng X m_L_law 12 mc ms V) {b L : Nat} {xs : Nat → Int32} (hs : LSc X b L xs) {c : xCx} {I : xIn} (hA : c.2.2.2 (2, 9) = b) {i : Nat} (hi : i + 7 ≤ L) {k n mc9 ms9 : Nat} (hk : k + mc9 ≤ mc) (hn : n + ms9 ≤ ms) {F : Int × Int} {C9 D9 : xIn → xCx → Prop} (hW : xMet X m_L_cheapest 11 [xr (0, 0), xi (sx xs (i + 1)), xi (sx xs (i + 2)), xi (sx xs (i + 3)), xi (sx xs (i + 4)), xr (2, 0)] (I, xst c) mc9 ms9 (wPost c F.2 (fun c9 => c9.2.1 (2, 0) 0 = (Int32.ofInt F.1).toInt64) C9)) (hR : ∀ I9 c9, C9 I9 c9 → xRet rI X m_X10_cheapest 11 [xr (1, 0), xi (sx xs (i + 1)), xi (sx xs (i + 2)), xi (sx xs (i + 3)), xi (sx xs (i + 4))] c9 I9 0 0 (fun v J => D9 J c9 ∧ (v, J (1, 0) 32) = F) xNo) (next : ∀ J c9, D9 J c9 → (∀ p : xP, p.1 < 3 → c9.2.2.2 p = c.2.2.2 p) → V 3918 [(0, xr (2, 9)), (1, xr (0, 0)), (2, xr (1, 0)), (3, xr (2, 0)), (4, xr (2, 1)), (5, xi (i : Int))] [] (J, xst c9) (k + mc9) (n + ms9)) : V 1729 [(0, xr (2, 9)), (1, xr (0, 0)), (2, xr (1, 0)), (3, xr (2, 0)), (4, xr (2, 1)), (5, xi (i : Int))] [] (I, xst c) k n := by
  refine x_aload_n (pc := 1729) (j := 1) hE dL_law_1729 rfl ?_
  refine x_aload_n (pc := 1730) (j := 0) hE dL_law_1730 rfl ?_
  refine x_iload (pc := 1731) (j := 5) hE dL_law_1731 rfl ?_
  refine x_iconst (pc := 1733) hE dL_law_1733 ?_
  refine x_iadd (pc := 1734) hE dL_law_1734 ?_
  refine x_sld (pc := 1735) hE hs dL_law_1735 hA (m := i + 1) (by omega) (by omega) ?_
  refine x_aload_n (pc := 1736) (j := 0) hE dL_law_1736 rfl ?_
  refine x_iload (pc := 1737) (j := 5) hE dL_law_1737 rfl ?_
  refine x_iconst (pc := 1739) hE dL_law_1739 ?_
  refine x_iadd (pc := 1740) hE dL_law_1740 ?_
  refine x_sld (pc := 1741) hE hs dL_law_1741 hA (m := i + 2) (by omega) (by omega) ?_
  refine x_aload_n (pc := 1742) (j := 0) hE dL_law_1742 rfl ?_
  refine x_iload (pc := 1743) (j := 5) hE dL_law_1743 rfl ?_
  refine x_iconst (pc := 1745) hE dL_law_1745 ?_
  refine x_iadd (pc := 1746) hE dL_law_1746 ?_
  refine x_sld (pc := 1747) hE hs dL_law_1747 hA (m := i + 3) (by omega) (by omega) ?_
  refine x_aload_n (pc := 1748) (j := 0) hE dL_law_1748 rfl ?_
  refine x_iload (pc := 1749) (j := 5) hE dL_law_1749 rfl ?_
  refine x_iconst (pc := 1751) hE dL_law_1751 ?_
  refine x_iadd (pc := 1752) hE dL_law_1752 ?_
  refine x_sld (pc := 1753) hE hs dL_law_1753 hA (m := i + 4) (by omega) (by omega) ?_
  refine x_aload_n (pc := 1754) (j := 3) hE dL_law_1754 rfl ?_
  refine x_cw (pc := 1755) (as := [xr (0, 0), xi (sx xs (i + 1)), xi (sx xs (i + 2)), xi (sx xs (i + 3)), xi (sx xs (i + 4)), xr (2, 0)]) hE hW dL_law_1755 pl_L_cheapest lk_RL_234 rfl (Nat.le_refl _) hk hn rfl ?_
  intro I1 c1 hO hA9 hC9
  have hA2 : c1.2.2.2 (2, 9) = b := (hA9 _ (by decide)).trans hA
  refine x_istore (pc := 1758) (lo9 := [(6, xi F.2), (0, xr (2, 9)), (1, xr (0, 0)), (2, xr (1, 0)), (3, xr (2, 0)), (4, xr (2, 1)), (5, xi (i : Int))]) hE dL_law_1758 (by decide) rfl ?_
  refine x_aload_n (pc := 1760) (j := 3) hE dL_law_1760 rfl ?_
  refine x_aload_n (pc := 1761) (j := 1) hE dL_law_1761 rfl ?_
  refine x_iload (pc := 1762) (j := 6) hE dL_law_1762 rfl ?_
  refine x_iconst (pc := 1764) hE dL_law_1764 ?_
  refine x_iadd (pc := 1765) hE dL_law_1765 ?_
  refine x_sld (pc := 1766) hE hs dL_law_1766 hA2 (m := i + 1) (by omega) (by omega) ?_
  refine x_aload_n (pc := 1767) (j := 1) hE dL_law_1767 rfl ?_
  refine x_iload (pc := 1768) (j := 6) hE dL_law_1768 rfl ?_
  refine x_iconst (pc := 1770) hE dL_law_1770 ?_
  refine x_iadd (pc := 1771) hE dL_law_1771 ?_
  refine x_sld (pc := 1772) hE hs dL_law_1772 hA2 (m := i + 2) (by omega) (by omega) ?_
  refine x_aload_n (pc := 1773) (j := 1) hE dL_law_1773 rfl ?_
  refine x_iload (pc := 1774) (j := 6) hE dL_law_1774 rfl ?_
  refine x_iconst (pc := 1776) hE dL_law_1776 ?_
  refine x_iadd (pc := 1777) hE dL_law_1777 ?_
  refine x_sld (pc := 1778) hE hs dL_law_1778 hA2 (m := i + 3) (by omega) (by omega) ?_
  refine x_aload_n (pc := 1779) (j := 1) hE dL_law_1779 rfl ?_
  refine x_iload (pc := 1780) (j := 6) hE dL_law_1780 rfl ?_
  refine x_iconst (pc := 1782) hE dL_law_1782 ?_
  refine x_iadd (pc := 1783) hE dL_law_1783 ?_
  refine x_sld (pc := 1784) hE hs dL_law_1784 hA2 (m := i + 4) (by omega) (by omega) ?_
  refine x_cr (pc := 1785) (q := (1, 0)) (as := [xi (sx xs (i + 1)), xi (sx xs (i + 2)), xi (sx xs (i + 3)), xi (sx xs (i + 4))]) (st := []) hE dL_law_1785 pl_X10_cheapest lk_RL_236 rfl (lvm1 _ (by decide)) rfl rfl (Nat.le_refl _) hk hn (Nat.le_of_ble_eq_true rfl) (hR I1 c1 hC9) ?_
  rintro v J9 ⟨hD9, hF⟩
  obtain ⟨e1, e2⟩ : v = F.1 ∧ J9 (1, 0) 32 = F.2 := ⟨congrArg Prod.fst hF, congrArg Prod.snd hF⟩
  subst e1
  refine x_istore (pc := 1788) (lo9 := [(7, xi F.1), (6, xi F.2), (0, xr (2, 9)), (1, xr (0, 0)), (2, xr (1, 0)), (3, xr (2, 0)), (4, xr (2, 1)), (5, xi (i : Int))]) hE dL_law_1788 (by decide) rfl ?_
  refine x_aload_n (pc := 1790) (j := 4) hE dL_law_1790 rfl ?_
  refine x_cr (pc := 1791) (q := (1, 0)) (as := []) (st := []) hE dL_law_1791 pl_X10_thrown lk_RL_177 rfl (lvm1 _ (by decide)) rfl rfl (Nat.le_refl _) hk hn (Nat.le_of_ble_eq_true rfl) (ok_thrown hX 11) ?_
  rintro t9 J9 ⟨rfl, rfl⟩
  show V 1794 [(7, xi F.1), (6, xi F.2), (0, xr (2, 9)), (1, xr (0, 0)), (2, xr (1, 0)), (3, xr (2, 0)), (4, xr (2, 1)), (5, xi (i : Int))] [xi (J9 (1, 0) 32)] (J9, xst c1) _ _
  rw [e2]
  refine x_iload (pc := 1794) (j := 1) hE dL_law_1794 rfl ?_
  refine x_icmp_same (pc := 1796) (tgt := 1801) hE dL_law_1796 rfl ?_
  refine x_iload (pc := 1801) (j := 1) hE dL_law_1801 rfl ?_
  refine x_in hE (fun hI9 => ?_)
  have hx : xin F.2 := e2 ▸ hI9 (1, 0) 32
  refine x_if_ne (pc := 1803) (tgt := 1818) hE dL_law_1803 rfl hx (fun _ => x_goto (pc := 1818) (tgt := 3918) hE dL_law_1818 rfl (x_loc hE [2, 3, 4, 5, 6, 7] rfl (next _ _ hD9 hA9))) (fun hz0 => ?_)
  refine x_aload_n (pc := 1806) (j := 5) hE dL_law_1806 rfl ?_
  refine x_iconst (pc := 1807) hE dL_law_1807 ?_
  refine x_laload (pc := 1808) (nn := 1) hE dL_law_1808 rfl (lvm2 _ (by decide)) (by decide) (by decide) ?_
  show V 1809 [(7, xi F.1), (6, xi F.2), (0, xr (2, 9)), (1, xr (0, 0)), (2, xr (1, 0)), (3, xr (2, 0)), (4, xr (2, 1)), (5, xi (i : Int))] [xl (c1.2.1 (2, 0) 0)] (J9, xst c1) _ _
  rw [hO hz0]
  refine x_iload (pc := 1809) (j := 0) hE dL_law_1809 rfl ?_
  refine x_i2l (pc := 1811) hE dL_law_1811 ?_
  refine x_lcmp (pc := 1812) hE dL_law_1812 ?_
  rw [lg_same]
  exact x_if_eq (pc := 1813) (tgt := 1818) hE dL_law_1813 rfl (by decide) (fun _ => x_goto (pc := 1818) (tgt := 3918) hE dL_law_1818 rfl (x_loc hE [2, 3, 4, 5, 6, 7] rfl (next _ _ hD9 hA9))) (fun h => absurd rfl h)

set_option maxRecDepth 100000 in
theorem lc_18 {X : xX} (hX : xBase X) {V : xT} {mc ms : Nat} (hE : xEng X m_L_law 12 mc ms V) {b L : Nat} {xs : Nat → Int32} (hs : LSc X b L xs) {c : xCx} {I : xIn} (hA : c.2.2.2 (2, 9) = b) {i : Nat} (hi : i + 7 ≤ L) {k n mc9 ms9 : Nat} (hk : k + mc9 ≤ mc) (hn : n + ms9 ≤ ms) {F : Int × Int} {C9 D9 : xIn → xCx → Prop} (hW : xMet X m_L_price 11 [xr (0, 0), xi (sx xs (i + 1)), xi (sx xs (i + 2)), xi (sx xs (i + 3)), xi (sx xs (i + 4)), xr (2, 0)] (I, xst c) mc9 ms9 (wPost c F.2 (fun c9 => c9.2.1 (2, 0) 0 = (Int32.ofInt F.1).toInt64) C9)) (hR : ∀ I9 c9, C9 I9 c9 → xRet rI X m_X10_price 11 [xr (1, 0), xi (sx xs (i + 1)), xi (sx xs (i + 2)), xi (sx xs (i + 3)), xi (sx xs (i + 4))] c9 I9 0 0 (fun v J => D9 J c9 ∧ (v, J (1, 0) 32) = F) xNo) (next : ∀ J c9, D9 J c9 → (∀ p : xP, p.1 < 3 → c9.2.2.2 p = c.2.2.2 p) → V 3918 [(0, xr (2, 9)), (1, xr (0, 0)), (2, xr (1, 0)), (3, xr (2, 0)), (4, xr (2, 1)), (5, xi (i : Int))] [] (J, xst c9) (k + mc9) (n + ms9)) : V 1821 [(0, xr (2, 9)), (1, xr (0, 0)), (2, xr (1, 0)), (3, xr (2, 0)), (4, xr (2, 1)), (5, xi (i : Int))] [] (I, xst c) k n := by
  refine x_aload_n (pc := 1821) (j := 1) hE dL_law_1821 rfl ?_
  refine x_aload_n (pc := 1822) (j := 0) hE dL_law_1822 rfl ?_
  refine x_iload (pc := 1823) (j := 5) hE dL_law_1823 rfl ?_
  refine x_iconst (pc := 1825) hE dL_law_1825 ?_
  refine x_iadd (pc := 1826) hE dL_law_1826 ?_
  refine x_sld (pc := 1827) hE hs dL_law_1827 hA (m := i + 1) (by omega) (by omega) ?_
  refine x_aload_n (pc := 1828) (j := 0) hE dL_law_1828 rfl ?_
  refine x_iload (pc := 1829) (j := 5) hE dL_law_1829 rfl ?_
  refine x_iconst (pc := 1831) hE dL_law_1831 ?_
  refine x_iadd (pc := 1832) hE dL_law_1832 ?_
  refine x_sld (pc := 1833) hE hs dL_law_1833 hA (m := i + 2) (by omega) (by omega) ?_
  refine x_aload_n (pc := 1834) (j := 0) hE dL_law_1834 rfl ?_
  refine x_iload (pc := 1835) (j := 5) hE dL_law_1835 rfl ?_
  refine x_iconst (pc := 1837) hE dL_law_1837 ?_
  refine x_iadd (pc := 1838) hE dL_law_1838 ?_
  refine x_sld (pc := 1839) hE hs dL_law_1839 hA (m := i + 3) (by omega) (by omega) ?_
  refine x_aload_n (pc := 1840) (j := 0) hE dL_law_1840 rfl ?_
  refine x_iload (pc := 1841) (j := 5) hE dL_law_1841 rfl ?_
  refine x_iconst (pc := 1843) hE dL_law_1843 ?_
  refine x_iadd (pc := 1844) hE dL_law_1844 ?_
  refine x_sld (pc := 1845) hE hs dL_law_1845 hA (m := i + 4) (by omega) (by omega) ?_
  refine x_aload_n (pc := 1846) (j := 3) hE dL_law_1846 rfl ?_
  refine x_cw (pc := 1847) (as := [xr (0, 0), xi (sx xs (i + 1)), xi (sx xs (i + 2)), xi (sx xs (i + 3)), xi (sx xs (i + 4)), xr (2, 0)]) hE hW dL_law_1847 pl_L_price lk_RL_237 rfl (Nat.le_refl _) hk hn rfl ?_
  intro I1 c1 hO hA9 hC9
  have hA2 : c1.2.2.2 (2, 9) = b := (hA9 _ (by decide)).trans hA
  refine x_istore (pc := 1850) (lo9 := [(6, xi F.2), (0, xr (2, 9)), (1, xr (0, 0)), (2, xr (1, 0)), (3, xr (2, 0)), (4, xr (2, 1)), (5, xi (i : Int))]) hE dL_law_1850 (by decide) rfl ?_
  refine x_aload_n (pc := 1852) (j := 3) hE dL_law_1852 rfl ?_
  refine x_aload_n (pc := 1853) (j := 1) hE dL_law_1853 rfl ?_
  refine x_iload (pc := 1854) (j := 6) hE dL_law_1854 rfl ?_
  refine x_iconst (pc := 1856) hE dL_law_1856 ?_
  refine x_iadd (pc := 1857) hE dL_law_1857 ?_
  refine x_sld (pc := 1858) hE hs dL_law_1858 hA2 (m := i + 1) (by omega) (by omega) ?_
  refine x_aload_n (pc := 1859) (j := 1) hE dL_law_1859 rfl ?_
  refine x_iload (pc := 1860) (j := 6) hE dL_law_1860 rfl ?_
  refine x_iconst (pc := 1862) hE dL_law_1862 ?_
  refine x_iadd (pc := 1863) hE dL_law_1863 ?_
  refine x_sld (pc := 1864) hE hs dL_law_1864 hA2 (m := i + 2) (by omega) (by omega) ?_
  refine x_aload_n (pc := 1865) (j := 1) hE dL_law_1865 rfl ?_
  refine x_iload (pc := 1866) (j := 6) hE dL_law_1866 rfl ?_
  refine x_iconst (pc := 1868) hE dL_law_1868 ?_
  refine x_iadd (pc := 1869) hE dL_law_1869 ?_
  refine x_sld (pc := 1870) hE hs dL_law_1870 hA2 (m := i + 3) (by omega) (by omega) ?_
  refine x_aload_n (pc := 1871) (j := 1) hE dL_law_1871 rfl ?_
  refine x_iload (pc := 1872) (j := 6) hE dL_law_1872 rfl ?_
  refine x_iconst (pc := 1874) hE dL_law_1874 ?_
  refine x_iadd (pc := 1875) hE dL_law_1875 ?_
  refine x_sld (pc := 1876) hE hs dL_law_1876 hA2 (m := i + 4) (by omega) (by omega) ?_
  refine x_cr (pc := 1877) (q := (1, 0)) (as := [xi (sx xs (i + 1)), xi (sx xs (i + 2)), xi (sx xs (i + 3)), xi (sx xs (i + 4))]) (st := []) hE dL_law_1877 pl_X10_price lk_RL_239 rfl (lvm1 _ (by decide)) rfl rfl (Nat.le_refl _) hk hn (Nat.le_of_ble_eq_true rfl) (hR I1 c1 hC9) ?_
  rintro v J9 ⟨hD9, hF⟩
  obtain ⟨e1, e2⟩ : v = F.1 ∧ J9 (1, 0) 32 = F.2 := ⟨congrArg Prod.fst hF, congrArg Prod.snd hF⟩
  subst e1
  refine x_istore (pc := 1880) (lo9 := [(7, xi F.1), (6, xi F.2), (0, xr (2, 9)), (1, xr (0, 0)), (2, xr (1, 0)), (3, xr (2, 0)), (4, xr (2, 1)), (5, xi (i : Int))]) hE dL_law_1880 (by decide) rfl ?_
  refine x_aload_n (pc := 1882) (j := 4) hE dL_law_1882 rfl ?_
  refine x_cr (pc := 1883) (q := (1, 0)) (as := []) (st := []) hE dL_law_1883 pl_X10_thrown lk_RL_177 rfl (lvm1 _ (by decide)) rfl rfl (Nat.le_refl _) hk hn (Nat.le_of_ble_eq_true rfl) (ok_thrown hX 11) ?_
  rintro t9 J9 ⟨rfl, rfl⟩
  show V 1886 [(7, xi F.1), (6, xi F.2), (0, xr (2, 9)), (1, xr (0, 0)), (2, xr (1, 0)), (3, xr (2, 0)), (4, xr (2, 1)), (5, xi (i : Int))] [xi (J9 (1, 0) 32)] (J9, xst c1) _ _
  rw [e2]
  refine x_iload (pc := 1886) (j := 1) hE dL_law_1886 rfl ?_
  refine x_icmp_same (pc := 1888) (tgt := 1893) hE dL_law_1888 rfl ?_
  refine x_iload (pc := 1893) (j := 1) hE dL_law_1893 rfl ?_
  refine x_in hE (fun hI9 => ?_)
  have hx : xin F.2 := e2 ▸ hI9 (1, 0) 32
  refine x_if_ne (pc := 1895) (tgt := 1910) hE dL_law_1895 rfl hx (fun _ => x_goto (pc := 1910) (tgt := 3918) hE dL_law_1910 rfl (x_loc hE [2, 3, 4, 5, 6, 7] rfl (next _ _ hD9 hA9))) (fun hz0 => ?_)
  refine x_aload_n (pc := 1898) (j := 5) hE dL_law_1898 rfl ?_
  refine x_iconst (pc := 1899) hE dL_law_1899 ?_
  refine x_laload (pc := 1900) (nn := 1) hE dL_law_1900 rfl (lvm2 _ (by decide)) (by decide) (by decide) ?_
  show V 1901 [(7, xi F.1), (6, xi F.2), (0, xr (2, 9)), (1, xr (0, 0)), (2, xr (1, 0)), (3, xr (2, 0)), (4, xr (2, 1)), (5, xi (i : Int))] [xl (c1.2.1 (2, 0) 0)] (J9, xst c1) _ _
  rw [hO hz0]
  refine x_iload (pc := 1901) (j := 0) hE dL_law_1901 rfl ?_
  refine x_i2l (pc := 1903) hE dL_law_1903 ?_
  refine x_lcmp (pc := 1904) hE dL_law_1904 ?_
  rw [lg_same]
  exact x_if_eq (pc := 1905) (tgt := 1910) hE dL_law_1905 rfl (by decide) (fun _ => x_goto (pc := 1910) (tgt := 3918) hE dL_law_1910 rfl (x_loc hE [2, 3, 4, 5, 6, 7] rfl (next _ _ hD9 hA9))) (fun h => absurd rfl h)

set_option maxRecDepth 100000 in
theorem lc_19 {X : xX} (hX : xBase X) {V : xT} {mc ms : Nat} (hE : xEng X m_L_law 12 mc ms V) {b L : Nat} {xs : Nat → Int32} (hs : LSc X b L xs) {c : xCx} {I : xIn} (hA : c.2.2.2 (2, 9) = b) {i : Nat} (hi : i + 7 ≤ L) {k n mc9 ms9 : Nat} (hk : k + mc9 ≤ mc) (hn : n + ms9 ≤ ms) {F : Int × Int} {C9 D9 : xIn → xCx → Prop} (hW : xMet X m_L_edgeWays 11 [xr (0, 0), xi (sx xs (i + 1)), xi (sx xs (i + 2)), xi (sx xs (i + 3)), xr (2, 0)] (I, xst c) mc9 ms9 (wPost c F.2 (fun c9 => c9.2.1 (2, 0) 0 = (Int32.ofInt F.1).toInt64) C9)) (hR : ∀ I9 c9, C9 I9 c9 → xRet rI X m_X10_edgeWays 11 [xr (1, 0), xi (sx xs (i + 1)), xi (sx xs (i + 2)), xi (sx xs (i + 3))] c9 I9 0 0 (fun v J => D9 J c9 ∧ (v, J (1, 0) 32) = F) xNo) (next : ∀ J c9, D9 J c9 → (∀ p : xP, p.1 < 3 → c9.2.2.2 p = c.2.2.2 p) → V 3918 [(0, xr (2, 9)), (1, xr (0, 0)), (2, xr (1, 0)), (3, xr (2, 0)), (4, xr (2, 1)), (5, xi (i : Int))] [] (J, xst c9) (k + mc9) (n + ms9)) : V 1913 [(0, xr (2, 9)), (1, xr (0, 0)), (2, xr (1, 0)), (3, xr (2, 0)), (4, xr (2, 1)), (5, xi (i : Int))] [] (I, xst c) k n := by
  refine x_aload_n (pc := 1913) (j := 1) hE dL_law_1913 rfl ?_
  refine x_aload_n (pc := 1914) (j := 0) hE dL_law_1914 rfl ?_
  refine x_iload (pc := 1915) (j := 5) hE dL_law_1915 rfl ?_
  refine x_iconst (pc := 1917) hE dL_law_1917 ?_
  refine x_iadd (pc := 1918) hE dL_law_1918 ?_
  refine x_sld (pc := 1919) hE hs dL_law_1919 hA (m := i + 1) (by omega) (by omega) ?_
  refine x_aload_n (pc := 1920) (j := 0) hE dL_law_1920 rfl ?_
  refine x_iload (pc := 1921) (j := 5) hE dL_law_1921 rfl ?_
  refine x_iconst (pc := 1923) hE dL_law_1923 ?_
  refine x_iadd (pc := 1924) hE dL_law_1924 ?_
  refine x_sld (pc := 1925) hE hs dL_law_1925 hA (m := i + 2) (by omega) (by omega) ?_
  refine x_aload_n (pc := 1926) (j := 0) hE dL_law_1926 rfl ?_
  refine x_iload (pc := 1927) (j := 5) hE dL_law_1927 rfl ?_
  refine x_iconst (pc := 1929) hE dL_law_1929 ?_
  refine x_iadd (pc := 1930) hE dL_law_1930 ?_
  refine x_sld (pc := 1931) hE hs dL_law_1931 hA (m := i + 3) (by omega) (by omega) ?_
  refine x_aload_n (pc := 1932) (j := 3) hE dL_law_1932 rfl ?_
  refine x_cw (pc := 1933) (as := [xr (0, 0), xi (sx xs (i + 1)), xi (sx xs (i + 2)), xi (sx xs (i + 3)), xr (2, 0)]) hE hW dL_law_1933 pl_L_edgeWays lk_RL_240 rfl (Nat.le_refl _) hk hn rfl ?_
  intro I1 c1 hO hA9 hC9
  have hA2 : c1.2.2.2 (2, 9) = b := (hA9 _ (by decide)).trans hA
  refine x_istore (pc := 1936) (lo9 := [(6, xi F.2), (0, xr (2, 9)), (1, xr (0, 0)), (2, xr (1, 0)), (3, xr (2, 0)), (4, xr (2, 1)), (5, xi (i : Int))]) hE dL_law_1936 (by decide) rfl ?_
  refine x_aload_n (pc := 1938) (j := 3) hE dL_law_1938 rfl ?_
  refine x_aload_n (pc := 1939) (j := 1) hE dL_law_1939 rfl ?_
  refine x_iload (pc := 1940) (j := 6) hE dL_law_1940 rfl ?_
  refine x_iconst (pc := 1942) hE dL_law_1942 ?_
  refine x_iadd (pc := 1943) hE dL_law_1943 ?_
  refine x_sld (pc := 1944) hE hs dL_law_1944 hA2 (m := i + 1) (by omega) (by omega) ?_
  refine x_aload_n (pc := 1945) (j := 1) hE dL_law_1945 rfl ?_
  refine x_iload (pc := 1946) (j := 6) hE dL_law_1946 rfl ?_
  refine x_iconst (pc := 1948) hE dL_law_1948 ?_
  refine x_iadd (pc := 1949) hE dL_law_1949 ?_
  refine x_sld (pc := 1950) hE hs dL_law_1950 hA2 (m := i + 2) (by omega) (by omega) ?_
  refine x_aload_n (pc := 1951) (j := 1) hE dL_law_1951 rfl ?_
  refine x_iload (pc := 1952) (j := 6) hE dL_law_1952 rfl ?_
  refine x_iconst (pc := 1954) hE dL_law_1954 ?_
  refine x_iadd (pc := 1955) hE dL_law_1955 ?_
  refine x_sld (pc := 1956) hE hs dL_law_1956 hA2 (m := i + 3) (by omega) (by omega) ?_
  refine x_cr (pc := 1957) (q := (1, 0)) (as := [xi (sx xs (i + 1)), xi (sx xs (i + 2)), xi (sx xs (i + 3))]) (st := []) hE dL_law_1957 pl_X10_edgeWays lk_RL_242 rfl (lvm1 _ (by decide)) rfl rfl (Nat.le_refl _) hk hn (Nat.le_of_ble_eq_true rfl) (hR I1 c1 hC9) ?_
  rintro v J9 ⟨hD9, hF⟩
  obtain ⟨e1, e2⟩ : v = F.1 ∧ J9 (1, 0) 32 = F.2 := ⟨congrArg Prod.fst hF, congrArg Prod.snd hF⟩
  subst e1
  refine x_istore (pc := 1960) (lo9 := [(7, xi F.1), (6, xi F.2), (0, xr (2, 9)), (1, xr (0, 0)), (2, xr (1, 0)), (3, xr (2, 0)), (4, xr (2, 1)), (5, xi (i : Int))]) hE dL_law_1960 (by decide) rfl ?_
  refine x_aload_n (pc := 1962) (j := 4) hE dL_law_1962 rfl ?_
  refine x_cr (pc := 1963) (q := (1, 0)) (as := []) (st := []) hE dL_law_1963 pl_X10_thrown lk_RL_177 rfl (lvm1 _ (by decide)) rfl rfl (Nat.le_refl _) hk hn (Nat.le_of_ble_eq_true rfl) (ok_thrown hX 11) ?_
  rintro t9 J9 ⟨rfl, rfl⟩
  show V 1966 [(7, xi F.1), (6, xi F.2), (0, xr (2, 9)), (1, xr (0, 0)), (2, xr (1, 0)), (3, xr (2, 0)), (4, xr (2, 1)), (5, xi (i : Int))] [xi (J9 (1, 0) 32)] (J9, xst c1) _ _
  rw [e2]
  refine x_iload (pc := 1966) (j := 1) hE dL_law_1966 rfl ?_
  refine x_icmp_same (pc := 1968) (tgt := 1973) hE dL_law_1968 rfl ?_
  refine x_iload (pc := 1973) (j := 1) hE dL_law_1973 rfl ?_
  refine x_in hE (fun hI9 => ?_)
  have hx : xin F.2 := e2 ▸ hI9 (1, 0) 32
  refine x_if_ne (pc := 1975) (tgt := 1990) hE dL_law_1975 rfl hx (fun _ => x_goto (pc := 1990) (tgt := 3918) hE dL_law_1990 rfl (x_loc hE [2, 3, 4, 5, 6, 7] rfl (next _ _ hD9 hA9))) (fun hz0 => ?_)
  refine x_aload_n (pc := 1978) (j := 5) hE dL_law_1978 rfl ?_
  refine x_iconst (pc := 1979) hE dL_law_1979 ?_
  refine x_laload (pc := 1980) (nn := 1) hE dL_law_1980 rfl (lvm2 _ (by decide)) (by decide) (by decide) ?_
  show V 1981 [(7, xi F.1), (6, xi F.2), (0, xr (2, 9)), (1, xr (0, 0)), (2, xr (1, 0)), (3, xr (2, 0)), (4, xr (2, 1)), (5, xi (i : Int))] [xl (c1.2.1 (2, 0) 0)] (J9, xst c1) _ _
  rw [hO hz0]
  refine x_iload (pc := 1981) (j := 0) hE dL_law_1981 rfl ?_
  refine x_i2l (pc := 1983) hE dL_law_1983 ?_
  refine x_lcmp (pc := 1984) hE dL_law_1984 ?_
  rw [lg_same]
  exact x_if_eq (pc := 1985) (tgt := 1990) hE dL_law_1985 rfl (by decide) (fun _ => x_goto (pc := 1990) (tgt := 3918) hE dL_law_1990 rfl (x_loc hE [2, 3, 4, 5, 6, 7] rfl (next _ _ hD9 hA9))) (fun h => absurd rfl h)

set_option maxRecDepth 100000 in
theorem lc_20 {X : xX} (hX : xBase X) {V : xT} {mc ms : Nat} (hE : xEng X m_L_law 12 mc ms V) {b L : Nat} {xs : Nat → Int32} (hs : LSc X b L xs) {c : xCx} {I : xIn} (hA : c.2.2.2 (2, 9) = b) {i : Nat} (hi : i + 7 ≤ L) {k n mc9 ms9 : Nat} (hk : k + mc9 ≤ mc) (hn : n + ms9 ≤ ms) {F : Int × Int} {C9 D9 : xIn → xCx → Prop} (hW : xMet X m_L_cornerWays 11 [xr (0, 0), xi (sx xs (i + 1)), xi (sx xs (i + 2)), xi (sx xs (i + 3)), xr (2, 0)] (I, xst c) mc9 ms9 (wPost c F.2 (fun c9 => c9.2.1 (2, 0) 0 = (Int32.ofInt F.1).toInt64) C9)) (hR : ∀ I9 c9, C9 I9 c9 → xRet rI X m_X10_cornerWays 11 [xr (1, 0), xi (sx xs (i + 1)), xi (sx xs (i + 2)), xi (sx xs (i + 3))] c9 I9 0 0 (fun v J => D9 J c9 ∧ (v, J (1, 0) 32) = F) xNo) (next : ∀ J c9, D9 J c9 → (∀ p : xP, p.1 < 3 → c9.2.2.2 p = c.2.2.2 p) → V 3918 [(0, xr (2, 9)), (1, xr (0, 0)), (2, xr (1, 0)), (3, xr (2, 0)), (4, xr (2, 1)), (5, xi (i : Int))] [] (J, xst c9) (k + mc9) (n + ms9)) : V 1993 [(0, xr (2, 9)), (1, xr (0, 0)), (2, xr (1, 0)), (3, xr (2, 0)), (4, xr (2, 1)), (5, xi (i : Int))] [] (I, xst c) k n := by
  refine x_aload_n (pc := 1993) (j := 1) hE dL_law_1993 rfl ?_
  refine x_aload_n (pc := 1994) (j := 0) hE dL_law_1994 rfl ?_
  refine x_iload (pc := 1995) (j := 5) hE dL_law_1995 rfl ?_
  refine x_iconst (pc := 1997) hE dL_law_1997 ?_
  refine x_iadd (pc := 1998) hE dL_law_1998 ?_
  refine x_sld (pc := 1999) hE hs dL_law_1999 hA (m := i + 1) (by omega) (by omega) ?_
  refine x_aload_n (pc := 2000) (j := 0) hE dL_law_2000 rfl ?_
  refine x_iload (pc := 2001) (j := 5) hE dL_law_2001 rfl ?_
  refine x_iconst (pc := 2003) hE dL_law_2003 ?_
  refine x_iadd (pc := 2004) hE dL_law_2004 ?_
  refine x_sld (pc := 2005) hE hs dL_law_2005 hA (m := i + 2) (by omega) (by omega) ?_
  refine x_aload_n (pc := 2006) (j := 0) hE dL_law_2006 rfl ?_
  refine x_iload (pc := 2007) (j := 5) hE dL_law_2007 rfl ?_
  refine x_iconst (pc := 2009) hE dL_law_2009 ?_
  refine x_iadd (pc := 2010) hE dL_law_2010 ?_
  refine x_sld (pc := 2011) hE hs dL_law_2011 hA (m := i + 3) (by omega) (by omega) ?_
  refine x_aload_n (pc := 2012) (j := 3) hE dL_law_2012 rfl ?_
  refine x_cw (pc := 2013) (as := [xr (0, 0), xi (sx xs (i + 1)), xi (sx xs (i + 2)), xi (sx xs (i + 3)), xr (2, 0)]) hE hW dL_law_2013 pl_L_cornerWays lk_RL_243 rfl (Nat.le_refl _) hk hn rfl ?_
  intro I1 c1 hO hA9 hC9
  have hA2 : c1.2.2.2 (2, 9) = b := (hA9 _ (by decide)).trans hA
  refine x_istore (pc := 2016) (lo9 := [(6, xi F.2), (0, xr (2, 9)), (1, xr (0, 0)), (2, xr (1, 0)), (3, xr (2, 0)), (4, xr (2, 1)), (5, xi (i : Int))]) hE dL_law_2016 (by decide) rfl ?_
  refine x_aload_n (pc := 2018) (j := 3) hE dL_law_2018 rfl ?_
  refine x_aload_n (pc := 2019) (j := 1) hE dL_law_2019 rfl ?_
  refine x_iload (pc := 2020) (j := 6) hE dL_law_2020 rfl ?_
  refine x_iconst (pc := 2022) hE dL_law_2022 ?_
  refine x_iadd (pc := 2023) hE dL_law_2023 ?_
  refine x_sld (pc := 2024) hE hs dL_law_2024 hA2 (m := i + 1) (by omega) (by omega) ?_
  refine x_aload_n (pc := 2025) (j := 1) hE dL_law_2025 rfl ?_
  refine x_iload (pc := 2026) (j := 6) hE dL_law_2026 rfl ?_
  refine x_iconst (pc := 2028) hE dL_law_2028 ?_
  refine x_iadd (pc := 2029) hE dL_law_2029 ?_
  refine x_sld (pc := 2030) hE hs dL_law_2030 hA2 (m := i + 2) (by omega) (by omega) ?_
  refine x_aload_n (pc := 2031) (j := 1) hE dL_law_2031 rfl ?_
  refine x_iload (pc := 2032) (j := 6) hE dL_law_2032 rfl ?_
  refine x_iconst (pc := 2034) hE dL_law_2034 ?_
  refine x_iadd (pc := 2035) hE dL_law_2035 ?_
  refine x_sld (pc := 2036) hE hs dL_law_2036 hA2 (m := i + 3) (by omega) (by omega) ?_
  refine x_cr (pc := 2037) (q := (1, 0)) (as := [xi (sx xs (i + 1)), xi (sx xs (i + 2)), xi (sx xs (i + 3))]) (st := []) hE dL_law_2037 pl_X10_cornerWays lk_RL_245 rfl (lvm1 _ (by decide)) rfl rfl (Nat.le_refl _) hk hn (Nat.le_of_ble_eq_true rfl) (hR I1 c1 hC9) ?_
  rintro v J9 ⟨hD9, hF⟩
  obtain ⟨e1, e2⟩ : v = F.1 ∧ J9 (1, 0) 32 = F.2 := ⟨congrArg Prod.fst hF, congrArg Prod.snd hF⟩
  subst e1
  refine x_istore (pc := 2040) (lo9 := [(7, xi F.1), (6, xi F.2), (0, xr (2, 9)), (1, xr (0, 0)), (2, xr (1, 0)), (3, xr (2, 0)), (4, xr (2, 1)), (5, xi (i : Int))]) hE dL_law_2040 (by decide) rfl ?_
  refine x_aload_n (pc := 2042) (j := 4) hE dL_law_2042 rfl ?_
  refine x_cr (pc := 2043) (q := (1, 0)) (as := []) (st := []) hE dL_law_2043 pl_X10_thrown lk_RL_177 rfl (lvm1 _ (by decide)) rfl rfl (Nat.le_refl _) hk hn (Nat.le_of_ble_eq_true rfl) (ok_thrown hX 11) ?_
  rintro t9 J9 ⟨rfl, rfl⟩
  show V 2046 [(7, xi F.1), (6, xi F.2), (0, xr (2, 9)), (1, xr (0, 0)), (2, xr (1, 0)), (3, xr (2, 0)), (4, xr (2, 1)), (5, xi (i : Int))] [xi (J9 (1, 0) 32)] (J9, xst c1) _ _
  rw [e2]
  refine x_iload (pc := 2046) (j := 1) hE dL_law_2046 rfl ?_
  refine x_icmp_same (pc := 2048) (tgt := 2053) hE dL_law_2048 rfl ?_
  refine x_iload (pc := 2053) (j := 1) hE dL_law_2053 rfl ?_
  refine x_in hE (fun hI9 => ?_)
  have hx : xin F.2 := e2 ▸ hI9 (1, 0) 32
  refine x_if_ne (pc := 2055) (tgt := 2070) hE dL_law_2055 rfl hx (fun _ => x_goto (pc := 2070) (tgt := 3918) hE dL_law_2070 rfl (x_loc hE [2, 3, 4, 5, 6, 7] rfl (next _ _ hD9 hA9))) (fun hz0 => ?_)
  refine x_aload_n (pc := 2058) (j := 5) hE dL_law_2058 rfl ?_
  refine x_iconst (pc := 2059) hE dL_law_2059 ?_
  refine x_laload (pc := 2060) (nn := 1) hE dL_law_2060 rfl (lvm2 _ (by decide)) (by decide) (by decide) ?_
  show V 2061 [(7, xi F.1), (6, xi F.2), (0, xr (2, 9)), (1, xr (0, 0)), (2, xr (1, 0)), (3, xr (2, 0)), (4, xr (2, 1)), (5, xi (i : Int))] [xl (c1.2.1 (2, 0) 0)] (J9, xst c1) _ _
  rw [hO hz0]
  refine x_iload (pc := 2061) (j := 0) hE dL_law_2061 rfl ?_
  refine x_i2l (pc := 2063) hE dL_law_2063 ?_
  refine x_lcmp (pc := 2064) hE dL_law_2064 ?_
  rw [lg_same]
  exact x_if_eq (pc := 2065) (tgt := 2070) hE dL_law_2065 rfl (by decide) (fun _ => x_goto (pc := 2070) (tgt := 3918) hE dL_law_2070 rfl (x_loc hE [2, 3, 4, 5, 6, 7] rfl (next _ _ hD9 hA9))) (fun h => absurd rfl h)

set_option maxRecDepth 100000 in
theorem lc_21 {X : xX} (hX : xBase X) {V : xT} {mc ms : Nat} (hE : xEng X m_L_law 12 mc ms V) {b L : Nat} {xs : Nat → Int32} (hs : LSc X b L xs) {c : xCx} {I : xIn} (hA : c.2.2.2 (2, 9) = b) {i : Nat} (hi : i + 7 ≤ L) {k n mc9 ms9 : Nat} (hk : k + mc9 ≤ mc) (hn : n + ms9 ≤ ms) {F : Int × Int} {C9 D9 : xIn → xCx → Prop} (hW : xMet X m_L_apart 11 [xr (0, 0), xi (sx xs (i + 1)), xi (sx xs (i + 2)), xi (sx xs (i + 3)), xr (2, 0)] (I, xst c) mc9 ms9 (wPost c F.2 (fun c9 => c9.2.1 (2, 0) 0 = (Int32.ofInt F.1).toInt64) C9)) (hR : ∀ I9 c9, C9 I9 c9 → xRet rI X m_X10_apart 11 [xr (1, 0), xi (sx xs (i + 1)), xi (sx xs (i + 2)), xi (sx xs (i + 3))] c9 I9 0 0 (fun v J => D9 J c9 ∧ (v, J (1, 0) 32) = F) xNo) (next : ∀ J c9, D9 J c9 → (∀ p : xP, p.1 < 3 → c9.2.2.2 p = c.2.2.2 p) → V 3918 [(0, xr (2, 9)), (1, xr (0, 0)), (2, xr (1, 0)), (3, xr (2, 0)), (4, xr (2, 1)), (5, xi (i : Int))] [] (J, xst c9) (k + mc9) (n + ms9)) : V 2073 [(0, xr (2, 9)), (1, xr (0, 0)), (2, xr (1, 0)), (3, xr (2, 0)), (4, xr (2, 1)), (5, xi (i : Int))] [] (I, xst c) k n := by
  refine x_aload_n (pc := 2073) (j := 1) hE dL_law_2073 rfl ?_
  refine x_aload_n (pc := 2074) (j := 0) hE dL_law_2074 rfl ?_
  refine x_iload (pc := 2075) (j := 5) hE dL_law_2075 rfl ?_
  refine x_iconst (pc := 2077) hE dL_law_2077 ?_
  refine x_iadd (pc := 2078) hE dL_law_2078 ?_
  refine x_sld (pc := 2079) hE hs dL_law_2079 hA (m := i + 1) (by omega) (by omega) ?_
  refine x_aload_n (pc := 2080) (j := 0) hE dL_law_2080 rfl ?_
  refine x_iload (pc := 2081) (j := 5) hE dL_law_2081 rfl ?_
  refine x_iconst (pc := 2083) hE dL_law_2083 ?_
  refine x_iadd (pc := 2084) hE dL_law_2084 ?_
  refine x_sld (pc := 2085) hE hs dL_law_2085 hA (m := i + 2) (by omega) (by omega) ?_
  refine x_aload_n (pc := 2086) (j := 0) hE dL_law_2086 rfl ?_
  refine x_iload (pc := 2087) (j := 5) hE dL_law_2087 rfl ?_
  refine x_iconst (pc := 2089) hE dL_law_2089 ?_
  refine x_iadd (pc := 2090) hE dL_law_2090 ?_
  refine x_sld (pc := 2091) hE hs dL_law_2091 hA (m := i + 3) (by omega) (by omega) ?_
  refine x_aload_n (pc := 2092) (j := 3) hE dL_law_2092 rfl ?_
  refine x_cw (pc := 2093) (as := [xr (0, 0), xi (sx xs (i + 1)), xi (sx xs (i + 2)), xi (sx xs (i + 3)), xr (2, 0)]) hE hW dL_law_2093 pl_L_apart lk_RL_246 rfl (Nat.le_refl _) hk hn rfl ?_
  intro I1 c1 hO hA9 hC9
  have hA2 : c1.2.2.2 (2, 9) = b := (hA9 _ (by decide)).trans hA
  refine x_istore (pc := 2096) (lo9 := [(6, xi F.2), (0, xr (2, 9)), (1, xr (0, 0)), (2, xr (1, 0)), (3, xr (2, 0)), (4, xr (2, 1)), (5, xi (i : Int))]) hE dL_law_2096 (by decide) rfl ?_
  refine x_aload_n (pc := 2098) (j := 3) hE dL_law_2098 rfl ?_
  refine x_aload_n (pc := 2099) (j := 1) hE dL_law_2099 rfl ?_
  refine x_iload (pc := 2100) (j := 6) hE dL_law_2100 rfl ?_
  refine x_iconst (pc := 2102) hE dL_law_2102 ?_
  refine x_iadd (pc := 2103) hE dL_law_2103 ?_
  refine x_sld (pc := 2104) hE hs dL_law_2104 hA2 (m := i + 1) (by omega) (by omega) ?_
  refine x_aload_n (pc := 2105) (j := 1) hE dL_law_2105 rfl ?_
  refine x_iload (pc := 2106) (j := 6) hE dL_law_2106 rfl ?_
  refine x_iconst (pc := 2108) hE dL_law_2108 ?_
  refine x_iadd (pc := 2109) hE dL_law_2109 ?_
  refine x_sld (pc := 2110) hE hs dL_law_2110 hA2 (m := i + 2) (by omega) (by omega) ?_
  refine x_aload_n (pc := 2111) (j := 1) hE dL_law_2111 rfl ?_
  refine x_iload (pc := 2112) (j := 6) hE dL_law_2112 rfl ?_
  refine x_iconst (pc := 2114) hE dL_law_2114 ?_
  refine x_iadd (pc := 2115) hE dL_law_2115 ?_
  refine x_sld (pc := 2116) hE hs dL_law_2116 hA2 (m := i + 3) (by omega) (by omega) ?_
  refine x_cr (pc := 2117) (q := (1, 0)) (as := [xi (sx xs (i + 1)), xi (sx xs (i + 2)), xi (sx xs (i + 3))]) (st := []) hE dL_law_2117 pl_X10_apart lk_RL_248 rfl (lvm1 _ (by decide)) rfl rfl (Nat.le_refl _) hk hn (Nat.le_of_ble_eq_true rfl) (hR I1 c1 hC9) ?_
  rintro v J9 ⟨hD9, hF⟩
  obtain ⟨e1, e2⟩ : v = F.1 ∧ J9 (1, 0) 32 = F.2 := ⟨congrArg Prod.fst hF, congrArg Prod.snd hF⟩
  subst e1
  refine x_istore (pc := 2120) (lo9 := [(7, xi F.1), (6, xi F.2), (0, xr (2, 9)), (1, xr (0, 0)), (2, xr (1, 0)), (3, xr (2, 0)), (4, xr (2, 1)), (5, xi (i : Int))]) hE dL_law_2120 (by decide) rfl ?_
  refine x_aload_n (pc := 2122) (j := 4) hE dL_law_2122 rfl ?_
  refine x_cr (pc := 2123) (q := (1, 0)) (as := []) (st := []) hE dL_law_2123 pl_X10_thrown lk_RL_177 rfl (lvm1 _ (by decide)) rfl rfl (Nat.le_refl _) hk hn (Nat.le_of_ble_eq_true rfl) (ok_thrown hX 11) ?_
  rintro t9 J9 ⟨rfl, rfl⟩
  show V 2126 [(7, xi F.1), (6, xi F.2), (0, xr (2, 9)), (1, xr (0, 0)), (2, xr (1, 0)), (3, xr (2, 0)), (4, xr (2, 1)), (5, xi (i : Int))] [xi (J9 (1, 0) 32)] (J9, xst c1) _ _
  rw [e2]
  refine x_iload (pc := 2126) (j := 1) hE dL_law_2126 rfl ?_
  refine x_icmp_same (pc := 2128) (tgt := 2133) hE dL_law_2128 rfl ?_
  refine x_iload (pc := 2133) (j := 1) hE dL_law_2133 rfl ?_
  refine x_in hE (fun hI9 => ?_)
  have hx : xin F.2 := e2 ▸ hI9 (1, 0) 32
  refine x_if_ne (pc := 2135) (tgt := 2150) hE dL_law_2135 rfl hx (fun _ => x_goto (pc := 2150) (tgt := 3918) hE dL_law_2150 rfl (x_loc hE [2, 3, 4, 5, 6, 7] rfl (next _ _ hD9 hA9))) (fun hz0 => ?_)
  refine x_aload_n (pc := 2138) (j := 5) hE dL_law_2138 rfl ?_
  refine x_iconst (pc := 2139) hE dL_law_2139 ?_
  refine x_laload (pc := 2140) (nn := 1) hE dL_law_2140 rfl (lvm2 _ (by decide)) (by decide) (by decide) ?_
  show V 2141 [(7, xi F.1), (6, xi F.2), (0, xr (2, 9)), (1, xr (0, 0)), (2, xr (1, 0)), (3, xr (2, 0)), (4, xr (2, 1)), (5, xi (i : Int))] [xl (c1.2.1 (2, 0) 0)] (J9, xst c1) _ _
  rw [hO hz0]
  refine x_iload (pc := 2141) (j := 0) hE dL_law_2141 rfl ?_
  refine x_i2l (pc := 2143) hE dL_law_2143 ?_
  refine x_lcmp (pc := 2144) hE dL_law_2144 ?_
  rw [lg_same]
  exact x_if_eq (pc := 2145) (tgt := 2150) hE dL_law_2145 rfl (by decide) (fun _ => x_goto (pc := 2150) (tgt := 3918) hE dL_law_2150 rfl (x_loc hE [2, 3, 4, 5, 6, 7] rfl (next _ _ hD9 hA9))) (fun h => absurd rfl h)

set_option maxRecDepth 100000 in
theorem lc_22 {X : xX} (hX : xBase X) {V : xT} {mc ms : Nat} (hE : xEng X m_L_law 12 mc ms V) {b L : Nat} {xs : Nat → Int32} (hs : LSc X b L xs) {c : xCx} {I : xIn} (hA : c.2.2.2 (2, 9) = b) {i : Nat} (hi : i + 7 ≤ L) {k n mc9 ms9 : Nat} (hk : k + mc9 ≤ mc) (hn : n + ms9 ≤ ms) {F : Int × Int} {C9 D9 : xIn → xCx → Prop} (hW : xMet X m_L_wider 11 [xr (0, 0), xi (sx xs (i + 1)), xi (sx xs (i + 2)), xi (sx xs (i + 3)), xi (sx xs (i + 4)), xr (2, 0)] (I, xst c) mc9 ms9 (wPost c F.2 (fun c9 => c9.2.1 (2, 0) 0 = (Int32.ofInt F.1).toInt64) C9)) (hR : ∀ I9 c9, C9 I9 c9 → xRet rI X m_X10_wider 11 [xr (1, 0), xi (sx xs (i + 1)), xi (sx xs (i + 2)), xi (sx xs (i + 3)), xi (sx xs (i + 4))] c9 I9 0 0 (fun v J => D9 J c9 ∧ (v, J (1, 0) 32) = F) xNo) (next : ∀ J c9, D9 J c9 → (∀ p : xP, p.1 < 3 → c9.2.2.2 p = c.2.2.2 p) → V 3918 [(0, xr (2, 9)), (1, xr (0, 0)), (2, xr (1, 0)), (3, xr (2, 0)), (4, xr (2, 1)), (5, xi (i : Int))] [] (J, xst c9) (k + mc9) (n + ms9)) : V 2153 [(0, xr (2, 9)), (1, xr (0, 0)), (2, xr (1, 0)), (3, xr (2, 0)), (4, xr (2, 1)), (5, xi (i : Int))] [] (I, xst c) k n := by
  refine x_aload_n (pc := 2153) (j := 1) hE dL_law_2153 rfl ?_
  refine x_aload_n (pc := 2154) (j := 0) hE dL_law_2154 rfl ?_
  refine x_iload (pc := 2155) (j := 5) hE dL_law_2155 rfl ?_
  refine x_iconst (pc := 2157) hE dL_law_2157 ?_
  refine x_iadd (pc := 2158) hE dL_law_2158 ?_
  refine x_sld (pc := 2159) hE hs dL_law_2159 hA (m := i + 1) (by omega) (by omega) ?_
  refine x_aload_n (pc := 2160) (j := 0) hE dL_law_2160 rfl ?_
  refine x_iload (pc := 2161) (j := 5) hE dL_law_2161 rfl ?_
  refine x_iconst (pc := 2163) hE dL_law_2163 ?_
  refine x_iadd (pc := 2164) hE dL_law_2164 ?_
  refine x_sld (pc := 2165) hE hs dL_law_2165 hA (m := i + 2) (by omega) (by omega) ?_
  refine x_aload_n (pc := 2166) (j := 0) hE dL_law_2166 rfl ?_
  refine x_iload (pc := 2167) (j := 5) hE dL_law_2167 rfl ?_
  refine x_iconst (pc := 2169) hE dL_law_2169 ?_
  refine x_iadd (pc := 2170) hE dL_law_2170 ?_
  refine x_sld (pc := 2171) hE hs dL_law_2171 hA (m := i + 3) (by omega) (by omega) ?_
  refine x_aload_n (pc := 2172) (j := 0) hE dL_law_2172 rfl ?_
  refine x_iload (pc := 2173) (j := 5) hE dL_law_2173 rfl ?_
  refine x_iconst (pc := 2175) hE dL_law_2175 ?_
  refine x_iadd (pc := 2176) hE dL_law_2176 ?_
  refine x_sld (pc := 2177) hE hs dL_law_2177 hA (m := i + 4) (by omega) (by omega) ?_
  refine x_aload_n (pc := 2178) (j := 3) hE dL_law_2178 rfl ?_
  refine x_cw (pc := 2179) (as := [xr (0, 0), xi (sx xs (i + 1)), xi (sx xs (i + 2)), xi (sx xs (i + 3)), xi (sx xs (i + 4)), xr (2, 0)]) hE hW dL_law_2179 pl_L_wider lk_RL_249 rfl (Nat.le_refl _) hk hn rfl ?_
  intro I1 c1 hO hA9 hC9
  have hA2 : c1.2.2.2 (2, 9) = b := (hA9 _ (by decide)).trans hA
  refine x_istore (pc := 2182) (lo9 := [(6, xi F.2), (0, xr (2, 9)), (1, xr (0, 0)), (2, xr (1, 0)), (3, xr (2, 0)), (4, xr (2, 1)), (5, xi (i : Int))]) hE dL_law_2182 (by decide) rfl ?_
  refine x_aload_n (pc := 2184) (j := 3) hE dL_law_2184 rfl ?_
  refine x_aload_n (pc := 2185) (j := 1) hE dL_law_2185 rfl ?_
  refine x_iload (pc := 2186) (j := 6) hE dL_law_2186 rfl ?_
  refine x_iconst (pc := 2188) hE dL_law_2188 ?_
  refine x_iadd (pc := 2189) hE dL_law_2189 ?_
  refine x_sld (pc := 2190) hE hs dL_law_2190 hA2 (m := i + 1) (by omega) (by omega) ?_
  refine x_aload_n (pc := 2191) (j := 1) hE dL_law_2191 rfl ?_
  refine x_iload (pc := 2192) (j := 6) hE dL_law_2192 rfl ?_
  refine x_iconst (pc := 2194) hE dL_law_2194 ?_
  refine x_iadd (pc := 2195) hE dL_law_2195 ?_
  refine x_sld (pc := 2196) hE hs dL_law_2196 hA2 (m := i + 2) (by omega) (by omega) ?_
  refine x_aload_n (pc := 2197) (j := 1) hE dL_law_2197 rfl ?_
  refine x_iload (pc := 2198) (j := 6) hE dL_law_2198 rfl ?_
  refine x_iconst (pc := 2200) hE dL_law_2200 ?_
  refine x_iadd (pc := 2201) hE dL_law_2201 ?_
  refine x_sld (pc := 2202) hE hs dL_law_2202 hA2 (m := i + 3) (by omega) (by omega) ?_
  refine x_aload_n (pc := 2203) (j := 1) hE dL_law_2203 rfl ?_
  refine x_iload (pc := 2204) (j := 6) hE dL_law_2204 rfl ?_
  refine x_iconst (pc := 2206) hE dL_law_2206 ?_
  refine x_iadd (pc := 2207) hE dL_law_2207 ?_
  refine x_sld (pc := 2208) hE hs dL_law_2208 hA2 (m := i + 4) (by omega) (by omega) ?_
  refine x_cr (pc := 2209) (q := (1, 0)) (as := [xi (sx xs (i + 1)), xi (sx xs (i + 2)), xi (sx xs (i + 3)), xi (sx xs (i + 4))]) (st := []) hE dL_law_2209 pl_X10_wider lk_RL_251 rfl (lvm1 _ (by decide)) rfl rfl (Nat.le_refl _) hk hn (Nat.le_of_ble_eq_true rfl) (hR I1 c1 hC9) ?_
  rintro v J9 ⟨hD9, hF⟩
  obtain ⟨e1, e2⟩ : v = F.1 ∧ J9 (1, 0) 32 = F.2 := ⟨congrArg Prod.fst hF, congrArg Prod.snd hF⟩
  subst e1
  refine x_istore (pc := 2212) (lo9 := [(7, xi F.1), (6, xi F.2), (0, xr (2, 9)), (1, xr (0, 0)), (2, xr (1, 0)), (3, xr (2, 0)), (4, xr (2, 1)), (5, xi (i : Int))]) hE dL_law_2212 (by decide) rfl ?_
  refine x_aload_n (pc := 2214) (j := 4) hE dL_law_2214 rfl ?_
  refine x_cr (pc := 2215) (q := (1, 0)) (as := []) (st := []) hE dL_law_2215 pl_X10_thrown lk_RL_177 rfl (lvm1 _ (by decide)) rfl rfl (Nat.le_refl _) hk hn (Nat.le_of_ble_eq_true rfl) (ok_thrown hX 11) ?_
  rintro t9 J9 ⟨rfl, rfl⟩
  show V 2218 [(7, xi F.1), (6, xi F.2), (0, xr (2, 9)), (1, xr (0, 0)), (2, xr (1, 0)), (3, xr (2, 0)), (4, xr (2, 1)), (5, xi (i : Int))] [xi (J9 (1, 0) 32)] (J9, xst c1) _ _
  rw [e2]
  refine x_iload (pc := 2218) (j := 1) hE dL_law_2218 rfl ?_
  refine x_icmp_same (pc := 2220) (tgt := 2225) hE dL_law_2220 rfl ?_
  refine x_iload (pc := 2225) (j := 1) hE dL_law_2225 rfl ?_
  refine x_in hE (fun hI9 => ?_)
  have hx : xin F.2 := e2 ▸ hI9 (1, 0) 32
  refine x_if_ne (pc := 2227) (tgt := 2242) hE dL_law_2227 rfl hx (fun _ => x_goto (pc := 2242) (tgt := 3918) hE dL_law_2242 rfl (x_loc hE [2, 3, 4, 5, 6, 7] rfl (next _ _ hD9 hA9))) (fun hz0 => ?_)
  refine x_aload_n (pc := 2230) (j := 5) hE dL_law_2230 rfl ?_
  refine x_iconst (pc := 2231) hE dL_law_2231 ?_
  refine x_laload (pc := 2232) (nn := 1) hE dL_law_2232 rfl (lvm2 _ (by decide)) (by decide) (by decide) ?_
  show V 2233 [(7, xi F.1), (6, xi F.2), (0, xr (2, 9)), (1, xr (0, 0)), (2, xr (1, 0)), (3, xr (2, 0)), (4, xr (2, 1)), (5, xi (i : Int))] [xl (c1.2.1 (2, 0) 0)] (J9, xst c1) _ _
  rw [hO hz0]
  refine x_iload (pc := 2233) (j := 0) hE dL_law_2233 rfl ?_
  refine x_i2l (pc := 2235) hE dL_law_2235 ?_
  refine x_lcmp (pc := 2236) hE dL_law_2236 ?_
  rw [lg_same]
  exact x_if_eq (pc := 2237) (tgt := 2242) hE dL_law_2237 rfl (by decide) (fun _ => x_goto (pc := 2242) (tgt := 3918) hE dL_law_2242 rfl (x_loc hE [2, 3, 4, 5, 6, 7] rfl (next _ _ hD9 hA9))) (fun h => absurd rfl h)

set_option maxRecDepth 100000 in
theorem lc_23 {X : xX} (hX : xBase X) {V : xT} {mc ms : Nat} (hE : xEng X m_L_law 12 mc ms V) {b L : Nat} {xs : Nat → Int32} (hs : LSc X b L xs) {c : xCx} {I : xIn} (hA : c.2.2.2 (2, 9) = b) {i : Nat} (hi : i + 7 ≤ L) {k n mc9 ms9 : Nat} (hk : k + mc9 ≤ mc) (hn : n + ms9 ≤ ms) {F : Int × Int} {C9 D9 : xIn → xCx → Prop} (hW : xMet X m_L_without 11 [xr (0, 0), xi (sx xs (i + 1)), xi (sx xs (i + 2)), xi (sx xs (i + 3)), xi (sx xs (i + 4)), xr (2, 0)] (I, xst c) mc9 ms9 (wPost c F.2 (fun c9 => c9.2.1 (2, 0) 0 = (Int32.ofInt F.1).toInt64) C9)) (hR : ∀ I9 c9, C9 I9 c9 → xRet rI X m_X10_without 11 [xr (1, 0), xi (sx xs (i + 1)), xi (sx xs (i + 2)), xi (sx xs (i + 3)), xi (sx xs (i + 4))] c9 I9 0 0 (fun v J => D9 J c9 ∧ (v, J (1, 0) 32) = F) xNo) (next : ∀ J c9, D9 J c9 → (∀ p : xP, p.1 < 3 → c9.2.2.2 p = c.2.2.2 p) → V 3918 [(0, xr (2, 9)), (1, xr (0, 0)), (2, xr (1, 0)), (3, xr (2, 0)), (4, xr (2, 1)), (5, xi (i : Int))] [] (J, xst c9) (k + mc9) (n + ms9)) : V 2245 [(0, xr (2, 9)), (1, xr (0, 0)), (2, xr (1, 0)), (3, xr (2, 0)), (4, xr (2, 1)), (5, xi (i : Int))] [] (I, xst c) k n := by
  refine x_aload_n (pc := 2245) (j := 1) hE dL_law_2245 rfl ?_
  refine x_aload_n (pc := 2246) (j := 0) hE dL_law_2246 rfl ?_
  refine x_iload (pc := 2247) (j := 5) hE dL_law_2247 rfl ?_
  refine x_iconst (pc := 2249) hE dL_law_2249 ?_
  refine x_iadd (pc := 2250) hE dL_law_2250 ?_
  refine x_sld (pc := 2251) hE hs dL_law_2251 hA (m := i + 1) (by omega) (by omega) ?_
  refine x_aload_n (pc := 2252) (j := 0) hE dL_law_2252 rfl ?_
  refine x_iload (pc := 2253) (j := 5) hE dL_law_2253 rfl ?_
  refine x_iconst (pc := 2255) hE dL_law_2255 ?_
  refine x_iadd (pc := 2256) hE dL_law_2256 ?_
  refine x_sld (pc := 2257) hE hs dL_law_2257 hA (m := i + 2) (by omega) (by omega) ?_
  refine x_aload_n (pc := 2258) (j := 0) hE dL_law_2258 rfl ?_
  refine x_iload (pc := 2259) (j := 5) hE dL_law_2259 rfl ?_
  refine x_iconst (pc := 2261) hE dL_law_2261 ?_
  refine x_iadd (pc := 2262) hE dL_law_2262 ?_
  refine x_sld (pc := 2263) hE hs dL_law_2263 hA (m := i + 3) (by omega) (by omega) ?_
  refine x_aload_n (pc := 2264) (j := 0) hE dL_law_2264 rfl ?_
  refine x_iload (pc := 2265) (j := 5) hE dL_law_2265 rfl ?_
  refine x_iconst (pc := 2267) hE dL_law_2267 ?_
  refine x_iadd (pc := 2268) hE dL_law_2268 ?_
  refine x_sld (pc := 2269) hE hs dL_law_2269 hA (m := i + 4) (by omega) (by omega) ?_
  refine x_aload_n (pc := 2270) (j := 3) hE dL_law_2270 rfl ?_
  refine x_cw (pc := 2271) (as := [xr (0, 0), xi (sx xs (i + 1)), xi (sx xs (i + 2)), xi (sx xs (i + 3)), xi (sx xs (i + 4)), xr (2, 0)]) hE hW dL_law_2271 pl_L_without lk_RL_252 rfl (Nat.le_refl _) hk hn rfl ?_
  intro I1 c1 hO hA9 hC9
  have hA2 : c1.2.2.2 (2, 9) = b := (hA9 _ (by decide)).trans hA
  refine x_istore (pc := 2274) (lo9 := [(6, xi F.2), (0, xr (2, 9)), (1, xr (0, 0)), (2, xr (1, 0)), (3, xr (2, 0)), (4, xr (2, 1)), (5, xi (i : Int))]) hE dL_law_2274 (by decide) rfl ?_
  refine x_aload_n (pc := 2276) (j := 3) hE dL_law_2276 rfl ?_
  refine x_aload_n (pc := 2277) (j := 1) hE dL_law_2277 rfl ?_
  refine x_iload (pc := 2278) (j := 6) hE dL_law_2278 rfl ?_
  refine x_iconst (pc := 2280) hE dL_law_2280 ?_
  refine x_iadd (pc := 2281) hE dL_law_2281 ?_
  refine x_sld (pc := 2282) hE hs dL_law_2282 hA2 (m := i + 1) (by omega) (by omega) ?_
  refine x_aload_n (pc := 2283) (j := 1) hE dL_law_2283 rfl ?_
  refine x_iload (pc := 2284) (j := 6) hE dL_law_2284 rfl ?_
  refine x_iconst (pc := 2286) hE dL_law_2286 ?_
  refine x_iadd (pc := 2287) hE dL_law_2287 ?_
  refine x_sld (pc := 2288) hE hs dL_law_2288 hA2 (m := i + 2) (by omega) (by omega) ?_
  refine x_aload_n (pc := 2289) (j := 1) hE dL_law_2289 rfl ?_
  refine x_iload (pc := 2290) (j := 6) hE dL_law_2290 rfl ?_
  refine x_iconst (pc := 2292) hE dL_law_2292 ?_
  refine x_iadd (pc := 2293) hE dL_law_2293 ?_
  refine x_sld (pc := 2294) hE hs dL_law_2294 hA2 (m := i + 3) (by omega) (by omega) ?_
  refine x_aload_n (pc := 2295) (j := 1) hE dL_law_2295 rfl ?_
  refine x_iload (pc := 2296) (j := 6) hE dL_law_2296 rfl ?_
  refine x_iconst (pc := 2298) hE dL_law_2298 ?_
  refine x_iadd (pc := 2299) hE dL_law_2299 ?_
  refine x_sld (pc := 2300) hE hs dL_law_2300 hA2 (m := i + 4) (by omega) (by omega) ?_
  refine x_cr (pc := 2301) (q := (1, 0)) (as := [xi (sx xs (i + 1)), xi (sx xs (i + 2)), xi (sx xs (i + 3)), xi (sx xs (i + 4))]) (st := []) hE dL_law_2301 pl_X10_without lk_RL_254 rfl (lvm1 _ (by decide)) rfl rfl (Nat.le_refl _) hk hn (Nat.le_of_ble_eq_true rfl) (hR I1 c1 hC9) ?_
  rintro v J9 ⟨hD9, hF⟩
  obtain ⟨e1, e2⟩ : v = F.1 ∧ J9 (1, 0) 32 = F.2 := ⟨congrArg Prod.fst hF, congrArg Prod.snd hF⟩
  subst e1
  refine x_istore (pc := 2304) (lo9 := [(7, xi F.1), (6, xi F.2), (0, xr (2, 9)), (1, xr (0, 0)), (2, xr (1, 0)), (3, xr (2, 0)), (4, xr (2, 1)), (5, xi (i : Int))]) hE dL_law_2304 (by decide) rfl ?_
  refine x_aload_n (pc := 2306) (j := 4) hE dL_law_2306 rfl ?_
  refine x_cr (pc := 2307) (q := (1, 0)) (as := []) (st := []) hE dL_law_2307 pl_X10_thrown lk_RL_177 rfl (lvm1 _ (by decide)) rfl rfl (Nat.le_refl _) hk hn (Nat.le_of_ble_eq_true rfl) (ok_thrown hX 11) ?_
  rintro t9 J9 ⟨rfl, rfl⟩
  show V 2310 [(7, xi F.1), (6, xi F.2), (0, xr (2, 9)), (1, xr (0, 0)), (2, xr (1, 0)), (3, xr (2, 0)), (4, xr (2, 1)), (5, xi (i : Int))] [xi (J9 (1, 0) 32)] (J9, xst c1) _ _
  rw [e2]
  refine x_iload (pc := 2310) (j := 1) hE dL_law_2310 rfl ?_
  refine x_icmp_same (pc := 2312) (tgt := 2317) hE dL_law_2312 rfl ?_
  refine x_iload (pc := 2317) (j := 1) hE dL_law_2317 rfl ?_
  refine x_in hE (fun hI9 => ?_)
  have hx : xin F.2 := e2 ▸ hI9 (1, 0) 32
  refine x_if_ne (pc := 2319) (tgt := 2334) hE dL_law_2319 rfl hx (fun _ => x_goto (pc := 2334) (tgt := 3918) hE dL_law_2334 rfl (x_loc hE [2, 3, 4, 5, 6, 7] rfl (next _ _ hD9 hA9))) (fun hz0 => ?_)
  refine x_aload_n (pc := 2322) (j := 5) hE dL_law_2322 rfl ?_
  refine x_iconst (pc := 2323) hE dL_law_2323 ?_
  refine x_laload (pc := 2324) (nn := 1) hE dL_law_2324 rfl (lvm2 _ (by decide)) (by decide) (by decide) ?_
  show V 2325 [(7, xi F.1), (6, xi F.2), (0, xr (2, 9)), (1, xr (0, 0)), (2, xr (1, 0)), (3, xr (2, 0)), (4, xr (2, 1)), (5, xi (i : Int))] [xl (c1.2.1 (2, 0) 0)] (J9, xst c1) _ _
  rw [hO hz0]
  refine x_iload (pc := 2325) (j := 0) hE dL_law_2325 rfl ?_
  refine x_i2l (pc := 2327) hE dL_law_2327 ?_
  refine x_lcmp (pc := 2328) hE dL_law_2328 ?_
  rw [lg_same]
  exact x_if_eq (pc := 2329) (tgt := 2334) hE dL_law_2329 rfl (by decide) (fun _ => x_goto (pc := 2334) (tgt := 3918) hE dL_law_2334 rfl (x_loc hE [2, 3, 4, 5, 6, 7] rfl (next _ _ hD9 hA9))) (fun h => absurd rfl h)

set_option maxRecDepth 100000 in
theorem lc_24 {X : xX} (hX : xBase X) {V : xT} {mc ms : Nat} (hE : xEng X m_L_law 12 mc ms V) {b L : Nat} {xs : Nat → Int32} (hs : LSc X b L xs) {c : xCx} {I : xIn} (hA : c.2.2.2 (2, 9) = b) {i : Nat} (hi : i + 7 ≤ L) {k n mc9 ms9 : Nat} (hk : k + mc9 ≤ mc) (hn : n + ms9 ≤ ms) {F : Bool × Int} {C9 D9 : xIn → xCx → Prop} (hW : xMet X m_L_holds 11 [xr (0, 0), xi (sx xs (i + 1)), xr (2, 0)] (I, xst c) mc9 ms9 (wPost c F.2 (fun c9 => c9.2.1 (2, 0) 0 = blV F.1) C9)) (hR : ∀ I9 c9, C9 I9 c9 → xRet rB X m_X10_holds 11 [xr (1, 0), xi (sx xs (i + 1))] c9 I9 0 0 (fun v J => D9 J c9 ∧ (v, J (1, 0) 32) = F) xNo) (next : ∀ J c9, D9 J c9 → (∀ p : xP, p.1 < 3 → c9.2.2.2 p = c.2.2.2 p) → V 3918 [(0, xr (2, 9)), (1, xr (0, 0)), (2, xr (1, 0)), (3, xr (2, 0)), (4, xr (2, 1)), (5, xi (i : Int))] [] (J, xst c9) (k + mc9) (n + ms9)) : V 2337 [(0, xr (2, 9)), (1, xr (0, 0)), (2, xr (1, 0)), (3, xr (2, 0)), (4, xr (2, 1)), (5, xi (i : Int))] [] (I, xst c) k n := by
  refine x_aload_n (pc := 2337) (j := 1) hE dL_law_2337 rfl ?_
  refine x_aload_n (pc := 2338) (j := 0) hE dL_law_2338 rfl ?_
  refine x_iload (pc := 2339) (j := 5) hE dL_law_2339 rfl ?_
  refine x_iconst (pc := 2341) hE dL_law_2341 ?_
  refine x_iadd (pc := 2342) hE dL_law_2342 ?_
  refine x_sld (pc := 2343) hE hs dL_law_2343 hA (m := i + 1) (by omega) (by omega) ?_
  refine x_aload_n (pc := 2344) (j := 3) hE dL_law_2344 rfl ?_
  refine x_cw (pc := 2345) (as := [xr (0, 0), xi (sx xs (i + 1)), xr (2, 0)]) hE hW dL_law_2345 pl_L_holds lk_RL_255 rfl (Nat.le_refl _) hk hn rfl ?_
  intro I1 c1 hO hA9 hC9
  have hA2 : c1.2.2.2 (2, 9) = b := (hA9 _ (by decide)).trans hA
  refine x_istore (pc := 2348) (lo9 := [(6, xi F.2), (0, xr (2, 9)), (1, xr (0, 0)), (2, xr (1, 0)), (3, xr (2, 0)), (4, xr (2, 1)), (5, xi (i : Int))]) hE dL_law_2348 (by decide) rfl ?_
  refine x_aload_n (pc := 2350) (j := 3) hE dL_law_2350 rfl ?_
  refine x_aload_n (pc := 2351) (j := 1) hE dL_law_2351 rfl ?_
  refine x_iload (pc := 2352) (j := 6) hE dL_law_2352 rfl ?_
  refine x_iconst (pc := 2354) hE dL_law_2354 ?_
  refine x_iadd (pc := 2355) hE dL_law_2355 ?_
  refine x_sld (pc := 2356) hE hs dL_law_2356 hA2 (m := i + 1) (by omega) (by omega) ?_
  refine x_cr (pc := 2357) (q := (1, 0)) (as := [xi (sx xs (i + 1))]) (st := []) hE dL_law_2357 pl_X10_holds lk_RL_257 rfl (lvm1 _ (by decide)) rfl rfl (Nat.le_refl _) hk hn (Nat.le_of_ble_eq_true rfl) (hR I1 c1 hC9) ?_
  rintro v J9 ⟨hD9, hF⟩
  obtain ⟨e1, e2⟩ : v = F.1 ∧ J9 (1, 0) 32 = F.2 := ⟨congrArg Prod.fst hF, congrArg Prod.snd hF⟩
  subst e1
  refine x_istore (pc := 2360) (lo9 := [(7, xi (xbi F.1)), (6, xi F.2), (0, xr (2, 9)), (1, xr (0, 0)), (2, xr (1, 0)), (3, xr (2, 0)), (4, xr (2, 1)), (5, xi (i : Int))]) hE dL_law_2360 (by decide) rfl ?_
  refine x_aload_n (pc := 2362) (j := 4) hE dL_law_2362 rfl ?_
  refine x_cr (pc := 2363) (q := (1, 0)) (as := []) (st := []) hE dL_law_2363 pl_X10_thrown lk_RL_177 rfl (lvm1 _ (by decide)) rfl rfl (Nat.le_refl _) hk hn (Nat.le_of_ble_eq_true rfl) (ok_thrown hX 11) ?_
  rintro t9 J9 ⟨rfl, rfl⟩
  show V 2366 [(7, xi (xbi F.1)), (6, xi F.2), (0, xr (2, 9)), (1, xr (0, 0)), (2, xr (1, 0)), (3, xr (2, 0)), (4, xr (2, 1)), (5, xi (i : Int))] [xi (J9 (1, 0) 32)] (J9, xst c1) _ _
  rw [e2]
  refine x_iload (pc := 2366) (j := 1) hE dL_law_2366 rfl ?_
  refine x_icmp_same (pc := 2368) (tgt := 2373) hE dL_law_2368 rfl ?_
  refine x_iload (pc := 2373) (j := 1) hE dL_law_2373 rfl ?_
  refine x_in hE (fun hI9 => ?_)
  have hx : xin F.2 := e2 ▸ hI9 (1, 0) 32
  refine x_if_ne (pc := 2375) (tgt := 2397) hE dL_law_2375 rfl hx (fun _ => x_goto (pc := 2397) (tgt := 3918) hE dL_law_2397 rfl (x_loc hE [2, 3, 4, 5, 6, 7] rfl (next _ _ hD9 hA9))) (fun hz0 => ?_)
  refine x_aload_n (pc := 2378) (j := 5) hE dL_law_2378 rfl ?_
  refine x_iconst (pc := 2379) hE dL_law_2379 ?_
  refine x_laload (pc := 2380) (nn := 1) hE dL_law_2380 rfl (lvm2 _ (by decide)) (by decide) (by decide) ?_
  show V 2381 [(7, xi (xbi F.1)), (6, xi F.2), (0, xr (2, 9)), (1, xr (0, 0)), (2, xr (1, 0)), (3, xr (2, 0)), (4, xr (2, 1)), (5, xi (i : Int))] [xl (c1.2.1 (2, 0) 0)] (J9, xst c1) _ _
  rw [hO hz0]
  refine x_iload (pc := 2381) (j := 0) hE dL_law_2381 rfl ?_
  have hb9 : ∀ st9, (F.1 = false → V 2391 [(7, xi (xbi F.1)), (6, xi F.2), (0, xr (2, 9)), (1, xr (0, 0)), (2, xr (1, 0)), (3, xr (2, 0)), (4, xr (2, 1)), (5, xi (i : Int))] (xl (Int64.ofNat ((0 : Fin 2) : Nat)) :: st9) (J9, xst c1) (k + mc9) (n + ms9)) → True := fun _ _ => trivial
  suffices hS9 : V 2391 [(7, xi (xbi F.1)), (6, xi F.2), (0, xr (2, 9)), (1, xr (0, 0)), (2, xr (1, 0)), (3, xr (2, 0)), (4, xr (2, 1)), (5, xi (i : Int))] [xl (blV F.1), xl (blV F.1)] (J9, xst c1) (k + mc9) (n + ms9) from ?_
  · refine x_ifb_eq (pc := 2383) (tgt := 2390) hE dL_law_2383 rfl (fun hb => ?_) (fun hb => ?_)
    · rw [hb] at hS9 ⊢
      exact x_lconst (pc := 2390) hE dL_law_2390 hS9
    · rw [hb] at hS9 ⊢
      exact x_lconst (pc := 2386) hE dL_law_2386 (x_goto (pc := 2387) (tgt := 2391) hE dL_law_2387 rfl hS9)
  refine x_lcmp (pc := 2391) hE dL_law_2391 ?_
  rw [lg_same]
  exact x_if_eq (pc := 2392) (tgt := 2397) hE dL_law_2392 rfl (by decide) (fun _ => x_goto (pc := 2397) (tgt := 3918) hE dL_law_2397 rfl (x_loc hE [2, 3, 4, 5, 6, 7] rfl (next _ _ hD9 hA9))) (fun h => absurd rfl h)

set_option maxRecDepth 100000 in
theorem lc_25 {X : xX} (hX : xBase X) {V : xT} {mc ms : Nat} (hE : xEng X m_L_law 12 mc ms V) {b L : Nat} {xs : Nat → Int32} (hs : LSc X b L xs) {c : xCx} {I : xIn} (hA : c.2.2.2 (2, 9) = b) {i : Nat} (hi : i + 7 ≤ L) {k n mc9 ms9 : Nat} (hk : k + mc9 ≤ mc) (hn : n + ms9 ≤ ms) {F : Int × Int} {C9 D9 : xIn → xCx → Prop} (hW : xMet X m_L_meets 11 [xr (0, 0), xi (sx xs (i + 1)), xi (sx xs (i + 2)), xr (2, 0)] (I, xst c) mc9 ms9 (wPost c F.2 (fun c9 => c9.2.1 (2, 0) 0 = (Int32.ofInt F.1).toInt64) C9)) (hR : ∀ I9 c9, C9 I9 c9 → xRet rI X m_X10_meets 11 [xr (1, 0), xi (sx xs (i + 1)), xi (sx xs (i + 2))] c9 I9 0 0 (fun v J => D9 J c9 ∧ (v, J (1, 0) 32) = F) xNo) (next : ∀ J c9, D9 J c9 → (∀ p : xP, p.1 < 3 → c9.2.2.2 p = c.2.2.2 p) → V 3918 [(0, xr (2, 9)), (1, xr (0, 0)), (2, xr (1, 0)), (3, xr (2, 0)), (4, xr (2, 1)), (5, xi (i : Int))] [] (J, xst c9) (k + mc9) (n + ms9)) : V 2400 [(0, xr (2, 9)), (1, xr (0, 0)), (2, xr (1, 0)), (3, xr (2, 0)), (4, xr (2, 1)), (5, xi (i : Int))] [] (I, xst c) k n := by
  refine x_aload_n (pc := 2400) (j := 1) hE dL_law_2400 rfl ?_
  refine x_aload_n (pc := 2401) (j := 0) hE dL_law_2401 rfl ?_
  refine x_iload (pc := 2402) (j := 5) hE dL_law_2402 rfl ?_
  refine x_iconst (pc := 2404) hE dL_law_2404 ?_
  refine x_iadd (pc := 2405) hE dL_law_2405 ?_
  refine x_sld (pc := 2406) hE hs dL_law_2406 hA (m := i + 1) (by omega) (by omega) ?_
  refine x_aload_n (pc := 2407) (j := 0) hE dL_law_2407 rfl ?_
  refine x_iload (pc := 2408) (j := 5) hE dL_law_2408 rfl ?_
  refine x_iconst (pc := 2410) hE dL_law_2410 ?_
  refine x_iadd (pc := 2411) hE dL_law_2411 ?_
  refine x_sld (pc := 2412) hE hs dL_law_2412 hA (m := i + 2) (by omega) (by omega) ?_
  refine x_aload_n (pc := 2413) (j := 3) hE dL_law_2413 rfl ?_
  refine x_cw (pc := 2414) (as := [xr (0, 0), xi (sx xs (i + 1)), xi (sx xs (i + 2)), xr (2, 0)]) hE hW dL_law_2414 pl_L_meets lk_RL_258 rfl (Nat.le_refl _) hk hn rfl ?_
  intro I1 c1 hO hA9 hC9
  have hA2 : c1.2.2.2 (2, 9) = b := (hA9 _ (by decide)).trans hA
  refine x_istore (pc := 2417) (lo9 := [(6, xi F.2), (0, xr (2, 9)), (1, xr (0, 0)), (2, xr (1, 0)), (3, xr (2, 0)), (4, xr (2, 1)), (5, xi (i : Int))]) hE dL_law_2417 (by decide) rfl ?_
  refine x_aload_n (pc := 2419) (j := 3) hE dL_law_2419 rfl ?_
  refine x_aload_n (pc := 2420) (j := 1) hE dL_law_2420 rfl ?_
  refine x_iload (pc := 2421) (j := 6) hE dL_law_2421 rfl ?_
  refine x_iconst (pc := 2423) hE dL_law_2423 ?_
  refine x_iadd (pc := 2424) hE dL_law_2424 ?_
  refine x_sld (pc := 2425) hE hs dL_law_2425 hA2 (m := i + 1) (by omega) (by omega) ?_
  refine x_aload_n (pc := 2426) (j := 1) hE dL_law_2426 rfl ?_
  refine x_iload (pc := 2427) (j := 6) hE dL_law_2427 rfl ?_
  refine x_iconst (pc := 2429) hE dL_law_2429 ?_
  refine x_iadd (pc := 2430) hE dL_law_2430 ?_
  refine x_sld (pc := 2431) hE hs dL_law_2431 hA2 (m := i + 2) (by omega) (by omega) ?_
  refine x_cr (pc := 2432) (q := (1, 0)) (as := [xi (sx xs (i + 1)), xi (sx xs (i + 2))]) (st := []) hE dL_law_2432 pl_X10_meets lk_RL_260 rfl (lvm1 _ (by decide)) rfl rfl (Nat.le_refl _) hk hn (Nat.le_of_ble_eq_true rfl) (hR I1 c1 hC9) ?_
  rintro v J9 ⟨hD9, hF⟩
  obtain ⟨e1, e2⟩ : v = F.1 ∧ J9 (1, 0) 32 = F.2 := ⟨congrArg Prod.fst hF, congrArg Prod.snd hF⟩
  subst e1
  refine x_istore (pc := 2435) (lo9 := [(7, xi F.1), (6, xi F.2), (0, xr (2, 9)), (1, xr (0, 0)), (2, xr (1, 0)), (3, xr (2, 0)), (4, xr (2, 1)), (5, xi (i : Int))]) hE dL_law_2435 (by decide) rfl ?_
  refine x_aload_n (pc := 2437) (j := 4) hE dL_law_2437 rfl ?_
  refine x_cr (pc := 2438) (q := (1, 0)) (as := []) (st := []) hE dL_law_2438 pl_X10_thrown lk_RL_177 rfl (lvm1 _ (by decide)) rfl rfl (Nat.le_refl _) hk hn (Nat.le_of_ble_eq_true rfl) (ok_thrown hX 11) ?_
  rintro t9 J9 ⟨rfl, rfl⟩
  show V 2441 [(7, xi F.1), (6, xi F.2), (0, xr (2, 9)), (1, xr (0, 0)), (2, xr (1, 0)), (3, xr (2, 0)), (4, xr (2, 1)), (5, xi (i : Int))] [xi (J9 (1, 0) 32)] (J9, xst c1) _ _
  rw [e2]
  refine x_iload (pc := 2441) (j := 1) hE dL_law_2441 rfl ?_
  refine x_icmp_same (pc := 2443) (tgt := 2448) hE dL_law_2443 rfl ?_
  refine x_iload (pc := 2448) (j := 1) hE dL_law_2448 rfl ?_
  refine x_in hE (fun hI9 => ?_)
  have hx : xin F.2 := e2 ▸ hI9 (1, 0) 32
  refine x_if_ne (pc := 2450) (tgt := 2465) hE dL_law_2450 rfl hx (fun _ => x_goto (pc := 2465) (tgt := 3918) hE dL_law_2465 rfl (x_loc hE [2, 3, 4, 5, 6, 7] rfl (next _ _ hD9 hA9))) (fun hz0 => ?_)
  refine x_aload_n (pc := 2453) (j := 5) hE dL_law_2453 rfl ?_
  refine x_iconst (pc := 2454) hE dL_law_2454 ?_
  refine x_laload (pc := 2455) (nn := 1) hE dL_law_2455 rfl (lvm2 _ (by decide)) (by decide) (by decide) ?_
  show V 2456 [(7, xi F.1), (6, xi F.2), (0, xr (2, 9)), (1, xr (0, 0)), (2, xr (1, 0)), (3, xr (2, 0)), (4, xr (2, 1)), (5, xi (i : Int))] [xl (c1.2.1 (2, 0) 0)] (J9, xst c1) _ _
  rw [hO hz0]
  refine x_iload (pc := 2456) (j := 0) hE dL_law_2456 rfl ?_
  refine x_i2l (pc := 2458) hE dL_law_2458 ?_
  refine x_lcmp (pc := 2459) hE dL_law_2459 ?_
  rw [lg_same]
  exact x_if_eq (pc := 2460) (tgt := 2465) hE dL_law_2460 rfl (by decide) (fun _ => x_goto (pc := 2465) (tgt := 3918) hE dL_law_2465 rfl (x_loc hE [2, 3, 4, 5, 6, 7] rfl (next _ _ hD9 hA9))) (fun h => absurd rfl h)

set_option maxRecDepth 100000 in
theorem lc_26 {X : xX} (hX : xBase X) {V : xT} {mc ms : Nat} (hE : xEng X m_L_law 12 mc ms V) {b L : Nat} {xs : Nat → Int32} (hs : LSc X b L xs) {c : xCx} {I : xIn} (hA : c.2.2.2 (2, 9) = b) {i : Nat} (hi : i + 7 ≤ L) {k n mc9 ms9 : Nat} (hk : k + mc9 ≤ mc) (hn : n + ms9 ≤ ms) {F : Int × Int} {C9 D9 : xIn → xCx → Prop} (hW : xMet X m_L_breaks 11 [xr (0, 0), xi (sx xs (i + 1)), xr (2, 0)] (I, xst c) mc9 ms9 (wPost c F.2 (fun c9 => c9.2.1 (2, 0) 0 = (Int32.ofInt F.1).toInt64) C9)) (hR : ∀ I9 c9, C9 I9 c9 → xRet rI X m_X10_breaks 11 [xr (1, 0), xi (sx xs (i + 1))] c9 I9 0 0 (fun v J => D9 J c9 ∧ (v, J (1, 0) 32) = F) xNo) (next : ∀ J c9, D9 J c9 → (∀ p : xP, p.1 < 3 → c9.2.2.2 p = c.2.2.2 p) → V 3918 [(0, xr (2, 9)), (1, xr (0, 0)), (2, xr (1, 0)), (3, xr (2, 0)), (4, xr (2, 1)), (5, xi (i : Int))] [] (J, xst c9) (k + mc9) (n + ms9)) : V 2468 [(0, xr (2, 9)), (1, xr (0, 0)), (2, xr (1, 0)), (3, xr (2, 0)), (4, xr (2, 1)), (5, xi (i : Int))] [] (I, xst c) k n := by
  refine x_aload_n (pc := 2468) (j := 1) hE dL_law_2468 rfl ?_
  refine x_aload_n (pc := 2469) (j := 0) hE dL_law_2469 rfl ?_
  refine x_iload (pc := 2470) (j := 5) hE dL_law_2470 rfl ?_
  refine x_iconst (pc := 2472) hE dL_law_2472 ?_
  refine x_iadd (pc := 2473) hE dL_law_2473 ?_
  refine x_sld (pc := 2474) hE hs dL_law_2474 hA (m := i + 1) (by omega) (by omega) ?_
  refine x_aload_n (pc := 2475) (j := 3) hE dL_law_2475 rfl ?_
  refine x_cw (pc := 2476) (as := [xr (0, 0), xi (sx xs (i + 1)), xr (2, 0)]) hE hW dL_law_2476 pl_L_breaks lk_RL_261 rfl (Nat.le_refl _) hk hn rfl ?_
  intro I1 c1 hO hA9 hC9
  have hA2 : c1.2.2.2 (2, 9) = b := (hA9 _ (by decide)).trans hA
  refine x_istore (pc := 2479) (lo9 := [(6, xi F.2), (0, xr (2, 9)), (1, xr (0, 0)), (2, xr (1, 0)), (3, xr (2, 0)), (4, xr (2, 1)), (5, xi (i : Int))]) hE dL_law_2479 (by decide) rfl ?_
  refine x_aload_n (pc := 2481) (j := 3) hE dL_law_2481 rfl ?_
  refine x_aload_n (pc := 2482) (j := 1) hE dL_law_2482 rfl ?_
  refine x_iload (pc := 2483) (j := 6) hE dL_law_2483 rfl ?_
  refine x_iconst (pc := 2485) hE dL_law_2485 ?_
  refine x_iadd (pc := 2486) hE dL_law_2486 ?_
  refine x_sld (pc := 2487) hE hs dL_law_2487 hA2 (m := i + 1) (by omega) (by omega) ?_
  refine x_cr (pc := 2488) (q := (1, 0)) (as := [xi (sx xs (i + 1))]) (st := []) hE dL_law_2488 pl_X10_breaks lk_RL_263 rfl (lvm1 _ (by decide)) rfl rfl (Nat.le_refl _) hk hn (Nat.le_of_ble_eq_true rfl) (hR I1 c1 hC9) ?_
  rintro v J9 ⟨hD9, hF⟩
  obtain ⟨e1, e2⟩ : v = F.1 ∧ J9 (1, 0) 32 = F.2 := ⟨congrArg Prod.fst hF, congrArg Prod.snd hF⟩
  subst e1
  refine x_istore (pc := 2491) (lo9 := [(7, xi F.1), (6, xi F.2), (0, xr (2, 9)), (1, xr (0, 0)), (2, xr (1, 0)), (3, xr (2, 0)), (4, xr (2, 1)), (5, xi (i : Int))]) hE dL_law_2491 (by decide) rfl ?_
  refine x_aload_n (pc := 2493) (j := 4) hE dL_law_2493 rfl ?_
  refine x_cr (pc := 2494) (q := (1, 0)) (as := []) (st := []) hE dL_law_2494 pl_X10_thrown lk_RL_177 rfl (lvm1 _ (by decide)) rfl rfl (Nat.le_refl _) hk hn (Nat.le_of_ble_eq_true rfl) (ok_thrown hX 11) ?_
  rintro t9 J9 ⟨rfl, rfl⟩
  show V 2497 [(7, xi F.1), (6, xi F.2), (0, xr (2, 9)), (1, xr (0, 0)), (2, xr (1, 0)), (3, xr (2, 0)), (4, xr (2, 1)), (5, xi (i : Int))] [xi (J9 (1, 0) 32)] (J9, xst c1) _ _
  rw [e2]
  refine x_iload (pc := 2497) (j := 1) hE dL_law_2497 rfl ?_
  refine x_icmp_same (pc := 2499) (tgt := 2504) hE dL_law_2499 rfl ?_
  refine x_iload (pc := 2504) (j := 1) hE dL_law_2504 rfl ?_
  refine x_in hE (fun hI9 => ?_)
  have hx : xin F.2 := e2 ▸ hI9 (1, 0) 32
  refine x_if_ne (pc := 2506) (tgt := 2521) hE dL_law_2506 rfl hx (fun _ => x_goto (pc := 2521) (tgt := 3918) hE dL_law_2521 rfl (x_loc hE [2, 3, 4, 5, 6, 7] rfl (next _ _ hD9 hA9))) (fun hz0 => ?_)
  refine x_aload_n (pc := 2509) (j := 5) hE dL_law_2509 rfl ?_
  refine x_iconst (pc := 2510) hE dL_law_2510 ?_
  refine x_laload (pc := 2511) (nn := 1) hE dL_law_2511 rfl (lvm2 _ (by decide)) (by decide) (by decide) ?_
  show V 2512 [(7, xi F.1), (6, xi F.2), (0, xr (2, 9)), (1, xr (0, 0)), (2, xr (1, 0)), (3, xr (2, 0)), (4, xr (2, 1)), (5, xi (i : Int))] [xl (c1.2.1 (2, 0) 0)] (J9, xst c1) _ _
  rw [hO hz0]
  refine x_iload (pc := 2512) (j := 0) hE dL_law_2512 rfl ?_
  refine x_i2l (pc := 2514) hE dL_law_2514 ?_
  refine x_lcmp (pc := 2515) hE dL_law_2515 ?_
  rw [lg_same]
  exact x_if_eq (pc := 2516) (tgt := 2521) hE dL_law_2516 rfl (by decide) (fun _ => x_goto (pc := 2521) (tgt := 3918) hE dL_law_2521 rfl (x_loc hE [2, 3, 4, 5, 6, 7] rfl (next _ _ hD9 hA9))) (fun h => absurd rfl h)

set_option maxRecDepth 100000 in
theorem lc_27 {X : xX} (hX : xBase X) {V : xT} {mc ms : Nat} (hE : xEng X m_L_law 12 mc ms V) {b L : Nat} {xs : Nat → Int32} (hs : LSc X b L xs) {c : xCx} {I : xIn} (hA : c.2.2.2 (2, 9) = b) {i : Nat} (hi : i + 7 ≤ L) {k n mc9 ms9 : Nat} (hk : k + mc9 ≤ mc) (hn : n + ms9 ≤ ms) {F : Int × Int} {C9 D9 : xIn → xCx → Prop} (hW : xMet X m_L_parent 11 [xr (0, 0), xi (sx xs (i + 1)), xi (sx xs (i + 2)), xr (2, 0)] (I, xst c) mc9 ms9 (wPost c F.2 (fun c9 => c9.2.1 (2, 0) 0 = (Int32.ofInt F.1).toInt64) C9)) (hR : ∀ I9 c9, C9 I9 c9 → xRet rI X m_X10_parent 11 [xr (1, 0), xi (sx xs (i + 1)), xi (sx xs (i + 2))] c9 I9 0 0 (fun v J => D9 J c9 ∧ (v, J (1, 0) 32) = F) xNo) (next : ∀ J c9, D9 J c9 → (∀ p : xP, p.1 < 3 → c9.2.2.2 p = c.2.2.2 p) → V 3918 [(0, xr (2, 9)), (1, xr (0, 0)), (2, xr (1, 0)), (3, xr (2, 0)), (4, xr (2, 1)), (5, xi (i : Int))] [] (J, xst c9) (k + mc9) (n + ms9)) : V 2524 [(0, xr (2, 9)), (1, xr (0, 0)), (2, xr (1, 0)), (3, xr (2, 0)), (4, xr (2, 1)), (5, xi (i : Int))] [] (I, xst c) k n := by
  refine x_aload_n (pc := 2524) (j := 1) hE dL_law_2524 rfl ?_
  refine x_aload_n (pc := 2525) (j := 0) hE dL_law_2525 rfl ?_
  refine x_iload (pc := 2526) (j := 5) hE dL_law_2526 rfl ?_
  refine x_iconst (pc := 2528) hE dL_law_2528 ?_
  refine x_iadd (pc := 2529) hE dL_law_2529 ?_
  refine x_sld (pc := 2530) hE hs dL_law_2530 hA (m := i + 1) (by omega) (by omega) ?_
  refine x_aload_n (pc := 2531) (j := 0) hE dL_law_2531 rfl ?_
  refine x_iload (pc := 2532) (j := 5) hE dL_law_2532 rfl ?_
  refine x_iconst (pc := 2534) hE dL_law_2534 ?_
  refine x_iadd (pc := 2535) hE dL_law_2535 ?_
  refine x_sld (pc := 2536) hE hs dL_law_2536 hA (m := i + 2) (by omega) (by omega) ?_
  refine x_aload_n (pc := 2537) (j := 3) hE dL_law_2537 rfl ?_
  refine x_cw (pc := 2538) (as := [xr (0, 0), xi (sx xs (i + 1)), xi (sx xs (i + 2)), xr (2, 0)]) hE hW dL_law_2538 pl_L_parent lk_RL_264 rfl (Nat.le_refl _) hk hn rfl ?_
  intro I1 c1 hO hA9 hC9
  have hA2 : c1.2.2.2 (2, 9) = b := (hA9 _ (by decide)).trans hA
  refine x_istore (pc := 2541) (lo9 := [(6, xi F.2), (0, xr (2, 9)), (1, xr (0, 0)), (2, xr (1, 0)), (3, xr (2, 0)), (4, xr (2, 1)), (5, xi (i : Int))]) hE dL_law_2541 (by decide) rfl ?_
  refine x_aload_n (pc := 2543) (j := 3) hE dL_law_2543 rfl ?_
  refine x_aload_n (pc := 2544) (j := 1) hE dL_law_2544 rfl ?_
  refine x_iload (pc := 2545) (j := 6) hE dL_law_2545 rfl ?_
  refine x_iconst (pc := 2547) hE dL_law_2547 ?_
  refine x_iadd (pc := 2548) hE dL_law_2548 ?_
  refine x_sld (pc := 2549) hE hs dL_law_2549 hA2 (m := i + 1) (by omega) (by omega) ?_
  refine x_aload_n (pc := 2550) (j := 1) hE dL_law_2550 rfl ?_
  refine x_iload (pc := 2551) (j := 6) hE dL_law_2551 rfl ?_
  refine x_iconst (pc := 2553) hE dL_law_2553 ?_
  refine x_iadd (pc := 2554) hE dL_law_2554 ?_
  refine x_sld (pc := 2555) hE hs dL_law_2555 hA2 (m := i + 2) (by omega) (by omega) ?_
  refine x_cr (pc := 2556) (q := (1, 0)) (as := [xi (sx xs (i + 1)), xi (sx xs (i + 2))]) (st := []) hE dL_law_2556 pl_X10_parent lk_RL_266 rfl (lvm1 _ (by decide)) rfl rfl (Nat.le_refl _) hk hn (Nat.le_of_ble_eq_true rfl) (hR I1 c1 hC9) ?_
  rintro v J9 ⟨hD9, hF⟩
  obtain ⟨e1, e2⟩ : v = F.1 ∧ J9 (1, 0) 32 = F.2 := ⟨congrArg Prod.fst hF, congrArg Prod.snd hF⟩
  subst e1
  refine x_istore (pc := 2559) (lo9 := [(7, xi F.1), (6, xi F.2), (0, xr (2, 9)), (1, xr (0, 0)), (2, xr (1, 0)), (3, xr (2, 0)), (4, xr (2, 1)), (5, xi (i : Int))]) hE dL_law_2559 (by decide) rfl ?_
  refine x_aload_n (pc := 2561) (j := 4) hE dL_law_2561 rfl ?_
  refine x_cr (pc := 2562) (q := (1, 0)) (as := []) (st := []) hE dL_law_2562 pl_X10_thrown lk_RL_177 rfl (lvm1 _ (by decide)) rfl rfl (Nat.le_refl _) hk hn (Nat.le_of_ble_eq_true rfl) (ok_thrown hX 11) ?_
  rintro t9 J9 ⟨rfl, rfl⟩
  show V 2565 [(7, xi F.1), (6, xi F.2), (0, xr (2, 9)), (1, xr (0, 0)), (2, xr (1, 0)), (3, xr (2, 0)), (4, xr (2, 1)), (5, xi (i : Int))] [xi (J9 (1, 0) 32)] (J9, xst c1) _ _
  rw [e2]
  refine x_iload (pc := 2565) (j := 1) hE dL_law_2565 rfl ?_
  refine x_icmp_same (pc := 2567) (tgt := 2572) hE dL_law_2567 rfl ?_
  refine x_iload (pc := 2572) (j := 1) hE dL_law_2572 rfl ?_
  refine x_in hE (fun hI9 => ?_)
  have hx : xin F.2 := e2 ▸ hI9 (1, 0) 32
  refine x_if_ne (pc := 2574) (tgt := 2589) hE dL_law_2574 rfl hx (fun _ => x_goto (pc := 2589) (tgt := 3918) hE dL_law_2589 rfl (x_loc hE [2, 3, 4, 5, 6, 7] rfl (next _ _ hD9 hA9))) (fun hz0 => ?_)
  refine x_aload_n (pc := 2577) (j := 5) hE dL_law_2577 rfl ?_
  refine x_iconst (pc := 2578) hE dL_law_2578 ?_
  refine x_laload (pc := 2579) (nn := 1) hE dL_law_2579 rfl (lvm2 _ (by decide)) (by decide) (by decide) ?_
  show V 2580 [(7, xi F.1), (6, xi F.2), (0, xr (2, 9)), (1, xr (0, 0)), (2, xr (1, 0)), (3, xr (2, 0)), (4, xr (2, 1)), (5, xi (i : Int))] [xl (c1.2.1 (2, 0) 0)] (J9, xst c1) _ _
  rw [hO hz0]
  refine x_iload (pc := 2580) (j := 0) hE dL_law_2580 rfl ?_
  refine x_i2l (pc := 2582) hE dL_law_2582 ?_
  refine x_lcmp (pc := 2583) hE dL_law_2583 ?_
  rw [lg_same]
  exact x_if_eq (pc := 2584) (tgt := 2589) hE dL_law_2584 rfl (by decide) (fun _ => x_goto (pc := 2589) (tgt := 3918) hE dL_law_2589 rfl (x_loc hE [2, 3, 4, 5, 6, 7] rfl (next _ _ hD9 hA9))) (fun h => absurd rfl h)

set_option maxRecDepth 100000 in
theorem lc_28 {X : xX} (hX : xBase X) {V : xT} {mc ms : Nat} (hE : xEng X m_L_law 12 mc ms V) {b L : Nat} {xs : Nat → Int32} (hs : LSc X b L xs) {c : xCx} {I : xIn} (hA : c.2.2.2 (2, 9) = b) {i : Nat} (hi : i + 7 ≤ L) {k n mc9 ms9 : Nat} (hk : k + mc9 ≤ mc) (hn : n + ms9 ≤ ms) {F : Int × Int} {C9 D9 : xIn → xCx → Prop} (hW : xMet X m_L_between 11 [xr (0, 0), xi (sx xs (i + 1)), xi (sx xs (i + 2)), xi (sx xs (i + 3)), xr (2, 0)] (I, xst c) mc9 ms9 (wPost c F.2 (fun c9 => c9.2.1 (2, 0) 0 = (Int32.ofInt F.1).toInt64) C9)) (hR : ∀ I9 c9, C9 I9 c9 → xRet rI X m_X10_between 11 [xr (1, 0), xi (sx xs (i + 1)), xi (sx xs (i + 2)), xi (sx xs (i + 3))] c9 I9 0 0 (fun v J => D9 J c9 ∧ (v, J (1, 0) 32) = F) xNo) (next : ∀ J c9, D9 J c9 → (∀ p : xP, p.1 < 3 → c9.2.2.2 p = c.2.2.2 p) → V 3918 [(0, xr (2, 9)), (1, xr (0, 0)), (2, xr (1, 0)), (3, xr (2, 0)), (4, xr (2, 1)), (5, xi (i : Int))] [] (J, xst c9) (k + mc9) (n + ms9)) : V 2592 [(0, xr (2, 9)), (1, xr (0, 0)), (2, xr (1, 0)), (3, xr (2, 0)), (4, xr (2, 1)), (5, xi (i : Int))] [] (I, xst c) k n := by
  refine x_aload_n (pc := 2592) (j := 1) hE dL_law_2592 rfl ?_
  refine x_aload_n (pc := 2593) (j := 0) hE dL_law_2593 rfl ?_
  refine x_iload (pc := 2594) (j := 5) hE dL_law_2594 rfl ?_
  refine x_iconst (pc := 2596) hE dL_law_2596 ?_
  refine x_iadd (pc := 2597) hE dL_law_2597 ?_
  refine x_sld (pc := 2598) hE hs dL_law_2598 hA (m := i + 1) (by omega) (by omega) ?_
  refine x_aload_n (pc := 2599) (j := 0) hE dL_law_2599 rfl ?_
  refine x_iload (pc := 2600) (j := 5) hE dL_law_2600 rfl ?_
  refine x_iconst (pc := 2602) hE dL_law_2602 ?_
  refine x_iadd (pc := 2603) hE dL_law_2603 ?_
  refine x_sld (pc := 2604) hE hs dL_law_2604 hA (m := i + 2) (by omega) (by omega) ?_
  refine x_aload_n (pc := 2605) (j := 0) hE dL_law_2605 rfl ?_
  refine x_iload (pc := 2606) (j := 5) hE dL_law_2606 rfl ?_
  refine x_iconst (pc := 2608) hE dL_law_2608 ?_
  refine x_iadd (pc := 2609) hE dL_law_2609 ?_
  refine x_sld (pc := 2610) hE hs dL_law_2610 hA (m := i + 3) (by omega) (by omega) ?_
  refine x_aload_n (pc := 2611) (j := 3) hE dL_law_2611 rfl ?_
  refine x_cw (pc := 2612) (as := [xr (0, 0), xi (sx xs (i + 1)), xi (sx xs (i + 2)), xi (sx xs (i + 3)), xr (2, 0)]) hE hW dL_law_2612 pl_L_between lk_RL_267 rfl (Nat.le_refl _) hk hn rfl ?_
  intro I1 c1 hO hA9 hC9
  have hA2 : c1.2.2.2 (2, 9) = b := (hA9 _ (by decide)).trans hA
  refine x_istore (pc := 2615) (lo9 := [(6, xi F.2), (0, xr (2, 9)), (1, xr (0, 0)), (2, xr (1, 0)), (3, xr (2, 0)), (4, xr (2, 1)), (5, xi (i : Int))]) hE dL_law_2615 (by decide) rfl ?_
  refine x_aload_n (pc := 2617) (j := 3) hE dL_law_2617 rfl ?_
  refine x_aload_n (pc := 2618) (j := 1) hE dL_law_2618 rfl ?_
  refine x_iload (pc := 2619) (j := 6) hE dL_law_2619 rfl ?_
  refine x_iconst (pc := 2621) hE dL_law_2621 ?_
  refine x_iadd (pc := 2622) hE dL_law_2622 ?_
  refine x_sld (pc := 2623) hE hs dL_law_2623 hA2 (m := i + 1) (by omega) (by omega) ?_
  refine x_aload_n (pc := 2624) (j := 1) hE dL_law_2624 rfl ?_
  refine x_iload (pc := 2625) (j := 6) hE dL_law_2625 rfl ?_
  refine x_iconst (pc := 2627) hE dL_law_2627 ?_
  refine x_iadd (pc := 2628) hE dL_law_2628 ?_
  refine x_sld (pc := 2629) hE hs dL_law_2629 hA2 (m := i + 2) (by omega) (by omega) ?_
  refine x_aload_n (pc := 2630) (j := 1) hE dL_law_2630 rfl ?_
  refine x_iload (pc := 2631) (j := 6) hE dL_law_2631 rfl ?_
  refine x_iconst (pc := 2633) hE dL_law_2633 ?_
  refine x_iadd (pc := 2634) hE dL_law_2634 ?_
  refine x_sld (pc := 2635) hE hs dL_law_2635 hA2 (m := i + 3) (by omega) (by omega) ?_
  refine x_cr (pc := 2636) (q := (1, 0)) (as := [xi (sx xs (i + 1)), xi (sx xs (i + 2)), xi (sx xs (i + 3))]) (st := []) hE dL_law_2636 pl_X10_between lk_RL_269 rfl (lvm1 _ (by decide)) rfl rfl (Nat.le_refl _) hk hn (Nat.le_of_ble_eq_true rfl) (hR I1 c1 hC9) ?_
  rintro v J9 ⟨hD9, hF⟩
  obtain ⟨e1, e2⟩ : v = F.1 ∧ J9 (1, 0) 32 = F.2 := ⟨congrArg Prod.fst hF, congrArg Prod.snd hF⟩
  subst e1
  refine x_istore (pc := 2639) (lo9 := [(7, xi F.1), (6, xi F.2), (0, xr (2, 9)), (1, xr (0, 0)), (2, xr (1, 0)), (3, xr (2, 0)), (4, xr (2, 1)), (5, xi (i : Int))]) hE dL_law_2639 (by decide) rfl ?_
  refine x_aload_n (pc := 2641) (j := 4) hE dL_law_2641 rfl ?_
  refine x_cr (pc := 2642) (q := (1, 0)) (as := []) (st := []) hE dL_law_2642 pl_X10_thrown lk_RL_177 rfl (lvm1 _ (by decide)) rfl rfl (Nat.le_refl _) hk hn (Nat.le_of_ble_eq_true rfl) (ok_thrown hX 11) ?_
  rintro t9 J9 ⟨rfl, rfl⟩
  show V 2645 [(7, xi F.1), (6, xi F.2), (0, xr (2, 9)), (1, xr (0, 0)), (2, xr (1, 0)), (3, xr (2, 0)), (4, xr (2, 1)), (5, xi (i : Int))] [xi (J9 (1, 0) 32)] (J9, xst c1) _ _
  rw [e2]
  refine x_iload (pc := 2645) (j := 1) hE dL_law_2645 rfl ?_
  refine x_icmp_same (pc := 2647) (tgt := 2652) hE dL_law_2647 rfl ?_
  refine x_iload (pc := 2652) (j := 1) hE dL_law_2652 rfl ?_
  refine x_in hE (fun hI9 => ?_)
  have hx : xin F.2 := e2 ▸ hI9 (1, 0) 32
  refine x_if_ne (pc := 2654) (tgt := 2669) hE dL_law_2654 rfl hx (fun _ => x_goto (pc := 2669) (tgt := 3918) hE dL_law_2669 rfl (x_loc hE [2, 3, 4, 5, 6, 7] rfl (next _ _ hD9 hA9))) (fun hz0 => ?_)
  refine x_aload_n (pc := 2657) (j := 5) hE dL_law_2657 rfl ?_
  refine x_iconst (pc := 2658) hE dL_law_2658 ?_
  refine x_laload (pc := 2659) (nn := 1) hE dL_law_2659 rfl (lvm2 _ (by decide)) (by decide) (by decide) ?_
  show V 2660 [(7, xi F.1), (6, xi F.2), (0, xr (2, 9)), (1, xr (0, 0)), (2, xr (1, 0)), (3, xr (2, 0)), (4, xr (2, 1)), (5, xi (i : Int))] [xl (c1.2.1 (2, 0) 0)] (J9, xst c1) _ _
  rw [hO hz0]
  refine x_iload (pc := 2660) (j := 0) hE dL_law_2660 rfl ?_
  refine x_i2l (pc := 2662) hE dL_law_2662 ?_
  refine x_lcmp (pc := 2663) hE dL_law_2663 ?_
  rw [lg_same]
  exact x_if_eq (pc := 2664) (tgt := 2669) hE dL_law_2664 rfl (by decide) (fun _ => x_goto (pc := 2669) (tgt := 3918) hE dL_law_2669 rfl (x_loc hE [2, 3, 4, 5, 6, 7] rfl (next _ _ hD9 hA9))) (fun h => absurd rfl h)

set_option maxRecDepth 100000 in
theorem lc_29 {X : xX} (hX : xBase X) {V : xT} {mc ms : Nat} (hE : xEng X m_L_law 12 mc ms V) {b L : Nat} {xs : Nat → Int32} (hs : LSc X b L xs) {c : xCx} {I : xIn} (hA : c.2.2.2 (2, 9) = b) {i : Nat} (hi : i + 7 ≤ L) {k n mc9 ms9 : Nat} (hk : k + mc9 ≤ mc) (hn : n + ms9 ≤ ms) {F : Int × Int} {C9 D9 : xIn → xCx → Prop} (hW : xMet X m_L_inSteps 11 [xr (0, 0), xi (sx xs (i + 1)), xi (sx xs (i + 2)), xi (sx xs (i + 3)), xi (sx xs (i + 4)), xr (2, 0)] (I, xst c) mc9 ms9 (wPost c F.2 (fun c9 => c9.2.1 (2, 0) 0 = (Int32.ofInt F.1).toInt64) C9)) (hR : ∀ I9 c9, C9 I9 c9 → xRet rI X m_X10_inSteps 11 [xr (1, 0), xi (sx xs (i + 1)), xi (sx xs (i + 2)), xi (sx xs (i + 3)), xi (sx xs (i + 4))] c9 I9 0 0 (fun v J => D9 J c9 ∧ (v, J (1, 0) 32) = F) xNo) (next : ∀ J c9, D9 J c9 → (∀ p : xP, p.1 < 3 → c9.2.2.2 p = c.2.2.2 p) → V 3918 [(0, xr (2, 9)), (1, xr (0, 0)), (2, xr (1, 0)), (3, xr (2, 0)), (4, xr (2, 1)), (5, xi (i : Int))] [] (J, xst c9) (k + mc9) (n + ms9)) : V 2672 [(0, xr (2, 9)), (1, xr (0, 0)), (2, xr (1, 0)), (3, xr (2, 0)), (4, xr (2, 1)), (5, xi (i : Int))] [] (I, xst c) k n := by
  refine x_aload_n (pc := 2672) (j := 1) hE dL_law_2672 rfl ?_
  refine x_aload_n (pc := 2673) (j := 0) hE dL_law_2673 rfl ?_
  refine x_iload (pc := 2674) (j := 5) hE dL_law_2674 rfl ?_
  refine x_iconst (pc := 2676) hE dL_law_2676 ?_
  refine x_iadd (pc := 2677) hE dL_law_2677 ?_
  refine x_sld (pc := 2678) hE hs dL_law_2678 hA (m := i + 1) (by omega) (by omega) ?_
  refine x_aload_n (pc := 2679) (j := 0) hE dL_law_2679 rfl ?_
  refine x_iload (pc := 2680) (j := 5) hE dL_law_2680 rfl ?_
  refine x_iconst (pc := 2682) hE dL_law_2682 ?_
  refine x_iadd (pc := 2683) hE dL_law_2683 ?_
  refine x_sld (pc := 2684) hE hs dL_law_2684 hA (m := i + 2) (by omega) (by omega) ?_
  refine x_aload_n (pc := 2685) (j := 0) hE dL_law_2685 rfl ?_
  refine x_iload (pc := 2686) (j := 5) hE dL_law_2686 rfl ?_
  refine x_iconst (pc := 2688) hE dL_law_2688 ?_
  refine x_iadd (pc := 2689) hE dL_law_2689 ?_
  refine x_sld (pc := 2690) hE hs dL_law_2690 hA (m := i + 3) (by omega) (by omega) ?_
  refine x_aload_n (pc := 2691) (j := 0) hE dL_law_2691 rfl ?_
  refine x_iload (pc := 2692) (j := 5) hE dL_law_2692 rfl ?_
  refine x_iconst (pc := 2694) hE dL_law_2694 ?_
  refine x_iadd (pc := 2695) hE dL_law_2695 ?_
  refine x_sld (pc := 2696) hE hs dL_law_2696 hA (m := i + 4) (by omega) (by omega) ?_
  refine x_aload_n (pc := 2697) (j := 3) hE dL_law_2697 rfl ?_
  refine x_cw (pc := 2698) (as := [xr (0, 0), xi (sx xs (i + 1)), xi (sx xs (i + 2)), xi (sx xs (i + 3)), xi (sx xs (i + 4)), xr (2, 0)]) hE hW dL_law_2698 pl_L_inSteps lk_RL_270 rfl (Nat.le_refl _) hk hn rfl ?_
  intro I1 c1 hO hA9 hC9
  have hA2 : c1.2.2.2 (2, 9) = b := (hA9 _ (by decide)).trans hA
  refine x_istore (pc := 2701) (lo9 := [(6, xi F.2), (0, xr (2, 9)), (1, xr (0, 0)), (2, xr (1, 0)), (3, xr (2, 0)), (4, xr (2, 1)), (5, xi (i : Int))]) hE dL_law_2701 (by decide) rfl ?_
  refine x_aload_n (pc := 2703) (j := 3) hE dL_law_2703 rfl ?_
  refine x_aload_n (pc := 2704) (j := 1) hE dL_law_2704 rfl ?_
  refine x_iload (pc := 2705) (j := 6) hE dL_law_2705 rfl ?_
  refine x_iconst (pc := 2707) hE dL_law_2707 ?_
  refine x_iadd (pc := 2708) hE dL_law_2708 ?_
  refine x_sld (pc := 2709) hE hs dL_law_2709 hA2 (m := i + 1) (by omega) (by omega) ?_
  refine x_aload_n (pc := 2710) (j := 1) hE dL_law_2710 rfl ?_
  refine x_iload (pc := 2711) (j := 6) hE dL_law_2711 rfl ?_
  refine x_iconst (pc := 2713) hE dL_law_2713 ?_
  refine x_iadd (pc := 2714) hE dL_law_2714 ?_
  refine x_sld (pc := 2715) hE hs dL_law_2715 hA2 (m := i + 2) (by omega) (by omega) ?_
  refine x_aload_n (pc := 2716) (j := 1) hE dL_law_2716 rfl ?_
  refine x_iload (pc := 2717) (j := 6) hE dL_law_2717 rfl ?_
  refine x_iconst (pc := 2719) hE dL_law_2719 ?_
  refine x_iadd (pc := 2720) hE dL_law_2720 ?_
  refine x_sld (pc := 2721) hE hs dL_law_2721 hA2 (m := i + 3) (by omega) (by omega) ?_
  refine x_aload_n (pc := 2722) (j := 1) hE dL_law_2722 rfl ?_
  refine x_iload (pc := 2723) (j := 6) hE dL_law_2723 rfl ?_
  refine x_iconst (pc := 2725) hE dL_law_2725 ?_
  refine x_iadd (pc := 2726) hE dL_law_2726 ?_
  refine x_sld (pc := 2727) hE hs dL_law_2727 hA2 (m := i + 4) (by omega) (by omega) ?_
  refine x_cr (pc := 2728) (q := (1, 0)) (as := [xi (sx xs (i + 1)), xi (sx xs (i + 2)), xi (sx xs (i + 3)), xi (sx xs (i + 4))]) (st := []) hE dL_law_2728 pl_X10_inSteps lk_RL_272 rfl (lvm1 _ (by decide)) rfl rfl (Nat.le_refl _) hk hn (Nat.le_of_ble_eq_true rfl) (hR I1 c1 hC9) ?_
  rintro v J9 ⟨hD9, hF⟩
  obtain ⟨e1, e2⟩ : v = F.1 ∧ J9 (1, 0) 32 = F.2 := ⟨congrArg Prod.fst hF, congrArg Prod.snd hF⟩
  subst e1
  refine x_istore (pc := 2731) (lo9 := [(7, xi F.1), (6, xi F.2), (0, xr (2, 9)), (1, xr (0, 0)), (2, xr (1, 0)), (3, xr (2, 0)), (4, xr (2, 1)), (5, xi (i : Int))]) hE dL_law_2731 (by decide) rfl ?_
  refine x_aload_n (pc := 2733) (j := 4) hE dL_law_2733 rfl ?_
  refine x_cr (pc := 2734) (q := (1, 0)) (as := []) (st := []) hE dL_law_2734 pl_X10_thrown lk_RL_177 rfl (lvm1 _ (by decide)) rfl rfl (Nat.le_refl _) hk hn (Nat.le_of_ble_eq_true rfl) (ok_thrown hX 11) ?_
  rintro t9 J9 ⟨rfl, rfl⟩
  show V 2737 [(7, xi F.1), (6, xi F.2), (0, xr (2, 9)), (1, xr (0, 0)), (2, xr (1, 0)), (3, xr (2, 0)), (4, xr (2, 1)), (5, xi (i : Int))] [xi (J9 (1, 0) 32)] (J9, xst c1) _ _
  rw [e2]
  refine x_iload (pc := 2737) (j := 1) hE dL_law_2737 rfl ?_
  refine x_icmp_same (pc := 2739) (tgt := 2744) hE dL_law_2739 rfl ?_
  refine x_iload (pc := 2744) (j := 1) hE dL_law_2744 rfl ?_
  refine x_in hE (fun hI9 => ?_)
  have hx : xin F.2 := e2 ▸ hI9 (1, 0) 32
  refine x_if_ne (pc := 2746) (tgt := 2761) hE dL_law_2746 rfl hx (fun _ => x_goto (pc := 2761) (tgt := 3918) hE dL_law_2761 rfl (x_loc hE [2, 3, 4, 5, 6, 7] rfl (next _ _ hD9 hA9))) (fun hz0 => ?_)
  refine x_aload_n (pc := 2749) (j := 5) hE dL_law_2749 rfl ?_
  refine x_iconst (pc := 2750) hE dL_law_2750 ?_
  refine x_laload (pc := 2751) (nn := 1) hE dL_law_2751 rfl (lvm2 _ (by decide)) (by decide) (by decide) ?_
  show V 2752 [(7, xi F.1), (6, xi F.2), (0, xr (2, 9)), (1, xr (0, 0)), (2, xr (1, 0)), (3, xr (2, 0)), (4, xr (2, 1)), (5, xi (i : Int))] [xl (c1.2.1 (2, 0) 0)] (J9, xst c1) _ _
  rw [hO hz0]
  refine x_iload (pc := 2752) (j := 0) hE dL_law_2752 rfl ?_
  refine x_i2l (pc := 2754) hE dL_law_2754 ?_
  refine x_lcmp (pc := 2755) hE dL_law_2755 ?_
  rw [lg_same]
  exact x_if_eq (pc := 2756) (tgt := 2761) hE dL_law_2756 rfl (by decide) (fun _ => x_goto (pc := 2761) (tgt := 3918) hE dL_law_2761 rfl (x_loc hE [2, 3, 4, 5, 6, 7] rfl (next _ _ hD9 hA9))) (fun h => absurd rfl h)

set_option maxRecDepth 100000 in
theorem lc_30 {X : xX} (hX : xBase X) {V : xT} {mc ms : Nat} (hE : xEng X m_L_law 12 mc ms V) {b L : Nat} {xs : Nat → Int32} (hs : LSc X b L xs) {c : xCx} {I : xIn} (hA : c.2.2.2 (2, 9) = b) {i : Nat} (hi : i + 7 ≤ L) {k n mc9 ms9 : Nat} (hk : k + mc9 ≤ mc) (hn : n + ms9 ≤ ms) {F : Int × Int} {C9 D9 : xIn → xCx → Prop} (hW : xMet X m_L_likes 11 [xr (0, 0), xi (sx xs (i + 1)), xi (sx xs (i + 2)), xr (2, 0)] (I, xst c) mc9 ms9 (wPost c F.2 (fun c9 => c9.2.1 (2, 0) 0 = (Int32.ofInt F.1).toInt64) C9)) (hR : ∀ I9 c9, C9 I9 c9 → xRet rI X m_X10_likes 11 [xr (1, 0), xi (sx xs (i + 1)), xi (sx xs (i + 2))] c9 I9 0 0 (fun v J => D9 J c9 ∧ (v, J (1, 0) 32) = F) xNo) (next : ∀ J c9, D9 J c9 → (∀ p : xP, p.1 < 3 → c9.2.2.2 p = c.2.2.2 p) → V 3918 [(0, xr (2, 9)), (1, xr (0, 0)), (2, xr (1, 0)), (3, xr (2, 0)), (4, xr (2, 1)), (5, xi (i : Int))] [] (J, xst c9) (k + mc9) (n + ms9)) : V 2764 [(0, xr (2, 9)), (1, xr (0, 0)), (2, xr (1, 0)), (3, xr (2, 0)), (4, xr (2, 1)), (5, xi (i : Int))] [] (I, xst c) k n := by
  refine x_aload_n (pc := 2764) (j := 1) hE dL_law_2764 rfl ?_
  refine x_aload_n (pc := 2765) (j := 0) hE dL_law_2765 rfl ?_
  refine x_iload (pc := 2766) (j := 5) hE dL_law_2766 rfl ?_
  refine x_iconst (pc := 2768) hE dL_law_2768 ?_
  refine x_iadd (pc := 2769) hE dL_law_2769 ?_
  refine x_sld (pc := 2770) hE hs dL_law_2770 hA (m := i + 1) (by omega) (by omega) ?_
  refine x_aload_n (pc := 2771) (j := 0) hE dL_law_2771 rfl ?_
  refine x_iload (pc := 2772) (j := 5) hE dL_law_2772 rfl ?_
  refine x_iconst (pc := 2774) hE dL_law_2774 ?_
  refine x_iadd (pc := 2775) hE dL_law_2775 ?_
  refine x_sld (pc := 2776) hE hs dL_law_2776 hA (m := i + 2) (by omega) (by omega) ?_
  refine x_aload_n (pc := 2777) (j := 3) hE dL_law_2777 rfl ?_
  refine x_cw (pc := 2778) (as := [xr (0, 0), xi (sx xs (i + 1)), xi (sx xs (i + 2)), xr (2, 0)]) hE hW dL_law_2778 pl_L_likes lk_RL_273 rfl (Nat.le_refl _) hk hn rfl ?_
  intro I1 c1 hO hA9 hC9
  have hA2 : c1.2.2.2 (2, 9) = b := (hA9 _ (by decide)).trans hA
  refine x_istore (pc := 2781) (lo9 := [(6, xi F.2), (0, xr (2, 9)), (1, xr (0, 0)), (2, xr (1, 0)), (3, xr (2, 0)), (4, xr (2, 1)), (5, xi (i : Int))]) hE dL_law_2781 (by decide) rfl ?_
  refine x_aload_n (pc := 2783) (j := 3) hE dL_law_2783 rfl ?_
  refine x_aload_n (pc := 2784) (j := 1) hE dL_law_2784 rfl ?_
  refine x_iload (pc := 2785) (j := 6) hE dL_law_2785 rfl ?_
  refine x_iconst (pc := 2787) hE dL_law_2787 ?_
  refine x_iadd (pc := 2788) hE dL_law_2788 ?_
  refine x_sld (pc := 2789) hE hs dL_law_2789 hA2 (m := i + 1) (by omega) (by omega) ?_
  refine x_aload_n (pc := 2790) (j := 1) hE dL_law_2790 rfl ?_
  refine x_iload (pc := 2791) (j := 6) hE dL_law_2791 rfl ?_
  refine x_iconst (pc := 2793) hE dL_law_2793 ?_
  refine x_iadd (pc := 2794) hE dL_law_2794 ?_
  refine x_sld (pc := 2795) hE hs dL_law_2795 hA2 (m := i + 2) (by omega) (by omega) ?_
  refine x_cr (pc := 2796) (q := (1, 0)) (as := [xi (sx xs (i + 1)), xi (sx xs (i + 2))]) (st := []) hE dL_law_2796 pl_X10_likes lk_RL_275 rfl (lvm1 _ (by decide)) rfl rfl (Nat.le_refl _) hk hn (Nat.le_of_ble_eq_true rfl) (hR I1 c1 hC9) ?_
  rintro v J9 ⟨hD9, hF⟩
  obtain ⟨e1, e2⟩ : v = F.1 ∧ J9 (1, 0) 32 = F.2 := ⟨congrArg Prod.fst hF, congrArg Prod.snd hF⟩
  subst e1
  refine x_istore (pc := 2799) (lo9 := [(7, xi F.1), (6, xi F.2), (0, xr (2, 9)), (1, xr (0, 0)), (2, xr (1, 0)), (3, xr (2, 0)), (4, xr (2, 1)), (5, xi (i : Int))]) hE dL_law_2799 (by decide) rfl ?_
  refine x_aload_n (pc := 2801) (j := 4) hE dL_law_2801 rfl ?_
  refine x_cr (pc := 2802) (q := (1, 0)) (as := []) (st := []) hE dL_law_2802 pl_X10_thrown lk_RL_177 rfl (lvm1 _ (by decide)) rfl rfl (Nat.le_refl _) hk hn (Nat.le_of_ble_eq_true rfl) (ok_thrown hX 11) ?_
  rintro t9 J9 ⟨rfl, rfl⟩
  show V 2805 [(7, xi F.1), (6, xi F.2), (0, xr (2, 9)), (1, xr (0, 0)), (2, xr (1, 0)), (3, xr (2, 0)), (4, xr (2, 1)), (5, xi (i : Int))] [xi (J9 (1, 0) 32)] (J9, xst c1) _ _
  rw [e2]
  refine x_iload (pc := 2805) (j := 1) hE dL_law_2805 rfl ?_
  refine x_icmp_same (pc := 2807) (tgt := 2812) hE dL_law_2807 rfl ?_
  refine x_iload (pc := 2812) (j := 1) hE dL_law_2812 rfl ?_
  refine x_in hE (fun hI9 => ?_)
  have hx : xin F.2 := e2 ▸ hI9 (1, 0) 32
  refine x_if_ne (pc := 2814) (tgt := 2829) hE dL_law_2814 rfl hx (fun _ => x_goto (pc := 2829) (tgt := 3918) hE dL_law_2829 rfl (x_loc hE [2, 3, 4, 5, 6, 7] rfl (next _ _ hD9 hA9))) (fun hz0 => ?_)
  refine x_aload_n (pc := 2817) (j := 5) hE dL_law_2817 rfl ?_
  refine x_iconst (pc := 2818) hE dL_law_2818 ?_
  refine x_laload (pc := 2819) (nn := 1) hE dL_law_2819 rfl (lvm2 _ (by decide)) (by decide) (by decide) ?_
  show V 2820 [(7, xi F.1), (6, xi F.2), (0, xr (2, 9)), (1, xr (0, 0)), (2, xr (1, 0)), (3, xr (2, 0)), (4, xr (2, 1)), (5, xi (i : Int))] [xl (c1.2.1 (2, 0) 0)] (J9, xst c1) _ _
  rw [hO hz0]
  refine x_iload (pc := 2820) (j := 0) hE dL_law_2820 rfl ?_
  refine x_i2l (pc := 2822) hE dL_law_2822 ?_
  refine x_lcmp (pc := 2823) hE dL_law_2823 ?_
  rw [lg_same]
  exact x_if_eq (pc := 2824) (tgt := 2829) hE dL_law_2824 rfl (by decide) (fun _ => x_goto (pc := 2829) (tgt := 3918) hE dL_law_2829 rfl (x_loc hE [2, 3, 4, 5, 6, 7] rfl (next _ _ hD9 hA9))) (fun h => absurd rfl h)

set_option maxRecDepth 100000 in
theorem lc_31 {X : xX} (hX : xBase X) {V : xT} {mc ms : Nat} (hE : xEng X m_L_law 12 mc ms V) {b L : Nat} {xs : Nat → Int32} (hs : LSc X b L xs) {c : xCx} {I : xIn} (hA : c.2.2.2 (2, 9) = b) {i : Nat} (hi : i + 7 ≤ L) {k n mc9 ms9 : Nat} (hk : k + mc9 ≤ mc) (hn : n + ms9 ≤ ms) {F : Int} {C9 D9 : xIn → Prop} (hW : xRet rI X m_X9_pairs 11 [xr (0, 0)] c I mc9 ms9 (fun v J => C9 J ∧ v = F) xNo) (hR : ∀ I9, C9 I9 → xRet rI X m_X10_pairs 11 [xr (1, 0)] c I9 0 0 (fun v J => D9 J ∧ v = F) xNo) (next : ∀ J, D9 J → V 3918 [(0, xr (2, 9)), (1, xr (0, 0)), (2, xr (1, 0)), (3, xr (2, 0)), (4, xr (2, 1)), (5, xi (i : Int))] [] (J, xst c) (k + mc9) (n + ms9)) : V 2832 [(0, xr (2, 9)), (1, xr (0, 0)), (2, xr (1, 0)), (3, xr (2, 0)), (4, xr (2, 1)), (5, xi (i : Int))] [] (I, xst c) k n := by
  refine x_aload_n (pc := 2832) (j := 1) hE dL_law_2832 rfl ?_
  refine x_cr (pc := 2833) (q := (0, 0)) (as := []) (st := []) hE dL_law_2833 pl_X9_pairs lk_RL_276 rfl (lvm0 _ (by decide)) rfl rfl (Nat.le_refl _) hk hn (Nat.le_of_ble_eq_true rfl) hW ?_
  rintro v I1 ⟨hC9, hv9⟩
  rw [hv9]
  have hA2 := hA
  refine x_aload_n (pc := 2836) (j := 2) hE dL_law_2836 rfl ?_
  refine x_cr (pc := 2837) (q := (1, 0)) (as := []) (st := [xi F]) hE dL_law_2837 pl_X10_pairs lk_RL_279 rfl (lvm1 _ (by decide)) rfl rfl (Nat.le_refl _) hk hn (Nat.le_of_ble_eq_true rfl) (hR I1 hC9) ?_
  rintro v9 J9 ⟨hD9, hv8⟩
  rw [hv8]
  refine x_icmp_same (pc := 2840) (tgt := 3918) hE dL_law_2840 rfl ?_
  exact x_loc hE [0, 1, 2, 3, 4, 5] rfl (next _ hD9)

set_option maxRecDepth 100000 in
theorem lc_32 {X : xX} (hX : xBase X) {V : xT} {mc ms : Nat} (hE : xEng X m_L_law 12 mc ms V) {b L : Nat} {xs : Nat → Int32} (hs : LSc X b L xs) {c : xCx} {I : xIn} (hA : c.2.2.2 (2, 9) = b) {i : Nat} (hi : i + 7 ≤ L) {k n mc9 ms9 : Nat} (hk : k + mc9 ≤ mc) (hn : n + ms9 ≤ ms) {F : Int × Int} {C9 D9 : xIn → xCx → Prop} (hW : xMet X m_L_pairOf 11 [xr (0, 0), xi (sx xs (i + 1)), xr (2, 0)] (I, xst c) mc9 ms9 (wPost c F.2 (fun c9 => c9.2.1 (2, 0) 0 = (Int32.ofInt F.1).toInt64) C9)) (hR : ∀ I9 c9, C9 I9 c9 → xRet rI X m_X10_pairOf 11 [xr (1, 0), xi (sx xs (i + 1))] c9 I9 0 0 (fun v J => D9 J c9 ∧ (v, J (1, 0) 32) = F) xNo) (next : ∀ J c9, D9 J c9 → (∀ p : xP, p.1 < 3 → c9.2.2.2 p = c.2.2.2 p) → V 3918 [(0, xr (2, 9)), (1, xr (0, 0)), (2, xr (1, 0)), (3, xr (2, 0)), (4, xr (2, 1)), (5, xi (i : Int))] [] (J, xst c9) (k + mc9) (n + ms9)) : V 2845 [(0, xr (2, 9)), (1, xr (0, 0)), (2, xr (1, 0)), (3, xr (2, 0)), (4, xr (2, 1)), (5, xi (i : Int))] [] (I, xst c) k n := by
  refine x_aload_n (pc := 2845) (j := 1) hE dL_law_2845 rfl ?_
  refine x_aload_n (pc := 2846) (j := 0) hE dL_law_2846 rfl ?_
  refine x_iload (pc := 2847) (j := 5) hE dL_law_2847 rfl ?_
  refine x_iconst (pc := 2849) hE dL_law_2849 ?_
  refine x_iadd (pc := 2850) hE dL_law_2850 ?_
  refine x_sld (pc := 2851) hE hs dL_law_2851 hA (m := i + 1) (by omega) (by omega) ?_
  refine x_aload_n (pc := 2852) (j := 3) hE dL_law_2852 rfl ?_
  refine x_cw (pc := 2853) (as := [xr (0, 0), xi (sx xs (i + 1)), xr (2, 0)]) hE hW dL_law_2853 pl_L_pairOf lk_RL_280 rfl (Nat.le_refl _) hk hn rfl ?_
  intro I1 c1 hO hA9 hC9
  have hA2 : c1.2.2.2 (2, 9) = b := (hA9 _ (by decide)).trans hA
  refine x_istore (pc := 2856) (lo9 := [(6, xi F.2), (0, xr (2, 9)), (1, xr (0, 0)), (2, xr (1, 0)), (3, xr (2, 0)), (4, xr (2, 1)), (5, xi (i : Int))]) hE dL_law_2856 (by decide) rfl ?_
  refine x_aload_n (pc := 2858) (j := 3) hE dL_law_2858 rfl ?_
  refine x_aload_n (pc := 2859) (j := 1) hE dL_law_2859 rfl ?_
  refine x_iload (pc := 2860) (j := 6) hE dL_law_2860 rfl ?_
  refine x_iconst (pc := 2862) hE dL_law_2862 ?_
  refine x_iadd (pc := 2863) hE dL_law_2863 ?_
  refine x_sld (pc := 2864) hE hs dL_law_2864 hA2 (m := i + 1) (by omega) (by omega) ?_
  refine x_cr (pc := 2865) (q := (1, 0)) (as := [xi (sx xs (i + 1))]) (st := []) hE dL_law_2865 pl_X10_pairOf lk_RL_282 rfl (lvm1 _ (by decide)) rfl rfl (Nat.le_refl _) hk hn (Nat.le_of_ble_eq_true rfl) (hR I1 c1 hC9) ?_
  rintro v J9 ⟨hD9, hF⟩
  obtain ⟨e1, e2⟩ : v = F.1 ∧ J9 (1, 0) 32 = F.2 := ⟨congrArg Prod.fst hF, congrArg Prod.snd hF⟩
  subst e1
  refine x_istore (pc := 2868) (lo9 := [(7, xi F.1), (6, xi F.2), (0, xr (2, 9)), (1, xr (0, 0)), (2, xr (1, 0)), (3, xr (2, 0)), (4, xr (2, 1)), (5, xi (i : Int))]) hE dL_law_2868 (by decide) rfl ?_
  refine x_aload_n (pc := 2870) (j := 4) hE dL_law_2870 rfl ?_
  refine x_cr (pc := 2871) (q := (1, 0)) (as := []) (st := []) hE dL_law_2871 pl_X10_thrown lk_RL_177 rfl (lvm1 _ (by decide)) rfl rfl (Nat.le_refl _) hk hn (Nat.le_of_ble_eq_true rfl) (ok_thrown hX 11) ?_
  rintro t9 J9 ⟨rfl, rfl⟩
  show V 2874 [(7, xi F.1), (6, xi F.2), (0, xr (2, 9)), (1, xr (0, 0)), (2, xr (1, 0)), (3, xr (2, 0)), (4, xr (2, 1)), (5, xi (i : Int))] [xi (J9 (1, 0) 32)] (J9, xst c1) _ _
  rw [e2]
  refine x_iload (pc := 2874) (j := 1) hE dL_law_2874 rfl ?_
  refine x_icmp_same (pc := 2876) (tgt := 2881) hE dL_law_2876 rfl ?_
  refine x_iload (pc := 2881) (j := 1) hE dL_law_2881 rfl ?_
  refine x_in hE (fun hI9 => ?_)
  have hx : xin F.2 := e2 ▸ hI9 (1, 0) 32
  refine x_if_ne (pc := 2883) (tgt := 2898) hE dL_law_2883 rfl hx (fun _ => x_goto (pc := 2898) (tgt := 3918) hE dL_law_2898 rfl (x_loc hE [2, 3, 4, 5, 6, 7] rfl (next _ _ hD9 hA9))) (fun hz0 => ?_)
  refine x_aload_n (pc := 2886) (j := 5) hE dL_law_2886 rfl ?_
  refine x_iconst (pc := 2887) hE dL_law_2887 ?_
  refine x_laload (pc := 2888) (nn := 1) hE dL_law_2888 rfl (lvm2 _ (by decide)) (by decide) (by decide) ?_
  show V 2889 [(7, xi F.1), (6, xi F.2), (0, xr (2, 9)), (1, xr (0, 0)), (2, xr (1, 0)), (3, xr (2, 0)), (4, xr (2, 1)), (5, xi (i : Int))] [xl (c1.2.1 (2, 0) 0)] (J9, xst c1) _ _
  rw [hO hz0]
  refine x_iload (pc := 2889) (j := 0) hE dL_law_2889 rfl ?_
  refine x_i2l (pc := 2891) hE dL_law_2891 ?_
  refine x_lcmp (pc := 2892) hE dL_law_2892 ?_
  rw [lg_same]
  exact x_if_eq (pc := 2893) (tgt := 2898) hE dL_law_2893 rfl (by decide) (fun _ => x_goto (pc := 2898) (tgt := 3918) hE dL_law_2898 rfl (x_loc hE [2, 3, 4, 5, 6, 7] rfl (next _ _ hD9 hA9))) (fun h => absurd rfl h)

set_option maxRecDepth 100000 in
theorem lc_33 {X : xX} (hX : xBase X) {V : xT} {mc ms : Nat} (hE : xEng X m_L_law 12 mc ms V) {b L : Nat} {xs : Nat → Int32} (hs : LSc X b L xs) {c : xCx} {I : xIn} (hA : c.2.2.2 (2, 9) = b) {i : Nat} (hi : i + 7 ≤ L) {k n mc9 ms9 : Nat} (hk : k + mc9 ≤ mc) (hn : n + ms9 ≤ ms) {bz : Bool} (hbz : bz = decide ((sx xs (i + 1)) ≠ 0)) {F : Int} {C9 D9 : xIn → Prop} (hW : xRet rI X m_X9_cover 11 [xr (0, 0), xi (xbi bz)] c I mc9 ms9 (fun v J => C9 J ∧ v = F) xNo) (hR : ∀ I9, C9 I9 → xRet rI X m_X10_cover 11 [xr (1, 0), xi (xbi bz)] c I9 0 0 (fun v J => D9 J ∧ v = F) xNo) (next : ∀ J, D9 J → V 3918 [(0, xr (2, 9)), (1, xr (0, 0)), (2, xr (1, 0)), (3, xr (2, 0)), (4, xr (2, 1)), (5, xi (i : Int))] [] (J, xst c) (k + mc9) (n + ms9)) : V 2901 [(0, xr (2, 9)), (1, xr (0, 0)), (2, xr (1, 0)), (3, xr (2, 0)), (4, xr (2, 1)), (5, xi (i : Int))] [] (I, xst c) k n := by
  rcases Decidable.em ((sx xs (i + 1)) = 0) with hz | hz
  · have hb9 : bz = false := by rw [hbz]; simp [hz]
    subst hb9
    refine x_aload_n (pc := 2901) (j := 1) hE dL_law_2901 rfl ?_
    refine x_aload_n (pc := 2902) (j := 0) hE dL_law_2902 rfl ?_
    refine x_iload (pc := 2903) (j := 5) hE dL_law_2903 rfl ?_
    refine x_iconst (pc := 2905) hE dL_law_2905 ?_
    refine x_iadd (pc := 2906) hE dL_law_2906 ?_
    refine x_sld (pc := 2907) hE hs dL_law_2907 hA (m := i + 1) (by omega) (by omega) ?_
    refine x_if_eq (pc := 2908) (tgt := 2915) hE dL_law_2908 rfl (xin_ti _) (fun _ => ?_) (fun h => absurd hz h)
    refine x_iconst (pc := 2915) hE dL_law_2915 ?_
    refine x_cr (pc := 2916) (q := (0, 0)) (as := [xi 0]) (st := []) hE dL_law_2916 pl_X9_cover lk_RL_283 rfl (lvm0 _ (by decide)) rfl rfl (Nat.le_refl _) hk hn (Nat.le_of_ble_eq_true rfl) hW ?_
    rintro v I1 ⟨hC9, hv9⟩
    rw [hv9]
    have hA2 := hA
    refine x_aload_n (pc := 2919) (j := 2) hE dL_law_2919 rfl ?_
    refine x_aload_n (pc := 2920) (j := 0) hE dL_law_2920 rfl ?_
    refine x_iload (pc := 2921) (j := 5) hE dL_law_2921 rfl ?_
    refine x_iconst (pc := 2923) hE dL_law_2923 ?_
    refine x_iadd (pc := 2924) hE dL_law_2924 ?_
    refine x_sld (pc := 2925) hE hs dL_law_2925 hA2 (m := i + 1) (by omega) (by omega) ?_
    refine x_if_eq (pc := 2926) (tgt := 2933) hE dL_law_2926 rfl (xin_ti _) (fun _ => ?_) (fun h => absurd hz h)
    refine x_iconst (pc := 2933) hE dL_law_2933 ?_
    refine x_cr (pc := 2934) (q := (1, 0)) (as := [xi 0]) (st := [xi F]) hE dL_law_2934 pl_X10_cover lk_RL_287 rfl (lvm1 _ (by decide)) rfl rfl (Nat.le_refl _) hk hn (Nat.le_of_ble_eq_true rfl) (hR I1 hC9) ?_
    rintro v9 J9 ⟨hD9, hv8⟩
    rw [hv8]
    refine x_icmp_same (pc := 2937) (tgt := 3918) hE dL_law_2937 rfl ?_
    exact x_loc hE [0, 1, 2, 3, 4, 5] rfl (next _ hD9)
  · have hb9 : bz = true := by rw [hbz]; simp [hz]
    subst hb9
    refine x_aload_n (pc := 2901) (j := 1) hE dL_law_2901 rfl ?_
    refine x_aload_n (pc := 2902) (j := 0) hE dL_law_2902 rfl ?_
    refine x_iload (pc := 2903) (j := 5) hE dL_law_2903 rfl ?_
    refine x_iconst (pc := 2905) hE dL_law_2905 ?_
    refine x_iadd (pc := 2906) hE dL_law_2906 ?_
    refine x_sld (pc := 2907) hE hs dL_law_2907 hA (m := i + 1) (by omega) (by omega) ?_
    refine x_if_eq (pc := 2908) (tgt := 2915) hE dL_law_2908 rfl (xin_ti _) (fun h => absurd h hz) (fun _ => ?_)
    refine x_iconst (pc := 2911) hE dL_law_2911 ?_
    refine x_goto (pc := 2912) (tgt := 2916) hE dL_law_2912 rfl ?_
    refine x_cr (pc := 2916) (q := (0, 0)) (as := [xi 1]) (st := []) hE dL_law_2916 pl_X9_cover lk_RL_283 rfl (lvm0 _ (by decide)) rfl rfl (Nat.le_refl _) hk hn (Nat.le_of_ble_eq_true rfl) hW ?_
    rintro v I1 ⟨hC9, hv9⟩
    rw [hv9]
    have hA2 := hA
    refine x_aload_n (pc := 2919) (j := 2) hE dL_law_2919 rfl ?_
    refine x_aload_n (pc := 2920) (j := 0) hE dL_law_2920 rfl ?_
    refine x_iload (pc := 2921) (j := 5) hE dL_law_2921 rfl ?_
    refine x_iconst (pc := 2923) hE dL_law_2923 ?_
    refine x_iadd (pc := 2924) hE dL_law_2924 ?_
    refine x_sld (pc := 2925) hE hs dL_law_2925 hA2 (m := i + 1) (by omega) (by omega) ?_
    refine x_if_eq (pc := 2926) (tgt := 2933) hE dL_law_2926 rfl (xin_ti _) (fun h => absurd h hz) (fun _ => ?_)
    refine x_iconst (pc := 2929) hE dL_law_2929 ?_
    refine x_goto (pc := 2930) (tgt := 2934) hE dL_law_2930 rfl ?_
    refine x_cr (pc := 2934) (q := (1, 0)) (as := [xi 1]) (st := [xi F]) hE dL_law_2934 pl_X10_cover lk_RL_287 rfl (lvm1 _ (by decide)) rfl rfl (Nat.le_refl _) hk hn (Nat.le_of_ble_eq_true rfl) (hR I1 hC9) ?_
    rintro v9 J9 ⟨hD9, hv8⟩
    rw [hv8]
    refine x_icmp_same (pc := 2937) (tgt := 3918) hE dL_law_2937 rfl ?_
    exact x_loc hE [0, 1, 2, 3, 4, 5] rfl (next _ hD9)

set_option maxRecDepth 100000 in
theorem lc_34 {X : xX} (hX : xBase X) {V : xT} {mc ms : Nat} (hE : xEng X m_L_law 12 mc ms V) {b L : Nat} {xs : Nat → Int32} (hs : LSc X b L xs) {c : xCx} {I : xIn} (hA : c.2.2.2 (2, 9) = b) {i : Nat} (hi : i + 7 ≤ L) {k n mc9 ms9 : Nat} (hk : k + mc9 ≤ mc) (hn : n + ms9 ≤ ms) {F : Int × Int} {C9 D9 : xIn → xCx → Prop} (hW : xMet X m_L_crowdOfLeft 11 [xr (0, 0), xr (2, 0)] (I, xst c) mc9 ms9 (wPost c F.2 (fun c9 => c9.2.1 (2, 0) 0 = (Int32.ofInt F.1).toInt64) C9)) (hR : ∀ I9 c9, C9 I9 c9 → xRet rI X m_X10_crowdOfLeft 11 [xr (1, 0)] c9 I9 0 0 (fun v J => D9 J c9 ∧ (v, J (1, 0) 32) = F) xNo) (next : ∀ J c9, D9 J c9 → (∀ p : xP, p.1 < 3 → c9.2.2.2 p = c.2.2.2 p) → V 3918 [(0, xr (2, 9)), (1, xr (0, 0)), (2, xr (1, 0)), (3, xr (2, 0)), (4, xr (2, 1)), (5, xi (i : Int))] [] (J, xst c9) (k + mc9) (n + ms9)) : V 2942 [(0, xr (2, 9)), (1, xr (0, 0)), (2, xr (1, 0)), (3, xr (2, 0)), (4, xr (2, 1)), (5, xi (i : Int))] [] (I, xst c) k n := by
  refine x_aload_n (pc := 2942) (j := 1) hE dL_law_2942 rfl ?_
  refine x_aload_n (pc := 2943) (j := 3) hE dL_law_2943 rfl ?_
  refine x_cw (pc := 2944) (as := [xr (0, 0), xr (2, 0)]) hE hW dL_law_2944 pl_L_crowdOfLeft lk_RL_288 rfl (Nat.le_refl _) hk hn rfl ?_
  intro I1 c1 hO hA9 hC9
  have hA2 : c1.2.2.2 (2, 9) = b := (hA9 _ (by decide)).trans hA
  refine x_istore (pc := 2947) (lo9 := [(6, xi F.2), (0, xr (2, 9)), (1, xr (0, 0)), (2, xr (1, 0)), (3, xr (2, 0)), (4, xr (2, 1)), (5, xi (i : Int))]) hE dL_law_2947 (by decide) rfl ?_
  refine x_aload_n (pc := 2949) (j := 3) hE dL_law_2949 rfl ?_
  refine x_cr (pc := 2950) (q := (1, 0)) (as := []) (st := []) hE dL_law_2950 pl_X10_crowdOfLeft lk_RL_291 rfl (lvm1 _ (by decide)) rfl rfl (Nat.le_refl _) hk hn (Nat.le_of_ble_eq_true rfl) (hR I1 c1 hC9) ?_
  rintro v J9 ⟨hD9, hF⟩
  obtain ⟨e1, e2⟩ : v = F.1 ∧ J9 (1, 0) 32 = F.2 := ⟨congrArg Prod.fst hF, congrArg Prod.snd hF⟩
  subst e1
  refine x_istore (pc := 2953) (lo9 := [(7, xi F.1), (6, xi F.2), (0, xr (2, 9)), (1, xr (0, 0)), (2, xr (1, 0)), (3, xr (2, 0)), (4, xr (2, 1)), (5, xi (i : Int))]) hE dL_law_2953 (by decide) rfl ?_
  refine x_aload_n (pc := 2955) (j := 4) hE dL_law_2955 rfl ?_
  refine x_cr (pc := 2956) (q := (1, 0)) (as := []) (st := []) hE dL_law_2956 pl_X10_thrown lk_RL_177 rfl (lvm1 _ (by decide)) rfl rfl (Nat.le_refl _) hk hn (Nat.le_of_ble_eq_true rfl) (ok_thrown hX 11) ?_
  rintro t9 J9 ⟨rfl, rfl⟩
  show V 2959 [(7, xi F.1), (6, xi F.2), (0, xr (2, 9)), (1, xr (0, 0)), (2, xr (1, 0)), (3, xr (2, 0)), (4, xr (2, 1)), (5, xi (i : Int))] [xi (J9 (1, 0) 32)] (J9, xst c1) _ _
  rw [e2]
  refine x_iload (pc := 2959) (j := 1) hE dL_law_2959 rfl ?_
  refine x_icmp_same (pc := 2961) (tgt := 2966) hE dL_law_2961 rfl ?_
  refine x_iload (pc := 2966) (j := 1) hE dL_law_2966 rfl ?_
  refine x_in hE (fun hI9 => ?_)
  have hx : xin F.2 := e2 ▸ hI9 (1, 0) 32
  refine x_if_ne (pc := 2968) (tgt := 2983) hE dL_law_2968 rfl hx (fun _ => x_goto (pc := 2983) (tgt := 3918) hE dL_law_2983 rfl (x_loc hE [2, 3, 4, 5, 6, 7] rfl (next _ _ hD9 hA9))) (fun hz0 => ?_)
  refine x_aload_n (pc := 2971) (j := 5) hE dL_law_2971 rfl ?_
  refine x_iconst (pc := 2972) hE dL_law_2972 ?_
  refine x_laload (pc := 2973) (nn := 1) hE dL_law_2973 rfl (lvm2 _ (by decide)) (by decide) (by decide) ?_
  show V 2974 [(7, xi F.1), (6, xi F.2), (0, xr (2, 9)), (1, xr (0, 0)), (2, xr (1, 0)), (3, xr (2, 0)), (4, xr (2, 1)), (5, xi (i : Int))] [xl (c1.2.1 (2, 0) 0)] (J9, xst c1) _ _
  rw [hO hz0]
  refine x_iload (pc := 2974) (j := 0) hE dL_law_2974 rfl ?_
  refine x_i2l (pc := 2976) hE dL_law_2976 ?_
  refine x_lcmp (pc := 2977) hE dL_law_2977 ?_
  rw [lg_same]
  exact x_if_eq (pc := 2978) (tgt := 2983) hE dL_law_2978 rfl (by decide) (fun _ => x_goto (pc := 2983) (tgt := 3918) hE dL_law_2983 rfl (x_loc hE [2, 3, 4, 5, 6, 7] rfl (next _ _ hD9 hA9))) (fun h => absurd rfl h)

set_option maxRecDepth 100000 in
theorem lc_35 {X : xX} (hX : xBase X) {V : xT} {mc ms : Nat} (hE : xEng X m_L_law 12 mc ms V) {b L : Nat} {xs : Nat → Int32} (hs : LSc X b L xs) {c : xCx} {I : xIn} (hA : c.2.2.2 (2, 9) = b) {i : Nat} (hi : i + 7 ≤ L) {k n mc9 ms9 : Nat} (hk : k + mc9 ≤ mc) (hn : n + ms9 ≤ ms) {F : Int × Int} {C9 D9 : xIn → xCx → Prop} (hW : xMet X m_L_team 11 [xr (0, 0), xi (sx xs (i + 1)), xr (2, 0)] (I, xst c) mc9 ms9 (wPost c F.2 (fun c9 => c9.2.1 (2, 0) 0 = (Int32.ofInt F.1).toInt64) C9)) (hR : ∀ I9 c9, C9 I9 c9 → xRet rI X m_X10_team 11 [xr (1, 0), xi (sx xs (i + 1))] c9 I9 0 0 (fun v J => D9 J c9 ∧ (v, J (1, 0) 32) = F) xNo) (next : ∀ J c9, D9 J c9 → (∀ p : xP, p.1 < 3 → c9.2.2.2 p = c.2.2.2 p) → V 3918 [(0, xr (2, 9)), (1, xr (0, 0)), (2, xr (1, 0)), (3, xr (2, 0)), (4, xr (2, 1)), (5, xi (i : Int))] [] (J, xst c9) (k + mc9) (n + ms9)) : V 2986 [(0, xr (2, 9)), (1, xr (0, 0)), (2, xr (1, 0)), (3, xr (2, 0)), (4, xr (2, 1)), (5, xi (i : Int))] [] (I, xst c) k n := by
  refine x_aload_n (pc := 2986) (j := 1) hE dL_law_2986 rfl ?_
  refine x_aload_n (pc := 2987) (j := 0) hE dL_law_2987 rfl ?_
  refine x_iload (pc := 2988) (j := 5) hE dL_law_2988 rfl ?_
  refine x_iconst (pc := 2990) hE dL_law_2990 ?_
  refine x_iadd (pc := 2991) hE dL_law_2991 ?_
  refine x_sld (pc := 2992) hE hs dL_law_2992 hA (m := i + 1) (by omega) (by omega) ?_
  refine x_aload_n (pc := 2993) (j := 3) hE dL_law_2993 rfl ?_
  refine x_cw (pc := 2994) (as := [xr (0, 0), xi (sx xs (i + 1)), xr (2, 0)]) hE hW dL_law_2994 pl_L_team lk_RL_292 rfl (Nat.le_refl _) hk hn rfl ?_
  intro I1 c1 hO hA9 hC9
  have hA2 : c1.2.2.2 (2, 9) = b := (hA9 _ (by decide)).trans hA
  refine x_istore (pc := 2997) (lo9 := [(6, xi F.2), (0, xr (2, 9)), (1, xr (0, 0)), (2, xr (1, 0)), (3, xr (2, 0)), (4, xr (2, 1)), (5, xi (i : Int))]) hE dL_law_2997 (by decide) rfl ?_
  refine x_aload_n (pc := 2999) (j := 3) hE dL_law_2999 rfl ?_
  refine x_aload_n (pc := 3000) (j := 1) hE dL_law_3000 rfl ?_
  refine x_iload (pc := 3001) (j := 6) hE dL_law_3001 rfl ?_
  refine x_iconst (pc := 3003) hE dL_law_3003 ?_
  refine x_iadd (pc := 3004) hE dL_law_3004 ?_
  refine x_sld (pc := 3005) hE hs dL_law_3005 hA2 (m := i + 1) (by omega) (by omega) ?_
  refine x_cr (pc := 3006) (q := (1, 0)) (as := [xi (sx xs (i + 1))]) (st := []) hE dL_law_3006 pl_X10_team lk_RL_294 rfl (lvm1 _ (by decide)) rfl rfl (Nat.le_refl _) hk hn (Nat.le_of_ble_eq_true rfl) (hR I1 c1 hC9) ?_
  rintro v J9 ⟨hD9, hF⟩
  obtain ⟨e1, e2⟩ : v = F.1 ∧ J9 (1, 0) 32 = F.2 := ⟨congrArg Prod.fst hF, congrArg Prod.snd hF⟩
  subst e1
  refine x_istore (pc := 3009) (lo9 := [(7, xi F.1), (6, xi F.2), (0, xr (2, 9)), (1, xr (0, 0)), (2, xr (1, 0)), (3, xr (2, 0)), (4, xr (2, 1)), (5, xi (i : Int))]) hE dL_law_3009 (by decide) rfl ?_
  refine x_aload_n (pc := 3011) (j := 4) hE dL_law_3011 rfl ?_
  refine x_cr (pc := 3012) (q := (1, 0)) (as := []) (st := []) hE dL_law_3012 pl_X10_thrown lk_RL_177 rfl (lvm1 _ (by decide)) rfl rfl (Nat.le_refl _) hk hn (Nat.le_of_ble_eq_true rfl) (ok_thrown hX 11) ?_
  rintro t9 J9 ⟨rfl, rfl⟩
  show V 3015 [(7, xi F.1), (6, xi F.2), (0, xr (2, 9)), (1, xr (0, 0)), (2, xr (1, 0)), (3, xr (2, 0)), (4, xr (2, 1)), (5, xi (i : Int))] [xi (J9 (1, 0) 32)] (J9, xst c1) _ _
  rw [e2]
  refine x_iload (pc := 3015) (j := 1) hE dL_law_3015 rfl ?_
  refine x_icmp_same (pc := 3017) (tgt := 3022) hE dL_law_3017 rfl ?_
  refine x_iload (pc := 3022) (j := 1) hE dL_law_3022 rfl ?_
  refine x_in hE (fun hI9 => ?_)
  have hx : xin F.2 := e2 ▸ hI9 (1, 0) 32
  refine x_if_ne (pc := 3024) (tgt := 3039) hE dL_law_3024 rfl hx (fun _ => x_goto (pc := 3039) (tgt := 3918) hE dL_law_3039 rfl (x_loc hE [2, 3, 4, 5, 6, 7] rfl (next _ _ hD9 hA9))) (fun hz0 => ?_)
  refine x_aload_n (pc := 3027) (j := 5) hE dL_law_3027 rfl ?_
  refine x_iconst (pc := 3028) hE dL_law_3028 ?_
  refine x_laload (pc := 3029) (nn := 1) hE dL_law_3029 rfl (lvm2 _ (by decide)) (by decide) (by decide) ?_
  show V 3030 [(7, xi F.1), (6, xi F.2), (0, xr (2, 9)), (1, xr (0, 0)), (2, xr (1, 0)), (3, xr (2, 0)), (4, xr (2, 1)), (5, xi (i : Int))] [xl (c1.2.1 (2, 0) 0)] (J9, xst c1) _ _
  rw [hO hz0]
  refine x_iload (pc := 3030) (j := 0) hE dL_law_3030 rfl ?_
  refine x_i2l (pc := 3032) hE dL_law_3032 ?_
  refine x_lcmp (pc := 3033) hE dL_law_3033 ?_
  rw [lg_same]
  exact x_if_eq (pc := 3034) (tgt := 3039) hE dL_law_3034 rfl (by decide) (fun _ => x_goto (pc := 3039) (tgt := 3918) hE dL_law_3039 rfl (x_loc hE [2, 3, 4, 5, 6, 7] rfl (next _ _ hD9 hA9))) (fun h => absurd rfl h)

set_option maxRecDepth 100000 in
theorem lc_36 {X : xX} (hX : xBase X) {V : xT} {mc ms : Nat} (hE : xEng X m_L_law 12 mc ms V) {b L : Nat} {xs : Nat → Int32} (hs : LSc X b L xs) {c : xCx} {I : xIn} (hA : c.2.2.2 (2, 9) = b) {i : Nat} (hi : i + 7 ≤ L) {k n mc9 ms9 : Nat} (hk : k + mc9 ≤ mc) (hn : n + ms9 ≤ ms) {F : Int × Int} {C9 D9 : xIn → xCx → Prop} (hW : xMet X m_L_games 11 [xr (0, 0), xi (sx xs (i + 1)), xi (sx xs (i + 2)), xi (sx xs (i + 3)), xr (2, 0)] (I, xst c) mc9 ms9 (wPost c F.2 (fun c9 => c9.2.1 (2, 0) 0 = (Int32.ofInt F.1).toInt64) C9)) (hR : ∀ I9 c9, C9 I9 c9 → xRet rI X m_X10_games 11 [xr (1, 0), xi (sx xs (i + 1)), xi (sx xs (i + 2)), xi (sx xs (i + 3))] c9 I9 0 0 (fun v J => D9 J c9 ∧ (v, J (1, 0) 32) = F) xNo) (next : ∀ J c9, D9 J c9 → (∀ p : xP, p.1 < 3 → c9.2.2.2 p = c.2.2.2 p) → V 3918 [(0, xr (2, 9)), (1, xr (0, 0)), (2, xr (1, 0)), (3, xr (2, 0)), (4, xr (2, 1)), (5, xi (i : Int))] [] (J, xst c9) (k + mc9) (n + ms9)) : V 3042 [(0, xr (2, 9)), (1, xr (0, 0)), (2, xr (1, 0)), (3, xr (2, 0)), (4, xr (2, 1)), (5, xi (i : Int))] [] (I, xst c) k n := by
  refine x_aload_n (pc := 3042) (j := 1) hE dL_law_3042 rfl ?_
  refine x_aload_n (pc := 3043) (j := 0) hE dL_law_3043 rfl ?_
  refine x_iload (pc := 3044) (j := 5) hE dL_law_3044 rfl ?_
  refine x_iconst (pc := 3046) hE dL_law_3046 ?_
  refine x_iadd (pc := 3047) hE dL_law_3047 ?_
  refine x_sld (pc := 3048) hE hs dL_law_3048 hA (m := i + 1) (by omega) (by omega) ?_
  refine x_aload_n (pc := 3049) (j := 0) hE dL_law_3049 rfl ?_
  refine x_iload (pc := 3050) (j := 5) hE dL_law_3050 rfl ?_
  refine x_iconst (pc := 3052) hE dL_law_3052 ?_
  refine x_iadd (pc := 3053) hE dL_law_3053 ?_
  refine x_sld (pc := 3054) hE hs dL_law_3054 hA (m := i + 2) (by omega) (by omega) ?_
  refine x_aload_n (pc := 3055) (j := 0) hE dL_law_3055 rfl ?_
  refine x_iload (pc := 3056) (j := 5) hE dL_law_3056 rfl ?_
  refine x_iconst (pc := 3058) hE dL_law_3058 ?_
  refine x_iadd (pc := 3059) hE dL_law_3059 ?_
  refine x_sld (pc := 3060) hE hs dL_law_3060 hA (m := i + 3) (by omega) (by omega) ?_
  refine x_aload_n (pc := 3061) (j := 3) hE dL_law_3061 rfl ?_
  refine x_cw (pc := 3062) (as := [xr (0, 0), xi (sx xs (i + 1)), xi (sx xs (i + 2)), xi (sx xs (i + 3)), xr (2, 0)]) hE hW dL_law_3062 pl_L_games lk_RL_295 rfl (Nat.le_refl _) hk hn rfl ?_
  intro I1 c1 hO hA9 hC9
  have hA2 : c1.2.2.2 (2, 9) = b := (hA9 _ (by decide)).trans hA
  refine x_istore (pc := 3065) (lo9 := [(6, xi F.2), (0, xr (2, 9)), (1, xr (0, 0)), (2, xr (1, 0)), (3, xr (2, 0)), (4, xr (2, 1)), (5, xi (i : Int))]) hE dL_law_3065 (by decide) rfl ?_
  refine x_aload_n (pc := 3067) (j := 3) hE dL_law_3067 rfl ?_
  refine x_aload_n (pc := 3068) (j := 1) hE dL_law_3068 rfl ?_
  refine x_iload (pc := 3069) (j := 6) hE dL_law_3069 rfl ?_
  refine x_iconst (pc := 3071) hE dL_law_3071 ?_
  refine x_iadd (pc := 3072) hE dL_law_3072 ?_
  refine x_sld (pc := 3073) hE hs dL_law_3073 hA2 (m := i + 1) (by omega) (by omega) ?_
  refine x_aload_n (pc := 3074) (j := 1) hE dL_law_3074 rfl ?_
  refine x_iload (pc := 3075) (j := 6) hE dL_law_3075 rfl ?_
  refine x_iconst (pc := 3077) hE dL_law_3077 ?_
  refine x_iadd (pc := 3078) hE dL_law_3078 ?_
  refine x_sld (pc := 3079) hE hs dL_law_3079 hA2 (m := i + 2) (by omega) (by omega) ?_
  refine x_aload_n (pc := 3080) (j := 1) hE dL_law_3080 rfl ?_
  refine x_iload (pc := 3081) (j := 6) hE dL_law_3081 rfl ?_
  refine x_iconst (pc := 3083) hE dL_law_3083 ?_
  refine x_iadd (pc := 3084) hE dL_law_3084 ?_
  refine x_sld (pc := 3085) hE hs dL_law_3085 hA2 (m := i + 3) (by omega) (by omega) ?_
  refine x_cr (pc := 3086) (q := (1, 0)) (as := [xi (sx xs (i + 1)), xi (sx xs (i + 2)), xi (sx xs (i + 3))]) (st := []) hE dL_law_3086 pl_X10_games lk_RL_297 rfl (lvm1 _ (by decide)) rfl rfl (Nat.le_refl _) hk hn (Nat.le_of_ble_eq_true rfl) (hR I1 c1 hC9) ?_
  rintro v J9 ⟨hD9, hF⟩
  obtain ⟨e1, e2⟩ : v = F.1 ∧ J9 (1, 0) 32 = F.2 := ⟨congrArg Prod.fst hF, congrArg Prod.snd hF⟩
  subst e1
  refine x_istore (pc := 3089) (lo9 := [(7, xi F.1), (6, xi F.2), (0, xr (2, 9)), (1, xr (0, 0)), (2, xr (1, 0)), (3, xr (2, 0)), (4, xr (2, 1)), (5, xi (i : Int))]) hE dL_law_3089 (by decide) rfl ?_
  refine x_aload_n (pc := 3091) (j := 4) hE dL_law_3091 rfl ?_
  refine x_cr (pc := 3092) (q := (1, 0)) (as := []) (st := []) hE dL_law_3092 pl_X10_thrown lk_RL_177 rfl (lvm1 _ (by decide)) rfl rfl (Nat.le_refl _) hk hn (Nat.le_of_ble_eq_true rfl) (ok_thrown hX 11) ?_
  rintro t9 J9 ⟨rfl, rfl⟩
  show V 3095 [(7, xi F.1), (6, xi F.2), (0, xr (2, 9)), (1, xr (0, 0)), (2, xr (1, 0)), (3, xr (2, 0)), (4, xr (2, 1)), (5, xi (i : Int))] [xi (J9 (1, 0) 32)] (J9, xst c1) _ _
  rw [e2]
  refine x_iload (pc := 3095) (j := 1) hE dL_law_3095 rfl ?_
  refine x_icmp_same (pc := 3097) (tgt := 3102) hE dL_law_3097 rfl ?_
  refine x_iload (pc := 3102) (j := 1) hE dL_law_3102 rfl ?_
  refine x_in hE (fun hI9 => ?_)
  have hx : xin F.2 := e2 ▸ hI9 (1, 0) 32
  refine x_if_ne (pc := 3104) (tgt := 3119) hE dL_law_3104 rfl hx (fun _ => x_goto (pc := 3119) (tgt := 3918) hE dL_law_3119 rfl (x_loc hE [2, 3, 4, 5, 6, 7] rfl (next _ _ hD9 hA9))) (fun hz0 => ?_)
  refine x_aload_n (pc := 3107) (j := 5) hE dL_law_3107 rfl ?_
  refine x_iconst (pc := 3108) hE dL_law_3108 ?_
  refine x_laload (pc := 3109) (nn := 1) hE dL_law_3109 rfl (lvm2 _ (by decide)) (by decide) (by decide) ?_
  show V 3110 [(7, xi F.1), (6, xi F.2), (0, xr (2, 9)), (1, xr (0, 0)), (2, xr (1, 0)), (3, xr (2, 0)), (4, xr (2, 1)), (5, xi (i : Int))] [xl (c1.2.1 (2, 0) 0)] (J9, xst c1) _ _
  rw [hO hz0]
  refine x_iload (pc := 3110) (j := 0) hE dL_law_3110 rfl ?_
  refine x_i2l (pc := 3112) hE dL_law_3112 ?_
  refine x_lcmp (pc := 3113) hE dL_law_3113 ?_
  rw [lg_same]
  exact x_if_eq (pc := 3114) (tgt := 3119) hE dL_law_3114 rfl (by decide) (fun _ => x_goto (pc := 3119) (tgt := 3918) hE dL_law_3119 rfl (x_loc hE [2, 3, 4, 5, 6, 7] rfl (next _ _ hD9 hA9))) (fun h => absurd rfl h)

set_option maxRecDepth 100000 in
theorem lc_37 {X : xX} (hX : xBase X) {V : xT} {mc ms : Nat} (hE : xEng X m_L_law 12 mc ms V) {b L : Nat} {xs : Nat → Int32} (hs : LSc X b L xs) {c : xCx} {I : xIn} (hA : c.2.2.2 (2, 9) = b) {i : Nat} (hi : i + 7 ≤ L) {k n mc9 ms9 : Nat} (hk : k + mc9 ≤ mc) (hn : n + ms9 ≤ ms) {F : Bool × Int} {C9 D9 : xIn → xCx → Prop} (hW : xMet X m_L_canWin 11 [xr (0, 0), xi (sx xs (i + 1)), xr (2, 0)] (I, xst c) mc9 ms9 (wPost c F.2 (fun c9 => c9.2.1 (2, 0) 0 = blV F.1) C9)) (hR : ∀ I9 c9, C9 I9 c9 → xRet rB X m_X10_canWin 11 [xr (1, 0), xi (sx xs (i + 1))] c9 I9 0 0 (fun v J => D9 J c9 ∧ (v, J (1, 0) 32) = F) xNo) (next : ∀ J c9, D9 J c9 → (∀ p : xP, p.1 < 3 → c9.2.2.2 p = c.2.2.2 p) → V 3918 [(0, xr (2, 9)), (1, xr (0, 0)), (2, xr (1, 0)), (3, xr (2, 0)), (4, xr (2, 1)), (5, xi (i : Int))] [] (J, xst c9) (k + mc9) (n + ms9)) : V 3122 [(0, xr (2, 9)), (1, xr (0, 0)), (2, xr (1, 0)), (3, xr (2, 0)), (4, xr (2, 1)), (5, xi (i : Int))] [] (I, xst c) k n := by
  refine x_aload_n (pc := 3122) (j := 1) hE dL_law_3122 rfl ?_
  refine x_aload_n (pc := 3123) (j := 0) hE dL_law_3123 rfl ?_
  refine x_iload (pc := 3124) (j := 5) hE dL_law_3124 rfl ?_
  refine x_iconst (pc := 3126) hE dL_law_3126 ?_
  refine x_iadd (pc := 3127) hE dL_law_3127 ?_
  refine x_sld (pc := 3128) hE hs dL_law_3128 hA (m := i + 1) (by omega) (by omega) ?_
  refine x_aload_n (pc := 3129) (j := 3) hE dL_law_3129 rfl ?_
  refine x_cw (pc := 3130) (as := [xr (0, 0), xi (sx xs (i + 1)), xr (2, 0)]) hE hW dL_law_3130 pl_L_canWin lk_RL_298 rfl (Nat.le_refl _) hk hn rfl ?_
  intro I1 c1 hO hA9 hC9
  have hA2 : c1.2.2.2 (2, 9) = b := (hA9 _ (by decide)).trans hA
  refine x_istore (pc := 3133) (lo9 := [(6, xi F.2), (0, xr (2, 9)), (1, xr (0, 0)), (2, xr (1, 0)), (3, xr (2, 0)), (4, xr (2, 1)), (5, xi (i : Int))]) hE dL_law_3133 (by decide) rfl ?_
  refine x_aload_n (pc := 3135) (j := 3) hE dL_law_3135 rfl ?_
  refine x_aload_n (pc := 3136) (j := 1) hE dL_law_3136 rfl ?_
  refine x_iload (pc := 3137) (j := 6) hE dL_law_3137 rfl ?_
  refine x_iconst (pc := 3139) hE dL_law_3139 ?_
  refine x_iadd (pc := 3140) hE dL_law_3140 ?_
  refine x_sld (pc := 3141) hE hs dL_law_3141 hA2 (m := i + 1) (by omega) (by omega) ?_
  refine x_cr (pc := 3142) (q := (1, 0)) (as := [xi (sx xs (i + 1))]) (st := []) hE dL_law_3142 pl_X10_canWin lk_RL_300 rfl (lvm1 _ (by decide)) rfl rfl (Nat.le_refl _) hk hn (Nat.le_of_ble_eq_true rfl) (hR I1 c1 hC9) ?_
  rintro v J9 ⟨hD9, hF⟩
  obtain ⟨e1, e2⟩ : v = F.1 ∧ J9 (1, 0) 32 = F.2 := ⟨congrArg Prod.fst hF, congrArg Prod.snd hF⟩
  subst e1
  refine x_istore (pc := 3145) (lo9 := [(7, xi (xbi F.1)), (6, xi F.2), (0, xr (2, 9)), (1, xr (0, 0)), (2, xr (1, 0)), (3, xr (2, 0)), (4, xr (2, 1)), (5, xi (i : Int))]) hE dL_law_3145 (by decide) rfl ?_
  refine x_aload_n (pc := 3147) (j := 4) hE dL_law_3147 rfl ?_
  refine x_cr (pc := 3148) (q := (1, 0)) (as := []) (st := []) hE dL_law_3148 pl_X10_thrown lk_RL_177 rfl (lvm1 _ (by decide)) rfl rfl (Nat.le_refl _) hk hn (Nat.le_of_ble_eq_true rfl) (ok_thrown hX 11) ?_
  rintro t9 J9 ⟨rfl, rfl⟩
  show V 3151 [(7, xi (xbi F.1)), (6, xi F.2), (0, xr (2, 9)), (1, xr (0, 0)), (2, xr (1, 0)), (3, xr (2, 0)), (4, xr (2, 1)), (5, xi (i : Int))] [xi (J9 (1, 0) 32)] (J9, xst c1) _ _
  rw [e2]
  refine x_iload (pc := 3151) (j := 1) hE dL_law_3151 rfl ?_
  refine x_icmp_same (pc := 3153) (tgt := 3158) hE dL_law_3153 rfl ?_
  refine x_iload (pc := 3158) (j := 1) hE dL_law_3158 rfl ?_
  refine x_in hE (fun hI9 => ?_)
  have hx : xin F.2 := e2 ▸ hI9 (1, 0) 32
  refine x_if_ne (pc := 3160) (tgt := 3182) hE dL_law_3160 rfl hx (fun _ => x_goto (pc := 3182) (tgt := 3918) hE dL_law_3182 rfl (x_loc hE [2, 3, 4, 5, 6, 7] rfl (next _ _ hD9 hA9))) (fun hz0 => ?_)
  refine x_aload_n (pc := 3163) (j := 5) hE dL_law_3163 rfl ?_
  refine x_iconst (pc := 3164) hE dL_law_3164 ?_
  refine x_laload (pc := 3165) (nn := 1) hE dL_law_3165 rfl (lvm2 _ (by decide)) (by decide) (by decide) ?_
  show V 3166 [(7, xi (xbi F.1)), (6, xi F.2), (0, xr (2, 9)), (1, xr (0, 0)), (2, xr (1, 0)), (3, xr (2, 0)), (4, xr (2, 1)), (5, xi (i : Int))] [xl (c1.2.1 (2, 0) 0)] (J9, xst c1) _ _
  rw [hO hz0]
  refine x_iload (pc := 3166) (j := 0) hE dL_law_3166 rfl ?_
  have hb9 : ∀ st9, (F.1 = false → V 3176 [(7, xi (xbi F.1)), (6, xi F.2), (0, xr (2, 9)), (1, xr (0, 0)), (2, xr (1, 0)), (3, xr (2, 0)), (4, xr (2, 1)), (5, xi (i : Int))] (xl (Int64.ofNat ((0 : Fin 2) : Nat)) :: st9) (J9, xst c1) (k + mc9) (n + ms9)) → True := fun _ _ => trivial
  suffices hS9 : V 3176 [(7, xi (xbi F.1)), (6, xi F.2), (0, xr (2, 9)), (1, xr (0, 0)), (2, xr (1, 0)), (3, xr (2, 0)), (4, xr (2, 1)), (5, xi (i : Int))] [xl (blV F.1), xl (blV F.1)] (J9, xst c1) (k + mc9) (n + ms9) from ?_
  · refine x_ifb_eq (pc := 3168) (tgt := 3175) hE dL_law_3168 rfl (fun hb => ?_) (fun hb => ?_)
    · rw [hb] at hS9 ⊢
      exact x_lconst (pc := 3175) hE dL_law_3175 hS9
    · rw [hb] at hS9 ⊢
      exact x_lconst (pc := 3171) hE dL_law_3171 (x_goto (pc := 3172) (tgt := 3176) hE dL_law_3172 rfl hS9)
  refine x_lcmp (pc := 3176) hE dL_law_3176 ?_
  rw [lg_same]
  exact x_if_eq (pc := 3177) (tgt := 3182) hE dL_law_3177 rfl (by decide) (fun _ => x_goto (pc := 3182) (tgt := 3918) hE dL_law_3182 rfl (x_loc hE [2, 3, 4, 5, 6, 7] rfl (next _ _ hD9 hA9))) (fun h => absurd rfl h)

set_option maxRecDepth 100000 in
theorem lc_38 {X : xX} (hX : xBase X) {V : xT} {mc ms : Nat} (hE : xEng X m_L_law 12 mc ms V) {b L : Nat} {xs : Nat → Int32} (hs : LSc X b L xs) {c : xCx} {I : xIn} (hA : c.2.2.2 (2, 9) = b) {i : Nat} (hi : i + 7 ≤ L) {k n mc9 ms9 : Nat} (hk : k + mc9 ≤ mc) (hn : n + ms9 ≤ ms) {F : Int × Int} {C9 D9 : xIn → xCx → Prop} (hW : xMet X m_L_against 11 [xr (0, 0), xi (sx xs (i + 1)), xr (2, 0)] (I, xst c) mc9 ms9 (wPost c F.2 (fun c9 => c9.2.1 (2, 0) 0 = (Int32.ofInt F.1).toInt64) C9)) (hR : ∀ I9 c9, C9 I9 c9 → xRet rI X m_X10_against 11 [xr (1, 0), xi (sx xs (i + 1))] c9 I9 0 0 (fun v J => D9 J c9 ∧ (v, J (1, 0) 32) = F) xNo) (next : ∀ J c9, D9 J c9 → (∀ p : xP, p.1 < 3 → c9.2.2.2 p = c.2.2.2 p) → V 3918 [(0, xr (2, 9)), (1, xr (0, 0)), (2, xr (1, 0)), (3, xr (2, 0)), (4, xr (2, 1)), (5, xi (i : Int))] [] (J, xst c9) (k + mc9) (n + ms9)) : V 3185 [(0, xr (2, 9)), (1, xr (0, 0)), (2, xr (1, 0)), (3, xr (2, 0)), (4, xr (2, 1)), (5, xi (i : Int))] [] (I, xst c) k n := by
  refine x_aload_n (pc := 3185) (j := 1) hE dL_law_3185 rfl ?_
  refine x_aload_n (pc := 3186) (j := 0) hE dL_law_3186 rfl ?_
  refine x_iload (pc := 3187) (j := 5) hE dL_law_3187 rfl ?_
  refine x_iconst (pc := 3189) hE dL_law_3189 ?_
  refine x_iadd (pc := 3190) hE dL_law_3190 ?_
  refine x_sld (pc := 3191) hE hs dL_law_3191 hA (m := i + 1) (by omega) (by omega) ?_
  refine x_aload_n (pc := 3192) (j := 3) hE dL_law_3192 rfl ?_
  refine x_cw (pc := 3193) (as := [xr (0, 0), xi (sx xs (i + 1)), xr (2, 0)]) hE hW dL_law_3193 pl_L_against lk_RL_301 rfl (Nat.le_refl _) hk hn rfl ?_
  intro I1 c1 hO hA9 hC9
  have hA2 : c1.2.2.2 (2, 9) = b := (hA9 _ (by decide)).trans hA
  refine x_istore (pc := 3196) (lo9 := [(6, xi F.2), (0, xr (2, 9)), (1, xr (0, 0)), (2, xr (1, 0)), (3, xr (2, 0)), (4, xr (2, 1)), (5, xi (i : Int))]) hE dL_law_3196 (by decide) rfl ?_
  refine x_aload_n (pc := 3198) (j := 3) hE dL_law_3198 rfl ?_
  refine x_aload_n (pc := 3199) (j := 1) hE dL_law_3199 rfl ?_
  refine x_iload (pc := 3200) (j := 6) hE dL_law_3200 rfl ?_
  refine x_iconst (pc := 3202) hE dL_law_3202 ?_
  refine x_iadd (pc := 3203) hE dL_law_3203 ?_
  refine x_sld (pc := 3204) hE hs dL_law_3204 hA2 (m := i + 1) (by omega) (by omega) ?_
  refine x_cr (pc := 3205) (q := (1, 0)) (as := [xi (sx xs (i + 1))]) (st := []) hE dL_law_3205 pl_X10_against lk_RL_303 rfl (lvm1 _ (by decide)) rfl rfl (Nat.le_refl _) hk hn (Nat.le_of_ble_eq_true rfl) (hR I1 c1 hC9) ?_
  rintro v J9 ⟨hD9, hF⟩
  obtain ⟨e1, e2⟩ : v = F.1 ∧ J9 (1, 0) 32 = F.2 := ⟨congrArg Prod.fst hF, congrArg Prod.snd hF⟩
  subst e1
  refine x_istore (pc := 3208) (lo9 := [(7, xi F.1), (6, xi F.2), (0, xr (2, 9)), (1, xr (0, 0)), (2, xr (1, 0)), (3, xr (2, 0)), (4, xr (2, 1)), (5, xi (i : Int))]) hE dL_law_3208 (by decide) rfl ?_
  refine x_aload_n (pc := 3210) (j := 4) hE dL_law_3210 rfl ?_
  refine x_cr (pc := 3211) (q := (1, 0)) (as := []) (st := []) hE dL_law_3211 pl_X10_thrown lk_RL_177 rfl (lvm1 _ (by decide)) rfl rfl (Nat.le_refl _) hk hn (Nat.le_of_ble_eq_true rfl) (ok_thrown hX 11) ?_
  rintro t9 J9 ⟨rfl, rfl⟩
  show V 3214 [(7, xi F.1), (6, xi F.2), (0, xr (2, 9)), (1, xr (0, 0)), (2, xr (1, 0)), (3, xr (2, 0)), (4, xr (2, 1)), (5, xi (i : Int))] [xi (J9 (1, 0) 32)] (J9, xst c1) _ _
  rw [e2]
  refine x_iload (pc := 3214) (j := 1) hE dL_law_3214 rfl ?_
  refine x_icmp_same (pc := 3216) (tgt := 3221) hE dL_law_3216 rfl ?_
  refine x_iload (pc := 3221) (j := 1) hE dL_law_3221 rfl ?_
  refine x_in hE (fun hI9 => ?_)
  have hx : xin F.2 := e2 ▸ hI9 (1, 0) 32
  refine x_if_ne (pc := 3223) (tgt := 3238) hE dL_law_3223 rfl hx (fun _ => x_goto (pc := 3238) (tgt := 3918) hE dL_law_3238 rfl (x_loc hE [2, 3, 4, 5, 6, 7] rfl (next _ _ hD9 hA9))) (fun hz0 => ?_)
  refine x_aload_n (pc := 3226) (j := 5) hE dL_law_3226 rfl ?_
  refine x_iconst (pc := 3227) hE dL_law_3227 ?_
  refine x_laload (pc := 3228) (nn := 1) hE dL_law_3228 rfl (lvm2 _ (by decide)) (by decide) (by decide) ?_
  show V 3229 [(7, xi F.1), (6, xi F.2), (0, xr (2, 9)), (1, xr (0, 0)), (2, xr (1, 0)), (3, xr (2, 0)), (4, xr (2, 1)), (5, xi (i : Int))] [xl (c1.2.1 (2, 0) 0)] (J9, xst c1) _ _
  rw [hO hz0]
  refine x_iload (pc := 3229) (j := 0) hE dL_law_3229 rfl ?_
  refine x_i2l (pc := 3231) hE dL_law_3231 ?_
  refine x_lcmp (pc := 3232) hE dL_law_3232 ?_
  rw [lg_same]
  exact x_if_eq (pc := 3233) (tgt := 3238) hE dL_law_3233 rfl (by decide) (fun _ => x_goto (pc := 3238) (tgt := 3918) hE dL_law_3238 rfl (x_loc hE [2, 3, 4, 5, 6, 7] rfl (next _ _ hD9 hA9))) (fun h => absurd rfl h)

set_option maxRecDepth 100000 in
theorem lc_39 {X : xX} (hX : xBase X) {V : xT} {mc ms : Nat} (hE : xEng X m_L_law 12 mc ms V) {b L : Nat} {xs : Nat → Int32} (hs : LSc X b L xs) {c : xCx} {I : xIn} (hA : c.2.2.2 (2, 9) = b) {i : Nat} (hi : i + 7 ≤ L) {k n mc9 ms9 : Nat} (hk : k + mc9 ≤ mc) (hn : n + ms9 ≤ ms) {F : Int × Int} {C9 D9 : xIn → xCx → Prop} (hW : xMet X m_L_table 11 [xr (0, 0), xi (sx xs (i + 1)), xi (sx xs (i + 2)), xr (2, 0)] (I, xst c) mc9 ms9 (wPost c F.2 (fun c9 => c9.2.1 (2, 0) 0 = (Int32.ofInt F.1).toInt64) C9)) (hR : ∀ I9 c9, C9 I9 c9 → xRet rI X m_X10_table 11 [xr (1, 0), xi (sx xs (i + 1)), xi (sx xs (i + 2))] c9 I9 0 0 (fun v J => D9 J c9 ∧ (v, J (1, 0) 32) = F) xNo) (next : ∀ J c9, D9 J c9 → (∀ p : xP, p.1 < 3 → c9.2.2.2 p = c.2.2.2 p) → V 3918 [(0, xr (2, 9)), (1, xr (0, 0)), (2, xr (1, 0)), (3, xr (2, 0)), (4, xr (2, 1)), (5, xi (i : Int))] [] (J, xst c9) (k + mc9) (n + ms9)) : V 3241 [(0, xr (2, 9)), (1, xr (0, 0)), (2, xr (1, 0)), (3, xr (2, 0)), (4, xr (2, 1)), (5, xi (i : Int))] [] (I, xst c) k n := by
  refine x_aload_n (pc := 3241) (j := 1) hE dL_law_3241 rfl ?_
  refine x_aload_n (pc := 3242) (j := 0) hE dL_law_3242 rfl ?_
  refine x_iload (pc := 3243) (j := 5) hE dL_law_3243 rfl ?_
  refine x_iconst (pc := 3245) hE dL_law_3245 ?_
  refine x_iadd (pc := 3246) hE dL_law_3246 ?_
  refine x_sld (pc := 3247) hE hs dL_law_3247 hA (m := i + 1) (by omega) (by omega) ?_
  refine x_aload_n (pc := 3248) (j := 0) hE dL_law_3248 rfl ?_
  refine x_iload (pc := 3249) (j := 5) hE dL_law_3249 rfl ?_
  refine x_iconst (pc := 3251) hE dL_law_3251 ?_
  refine x_iadd (pc := 3252) hE dL_law_3252 ?_
  refine x_sld (pc := 3253) hE hs dL_law_3253 hA (m := i + 2) (by omega) (by omega) ?_
  refine x_aload_n (pc := 3254) (j := 3) hE dL_law_3254 rfl ?_
  refine x_cw (pc := 3255) (as := [xr (0, 0), xi (sx xs (i + 1)), xi (sx xs (i + 2)), xr (2, 0)]) hE hW dL_law_3255 pl_L_table lk_RL_304 rfl (Nat.le_refl _) hk hn rfl ?_
  intro I1 c1 hO hA9 hC9
  have hA2 : c1.2.2.2 (2, 9) = b := (hA9 _ (by decide)).trans hA
  refine x_istore (pc := 3258) (lo9 := [(6, xi F.2), (0, xr (2, 9)), (1, xr (0, 0)), (2, xr (1, 0)), (3, xr (2, 0)), (4, xr (2, 1)), (5, xi (i : Int))]) hE dL_law_3258 (by decide) rfl ?_
  refine x_aload_n (pc := 3260) (j := 3) hE dL_law_3260 rfl ?_
  refine x_aload_n (pc := 3261) (j := 1) hE dL_law_3261 rfl ?_
  refine x_iload (pc := 3262) (j := 6) hE dL_law_3262 rfl ?_
  refine x_iconst (pc := 3264) hE dL_law_3264 ?_
  refine x_iadd (pc := 3265) hE dL_law_3265 ?_
  refine x_sld (pc := 3266) hE hs dL_law_3266 hA2 (m := i + 1) (by omega) (by omega) ?_
  refine x_aload_n (pc := 3267) (j := 1) hE dL_law_3267 rfl ?_
  refine x_iload (pc := 3268) (j := 6) hE dL_law_3268 rfl ?_
  refine x_iconst (pc := 3270) hE dL_law_3270 ?_
  refine x_iadd (pc := 3271) hE dL_law_3271 ?_
  refine x_sld (pc := 3272) hE hs dL_law_3272 hA2 (m := i + 2) (by omega) (by omega) ?_
  refine x_cr (pc := 3273) (q := (1, 0)) (as := [xi (sx xs (i + 1)), xi (sx xs (i + 2))]) (st := []) hE dL_law_3273 pl_X10_table lk_RL_306 rfl (lvm1 _ (by decide)) rfl rfl (Nat.le_refl _) hk hn (Nat.le_of_ble_eq_true rfl) (hR I1 c1 hC9) ?_
  rintro v J9 ⟨hD9, hF⟩
  obtain ⟨e1, e2⟩ : v = F.1 ∧ J9 (1, 0) 32 = F.2 := ⟨congrArg Prod.fst hF, congrArg Prod.snd hF⟩
  subst e1
  refine x_istore (pc := 3276) (lo9 := [(7, xi F.1), (6, xi F.2), (0, xr (2, 9)), (1, xr (0, 0)), (2, xr (1, 0)), (3, xr (2, 0)), (4, xr (2, 1)), (5, xi (i : Int))]) hE dL_law_3276 (by decide) rfl ?_
  refine x_aload_n (pc := 3278) (j := 4) hE dL_law_3278 rfl ?_
  refine x_cr (pc := 3279) (q := (1, 0)) (as := []) (st := []) hE dL_law_3279 pl_X10_thrown lk_RL_177 rfl (lvm1 _ (by decide)) rfl rfl (Nat.le_refl _) hk hn (Nat.le_of_ble_eq_true rfl) (ok_thrown hX 11) ?_
  rintro t9 J9 ⟨rfl, rfl⟩
  show V 3282 [(7, xi F.1), (6, xi F.2), (0, xr (2, 9)), (1, xr (0, 0)), (2, xr (1, 0)), (3, xr (2, 0)), (4, xr (2, 1)), (5, xi (i : Int))] [xi (J9 (1, 0) 32)] (J9, xst c1) _ _
  rw [e2]
  refine x_iload (pc := 3282) (j := 1) hE dL_law_3282 rfl ?_
  refine x_icmp_same (pc := 3284) (tgt := 3289) hE dL_law_3284 rfl ?_
  refine x_iload (pc := 3289) (j := 1) hE dL_law_3289 rfl ?_
  refine x_in hE (fun hI9 => ?_)
  have hx : xin F.2 := e2 ▸ hI9 (1, 0) 32
  refine x_if_ne (pc := 3291) (tgt := 3306) hE dL_law_3291 rfl hx (fun _ => x_goto (pc := 3306) (tgt := 3918) hE dL_law_3306 rfl (x_loc hE [2, 3, 4, 5, 6, 7] rfl (next _ _ hD9 hA9))) (fun hz0 => ?_)
  refine x_aload_n (pc := 3294) (j := 5) hE dL_law_3294 rfl ?_
  refine x_iconst (pc := 3295) hE dL_law_3295 ?_
  refine x_laload (pc := 3296) (nn := 1) hE dL_law_3296 rfl (lvm2 _ (by decide)) (by decide) (by decide) ?_
  show V 3297 [(7, xi F.1), (6, xi F.2), (0, xr (2, 9)), (1, xr (0, 0)), (2, xr (1, 0)), (3, xr (2, 0)), (4, xr (2, 1)), (5, xi (i : Int))] [xl (c1.2.1 (2, 0) 0)] (J9, xst c1) _ _
  rw [hO hz0]
  refine x_iload (pc := 3297) (j := 0) hE dL_law_3297 rfl ?_
  refine x_i2l (pc := 3299) hE dL_law_3299 ?_
  refine x_lcmp (pc := 3300) hE dL_law_3300 ?_
  rw [lg_same]
  exact x_if_eq (pc := 3301) (tgt := 3306) hE dL_law_3301 rfl (by decide) (fun _ => x_goto (pc := 3306) (tgt := 3918) hE dL_law_3306 rfl (x_loc hE [2, 3, 4, 5, 6, 7] rfl (next _ _ hD9 hA9))) (fun h => absurd rfl h)

set_option maxRecDepth 100000 in
theorem lc_40 {X : xX} (hX : xBase X) {V : xT} {mc ms : Nat} (hE : xEng X m_L_law 12 mc ms V) {b L : Nat} {xs : Nat → Int32} (hs : LSc X b L xs) {c : xCx} {I : xIn} (hA : c.2.2.2 (2, 9) = b) {i : Nat} (hi : i + 7 ≤ L) {k n mc9 ms9 : Nat} (hk : k + mc9 ≤ mc) (hn : n + ms9 ≤ ms) {F : Int × Int} {C9 D9 : xIn → xCx → Prop} (hW : xMet X m_L_tell 11 [xr (0, 0), xi (sx xs (i + 1)), xi (sx xs (i + 2)), xi (sx xs (i + 3)), xr (2, 0)] (I, xst c) mc9 ms9 (wPost c F.2 (fun c9 => c9.2.1 (2, 0) 0 = (Int32.ofInt F.1).toInt64) C9)) (hR : ∀ I9 c9, C9 I9 c9 → xRet rI X m_X10_tell 11 [xr (1, 0), xi (sx xs (i + 1)), xi (sx xs (i + 2)), xi (sx xs (i + 3))] c9 I9 0 0 (fun v J => D9 J c9 ∧ (v, J (1, 0) 32) = F) xNo) (next : ∀ J c9, D9 J c9 → (∀ p : xP, p.1 < 3 → c9.2.2.2 p = c.2.2.2 p) → V 3918 [(0, xr (2, 9)), (1, xr (0, 0)), (2, xr (1, 0)), (3, xr (2, 0)), (4, xr (2, 1)), (5, xi (i : Int))] [] (J, xst c9) (k + mc9) (n + ms9)) : V 3309 [(0, xr (2, 9)), (1, xr (0, 0)), (2, xr (1, 0)), (3, xr (2, 0)), (4, xr (2, 1)), (5, xi (i : Int))] [] (I, xst c) k n := by
  refine x_aload_n (pc := 3309) (j := 1) hE dL_law_3309 rfl ?_
  refine x_aload_n (pc := 3310) (j := 0) hE dL_law_3310 rfl ?_
  refine x_iload (pc := 3311) (j := 5) hE dL_law_3311 rfl ?_
  refine x_iconst (pc := 3313) hE dL_law_3313 ?_
  refine x_iadd (pc := 3314) hE dL_law_3314 ?_
  refine x_sld (pc := 3315) hE hs dL_law_3315 hA (m := i + 1) (by omega) (by omega) ?_
  refine x_aload_n (pc := 3316) (j := 0) hE dL_law_3316 rfl ?_
  refine x_iload (pc := 3317) (j := 5) hE dL_law_3317 rfl ?_
  refine x_iconst (pc := 3319) hE dL_law_3319 ?_
  refine x_iadd (pc := 3320) hE dL_law_3320 ?_
  refine x_sld (pc := 3321) hE hs dL_law_3321 hA (m := i + 2) (by omega) (by omega) ?_
  refine x_aload_n (pc := 3322) (j := 0) hE dL_law_3322 rfl ?_
  refine x_iload (pc := 3323) (j := 5) hE dL_law_3323 rfl ?_
  refine x_iconst (pc := 3325) hE dL_law_3325 ?_
  refine x_iadd (pc := 3326) hE dL_law_3326 ?_
  refine x_sld (pc := 3327) hE hs dL_law_3327 hA (m := i + 3) (by omega) (by omega) ?_
  refine x_aload_n (pc := 3328) (j := 3) hE dL_law_3328 rfl ?_
  refine x_cw (pc := 3329) (as := [xr (0, 0), xi (sx xs (i + 1)), xi (sx xs (i + 2)), xi (sx xs (i + 3)), xr (2, 0)]) hE hW dL_law_3329 pl_L_tell lk_RL_307 rfl (Nat.le_refl _) hk hn rfl ?_
  intro I1 c1 hO hA9 hC9
  have hA2 : c1.2.2.2 (2, 9) = b := (hA9 _ (by decide)).trans hA
  refine x_istore (pc := 3332) (lo9 := [(6, xi F.2), (0, xr (2, 9)), (1, xr (0, 0)), (2, xr (1, 0)), (3, xr (2, 0)), (4, xr (2, 1)), (5, xi (i : Int))]) hE dL_law_3332 (by decide) rfl ?_
  refine x_aload_n (pc := 3334) (j := 3) hE dL_law_3334 rfl ?_
  refine x_aload_n (pc := 3335) (j := 1) hE dL_law_3335 rfl ?_
  refine x_iload (pc := 3336) (j := 6) hE dL_law_3336 rfl ?_
  refine x_iconst (pc := 3338) hE dL_law_3338 ?_
  refine x_iadd (pc := 3339) hE dL_law_3339 ?_
  refine x_sld (pc := 3340) hE hs dL_law_3340 hA2 (m := i + 1) (by omega) (by omega) ?_
  refine x_aload_n (pc := 3341) (j := 1) hE dL_law_3341 rfl ?_
  refine x_iload (pc := 3342) (j := 6) hE dL_law_3342 rfl ?_
  refine x_iconst (pc := 3344) hE dL_law_3344 ?_
  refine x_iadd (pc := 3345) hE dL_law_3345 ?_
  refine x_sld (pc := 3346) hE hs dL_law_3346 hA2 (m := i + 2) (by omega) (by omega) ?_
  refine x_aload_n (pc := 3347) (j := 1) hE dL_law_3347 rfl ?_
  refine x_iload (pc := 3348) (j := 6) hE dL_law_3348 rfl ?_
  refine x_iconst (pc := 3350) hE dL_law_3350 ?_
  refine x_iadd (pc := 3351) hE dL_law_3351 ?_
  refine x_sld (pc := 3352) hE hs dL_law_3352 hA2 (m := i + 3) (by omega) (by omega) ?_
  refine x_cr (pc := 3353) (q := (1, 0)) (as := [xi (sx xs (i + 1)), xi (sx xs (i + 2)), xi (sx xs (i + 3))]) (st := []) hE dL_law_3353 pl_X10_tell lk_RL_309 rfl (lvm1 _ (by decide)) rfl rfl (Nat.le_refl _) hk hn (Nat.le_of_ble_eq_true rfl) (hR I1 c1 hC9) ?_
  rintro v J9 ⟨hD9, hF⟩
  obtain ⟨e1, e2⟩ : v = F.1 ∧ J9 (1, 0) 32 = F.2 := ⟨congrArg Prod.fst hF, congrArg Prod.snd hF⟩
  subst e1
  refine x_istore (pc := 3356) (lo9 := [(7, xi F.1), (6, xi F.2), (0, xr (2, 9)), (1, xr (0, 0)), (2, xr (1, 0)), (3, xr (2, 0)), (4, xr (2, 1)), (5, xi (i : Int))]) hE dL_law_3356 (by decide) rfl ?_
  refine x_aload_n (pc := 3358) (j := 4) hE dL_law_3358 rfl ?_
  refine x_cr (pc := 3359) (q := (1, 0)) (as := []) (st := []) hE dL_law_3359 pl_X10_thrown lk_RL_177 rfl (lvm1 _ (by decide)) rfl rfl (Nat.le_refl _) hk hn (Nat.le_of_ble_eq_true rfl) (ok_thrown hX 11) ?_
  rintro t9 J9 ⟨rfl, rfl⟩
  show V 3362 [(7, xi F.1), (6, xi F.2), (0, xr (2, 9)), (1, xr (0, 0)), (2, xr (1, 0)), (3, xr (2, 0)), (4, xr (2, 1)), (5, xi (i : Int))] [xi (J9 (1, 0) 32)] (J9, xst c1) _ _
  rw [e2]
  refine x_iload (pc := 3362) (j := 1) hE dL_law_3362 rfl ?_
  refine x_icmp_same (pc := 3364) (tgt := 3369) hE dL_law_3364 rfl ?_
  refine x_iload (pc := 3369) (j := 1) hE dL_law_3369 rfl ?_
  refine x_in hE (fun hI9 => ?_)
  have hx : xin F.2 := e2 ▸ hI9 (1, 0) 32
  refine x_if_ne (pc := 3371) (tgt := 3386) hE dL_law_3371 rfl hx (fun _ => x_goto (pc := 3386) (tgt := 3918) hE dL_law_3386 rfl (x_loc hE [2, 3, 4, 5, 6, 7] rfl (next _ _ hD9 hA9))) (fun hz0 => ?_)
  refine x_aload_n (pc := 3374) (j := 5) hE dL_law_3374 rfl ?_
  refine x_iconst (pc := 3375) hE dL_law_3375 ?_
  refine x_laload (pc := 3376) (nn := 1) hE dL_law_3376 rfl (lvm2 _ (by decide)) (by decide) (by decide) ?_
  show V 3377 [(7, xi F.1), (6, xi F.2), (0, xr (2, 9)), (1, xr (0, 0)), (2, xr (1, 0)), (3, xr (2, 0)), (4, xr (2, 1)), (5, xi (i : Int))] [xl (c1.2.1 (2, 0) 0)] (J9, xst c1) _ _
  rw [hO hz0]
  refine x_iload (pc := 3377) (j := 0) hE dL_law_3377 rfl ?_
  refine x_i2l (pc := 3379) hE dL_law_3379 ?_
  refine x_lcmp (pc := 3380) hE dL_law_3380 ?_
  rw [lg_same]
  exact x_if_eq (pc := 3381) (tgt := 3386) hE dL_law_3381 rfl (by decide) (fun _ => x_goto (pc := 3386) (tgt := 3918) hE dL_law_3386 rfl (x_loc hE [2, 3, 4, 5, 6, 7] rfl (next _ _ hD9 hA9))) (fun h => absurd rfl h)

set_option maxRecDepth 100000 in
theorem lc_41 {X : xX} (hX : xBase X) {V : xT} {mc ms : Nat} (hE : xEng X m_L_law 12 mc ms V) {b L : Nat} {xs : Nat → Int32} (hs : LSc X b L xs) {c : xCx} {I : xIn} (hA : c.2.2.2 (2, 9) = b) {i : Nat} (hi : i + 7 ≤ L) {k n mc9 ms9 : Nat} (hk : k + mc9 ≤ mc) (hn : n + ms9 ≤ ms) {F : Int × Int} {C9 D9 : xIn → xCx → Prop} (hW : xMet X m_L_rounded 11 [xr (0, 0), xi (sx xs (i + 1)), xi (sx xs (i + 2)), xr (2, 0)] (I, xst c) mc9 ms9 (wPost c F.2 (fun c9 => c9.2.1 (2, 0) 0 = (Int32.ofInt F.1).toInt64) C9)) (hR : ∀ I9 c9, C9 I9 c9 → xRet rI X m_X10_rounded 11 [xr (1, 0), xi (sx xs (i + 1)), xi (sx xs (i + 2))] c9 I9 0 0 (fun v J => D9 J c9 ∧ (v, J (1, 0) 32) = F) xNo) (next : ∀ J c9, D9 J c9 → (∀ p : xP, p.1 < 3 → c9.2.2.2 p = c.2.2.2 p) → V 3918 [(0, xr (2, 9)), (1, xr (0, 0)), (2, xr (1, 0)), (3, xr (2, 0)), (4, xr (2, 1)), (5, xi (i : Int))] [] (J, xst c9) (k + mc9) (n + ms9)) : V 3389 [(0, xr (2, 9)), (1, xr (0, 0)), (2, xr (1, 0)), (3, xr (2, 0)), (4, xr (2, 1)), (5, xi (i : Int))] [] (I, xst c) k n := by
  refine x_aload_n (pc := 3389) (j := 1) hE dL_law_3389 rfl ?_
  refine x_aload_n (pc := 3390) (j := 0) hE dL_law_3390 rfl ?_
  refine x_iload (pc := 3391) (j := 5) hE dL_law_3391 rfl ?_
  refine x_iconst (pc := 3393) hE dL_law_3393 ?_
  refine x_iadd (pc := 3394) hE dL_law_3394 ?_
  refine x_sld (pc := 3395) hE hs dL_law_3395 hA (m := i + 1) (by omega) (by omega) ?_
  refine x_aload_n (pc := 3396) (j := 0) hE dL_law_3396 rfl ?_
  refine x_iload (pc := 3397) (j := 5) hE dL_law_3397 rfl ?_
  refine x_iconst (pc := 3399) hE dL_law_3399 ?_
  refine x_iadd (pc := 3400) hE dL_law_3400 ?_
  refine x_sld (pc := 3401) hE hs dL_law_3401 hA (m := i + 2) (by omega) (by omega) ?_
  refine x_aload_n (pc := 3402) (j := 3) hE dL_law_3402 rfl ?_
  refine x_cw (pc := 3403) (as := [xr (0, 0), xi (sx xs (i + 1)), xi (sx xs (i + 2)), xr (2, 0)]) hE hW dL_law_3403 pl_L_rounded lk_RL_310 rfl (Nat.le_refl _) hk hn rfl ?_
  intro I1 c1 hO hA9 hC9
  have hA2 : c1.2.2.2 (2, 9) = b := (hA9 _ (by decide)).trans hA
  refine x_istore (pc := 3406) (lo9 := [(6, xi F.2), (0, xr (2, 9)), (1, xr (0, 0)), (2, xr (1, 0)), (3, xr (2, 0)), (4, xr (2, 1)), (5, xi (i : Int))]) hE dL_law_3406 (by decide) rfl ?_
  refine x_aload_n (pc := 3408) (j := 3) hE dL_law_3408 rfl ?_
  refine x_aload_n (pc := 3409) (j := 1) hE dL_law_3409 rfl ?_
  refine x_iload (pc := 3410) (j := 6) hE dL_law_3410 rfl ?_
  refine x_iconst (pc := 3412) hE dL_law_3412 ?_
  refine x_iadd (pc := 3413) hE dL_law_3413 ?_
  refine x_sld (pc := 3414) hE hs dL_law_3414 hA2 (m := i + 1) (by omega) (by omega) ?_
  refine x_aload_n (pc := 3415) (j := 1) hE dL_law_3415 rfl ?_
  refine x_iload (pc := 3416) (j := 6) hE dL_law_3416 rfl ?_
  refine x_iconst (pc := 3418) hE dL_law_3418 ?_
  refine x_iadd (pc := 3419) hE dL_law_3419 ?_
  refine x_sld (pc := 3420) hE hs dL_law_3420 hA2 (m := i + 2) (by omega) (by omega) ?_
  refine x_cr (pc := 3421) (q := (1, 0)) (as := [xi (sx xs (i + 1)), xi (sx xs (i + 2))]) (st := []) hE dL_law_3421 pl_X10_rounded lk_RL_312 rfl (lvm1 _ (by decide)) rfl rfl (Nat.le_refl _) hk hn (Nat.le_of_ble_eq_true rfl) (hR I1 c1 hC9) ?_
  rintro v J9 ⟨hD9, hF⟩
  obtain ⟨e1, e2⟩ : v = F.1 ∧ J9 (1, 0) 32 = F.2 := ⟨congrArg Prod.fst hF, congrArg Prod.snd hF⟩
  subst e1
  refine x_istore (pc := 3424) (lo9 := [(7, xi F.1), (6, xi F.2), (0, xr (2, 9)), (1, xr (0, 0)), (2, xr (1, 0)), (3, xr (2, 0)), (4, xr (2, 1)), (5, xi (i : Int))]) hE dL_law_3424 (by decide) rfl ?_
  refine x_aload_n (pc := 3426) (j := 4) hE dL_law_3426 rfl ?_
  refine x_cr (pc := 3427) (q := (1, 0)) (as := []) (st := []) hE dL_law_3427 pl_X10_thrown lk_RL_177 rfl (lvm1 _ (by decide)) rfl rfl (Nat.le_refl _) hk hn (Nat.le_of_ble_eq_true rfl) (ok_thrown hX 11) ?_
  rintro t9 J9 ⟨rfl, rfl⟩
  show V 3430 [(7, xi F.1), (6, xi F.2), (0, xr (2, 9)), (1, xr (0, 0)), (2, xr (1, 0)), (3, xr (2, 0)), (4, xr (2, 1)), (5, xi (i : Int))] [xi (J9 (1, 0) 32)] (J9, xst c1) _ _
  rw [e2]
  refine x_iload (pc := 3430) (j := 1) hE dL_law_3430 rfl ?_
  refine x_icmp_same (pc := 3432) (tgt := 3437) hE dL_law_3432 rfl ?_
  refine x_iload (pc := 3437) (j := 1) hE dL_law_3437 rfl ?_
  refine x_in hE (fun hI9 => ?_)
  have hx : xin F.2 := e2 ▸ hI9 (1, 0) 32
  refine x_if_ne (pc := 3439) (tgt := 3454) hE dL_law_3439 rfl hx (fun _ => x_goto (pc := 3454) (tgt := 3918) hE dL_law_3454 rfl (x_loc hE [2, 3, 4, 5, 6, 7] rfl (next _ _ hD9 hA9))) (fun hz0 => ?_)
  refine x_aload_n (pc := 3442) (j := 5) hE dL_law_3442 rfl ?_
  refine x_iconst (pc := 3443) hE dL_law_3443 ?_
  refine x_laload (pc := 3444) (nn := 1) hE dL_law_3444 rfl (lvm2 _ (by decide)) (by decide) (by decide) ?_
  show V 3445 [(7, xi F.1), (6, xi F.2), (0, xr (2, 9)), (1, xr (0, 0)), (2, xr (1, 0)), (3, xr (2, 0)), (4, xr (2, 1)), (5, xi (i : Int))] [xl (c1.2.1 (2, 0) 0)] (J9, xst c1) _ _
  rw [hO hz0]
  refine x_iload (pc := 3445) (j := 0) hE dL_law_3445 rfl ?_
  refine x_i2l (pc := 3447) hE dL_law_3447 ?_
  refine x_lcmp (pc := 3448) hE dL_law_3448 ?_
  rw [lg_same]
  exact x_if_eq (pc := 3449) (tgt := 3454) hE dL_law_3449 rfl (by decide) (fun _ => x_goto (pc := 3454) (tgt := 3918) hE dL_law_3454 rfl (x_loc hE [2, 3, 4, 5, 6, 7] rfl (next _ _ hD9 hA9))) (fun h => absurd rfl h)

set_option maxRecDepth 100000 in
theorem lc_42 {X : xX} (hX : xBase X) {V : xT} {mc ms : Nat} (hE : xEng X m_L_law 12 mc ms V) {b L : Nat} {xs : Nat → Int32} (hs : LSc X b L xs) {c : xCx} {I : xIn} (hA : c.2.2.2 (2, 9) = b) {i : Nat} (hi : i + 7 ≤ L) {k n mc9 ms9 : Nat} (hk : k + mc9 ≤ mc) (hn : n + ms9 ≤ ms) {F : Int × Int} {C9 D9 : xIn → xCx → Prop} (hW : xMet X m_L_project 11 [xr (0, 0), xi (sx xs (i + 1)), xi (sx xs (i + 2)), xr (2, 0)] (I, xst c) mc9 ms9 (wPost c F.2 (fun c9 => c9.2.1 (2, 0) 0 = (Int32.ofInt F.1).toInt64) C9)) (hR : ∀ I9 c9, C9 I9 c9 → xRet rI X m_X10_project 11 [xr (1, 0), xi (sx xs (i + 1)), xi (sx xs (i + 2))] c9 I9 0 0 (fun v J => D9 J c9 ∧ (v, J (1, 0) 32) = F) xNo) (next : ∀ J c9, D9 J c9 → (∀ p : xP, p.1 < 3 → c9.2.2.2 p = c.2.2.2 p) → V 3918 [(0, xr (2, 9)), (1, xr (0, 0)), (2, xr (1, 0)), (3, xr (2, 0)), (4, xr (2, 1)), (5, xi (i : Int))] [] (J, xst c9) (k + mc9) (n + ms9)) : V 3457 [(0, xr (2, 9)), (1, xr (0, 0)), (2, xr (1, 0)), (3, xr (2, 0)), (4, xr (2, 1)), (5, xi (i : Int))] [] (I, xst c) k n := by
  refine x_aload_n (pc := 3457) (j := 1) hE dL_law_3457 rfl ?_
  refine x_aload_n (pc := 3458) (j := 0) hE dL_law_3458 rfl ?_
  refine x_iload (pc := 3459) (j := 5) hE dL_law_3459 rfl ?_
  refine x_iconst (pc := 3461) hE dL_law_3461 ?_
  refine x_iadd (pc := 3462) hE dL_law_3462 ?_
  refine x_sld (pc := 3463) hE hs dL_law_3463 hA (m := i + 1) (by omega) (by omega) ?_
  refine x_aload_n (pc := 3464) (j := 0) hE dL_law_3464 rfl ?_
  refine x_iload (pc := 3465) (j := 5) hE dL_law_3465 rfl ?_
  refine x_iconst (pc := 3467) hE dL_law_3467 ?_
  refine x_iadd (pc := 3468) hE dL_law_3468 ?_
  refine x_sld (pc := 3469) hE hs dL_law_3469 hA (m := i + 2) (by omega) (by omega) ?_
  refine x_aload_n (pc := 3470) (j := 3) hE dL_law_3470 rfl ?_
  refine x_cw (pc := 3471) (as := [xr (0, 0), xi (sx xs (i + 1)), xi (sx xs (i + 2)), xr (2, 0)]) hE hW dL_law_3471 pl_L_project lk_RL_313 rfl (Nat.le_refl _) hk hn rfl ?_
  intro I1 c1 hO hA9 hC9
  have hA2 : c1.2.2.2 (2, 9) = b := (hA9 _ (by decide)).trans hA
  refine x_istore (pc := 3474) (lo9 := [(6, xi F.2), (0, xr (2, 9)), (1, xr (0, 0)), (2, xr (1, 0)), (3, xr (2, 0)), (4, xr (2, 1)), (5, xi (i : Int))]) hE dL_law_3474 (by decide) rfl ?_
  refine x_aload_n (pc := 3476) (j := 3) hE dL_law_3476 rfl ?_
  refine x_aload_n (pc := 3477) (j := 1) hE dL_law_3477 rfl ?_
  refine x_iload (pc := 3478) (j := 6) hE dL_law_3478 rfl ?_
  refine x_iconst (pc := 3480) hE dL_law_3480 ?_
  refine x_iadd (pc := 3481) hE dL_law_3481 ?_
  refine x_sld (pc := 3482) hE hs dL_law_3482 hA2 (m := i + 1) (by omega) (by omega) ?_
  refine x_aload_n (pc := 3483) (j := 1) hE dL_law_3483 rfl ?_
  refine x_iload (pc := 3484) (j := 6) hE dL_law_3484 rfl ?_
  refine x_iconst (pc := 3486) hE dL_law_3486 ?_
  refine x_iadd (pc := 3487) hE dL_law_3487 ?_
  refine x_sld (pc := 3488) hE hs dL_law_3488 hA2 (m := i + 2) (by omega) (by omega) ?_
  refine x_cr (pc := 3489) (q := (1, 0)) (as := [xi (sx xs (i + 1)), xi (sx xs (i + 2))]) (st := []) hE dL_law_3489 pl_X10_project lk_RL_315 rfl (lvm1 _ (by decide)) rfl rfl (Nat.le_refl _) hk hn (Nat.le_of_ble_eq_true rfl) (hR I1 c1 hC9) ?_
  rintro v J9 ⟨hD9, hF⟩
  obtain ⟨e1, e2⟩ : v = F.1 ∧ J9 (1, 0) 32 = F.2 := ⟨congrArg Prod.fst hF, congrArg Prod.snd hF⟩
  subst e1
  refine x_istore (pc := 3492) (lo9 := [(7, xi F.1), (6, xi F.2), (0, xr (2, 9)), (1, xr (0, 0)), (2, xr (1, 0)), (3, xr (2, 0)), (4, xr (2, 1)), (5, xi (i : Int))]) hE dL_law_3492 (by decide) rfl ?_
  refine x_aload_n (pc := 3494) (j := 4) hE dL_law_3494 rfl ?_
  refine x_cr (pc := 3495) (q := (1, 0)) (as := []) (st := []) hE dL_law_3495 pl_X10_thrown lk_RL_177 rfl (lvm1 _ (by decide)) rfl rfl (Nat.le_refl _) hk hn (Nat.le_of_ble_eq_true rfl) (ok_thrown hX 11) ?_
  rintro t9 J9 ⟨rfl, rfl⟩
  show V 3498 [(7, xi F.1), (6, xi F.2), (0, xr (2, 9)), (1, xr (0, 0)), (2, xr (1, 0)), (3, xr (2, 0)), (4, xr (2, 1)), (5, xi (i : Int))] [xi (J9 (1, 0) 32)] (J9, xst c1) _ _
  rw [e2]
  refine x_iload (pc := 3498) (j := 1) hE dL_law_3498 rfl ?_
  refine x_icmp_same (pc := 3500) (tgt := 3505) hE dL_law_3500 rfl ?_
  refine x_iload (pc := 3505) (j := 1) hE dL_law_3505 rfl ?_
  refine x_in hE (fun hI9 => ?_)
  have hx : xin F.2 := e2 ▸ hI9 (1, 0) 32
  refine x_if_ne (pc := 3507) (tgt := 3522) hE dL_law_3507 rfl hx (fun _ => x_goto (pc := 3522) (tgt := 3918) hE dL_law_3522 rfl (x_loc hE [2, 3, 4, 5, 6, 7] rfl (next _ _ hD9 hA9))) (fun hz0 => ?_)
  refine x_aload_n (pc := 3510) (j := 5) hE dL_law_3510 rfl ?_
  refine x_iconst (pc := 3511) hE dL_law_3511 ?_
  refine x_laload (pc := 3512) (nn := 1) hE dL_law_3512 rfl (lvm2 _ (by decide)) (by decide) (by decide) ?_
  show V 3513 [(7, xi F.1), (6, xi F.2), (0, xr (2, 9)), (1, xr (0, 0)), (2, xr (1, 0)), (3, xr (2, 0)), (4, xr (2, 1)), (5, xi (i : Int))] [xl (c1.2.1 (2, 0) 0)] (J9, xst c1) _ _
  rw [hO hz0]
  refine x_iload (pc := 3513) (j := 0) hE dL_law_3513 rfl ?_
  refine x_i2l (pc := 3515) hE dL_law_3515 ?_
  refine x_lcmp (pc := 3516) hE dL_law_3516 ?_
  rw [lg_same]
  exact x_if_eq (pc := 3517) (tgt := 3522) hE dL_law_3517 rfl (by decide) (fun _ => x_goto (pc := 3522) (tgt := 3918) hE dL_law_3522 rfl (x_loc hE [2, 3, 4, 5, 6, 7] rfl (next _ _ hD9 hA9))) (fun h => absurd rfl h)

set_option maxRecDepth 100000 in
theorem lc_43 {X : xX} (hX : xBase X) {V : xT} {mc ms : Nat} (hE : xEng X m_L_law 12 mc ms V) {b L : Nat} {xs : Nat → Int32} (hs : LSc X b L xs) {c : xCx} {I : xIn} (hA : c.2.2.2 (2, 9) = b) {i : Nat} (hi : i + 7 ≤ L) {k n mc9 ms9 : Nat} (hk : k + mc9 ≤ mc) (hn : n + ms9 ≤ ms) {F : Int × Int} {C9 D9 : xIn → xCx → Prop} (hW : xMet X m_L_toolCost 11 [xr (0, 0), xi (sx xs (i + 1)), xi (sx xs (i + 2)), xr (2, 0)] (I, xst c) mc9 ms9 (wPost c F.2 (fun c9 => c9.2.1 (2, 0) 0 = (Int32.ofInt F.1).toInt64) C9)) (hR : ∀ I9 c9, C9 I9 c9 → xRet rI X m_X10_toolCost 11 [xr (1, 0), xi (sx xs (i + 1)), xi (sx xs (i + 2))] c9 I9 0 0 (fun v J => D9 J c9 ∧ (v, J (1, 0) 32) = F) xNo) (next : ∀ J c9, D9 J c9 → (∀ p : xP, p.1 < 3 → c9.2.2.2 p = c.2.2.2 p) → V 3918 [(0, xr (2, 9)), (1, xr (0, 0)), (2, xr (1, 0)), (3, xr (2, 0)), (4, xr (2, 1)), (5, xi (i : Int))] [] (J, xst c9) (k + mc9) (n + ms9)) : V 3525 [(0, xr (2, 9)), (1, xr (0, 0)), (2, xr (1, 0)), (3, xr (2, 0)), (4, xr (2, 1)), (5, xi (i : Int))] [] (I, xst c) k n := by
  refine x_aload_n (pc := 3525) (j := 1) hE dL_law_3525 rfl ?_
  refine x_aload_n (pc := 3526) (j := 0) hE dL_law_3526 rfl ?_
  refine x_iload (pc := 3527) (j := 5) hE dL_law_3527 rfl ?_
  refine x_iconst (pc := 3529) hE dL_law_3529 ?_
  refine x_iadd (pc := 3530) hE dL_law_3530 ?_
  refine x_sld (pc := 3531) hE hs dL_law_3531 hA (m := i + 1) (by omega) (by omega) ?_
  refine x_aload_n (pc := 3532) (j := 0) hE dL_law_3532 rfl ?_
  refine x_iload (pc := 3533) (j := 5) hE dL_law_3533 rfl ?_
  refine x_iconst (pc := 3535) hE dL_law_3535 ?_
  refine x_iadd (pc := 3536) hE dL_law_3536 ?_
  refine x_sld (pc := 3537) hE hs dL_law_3537 hA (m := i + 2) (by omega) (by omega) ?_
  refine x_aload_n (pc := 3538) (j := 3) hE dL_law_3538 rfl ?_
  refine x_cw (pc := 3539) (as := [xr (0, 0), xi (sx xs (i + 1)), xi (sx xs (i + 2)), xr (2, 0)]) hE hW dL_law_3539 pl_L_toolCost lk_RL_316 rfl (Nat.le_refl _) hk hn rfl ?_
  intro I1 c1 hO hA9 hC9
  have hA2 : c1.2.2.2 (2, 9) = b := (hA9 _ (by decide)).trans hA
  refine x_istore (pc := 3542) (lo9 := [(6, xi F.2), (0, xr (2, 9)), (1, xr (0, 0)), (2, xr (1, 0)), (3, xr (2, 0)), (4, xr (2, 1)), (5, xi (i : Int))]) hE dL_law_3542 (by decide) rfl ?_
  refine x_aload_n (pc := 3544) (j := 3) hE dL_law_3544 rfl ?_
  refine x_aload_n (pc := 3545) (j := 1) hE dL_law_3545 rfl ?_
  refine x_iload (pc := 3546) (j := 6) hE dL_law_3546 rfl ?_
  refine x_iconst (pc := 3548) hE dL_law_3548 ?_
  refine x_iadd (pc := 3549) hE dL_law_3549 ?_
  refine x_sld (pc := 3550) hE hs dL_law_3550 hA2 (m := i + 1) (by omega) (by omega) ?_
  refine x_aload_n (pc := 3551) (j := 1) hE dL_law_3551 rfl ?_
  refine x_iload (pc := 3552) (j := 6) hE dL_law_3552 rfl ?_
  refine x_iconst (pc := 3554) hE dL_law_3554 ?_
  refine x_iadd (pc := 3555) hE dL_law_3555 ?_
  refine x_sld (pc := 3556) hE hs dL_law_3556 hA2 (m := i + 2) (by omega) (by omega) ?_
  refine x_cr (pc := 3557) (q := (1, 0)) (as := [xi (sx xs (i + 1)), xi (sx xs (i + 2))]) (st := []) hE dL_law_3557 pl_X10_toolCost lk_RL_318 rfl (lvm1 _ (by decide)) rfl rfl (Nat.le_refl _) hk hn (Nat.le_of_ble_eq_true rfl) (hR I1 c1 hC9) ?_
  rintro v J9 ⟨hD9, hF⟩
  obtain ⟨e1, e2⟩ : v = F.1 ∧ J9 (1, 0) 32 = F.2 := ⟨congrArg Prod.fst hF, congrArg Prod.snd hF⟩
  subst e1
  refine x_istore (pc := 3560) (lo9 := [(7, xi F.1), (6, xi F.2), (0, xr (2, 9)), (1, xr (0, 0)), (2, xr (1, 0)), (3, xr (2, 0)), (4, xr (2, 1)), (5, xi (i : Int))]) hE dL_law_3560 (by decide) rfl ?_
  refine x_aload_n (pc := 3562) (j := 4) hE dL_law_3562 rfl ?_
  refine x_cr (pc := 3563) (q := (1, 0)) (as := []) (st := []) hE dL_law_3563 pl_X10_thrown lk_RL_177 rfl (lvm1 _ (by decide)) rfl rfl (Nat.le_refl _) hk hn (Nat.le_of_ble_eq_true rfl) (ok_thrown hX 11) ?_
  rintro t9 J9 ⟨rfl, rfl⟩
  show V 3566 [(7, xi F.1), (6, xi F.2), (0, xr (2, 9)), (1, xr (0, 0)), (2, xr (1, 0)), (3, xr (2, 0)), (4, xr (2, 1)), (5, xi (i : Int))] [xi (J9 (1, 0) 32)] (J9, xst c1) _ _
  rw [e2]
  refine x_iload (pc := 3566) (j := 1) hE dL_law_3566 rfl ?_
  refine x_icmp_same (pc := 3568) (tgt := 3573) hE dL_law_3568 rfl ?_
  refine x_iload (pc := 3573) (j := 1) hE dL_law_3573 rfl ?_
  refine x_in hE (fun hI9 => ?_)
  have hx : xin F.2 := e2 ▸ hI9 (1, 0) 32
  refine x_if_ne (pc := 3575) (tgt := 3590) hE dL_law_3575 rfl hx (fun _ => x_goto (pc := 3590) (tgt := 3918) hE dL_law_3590 rfl (x_loc hE [2, 3, 4, 5, 6, 7] rfl (next _ _ hD9 hA9))) (fun hz0 => ?_)
  refine x_aload_n (pc := 3578) (j := 5) hE dL_law_3578 rfl ?_
  refine x_iconst (pc := 3579) hE dL_law_3579 ?_
  refine x_laload (pc := 3580) (nn := 1) hE dL_law_3580 rfl (lvm2 _ (by decide)) (by decide) (by decide) ?_
  show V 3581 [(7, xi F.1), (6, xi F.2), (0, xr (2, 9)), (1, xr (0, 0)), (2, xr (1, 0)), (3, xr (2, 0)), (4, xr (2, 1)), (5, xi (i : Int))] [xl (c1.2.1 (2, 0) 0)] (J9, xst c1) _ _
  rw [hO hz0]
  refine x_iload (pc := 3581) (j := 0) hE dL_law_3581 rfl ?_
  refine x_i2l (pc := 3583) hE dL_law_3583 ?_
  refine x_lcmp (pc := 3584) hE dL_law_3584 ?_
  rw [lg_same]
  exact x_if_eq (pc := 3585) (tgt := 3590) hE dL_law_3585 rfl (by decide) (fun _ => x_goto (pc := 3590) (tgt := 3918) hE dL_law_3590 rfl (x_loc hE [2, 3, 4, 5, 6, 7] rfl (next _ _ hD9 hA9))) (fun h => absurd rfl h)

set_option maxRecDepth 100000 in
theorem lc_44 {X : xX} (hX : xBase X) {V : xT} {mc ms : Nat} (hE : xEng X m_L_law 12 mc ms V) {b L : Nat} {xs : Nat → Int32} (hs : LSc X b L xs) {c : xCx} {I : xIn} (hA : c.2.2.2 (2, 9) = b) {i : Nat} (hi : i + 7 ≤ L) {k n mc9 ms9 : Nat} (hk : k + mc9 ≤ mc) (hn : n + ms9 ≤ ms) {F : Int} {C9 D9 : xIn → Prop} (hW : xRet rI X m_X9_best 11 [xr (0, 0)] c I mc9 ms9 (fun v J => C9 J ∧ v = F) xNo) (hR : ∀ I9, C9 I9 → xRet rI X m_X10_best 11 [xr (1, 0)] c I9 0 0 (fun v J => D9 J ∧ v = F) xNo) (next : ∀ J, D9 J → V 3918 [(0, xr (2, 9)), (1, xr (0, 0)), (2, xr (1, 0)), (3, xr (2, 0)), (4, xr (2, 1)), (5, xi (i : Int))] [] (J, xst c) (k + mc9) (n + ms9)) : V 3593 [(0, xr (2, 9)), (1, xr (0, 0)), (2, xr (1, 0)), (3, xr (2, 0)), (4, xr (2, 1)), (5, xi (i : Int))] [] (I, xst c) k n := by
  refine x_aload_n (pc := 3593) (j := 1) hE dL_law_3593 rfl ?_
  refine x_cr (pc := 3594) (q := (0, 0)) (as := []) (st := []) hE dL_law_3594 pl_X9_best lk_RL_319 rfl (lvm0 _ (by decide)) rfl rfl (Nat.le_refl _) hk hn (Nat.le_of_ble_eq_true rfl) hW ?_
  rintro v I1 ⟨hC9, hv9⟩
  rw [hv9]
  have hA2 := hA
  refine x_aload_n (pc := 3597) (j := 2) hE dL_law_3597 rfl ?_
  refine x_cr (pc := 3598) (q := (1, 0)) (as := []) (st := [xi F]) hE dL_law_3598 pl_X10_best lk_RL_322 rfl (lvm1 _ (by decide)) rfl rfl (Nat.le_refl _) hk hn (Nat.le_of_ble_eq_true rfl) (hR I1 hC9) ?_
  rintro v9 J9 ⟨hD9, hv8⟩
  rw [hv8]
  refine x_icmp_same (pc := 3601) (tgt := 3918) hE dL_law_3601 rfl ?_
  exact x_loc hE [0, 1, 2, 3, 4, 5] rfl (next _ hD9)

set_option maxRecDepth 100000 in
theorem lc_45 {X : xX} (hX : xBase X) {V : xT} {mc ms : Nat} (hE : xEng X m_L_law 12 mc ms V) {b L : Nat} {xs : Nat → Int32} (hs : LSc X b L xs) {c : xCx} {I : xIn} (hA : c.2.2.2 (2, 9) = b) {i : Nat} (hi : i + 7 ≤ L) {k n mc9 ms9 : Nat} (hk : k + mc9 ≤ mc) (hn : n + ms9 ≤ ms) {bz : Bool} (hbz : bz = decide ((sx xs (i + 1)) ≠ 0)) {F : Int} {C9 D9 : xIn → Prop} (hW : xRet rI X m_X9_chosen 11 [xr (0, 0), xi (xbi bz)] c I mc9 ms9 (fun v J => C9 J ∧ v = F) xNo) (hR : ∀ I9, C9 I9 → xRet rI X m_X10_chosen 11 [xr (1, 0), xi (xbi bz)] c I9 0 0 (fun v J => D9 J ∧ v = F) xNo) (next : ∀ J, D9 J → V 3918 [(0, xr (2, 9)), (1, xr (0, 0)), (2, xr (1, 0)), (3, xr (2, 0)), (4, xr (2, 1)), (5, xi (i : Int))] [] (J, xst c) (k + mc9) (n + ms9)) : V 3606 [(0, xr (2, 9)), (1, xr (0, 0)), (2, xr (1, 0)), (3, xr (2, 0)), (4, xr (2, 1)), (5, xi (i : Int))] [] (I, xst c) k n := by
  rcases Decidable.em ((sx xs (i + 1)) = 0) with hz | hz
  · have hb9 : bz = false := by rw [hbz]; simp [hz]
    subst hb9
    refine x_aload_n (pc := 3606) (j := 1) hE dL_law_3606 rfl ?_
    refine x_aload_n (pc := 3607) (j := 0) hE dL_law_3607 rfl ?_
    refine x_iload (pc := 3608) (j := 5) hE dL_law_3608 rfl ?_
    refine x_iconst (pc := 3610) hE dL_law_3610 ?_
    refine x_iadd (pc := 3611) hE dL_law_3611 ?_
    refine x_sld (pc := 3612) hE hs dL_law_3612 hA (m := i + 1) (by omega) (by omega) ?_
    refine x_if_eq (pc := 3613) (tgt := 3620) hE dL_law_3613 rfl (xin_ti _) (fun _ => ?_) (fun h => absurd hz h)
    refine x_iconst (pc := 3620) hE dL_law_3620 ?_
    refine x_cr (pc := 3621) (q := (0, 0)) (as := [xi 0]) (st := []) hE dL_law_3621 pl_X9_chosen lk_RL_323 rfl (lvm0 _ (by decide)) rfl rfl (Nat.le_refl _) hk hn (Nat.le_of_ble_eq_true rfl) hW ?_
    rintro v I1 ⟨hC9, hv9⟩
    rw [hv9]
    have hA2 := hA
    refine x_aload_n (pc := 3624) (j := 2) hE dL_law_3624 rfl ?_
    refine x_aload_n (pc := 3625) (j := 0) hE dL_law_3625 rfl ?_
    refine x_iload (pc := 3626) (j := 5) hE dL_law_3626 rfl ?_
    refine x_iconst (pc := 3628) hE dL_law_3628 ?_
    refine x_iadd (pc := 3629) hE dL_law_3629 ?_
    refine x_sld (pc := 3630) hE hs dL_law_3630 hA2 (m := i + 1) (by omega) (by omega) ?_
    refine x_if_eq (pc := 3631) (tgt := 3638) hE dL_law_3631 rfl (xin_ti _) (fun _ => ?_) (fun h => absurd hz h)
    refine x_iconst (pc := 3638) hE dL_law_3638 ?_
    refine x_cr (pc := 3639) (q := (1, 0)) (as := [xi 0]) (st := [xi F]) hE dL_law_3639 pl_X10_chosen lk_RL_326 rfl (lvm1 _ (by decide)) rfl rfl (Nat.le_refl _) hk hn (Nat.le_of_ble_eq_true rfl) (hR I1 hC9) ?_
    rintro v9 J9 ⟨hD9, hv8⟩
    rw [hv8]
    refine x_icmp_same (pc := 3642) (tgt := 3918) hE dL_law_3642 rfl ?_
    exact x_loc hE [0, 1, 2, 3, 4, 5] rfl (next _ hD9)
  · have hb9 : bz = true := by rw [hbz]; simp [hz]
    subst hb9
    refine x_aload_n (pc := 3606) (j := 1) hE dL_law_3606 rfl ?_
    refine x_aload_n (pc := 3607) (j := 0) hE dL_law_3607 rfl ?_
    refine x_iload (pc := 3608) (j := 5) hE dL_law_3608 rfl ?_
    refine x_iconst (pc := 3610) hE dL_law_3610 ?_
    refine x_iadd (pc := 3611) hE dL_law_3611 ?_
    refine x_sld (pc := 3612) hE hs dL_law_3612 hA (m := i + 1) (by omega) (by omega) ?_
    refine x_if_eq (pc := 3613) (tgt := 3620) hE dL_law_3613 rfl (xin_ti _) (fun h => absurd h hz) (fun _ => ?_)
    refine x_iconst (pc := 3616) hE dL_law_3616 ?_
    refine x_goto (pc := 3617) (tgt := 3621) hE dL_law_3617 rfl ?_
    refine x_cr (pc := 3621) (q := (0, 0)) (as := [xi 1]) (st := []) hE dL_law_3621 pl_X9_chosen lk_RL_323 rfl (lvm0 _ (by decide)) rfl rfl (Nat.le_refl _) hk hn (Nat.le_of_ble_eq_true rfl) hW ?_
    rintro v I1 ⟨hC9, hv9⟩
    rw [hv9]
    have hA2 := hA
    refine x_aload_n (pc := 3624) (j := 2) hE dL_law_3624 rfl ?_
    refine x_aload_n (pc := 3625) (j := 0) hE dL_law_3625 rfl ?_
    refine x_iload (pc := 3626) (j := 5) hE dL_law_3626 rfl ?_
    refine x_iconst (pc := 3628) hE dL_law_3628 ?_
    refine x_iadd (pc := 3629) hE dL_law_3629 ?_
    refine x_sld (pc := 3630) hE hs dL_law_3630 hA2 (m := i + 1) (by omega) (by omega) ?_
    refine x_if_eq (pc := 3631) (tgt := 3638) hE dL_law_3631 rfl (xin_ti _) (fun h => absurd h hz) (fun _ => ?_)
    refine x_iconst (pc := 3634) hE dL_law_3634 ?_
    refine x_goto (pc := 3635) (tgt := 3639) hE dL_law_3635 rfl ?_
    refine x_cr (pc := 3639) (q := (1, 0)) (as := [xi 1]) (st := [xi F]) hE dL_law_3639 pl_X10_chosen lk_RL_326 rfl (lvm1 _ (by decide)) rfl rfl (Nat.le_refl _) hk hn (Nat.le_of_ble_eq_true rfl) (hR I1 hC9) ?_
    rintro v9 J9 ⟨hD9, hv8⟩
    rw [hv8]
    refine x_icmp_same (pc := 3642) (tgt := 3918) hE dL_law_3642 rfl ?_
    exact x_loc hE [0, 1, 2, 3, 4, 5] rfl (next _ hD9)

set_option maxRecDepth 100000 in
theorem lc_46 {X : xX} (hX : xBase X) {V : xT} {mc ms : Nat} (hE : xEng X m_L_law 12 mc ms V) {b L : Nat} {xs : Nat → Int32} (hs : LSc X b L xs) {c : xCx} {I : xIn} (hA : c.2.2.2 (2, 9) = b) {i : Nat} (hi : i + 7 ≤ L) {k n mc9 ms9 : Nat} (hk : k + mc9 ≤ mc) (hn : n + ms9 ≤ ms) {F : Int64 × Int} {C9 D9 : xIn → xCx → Prop} (hW : xMet X m_L_checksum 11 [xr (0, 0), xi (sx xs (i + 1)), xr (2, 0)] (I, xst c) mc9 ms9 (wPost c F.2 (fun c9 => c9.2.1 (2, 0) 0 = F.1) C9)) (hR : ∀ I9 c9, C9 I9 c9 → xRet rL X m_X10_checksum 11 [xr (1, 0), xi (sx xs (i + 1))] c9 I9 0 0 (fun v J => D9 J c9 ∧ (v, J (1, 0) 32) = F) xNo) (next : ∀ J c9, D9 J c9 → (∀ p : xP, p.1 < 3 → c9.2.2.2 p = c.2.2.2 p) → V 3918 [(0, xr (2, 9)), (1, xr (0, 0)), (2, xr (1, 0)), (3, xr (2, 0)), (4, xr (2, 1)), (5, xi (i : Int))] [] (J, xst c9) (k + mc9) (n + ms9)) : V 3647 [(0, xr (2, 9)), (1, xr (0, 0)), (2, xr (1, 0)), (3, xr (2, 0)), (4, xr (2, 1)), (5, xi (i : Int))] [] (I, xst c) k n := by
  refine x_aload_n (pc := 3647) (j := 1) hE dL_law_3647 rfl ?_
  refine x_aload_n (pc := 3648) (j := 0) hE dL_law_3648 rfl ?_
  refine x_iload (pc := 3649) (j := 5) hE dL_law_3649 rfl ?_
  refine x_iconst (pc := 3651) hE dL_law_3651 ?_
  refine x_iadd (pc := 3652) hE dL_law_3652 ?_
  refine x_sld (pc := 3653) hE hs dL_law_3653 hA (m := i + 1) (by omega) (by omega) ?_
  refine x_aload_n (pc := 3654) (j := 3) hE dL_law_3654 rfl ?_
  refine x_cw (pc := 3655) (as := [xr (0, 0), xi (sx xs (i + 1)), xr (2, 0)]) hE hW dL_law_3655 pl_L_checksum lk_RL_327 rfl (Nat.le_refl _) hk hn rfl ?_
  intro I1 c1 hO hA9 hC9
  have hA2 : c1.2.2.2 (2, 9) = b := (hA9 _ (by decide)).trans hA
  refine x_istore (pc := 3658) (lo9 := [(6, xi F.2), (0, xr (2, 9)), (1, xr (0, 0)), (2, xr (1, 0)), (3, xr (2, 0)), (4, xr (2, 1)), (5, xi (i : Int))]) hE dL_law_3658 (by decide) rfl ?_
  refine x_aload_n (pc := 3660) (j := 3) hE dL_law_3660 rfl ?_
  refine x_aload_n (pc := 3661) (j := 1) hE dL_law_3661 rfl ?_
  refine x_iload (pc := 3662) (j := 6) hE dL_law_3662 rfl ?_
  refine x_iconst (pc := 3664) hE dL_law_3664 ?_
  refine x_iadd (pc := 3665) hE dL_law_3665 ?_
  refine x_sld (pc := 3666) hE hs dL_law_3666 hA2 (m := i + 1) (by omega) (by omega) ?_
  refine x_cr (pc := 3667) (q := (1, 0)) (as := [xi (sx xs (i + 1))]) (st := []) hE dL_law_3667 pl_X10_checksum lk_RL_329 rfl (lvm1 _ (by decide)) rfl rfl (Nat.le_refl _) hk hn (Nat.le_of_ble_eq_true rfl) (hR I1 c1 hC9) ?_
  rintro v J9 ⟨hD9, hF⟩
  obtain ⟨e1, e2⟩ : v = F.1 ∧ J9 (1, 0) 32 = F.2 := ⟨congrArg Prod.fst hF, congrArg Prod.snd hF⟩
  subst e1
  refine x_lstore (pc := 3670) (lo9 := [(7, xl F.1), (6, xi F.2), (0, xr (2, 9)), (1, xr (0, 0)), (2, xr (1, 0)), (3, xr (2, 0)), (4, xr (2, 1)), (5, xi (i : Int))]) hE dL_law_3670 (by decide) rfl ?_
  refine x_aload_n (pc := 3672) (j := 4) hE dL_law_3672 rfl ?_
  refine x_cr (pc := 3673) (q := (1, 0)) (as := []) (st := []) hE dL_law_3673 pl_X10_thrown lk_RL_177 rfl (lvm1 _ (by decide)) rfl rfl (Nat.le_refl _) hk hn (Nat.le_of_ble_eq_true rfl) (ok_thrown hX 11) ?_
  rintro t9 J9 ⟨rfl, rfl⟩
  show V 3676 [(7, xl F.1), (6, xi F.2), (0, xr (2, 9)), (1, xr (0, 0)), (2, xr (1, 0)), (3, xr (2, 0)), (4, xr (2, 1)), (5, xi (i : Int))] [xi (J9 (1, 0) 32)] (J9, xst c1) _ _
  rw [e2]
  refine x_iload (pc := 3676) (j := 1) hE dL_law_3676 rfl ?_
  refine x_icmp_same (pc := 3678) (tgt := 3683) hE dL_law_3678 rfl ?_
  refine x_iload (pc := 3683) (j := 1) hE dL_law_3683 rfl ?_
  refine x_in hE (fun hI9 => ?_)
  have hx : xin F.2 := e2 ▸ hI9 (1, 0) 32
  refine x_if_ne (pc := 3685) (tgt := 3699) hE dL_law_3685 rfl hx (fun _ => x_goto (pc := 3699) (tgt := 3918) hE dL_law_3699 rfl (x_loc hE [2, 3, 4, 5, 6, 7] rfl (next _ _ hD9 hA9))) (fun hz0 => ?_)
  refine x_aload_n (pc := 3688) (j := 5) hE dL_law_3688 rfl ?_
  refine x_iconst (pc := 3689) hE dL_law_3689 ?_
  refine x_laload (pc := 3690) (nn := 1) hE dL_law_3690 rfl (lvm2 _ (by decide)) (by decide) (by decide) ?_
  show V 3691 [(7, xl F.1), (6, xi F.2), (0, xr (2, 9)), (1, xr (0, 0)), (2, xr (1, 0)), (3, xr (2, 0)), (4, xr (2, 1)), (5, xi (i : Int))] [xl (c1.2.1 (2, 0) 0)] (J9, xst c1) _ _
  rw [hO hz0]
  refine x_lload (pc := 3691) (j := 0) hE dL_law_3691 rfl ?_
  refine x_lcmp (pc := 3693) hE dL_law_3693 ?_
  rw [lg_same]
  exact x_if_eq (pc := 3694) (tgt := 3699) hE dL_law_3694 rfl (by decide) (fun _ => x_goto (pc := 3699) (tgt := 3918) hE dL_law_3699 rfl (x_loc hE [2, 3, 4, 5, 6, 7] rfl (next _ _ hD9 hA9))) (fun h => absurd rfl h)

set_option maxRecDepth 100000 in
theorem lc_47 {X : xX} (hX : xBase X) {V : xT} {mc ms : Nat} (hE : xEng X m_L_law 12 mc ms V) {b L : Nat} {xs : Nat → Int32} (hs : LSc X b L xs) {c : xCx} {I : xIn} (hA : c.2.2.2 (2, 9) = b) {i : Nat} (hi : i + 7 ≤ L) {k n mc9 ms9 : Nat} (hk : k + mc9 ≤ mc) (hn : n + ms9 ≤ ms) {F : UInt32 × Int} {C9 D9 : xIn → xCx → Prop} (hF9 : F.2 = 0 → vf_n64 (FP.f2d F.1) ∧ (Op.cmpValue (FP.dcmp (FP.f2d F.1) (FP.f2d F.1)) .l).toInt = 0) (hW : xMet X m_L_fullShare 11 [xr (0, 0), xi (sx xs (i + 1)), xi (sx xs (i + 2)), xi (sx xs (i + 3)), xr (2, 1)] (I, xst c) mc9 ms9 (wPost c F.2 (fun c9 => c9.2.2.1 (2, 1) 0 = FP.f2d F.1) C9)) (hR : ∀ I9 c9, C9 I9 c9 → xRet rF X m_X10_fullShare 11 [xr (1, 0), xi (sx xs (i + 1)), xi (sx xs (i + 2)), xi (sx xs (i + 3))] c9 I9 0 0 (fun v J => D9 J c9 ∧ (v, J (1, 0) 32) = F) xNo) (next : ∀ J c9, D9 J c9 → (∀ p : xP, p.1 < 3 → c9.2.2.2 p = c.2.2.2 p) → V 3918 [(0, xr (2, 9)), (1, xr (0, 0)), (2, xr (1, 0)), (3, xr (2, 0)), (4, xr (2, 1)), (5, xi (i : Int))] [] (J, xst c9) (k + mc9) (n + ms9)) : V 3702 [(0, xr (2, 9)), (1, xr (0, 0)), (2, xr (1, 0)), (3, xr (2, 0)), (4, xr (2, 1)), (5, xi (i : Int))] [] (I, xst c) k n := by
  refine x_aload_n (pc := 3702) (j := 1) hE dL_law_3702 rfl ?_
  refine x_aload_n (pc := 3703) (j := 0) hE dL_law_3703 rfl ?_
  refine x_iload (pc := 3704) (j := 5) hE dL_law_3704 rfl ?_
  refine x_iconst (pc := 3706) hE dL_law_3706 ?_
  refine x_iadd (pc := 3707) hE dL_law_3707 ?_
  refine x_sld (pc := 3708) hE hs dL_law_3708 hA (m := i + 1) (by omega) (by omega) ?_
  refine x_aload_n (pc := 3709) (j := 0) hE dL_law_3709 rfl ?_
  refine x_iload (pc := 3710) (j := 5) hE dL_law_3710 rfl ?_
  refine x_iconst (pc := 3712) hE dL_law_3712 ?_
  refine x_iadd (pc := 3713) hE dL_law_3713 ?_
  refine x_sld (pc := 3714) hE hs dL_law_3714 hA (m := i + 2) (by omega) (by omega) ?_
  refine x_aload_n (pc := 3715) (j := 0) hE dL_law_3715 rfl ?_
  refine x_iload (pc := 3716) (j := 5) hE dL_law_3716 rfl ?_
  refine x_iconst (pc := 3718) hE dL_law_3718 ?_
  refine x_iadd (pc := 3719) hE dL_law_3719 ?_
  refine x_sld (pc := 3720) hE hs dL_law_3720 hA (m := i + 3) (by omega) (by omega) ?_
  refine x_aload (pc := 3721) (j := 4) hE dL_law_3721 rfl ?_
  refine x_cw (pc := 3723) (as := [xr (0, 0), xi (sx xs (i + 1)), xi (sx xs (i + 2)), xi (sx xs (i + 3)), xr (2, 1)]) hE hW dL_law_3723 pl_L_fullShare lk_RL_330 rfl (Nat.le_refl _) hk hn rfl ?_
  intro I1 c1 hO hA9 hC9
  have hA2 : c1.2.2.2 (2, 9) = b := (hA9 _ (by decide)).trans hA
  refine x_istore (pc := 3726) (lo9 := [(6, xi F.2), (0, xr (2, 9)), (1, xr (0, 0)), (2, xr (1, 0)), (3, xr (2, 0)), (4, xr (2, 1)), (5, xi (i : Int))]) hE dL_law_3726 (by decide) rfl ?_
  refine x_aload_n (pc := 3728) (j := 3) hE dL_law_3728 rfl ?_
  refine x_aload_n (pc := 3729) (j := 1) hE dL_law_3729 rfl ?_
  refine x_iload (pc := 3730) (j := 6) hE dL_law_3730 rfl ?_
  refine x_iconst (pc := 3732) hE dL_law_3732 ?_
  refine x_iadd (pc := 3733) hE dL_law_3733 ?_
  refine x_sld (pc := 3734) hE hs dL_law_3734 hA2 (m := i + 1) (by omega) (by omega) ?_
  refine x_aload_n (pc := 3735) (j := 1) hE dL_law_3735 rfl ?_
  refine x_iload (pc := 3736) (j := 6) hE dL_law_3736 rfl ?_
  refine x_iconst (pc := 3738) hE dL_law_3738 ?_
  refine x_iadd (pc := 3739) hE dL_law_3739 ?_
  refine x_sld (pc := 3740) hE hs dL_law_3740 hA2 (m := i + 2) (by omega) (by omega) ?_
  refine x_aload_n (pc := 3741) (j := 1) hE dL_law_3741 rfl ?_
  refine x_iload (pc := 3742) (j := 6) hE dL_law_3742 rfl ?_
  refine x_iconst (pc := 3744) hE dL_law_3744 ?_
  refine x_iadd (pc := 3745) hE dL_law_3745 ?_
  refine x_sld (pc := 3746) hE hs dL_law_3746 hA2 (m := i + 3) (by omega) (by omega) ?_
  refine x_cr (pc := 3747) (q := (1, 0)) (as := [xi (sx xs (i + 1)), xi (sx xs (i + 2)), xi (sx xs (i + 3))]) (st := []) hE dL_law_3747 pl_X10_fullShare lk_RL_333 rfl (lvm1 _ (by decide)) rfl rfl (Nat.le_refl _) hk hn (Nat.le_of_ble_eq_true rfl) (hR I1 c1 hC9) ?_
  rintro v J9 ⟨hD9, hF⟩
  obtain ⟨e1, e2⟩ : v = F.1 ∧ J9 (1, 0) 32 = F.2 := ⟨congrArg Prod.fst hF, congrArg Prod.snd hF⟩
  subst e1
  refine x_fstore (pc := 3750) (lo9 := [(7, xf F.1), (6, xi F.2), (0, xr (2, 9)), (1, xr (0, 0)), (2, xr (1, 0)), (3, xr (2, 0)), (4, xr (2, 1)), (5, xi (i : Int))]) hE dL_law_3750 (by decide) rfl ?_
  refine x_aload_n (pc := 3752) (j := 4) hE dL_law_3752 rfl ?_
  refine x_cr (pc := 3753) (q := (1, 0)) (as := []) (st := []) hE dL_law_3753 pl_X10_thrown lk_RL_177 rfl (lvm1 _ (by decide)) rfl rfl (Nat.le_refl _) hk hn (Nat.le_of_ble_eq_true rfl) (ok_thrown hX 11) ?_
  rintro t9 J9 ⟨rfl, rfl⟩
  show V 3756 [(7, xf F.1), (6, xi F.2), (0, xr (2, 9)), (1, xr (0, 0)), (2, xr (1, 0)), (3, xr (2, 0)), (4, xr (2, 1)), (5, xi (i : Int))] [xi (J9 (1, 0) 32)] (J9, xst c1) _ _
  rw [e2]
  refine x_iload (pc := 3756) (j := 1) hE dL_law_3756 rfl ?_
  refine x_icmp_same (pc := 3758) (tgt := 3763) hE dL_law_3758 rfl ?_
  refine x_iload (pc := 3763) (j := 1) hE dL_law_3763 rfl ?_
  refine x_in hE (fun hI9 => ?_)
  have hx : xin F.2 := e2 ▸ hI9 (1, 0) 32
  refine x_if_ne (pc := 3765) (tgt := 3801) hE dL_law_3765 rfl hx (fun _ => x_goto (pc := 3801) (tgt := 3918) hE dL_law_3801 rfl (x_loc hE [2, 3, 4, 5, 6, 7] rfl (next _ _ hD9 hA9))) (fun hz0 => ?_)
  refine x_aload (pc := 3768) (j := 6) hE dL_law_3768 rfl ?_
  refine x_iconst (pc := 3770) hE dL_law_3770 ?_
  refine x_daload (pc := 3771) (nn := 1) hE dL_law_3771 rfl (lvm2 _ (by decide)) (by decide) (by decide) ?_
  show V 3772 [(7, xf F.1), (6, xi F.2), (0, xr (2, 9)), (1, xr (0, 0)), (2, xr (1, 0)), (3, xr (2, 0)), (4, xr (2, 1)), (5, xi (i : Int))] [xd (c1.2.2.1 (2, 1) 0)] (J9, xst c1) _ _
  rw [hO hz0]
  refine x_fload (pc := 3772) (j := 0) hE dL_law_3772 rfl ?_
  refine x_f2d (pc := 3774) hE dL_law_3774 (hF9 hz0).1 ?_
  refine x_dcmp (pc := 3775) hE dL_law_3775 ?_
  rw [(hF9 hz0).2]
  exact x_if_eq (pc := 3776) (tgt := 3801) hE dL_law_3776 rfl (by decide) (fun _ => x_goto (pc := 3801) (tgt := 3918) hE dL_law_3801 rfl (x_loc hE [2, 3, 4, 5, 6, 7] rfl (next _ _ hD9 hA9))) (fun h => absurd rfl h)

set_option maxRecDepth 100000 in
theorem lc_48 {X : xX} (hX : xBase X) {V : xT} {mc ms : Nat} (hE : xEng X m_L_law 12 mc ms V) {b L : Nat} {xs : Nat → Int32} (hs : LSc X b L xs) {c : xCx} {I : xIn} (hA : c.2.2.2 (2, 9) = b) {i : Nat} (hi : i + 7 ≤ L) {k n mc9 ms9 : Nat} (hk : k + mc9 ≤ mc) (hn : n + ms9 ≤ ms) {F : UInt64 × Int} {C9 D9 : xIn → xCx → Prop} (hW : xMet X m_L_meanFlow 11 [xr (0, 0), xi (sx xs (i + 1)), xi (sx xs (i + 2)), xi (sx xs (i + 3)), xr (2, 1)] (I, xst c) mc9 ms9 (wPost c F.2 (fun c9 => c9.2.2.1 (2, 1) 0 = F.1) C9)) (hR : ∀ I9 c9, C9 I9 c9 → xRet rD X m_X10_meanFlow 11 [xr (1, 0), xi (sx xs (i + 1)), xi (sx xs (i + 2)), xi (sx xs (i + 3))] c9 I9 0 0 (fun v J => D9 J c9 ∧ (v, J (1, 0) 32) = F) xNo) (next : ∀ J c9, D9 J c9 → (∀ p : xP, p.1 < 3 → c9.2.2.2 p = c.2.2.2 p) → V 3918 [(0, xr (2, 9)), (1, xr (0, 0)), (2, xr (1, 0)), (3, xr (2, 0)), (4, xr (2, 1)), (5, xi (i : Int))] [] (J, xst c9) (k + mc9) (n + ms9)) : V 3804 [(0, xr (2, 9)), (1, xr (0, 0)), (2, xr (1, 0)), (3, xr (2, 0)), (4, xr (2, 1)), (5, xi (i : Int))] [] (I, xst c) k n := by
  refine x_aload_n (pc := 3804) (j := 1) hE dL_law_3804 rfl ?_
  refine x_aload_n (pc := 3805) (j := 0) hE dL_law_3805 rfl ?_
  refine x_iload (pc := 3806) (j := 5) hE dL_law_3806 rfl ?_
  refine x_iconst (pc := 3808) hE dL_law_3808 ?_
  refine x_iadd (pc := 3809) hE dL_law_3809 ?_
  refine x_sld (pc := 3810) hE hs dL_law_3810 hA (m := i + 1) (by omega) (by omega) ?_
  refine x_aload_n (pc := 3811) (j := 0) hE dL_law_3811 rfl ?_
  refine x_iload (pc := 3812) (j := 5) hE dL_law_3812 rfl ?_
  refine x_iconst (pc := 3814) hE dL_law_3814 ?_
  refine x_iadd (pc := 3815) hE dL_law_3815 ?_
  refine x_sld (pc := 3816) hE hs dL_law_3816 hA (m := i + 2) (by omega) (by omega) ?_
  refine x_aload_n (pc := 3817) (j := 0) hE dL_law_3817 rfl ?_
  refine x_iload (pc := 3818) (j := 5) hE dL_law_3818 rfl ?_
  refine x_iconst (pc := 3820) hE dL_law_3820 ?_
  refine x_iadd (pc := 3821) hE dL_law_3821 ?_
  refine x_sld (pc := 3822) hE hs dL_law_3822 hA (m := i + 3) (by omega) (by omega) ?_
  refine x_aload (pc := 3823) (j := 4) hE dL_law_3823 rfl ?_
  refine x_cw (pc := 3825) (as := [xr (0, 0), xi (sx xs (i + 1)), xi (sx xs (i + 2)), xi (sx xs (i + 3)), xr (2, 1)]) hE hW dL_law_3825 pl_L_meanFlow lk_RL_334 rfl (Nat.le_refl _) hk hn rfl ?_
  intro I1 c1 hO hA9 hC9
  have hA2 : c1.2.2.2 (2, 9) = b := (hA9 _ (by decide)).trans hA
  refine x_istore (pc := 3828) (lo9 := [(6, xi F.2), (0, xr (2, 9)), (1, xr (0, 0)), (2, xr (1, 0)), (3, xr (2, 0)), (4, xr (2, 1)), (5, xi (i : Int))]) hE dL_law_3828 (by decide) rfl ?_
  refine x_aload_n (pc := 3830) (j := 3) hE dL_law_3830 rfl ?_
  refine x_aload_n (pc := 3831) (j := 1) hE dL_law_3831 rfl ?_
  refine x_iload (pc := 3832) (j := 6) hE dL_law_3832 rfl ?_
  refine x_iconst (pc := 3834) hE dL_law_3834 ?_
  refine x_iadd (pc := 3835) hE dL_law_3835 ?_
  refine x_sld (pc := 3836) hE hs dL_law_3836 hA2 (m := i + 1) (by omega) (by omega) ?_
  refine x_aload_n (pc := 3837) (j := 1) hE dL_law_3837 rfl ?_
  refine x_iload (pc := 3838) (j := 6) hE dL_law_3838 rfl ?_
  refine x_iconst (pc := 3840) hE dL_law_3840 ?_
  refine x_iadd (pc := 3841) hE dL_law_3841 ?_
  refine x_sld (pc := 3842) hE hs dL_law_3842 hA2 (m := i + 2) (by omega) (by omega) ?_
  refine x_aload_n (pc := 3843) (j := 1) hE dL_law_3843 rfl ?_
  refine x_iload (pc := 3844) (j := 6) hE dL_law_3844 rfl ?_
  refine x_iconst (pc := 3846) hE dL_law_3846 ?_
  refine x_iadd (pc := 3847) hE dL_law_3847 ?_
  refine x_sld (pc := 3848) hE hs dL_law_3848 hA2 (m := i + 3) (by omega) (by omega) ?_
  refine x_cr (pc := 3849) (q := (1, 0)) (as := [xi (sx xs (i + 1)), xi (sx xs (i + 2)), xi (sx xs (i + 3))]) (st := []) hE dL_law_3849 pl_X10_meanFlow lk_RL_336 rfl (lvm1 _ (by decide)) rfl rfl (Nat.le_refl _) hk hn (Nat.le_of_ble_eq_true rfl) (hR I1 c1 hC9) ?_
  rintro v J9 ⟨hD9, hF⟩
  obtain ⟨e1, e2⟩ : v = F.1 ∧ J9 (1, 0) 32 = F.2 := ⟨congrArg Prod.fst hF, congrArg Prod.snd hF⟩
  subst e1
  refine x_dstore (pc := 3852) (lo9 := [(7, xd F.1), (6, xi F.2), (0, xr (2, 9)), (1, xr (0, 0)), (2, xr (1, 0)), (3, xr (2, 0)), (4, xr (2, 1)), (5, xi (i : Int))]) hE dL_law_3852 (by decide) rfl ?_
  refine x_aload_n (pc := 3854) (j := 4) hE dL_law_3854 rfl ?_
  refine x_cr (pc := 3855) (q := (1, 0)) (as := []) (st := []) hE dL_law_3855 pl_X10_thrown lk_RL_177 rfl (lvm1 _ (by decide)) rfl rfl (Nat.le_refl _) hk hn (Nat.le_of_ble_eq_true rfl) (ok_thrown hX 11) ?_
  rintro t9 J9 ⟨rfl, rfl⟩
  show V 3858 [(7, xd F.1), (6, xi F.2), (0, xr (2, 9)), (1, xr (0, 0)), (2, xr (1, 0)), (3, xr (2, 0)), (4, xr (2, 1)), (5, xi (i : Int))] [xi (J9 (1, 0) 32)] (J9, xst c1) _ _
  rw [e2]
  refine x_iload (pc := 3858) (j := 1) hE dL_law_3858 rfl ?_
  refine x_icmp_same (pc := 3860) (tgt := 3865) hE dL_law_3860 rfl ?_
  refine x_iload (pc := 3865) (j := 1) hE dL_law_3865 rfl ?_
  refine x_in hE (fun hI9 => ?_)
  have hx : xin F.2 := e2 ▸ hI9 (1, 0) 32
  refine x_if_ne (pc := 3867) (tgt := 3902) hE dL_law_3867 rfl hx (fun _ => x_goto (pc := 3902) (tgt := 3918) hE dL_law_3902 rfl (x_loc hE [2, 3, 4, 5, 6, 7] rfl (next _ _ hD9 hA9))) (fun hz0 => ?_)
  refine x_aload (pc := 3870) (j := 6) hE dL_law_3870 rfl ?_
  refine x_iconst (pc := 3872) hE dL_law_3872 ?_
  refine x_daload (pc := 3873) (nn := 1) hE dL_law_3873 rfl (lvm2 _ (by decide)) (by decide) (by decide) ?_
  show V 3874 [(7, xd F.1), (6, xi F.2), (0, xr (2, 9)), (1, xr (0, 0)), (2, xr (1, 0)), (3, xr (2, 0)), (4, xr (2, 1)), (5, xi (i : Int))] [xd (c1.2.2.1 (2, 1) 0)] (J9, xst c1) _ _
  rw [hO hz0]
  refine x_dload (pc := 3874) (j := 0) hE dL_law_3874 rfl ?_
  refine x_dcmp (pc := 3876) hE dL_law_3876 ?_
  refine x_if_eq (pc := 3877) (tgt := 3902) hE dL_law_3877 rfl (xin_ti _) (fun _ => x_goto (pc := 3902) (tgt := 3918) hE dL_law_3902 rfl (x_loc hE [2, 3, 4, 5, 6, 7] rfl (next _ _ hD9 hA9))) (fun h1 => ?_)
  refine x_aload (pc := 3880) (j := 6) hE dL_law_3880 rfl ?_
  refine x_iconst (pc := 3882) hE dL_law_3882 ?_
  refine x_daload (pc := 3883) (nn := 1) hE dL_law_3883 rfl (lvm2 _ (by decide)) (by decide) (by decide) ?_
  show V 3884 [(7, xd F.1), (6, xi F.2), (0, xr (2, 9)), (1, xr (0, 0)), (2, xr (1, 0)), (3, xr (2, 0)), (4, xr (2, 1)), (5, xi (i : Int))] [xd (c1.2.2.1 (2, 1) 0)] (J9, xst c1) _ _
  rw [hO hz0]
  refine x_aload (pc := 3884) (j := 6) hE dL_law_3884 rfl ?_
  refine x_iconst (pc := 3886) hE dL_law_3886 ?_
  refine x_daload (pc := 3887) (nn := 1) hE dL_law_3887 rfl (lvm2 _ (by decide)) (by decide) (by decide) ?_
  show V 3888 [(7, xd F.1), (6, xi F.2), (0, xr (2, 9)), (1, xr (0, 0)), (2, xr (1, 0)), (3, xr (2, 0)), (4, xr (2, 1)), (5, xi (i : Int))] [xd (c1.2.2.1 (2, 1) 0), _] (J9, xst c1) _ _
  rw [hO hz0]
  refine x_dcmp (pc := 3888) hE dL_law_3888 ?_
  refine x_if_eq (pc := 3889) (tgt := 3900) hE dL_law_3889 rfl (xin_ti _) (fun h2 => absurd h2 h1) (fun _ => ?_)
  refine x_dload (pc := 3892) (j := 0) hE dL_law_3892 rfl ?_
  refine x_dload (pc := 3894) (j := 0) hE dL_law_3894 rfl ?_
  refine x_dcmp (pc := 3896) hE dL_law_3896 ?_
  exact x_if_ne (pc := 3897) (tgt := 3902) hE dL_law_3897 rfl (xin_ti _) (fun _ => x_goto (pc := 3902) (tgt := 3918) hE dL_law_3902 rfl (x_loc hE [2, 3, 4, 5, 6, 7] rfl (next _ _ hD9 hA9))) (fun h2 => absurd h2 h1)

set_option maxRecDepth 100000 in
theorem lc_49 {X : xX} (hX : xBase X) {V : xT} {mc ms : Nat} (hE : xEng X m_L_law 12 mc ms V) {b L : Nat} {xs : Nat → Int32} (hs : LSc X b L xs) {c : xCx} {I : xIn} (hA : c.2.2.2 (2, 9) = b) {i : Nat} (hi : i + 7 ≤ L) {k n mc9 ms9 : Nat} (hk : k + mc9 ≤ mc) (hn : n + ms9 ≤ ms) {F : Bool} {C9 D9 : xIn → Prop} (hW : xRet rB X m_X9_isSound 11 [xr (0, 0)] c I mc9 ms9 (fun v J => C9 J ∧ v = F) xNo) (hR : ∀ I9, C9 I9 → xRet rB X m_X10_isSound 11 [xr (1, 0)] c I9 0 0 (fun v J => D9 J ∧ v = F) xNo) (next : ∀ J, D9 J → V 3918 [(0, xr (2, 9)), (1, xr (0, 0)), (2, xr (1, 0)), (3, xr (2, 0)), (4, xr (2, 1)), (5, xi (i : Int))] [] (J, xst c) (k + mc9) (n + ms9)) : V 3905 [(0, xr (2, 9)), (1, xr (0, 0)), (2, xr (1, 0)), (3, xr (2, 0)), (4, xr (2, 1)), (5, xi (i : Int))] [] (I, xst c) k n := by
  refine x_aload_n (pc := 3905) (j := 1) hE dL_law_3905 rfl ?_
  refine x_cr (pc := 3906) (q := (0, 0)) (as := []) (st := []) hE dL_law_3906 pl_X9_isSound lk_RL_337 rfl (lvm0 _ (by decide)) rfl rfl (Nat.le_refl _) hk hn (Nat.le_of_ble_eq_true rfl) hW ?_
  rintro v I1 ⟨hC9, hv9⟩
  rw [hv9]
  have hA2 := hA
  refine x_aload_n (pc := 3909) (j := 2) hE dL_law_3909 rfl ?_
  refine x_cr (pc := 3910) (q := (1, 0)) (as := []) (st := [xi (xbi F)]) hE dL_law_3910 pl_X10_isSound lk_RL_341 rfl (lvm1 _ (by decide)) rfl rfl (Nat.le_refl _) hk hn (Nat.le_of_ble_eq_true rfl) (hR I1 hC9) ?_
  rintro v9 J9 ⟨hD9, hv8⟩
  rw [hv8]
  refine x_icmp_same (pc := 3913) (tgt := 3918) hE dL_law_3913 rfl ?_
  exact x_loc hE [0, 1, 2, 3, 4, 5] rfl (next _ hD9)

