/-! the law, case by case -/
theorem lc_0 {n : Nf} {b L : Nat} {xs : Nat → Int32} : CLw n b L xs 244 := by
  intro ad nl ln m i B cells slots o5 o6 h6 hL R hB h4 hc hs K
  obtain ⟨r, m1, m2, e1, e2, R2⟩ : QQ nl ln B (f_X10_feed m (xs (nI i + 1).toNatClampNeg) (xs (nI i + 2).toNatClampNeg) (xs (nI i + 3).toNatClampNeg) (xs (nI i + 4).toNatClampNeg) (xs (nI i + 5).toNatClampNeg)) (fun m1 => f_X11_feed m1 (xs (nI i + 1).toNatClampNeg) (xs (nI i + 2).toNatClampNeg) (xs (nI i + 3).toNatClampNeg) (xs (nI i + 4).toNatClampNeg) (xs (nI i + 5).toNatClampNeg)) := q_feed R
  refine n_aloadn_1 dL_law_244 ?_
  refine n_aloadn_0 dL_law_245 ?_
  refine n_iload_4 dL_law_246 ?_
  refine n_iconst 1 dL_law_248 rfl ?_
  refine n_iadd dL_law_249 ?_
  refine l_sld (sx1 h6 hL) dL_law_250 ?_
  refine n_aloadn_0 dL_law_251 ?_
  refine n_iload_4 dL_law_252 ?_
  refine n_iconst 2 dL_law_254 rfl ?_
  refine n_iadd dL_law_255 ?_
  refine l_sld (sx2 h6 hL) dL_law_256 ?_
  refine n_aloadn_0 dL_law_257 ?_
  refine n_iload_4 dL_law_258 ?_
  refine n_iconst 3 dL_law_260 rfl ?_
  refine n_iadd dL_law_261 ?_
  refine l_sld (sx3 h6 hL) dL_law_262 ?_
  refine n_aloadn_0 dL_law_263 ?_
  refine n_iload_4 dL_law_264 ?_
  refine n_iconst 4 dL_law_266 rfl ?_
  refine n_iadd dL_law_267 ?_
  refine l_sld (sx4 h6 hL) dL_law_268 ?_
  refine n_aloadn_0 dL_law_269 ?_
  refine n_iload_4 dL_law_270 ?_
  refine n_iconst 5 dL_law_272 rfl ?_
  refine n_iadd dL_law_273 ?_
  refine l_sld (sx5 h6 hL) dL_law_274 ?_
  refine n_callV (As := [.int (xs (nI i + 1).toNatClampNeg), .int (xs (nI i + 2).toNatClampNeg), .int (xs (nI i + 3).toNatClampNeg), .int (xs (nI i + 4).toNatClampNeg), .int (xs (nI i + 5).toNatClampNeg)]) rfl (cl_ncl (c_X10_feed e1)) (wsO (g := gOf n ad nl ln) pn_0 pc_0) (q := (RX10, TX10, 11)) rfl ce_X10_feed lk_L_19 rfl ⟨Nat.le_of_ble_eq_true rfl, Nat.le_of_ble_eq_true rfl⟩ ⟨by show _ ≤ 601024; omega, by show _ ≤ 7293034; omega⟩ rfl dL_law_275 ?_
  rintro _ rfl
  refine n_aloadn_2 dL_law_278 ?_
  refine n_aloadn_0 dL_law_279 ?_
  refine n_iload_4 dL_law_280 ?_
  refine n_iconst 1 dL_law_282 rfl ?_
  refine n_iadd dL_law_283 ?_
  refine l_sld (sx1 h6 hL) dL_law_284 ?_
  refine n_aloadn_0 dL_law_285 ?_
  refine n_iload_4 dL_law_286 ?_
  refine n_iconst 2 dL_law_288 rfl ?_
  refine n_iadd dL_law_289 ?_
  refine l_sld (sx2 h6 hL) dL_law_290 ?_
  refine n_aloadn_0 dL_law_291 ?_
  refine n_iload_4 dL_law_292 ?_
  refine n_iconst 3 dL_law_294 rfl ?_
  refine n_iadd dL_law_295 ?_
  refine l_sld (sx3 h6 hL) dL_law_296 ?_
  refine n_aloadn_0 dL_law_297 ?_
  refine n_iload_4 dL_law_298 ?_
  refine n_iconst 4 dL_law_300 rfl ?_
  refine n_iadd dL_law_301 ?_
  refine l_sld (sx4 h6 hL) dL_law_302 ?_
  refine n_aloadn_0 dL_law_303 ?_
  refine n_iload_4 dL_law_304 ?_
  refine n_iconst 5 dL_law_306 rfl ?_
  refine n_iadd dL_law_307 ?_
  refine l_sld (sx5 h6 hL) dL_law_308 ?_
  refine n_callV (As := [.int (xs (nI i + 1).toNatClampNeg), .int (xs (nI i + 2).toNatClampNeg), .int (xs (nI i + 3).toNatClampNeg), .int (xs (nI i + 4).toNatClampNeg), .int (xs (nI i + 5).toNatClampNeg)]) rfl (cl_ncl (c_X11_feed e2)) (wsO (g := gOf n ad nl ln) pn_27 pc_27) (q := (RX11, TX11, 46)) rfl ce_X11_feed lk_L_23 rfl ⟨Nat.le_of_ble_eq_true rfl, Nat.le_of_ble_eq_true rfl⟩ ⟨by show _ ≤ 601024; omega, by show _ ≤ 7293034; omega⟩ rfl dL_law_309 ?_
  rintro _ rfl
  refine n_icmp_eq 1762 dL_law_312 (by decide) (fun _ => ?_) (fun h => absurd rfl h)
  exact K ad nl ln m2 _ _ _ _ rfl rfl rfl (Rel_mono R2 (by omega)) h4 (by omega) (by omega)
theorem lc_1 {n : Nf} {b L : Nat} {xs : Nat → Int32} : CLw n b L xs 317 := by
  intro ad nl ln m i B cells slots o5 o6 h6 hL R hB h4 hc hs K
  obtain ⟨r, m1, m2, e1, e2, R2⟩ : QQ nl ln B (f_X10_end m (xs (nI i + 1).toNatClampNeg)) (fun m1 => f_X11_end m1 (xs (nI i + 1).toNatClampNeg)) := q_end R
  refine n_aloadn_1 dL_law_317 ?_
  refine n_aloadn_0 dL_law_318 ?_
  refine n_iload_4 dL_law_319 ?_
  refine n_iconst 1 dL_law_321 rfl ?_
  refine n_iadd dL_law_322 ?_
  refine l_sld (sx1 h6 hL) dL_law_323 ?_
  refine n_callV (As := [.int (xs (nI i + 1).toNatClampNeg)]) rfl (cl_ncl (c_X10_end e1)) (wsO (g := gOf n ad nl ln) pn_0 pc_0) (q := (RX10, TX10, 11)) rfl ce_X10_end lk_L_24 rfl ⟨Nat.le_of_ble_eq_true rfl, Nat.le_of_ble_eq_true rfl⟩ ⟨by show _ ≤ 601024; omega, by show _ ≤ 7293034; omega⟩ rfl dL_law_324 ?_
  rintro _ rfl
  refine n_aloadn_2 dL_law_327 ?_
  refine n_aloadn_0 dL_law_328 ?_
  refine n_iload_4 dL_law_329 ?_
  refine n_iconst 1 dL_law_331 rfl ?_
  refine n_iadd dL_law_332 ?_
  refine l_sld (sx1 h6 hL) dL_law_333 ?_
  refine n_callV (As := [.int (xs (nI i + 1).toNatClampNeg)]) rfl (cl_ncl (c_X11_end e2)) (wsO (g := gOf n ad nl ln) pn_27 pc_27) (q := (RX11, TX11, 46)) rfl ce_X11_end lk_L_28 rfl ⟨Nat.le_of_ble_eq_true rfl, Nat.le_of_ble_eq_true rfl⟩ ⟨by show _ ≤ 601024; omega, by show _ ≤ 7293034; omega⟩ rfl dL_law_334 ?_
  rintro _ rfl
  refine n_icmp_eq 1762 dL_law_337 (by decide) (fun _ => ?_) (fun h => absurd rfl h)
  exact K ad nl ln m2 _ _ _ _ rfl rfl rfl (Rel_mono R2 (by omega)) h4 (by omega) (by omega)
theorem lc_2 {n : Nf} {b L : Nat} {xs : Nat → Int32} : CLw n b L xs 342 := by
  intro ad nl ln m i B cells slots o5 o6 h6 hL R hB h4 hc hs K
  obtain ⟨r, m1, m2, e1, e2, R2⟩ : QQ nl ln B (f_X10_fault m (xs (nI i + 1).toNatClampNeg)) (fun m1 => f_X11_fault m1 (xs (nI i + 1).toNatClampNeg)) := q_fault R
  refine n_aloadn_1 dL_law_342 ?_
  refine n_aloadn_0 dL_law_343 ?_
  refine n_iload_4 dL_law_344 ?_
  refine n_iconst 1 dL_law_346 rfl ?_
  refine n_iadd dL_law_347 ?_
  refine l_sld (sx1 h6 hL) dL_law_348 ?_
  refine n_callV (As := [.int (xs (nI i + 1).toNatClampNeg)]) rfl (cl_ncl (c_X10_fault gOf_X e1)) (wsO (g := gOf n ad nl ln) pn_0 pc_0) (q := (RX10, TX10, 11)) rfl ce_X10_fault lk_L_29 rfl ⟨Nat.le_of_ble_eq_true rfl, Nat.le_of_ble_eq_true rfl⟩ ⟨by show _ ≤ 601024; omega, by show _ ≤ 7293034; omega⟩ rfl dL_law_349 ?_
  rintro _ rfl
  refine n_aloadn_2 dL_law_352 ?_
  refine n_aloadn_0 dL_law_353 ?_
  refine n_iload_4 dL_law_354 ?_
  refine n_iconst 1 dL_law_356 rfl ?_
  refine n_iadd dL_law_357 ?_
  refine l_sld (sx1 h6 hL) dL_law_358 ?_
  refine n_callV (As := [.int (xs (nI i + 1).toNatClampNeg)]) rfl (cl_ncl (c_X11_fault gOf_X e2)) (wsO (g := gOf n ad nl ln) pn_27 pc_27) (q := (RX11, TX11, 46)) rfl ce_X11_fault lk_L_33 rfl ⟨Nat.le_of_ble_eq_true rfl, Nat.le_of_ble_eq_true rfl⟩ ⟨by show _ ≤ 601024; omega, by show _ ≤ 7293034; omega⟩ rfl dL_law_359 ?_
  rintro _ rfl
  refine n_icmp_eq 1762 dL_law_362 (by decide) (fun _ => ?_) (fun h => absurd rfl h)
  exact K ad nl ln m2 _ _ _ _ rfl rfl rfl (Rel_mono R2 (by omega)) h4 (by omega) (by omega)
theorem lc_5 {n : Nf} {b L : Nat} {xs : Nat → Int32} : CLw n b L xs 460 := by
  intro ad nl ln m i B cells slots o5 o6 h6 hL R hB h4 hc hs K
  obtain ⟨r, m1, m2, e1, e2, R2⟩ : QQ nl ln B (f_X10_elder m (xs (nI i + 1).toNatClampNeg) (xs (nI i + 2).toNatClampNeg)) (fun m1 => f_X11_elder m1 (xs (nI i + 1).toNatClampNeg) (xs (nI i + 2).toNatClampNeg)) := q_elder R
  refine n_aloadn_1 dL_law_460 ?_
  refine n_aloadn_0 dL_law_461 ?_
  refine n_iload_4 dL_law_462 ?_
  refine n_iconst 1 dL_law_464 rfl ?_
  refine n_iadd dL_law_465 ?_
  refine l_sld (sx1 h6 hL) dL_law_466 ?_
  refine n_aloadn_0 dL_law_467 ?_
  refine n_iload_4 dL_law_468 ?_
  refine n_iconst 2 dL_law_470 rfl ?_
  refine n_iadd dL_law_471 ?_
  refine l_sld (sx2 h6 hL) dL_law_472 ?_
  refine n_callV (As := [.int (xs (nI i + 1).toNatClampNeg), .int (xs (nI i + 2).toNatClampNeg)]) rfl (cl_ncl (c_X10_elder e1)) (wsO (g := gOf n ad nl ln) pn_0 pc_0) (q := (RX10, TX10, 11)) rfl ce_X10_elder lk_L_48 rfl ⟨Nat.le_of_ble_eq_true rfl, Nat.le_of_ble_eq_true rfl⟩ ⟨by show _ ≤ 601024; omega, by show _ ≤ 7293034; omega⟩ rfl dL_law_473 ?_
  rintro _ rfl
  refine n_aloadn_2 dL_law_476 ?_
  refine n_aloadn_0 dL_law_477 ?_
  refine n_iload_4 dL_law_478 ?_
  refine n_iconst 1 dL_law_480 rfl ?_
  refine n_iadd dL_law_481 ?_
  refine l_sld (sx1 h6 hL) dL_law_482 ?_
  refine n_aloadn_0 dL_law_483 ?_
  refine n_iload_4 dL_law_484 ?_
  refine n_iconst 2 dL_law_486 rfl ?_
  refine n_iadd dL_law_487 ?_
  refine l_sld (sx2 h6 hL) dL_law_488 ?_
  refine n_callV (As := [.int (xs (nI i + 1).toNatClampNeg), .int (xs (nI i + 2).toNatClampNeg)]) rfl (cl_ncl (c_X11_elder e2)) (wsO (g := gOf n ad nl ln) pn_27 pc_27) (q := (RX11, TX11, 46)) rfl ce_X11_elder lk_L_51 rfl ⟨Nat.le_of_ble_eq_true rfl, Nat.le_of_ble_eq_true rfl⟩ ⟨by show _ ≤ 601024; omega, by show _ ≤ 7293034; omega⟩ rfl dL_law_489 ?_
  rintro _ rfl
  refine n_icmp_eq 1762 dL_law_492 (by decide) (fun _ => ?_) (fun h => absurd rfl h)
  exact K ad nl ln m2 _ _ _ _ rfl rfl rfl (Rel_mono R2 (by omega)) h4 (by omega) (by omega)
theorem lc_6 {n : Nf} {b L : Nat} {xs : Nat → Int32} : CLw n b L xs 497 := by
  intro ad nl ln m i B cells slots o5 o6 h6 hL R hB h4 hc hs K
  obtain ⟨r, m1, m2, e1, e2, R2⟩ : QQ nl ln B (f_X10_rule m (xs (nI i + 1).toNatClampNeg)) (fun m1 => f_X11_rule m1 (xs (nI i + 1).toNatClampNeg)) := q_rule R
  refine n_aloadn_1 dL_law_497 ?_
  refine n_aloadn_0 dL_law_498 ?_
  refine n_iload_4 dL_law_499 ?_
  refine n_iconst 1 dL_law_501 rfl ?_
  refine n_iadd dL_law_502 ?_
  refine l_sld (sx1 h6 hL) dL_law_503 ?_
  refine n_callV (As := [.int (xs (nI i + 1).toNatClampNeg)]) rfl (cl_ncl (c_X10_rule e1)) (wsO (g := gOf n ad nl ln) pn_0 pc_0) (q := (RX10, TX10, 11)) rfl ce_X10_rule lk_L_52 rfl ⟨Nat.le_of_ble_eq_true rfl, Nat.le_of_ble_eq_true rfl⟩ ⟨by show _ ≤ 601024; omega, by show _ ≤ 7293034; omega⟩ rfl dL_law_504 ?_
  rintro _ rfl
  refine n_aloadn_2 dL_law_507 ?_
  refine n_aloadn_0 dL_law_508 ?_
  refine n_iload_4 dL_law_509 ?_
  refine n_iconst 1 dL_law_511 rfl ?_
  refine n_iadd dL_law_512 ?_
  refine l_sld (sx1 h6 hL) dL_law_513 ?_
  refine n_callV (As := [.int (xs (nI i + 1).toNatClampNeg)]) rfl (cl_ncl (c_X11_rule e2)) (wsO (g := gOf n ad nl ln) pn_27 pc_27) (q := (RX11, TX11, 46)) rfl ce_X11_rule lk_L_55 rfl ⟨Nat.le_of_ble_eq_true rfl, Nat.le_of_ble_eq_true rfl⟩ ⟨by show _ ≤ 601024; omega, by show _ ≤ 7293034; omega⟩ rfl dL_law_514 ?_
  rintro _ rfl
  refine n_icmp_eq 1762 dL_law_517 (by decide) (fun _ => ?_) (fun h => absurd rfl h)
  exact K ad nl ln m2 _ _ _ _ rfl rfl rfl (Rel_mono R2 (by omega)) h4 (by omega) (by omega)
theorem lc_7 {n : Nf} {b L : Nat} {xs : Nat → Int32} : CLw n b L xs 522 := by
  intro ad nl ln m i B cells slots o5 o6 h6 hL R hB h4 hc hs K
  obtain ⟨r, m1, m2, e1, e2, R2⟩ : QQ nl ln B (f_X10_law m (xs (nI i + 1).toNatClampNeg)) (fun m1 => f_X11_law m1 (xs (nI i + 1).toNatClampNeg)) := q_law R
  refine n_aloadn_1 dL_law_522 ?_
  refine n_aloadn_0 dL_law_523 ?_
  refine n_iload_4 dL_law_524 ?_
  refine n_iconst 1 dL_law_526 rfl ?_
  refine n_iadd dL_law_527 ?_
  refine l_sld (sx1 h6 hL) dL_law_528 ?_
  refine n_callV (As := [.int (xs (nI i + 1).toNatClampNeg)]) rfl (cl_ncl (c_X10_law e1)) (wsO (g := gOf n ad nl ln) pn_0 pc_0) (q := (RX10, TX10, 11)) rfl ce_X10_law lk_L_56 rfl ⟨Nat.le_of_ble_eq_true rfl, Nat.le_of_ble_eq_true rfl⟩ ⟨by show _ ≤ 601024; omega, by show _ ≤ 7293034; omega⟩ rfl dL_law_529 ?_
  rintro _ rfl
  refine n_aloadn_2 dL_law_532 ?_
  refine n_aloadn_0 dL_law_533 ?_
  refine n_iload_4 dL_law_534 ?_
  refine n_iconst 1 dL_law_536 rfl ?_
  refine n_iadd dL_law_537 ?_
  refine l_sld (sx1 h6 hL) dL_law_538 ?_
  refine n_callV (As := [.int (xs (nI i + 1).toNatClampNeg)]) rfl (cl_ncl (c_X11_law e2)) (wsO (g := gOf n ad nl ln) pn_27 pc_27) (q := (RX11, TX11, 46)) rfl ce_X11_law lk_L_59 rfl ⟨Nat.le_of_ble_eq_true rfl, Nat.le_of_ble_eq_true rfl⟩ ⟨by show _ ≤ 601024; omega, by show _ ≤ 7293034; omega⟩ rfl dL_law_539 ?_
  rintro _ rfl
  refine n_icmp_eq 1762 dL_law_542 (by decide) (fun _ => ?_) (fun h => absurd rfl h)
  exact K ad nl ln m2 _ _ _ _ rfl rfl rfl (Rel_mono R2 (by omega)) h4 (by omega) (by omega)
theorem lc_8 {n : Nf} {b L : Nat} {xs : Nat → Int32} : CLw n b L xs 547 := by
  intro ad nl ln m i B cells slots o5 o6 h6 hL R hB h4 hc hs K
  obtain ⟨r, m1, m2, e1, e2, R2⟩ : QQ nl ln B (f_X10_fever m (xs (nI i + 1).toNatClampNeg)) (fun m1 => f_X11_fever m1 (xs (nI i + 1).toNatClampNeg)) := q_fever R
  refine n_aloadn_1 dL_law_547 ?_
  refine n_aloadn_0 dL_law_548 ?_
  refine n_iload_4 dL_law_549 ?_
  refine n_iconst 1 dL_law_551 rfl ?_
  refine n_iadd dL_law_552 ?_
  refine l_sld (sx1 h6 hL) dL_law_553 ?_
  refine n_callV (As := [.int (xs (nI i + 1).toNatClampNeg)]) rfl (cl_ncl (c_X10_fever e1)) (wsO (g := gOf n ad nl ln) pn_0 pc_0) (q := (RX10, TX10, 11)) rfl ce_X10_fever lk_L_60 rfl ⟨Nat.le_of_ble_eq_true rfl, Nat.le_of_ble_eq_true rfl⟩ ⟨by show _ ≤ 601024; omega, by show _ ≤ 7293034; omega⟩ rfl dL_law_554 ?_
  rintro _ rfl
  refine n_aloadn_2 dL_law_557 ?_
  refine n_aloadn_0 dL_law_558 ?_
  refine n_iload_4 dL_law_559 ?_
  refine n_iconst 1 dL_law_561 rfl ?_
  refine n_iadd dL_law_562 ?_
  refine l_sld (sx1 h6 hL) dL_law_563 ?_
  refine n_callV (As := [.int (xs (nI i + 1).toNatClampNeg)]) rfl (cl_ncl (c_X11_fever e2)) (wsO (g := gOf n ad nl ln) pn_27 pc_27) (q := (RX11, TX11, 46)) rfl ce_X11_fever lk_L_63 rfl ⟨Nat.le_of_ble_eq_true rfl, Nat.le_of_ble_eq_true rfl⟩ ⟨by show _ ≤ 601024; omega, by show _ ≤ 7293034; omega⟩ rfl dL_law_564 ?_
  rintro _ rfl
  refine n_icmp_eq 1762 dL_law_567 (by decide) (fun _ => ?_) (fun h => absurd rfl h)
  exact K ad nl ln m2 _ _ _ _ rfl rfl rfl (Rel_mono R2 (by omega)) h4 (by omega) (by omega)
theorem lc_9 {n : Nf} {b L : Nat} {xs : Nat → Int32} : CLw n b L xs 572 := by
  intro ad nl ln m i B cells slots o5 o6 h6 hL R hB h4 hc hs K
  obtain ⟨r, m1, m2, e1, e2, R2⟩ : QQ nl ln B (f_X10_passes m (xs (nI i + 1).toNatClampNeg) (xs (nI i + 2).toNatClampNeg)) (fun m1 => f_X11_passes m1 (xs (nI i + 1).toNatClampNeg) (xs (nI i + 2).toNatClampNeg)) := q_passes R
  refine n_aloadn_1 dL_law_572 ?_
  refine n_aloadn_0 dL_law_573 ?_
  refine n_iload_4 dL_law_574 ?_
  refine n_iconst 1 dL_law_576 rfl ?_
  refine n_iadd dL_law_577 ?_
  refine l_sld (sx1 h6 hL) dL_law_578 ?_
  refine n_aloadn_0 dL_law_579 ?_
  refine n_iload_4 dL_law_580 ?_
  refine n_iconst 2 dL_law_582 rfl ?_
  refine n_iadd dL_law_583 ?_
  refine l_sld (sx2 h6 hL) dL_law_584 ?_
  refine n_callV (As := [.int (xs (nI i + 1).toNatClampNeg), .int (xs (nI i + 2).toNatClampNeg)]) rfl (cl_ncl (c_X10_passes e1)) (wsO (g := gOf n ad nl ln) pn_0 pc_0) (q := (RX10, TX10, 11)) rfl ce_X10_passes lk_L_64 rfl ⟨Nat.le_of_ble_eq_true rfl, Nat.le_of_ble_eq_true rfl⟩ ⟨by show _ ≤ 601024; omega, by show _ ≤ 7293034; omega⟩ rfl dL_law_585 ?_
  rintro _ rfl
  refine n_aloadn_2 dL_law_588 ?_
  refine n_aloadn_0 dL_law_589 ?_
  refine n_iload_4 dL_law_590 ?_
  refine n_iconst 1 dL_law_592 rfl ?_
  refine n_iadd dL_law_593 ?_
  refine l_sld (sx1 h6 hL) dL_law_594 ?_
  refine n_aloadn_0 dL_law_595 ?_
  refine n_iload_4 dL_law_596 ?_
  refine n_iconst 2 dL_law_598 rfl ?_
  refine n_iadd dL_law_599 ?_
  refine l_sld (sx2 h6 hL) dL_law_600 ?_
  refine n_callV (As := [.int (xs (nI i + 1).toNatClampNeg), .int (xs (nI i + 2).toNatClampNeg)]) rfl (cl_ncl (c_X11_passes e2)) (wsO (g := gOf n ad nl ln) pn_27 pc_27) (q := (RX11, TX11, 46)) rfl ce_X11_passes lk_L_67 rfl ⟨Nat.le_of_ble_eq_true rfl, Nat.le_of_ble_eq_true rfl⟩ ⟨by show _ ≤ 601024; omega, by show _ ≤ 7293034; omega⟩ rfl dL_law_601 ?_
  rintro _ rfl
  refine n_icmp_eq 1762 dL_law_604 (by decide) (fun _ => ?_) (fun h => absurd rfl h)
  exact K ad nl ln m2 _ _ _ _ rfl rfl rfl (Rel_mono R2 (by omega)) h4 (by omega) (by omega)
theorem lc_10 {n : Nf} {b L : Nat} {xs : Nat → Int32} : CLw n b L xs 609 := by
  intro ad nl ln m i B cells slots o5 o6 h6 hL R hB h4 hc hs K
  obtain ⟨r, m1, m2, e1, e2, R2⟩ : QQ nl ln B (f_X10_slips m (xs (nI i + 1).toNatClampNeg) (xs (nI i + 2).toNatClampNeg)) (fun m1 => f_X11_slips m1 (xs (nI i + 1).toNatClampNeg) (xs (nI i + 2).toNatClampNeg)) := q_slips R
  refine n_aloadn_1 dL_law_609 ?_
  refine n_aloadn_0 dL_law_610 ?_
  refine n_iload_4 dL_law_611 ?_
  refine n_iconst 1 dL_law_613 rfl ?_
  refine n_iadd dL_law_614 ?_
  refine l_sld (sx1 h6 hL) dL_law_615 ?_
  refine n_aloadn_0 dL_law_616 ?_
  refine n_iload_4 dL_law_617 ?_
  refine n_iconst 2 dL_law_619 rfl ?_
  refine n_iadd dL_law_620 ?_
  refine l_sld (sx2 h6 hL) dL_law_621 ?_
  refine n_callV (As := [.int (xs (nI i + 1).toNatClampNeg), .int (xs (nI i + 2).toNatClampNeg)]) rfl (cl_ncl (c_X10_slips e1)) (wsO (g := gOf n ad nl ln) pn_0 pc_0) (q := (RX10, TX10, 11)) rfl ce_X10_slips lk_L_68 rfl ⟨Nat.le_of_ble_eq_true rfl, Nat.le_of_ble_eq_true rfl⟩ ⟨by show _ ≤ 601024; omega, by show _ ≤ 7293034; omega⟩ rfl dL_law_622 ?_
  rintro _ rfl
  refine n_aloadn_2 dL_law_625 ?_
  refine n_aloadn_0 dL_law_626 ?_
  refine n_iload_4 dL_law_627 ?_
  refine n_iconst 1 dL_law_629 rfl ?_
  refine n_iadd dL_law_630 ?_
  refine l_sld (sx1 h6 hL) dL_law_631 ?_
  refine n_aloadn_0 dL_law_632 ?_
  refine n_iload_4 dL_law_633 ?_
  refine n_iconst 2 dL_law_635 rfl ?_
  refine n_iadd dL_law_636 ?_
  refine l_sld (sx2 h6 hL) dL_law_637 ?_
  refine n_callV (As := [.int (xs (nI i + 1).toNatClampNeg), .int (xs (nI i + 2).toNatClampNeg)]) rfl (cl_ncl (c_X11_slips e2)) (wsO (g := gOf n ad nl ln) pn_27 pc_27) (q := (RX11, TX11, 46)) rfl ce_X11_slips lk_L_71 rfl ⟨Nat.le_of_ble_eq_true rfl, Nat.le_of_ble_eq_true rfl⟩ ⟨by show _ ≤ 601024; omega, by show _ ≤ 7293034; omega⟩ rfl dL_law_638 ?_
  rintro _ rfl
  refine n_icmp_eq 1762 dL_law_641 (by decide) (fun _ => ?_) (fun h => absurd rfl h)
  exact K ad nl ln m2 _ _ _ _ rfl rfl rfl (Rel_mono R2 (by omega)) h4 (by omega) (by omega)
theorem lc_11 {n : Nf} {b L : Nat} {xs : Nat → Int32} : CLw n b L xs 646 := by
  intro ad nl ln m i B cells slots o5 o6 h6 hL R hB h4 hc hs K
  obtain ⟨r, m1, m2, e1, e2, R2⟩ : QQ nl ln B (f_X10_examiner m ) (fun m1 => f_X11_examiner m1 ) := q_examiner R
  refine n_aloadn_1 dL_law_646 ?_
  refine n_callV (As := []) rfl (cl_ncl (c_X10_examiner e1)) (wsO (g := gOf n ad nl ln) pn_0 pc_0) (q := (RX10, TX10, 11)) rfl ce_X10_examiner lk_L_72 rfl ⟨Nat.le_of_ble_eq_true rfl, Nat.le_of_ble_eq_true rfl⟩ ⟨by show _ ≤ 601024; omega, by show _ ≤ 7293034; omega⟩ rfl dL_law_647 ?_
  rintro _ rfl
  refine n_aloadn_2 dL_law_650 ?_
  refine n_callV (As := []) rfl (cl_ncl (c_X11_examiner e2)) (wsO (g := gOf n ad nl ln) pn_27 pc_27) (q := (RX11, TX11, 46)) rfl ce_X11_examiner lk_L_75 rfl ⟨Nat.le_of_ble_eq_true rfl, Nat.le_of_ble_eq_true rfl⟩ ⟨by show _ ≤ 601024; omega, by show _ ≤ 7293034; omega⟩ rfl dL_law_651 ?_
  rintro _ rfl
  refine n_icmp_eq 1762 dL_law_654 (by decide) (fun _ => ?_) (fun h => absurd rfl h)
  exact K ad nl ln m2 _ _ _ _ rfl rfl rfl (Rel_mono R2 (by omega)) h4 (by omega) (by omega)
theorem lc_12 {n : Nf} {b L : Nat} {xs : Nat → Int32} : CLw n b L xs 659 := by
  intro ad nl ln m i B cells slots o5 o6 h6 hL R hB h4 hc hs K
  obtain ⟨r, m1, m2, e1, e2, R2⟩ : QQ nl ln B (f_X10_teach m (xs (nI i + 1).toNatClampNeg) (xs (nI i + 2).toNatClampNeg)) (fun m1 => f_X11_teach m1 (xs (nI i + 1).toNatClampNeg) (xs (nI i + 2).toNatClampNeg)) := q_teach R
  refine n_aloadn_1 dL_law_659 ?_
  refine n_aloadn_0 dL_law_660 ?_
  refine n_iload_4 dL_law_661 ?_
  refine n_iconst 1 dL_law_663 rfl ?_
  refine n_iadd dL_law_664 ?_
  refine l_sld (sx1 h6 hL) dL_law_665 ?_
  refine n_aloadn_0 dL_law_666 ?_
  refine n_iload_4 dL_law_667 ?_
  refine n_iconst 2 dL_law_669 rfl ?_
  refine n_iadd dL_law_670 ?_
  refine l_sld (sx2 h6 hL) dL_law_671 ?_
  refine n_callV (As := [.int (xs (nI i + 1).toNatClampNeg), .int (xs (nI i + 2).toNatClampNeg)]) rfl (cl_ncl (c_X10_teach e1)) (wsO (g := gOf n ad nl ln) pn_0 pc_0) (q := (RX10, TX10, 11)) rfl ce_X10_teach lk_L_76 rfl ⟨Nat.le_of_ble_eq_true rfl, Nat.le_of_ble_eq_true rfl⟩ ⟨by show _ ≤ 601024; omega, by show _ ≤ 7293034; omega⟩ rfl dL_law_672 ?_
  rintro _ rfl
  refine n_aloadn_2 dL_law_675 ?_
  refine n_aloadn_0 dL_law_676 ?_
  refine n_iload_4 dL_law_677 ?_
  refine n_iconst 1 dL_law_679 rfl ?_
  refine n_iadd dL_law_680 ?_
  refine l_sld (sx1 h6 hL) dL_law_681 ?_
  refine n_aloadn_0 dL_law_682 ?_
  refine n_iload_4 dL_law_683 ?_
  refine n_iconst 2 dL_law_685 rfl ?_
  refine n_iadd dL_law_686 ?_
  refine l_sld (sx2 h6 hL) dL_law_687 ?_
  refine n_callV (As := [.int (xs (nI i + 1).toNatClampNeg), .int (xs (nI i + 2).toNatClampNeg)]) rfl (cl_ncl (c_X11_teach e2)) (wsO (g := gOf n ad nl ln) pn_27 pc_27) (q := (RX11, TX11, 46)) rfl ce_X11_teach lk_L_79 rfl ⟨Nat.le_of_ble_eq_true rfl, Nat.le_of_ble_eq_true rfl⟩ ⟨by show _ ≤ 601024; omega, by show _ ≤ 7293034; omega⟩ rfl dL_law_688 ?_
  rintro _ rfl
  refine n_icmp_eq 1762 dL_law_691 (by decide) (fun _ => ?_) (fun h => absurd rfl h)
  exact K ad nl ln m2 _ _ _ _ rfl rfl rfl (Rel_mono R2 (by omega)) h4 (by omega) (by omega)
theorem lc_13 {n : Nf} {b L : Nat} {xs : Nat → Int32} : CLw n b L xs 696 := by
  intro ad nl ln m i B cells slots o5 o6 h6 hL R hB h4 hc hs K
  obtain ⟨r, m1, m2, e1, e2, R2⟩ : QQ nl ln B (f_X10_wrong m (xs (nI i + 1).toNatClampNeg) (xs (nI i + 2).toNatClampNeg)) (fun m1 => f_X11_wrong m1 (xs (nI i + 1).toNatClampNeg) (xs (nI i + 2).toNatClampNeg)) := q_wrong R
  refine n_aloadn_1 dL_law_696 ?_
  refine n_aloadn_0 dL_law_697 ?_
  refine n_iload_4 dL_law_698 ?_
  refine n_iconst 1 dL_law_700 rfl ?_
  refine n_iadd dL_law_701 ?_
  refine l_sld (sx1 h6 hL) dL_law_702 ?_
  refine n_aloadn_0 dL_law_703 ?_
  refine n_iload_4 dL_law_704 ?_
  refine n_iconst 2 dL_law_706 rfl ?_
  refine n_iadd dL_law_707 ?_
  refine l_sld (sx2 h6 hL) dL_law_708 ?_
  refine n_callV (As := [.int (xs (nI i + 1).toNatClampNeg), .int (xs (nI i + 2).toNatClampNeg)]) rfl (cl_ncl (c_X10_wrong e1)) (wsO (g := gOf n ad nl ln) pn_0 pc_0) (q := (RX10, TX10, 11)) rfl ce_X10_wrong lk_L_80 rfl ⟨Nat.le_of_ble_eq_true rfl, Nat.le_of_ble_eq_true rfl⟩ ⟨by show _ ≤ 601024; omega, by show _ ≤ 7293034; omega⟩ rfl dL_law_709 ?_
  rintro _ rfl
  refine n_aloadn_2 dL_law_712 ?_
  refine n_aloadn_0 dL_law_713 ?_
  refine n_iload_4 dL_law_714 ?_
  refine n_iconst 1 dL_law_716 rfl ?_
  refine n_iadd dL_law_717 ?_
  refine l_sld (sx1 h6 hL) dL_law_718 ?_
  refine n_aloadn_0 dL_law_719 ?_
  refine n_iload_4 dL_law_720 ?_
  refine n_iconst 2 dL_law_722 rfl ?_
  refine n_iadd dL_law_723 ?_
  refine l_sld (sx2 h6 hL) dL_law_724 ?_
  refine n_callV (As := [.int (xs (nI i + 1).toNatClampNeg), .int (xs (nI i + 2).toNatClampNeg)]) rfl (cl_ncl (c_X11_wrong e2)) (wsO (g := gOf n ad nl ln) pn_27 pc_27) (q := (RX11, TX11, 46)) rfl ce_X11_wrong lk_L_83 rfl ⟨Nat.le_of_ble_eq_true rfl, Nat.le_of_ble_eq_true rfl⟩ ⟨by show _ ≤ 601024; omega, by show _ ≤ 7293034; omega⟩ rfl dL_law_725 ?_
  rintro _ rfl
  refine n_icmp_eq 1762 dL_law_728 (by decide) (fun _ => ?_) (fun h => absurd rfl h)
  exact K ad nl ln m2 _ _ _ _ rfl rfl rfl (Rel_mono R2 (by omega)) h4 (by omega) (by omega)
theorem lc_15 {n : Nf} {b L : Nat} {xs : Nat → Int32} : CLw n b L xs 798 := by
  intro ad nl ln m i B cells slots o5 o6 h6 hL R hB h4 hc hs K
  obtain ⟨r, m1, m2, e1, e2, R2⟩ : QQ nl ln B (f_X10_buy m (xs (nI i + 1).toNatClampNeg) (xs (nI i + 2).toNatClampNeg)) (fun m1 => f_X11_buy m1 (xs (nI i + 1).toNatClampNeg) (xs (nI i + 2).toNatClampNeg)) := q_buy (by omega) R
  refine n_aloadn_1 dL_law_798 ?_
  refine n_aloadn_0 dL_law_799 ?_
  refine n_iload_4 dL_law_800 ?_
  refine n_iconst 1 dL_law_802 rfl ?_
  refine n_iadd dL_law_803 ?_
  refine l_sld (sx1 h6 hL) dL_law_804 ?_
  refine n_aloadn_0 dL_law_805 ?_
  refine n_iload_4 dL_law_806 ?_
  refine n_iconst 2 dL_law_808 rfl ?_
  refine n_iadd dL_law_809 ?_
  refine l_sld (sx2 h6 hL) dL_law_810 ?_
  refine n_callV (As := [.int (xs (nI i + 1).toNatClampNeg), .int (xs (nI i + 2).toNatClampNeg)]) rfl (cl_ncl (c_X10_buy e1)) (wsO (g := gOf n ad nl ln) pn_0 pc_0) (q := (RX10, TX10, 11)) rfl ce_X10_buy lk_L_89 rfl ⟨Nat.le_of_ble_eq_true rfl, Nat.le_of_ble_eq_true rfl⟩ ⟨by show _ ≤ 601024; omega, by show _ ≤ 7293034; omega⟩ rfl dL_law_811 ?_
  rintro _ rfl
  refine n_aloadn_2 dL_law_814 ?_
  refine n_aloadn_0 dL_law_815 ?_
  refine n_iload_4 dL_law_816 ?_
  refine n_iconst 1 dL_law_818 rfl ?_
  refine n_iadd dL_law_819 ?_
  refine l_sld (sx1 h6 hL) dL_law_820 ?_
  refine n_aloadn_0 dL_law_821 ?_
  refine n_iload_4 dL_law_822 ?_
  refine n_iconst 2 dL_law_824 rfl ?_
  refine n_iadd dL_law_825 ?_
  refine l_sld (sx2 h6 hL) dL_law_826 ?_
  refine n_callV (As := [.int (xs (nI i + 1).toNatClampNeg), .int (xs (nI i + 2).toNatClampNeg)]) rfl (cl_ncl (c_X11_buy e2)) (wsO (g := gOf n ad nl ln) pn_27 pc_27) (q := (RX11, TX11, 46)) rfl ce_X11_buy lk_L_92 rfl ⟨Nat.le_of_ble_eq_true rfl, Nat.le_of_ble_eq_true rfl⟩ ⟨by show _ ≤ 601024; omega, by show _ ≤ 7293034; omega⟩ rfl dL_law_827 ?_
  rintro _ rfl
  refine n_icmp_eq 1762 dL_law_830 (by decide) (fun _ => ?_) (fun h => absurd rfl h)
  exact K ad nl ln m2 _ _ _ _ rfl rfl rfl (Rel_mono R2 (by omega)) h4 (by omega) (by omega)
theorem lc_16 {n : Nf} {b L : Nat} {xs : Nat → Int32} : CLw n b L xs 835 := by
  intro ad nl ln m i B cells slots o5 o6 h6 hL R hB h4 hc hs K
  obtain ⟨r, m1, m2, e1, e2, R2⟩ : QQ nl ln (B + 60) (f_X10_months nl ln m (xs (nI i + 1).toNatClampNeg)) (fun m1 => f_X11_months m1 (xs (nI i + 1).toNatClampNeg)) := q_months (by omega) R
  refine n_aloadn_1 dL_law_835 ?_
  refine n_aloadn_0 dL_law_836 ?_
  refine n_iload_4 dL_law_837 ?_
  refine n_iconst 1 dL_law_839 rfl ?_
  refine n_iadd dL_law_840 ?_
  refine l_sld (sx1 h6 hL) dL_law_841 ?_
  refine n_callV (As := [.int (xs (nI i + 1).toNatClampNeg)]) rfl (cl_ncl (c_X10_months h4 gOf_X e1)) (wsO (g := gOf n ad nl ln) pn_0 pc_0) (q := (RX10, TX10, 11)) rfl ce_X10_months lk_L_93 rfl ⟨Nat.le_of_ble_eq_true rfl, Nat.le_of_ble_eq_true rfl⟩ ⟨by show _ ≤ 601024; omega, by show _ ≤ 7293034; omega⟩ rfl dL_law_842 ?_
  rintro _ rfl
  refine n_aloadn_2 dL_law_845 ?_
  refine n_aloadn_0 dL_law_846 ?_
  refine n_iload_4 dL_law_847 ?_
  refine n_iconst 1 dL_law_849 rfl ?_
  refine n_iadd dL_law_850 ?_
  refine l_sld (sx1 h6 hL) dL_law_851 ?_
  refine n_callV (As := [.int (xs (nI i + 1).toNatClampNeg)]) rfl (cl_ncl (c_X11_months gOf_X e2)) (wsO (g := gOf n ad nl ln) pn_27 pc_27) (q := (RX11, TX11, 46)) rfl ce_X11_months lk_L_96 rfl ⟨Nat.le_of_ble_eq_true rfl, Nat.le_of_ble_eq_true rfl⟩ ⟨by show _ ≤ 601024; omega, by show _ ≤ 7293034; omega⟩ rfl dL_law_852 ?_
  rintro _ rfl
  refine n_icmp_eq 1762 dL_law_855 (by decide) (fun _ => ?_) (fun h => absurd rfl h)
  exact K ad nl ln m2 _ _ _ _ rfl rfl rfl (Rel_mono R2 (by omega)) h4 (by omega) (by omega)
theorem lc_18 {n : Nf} {b L : Nat} {xs : Nat → Int32} : CLw n b L xs 929 := by
  intro ad nl ln m i B cells slots o5 o6 h6 hL R hB h4 hc hs K
  obtain ⟨r, m1, m2, e1, e2, R2⟩ : QQ nl ln B (f_X10_undo m ) (fun m1 => f_X11_undo m1 ) := q_undo R
  refine n_aloadn_1 dL_law_929 ?_
  refine n_callV (As := []) rfl (cl_ncl (c_X10_undo e1)) (wsO (g := gOf n ad nl ln) pn_0 pc_0) (q := (RX10, TX10, 11)) rfl ce_X10_undo lk_L_104 rfl ⟨Nat.le_of_ble_eq_true rfl, Nat.le_of_ble_eq_true rfl⟩ ⟨by show _ ≤ 601024; omega, by show _ ≤ 7293034; omega⟩ rfl dL_law_930 ?_
  rintro _ rfl
  refine n_aloadn_2 dL_law_933 ?_
  refine n_callV (As := []) rfl (cl_ncl (c_X11_undo e2)) (wsO (g := gOf n ad nl ln) pn_27 pc_27) (q := (RX11, TX11, 46)) rfl ce_X11_undo lk_L_107 rfl ⟨Nat.le_of_ble_eq_true rfl, Nat.le_of_ble_eq_true rfl⟩ ⟨by show _ ≤ 601024; omega, by show _ ≤ 7293034; omega⟩ rfl dL_law_934 ?_
  rintro _ rfl
  refine n_icmp_eq 1762 dL_law_937 (by decide) (fun _ => ?_) (fun h => absurd rfl h)
  exact K ad nl ln m2 _ _ _ _ rfl rfl rfl (Rel_mono R2 (by omega)) h4 (by omega) (by omega)
theorem lc_19 {n : Nf} {b L : Nat} {xs : Nat → Int32} : CLw n b L xs 942 := by
  intro ad nl ln m i B cells slots o5 o6 h6 hL R hB h4 hc hs K
  obtain ⟨r, m1, m2, e1, e2, R2⟩ : QQ nl ln B (f_X10_log m (xs (nI i + 1).toNatClampNeg) (xs (nI i + 2).toNatClampNeg)) (fun m1 => f_X11_log m1 (xs (nI i + 1).toNatClampNeg) (xs (nI i + 2).toNatClampNeg)) := q_log (by omega) R
  refine n_aloadn_1 dL_law_942 ?_
  refine n_aloadn_0 dL_law_943 ?_
  refine n_iload_4 dL_law_944 ?_
  refine n_iconst 1 dL_law_946 rfl ?_
  refine n_iadd dL_law_947 ?_
  refine l_sld (sx1 h6 hL) dL_law_948 ?_
  refine n_aloadn_0 dL_law_949 ?_
  refine n_iload_4 dL_law_950 ?_
  refine n_iconst 2 dL_law_952 rfl ?_
  refine n_iadd dL_law_953 ?_
  refine l_sld (sx2 h6 hL) dL_law_954 ?_
  refine n_callV (As := [.int (xs (nI i + 1).toNatClampNeg), .int (xs (nI i + 2).toNatClampNeg)]) rfl (cl_ncl (c_X10_log e1)) (wsO (g := gOf n ad nl ln) pn_0 pc_0) (q := (RX10, TX10, 11)) rfl ce_X10_log lk_L_108 rfl ⟨Nat.le_of_ble_eq_true rfl, Nat.le_of_ble_eq_true rfl⟩ ⟨by show _ ≤ 601024; omega, by show _ ≤ 7293034; omega⟩ rfl dL_law_955 ?_
  rintro _ rfl
  refine n_aloadn_2 dL_law_958 ?_
  refine n_aloadn_0 dL_law_959 ?_
  refine n_iload_4 dL_law_960 ?_
  refine n_iconst 1 dL_law_962 rfl ?_
  refine n_iadd dL_law_963 ?_
  refine l_sld (sx1 h6 hL) dL_law_964 ?_
  refine n_aloadn_0 dL_law_965 ?_
  refine n_iload_4 dL_law_966 ?_
  refine n_iconst 2 dL_law_968 rfl ?_
  refine n_iadd dL_law_969 ?_
  refine l_sld (sx2 h6 hL) dL_law_970 ?_
  refine n_callV (As := [.int (xs (nI i + 1).toNatClampNeg), .int (xs (nI i + 2).toNatClampNeg)]) rfl (cl_ncl (c_X11_log e2)) (wsO (g := gOf n ad nl ln) pn_27 pc_27) (q := (RX11, TX11, 46)) rfl ce_X11_log lk_L_111 rfl ⟨Nat.le_of_ble_eq_true rfl, Nat.le_of_ble_eq_true rfl⟩ ⟨by show _ ≤ 601024; omega, by show _ ≤ 7293034; omega⟩ rfl dL_law_971 ?_
  rintro _ rfl
  refine n_icmp_eq 1762 dL_law_974 (by decide) (fun _ => ?_) (fun h => absurd rfl h)
  exact K ad nl ln m2 _ _ _ _ rfl rfl rfl (Rel_mono R2 (by omega)) h4 (by omega) (by omega)
theorem lc_20 {n : Nf} {b L : Nat} {xs : Nat → Int32} : CLw n b L xs 979 := by
  intro ad nl ln m i B cells slots o5 o6 h6 hL R hB h4 hc hs K
  obtain ⟨r, m1, m2, e1, e2, R2⟩ : QQ nl ln B (f_X10_ahead nl ln m (xs (nI i + 1).toNatClampNeg) (xs (nI i + 2).toNatClampNeg)) (fun m1 => f_X11_ahead m1 (xs (nI i + 1).toNatClampNeg) (xs (nI i + 2).toNatClampNeg)) := q_ahead R
  refine n_aloadn_1 dL_law_979 ?_
  refine n_aloadn_0 dL_law_980 ?_
  refine n_iload_4 dL_law_981 ?_
  refine n_iconst 1 dL_law_983 rfl ?_
  refine n_iadd dL_law_984 ?_
  refine l_sld (sx1 h6 hL) dL_law_985 ?_
  refine n_aloadn_0 dL_law_986 ?_
  refine n_iload_4 dL_law_987 ?_
  refine n_iconst 2 dL_law_989 rfl ?_
  refine n_iadd dL_law_990 ?_
  refine l_sld (sx2 h6 hL) dL_law_991 ?_
  refine n_callV (As := [.int (xs (nI i + 1).toNatClampNeg), .int (xs (nI i + 2).toNatClampNeg)]) rfl (cl_ncl (c_X10_ahead h4 gOf_X e1)) (wsO (g := gOf n ad nl ln) pn_0 pc_0) (q := (RX10, TX10, 11)) rfl ce_X10_ahead lk_L_112 rfl ⟨Nat.le_of_ble_eq_true rfl, Nat.le_of_ble_eq_true rfl⟩ ⟨by show _ ≤ 601024; omega, by show _ ≤ 7293034; omega⟩ rfl dL_law_992 ?_
  rintro _ rfl
  refine n_aloadn_2 dL_law_995 ?_
  refine n_aloadn_0 dL_law_996 ?_
  refine n_iload_4 dL_law_997 ?_
  refine n_iconst 1 dL_law_999 rfl ?_
  refine n_iadd dL_law_1000 ?_
  refine l_sld (sx1 h6 hL) dL_law_1001 ?_
  refine n_aloadn_0 dL_law_1002 ?_
  refine n_iload_4 dL_law_1003 ?_
  refine n_iconst 2 dL_law_1005 rfl ?_
  refine n_iadd dL_law_1006 ?_
  refine l_sld (sx2 h6 hL) dL_law_1007 ?_
  refine n_callV (As := [.int (xs (nI i + 1).toNatClampNeg), .int (xs (nI i + 2).toNatClampNeg)]) rfl (cl_ncl (c_X11_ahead gOf_X e2)) (wsO (g := gOf n ad nl ln) pn_27 pc_27) (q := (RX11, TX11, 46)) rfl ce_X11_ahead lk_L_115 rfl ⟨Nat.le_of_ble_eq_true rfl, Nat.le_of_ble_eq_true rfl⟩ ⟨by show _ ≤ 601024; omega, by show _ ≤ 7293034; omega⟩ rfl dL_law_1008 ?_
  rintro _ rfl
  refine n_icmp_eq 1762 dL_law_1011 (by decide) (fun _ => ?_) (fun h => absurd rfl h)
  exact K ad nl ln m2 _ _ _ _ rfl rfl rfl (Rel_mono R2 (by omega)) h4 (by omega) (by omega)
theorem lc_21 {n : Nf} {b L : Nat} {xs : Nat → Int32} : CLw n b L xs 1016 := by
  intro ad nl ln m i B cells slots o5 o6 h6 hL R hB h4 hc hs K
  obtain ⟨r, m1, m2, e1, e2, R2⟩ : QQ nl ln B (f_X10_reign m (xs (nI i + 1).toNatClampNeg) (xs (nI i + 2).toNatClampNeg) (xs (nI i + 3).toNatClampNeg)) (fun m1 => f_X11_reign m1 (xs (nI i + 1).toNatClampNeg) (xs (nI i + 2).toNatClampNeg) (xs (nI i + 3).toNatClampNeg)) := q_reign R
  refine n_aloadn_1 dL_law_1016 ?_
  refine n_aloadn_0 dL_law_1017 ?_
  refine n_iload_4 dL_law_1018 ?_
  refine n_iconst 1 dL_law_1020 rfl ?_
  refine n_iadd dL_law_1021 ?_
  refine l_sld (sx1 h6 hL) dL_law_1022 ?_
  refine n_aloadn_0 dL_law_1023 ?_
  refine n_iload_4 dL_law_1024 ?_
  refine n_iconst 2 dL_law_1026 rfl ?_
  refine n_iadd dL_law_1027 ?_
  refine l_sld (sx2 h6 hL) dL_law_1028 ?_
  refine n_aloadn_0 dL_law_1029 ?_
  refine n_iload_4 dL_law_1030 ?_
  refine n_iconst 3 dL_law_1032 rfl ?_
  refine n_iadd dL_law_1033 ?_
  refine l_sld (sx3 h6 hL) dL_law_1034 ?_
  refine n_callV (As := [.int (xs (nI i + 1).toNatClampNeg), .int (xs (nI i + 2).toNatClampNeg), .int (xs (nI i + 3).toNatClampNeg)]) rfl (cl_ncl (c_X10_reign e1)) (wsO (g := gOf n ad nl ln) pn_0 pc_0) (q := (RX10, TX10, 11)) rfl ce_X10_reign lk_L_116 rfl ⟨Nat.le_of_ble_eq_true rfl, Nat.le_of_ble_eq_true rfl⟩ ⟨by show _ ≤ 601024; omega, by show _ ≤ 7293034; omega⟩ rfl dL_law_1035 ?_
  rintro _ rfl
  refine n_aloadn_2 dL_law_1038 ?_
  refine n_aloadn_0 dL_law_1039 ?_
  refine n_iload_4 dL_law_1040 ?_
  refine n_iconst 1 dL_law_1042 rfl ?_
  refine n_iadd dL_law_1043 ?_
  refine l_sld (sx1 h6 hL) dL_law_1044 ?_
  refine n_aloadn_0 dL_law_1045 ?_
  refine n_iload_4 dL_law_1046 ?_
  refine n_iconst 2 dL_law_1048 rfl ?_
  refine n_iadd dL_law_1049 ?_
  refine l_sld (sx2 h6 hL) dL_law_1050 ?_
  refine n_aloadn_0 dL_law_1051 ?_
  refine n_iload_4 dL_law_1052 ?_
  refine n_iconst 3 dL_law_1054 rfl ?_
  refine n_iadd dL_law_1055 ?_
  refine l_sld (sx3 h6 hL) dL_law_1056 ?_
  refine n_callV (As := [.int (xs (nI i + 1).toNatClampNeg), .int (xs (nI i + 2).toNatClampNeg), .int (xs (nI i + 3).toNatClampNeg)]) rfl (cl_ncl (c_X11_reign gOf_X e2)) (wsO (g := gOf n ad nl ln) pn_27 pc_27) (q := (RX11, TX11, 46)) rfl ce_X11_reign lk_L_120 rfl ⟨Nat.le_of_ble_eq_true rfl, Nat.le_of_ble_eq_true rfl⟩ ⟨by show _ ≤ 601024; omega, by show _ ≤ 7293034; omega⟩ rfl dL_law_1057 ?_
  rintro _ rfl
  refine n_icmp_eq 1762 dL_law_1060 (by decide) (fun _ => ?_) (fun h => absurd rfl h)
  exact K ad nl ln m2 _ _ _ _ rfl rfl rfl (Rel_mono R2 (by omega)) h4 (by omega) (by omega)
theorem lc_22 {n : Nf} {b L : Nat} {xs : Nat → Int32} : CLw n b L xs 1065 := by
  intro ad nl ln m i B cells slots o5 o6 h6 hL R hB h4 hc hs K
  obtain ⟨r, m1, m2, e1, e2, R2⟩ : QQ nl ln B (f_X10_plan m (xs (nI i + 1).toNatClampNeg) (xs (nI i + 2).toNatClampNeg) (xs (nI i + 3).toNatClampNeg)) (fun m1 => f_X11_plan m1 (xs (nI i + 1).toNatClampNeg) (xs (nI i + 2).toNatClampNeg) (xs (nI i + 3).toNatClampNeg)) := q_plan (by omega) R
  refine n_aloadn_1 dL_law_1065 ?_
  refine n_aloadn_0 dL_law_1066 ?_
  refine n_iload_4 dL_law_1067 ?_
  refine n_iconst 1 dL_law_1069 rfl ?_
  refine n_iadd dL_law_1070 ?_
  refine l_sld (sx1 h6 hL) dL_law_1071 ?_
  refine n_aloadn_0 dL_law_1072 ?_
  refine n_iload_4 dL_law_1073 ?_
  refine n_iconst 2 dL_law_1075 rfl ?_
  refine n_iadd dL_law_1076 ?_
  refine l_sld (sx2 h6 hL) dL_law_1077 ?_
  refine n_aloadn_0 dL_law_1078 ?_
  refine n_iload_4 dL_law_1079 ?_
  refine n_iconst 3 dL_law_1081 rfl ?_
  refine n_iadd dL_law_1082 ?_
  refine l_sld (sx3 h6 hL) dL_law_1083 ?_
  refine n_callV (As := [.int (xs (nI i + 1).toNatClampNeg), .int (xs (nI i + 2).toNatClampNeg), .int (xs (nI i + 3).toNatClampNeg)]) rfl (cl_ncl (c_X10_plan e1)) (wsO (g := gOf n ad nl ln) pn_0 pc_0) (q := (RX10, TX10, 11)) rfl ce_X10_plan lk_L_121 rfl ⟨Nat.le_of_ble_eq_true rfl, Nat.le_of_ble_eq_true rfl⟩ ⟨by show _ ≤ 601024; omega, by show _ ≤ 7293034; omega⟩ rfl dL_law_1084 ?_
  rintro _ rfl
  refine n_aloadn_2 dL_law_1087 ?_
  refine n_aloadn_0 dL_law_1088 ?_
  refine n_iload_4 dL_law_1089 ?_
  refine n_iconst 1 dL_law_1091 rfl ?_
  refine n_iadd dL_law_1092 ?_
  refine l_sld (sx1 h6 hL) dL_law_1093 ?_
  refine n_aloadn_0 dL_law_1094 ?_
  refine n_iload_4 dL_law_1095 ?_
  refine n_iconst 2 dL_law_1097 rfl ?_
  refine n_iadd dL_law_1098 ?_
  refine l_sld (sx2 h6 hL) dL_law_1099 ?_
  refine n_aloadn_0 dL_law_1100 ?_
  refine n_iload_4 dL_law_1101 ?_
  refine n_iconst 3 dL_law_1103 rfl ?_
  refine n_iadd dL_law_1104 ?_
  refine l_sld (sx3 h6 hL) dL_law_1105 ?_
  refine n_callV (As := [.int (xs (nI i + 1).toNatClampNeg), .int (xs (nI i + 2).toNatClampNeg), .int (xs (nI i + 3).toNatClampNeg)]) rfl (cl_ncl (c_X11_plan gOf_X e2)) (wsO (g := gOf n ad nl ln) pn_27 pc_27) (q := (RX11, TX11, 46)) rfl ce_X11_plan lk_L_124 rfl ⟨Nat.le_of_ble_eq_true rfl, Nat.le_of_ble_eq_true rfl⟩ ⟨by show _ ≤ 601024; omega, by show _ ≤ 7293034; omega⟩ rfl dL_law_1106 ?_
  rintro _ rfl
  refine n_icmp_eq 1762 dL_law_1109 (by decide) (fun _ => ?_) (fun h => absurd rfl h)
  exact K ad nl ln m2 _ _ _ _ rfl rfl rfl (Rel_mono R2 (by omega)) h4 (by omega) (by omega)
theorem lc_23 {n : Nf} {b L : Nat} {xs : Nat → Int32} : CLw n b L xs 1114 := by
  intro ad nl ln m i B cells slots o5 o6 h6 hL R hB h4 hc hs K
  obtain ⟨r, m1, m2, e1, e2, R2⟩ : QQ nl ln B (f_X10_keepers m (xs (nI i + 1).toNatClampNeg) (xs (nI i + 2).toNatClampNeg) (xs (nI i + 3).toNatClampNeg)) (fun m1 => f_X11_keepers m1 (xs (nI i + 1).toNatClampNeg) (xs (nI i + 2).toNatClampNeg) (xs (nI i + 3).toNatClampNeg)) := q_keepers R
  refine n_aloadn_1 dL_law_1114 ?_
  refine n_aloadn_0 dL_law_1115 ?_
  refine n_iload_4 dL_law_1116 ?_
  refine n_iconst 1 dL_law_1118 rfl ?_
  refine n_iadd dL_law_1119 ?_
  refine l_sld (sx1 h6 hL) dL_law_1120 ?_
  refine n_aloadn_0 dL_law_1121 ?_
  refine n_iload_4 dL_law_1122 ?_
  refine n_iconst 2 dL_law_1124 rfl ?_
  refine n_iadd dL_law_1125 ?_
  refine l_sld (sx2 h6 hL) dL_law_1126 ?_
  refine n_aloadn_0 dL_law_1127 ?_
  refine n_iload_4 dL_law_1128 ?_
  refine n_iconst 3 dL_law_1130 rfl ?_
  refine n_iadd dL_law_1131 ?_
  refine l_sld (sx3 h6 hL) dL_law_1132 ?_
  refine n_callV (As := [.int (xs (nI i + 1).toNatClampNeg), .int (xs (nI i + 2).toNatClampNeg), .int (xs (nI i + 3).toNatClampNeg)]) rfl (cl_ncl (c_X10_keepers e1)) (wsO (g := gOf n ad nl ln) pn_0 pc_0) (q := (RX10, TX10, 11)) rfl ce_X10_keepers lk_L_125 rfl ⟨Nat.le_of_ble_eq_true rfl, Nat.le_of_ble_eq_true rfl⟩ ⟨by show _ ≤ 601024; omega, by show _ ≤ 7293034; omega⟩ rfl dL_law_1133 ?_
  rintro _ rfl
  refine n_aloadn_2 dL_law_1136 ?_
  refine n_aloadn_0 dL_law_1137 ?_
  refine n_iload_4 dL_law_1138 ?_
  refine n_iconst 1 dL_law_1140 rfl ?_
  refine n_iadd dL_law_1141 ?_
  refine l_sld (sx1 h6 hL) dL_law_1142 ?_
  refine n_aloadn_0 dL_law_1143 ?_
  refine n_iload_4 dL_law_1144 ?_
  refine n_iconst 2 dL_law_1146 rfl ?_
  refine n_iadd dL_law_1147 ?_
  refine l_sld (sx2 h6 hL) dL_law_1148 ?_
  refine n_aloadn_0 dL_law_1149 ?_
  refine n_iload_4 dL_law_1150 ?_
  refine n_iconst 3 dL_law_1152 rfl ?_
  refine n_iadd dL_law_1153 ?_
  refine l_sld (sx3 h6 hL) dL_law_1154 ?_
  refine n_callV (As := [.int (xs (nI i + 1).toNatClampNeg), .int (xs (nI i + 2).toNatClampNeg), .int (xs (nI i + 3).toNatClampNeg)]) rfl (cl_ncl (c_X11_keepers gOf_X e2)) (wsO (g := gOf n ad nl ln) pn_27 pc_27) (q := (RX11, TX11, 46)) rfl ce_X11_keepers lk_L_128 rfl ⟨Nat.le_of_ble_eq_true rfl, Nat.le_of_ble_eq_true rfl⟩ ⟨by show _ ≤ 601024; omega, by show _ ≤ 7293034; omega⟩ rfl dL_law_1155 ?_
  rintro _ rfl
  refine n_icmp_eq 1762 dL_law_1158 (by decide) (fun _ => ?_) (fun h => absurd rfl h)
  exact K ad nl ln m2 _ _ _ _ rfl rfl rfl (Rel_mono R2 (by omega)) h4 (by omega) (by omega)
theorem lc_24 {n : Nf} {b L : Nat} {xs : Nat → Int32} : CLw n b L xs 1163 := by
  intro ad nl ln m i B cells slots o5 o6 h6 hL R hB h4 hc hs K
  obtain ⟨r, m1, m2, e1, e2, R2⟩ : QQ nl ln B (f_X10_plums m (xs (nI i + 1).toNatClampNeg)) (fun m1 => f_X11_plums m1 (xs (nI i + 1).toNatClampNeg)) := q_plums R
  refine n_aloadn_1 dL_law_1163 ?_
  refine n_aloadn_0 dL_law_1164 ?_
  refine n_iload_4 dL_law_1165 ?_
  refine n_iconst 1 dL_law_1167 rfl ?_
  refine n_iadd dL_law_1168 ?_
  refine l_sld (sx1 h6 hL) dL_law_1169 ?_
  refine n_callV (As := [.int (xs (nI i + 1).toNatClampNeg)]) rfl (cl_ncl (c_X10_plums e1)) (wsO (g := gOf n ad nl ln) pn_0 pc_0) (q := (RX10, TX10, 11)) rfl ce_X10_plums lk_L_129 rfl ⟨Nat.le_of_ble_eq_true rfl, Nat.le_of_ble_eq_true rfl⟩ ⟨by show _ ≤ 601024; omega, by show _ ≤ 7293034; omega⟩ rfl dL_law_1170 ?_
  rintro _ rfl
  refine n_aloadn_2 dL_law_1173 ?_
  refine n_aloadn_0 dL_law_1174 ?_
  refine n_iload_4 dL_law_1175 ?_
  refine n_iconst 1 dL_law_1177 rfl ?_
  refine n_iadd dL_law_1178 ?_
  refine l_sld (sx1 h6 hL) dL_law_1179 ?_
  refine n_callV (As := [.int (xs (nI i + 1).toNatClampNeg)]) rfl (cl_ncl (c_X11_plums e2)) (wsO (g := gOf n ad nl ln) pn_27 pc_27) (q := (RX11, TX11, 46)) rfl ce_X11_plums lk_L_132 rfl ⟨Nat.le_of_ble_eq_true rfl, Nat.le_of_ble_eq_true rfl⟩ ⟨by show _ ≤ 601024; omega, by show _ ≤ 7293034; omega⟩ rfl dL_law_1180 ?_
  rintro _ rfl
  refine n_icmp_eq 1762 dL_law_1183 (by decide) (fun _ => ?_) (fun h => absurd rfl h)
  exact K ad nl ln m2 _ _ _ _ rfl rfl rfl (Rel_mono R2 (by omega)) h4 (by omega) (by omega)
theorem lc_25 {n : Nf} {b L : Nat} {xs : Nat → Int32} : CLw n b L xs 1188 := by
  intro ad nl ln m i B cells slots o5 o6 h6 hL R hB h4 hc hs K
  obtain ⟨r, m1, m2, e1, e2, R2⟩ : QQ nl ln B (f_X10_peace m (xs (nI i + 1).toNatClampNeg) (xs (nI i + 2).toNatClampNeg)) (fun m1 => f_X11_peace m1 (xs (nI i + 1).toNatClampNeg) (xs (nI i + 2).toNatClampNeg)) := q_peace R
  refine n_aloadn_1 dL_law_1188 ?_
  refine n_aloadn_0 dL_law_1189 ?_
  refine n_iload_4 dL_law_1190 ?_
  refine n_iconst 1 dL_law_1192 rfl ?_
  refine n_iadd dL_law_1193 ?_
  refine l_sld (sx1 h6 hL) dL_law_1194 ?_
  refine n_aloadn_0 dL_law_1195 ?_
  refine n_iload_4 dL_law_1196 ?_
  refine n_iconst 2 dL_law_1198 rfl ?_
  refine n_iadd dL_law_1199 ?_
  refine l_sld (sx2 h6 hL) dL_law_1200 ?_
  refine n_callV (As := [.int (xs (nI i + 1).toNatClampNeg), .int (xs (nI i + 2).toNatClampNeg)]) rfl (cl_ncl (c_X10_peace e1)) (wsO (g := gOf n ad nl ln) pn_0 pc_0) (q := (RX10, TX10, 11)) rfl ce_X10_peace lk_L_133 rfl ⟨Nat.le_of_ble_eq_true rfl, Nat.le_of_ble_eq_true rfl⟩ ⟨by show _ ≤ 601024; omega, by show _ ≤ 7293034; omega⟩ rfl dL_law_1201 ?_
  rintro _ rfl
  refine n_aloadn_2 dL_law_1204 ?_
  refine n_aloadn_0 dL_law_1205 ?_
  refine n_iload_4 dL_law_1206 ?_
  refine n_iconst 1 dL_law_1208 rfl ?_
  refine n_iadd dL_law_1209 ?_
  refine l_sld (sx1 h6 hL) dL_law_1210 ?_
  refine n_aloadn_0 dL_law_1211 ?_
  refine n_iload_4 dL_law_1212 ?_
  refine n_iconst 2 dL_law_1214 rfl ?_
  refine n_iadd dL_law_1215 ?_
  refine l_sld (sx2 h6 hL) dL_law_1216 ?_
  refine n_callV (As := [.int (xs (nI i + 1).toNatClampNeg), .int (xs (nI i + 2).toNatClampNeg)]) rfl (cl_ncl (c_X11_peace e2)) (wsO (g := gOf n ad nl ln) pn_27 pc_27) (q := (RX11, TX11, 46)) rfl ce_X11_peace lk_L_136 rfl ⟨Nat.le_of_ble_eq_true rfl, Nat.le_of_ble_eq_true rfl⟩ ⟨by show _ ≤ 601024; omega, by show _ ≤ 7293034; omega⟩ rfl dL_law_1217 ?_
  rintro _ rfl
  refine n_icmp_eq 1762 dL_law_1220 (by decide) (fun _ => ?_) (fun h => absurd rfl h)
  exact K ad nl ln m2 _ _ _ _ rfl rfl rfl (Rel_mono R2 (by omega)) h4 (by omega) (by omega)
theorem lc_26 {n : Nf} {b L : Nat} {xs : Nat → Int32} : CLw n b L xs 1225 := by
  intro ad nl ln m i B cells slots o5 o6 h6 hL R hB h4 hc hs K
  obtain ⟨r, m1, m2, e1, e2, R2⟩ : QQ nl ln B (f_X10_duel m (xs (nI i + 1).toNatClampNeg) (xs (nI i + 2).toNatClampNeg) (xs (nI i + 3).toNatClampNeg) (xs (nI i + 4).toNatClampNeg)) (fun m1 => f_X11_duel m1 (xs (nI i + 1).toNatClampNeg) (xs (nI i + 2).toNatClampNeg) (xs (nI i + 3).toNatClampNeg) (xs (nI i + 4).toNatClampNeg)) := q_duel R
  refine n_aloadn_1 dL_law_1225 ?_
  refine n_aloadn_0 dL_law_1226 ?_
  refine n_iload_4 dL_law_1227 ?_
  refine n_iconst 1 dL_law_1229 rfl ?_
  refine n_iadd dL_law_1230 ?_
  refine l_sld (sx1 h6 hL) dL_law_1231 ?_
  refine n_aloadn_0 dL_law_1232 ?_
  refine n_iload_4 dL_law_1233 ?_
  refine n_iconst 2 dL_law_1235 rfl ?_
  refine n_iadd dL_law_1236 ?_
  refine l_sld (sx2 h6 hL) dL_law_1237 ?_
  refine n_aloadn_0 dL_law_1238 ?_
  refine n_iload_4 dL_law_1239 ?_
  refine n_iconst 3 dL_law_1241 rfl ?_
  refine n_iadd dL_law_1242 ?_
  refine l_sld (sx3 h6 hL) dL_law_1243 ?_
  refine n_aloadn_0 dL_law_1244 ?_
  refine n_iload_4 dL_law_1245 ?_
  refine n_iconst 4 dL_law_1247 rfl ?_
  refine n_iadd dL_law_1248 ?_
  refine l_sld (sx4 h6 hL) dL_law_1249 ?_
  refine n_callV (As := [.int (xs (nI i + 1).toNatClampNeg), .int (xs (nI i + 2).toNatClampNeg), .int (xs (nI i + 3).toNatClampNeg), .int (xs (nI i + 4).toNatClampNeg)]) rfl (cl_ncl (c_X10_duel e1)) (wsO (g := gOf n ad nl ln) pn_0 pc_0) (q := (RX10, TX10, 11)) rfl ce_X10_duel lk_L_137 rfl ⟨Nat.le_of_ble_eq_true rfl, Nat.le_of_ble_eq_true rfl⟩ ⟨by show _ ≤ 601024; omega, by show _ ≤ 7293034; omega⟩ rfl dL_law_1250 ?_
  rintro _ rfl
  refine n_aloadn_2 dL_law_1253 ?_
  refine n_aloadn_0 dL_law_1254 ?_
  refine n_iload_4 dL_law_1255 ?_
  refine n_iconst 1 dL_law_1257 rfl ?_
  refine n_iadd dL_law_1258 ?_
  refine l_sld (sx1 h6 hL) dL_law_1259 ?_
  refine n_aloadn_0 dL_law_1260 ?_
  refine n_iload_4 dL_law_1261 ?_
  refine n_iconst 2 dL_law_1263 rfl ?_
  refine n_iadd dL_law_1264 ?_
  refine l_sld (sx2 h6 hL) dL_law_1265 ?_
  refine n_aloadn_0 dL_law_1266 ?_
  refine n_iload_4 dL_law_1267 ?_
  refine n_iconst 3 dL_law_1269 rfl ?_
  refine n_iadd dL_law_1270 ?_
  refine l_sld (sx3 h6 hL) dL_law_1271 ?_
  refine n_aloadn_0 dL_law_1272 ?_
  refine n_iload_4 dL_law_1273 ?_
  refine n_iconst 4 dL_law_1275 rfl ?_
  refine n_iadd dL_law_1276 ?_
  refine l_sld (sx4 h6 hL) dL_law_1277 ?_
  refine n_callV (As := [.int (xs (nI i + 1).toNatClampNeg), .int (xs (nI i + 2).toNatClampNeg), .int (xs (nI i + 3).toNatClampNeg), .int (xs (nI i + 4).toNatClampNeg)]) rfl (cl_ncl (c_X11_duel gOf_X e2)) (wsO (g := gOf n ad nl ln) pn_27 pc_27) (q := (RX11, TX11, 46)) rfl ce_X11_duel lk_L_141 rfl ⟨Nat.le_of_ble_eq_true rfl, Nat.le_of_ble_eq_true rfl⟩ ⟨by show _ ≤ 601024; omega, by show _ ≤ 7293034; omega⟩ rfl dL_law_1278 ?_
  rintro _ rfl
  refine n_icmp_eq 1762 dL_law_1281 (by decide) (fun _ => ?_) (fun h => absurd rfl h)
  exact K ad nl ln m2 _ _ _ _ rfl rfl rfl (Rel_mono R2 (by omega)) h4 (by omega) (by omega)
theorem lc_27 {n : Nf} {b L : Nat} {xs : Nat → Int32} : CLw n b L xs 1286 := by
  intro ad nl ln m i B cells slots o5 o6 h6 hL R hB h4 hc hs K
  obtain ⟨r, m1, m2, e1, e2, R2⟩ : QQ nl ln B (f_X10_rests m (xs (nI i + 1).toNatClampNeg) (xs (nI i + 2).toNatClampNeg) (xs (nI i + 3).toNatClampNeg)) (fun m1 => f_X11_rests m1 (xs (nI i + 1).toNatClampNeg) (xs (nI i + 2).toNatClampNeg) (xs (nI i + 3).toNatClampNeg)) := q_rests R
  refine n_aloadn_1 dL_law_1286 ?_
  refine n_aloadn_0 dL_law_1287 ?_
  refine n_iload_4 dL_law_1288 ?_
  refine n_iconst 1 dL_law_1290 rfl ?_
  refine n_iadd dL_law_1291 ?_
  refine l_sld (sx1 h6 hL) dL_law_1292 ?_
  refine n_aloadn_0 dL_law_1293 ?_
  refine n_iload_4 dL_law_1294 ?_
  refine n_iconst 2 dL_law_1296 rfl ?_
  refine n_iadd dL_law_1297 ?_
  refine l_sld (sx2 h6 hL) dL_law_1298 ?_
  refine n_aloadn_0 dL_law_1299 ?_
  refine n_iload_4 dL_law_1300 ?_
  refine n_iconst 3 dL_law_1302 rfl ?_
  refine n_iadd dL_law_1303 ?_
  refine l_sld (sx3 h6 hL) dL_law_1304 ?_
  refine n_callV (As := [.int (xs (nI i + 1).toNatClampNeg), .int (xs (nI i + 2).toNatClampNeg), .int (xs (nI i + 3).toNatClampNeg)]) rfl (cl_ncl (c_X10_rests e1)) (wsO (g := gOf n ad nl ln) pn_0 pc_0) (q := (RX10, TX10, 11)) rfl ce_X10_rests lk_L_142 rfl ⟨Nat.le_of_ble_eq_true rfl, Nat.le_of_ble_eq_true rfl⟩ ⟨by show _ ≤ 601024; omega, by show _ ≤ 7293034; omega⟩ rfl dL_law_1305 ?_
  rintro _ rfl
  refine n_aloadn_2 dL_law_1308 ?_
  refine n_aloadn_0 dL_law_1309 ?_
  refine n_iload_4 dL_law_1310 ?_
  refine n_iconst 1 dL_law_1312 rfl ?_
  refine n_iadd dL_law_1313 ?_
  refine l_sld (sx1 h6 hL) dL_law_1314 ?_
  refine n_aloadn_0 dL_law_1315 ?_
  refine n_iload_4 dL_law_1316 ?_
  refine n_iconst 2 dL_law_1318 rfl ?_
  refine n_iadd dL_law_1319 ?_
  refine l_sld (sx2 h6 hL) dL_law_1320 ?_
  refine n_aloadn_0 dL_law_1321 ?_
  refine n_iload_4 dL_law_1322 ?_
  refine n_iconst 3 dL_law_1324 rfl ?_
  refine n_iadd dL_law_1325 ?_
  refine l_sld (sx3 h6 hL) dL_law_1326 ?_
  refine n_callV (As := [.int (xs (nI i + 1).toNatClampNeg), .int (xs (nI i + 2).toNatClampNeg), .int (xs (nI i + 3).toNatClampNeg)]) rfl (cl_ncl (c_X11_rests gOf_X e2)) (wsO (g := gOf n ad nl ln) pn_27 pc_27) (q := (RX11, TX11, 46)) rfl ce_X11_rests lk_L_145 rfl ⟨Nat.le_of_ble_eq_true rfl, Nat.le_of_ble_eq_true rfl⟩ ⟨by show _ ≤ 601024; omega, by show _ ≤ 7293034; omega⟩ rfl dL_law_1327 ?_
  rintro _ rfl
  refine n_icmp_eq 1762 dL_law_1330 (by decide) (fun _ => ?_) (fun h => absurd rfl h)
  exact K ad nl ln m2 _ _ _ _ rfl rfl rfl (Rel_mono R2 (by omega)) h4 (by omega) (by omega)
theorem lc_28 {n : Nf} {b L : Nat} {xs : Nat → Int32} : CLw n b L xs 1335 := by
  intro ad nl ln m i B cells slots o5 o6 h6 hL R hB h4 hc hs K
  obtain ⟨r, m1, m2, e1, e2, R2⟩ : QQ nl ln B (f_X10_teachers m (xs (nI i + 1).toNatClampNeg) (xs (nI i + 2).toNatClampNeg)) (fun m1 => f_X11_teachers m1 (xs (nI i + 1).toNatClampNeg) (xs (nI i + 2).toNatClampNeg)) := q_teachers R
  refine n_aloadn_1 dL_law_1335 ?_
  refine n_aloadn_0 dL_law_1336 ?_
  refine n_iload_4 dL_law_1337 ?_
  refine n_iconst 1 dL_law_1339 rfl ?_
  refine n_iadd dL_law_1340 ?_
  refine l_sld (sx1 h6 hL) dL_law_1341 ?_
  refine n_aloadn_0 dL_law_1342 ?_
  refine n_iload_4 dL_law_1343 ?_
  refine n_iconst 2 dL_law_1345 rfl ?_
  refine n_iadd dL_law_1346 ?_
  refine l_sld (sx2 h6 hL) dL_law_1347 ?_
  refine n_callV (As := [.int (xs (nI i + 1).toNatClampNeg), .int (xs (nI i + 2).toNatClampNeg)]) rfl (cl_ncl (c_X10_teachers e1)) (wsO (g := gOf n ad nl ln) pn_0 pc_0) (q := (RX10, TX10, 11)) rfl ce_X10_teachers lk_L_146 rfl ⟨Nat.le_of_ble_eq_true rfl, Nat.le_of_ble_eq_true rfl⟩ ⟨by show _ ≤ 601024; omega, by show _ ≤ 7293034; omega⟩ rfl dL_law_1348 ?_
  rintro _ rfl
  refine n_aloadn_2 dL_law_1351 ?_
  refine n_aloadn_0 dL_law_1352 ?_
  refine n_iload_4 dL_law_1353 ?_
  refine n_iconst 1 dL_law_1355 rfl ?_
  refine n_iadd dL_law_1356 ?_
  refine l_sld (sx1 h6 hL) dL_law_1357 ?_
  refine n_aloadn_0 dL_law_1358 ?_
  refine n_iload_4 dL_law_1359 ?_
  refine n_iconst 2 dL_law_1361 rfl ?_
  refine n_iadd dL_law_1362 ?_
  refine l_sld (sx2 h6 hL) dL_law_1363 ?_
  refine n_callV (As := [.int (xs (nI i + 1).toNatClampNeg), .int (xs (nI i + 2).toNatClampNeg)]) rfl (cl_ncl (c_X11_teachers e2)) (wsO (g := gOf n ad nl ln) pn_27 pc_27) (q := (RX11, TX11, 46)) rfl ce_X11_teachers lk_L_149 rfl ⟨Nat.le_of_ble_eq_true rfl, Nat.le_of_ble_eq_true rfl⟩ ⟨by show _ ≤ 601024; omega, by show _ ≤ 7293034; omega⟩ rfl dL_law_1364 ?_
  rintro _ rfl
  refine n_icmp_eq 1762 dL_law_1367 (by decide) (fun _ => ?_) (fun h => absurd rfl h)
  exact K ad nl ln m2 _ _ _ _ rfl rfl rfl (Rel_mono R2 (by omega)) h4 (by omega) (by omega)
theorem lc_29 {n : Nf} {b L : Nat} {xs : Nat → Int32} : CLw n b L xs 1372 := by
  intro ad nl ln m i B cells slots o5 o6 h6 hL R hB h4 hc hs K
  obtain ⟨r, m1, m2, e1, e2, R2⟩ : QQ nl ln B (f_X10_spans nl ln m (xs (nI i + 1).toNatClampNeg) (xs (nI i + 2).toNatClampNeg)) (fun m1 => f_X11_spans m1 (xs (nI i + 1).toNatClampNeg) (xs (nI i + 2).toNatClampNeg)) := q_spans R
  refine n_aloadn_1 dL_law_1372 ?_
  refine n_aloadn_0 dL_law_1373 ?_
  refine n_iload_4 dL_law_1374 ?_
  refine n_iconst 1 dL_law_1376 rfl ?_
  refine n_iadd dL_law_1377 ?_
  refine l_sld (sx1 h6 hL) dL_law_1378 ?_
  refine n_aloadn_0 dL_law_1379 ?_
  refine n_iload_4 dL_law_1380 ?_
  refine n_iconst 2 dL_law_1382 rfl ?_
  refine n_iadd dL_law_1383 ?_
  refine l_sld (sx2 h6 hL) dL_law_1384 ?_
  refine n_callV (As := [.int (xs (nI i + 1).toNatClampNeg), .int (xs (nI i + 2).toNatClampNeg)]) rfl (cl_ncl (c_X10_spans h4 gOf_X e1)) (wsO (g := gOf n ad nl ln) pn_0 pc_0) (q := (RX10, TX10, 11)) rfl ce_X10_spans lk_L_150 rfl ⟨Nat.le_of_ble_eq_true rfl, Nat.le_of_ble_eq_true rfl⟩ ⟨by show _ ≤ 601024; omega, by show _ ≤ 7293034; omega⟩ rfl dL_law_1385 ?_
  rintro _ rfl
  refine n_aloadn_2 dL_law_1388 ?_
  refine n_aloadn_0 dL_law_1389 ?_
  refine n_iload_4 dL_law_1390 ?_
  refine n_iconst 1 dL_law_1392 rfl ?_
  refine n_iadd dL_law_1393 ?_
  refine l_sld (sx1 h6 hL) dL_law_1394 ?_
  refine n_aloadn_0 dL_law_1395 ?_
  refine n_iload_4 dL_law_1396 ?_
  refine n_iconst 2 dL_law_1398 rfl ?_
  refine n_iadd dL_law_1399 ?_
  refine l_sld (sx2 h6 hL) dL_law_1400 ?_
  refine n_callV (As := [.int (xs (nI i + 1).toNatClampNeg), .int (xs (nI i + 2).toNatClampNeg)]) rfl (cl_ncl (c_X11_spans gOf_X e2)) (wsO (g := gOf n ad nl ln) pn_27 pc_27) (q := (RX11, TX11, 46)) rfl ce_X11_spans lk_L_153 rfl ⟨Nat.le_of_ble_eq_true rfl, Nat.le_of_ble_eq_true rfl⟩ ⟨by show _ ≤ 601024; omega, by show _ ≤ 7293034; omega⟩ rfl dL_law_1401 ?_
  rintro _ rfl
  refine n_icmp_eq 1762 dL_law_1404 (by decide) (fun _ => ?_) (fun h => absurd rfl h)
  exact K ad nl ln m2 _ _ _ _ rfl rfl rfl (Rel_mono R2 (by omega)) h4 (by omega) (by omega)
theorem lc_30 {n : Nf} {b L : Nat} {xs : Nat → Int32} : CLw n b L xs 1409 := by
  intro ad nl ln m i B cells slots o5 o6 h6 hL R hB h4 hc hs K
  obtain ⟨r, m1, m2, e1, e2, R2⟩ : QQ nl ln B (f_X10_chain m (xs (nI i + 1).toNatClampNeg)) (fun m1 => f_X11_chain m1 (xs (nI i + 1).toNatClampNeg)) := q_chain (by omega) R
  refine n_aloadn_1 dL_law_1409 ?_
  refine n_aloadn_0 dL_law_1410 ?_
  refine n_iload_4 dL_law_1411 ?_
  refine n_iconst 1 dL_law_1413 rfl ?_
  refine n_iadd dL_law_1414 ?_
  refine l_sld (sx1 h6 hL) dL_law_1415 ?_
  refine n_callV (As := [.int (xs (nI i + 1).toNatClampNeg)]) rfl (cl_ncl (c_X10_chain e1)) (wsO (g := gOf n ad nl ln) pn_0 pc_0) (q := (RX10, TX10, 11)) rfl ce_X10_chain lk_L_154 rfl ⟨Nat.le_of_ble_eq_true rfl, Nat.le_of_ble_eq_true rfl⟩ ⟨by show _ ≤ 601024; omega, by show _ ≤ 7293034; omega⟩ rfl dL_law_1416 ?_
  rintro _ rfl
  refine n_aloadn_2 dL_law_1419 ?_
  refine n_aloadn_0 dL_law_1420 ?_
  refine n_iload_4 dL_law_1421 ?_
  refine n_iconst 1 dL_law_1423 rfl ?_
  refine n_iadd dL_law_1424 ?_
  refine l_sld (sx1 h6 hL) dL_law_1425 ?_
  refine n_callV (As := [.int (xs (nI i + 1).toNatClampNeg)]) rfl (cl_ncl (c_X11_chain e2)) (wsO (g := gOf n ad nl ln) pn_27 pc_27) (q := (RX11, TX11, 46)) rfl ce_X11_chain lk_L_157 rfl ⟨Nat.le_of_ble_eq_true rfl, Nat.le_of_ble_eq_true rfl⟩ ⟨by show _ ≤ 601024; omega, by show _ ≤ 7293034; omega⟩ rfl dL_law_1426 ?_
  rintro _ rfl
  refine n_icmp_eq 1762 dL_law_1429 (by decide) (fun _ => ?_) (fun h => absurd rfl h)
  exact K ad nl ln m2 _ _ _ _ rfl rfl rfl (Rel_mono R2 (by omega)) h4 (by omega) (by omega)
theorem lc_31 {n : Nf} {b L : Nat} {xs : Nat → Int32} : CLw n b L xs 1434 := by
  intro ad nl ln m i B cells slots o5 o6 h6 hL R hB h4 hc hs K
  obtain ⟨r, m1, m2, e1, e2, R2⟩ : QQ nl ln B (f_X10_threes m ) (fun m1 => f_X11_threes m1 ) := q_threes R
  refine n_aloadn_1 dL_law_1434 ?_
  refine n_callV (As := []) rfl (cl_ncl (c_X10_threes e1)) (wsO (g := gOf n ad nl ln) pn_0 pc_0) (q := (RX10, TX10, 11)) rfl ce_X10_threes lk_L_158 rfl ⟨Nat.le_of_ble_eq_true rfl, Nat.le_of_ble_eq_true rfl⟩ ⟨by show _ ≤ 601024; omega, by show _ ≤ 7293034; omega⟩ rfl dL_law_1435 ?_
  rintro _ rfl
  refine n_aloadn_2 dL_law_1438 ?_
  refine n_callV (As := []) rfl (cl_ncl (c_X11_threes e2)) (wsO (g := gOf n ad nl ln) pn_27 pc_27) (q := (RX11, TX11, 46)) rfl ce_X11_threes lk_L_161 rfl ⟨Nat.le_of_ble_eq_true rfl, Nat.le_of_ble_eq_true rfl⟩ ⟨by show _ ≤ 601024; omega, by show _ ≤ 7293034; omega⟩ rfl dL_law_1439 ?_
  rintro _ rfl
  refine n_icmp_eq 1762 dL_law_1442 (by decide) (fun _ => ?_) (fun h => absurd rfl h)
  exact K ad nl ln m2 _ _ _ _ rfl rfl rfl (Rel_mono R2 (by omega)) h4 (by omega) (by omega)
theorem lc_32 {n : Nf} {b L : Nat} {xs : Nat → Int32} : CLw n b L xs 1447 := by
  intro ad nl ln m i B cells slots o5 o6 h6 hL R hB h4 hc hs K
  obtain ⟨r, m1, m2, e1, e2, R2⟩ : QQ nl ln B (f_X10_party m (xs (nI i + 1).toNatClampNeg)) (fun m1 => f_X11_party m1 (xs (nI i + 1).toNatClampNeg)) := q_party R
  refine n_aloadn_1 dL_law_1447 ?_
  refine n_aloadn_0 dL_law_1448 ?_
  refine n_iload_4 dL_law_1449 ?_
  refine n_iconst 1 dL_law_1451 rfl ?_
  refine n_iadd dL_law_1452 ?_
  refine l_sld (sx1 h6 hL) dL_law_1453 ?_
  refine n_callV (As := [.int (xs (nI i + 1).toNatClampNeg)]) rfl (cl_ncl (c_X10_party e1)) (wsO (g := gOf n ad nl ln) pn_0 pc_0) (q := (RX10, TX10, 11)) rfl ce_X10_party lk_L_162 rfl ⟨Nat.le_of_ble_eq_true rfl, Nat.le_of_ble_eq_true rfl⟩ ⟨by show _ ≤ 601024; omega, by show _ ≤ 7293034; omega⟩ rfl dL_law_1454 ?_
  rintro _ rfl
  refine n_aloadn_2 dL_law_1457 ?_
  refine n_aloadn_0 dL_law_1458 ?_
  refine n_iload_4 dL_law_1459 ?_
  refine n_iconst 1 dL_law_1461 rfl ?_
  refine n_iadd dL_law_1462 ?_
  refine l_sld (sx1 h6 hL) dL_law_1463 ?_
  refine n_callV (As := [.int (xs (nI i + 1).toNatClampNeg)]) rfl (cl_ncl (c_X11_party e2)) (wsO (g := gOf n ad nl ln) pn_27 pc_27) (q := (RX11, TX11, 46)) rfl ce_X11_party lk_L_165 rfl ⟨Nat.le_of_ble_eq_true rfl, Nat.le_of_ble_eq_true rfl⟩ ⟨by show _ ≤ 601024; omega, by show _ ≤ 7293034; omega⟩ rfl dL_law_1464 ?_
  rintro _ rfl
  refine n_icmp_eq 1762 dL_law_1467 (by decide) (fun _ => ?_) (fun h => absurd rfl h)
  exact K ad nl ln m2 _ _ _ _ rfl rfl rfl (Rel_mono R2 (by omega)) h4 (by omega) (by omega)
theorem lc_33 {n : Nf} {b L : Nat} {xs : Nat → Int32} : CLw n b L xs 1472 := by
  intro ad nl ln m i B cells slots o5 o6 h6 hL R hB h4 hc hs K
  obtain ⟨r, m1, m2, e1, e2, R2⟩ : QQ nl ln B (f_X10_heir m ) (fun m1 => f_X11_heir m1 ) := q_heir R
  refine n_aloadn_1 dL_law_1472 ?_
  refine n_callV (As := []) rfl (cl_ncl (c_X10_heir e1)) (wsO (g := gOf n ad nl ln) pn_0 pc_0) (q := (RX10, TX10, 11)) rfl ce_X10_heir lk_L_166 rfl ⟨Nat.le_of_ble_eq_true rfl, Nat.le_of_ble_eq_true rfl⟩ ⟨by show _ ≤ 601024; omega, by show _ ≤ 7293034; omega⟩ rfl dL_law_1473 ?_
  rintro _ rfl
  refine n_aloadn_2 dL_law_1476 ?_
  refine n_callV (As := []) rfl (cl_ncl (c_X11_heir e2)) (wsO (g := gOf n ad nl ln) pn_27 pc_27) (q := (RX11, TX11, 46)) rfl ce_X11_heir lk_L_169 rfl ⟨Nat.le_of_ble_eq_true rfl, Nat.le_of_ble_eq_true rfl⟩ ⟨by show _ ≤ 601024; omega, by show _ ≤ 7293034; omega⟩ rfl dL_law_1477 ?_
  rintro _ rfl
  refine n_icmp_eq 1762 dL_law_1480 (by decide) (fun _ => ?_) (fun h => absurd rfl h)
  exact K ad nl ln m2 _ _ _ _ rfl rfl rfl (Rel_mono R2 (by omega)) h4 (by omega) (by omega)
theorem lc_34 {n : Nf} {b L : Nat} {xs : Nat → Int32} : CLw n b L xs 1485 := by
  intro ad nl ln m i B cells slots o5 o6 h6 hL R hB h4 hc hs K
  obtain ⟨r, m1, m2, e1, e2, R2⟩ : QQ nl ln B (f_X10_late m ) (fun m1 => f_X11_late m1 ) := q_late R
  refine n_aloadn_1 dL_law_1485 ?_
  refine n_callV (As := []) rfl (cl_ncl (c_X10_late e1)) (wsO (g := gOf n ad nl ln) pn_0 pc_0) (q := (RX10, TX10, 11)) rfl ce_X10_late lk_L_170 rfl ⟨Nat.le_of_ble_eq_true rfl, Nat.le_of_ble_eq_true rfl⟩ ⟨by show _ ≤ 601024; omega, by show _ ≤ 7293034; omega⟩ rfl dL_law_1486 ?_
  rintro _ rfl
  refine n_aloadn_2 dL_law_1489 ?_
  refine n_callV (As := []) rfl (cl_ncl (c_X11_late gOf_X e2)) (wsO (g := gOf n ad nl ln) pn_27 pc_27) (q := (RX11, TX11, 46)) rfl ce_X11_late lk_L_173 rfl ⟨Nat.le_of_ble_eq_true rfl, Nat.le_of_ble_eq_true rfl⟩ ⟨by show _ ≤ 601024; omega, by show _ ≤ 7293034; omega⟩ rfl dL_law_1490 ?_
  rintro _ rfl
  refine n_icmp_eq 1762 dL_law_1493 (by decide) (fun _ => ?_) (fun h => absurd rfl h)
  exact K ad nl ln m2 _ _ _ _ rfl rfl rfl (Rel_mono R2 (by omega)) h4 (by omega) (by omega)
theorem lc_35 {n : Nf} {b L : Nat} {xs : Nat → Int32} : CLw n b L xs 1498 := by
  intro ad nl ln m i B cells slots o5 o6 h6 hL R hB h4 hc hs K
  obtain ⟨r, m1, m2, e1, e2, R2⟩ : QQ nl ln B (f_X10_before m (xs (nI i + 1).toNatClampNeg)) (fun m1 => f_X11_before m1 (xs (nI i + 1).toNatClampNeg)) := q_before R
  refine n_aloadn_1 dL_law_1498 ?_
  refine n_aloadn_0 dL_law_1499 ?_
  refine n_iload_4 dL_law_1500 ?_
  refine n_iconst 1 dL_law_1502 rfl ?_
  refine n_iadd dL_law_1503 ?_
  refine l_sld (sx1 h6 hL) dL_law_1504 ?_
  refine n_callV (As := [.int (xs (nI i + 1).toNatClampNeg)]) rfl (cl_ncl (c_X10_before e1)) (wsO (g := gOf n ad nl ln) pn_0 pc_0) (q := (RX10, TX10, 11)) rfl ce_X10_before lk_L_174 rfl ⟨Nat.le_of_ble_eq_true rfl, Nat.le_of_ble_eq_true rfl⟩ ⟨by show _ ≤ 601024; omega, by show _ ≤ 7293034; omega⟩ rfl dL_law_1505 ?_
  rintro _ rfl
  refine n_aloadn_2 dL_law_1508 ?_
  refine n_aloadn_0 dL_law_1509 ?_
  refine n_iload_4 dL_law_1510 ?_
  refine n_iconst 1 dL_law_1512 rfl ?_
  refine n_iadd dL_law_1513 ?_
  refine l_sld (sx1 h6 hL) dL_law_1514 ?_
  refine n_callV (As := [.int (xs (nI i + 1).toNatClampNeg)]) rfl (cl_ncl (c_X11_before e2)) (wsO (g := gOf n ad nl ln) pn_27 pc_27) (q := (RX11, TX11, 46)) rfl ce_X11_before lk_L_177 rfl ⟨Nat.le_of_ble_eq_true rfl, Nat.le_of_ble_eq_true rfl⟩ ⟨by show _ ≤ 601024; omega, by show _ ≤ 7293034; omega⟩ rfl dL_law_1515 ?_
  rintro _ rfl
  refine n_icmp_eq 1762 dL_law_1518 (by decide) (fun _ => ?_) (fun h => absurd rfl h)
  exact K ad nl ln m2 _ _ _ _ rfl rfl rfl (Rel_mono R2 (by omega)) h4 (by omega) (by omega)
theorem lc_36 {n : Nf} {b L : Nat} {xs : Nat → Int32} : CLw n b L xs 1523 := by
  intro ad nl ln m i B cells slots o5 o6 h6 hL R hB h4 hc hs K
  obtain ⟨r, m1, m2, e1, e2, R2⟩ : QQ nl ln B (f_X10_without m (xs (nI i + 1).toNatClampNeg)) (fun m1 => f_X11_without m1 (xs (nI i + 1).toNatClampNeg)) := q_without R
  refine n_aloadn_1 dL_law_1523 ?_
  refine n_aloadn_0 dL_law_1524 ?_
  refine n_iload_4 dL_law_1525 ?_
  refine n_iconst 1 dL_law_1527 rfl ?_
  refine n_iadd dL_law_1528 ?_
  refine l_sld (sx1 h6 hL) dL_law_1529 ?_
  refine n_callV (As := [.int (xs (nI i + 1).toNatClampNeg)]) rfl (cl_ncl (c_X10_without e1)) (wsO (g := gOf n ad nl ln) pn_0 pc_0) (q := (RX10, TX10, 11)) rfl ce_X10_without lk_L_178 rfl ⟨Nat.le_of_ble_eq_true rfl, Nat.le_of_ble_eq_true rfl⟩ ⟨by show _ ≤ 601024; omega, by show _ ≤ 7293034; omega⟩ rfl dL_law_1530 ?_
  rintro _ rfl
  refine n_aloadn_2 dL_law_1533 ?_
  refine n_aloadn_0 dL_law_1534 ?_
  refine n_iload_4 dL_law_1535 ?_
  refine n_iconst 1 dL_law_1537 rfl ?_
  refine n_iadd dL_law_1538 ?_
  refine l_sld (sx1 h6 hL) dL_law_1539 ?_
  refine n_callV (As := [.int (xs (nI i + 1).toNatClampNeg)]) rfl (cl_ncl (c_X11_without e2)) (wsO (g := gOf n ad nl ln) pn_27 pc_27) (q := (RX11, TX11, 46)) rfl ce_X11_without lk_L_181 rfl ⟨Nat.le_of_ble_eq_true rfl, Nat.le_of_ble_eq_true rfl⟩ ⟨by show _ ≤ 601024; omega, by show _ ≤ 7293034; omega⟩ rfl dL_law_1540 ?_
  rintro _ rfl
  refine n_icmp_eq 1762 dL_law_1543 (by decide) (fun _ => ?_) (fun h => absurd rfl h)
  exact K ad nl ln m2 _ _ _ _ rfl rfl rfl (Rel_mono R2 (by omega)) h4 (by omega) (by omega)
theorem lc_37 {n : Nf} {b L : Nat} {xs : Nat → Int32} : CLw n b L xs 1548 := by
  intro ad nl ln m i B cells slots o5 o6 h6 hL R hB h4 hc hs K
  obtain ⟨r, m1, m2, e1, e2, R2⟩ : QQ nl ln B (f_X10_spoil m (xs (nI i + 1).toNatClampNeg)) (fun m1 => f_X11_spoil m1 (xs (nI i + 1).toNatClampNeg)) := q_spoil R
  refine n_aloadn_1 dL_law_1548 ?_
  refine n_aloadn_0 dL_law_1549 ?_
  refine n_iload_4 dL_law_1550 ?_
  refine n_iconst 1 dL_law_1552 rfl ?_
  refine n_iadd dL_law_1553 ?_
  refine l_sld (sx1 h6 hL) dL_law_1554 ?_
  refine n_callV (As := [.int (xs (nI i + 1).toNatClampNeg)]) rfl (cl_ncl (c_X10_spoil e1)) (wsO (g := gOf n ad nl ln) pn_0 pc_0) (q := (RX10, TX10, 11)) rfl ce_X10_spoil lk_L_182 rfl ⟨Nat.le_of_ble_eq_true rfl, Nat.le_of_ble_eq_true rfl⟩ ⟨by show _ ≤ 601024; omega, by show _ ≤ 7293034; omega⟩ rfl dL_law_1555 ?_
  rintro _ rfl
  refine n_aloadn_2 dL_law_1558 ?_
  refine n_aloadn_0 dL_law_1559 ?_
  refine n_iload_4 dL_law_1560 ?_
  refine n_iconst 1 dL_law_1562 rfl ?_
  refine n_iadd dL_law_1563 ?_
  refine l_sld (sx1 h6 hL) dL_law_1564 ?_
  refine n_callV (As := [.int (xs (nI i + 1).toNatClampNeg)]) rfl (cl_ncl (c_X11_spoil e2)) (wsO (g := gOf n ad nl ln) pn_27 pc_27) (q := (RX11, TX11, 46)) rfl ce_X11_spoil lk_L_185 rfl ⟨Nat.le_of_ble_eq_true rfl, Nat.le_of_ble_eq_true rfl⟩ ⟨by show _ ≤ 601024; omega, by show _ ≤ 7293034; omega⟩ rfl dL_law_1565 ?_
  rintro _ rfl
  refine n_icmp_eq 1762 dL_law_1568 (by decide) (fun _ => ?_) (fun h => absurd rfl h)
  exact K ad nl ln m2 _ _ _ _ rfl rfl rfl (Rel_mono R2 (by omega)) h4 (by omega) (by omega)
theorem lc_38 {n : Nf} {b L : Nat} {xs : Nat → Int32} : CLw n b L xs 1573 := by
  intro ad nl ln m i B cells slots o5 o6 h6 hL R hB h4 hc hs K
  obtain ⟨r, m1, m2, e1, e2, R2⟩ : QQ nl ln B (f_X10_soon m (xs (nI i + 1).toNatClampNeg)) (fun m1 => f_X11_soon m1 (xs (nI i + 1).toNatClampNeg)) := q_soon R
  refine n_aloadn_1 dL_law_1573 ?_
  refine n_aloadn_0 dL_law_1574 ?_
  refine n_iload_4 dL_law_1575 ?_
  refine n_iconst 1 dL_law_1577 rfl ?_
  refine n_iadd dL_law_1578 ?_
  refine l_sld (sx1 h6 hL) dL_law_1579 ?_
  refine n_callV (As := [.int (xs (nI i + 1).toNatClampNeg)]) rfl (cl_ncl (c_X10_soon e1)) (wsO (g := gOf n ad nl ln) pn_0 pc_0) (q := (RX10, TX10, 11)) rfl ce_X10_soon lk_L_186 rfl ⟨Nat.le_of_ble_eq_true rfl, Nat.le_of_ble_eq_true rfl⟩ ⟨by show _ ≤ 601024; omega, by show _ ≤ 7293034; omega⟩ rfl dL_law_1580 ?_
  rintro _ rfl
  refine n_aloadn_2 dL_law_1583 ?_
  refine n_aloadn_0 dL_law_1584 ?_
  refine n_iload_4 dL_law_1585 ?_
  refine n_iconst 1 dL_law_1587 rfl ?_
  refine n_iadd dL_law_1588 ?_
  refine l_sld (sx1 h6 hL) dL_law_1589 ?_
  refine n_callV (As := [.int (xs (nI i + 1).toNatClampNeg)]) rfl (cl_ncl (c_X11_soon e2)) (wsO (g := gOf n ad nl ln) pn_27 pc_27) (q := (RX11, TX11, 46)) rfl ce_X11_soon lk_L_189 rfl ⟨Nat.le_of_ble_eq_true rfl, Nat.le_of_ble_eq_true rfl⟩ ⟨by show _ ≤ 601024; omega, by show _ ≤ 7293034; omega⟩ rfl dL_law_1590 ?_
  rintro _ rfl
  refine n_icmp_eq 1762 dL_law_1593 (by decide) (fun _ => ?_) (fun h => absurd rfl h)
  exact K ad nl ln m2 _ _ _ _ rfl rfl rfl (Rel_mono R2 (by omega)) h4 (by omega) (by omega)
theorem lc_39 {n : Nf} {b L : Nat} {xs : Nat → Int32} : CLw n b L xs 1598 := by
  intro ad nl ln m i B cells slots o5 o6 h6 hL R hB h4 hc hs K
  obtain ⟨r, m1, m2, e1, e2, R2⟩ : QQ nl ln B (f_X10_fevered m ) (fun m1 => f_X11_fevered m1 ) := q_fevered R
  refine n_aloadn_1 dL_law_1598 ?_
  refine n_callV (As := []) rfl (cl_ncl (c_X10_fevered e1)) (wsO (g := gOf n ad nl ln) pn_0 pc_0) (q := (RX10, TX10, 11)) rfl ce_X10_fevered lk_L_190 rfl ⟨Nat.le_of_ble_eq_true rfl, Nat.le_of_ble_eq_true rfl⟩ ⟨by show _ ≤ 601024; omega, by show _ ≤ 7293034; omega⟩ rfl dL_law_1599 ?_
  rintro _ rfl
  refine n_aloadn_2 dL_law_1602 ?_
  refine n_callV (As := []) rfl (cl_ncl (c_X11_fevered e2)) (wsO (g := gOf n ad nl ln) pn_27 pc_27) (q := (RX11, TX11, 46)) rfl ce_X11_fevered lk_L_193 rfl ⟨Nat.le_of_ble_eq_true rfl, Nat.le_of_ble_eq_true rfl⟩ ⟨by show _ ≤ 601024; omega, by show _ ≤ 7293034; omega⟩ rfl dL_law_1603 ?_
  rintro _ rfl
  refine n_icmp_eq 1762 dL_law_1606 (by decide) (fun _ => ?_) (fun h => absurd rfl h)
  exact K ad nl ln m2 _ _ _ _ rfl rfl rfl (Rel_mono R2 (by omega)) h4 (by omega) (by omega)
theorem lc_40 {n : Nf} {b L : Nat} {xs : Nat → Int32} : CLw n b L xs 1611 := by
  intro ad nl ln m i B cells slots o5 o6 h6 hL R hB h4 hc hs K
  obtain ⟨r, m1, m2, e1, e2, R2⟩ : QQ nl ln B (f_X10_youngest m (xs (nI i + 1).toNatClampNeg)) (fun m1 => f_X11_youngest m1 (xs (nI i + 1).toNatClampNeg)) := q_youngest R
  refine n_aloadn_1 dL_law_1611 ?_
  refine n_aloadn_0 dL_law_1612 ?_
  refine n_iload_4 dL_law_1613 ?_
  refine n_iconst 1 dL_law_1615 rfl ?_
  refine n_iadd dL_law_1616 ?_
  refine l_sld (sx1 h6 hL) dL_law_1617 ?_
  refine n_callV (As := [.int (xs (nI i + 1).toNatClampNeg)]) rfl (cl_ncl (c_X10_youngest e1)) (wsO (g := gOf n ad nl ln) pn_0 pc_0) (q := (RX10, TX10, 11)) rfl ce_X10_youngest lk_L_194 rfl ⟨Nat.le_of_ble_eq_true rfl, Nat.le_of_ble_eq_true rfl⟩ ⟨by show _ ≤ 601024; omega, by show _ ≤ 7293034; omega⟩ rfl dL_law_1618 ?_
  rintro _ rfl
  refine n_aloadn_2 dL_law_1621 ?_
  refine n_aloadn_0 dL_law_1622 ?_
  refine n_iload_4 dL_law_1623 ?_
  refine n_iconst 1 dL_law_1625 rfl ?_
  refine n_iadd dL_law_1626 ?_
  refine l_sld (sx1 h6 hL) dL_law_1627 ?_
  refine n_callV (As := [.int (xs (nI i + 1).toNatClampNeg)]) rfl (cl_ncl (c_X11_youngest e2)) (wsO (g := gOf n ad nl ln) pn_27 pc_27) (q := (RX11, TX11, 46)) rfl ce_X11_youngest lk_L_197 rfl ⟨Nat.le_of_ble_eq_true rfl, Nat.le_of_ble_eq_true rfl⟩ ⟨by show _ ≤ 601024; omega, by show _ ≤ 7293034; omega⟩ rfl dL_law_1628 ?_
  rintro _ rfl
  refine n_icmp_eq 1762 dL_law_1631 (by decide) (fun _ => ?_) (fun h => absurd rfl h)
  exact K ad nl ln m2 _ _ _ _ rfl rfl rfl (Rel_mono R2 (by omega)) h4 (by omega) (by omega)
theorem lc_41 {n : Nf} {b L : Nat} {xs : Nat → Int32} : CLw n b L xs 1636 := by
  intro ad nl ln m i B cells slots o5 o6 h6 hL R hB h4 hc hs K
  obtain ⟨r, m1, m2, e1, e2, R2⟩ : QQ nl ln B (f_X10_richest nl ln m (xs (nI i + 1).toNatClampNeg) (xs (nI i + 2).toNatClampNeg)) (fun m1 => f_X11_richest m1 (xs (nI i + 1).toNatClampNeg) (xs (nI i + 2).toNatClampNeg)) := q_richest (by omega) R
  refine n_aloadn_1 dL_law_1636 ?_
  refine n_aloadn_0 dL_law_1637 ?_
  refine n_iload_4 dL_law_1638 ?_
  refine n_iconst 1 dL_law_1640 rfl ?_
  refine n_iadd dL_law_1641 ?_
  refine l_sld (sx1 h6 hL) dL_law_1642 ?_
  refine n_aloadn_0 dL_law_1643 ?_
  refine n_iload_4 dL_law_1644 ?_
  refine n_iconst 2 dL_law_1646 rfl ?_
  refine n_iadd dL_law_1647 ?_
  refine l_sld (sx2 h6 hL) dL_law_1648 ?_
  refine n_callV (As := [.int (xs (nI i + 1).toNatClampNeg), .int (xs (nI i + 2).toNatClampNeg)]) rfl (cl_ncl (c_X10_richest h4 gOf_X e1)) (wsO (g := gOf n ad nl ln) pn_0 pc_0) (q := (RX10, TX10, 11)) rfl ce_X10_richest lk_L_198 rfl ⟨Nat.le_of_ble_eq_true rfl, Nat.le_of_ble_eq_true rfl⟩ ⟨by show _ ≤ 601024; omega, by show _ ≤ 7293034; omega⟩ rfl dL_law_1649 ?_
  rintro _ rfl
  refine n_aloadn_2 dL_law_1652 ?_
  refine n_aloadn_0 dL_law_1653 ?_
  refine n_iload_4 dL_law_1654 ?_
  refine n_iconst 1 dL_law_1656 rfl ?_
  refine n_iadd dL_law_1657 ?_
  refine l_sld (sx1 h6 hL) dL_law_1658 ?_
  refine n_aloadn_0 dL_law_1659 ?_
  refine n_iload_4 dL_law_1660 ?_
  refine n_iconst 2 dL_law_1662 rfl ?_
  refine n_iadd dL_law_1663 ?_
  refine l_sld (sx2 h6 hL) dL_law_1664 ?_
  refine n_callV (As := [.int (xs (nI i + 1).toNatClampNeg), .int (xs (nI i + 2).toNatClampNeg)]) rfl (cl_ncl (c_X11_richest gOf_X e2)) (wsO (g := gOf n ad nl ln) pn_27 pc_27) (q := (RX11, TX11, 46)) rfl ce_X11_richest lk_L_201 rfl ⟨Nat.le_of_ble_eq_true rfl, Nat.le_of_ble_eq_true rfl⟩ ⟨by show _ ≤ 601024; omega, by show _ ≤ 7293034; omega⟩ rfl dL_law_1665 ?_
  rintro _ rfl
  refine n_icmp_eq 1762 dL_law_1668 (by decide) (fun _ => ?_) (fun h => absurd rfl h)
  exact K ad nl ln m2 _ _ _ _ rfl rfl rfl (Rel_mono R2 (by omega)) h4 (by omega) (by omega)
theorem lc_42 {n : Nf} {b L : Nat} {xs : Nat → Int32} : CLw n b L xs 1673 := by
  intro ad nl ln m i B cells slots o5 o6 h6 hL R hB h4 hc hs K
  obtain ⟨r, m1, m2, e1, e2, R2⟩ : QQ nl ln B (f_X10_rivals m (xs (nI i + 1).toNatClampNeg)) (fun m1 => f_X11_rivals m1 (xs (nI i + 1).toNatClampNeg)) := q_rivals R
  refine n_aloadn_1 dL_law_1673 ?_
  refine n_aloadn_0 dL_law_1674 ?_
  refine n_iload_4 dL_law_1675 ?_
  refine n_iconst 1 dL_law_1677 rfl ?_
  refine n_iadd dL_law_1678 ?_
  refine l_sld (sx1 h6 hL) dL_law_1679 ?_
  refine n_callV (As := [.int (xs (nI i + 1).toNatClampNeg)]) rfl (cl_ncl (c_X10_rivals e1)) (wsO (g := gOf n ad nl ln) pn_0 pc_0) (q := (RX10, TX10, 11)) rfl ce_X10_rivals lk_L_202 rfl ⟨Nat.le_of_ble_eq_true rfl, Nat.le_of_ble_eq_true rfl⟩ ⟨by show _ ≤ 601024; omega, by show _ ≤ 7293034; omega⟩ rfl dL_law_1680 ?_
  rintro _ rfl
  refine n_aloadn_2 dL_law_1683 ?_
  refine n_aloadn_0 dL_law_1684 ?_
  refine n_iload_4 dL_law_1685 ?_
  refine n_iconst 1 dL_law_1687 rfl ?_
  refine n_iadd dL_law_1688 ?_
  refine l_sld (sx1 h6 hL) dL_law_1689 ?_
  refine n_callV (As := [.int (xs (nI i + 1).toNatClampNeg)]) rfl (cl_ncl (c_X11_rivals e2)) (wsO (g := gOf n ad nl ln) pn_27 pc_27) (q := (RX11, TX11, 46)) rfl ce_X11_rivals lk_L_205 rfl ⟨Nat.le_of_ble_eq_true rfl, Nat.le_of_ble_eq_true rfl⟩ ⟨by show _ ≤ 601024; omega, by show _ ≤ 7293034; omega⟩ rfl dL_law_1690 ?_
  rintro _ rfl
  refine n_icmp_eq 1762 dL_law_1693 (by decide) (fun _ => ?_) (fun h => absurd rfl h)
  exact K ad nl ln m2 _ _ _ _ rfl rfl rfl (Rel_mono R2 (by omega)) h4 (by omega) (by omega)
theorem lc_43 {n : Nf} {b L : Nat} {xs : Nat → Int32} : CLw n b L xs 1698 := by
  intro ad nl ln m i B cells slots o5 o6 h6 hL R hB h4 hc hs K
  obtain ⟨r, m1, m2, e1, e2, R2⟩ : QQ nl ln B (f_X10_forgotten m ) (fun m1 => f_X11_forgotten m1 ) := q_forgotten R
  refine n_aloadn_1 dL_law_1698 ?_
  refine n_callV (As := []) rfl (cl_ncl (c_X10_forgotten e1)) (wsO (g := gOf n ad nl ln) pn_0 pc_0) (q := (RX10, TX10, 11)) rfl ce_X10_forgotten lk_L_206 rfl ⟨Nat.le_of_ble_eq_true rfl, Nat.le_of_ble_eq_true rfl⟩ ⟨by show _ ≤ 601024; omega, by show _ ≤ 7293034; omega⟩ rfl dL_law_1699 ?_
  rintro _ rfl
  refine n_aloadn_2 dL_law_1702 ?_
  refine n_callV (As := []) rfl (cl_ncl (c_X11_forgotten e2)) (wsO (g := gOf n ad nl ln) pn_27 pc_27) (q := (RX11, TX11, 46)) rfl ce_X11_forgotten lk_L_209 rfl ⟨Nat.le_of_ble_eq_true rfl, Nat.le_of_ble_eq_true rfl⟩ ⟨by show _ ≤ 601024; omega, by show _ ≤ 7293034; omega⟩ rfl dL_law_1703 ?_
  rintro _ rfl
  refine n_icmp_eq 1762 dL_law_1706 (by decide) (fun _ => ?_) (fun h => absurd rfl h)
  exact K ad nl ln m2 _ _ _ _ rfl rfl rfl (Rel_mono R2 (by omega)) h4 (by omega) (by omega)
theorem lc_44 {n : Nf} {b L : Nat} {xs : Nat → Int32} : CLw n b L xs 1711 := by
  intro ad nl ln m i B cells slots o5 o6 h6 hL R hB h4 hc hs K
  obtain ⟨r, m1, m2, e1, e2, R2⟩ : QQ nl ln B (f_X10_image m ) (fun m1 => f_X11_image m1 ) := q_image R
  refine n_aloadn_1 dL_law_1711 ?_
  refine n_callV (As := []) rfl (cl_ncl (c_X10_image e1)) (wsO (g := gOf n ad nl ln) pn_0 pc_0) (q := (RX10, TX10, 11)) rfl ce_X10_image lk_L_210 rfl ⟨Nat.le_of_ble_eq_true rfl, Nat.le_of_ble_eq_true rfl⟩ ⟨by show _ ≤ 601024; omega, by show _ ≤ 7293034; omega⟩ rfl dL_law_1712 ?_
  rintro _ rfl
  refine n_aloadn_2 dL_law_1715 ?_
  refine n_callV (As := []) rfl (cl_ncl (c_X11_image e2)) (wsO (g := gOf n ad nl ln) pn_27 pc_27) (q := (RX11, TX11, 46)) rfl ce_X11_image lk_L_213 rfl ⟨Nat.le_of_ble_eq_true rfl, Nat.le_of_ble_eq_true rfl⟩ ⟨by show _ ≤ 601024; omega, by show _ ≤ 7293034; omega⟩ rfl dL_law_1716 ?_
  rintro _ rfl
  refine n_icmp_eq 1762 dL_law_1719 (by decide) (fun _ => ?_) (fun h => absurd rfl h)
  exact K ad nl ln m2 _ _ _ _ rfl rfl rfl (Rel_mono R2 (by omega)) h4 (by omega) (by omega)
theorem lc_45 {n : Nf} {b L : Nat} {xs : Nat → Int32} : CLw n b L xs 1724 := by
  intro ad nl ln m i B cells slots o5 o6 h6 hL R hB h4 hc hs K
  obtain ⟨r, m1, m2, e1, e2, R2⟩ : QQ nl ln B (f_X10_back m ) (fun m1 => f_X11_back m1 ) := q_back R
  refine n_aloadn_1 dL_law_1724 ?_
  refine n_callV (As := []) rfl (cl_ncl (c_X10_back e1)) (wsO (g := gOf n ad nl ln) pn_0 pc_0) (q := (RX10, TX10, 11)) rfl ce_X10_back lk_L_214 rfl ⟨Nat.le_of_ble_eq_true rfl, Nat.le_of_ble_eq_true rfl⟩ ⟨by show _ ≤ 601024; omega, by show _ ≤ 7293034; omega⟩ rfl dL_law_1725 ?_
  rintro _ rfl
  refine n_aloadn_2 dL_law_1728 ?_
  refine n_callV (As := []) rfl (cl_ncl (c_X11_back e2)) (wsO (g := gOf n ad nl ln) pn_27 pc_27) (q := (RX11, TX11, 46)) rfl ce_X11_back lk_L_217 rfl ⟨Nat.le_of_ble_eq_true rfl, Nat.le_of_ble_eq_true rfl⟩ ⟨by show _ ≤ 601024; omega, by show _ ≤ 7293034; omega⟩ rfl dL_law_1729 ?_
  rintro _ rfl
  refine n_icmp_eq 1762 dL_law_1732 (by decide) (fun _ => ?_) (fun h => absurd rfl h)
  exact K ad nl ln m2 _ _ _ _ rfl rfl rfl (Rel_mono R2 (by omega)) h4 (by omega) (by omega)
theorem lc_46 {n : Nf} {b L : Nat} {xs : Nat → Int32} : CLw n b L xs 1737 := by
  intro ad nl ln m i B cells slots o5 o6 h6 hL R hB h4 hc hs K
  obtain ⟨r, m1, m2, e1, e2, R2⟩ : QQ nl ln B (f_X10_count m (xs (nI i + 1).toNatClampNeg)) (fun m1 => f_X11_count m1 (xs (nI i + 1).toNatClampNeg)) := q_count (by omega) R
  refine n_aloadn_1 dL_law_1737 ?_
  refine n_aloadn_0 dL_law_1738 ?_
  refine n_iload_4 dL_law_1739 ?_
  refine n_iconst 1 dL_law_1741 rfl ?_
  refine n_iadd dL_law_1742 ?_
  refine l_sld (sx1 h6 hL) dL_law_1743 ?_
  refine n_callV (As := [.int (xs (nI i + 1).toNatClampNeg)]) rfl (cl_ncl (c_X10_count e1)) (wsO (g := gOf n ad nl ln) pn_0 pc_0) (q := (RX10, TX10, 11)) rfl ce_X10_count lk_L_218 rfl ⟨Nat.le_of_ble_eq_true rfl, Nat.le_of_ble_eq_true rfl⟩ ⟨by show _ ≤ 601024; omega, by show _ ≤ 7293034; omega⟩ rfl dL_law_1744 ?_
  rintro _ rfl
  refine n_aloadn_2 dL_law_1747 ?_
  refine n_aloadn_0 dL_law_1748 ?_
  refine n_iload_4 dL_law_1749 ?_
  refine n_iconst 1 dL_law_1751 rfl ?_
  refine n_iadd dL_law_1752 ?_
  refine l_sld (sx1 h6 hL) dL_law_1753 ?_
  refine n_callV (As := [.int (xs (nI i + 1).toNatClampNeg)]) rfl (cl_ncl (c_X11_count e2)) (wsO (g := gOf n ad nl ln) pn_27 pc_27) (q := (RX11, TX11, 46)) rfl ce_X11_count lk_L_221 rfl ⟨Nat.le_of_ble_eq_true rfl, Nat.le_of_ble_eq_true rfl⟩ ⟨by show _ ≤ 601024; omega, by show _ ≤ 7293034; omega⟩ rfl dL_law_1754 ?_
  rintro _ rfl
  refine n_icmp_eq 1762 dL_law_1757 (by decide) (fun _ => ?_) (fun h => absurd rfl h)
  exact K ad nl ln m2 _ _ _ _ rfl rfl rfl (Rel_mono R2 (by omega)) h4 (by omega) (by omega)
