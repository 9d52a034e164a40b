def scE (G : GT) (b L : Nat) (xs : Nat → Int32) : State → Prop := fun s => va_X b L xs s s.heap ∧ b < s.heap.size ∧ ¬ gA G b ∧ G.2.1 2000 = b
abbrev vfL (G : GT) (b L : Nat) (xs : Nat → Int32) : VF := (G, mL_law, scE G b L xs, room_1, 600000, 7302249)
theorem ad_scr {G : GT} {b L : Nat} {xs : Nat → Int32} {s : State} (h : scE G b L xs s) : ad G 3000 = b := h.2.2.2
section LW
variable {G : GT} {b L : Nat} {xs : Nat → Int32} {cells slots n : Nat} {r : RT} {pc : Nat} {lv : List (Option Value)} {st : List Value} {w : Wd} {Z : VZ}
theorem V.sldX {i j : Nat} {v : Int32} (hd : decode cL_law pc = .ok (.iaload, 1)) (hv : v = nI (i + j)) (hij : i + j < L) (hL : L ≤ 3072) (kk : V (vfL G b L xs) cells slots n r (pc + 1) lv (.int (xs (i + j)) :: st) w Z) : V (vfL G b L xs) cells slots n r pc lv (.int v :: .ref 3000 :: st) w Z :=
  fun h p l e s m args below meth c H locs ls C hP hz hS hl => by
    have hE := C.2.2.2.2.2.2.2.2.2.2
    have ea : ad G 3000 = b := ad_scr hE
    subst hv
    have k1 := kk h p l e s m args below meth c H locs ls C hP hz hS hl
    have e1 : (.int (xs (i + j)) : Value) = .int (xs (nI (i + j)).toNatClampNeg) := by rw [nI_clamp (by omega)]
    have k2 : W p l e room_1 s m args below meth c H locs cells slots (MQ below (vQ G Z) args s 600000 7302249 (gA G)) (F0 m (pc + 1) ls (.int (xs (nI (i + j)).toNatClampNeg) :: st.map (rv G))) := by rw [← e1]; exact k1
    have k3 := va_sld C.1 C.2.1 hE.1 hE.2.1 hE.2.2.1 hS (vp_in_nI hij (by omega)) hd k2
    show W p l e room_1 s m args below meth c H locs cells slots _ (F0 m pc ls (.int (nI (i + j)) :: .ref (ad G 3000) :: st.map (rv G)))
    rw [ea]
    exact k3
theorem V.slenX (hd : decode cL_law pc = .ok (.arraylength, 1)) (kk : V (vfL G b L xs) cells slots n r (pc + 1) lv (.int (nI L) :: st) w Z) : V (vfL G b L xs) cells slots n r pc lv (.ref 3000 :: st) w Z :=
  fun h p l e s m args below meth c H locs ls C hP hz hS hl => by
    have hE := C.2.2.2.2.2.2.2.2.2.2
    have ea : ad G 3000 = b := ad_scr hE
    have k3 := va_slen C.1 C.2.1 hE.1 hE.2.1 hE.2.2.1 hS hd (kk h p l e s m args below meth c H locs ls C hP hz hS hl)
    show W p l e room_1 s m args below meth c H locs cells slots _ (F0 m pc ls (.ref (ad G 3000) :: st.map (rv G)))
    rw [ea]
    exact k3
end LW
theorem sx_1 (i : Nat) : nI i + 1 = nI (i + 1) := nI_1 i
theorem sx_2 (i : Nat) : nI i + 2 = nI (i + 2) := nI_add i 2
theorem sx_3 (i : Nat) : nI i + 3 = nI (i + 3) := nI_add i 3
theorem sx_4 (i : Nat) : nI i + 4 = nI (i + 4) := nI_add i 4
theorem sx_5 (i : Nat) : nI i + 5 = nI (i + 5) := nI_add i 5
theorem sx_6 (i : Nat) : nI i + 6 = nI (i + 6) := nI_add i 6
theorem rmL {mL : Nat} (h : mL ≤ 45) : rmOk room_1 (rmD 90) mL 0 0 70 141295 := by
  refine ⟨rfl, rfl, ⟨Nat.le_of_ble_eq_true rfl, ?_⟩, Nat.le_of_ble_eq_true rfl, Nat.le_of_ble_eq_true rfl⟩
  show 8 + (mL + 11) + 64 * 90 ≤ 84000
  omega
def bz (x : Int32) : Int32 := if x = 0 then 0 else 1
/-- feed -/
def stp_0 (a1 a2 a3 a4 a5 : Int32) (w w' : Wd) : Prop := ∃ (r : Int32) (w1 w2 : Wd), f_X11_feed a1 a2 a3 a4 a5 w = some (r, w1) ∧ f_X12_feed a1 a2 a3 a4 a5 w1 = some (r, w2) ∧ w' = w2
set_option maxHeartbeats 4000000 in
set_option maxRecDepth 100000 in
theorem law_0 {G : GT} {b L : Nat} {xs : Nat → Int32} (hL : L ≤ 3072) {i : Nat} (hi : i + 6 ≤ L) {w w' : Wd} {Z : VZ} (h : stp_0 (xs (i + 1)) (xs (i + 2)) (xs (i + 3)) (xs (i + 4)) (xs (i + 5)) w w') (kk : V (vfL G b L xs) 70 141295 70 r0 18 [some (.ref 3000), some (.ref 0), some (.ref 44), some (.int (nI (i + 6)))] [] w' Z) : V (vfL G b L xs) 70 141295 70 r0 296 [some (.ref 3000), some (.ref 0), some (.ref 44), some (.int (nI i))] [] w Z := by
  obtain ⟨r, w1, w2, h1, h2, rfl⟩ := h
  refine V.aload_n (pc := 296) dL_law_296 rfl ?_
  refine V.aload_n (pc := 297) dL_law_297 rfl ?_
  refine V.iload_n (pc := 298) dL_law_298 rfl ?_
  refine V.iconst (pc := 299) dL_law_299 ic_1 ?_
  refine V.iadd (pc := 300) dL_law_300 ?_
  refine V.sldX (i := i) (j := 1) (pc := 301) dL_law_301 (sx_1 i) (by omega) hL ?_
  refine V.aload_n (pc := 302) dL_law_302 rfl ?_
  refine V.iload_n (pc := 303) dL_law_303 rfl ?_
  refine V.iconst (pc := 304) dL_law_304 ic_2 ?_
  refine V.iadd (pc := 305) dL_law_305 ?_
  refine V.sldX (i := i) (j := 2) (pc := 306) dL_law_306 (sx_2 i) (by omega) hL ?_
  refine V.aload_n (pc := 307) dL_law_307 rfl ?_
  refine V.iload_n (pc := 308) dL_law_308 rfl ?_
  refine V.iconst (pc := 309) dL_law_309 ic_3 ?_
  refine V.iadd (pc := 310) dL_law_310 ?_
  refine V.sldX (i := i) (j := 3) (pc := 311) dL_law_311 (sx_3 i) (by omega) hL ?_
  refine V.aload_n (pc := 312) dL_law_312 rfl ?_
  refine V.iload_n (pc := 313) dL_law_313 rfl ?_
  refine V.iconst (pc := 314) dL_law_314 ic_4 ?_
  refine V.iadd (pc := 315) dL_law_315 ?_
  refine V.sldX (i := i) (j := 4) (pc := 316) dL_law_316 (sx_4 i) (by omega) hL ?_
  refine V.aload_n (pc := 317) dL_law_317 rfl ?_
  refine V.iload_n (pc := 318) dL_law_318 rfl ?_
  refine V.iconst (pc := 319) dL_law_319 ic_5 ?_
  refine V.iadd (pc := 320) dL_law_320 ?_
  refine V.sldX (i := i) (j := 5) (pc := 321) dL_law_321 (sx_5 i) (by omega) hL ?_
  refine V.callV (pc := 322) (As := [.int (xs (i + 1)), .int (xs (i + 2)), .int (xs (i + 3)), .int (xs (i + 4)), .int (xs (i + 5))]) (st := []) dL_law_322 l_RL_13 (ok_X11_feed (d := 90) (by omega) (xs (i + 1)) (xs (i + 2)) (xs (i + 3)) (xs (i + 4)) (xs (i + 5)) h1) lx_0 ly_0 cn_11 (rmL (Nat.le_of_ble_eq_true rfl)) rfl rfl (Nat.le_of_ble_eq_true rfl) (Nat.le_of_ble_eq_true rfl) ?_
  refine V.aload_n (pc := 325) dL_law_325 rfl ?_
  refine V.aload_n (pc := 326) dL_law_326 rfl ?_
  refine V.iload_n (pc := 327) dL_law_327 rfl ?_
  refine V.iconst (pc := 328) dL_law_328 ic_1 ?_
  refine V.iadd (pc := 329) dL_law_329 ?_
  refine V.sldX (i := i) (j := 1) (pc := 330) dL_law_330 (sx_1 i) (by omega) hL ?_
  refine V.aload_n (pc := 331) dL_law_331 rfl ?_
  refine V.iload_n (pc := 332) dL_law_332 rfl ?_
  refine V.iconst (pc := 333) dL_law_333 ic_2 ?_
  refine V.iadd (pc := 334) dL_law_334 ?_
  refine V.sldX (i := i) (j := 2) (pc := 335) dL_law_335 (sx_2 i) (by omega) hL ?_
  refine V.aload_n (pc := 336) dL_law_336 rfl ?_
  refine V.iload_n (pc := 337) dL_law_337 rfl ?_
  refine V.iconst (pc := 338) dL_law_338 ic_3 ?_
  refine V.iadd (pc := 339) dL_law_339 ?_
  refine V.sldX (i := i) (j := 3) (pc := 340) dL_law_340 (sx_3 i) (by omega) hL ?_
  refine V.aload_n (pc := 341) dL_law_341 rfl ?_
  refine V.iload_n (pc := 342) dL_law_342 rfl ?_
  refine V.iconst (pc := 343) dL_law_343 ic_4 ?_
  refine V.iadd (pc := 344) dL_law_344 ?_
  refine V.sldX (i := i) (j := 4) (pc := 345) dL_law_345 (sx_4 i) (by omega) hL ?_
  refine V.aload_n (pc := 346) dL_law_346 rfl ?_
  refine V.iload_n (pc := 347) dL_law_347 rfl ?_
  refine V.iconst (pc := 348) dL_law_348 ic_5 ?_
  refine V.iadd (pc := 349) dL_law_349 ?_
  refine V.sldX (i := i) (j := 5) (pc := 350) dL_law_350 (sx_5 i) (by omega) hL ?_
  refine V.callV (pc := 351) (As := [.int (xs (i + 1)), .int (xs (i + 2)), .int (xs (i + 3)), .int (xs (i + 4)), .int (xs (i + 5))]) (st := [.int r]) dL_law_351 l_RL_17 (ok_X12_feed (d := 90) (by omega) (xs (i + 1)) (xs (i + 2)) (xs (i + 3)) (xs (i + 4)) (xs (i + 5)) h2) lx_44 ly_44 cn_12 (rmL (Nat.le_of_ble_eq_true rfl)) rfl rfl (Nat.le_of_ble_eq_true rfl) (Nat.le_of_ble_eq_true rfl) ?_
  refine V.icmp_eq_t (t := 1998) (pc := 354) dL_law_354 (by decide) rfl ?_
  refine V.iinc (lv' := [some (.ref 3000), some (.ref 0), some (.ref 44), some (.int (nI (i + 6)))]) (pc := 1998) dL_law_1998 (Nat.le_of_ble_eq_true rfl) rfl rfl (v := nI (i + 6)) (by rw [show Int32.ofInt 6 = 6 from by decide]; exact sx_6 i) rfl ?_
  refine V.goto (t := 18) (pc := 2001) dL_law_2001 (by decide) ?_
  exact kk
/-- back -/
def stp_1 (a1 a2 a3 a4 a5 : Int32) (w w' : Wd) : Prop := ∃ (r : Int32) (w1 w2 : Wd), f_X11_back a1 w = some (r, w1) ∧ f_X12_back a1 w1 = some (r, w2) ∧ w' = w2
set_option maxHeartbeats 4000000 in
set_option maxRecDepth 100000 in
theorem law_1 {G : GT} {b L : Nat} {xs : Nat → Int32} (hL : L ≤ 3072) {i : Nat} (hi : i + 6 ≤ L) {w w' : Wd} {Z : VZ} (h : stp_1 (xs (i + 1)) (xs (i + 2)) (xs (i + 3)) (xs (i + 4)) (xs (i + 5)) w w') (kk : V (vfL G b L xs) 70 141295 70 r0 18 [some (.ref 3000), some (.ref 0), some (.ref 44), some (.int (nI (i + 6)))] [] w' Z) : V (vfL G b L xs) 70 141295 70 r0 359 [some (.ref 3000), some (.ref 0), some (.ref 44), some (.int (nI i))] [] w Z := by
  obtain ⟨r, w1, w2, h1, h2, rfl⟩ := h
  refine V.aload_n (pc := 359) dL_law_359 rfl ?_
  refine V.aload_n (pc := 360) dL_law_360 rfl ?_
  refine V.iload_n (pc := 361) dL_law_361 rfl ?_
  refine V.iconst (pc := 362) dL_law_362 ic_1 ?_
  refine V.iadd (pc := 363) dL_law_363 ?_
  refine V.sldX (i := i) (j := 1) (pc := 364) dL_law_364 (sx_1 i) (by omega) hL ?_
  refine V.callV (pc := 365) (As := [.int (xs (i + 1))]) (st := []) dL_law_365 l_RL_18 (ok_X11_back (d := 90) (by omega) (xs (i + 1)) h1) lx_0 ly_0 cn_11 (rmL (Nat.le_of_ble_eq_true rfl)) rfl rfl (Nat.le_of_ble_eq_true rfl) (Nat.le_of_ble_eq_true rfl) ?_
  refine V.aload_n (pc := 368) dL_law_368 rfl ?_
  refine V.aload_n (pc := 369) dL_law_369 rfl ?_
  refine V.iload_n (pc := 370) dL_law_370 rfl ?_
  refine V.iconst (pc := 371) dL_law_371 ic_1 ?_
  refine V.iadd (pc := 372) dL_law_372 ?_
  refine V.sldX (i := i) (j := 1) (pc := 373) dL_law_373 (sx_1 i) (by omega) hL ?_
  refine V.callV (pc := 374) (As := [.int (xs (i + 1))]) (st := [.int r]) dL_law_374 l_RL_22 (ok_X12_back (d := 90) (by omega) (xs (i + 1)) h2) lx_44 ly_44 cn_12 (rmL (Nat.le_of_ble_eq_true rfl)) rfl rfl (Nat.le_of_ble_eq_true rfl) (Nat.le_of_ble_eq_true rfl) ?_
  refine V.icmp_eq_t (t := 1998) (pc := 377) dL_law_377 (by decide) rfl ?_
  refine V.iinc (lv' := [some (.ref 3000), some (.ref 0), some (.ref 44), some (.int (nI (i + 6)))]) (pc := 1998) dL_law_1998 (Nat.le_of_ble_eq_true rfl) rfl rfl (v := nI (i + 6)) (by rw [show Int32.ofInt 6 = 6 from by decide]; exact sx_6 i) rfl ?_
  refine V.goto (t := 18) (pc := 2001) dL_law_2001 (by decide) ?_
  exact kk
/-- text -/
def stp_2 (a1 a2 a3 a4 a5 : Int32) (w w' : Wd) : Prop := ∃ (r : Int32) (w1 w2 : Wd), f_X11_text w = some (r, w1) ∧ f_X12_text w1 = some (r, w2) ∧ w' = w2
set_option maxHeartbeats 4000000 in
set_option maxRecDepth 100000 in
theorem law_2 {G : GT} {b L : Nat} {xs : Nat → Int32} (hL : L ≤ 3072) {i : Nat} (hi : i + 6 ≤ L) {w w' : Wd} {Z : VZ} (h : stp_2 (xs (i + 1)) (xs (i + 2)) (xs (i + 3)) (xs (i + 4)) (xs (i + 5)) w w') (kk : V (vfL G b L xs) 70 141295 70 r0 18 [some (.ref 3000), some (.ref 0), some (.ref 44), some (.int (nI (i + 6)))] [] w' Z) : V (vfL G b L xs) 70 141295 70 r0 382 [some (.ref 3000), some (.ref 0), some (.ref 44), some (.int (nI i))] [] w Z := by
  obtain ⟨r, w1, w2, h1, h2, rfl⟩ := h
  refine V.aload_n (pc := 382) dL_law_382 rfl ?_
  refine V.callV (pc := 383) (As := []) (st := []) dL_law_383 l_RL_23 (ok_X11_text (d := 90) (by omega)  h1) lx_0 ly_0 cn_11 (rmL (Nat.le_of_ble_eq_true rfl)) rfl rfl (Nat.le_of_ble_eq_true rfl) (Nat.le_of_ble_eq_true rfl) ?_
  refine V.aload_n (pc := 386) dL_law_386 rfl ?_
  refine V.callV (pc := 387) (As := []) (st := [.int r]) dL_law_387 l_RL_27 (ok_X12_text (d := 90) (by omega)  h2) lx_44 ly_44 cn_12 (rmL (Nat.le_of_ble_eq_true rfl)) rfl rfl (Nat.le_of_ble_eq_true rfl) (Nat.le_of_ble_eq_true rfl) ?_
  refine V.icmp_eq_t (t := 1998) (pc := 390) dL_law_390 (by decide) rfl ?_
  refine V.iinc (lv' := [some (.ref 3000), some (.ref 0), some (.ref 44), some (.int (nI (i + 6)))]) (pc := 1998) dL_law_1998 (Nat.le_of_ble_eq_true rfl) rfl rfl (v := nI (i + 6)) (by rw [show Int32.ofInt 6 = 6 from by decide]; exact sx_6 i) rfl ?_
  refine V.goto (t := 18) (pc := 2001) dL_law_2001 (by decide) ?_
  exact kk
/-- put -/
def stp_3 (a1 a2 a3 a4 a5 : Int32) (w w' : Wd) : Prop := ∃ (r : Int32) (w1 w2 : Wd), f_X11_put a1 (bz a2) w = some (r, w1) ∧ f_X12_put a1 (bz a2) w1 = some (r, w2) ∧ w' = w2
set_option maxHeartbeats 4000000 in
set_option maxRecDepth 100000 in
theorem law_3 {G : GT} {b L : Nat} {xs : Nat → Int32} (hL : L ≤ 3072) {i : Nat} (hi : i + 6 ≤ L) {w w' : Wd} {Z : VZ} (h : stp_3 (xs (i + 1)) (xs (i + 2)) (xs (i + 3)) (xs (i + 4)) (xs (i + 5)) w w') (kk : V (vfL G b L xs) 70 141295 70 r0 18 [some (.ref 3000), some (.ref 0), some (.ref 44), some (.int (nI (i + 6)))] [] w' Z) : V (vfL G b L xs) 70 141295 70 r0 395 [some (.ref 3000), some (.ref 0), some (.ref 44), some (.int (nI i))] [] w Z := by
  obtain ⟨r, w1, w2, h1, h2, rfl⟩ := h
  refine V.aload_n (pc := 395) dL_law_395 rfl ?_
  refine V.aload_n (pc := 396) dL_law_396 rfl ?_
  refine V.iload_n (pc := 397) dL_law_397 rfl ?_
  refine V.iconst (pc := 398) dL_law_398 ic_1 ?_
  refine V.iadd (pc := 399) dL_law_399 ?_
  refine V.sldX (i := i) (j := 1) (pc := 400) dL_law_400 (sx_1 i) (by omega) hL ?_
  refine V.aload_n (pc := 401) dL_law_401 rfl ?_
  refine V.iload_n (pc := 402) dL_law_402 rfl ?_
  refine V.iconst (pc := 403) dL_law_403 ic_2 ?_
  refine V.iadd (pc := 404) dL_law_404 ?_
  refine V.sldX (i := i) (j := 2) (pc := 405) dL_law_405 (sx_2 i) (by omega) hL ?_
  by_cases cxsi2 : (xs (i + 2)) = 0
  · have e : bz (xs (i + 2)) = 0 := if_pos cxsi2
    rw [e] at h1 h2
    refine V.if_eq_t (t := 413) (pc := 406) dL_law_406 (by decide) cxsi2 ?_
    refine V.iconst (pc := 413) dL_law_413 ic_0 ?_
    refine V.callV (pc := 414) (As := [.int (xs (i + 1)), .int 0]) (st := []) dL_law_414 l_RL_28 (ok_X11_put (d := 90) (by omega) (xs (i + 1)) 0 h1) lx_0 ly_0 cn_11 (rmL (Nat.le_of_ble_eq_true rfl)) rfl rfl (Nat.le_of_ble_eq_true rfl) (Nat.le_of_ble_eq_true rfl) ?_
    refine V.aload_n (pc := 417) dL_law_417 rfl ?_
    refine V.aload_n (pc := 418) dL_law_418 rfl ?_
    refine V.iload_n (pc := 419) dL_law_419 rfl ?_
    refine V.iconst (pc := 420) dL_law_420 ic_1 ?_
    refine V.iadd (pc := 421) dL_law_421 ?_
    refine V.sldX (i := i) (j := 1) (pc := 422) dL_law_422 (sx_1 i) (by omega) hL ?_
    refine V.aload_n (pc := 423) dL_law_423 rfl ?_
    refine V.iload_n (pc := 424) dL_law_424 rfl ?_
    refine V.iconst (pc := 425) dL_law_425 ic_2 ?_
    refine V.iadd (pc := 426) dL_law_426 ?_
    refine V.sldX (i := i) (j := 2) (pc := 427) dL_law_427 (sx_2 i) (by omega) hL ?_
    refine V.if_eq_t (t := 435) (pc := 428) dL_law_428 (by decide) cxsi2 ?_
    refine V.iconst (pc := 435) dL_law_435 ic_0 ?_
    refine V.callV (pc := 436) (As := [.int (xs (i + 1)), .int 0]) (st := [.int r]) dL_law_436 l_RL_32 (ok_X12_put (d := 90) (by omega) (xs (i + 1)) 0 h2) lx_44 ly_44 cn_12 (rmL (Nat.le_of_ble_eq_true rfl)) rfl rfl (Nat.le_of_ble_eq_true rfl) (Nat.le_of_ble_eq_true rfl) ?_
    refine V.icmp_eq_t (t := 1998) (pc := 439) dL_law_439 (by decide) rfl ?_
    refine V.iinc (lv' := [some (.ref 3000), some (.ref 0), some (.ref 44), some (.int (nI (i + 6)))]) (pc := 1998) dL_law_1998 (Nat.le_of_ble_eq_true rfl) rfl rfl (v := nI (i + 6)) (by rw [show Int32.ofInt 6 = 6 from by decide]; exact sx_6 i) rfl ?_
    refine V.goto (t := 18) (pc := 2001) dL_law_2001 (by decide) ?_
    exact kk
  · have e : bz (xs (i + 2)) = 1 := if_neg cxsi2
    rw [e] at h1 h2
    refine V.if_eq_f (t := 413) (pc := 406) dL_law_406 (by decide) cxsi2 ?_
    refine V.iconst (pc := 409) dL_law_409 ic_1 ?_
    refine V.goto (t := 414) (pc := 410) dL_law_410 (by decide) ?_
    refine V.callV (pc := 414) (As := [.int (xs (i + 1)), .int 1]) (st := []) dL_law_414 l_RL_28 (ok_X11_put (d := 90) (by omega) (xs (i + 1)) 1 h1) lx_0 ly_0 cn_11 (rmL (Nat.le_of_ble_eq_true rfl)) rfl rfl (Nat.le_of_ble_eq_true rfl) (Nat.le_of_ble_eq_true rfl) ?_
    refine V.aload_n (pc := 417) dL_law_417 rfl ?_
    refine V.aload_n (pc := 418) dL_law_418 rfl ?_
    refine V.iload_n (pc := 419) dL_law_419 rfl ?_
    refine V.iconst (pc := 420) dL_law_420 ic_1 ?_
    refine V.iadd (pc := 421) dL_law_421 ?_
    refine V.sldX (i := i) (j := 1) (pc := 422) dL_law_422 (sx_1 i) (by omega) hL ?_
    refine V.aload_n (pc := 423) dL_law_423 rfl ?_
    refine V.iload_n (pc := 424) dL_law_424 rfl ?_
    refine V.iconst (pc := 425) dL_law_425 ic_2 ?_
    refine V.iadd (pc := 426) dL_law_426 ?_
    refine V.sldX (i := i) (j := 2) (pc := 427) dL_law_427 (sx_2 i) (by omega) hL ?_
    refine V.if_eq_f (t := 435) (pc := 428) dL_law_428 (by decide) cxsi2 ?_
    refine V.iconst (pc := 431) dL_law_431 ic_1 ?_
    refine V.goto (t := 436) (pc := 432) dL_law_432 (by decide) ?_
    refine V.callV (pc := 436) (As := [.int (xs (i + 1)), .int 1]) (st := [.int r]) dL_law_436 l_RL_32 (ok_X12_put (d := 90) (by omega) (xs (i + 1)) 1 h2) lx_44 ly_44 cn_12 (rmL (Nat.le_of_ble_eq_true rfl)) rfl rfl (Nat.le_of_ble_eq_true rfl) (Nat.le_of_ble_eq_true rfl) ?_
    refine V.icmp_eq_t (t := 1998) (pc := 439) dL_law_439 (by decide) rfl ?_
    refine V.iinc (lv' := [some (.ref 3000), some (.ref 0), some (.ref 44), some (.int (nI (i + 6)))]) (pc := 1998) dL_law_1998 (Nat.le_of_ble_eq_true rfl) rfl rfl (v := nI (i + 6)) (by rw [show Int32.ofInt 6 = 6 from by decide]; exact sx_6 i) rfl ?_
    refine V.goto (t := 18) (pc := 2001) dL_law_2001 (by decide) ?_
    exact kk
/-- become -/
def stp_4 (a1 a2 a3 a4 a5 : Int32) (w w' : Wd) : Prop := ∃ (r : Int32) (w1 w2 : Wd), f_X11_become a1 w = some (r, w1) ∧ f_X12_become a1 w1 = some (r, w2) ∧ w' = w2
set_option maxHeartbeats 4000000 in
set_option maxRecDepth 100000 in
theorem law_4 {G : GT} {b L : Nat} {xs : Nat → Int32} (hL : L ≤ 3072) {i : Nat} (hi : i + 6 ≤ L) {w w' : Wd} {Z : VZ} (h : stp_4 (xs (i + 1)) (xs (i + 2)) (xs (i + 3)) (xs (i + 4)) (xs (i + 5)) w w') (kk : V (vfL G b L xs) 70 141295 70 r0 18 [some (.ref 3000), some (.ref 0), some (.ref 44), some (.int (nI (i + 6)))] [] w' Z) : V (vfL G b L xs) 70 141295 70 r0 444 [some (.ref 3000), some (.ref 0), some (.ref 44), some (.int (nI i))] [] w Z := by
  obtain ⟨r, w1, w2, h1, h2, rfl⟩ := h
  refine V.aload_n (pc := 444) dL_law_444 rfl ?_
  refine V.aload_n (pc := 445) dL_law_445 rfl ?_
  refine V.iload_n (pc := 446) dL_law_446 rfl ?_
  refine V.iconst (pc := 447) dL_law_447 ic_1 ?_
  refine V.iadd (pc := 448) dL_law_448 ?_
  refine V.sldX (i := i) (j := 1) (pc := 449) dL_law_449 (sx_1 i) (by omega) hL ?_
  refine V.callV (pc := 450) (As := [.int (xs (i + 1))]) (st := []) dL_law_450 l_RL_33 (ok_X11_become (d := 90) (by omega) (xs (i + 1)) h1) lx_0 ly_0 cn_11 (rmL (Nat.le_of_ble_eq_true rfl)) rfl rfl (Nat.le_of_ble_eq_true rfl) (Nat.le_of_ble_eq_true rfl) ?_
  refine V.aload_n (pc := 453) dL_law_453 rfl ?_
  refine V.aload_n (pc := 454) dL_law_454 rfl ?_
  refine V.iload_n (pc := 455) dL_law_455 rfl ?_
  refine V.iconst (pc := 456) dL_law_456 ic_1 ?_
  refine V.iadd (pc := 457) dL_law_457 ?_
  refine V.sldX (i := i) (j := 1) (pc := 458) dL_law_458 (sx_1 i) (by omega) hL ?_
  refine V.callV (pc := 459) (As := [.int (xs (i + 1))]) (st := [.int r]) dL_law_459 l_RL_36 (ok_X12_become (d := 90) (by omega) (xs (i + 1)) h2) lx_44 ly_44 cn_12 (rmL (Nat.le_of_ble_eq_true rfl)) rfl rfl (Nat.le_of_ble_eq_true rfl) (Nat.le_of_ble_eq_true rfl) ?_
  refine V.icmp_eq_t (t := 1998) (pc := 462) dL_law_462 (by decide) rfl ?_
  refine V.iinc (lv' := [some (.ref 3000), some (.ref 0), some (.ref 44), some (.int (nI (i + 6)))]) (pc := 1998) dL_law_1998 (Nat.le_of_ble_eq_true rfl) rfl rfl (v := nI (i + 6)) (by rw [show Int32.ofInt 6 = 6 from by decide]; exact sx_6 i) rfl ?_
  refine V.goto (t := 18) (pc := 2001) dL_law_2001 (by decide) ?_
  exact kk
/-- fill -/
def stp_5 (a1 a2 a3 a4 a5 : Int32) (w w' : Wd) : Prop := ∃ (r : Int32) (w1 w2 : Wd), f_X11_fill w = some (r, w1) ∧ f_X12_fill w1 = some (r, w2) ∧ w' = w2
set_option maxHeartbeats 4000000 in
set_option maxRecDepth 100000 in
theorem law_5 {G : GT} {b L : Nat} {xs : Nat → Int32} (hL : L ≤ 3072) {i : Nat} (hi : i + 6 ≤ L) {w w' : Wd} {Z : VZ} (h : stp_5 (xs (i + 1)) (xs (i + 2)) (xs (i + 3)) (xs (i + 4)) (xs (i + 5)) w w') (kk : V (vfL G b L xs) 70 141295 70 r0 18 [some (.ref 3000), some (.ref 0), some (.ref 44), some (.int (nI (i + 6)))] [] w' Z) : V (vfL G b L xs) 70 141295 70 r0 467 [some (.ref 3000), some (.ref 0), some (.ref 44), some (.int (nI i))] [] w Z := by
  obtain ⟨r, w1, w2, h1, h2, rfl⟩ := h
  refine V.aload_n (pc := 467) dL_law_467 rfl ?_
  refine V.callV (pc := 468) (As := []) (st := []) dL_law_468 l_RL_37 (ok_X11_fill (d := 90) (by omega)  h1) lx_0 ly_0 cn_11 (rmL (Nat.le_of_ble_eq_true rfl)) rfl rfl (Nat.le_of_ble_eq_true rfl) (Nat.le_of_ble_eq_true rfl) ?_
  refine V.aload_n (pc := 471) dL_law_471 rfl ?_
  refine V.callV (pc := 472) (As := []) (st := [.int r]) dL_law_472 l_RL_40 (ok_X12_fill (d := 90) (by omega)  h2) lx_44 ly_44 cn_12 (rmL (Nat.le_of_ble_eq_true rfl)) rfl rfl (Nat.le_of_ble_eq_true rfl) (Nat.le_of_ble_eq_true rfl) ?_
  refine V.icmp_eq_t (t := 1998) (pc := 475) dL_law_475 (by decide) rfl ?_
  refine V.iinc (lv' := [some (.ref 3000), some (.ref 0), some (.ref 44), some (.int (nI (i + 6)))]) (pc := 1998) dL_law_1998 (Nat.le_of_ble_eq_true rfl) rfl rfl (v := nI (i + 6)) (by rw [show Int32.ofInt 6 = 6 from by decide]; exact sx_6 i) rfl ?_
  refine V.goto (t := 18) (pc := 2001) dL_law_2001 (by decide) ?_
  exact kk
/-- thin -/
def stp_6 (a1 a2 a3 a4 a5 : Int32) (w w' : Wd) : Prop := ∃ (r : Int32) (w1 w2 : Wd), f_X11_thin w = some (r, w1) ∧ f_X12_thin w1 = some (r, w2) ∧ w' = w2
set_option maxHeartbeats 4000000 in
set_option maxRecDepth 100000 in
theorem law_6 {G : GT} {b L : Nat} {xs : Nat → Int32} (hL : L ≤ 3072) {i : Nat} (hi : i + 6 ≤ L) {w w' : Wd} {Z : VZ} (h : stp_6 (xs (i + 1)) (xs (i + 2)) (xs (i + 3)) (xs (i + 4)) (xs (i + 5)) w w') (kk : V (vfL G b L xs) 70 141295 70 r0 18 [some (.ref 3000), some (.ref 0), some (.ref 44), some (.int (nI (i + 6)))] [] w' Z) : V (vfL G b L xs) 70 141295 70 r0 480 [some (.ref 3000), some (.ref 0), some (.ref 44), some (.int (nI i))] [] w Z := by
  obtain ⟨r, w1, w2, h1, h2, rfl⟩ := h
  refine V.aload_n (pc := 480) dL_law_480 rfl ?_
  refine V.callV (pc := 481) (As := []) (st := []) dL_law_481 l_RL_41 (ok_X11_thin (d := 90) (by omega)  h1) lx_0 ly_0 cn_11 (rmL (Nat.le_of_ble_eq_true rfl)) rfl rfl (Nat.le_of_ble_eq_true rfl) (Nat.le_of_ble_eq_true rfl) ?_
  refine V.aload_n (pc := 484) dL_law_484 rfl ?_
  refine V.callV (pc := 485) (As := []) (st := [.int r]) dL_law_485 l_RL_44 (ok_X12_thin (d := 90) (by omega)  h2) lx_44 ly_44 cn_12 (rmL (Nat.le_of_ble_eq_true rfl)) rfl rfl (Nat.le_of_ble_eq_true rfl) (Nat.le_of_ble_eq_true rfl) ?_
  refine V.icmp_eq_t (t := 1998) (pc := 488) dL_law_488 (by decide) rfl ?_
  refine V.iinc (lv' := [some (.ref 3000), some (.ref 0), some (.ref 44), some (.int (nI (i + 6)))]) (pc := 1998) dL_law_1998 (Nat.le_of_ble_eq_true rfl) rfl rfl (v := nI (i + 6)) (by rw [show Int32.ofInt 6 = 6 from by decide]; exact sx_6 i) rfl ?_
  refine V.goto (t := 18) (pc := 2001) dL_law_2001 (by decide) ?_
  exact kk
/-- shift -/
def stp_7 (a1 a2 a3 a4 a5 : Int32) (w w' : Wd) : Prop := ∃ (r : Int32) (w1 w2 : Wd), f_X11_shift a1 (bz a2) w = some (r, w1) ∧ f_X12_shift a1 (bz a2) w1 = some (r, w2) ∧ w' = w2
set_option maxHeartbeats 4000000 in
set_option maxRecDepth 100000 in
theorem law_7 {G : GT} {b L : Nat} {xs : Nat → Int32} (hL : L ≤ 3072) {i : Nat} (hi : i + 6 ≤ L) {w w' : Wd} {Z : VZ} (h : stp_7 (xs (i + 1)) (xs (i + 2)) (xs (i + 3)) (xs (i + 4)) (xs (i + 5)) w w') (kk : V (vfL G b L xs) 70 141295 70 r0 18 [some (.ref 3000), some (.ref 0), some (.ref 44), some (.int (nI (i + 6)))] [] w' Z) : V (vfL G b L xs) 70 141295 70 r0 493 [some (.ref 3000), some (.ref 0), some (.ref 44), some (.int (nI i))] [] w Z := by
  obtain ⟨r, w1, w2, h1, h2, rfl⟩ := h
  refine V.aload_n (pc := 493) dL_law_493 rfl ?_
  refine V.aload_n (pc := 494) dL_law_494 rfl ?_
  refine V.iload_n (pc := 495) dL_law_495 rfl ?_
  refine V.iconst (pc := 496) dL_law_496 ic_1 ?_
  refine V.iadd (pc := 497) dL_law_497 ?_
  refine V.sldX (i := i) (j := 1) (pc := 498) dL_law_498 (sx_1 i) (by omega) hL ?_
  refine V.aload_n (pc := 499) dL_law_499 rfl ?_
  refine V.iload_n (pc := 500) dL_law_500 rfl ?_
  refine V.iconst (pc := 501) dL_law_501 ic_2 ?_
  refine V.iadd (pc := 502) dL_law_502 ?_
  refine V.sldX (i := i) (j := 2) (pc := 503) dL_law_503 (sx_2 i) (by omega) hL ?_
  by_cases cxsi2 : (xs (i + 2)) = 0
  · have e : bz (xs (i + 2)) = 0 := if_pos cxsi2
    rw [e] at h1 h2
    refine V.if_eq_t (t := 511) (pc := 504) dL_law_504 (by decide) cxsi2 ?_
    refine V.iconst (pc := 511) dL_law_511 ic_0 ?_
    refine V.callV (pc := 512) (As := [.int (xs (i + 1)), .int 0]) (st := []) dL_law_512 l_RL_45 (ok_X11_shift (d := 90) (by omega) (xs (i + 1)) 0 h1) lx_0 ly_0 cn_11 (rmL (Nat.le_of_ble_eq_true rfl)) rfl rfl (Nat.le_of_ble_eq_true rfl) (Nat.le_of_ble_eq_true rfl) ?_
    refine V.aload_n (pc := 515) dL_law_515 rfl ?_
    refine V.aload_n (pc := 516) dL_law_516 rfl ?_
    refine V.iload_n (pc := 517) dL_law_517 rfl ?_
    refine V.iconst (pc := 518) dL_law_518 ic_1 ?_
    refine V.iadd (pc := 519) dL_law_519 ?_
    refine V.sldX (i := i) (j := 1) (pc := 520) dL_law_520 (sx_1 i) (by omega) hL ?_
    refine V.aload_n (pc := 521) dL_law_521 rfl ?_
    refine V.iload_n (pc := 522) dL_law_522 rfl ?_
    refine V.iconst (pc := 523) dL_law_523 ic_2 ?_
    refine V.iadd (pc := 524) dL_law_524 ?_
    refine V.sldX (i := i) (j := 2) (pc := 525) dL_law_525 (sx_2 i) (by omega) hL ?_
    refine V.if_eq_t (t := 533) (pc := 526) dL_law_526 (by decide) cxsi2 ?_
    refine V.iconst (pc := 533) dL_law_533 ic_0 ?_
    refine V.callV (pc := 534) (As := [.int (xs (i + 1)), .int 0]) (st := [.int r]) dL_law_534 l_RL_49 (ok_X12_shift (d := 90) (by omega) (xs (i + 1)) 0 h2) lx_44 ly_44 cn_12 (rmL (Nat.le_of_ble_eq_true rfl)) rfl rfl (Nat.le_of_ble_eq_true rfl) (Nat.le_of_ble_eq_true rfl) ?_
    refine V.icmp_eq_t (t := 1998) (pc := 537) dL_law_537 (by decide) rfl ?_
    refine V.iinc (lv' := [some (.ref 3000), some (.ref 0), some (.ref 44), some (.int (nI (i + 6)))]) (pc := 1998) dL_law_1998 (Nat.le_of_ble_eq_true rfl) rfl rfl (v := nI (i + 6)) (by rw [show Int32.ofInt 6 = 6 from by decide]; exact sx_6 i) rfl ?_
    refine V.goto (t := 18) (pc := 2001) dL_law_2001 (by decide) ?_
    exact kk
  · have e : bz (xs (i + 2)) = 1 := if_neg cxsi2
    rw [e] at h1 h2
    refine V.if_eq_f (t := 511) (pc := 504) dL_law_504 (by decide) cxsi2 ?_
    refine V.iconst (pc := 507) dL_law_507 ic_1 ?_
    refine V.goto (t := 512) (pc := 508) dL_law_508 (by decide) ?_
    refine V.callV (pc := 512) (As := [.int (xs (i + 1)), .int 1]) (st := []) dL_law_512 l_RL_45 (ok_X11_shift (d := 90) (by omega) (xs (i + 1)) 1 h1) lx_0 ly_0 cn_11 (rmL (Nat.le_of_ble_eq_true rfl)) rfl rfl (Nat.le_of_ble_eq_true rfl) (Nat.le_of_ble_eq_true rfl) ?_
    refine V.aload_n (pc := 515) dL_law_515 rfl ?_
    refine V.aload_n (pc := 516) dL_law_516 rfl ?_
    refine V.iload_n (pc := 517) dL_law_517 rfl ?_
    refine V.iconst (pc := 518) dL_law_518 ic_1 ?_
    refine V.iadd (pc := 519) dL_law_519 ?_
    refine V.sldX (i := i) (j := 1) (pc := 520) dL_law_520 (sx_1 i) (by omega) hL ?_
    refine V.aload_n (pc := 521) dL_law_521 rfl ?_
    refine V.iload_n (pc := 522) dL_law_522 rfl ?_
    refine V.iconst (pc := 523) dL_law_523 ic_2 ?_
    refine V.iadd (pc := 524) dL_law_524 ?_
    refine V.sldX (i := i) (j := 2) (pc := 525) dL_law_525 (sx_2 i) (by omega) hL ?_
    refine V.if_eq_f (t := 533) (pc := 526) dL_law_526 (by decide) cxsi2 ?_
    refine V.iconst (pc := 529) dL_law_529 ic_1 ?_
    refine V.goto (t := 534) (pc := 530) dL_law_530 (by decide) ?_
    refine V.callV (pc := 534) (As := [.int (xs (i + 1)), .int 1]) (st := [.int r]) dL_law_534 l_RL_49 (ok_X12_shift (d := 90) (by omega) (xs (i + 1)) 1 h2) lx_44 ly_44 cn_12 (rmL (Nat.le_of_ble_eq_true rfl)) rfl rfl (Nat.le_of_ble_eq_true rfl) (Nat.le_of_ble_eq_true rfl) ?_
    refine V.icmp_eq_t (t := 1998) (pc := 537) dL_law_537 (by decide) rfl ?_
    refine V.iinc (lv' := [some (.ref 3000), some (.ref 0), some (.ref 44), some (.int (nI (i + 6)))]) (pc := 1998) dL_law_1998 (Nat.le_of_ble_eq_true rfl) rfl rfl (v := nI (i + 6)) (by rw [show Int32.ofInt 6 = 6 from by decide]; exact sx_6 i) rfl ?_
    refine V.goto (t := 18) (pc := 2001) dL_law_2001 (by decide) ?_
    exact kk
/-- invert -/
def stp_8 (a1 a2 a3 a4 a5 : Int32) (w w' : Wd) : Prop := ∃ (r : Int32) (w1 w2 : Wd), f_X11_invert w = some (r, w1) ∧ f_X12_invert w1 = some (r, w2) ∧ w' = w2
set_option maxHeartbeats 4000000 in
set_option maxRecDepth 100000 in
theorem law_8 {G : GT} {b L : Nat} {xs : Nat → Int32} (hL : L ≤ 3072) {i : Nat} (hi : i + 6 ≤ L) {w w' : Wd} {Z : VZ} (h : stp_8 (xs (i + 1)) (xs (i + 2)) (xs (i + 3)) (xs (i + 4)) (xs (i + 5)) w w') (kk : V (vfL G b L xs) 70 141295 70 r0 18 [some (.ref 3000), some (.ref 0), some (.ref 44), some (.int (nI (i + 6)))] [] w' Z) : V (vfL G b L xs) 70 141295 70 r0 542 [some (.ref 3000), some (.ref 0), some (.ref 44), some (.int (nI i))] [] w Z := by
  obtain ⟨r, w1, w2, h1, h2, rfl⟩ := h
  refine V.aload_n (pc := 542) dL_law_542 rfl ?_
  refine V.callV (pc := 543) (As := []) (st := []) dL_law_543 l_RL_50 (ok_X11_invert (d := 90) (by omega)  h1) lx_0 ly_0 cn_11 (rmL (Nat.le_of_ble_eq_true rfl)) rfl rfl (Nat.le_of_ble_eq_true rfl) (Nat.le_of_ble_eq_true rfl) ?_
  refine V.aload_n (pc := 546) dL_law_546 rfl ?_
  refine V.callV (pc := 547) (As := []) (st := [.int r]) dL_law_547 l_RL_53 (ok_X12_invert (d := 90) (by omega)  h2) lx_44 ly_44 cn_12 (rmL (Nat.le_of_ble_eq_true rfl)) rfl rfl (Nat.le_of_ble_eq_true rfl) (Nat.le_of_ble_eq_true rfl) ?_
  refine V.icmp_eq_t (t := 1998) (pc := 550) dL_law_550 (by decide) rfl ?_
  refine V.iinc (lv' := [some (.ref 3000), some (.ref 0), some (.ref 44), some (.int (nI (i + 6)))]) (pc := 1998) dL_law_1998 (Nat.le_of_ble_eq_true rfl) rfl rfl (v := nI (i + 6)) (by rw [show Int32.ofInt 6 = 6 from by decide]; exact sx_6 i) rfl ?_
  refine V.goto (t := 18) (pc := 2001) dL_law_2001 (by decide) ?_
  exact kk
/-- turn -/
def stp_9 (a1 a2 a3 a4 a5 : Int32) (w w' : Wd) : Prop := ∃ (r : Int32) (w1 w2 : Wd), f_X11_turn a1 w = some (r, w1) ∧ f_X12_turn a1 w1 = some (r, w2) ∧ w' = w2
set_option maxHeartbeats 4000000 in
set_option maxRecDepth 100000 in
theorem law_9 {G : GT} {b L : Nat} {xs : Nat → Int32} (hL : L ≤ 3072) {i : Nat} (hi : i + 6 ≤ L) {w w' : Wd} {Z : VZ} (h : stp_9 (xs (i + 1)) (xs (i + 2)) (xs (i + 3)) (xs (i + 4)) (xs (i + 5)) w w') (kk : V (vfL G b L xs) 70 141295 70 r0 18 [some (.ref 3000), some (.ref 0), some (.ref 44), some (.int (nI (i + 6)))] [] w' Z) : V (vfL G b L xs) 70 141295 70 r0 555 [some (.ref 3000), some (.ref 0), some (.ref 44), some (.int (nI i))] [] w Z := by
  obtain ⟨r, w1, w2, h1, h2, rfl⟩ := h
  refine V.aload_n (pc := 555) dL_law_555 rfl ?_
  refine V.aload_n (pc := 556) dL_law_556 rfl ?_
  refine V.iload_n (pc := 557) dL_law_557 rfl ?_
  refine V.iconst (pc := 558) dL_law_558 ic_1 ?_
  refine V.iadd (pc := 559) dL_law_559 ?_
  refine V.sldX (i := i) (j := 1) (pc := 560) dL_law_560 (sx_1 i) (by omega) hL ?_
  refine V.callV (pc := 561) (As := [.int (xs (i + 1))]) (st := []) dL_law_561 l_RL_54 (ok_X11_turn (d := 90) (by omega) (xs (i + 1)) h1) lx_0 ly_0 cn_11 (rmL (Nat.le_of_ble_eq_true rfl)) rfl rfl (Nat.le_of_ble_eq_true rfl) (Nat.le_of_ble_eq_true rfl) ?_
  refine V.aload_n (pc := 564) dL_law_564 rfl ?_
  refine V.aload_n (pc := 565) dL_law_565 rfl ?_
  refine V.iload_n (pc := 566) dL_law_566 rfl ?_
  refine V.iconst (pc := 567) dL_law_567 ic_1 ?_
  refine V.iadd (pc := 568) dL_law_568 ?_
  refine V.sldX (i := i) (j := 1) (pc := 569) dL_law_569 (sx_1 i) (by omega) hL ?_
  refine V.callV (pc := 570) (As := [.int (xs (i + 1))]) (st := [.int r]) dL_law_570 l_RL_57 (ok_X12_turn (d := 90) (by omega) (xs (i + 1)) h2) lx_44 ly_44 cn_12 (rmL (Nat.le_of_ble_eq_true rfl)) rfl rfl (Nat.le_of_ble_eq_true rfl) (Nat.le_of_ble_eq_true rfl) ?_
  refine V.icmp_eq_t (t := 1998) (pc := 573) dL_law_573 (by decide) rfl ?_
  refine V.iinc (lv' := [some (.ref 3000), some (.ref 0), some (.ref 44), some (.int (nI (i + 6)))]) (pc := 1998) dL_law_1998 (Nat.le_of_ble_eq_true rfl) rfl rfl (v := nI (i + 6)) (by rw [show Int32.ofInt 6 = 6 from by decide]; exact sx_6 i) rfl ?_
  refine V.goto (t := 18) (pc := 2001) dL_law_2001 (by decide) ?_
  exact kk
/-- weigh -/
def stp_10 (a1 a2 a3 a4 a5 : Int32) (w w' : Wd) : Prop := ∃ (r : Int32) (w1 w2 : Wd), f_X11_weigh a1 a2 w = some (r, w1) ∧ f_X12_weigh a1 a2 w1 = some (r, w2) ∧ w' = w2
set_option maxHeartbeats 4000000 in
set_option maxRecDepth 100000 in
theorem law_10 {G : GT} {b L : Nat} {xs : Nat → Int32} (hL : L ≤ 3072) {i : Nat} (hi : i + 6 ≤ L) {w w' : Wd} {Z : VZ} (h : stp_10 (xs (i + 1)) (xs (i + 2)) (xs (i + 3)) (xs (i + 4)) (xs (i + 5)) w w') (kk : V (vfL G b L xs) 70 141295 70 r0 18 [some (.ref 3000), some (.ref 0), some (.ref 44), some (.int (nI (i + 6)))] [] w' Z) : V (vfL G b L xs) 70 141295 70 r0 578 [some (.ref 3000), some (.ref 0), some (.ref 44), some (.int (nI i))] [] w Z := by
  obtain ⟨r, w1, w2, h1, h2, rfl⟩ := h
  refine V.aload_n (pc := 578) dL_law_578 rfl ?_
  refine V.aload_n (pc := 579) dL_law_579 rfl ?_
  refine V.iload_n (pc := 580) dL_law_580 rfl ?_
  refine V.iconst (pc := 581) dL_law_581 ic_1 ?_
  refine V.iadd (pc := 582) dL_law_582 ?_
  refine V.sldX (i := i) (j := 1) (pc := 583) dL_law_583 (sx_1 i) (by omega) hL ?_
  refine V.aload_n (pc := 584) dL_law_584 rfl ?_
  refine V.iload_n (pc := 585) dL_law_585 rfl ?_
  refine V.iconst (pc := 586) dL_law_586 ic_2 ?_
  refine V.iadd (pc := 587) dL_law_587 ?_
  refine V.sldX (i := i) (j := 2) (pc := 588) dL_law_588 (sx_2 i) (by omega) hL ?_
  refine V.callV (pc := 589) (As := [.int (xs (i + 1)), .int (xs (i + 2))]) (st := []) dL_law_589 l_RL_58 (ok_X11_weigh (d := 90) (by omega) (xs (i + 1)) (xs (i + 2)) h1) lx_0 ly_0 cn_11 (rmL (Nat.le_of_ble_eq_true rfl)) rfl rfl (Nat.le_of_ble_eq_true rfl) (Nat.le_of_ble_eq_true rfl) ?_
  refine V.aload_n (pc := 592) dL_law_592 rfl ?_
  refine V.aload_n (pc := 593) dL_law_593 rfl ?_
  refine V.iload_n (pc := 594) dL_law_594 rfl ?_
  refine V.iconst (pc := 595) dL_law_595 ic_1 ?_
  refine V.iadd (pc := 596) dL_law_596 ?_
  refine V.sldX (i := i) (j := 1) (pc := 597) dL_law_597 (sx_1 i) (by omega) hL ?_
  refine V.aload_n (pc := 598) dL_law_598 rfl ?_
  refine V.iload_n (pc := 599) dL_law_599 rfl ?_
  refine V.iconst (pc := 600) dL_law_600 ic_2 ?_
  refine V.iadd (pc := 601) dL_law_601 ?_
  refine V.sldX (i := i) (j := 2) (pc := 602) dL_law_602 (sx_2 i) (by omega) hL ?_
  refine V.callV (pc := 603) (As := [.int (xs (i + 1)), .int (xs (i + 2))]) (st := [.int r]) dL_law_603 l_RL_62 (ok_X12_weigh (d := 90) (by omega) (xs (i + 1)) (xs (i + 2)) h2) lx_44 ly_44 cn_12 (rmL (Nat.le_of_ble_eq_true rfl)) rfl rfl (Nat.le_of_ble_eq_true rfl) (Nat.le_of_ble_eq_true rfl) ?_
  refine V.icmp_eq_t (t := 1998) (pc := 606) dL_law_606 (by decide) rfl ?_
  refine V.iinc (lv' := [some (.ref 3000), some (.ref 0), some (.ref 44), some (.int (nI (i + 6)))]) (pc := 1998) dL_law_1998 (Nat.le_of_ble_eq_true rfl) rfl rfl (v := nI (i + 6)) (by rw [show Int32.ofInt 6 = 6 from by decide]; exact sx_6 i) rfl ?_
  refine V.goto (t := 18) (pc := 2001) dL_law_2001 (by decide) ?_
  exact kk
/-- keep -/
def stp_11 (a1 a2 a3 a4 a5 : Int32) (w w' : Wd) : Prop := ∃ (r : Int32) (w1 w2 : Wd), f_X11_keep a1 w = some (r, w1) ∧ f_X12_keep a1 w1 = some (r, w2) ∧ w' = w2
set_option maxHeartbeats 4000000 in
set_option maxRecDepth 100000 in
theorem law_11 {G : GT} {b L : Nat} {xs : Nat → Int32} (hL : L ≤ 3072) {i : Nat} (hi : i + 6 ≤ L) {w w' : Wd} {Z : VZ} (h : stp_11 (xs (i + 1)) (xs (i + 2)) (xs (i + 3)) (xs (i + 4)) (xs (i + 5)) w w') (kk : V (vfL G b L xs) 70 141295 70 r0 18 [some (.ref 3000), some (.ref 0), some (.ref 44), some (.int (nI (i + 6)))] [] w' Z) : V (vfL G b L xs) 70 141295 70 r0 611 [some (.ref 3000), some (.ref 0), some (.ref 44), some (.int (nI i))] [] w Z := by
  obtain ⟨r, w1, w2, h1, h2, rfl⟩ := h
  refine V.aload_n (pc := 611) dL_law_611 rfl ?_
  refine V.aload_n (pc := 612) dL_law_612 rfl ?_
  refine V.iload_n (pc := 613) dL_law_613 rfl ?_
  refine V.iconst (pc := 614) dL_law_614 ic_1 ?_
  refine V.iadd (pc := 615) dL_law_615 ?_
  refine V.sldX (i := i) (j := 1) (pc := 616) dL_law_616 (sx_1 i) (by omega) hL ?_
  refine V.callV (pc := 617) (As := [.int (xs (i + 1))]) (st := []) dL_law_617 l_RL_63 (ok_X11_keep (d := 90) (by omega) (xs (i + 1)) h1) lx_0 ly_0 cn_11 (rmL (Nat.le_of_ble_eq_true rfl)) rfl rfl (Nat.le_of_ble_eq_true rfl) (Nat.le_of_ble_eq_true rfl) ?_
  refine V.aload_n (pc := 620) dL_law_620 rfl ?_
  refine V.aload_n (pc := 621) dL_law_621 rfl ?_
  refine V.iload_n (pc := 622) dL_law_622 rfl ?_
  refine V.iconst (pc := 623) dL_law_623 ic_1 ?_
  refine V.iadd (pc := 624) dL_law_624 ?_
  refine V.sldX (i := i) (j := 1) (pc := 625) dL_law_625 (sx_1 i) (by omega) hL ?_
  refine V.callV (pc := 626) (As := [.int (xs (i + 1))]) (st := [.int r]) dL_law_626 l_RL_66 (ok_X12_keep (d := 90) (by omega) (xs (i + 1)) h2) lx_44 ly_44 cn_12 (rmL (Nat.le_of_ble_eq_true rfl)) rfl rfl (Nat.le_of_ble_eq_true rfl) (Nat.le_of_ble_eq_true rfl) ?_
  refine V.icmp_eq_t (t := 1998) (pc := 629) dL_law_629 (by decide) rfl ?_
  refine V.iinc (lv' := [some (.ref 3000), some (.ref 0), some (.ref 44), some (.int (nI (i + 6)))]) (pc := 1998) dL_law_1998 (Nat.le_of_ble_eq_true rfl) rfl rfl (v := nI (i + 6)) (by rw [show Int32.ofInt 6 = 6 from by decide]; exact sx_6 i) rfl ?_
  refine V.goto (t := 18) (pc := 2001) dL_law_2001 (by decide) ?_
  exact kk
/-- take -/
def stp_12 (a1 a2 a3 a4 a5 : Int32) (w w' : Wd) : Prop := ∃ (r : Int32) (w1 w2 : Wd), f_X11_take a1 w = some (r, w1) ∧ f_X12_take a1 w1 = some (r, w2) ∧ w' = w2
set_option maxHeartbeats 4000000 in
set_option maxRecDepth 100000 in
theorem law_12 {G : GT} {b L : Nat} {xs : Nat → Int32} (hL : L ≤ 3072) {i : Nat} (hi : i + 6 ≤ L) {w w' : Wd} {Z : VZ} (h : stp_12 (xs (i + 1)) (xs (i + 2)) (xs (i + 3)) (xs (i + 4)) (xs (i + 5)) w w') (kk : V (vfL G b L xs) 70 141295 70 r0 18 [some (.ref 3000), some (.ref 0), some (.ref 44), some (.int (nI (i + 6)))] [] w' Z) : V (vfL G b L xs) 70 141295 70 r0 634 [some (.ref 3000), some (.ref 0), some (.ref 44), some (.int (nI i))] [] w Z := by
  obtain ⟨r, w1, w2, h1, h2, rfl⟩ := h
  refine V.aload_n (pc := 634) dL_law_634 rfl ?_
  refine V.aload_n (pc := 635) dL_law_635 rfl ?_
  refine V.iload_n (pc := 636) dL_law_636 rfl ?_
  refine V.iconst (pc := 637) dL_law_637 ic_1 ?_
  refine V.iadd (pc := 638) dL_law_638 ?_
  refine V.sldX (i := i) (j := 1) (pc := 639) dL_law_639 (sx_1 i) (by omega) hL ?_
  refine V.callV (pc := 640) (As := [.int (xs (i + 1))]) (st := []) dL_law_640 l_RL_67 (ok_X11_take (d := 90) (by omega) (xs (i + 1)) h1) lx_0 ly_0 cn_11 (rmL (Nat.le_of_ble_eq_true rfl)) rfl rfl (Nat.le_of_ble_eq_true rfl) (Nat.le_of_ble_eq_true rfl) ?_
  refine V.aload_n (pc := 643) dL_law_643 rfl ?_
  refine V.aload_n (pc := 644) dL_law_644 rfl ?_
  refine V.iload_n (pc := 645) dL_law_645 rfl ?_
  refine V.iconst (pc := 646) dL_law_646 ic_1 ?_
  refine V.iadd (pc := 647) dL_law_647 ?_
  refine V.sldX (i := i) (j := 1) (pc := 648) dL_law_648 (sx_1 i) (by omega) hL ?_
  refine V.callV (pc := 649) (As := [.int (xs (i + 1))]) (st := [.int r]) dL_law_649 l_RL_70 (ok_X12_take (d := 90) (by omega) (xs (i + 1)) h2) lx_44 ly_44 cn_12 (rmL (Nat.le_of_ble_eq_true rfl)) rfl rfl (Nat.le_of_ble_eq_true rfl) (Nat.le_of_ble_eq_true rfl) ?_
  refine V.icmp_eq_t (t := 1998) (pc := 652) dL_law_652 (by decide) rfl ?_
  refine V.iinc (lv' := [some (.ref 3000), some (.ref 0), some (.ref 44), some (.int (nI (i + 6)))]) (pc := 1998) dL_law_1998 (Nat.le_of_ble_eq_true rfl) rfl rfl (v := nI (i + 6)) (by rw [show Int32.ofInt 6 = 6 from by decide]; exact sx_6 i) rfl ?_
  refine V.goto (t := 18) (pc := 2001) dL_law_2001 (by decide) ?_
  exact kk
/-- undo -/
def stp_13 (a1 a2 a3 a4 a5 : Int32) (w w' : Wd) : Prop := ∃ (r : Int32) (w1 w2 : Wd), f_X11_undo w = some (r, w1) ∧ f_X12_undo w1 = some (r, w2) ∧ w' = w2
set_option maxHeartbeats 4000000 in
set_option maxRecDepth 100000 in
theorem law_13 {G : GT} {b L : Nat} {xs : Nat → Int32} (hL : L ≤ 3072) {i : Nat} (hi : i + 6 ≤ L) {w w' : Wd} {Z : VZ} (h : stp_13 (xs (i + 1)) (xs (i + 2)) (xs (i + 3)) (xs (i + 4)) (xs (i + 5)) w w') (kk : V (vfL G b L xs) 70 141295 70 r0 18 [some (.ref 3000), some (.ref 0), some (.ref 44), some (.int (nI (i + 6)))] [] w' Z) : V (vfL G b L xs) 70 141295 70 r0 657 [some (.ref 3000), some (.ref 0), some (.ref 44), some (.int (nI i))] [] w Z := by
  obtain ⟨r, w1, w2, h1, h2, rfl⟩ := h
  refine V.aload_n (pc := 657) dL_law_657 rfl ?_
  refine V.callV (pc := 658) (As := []) (st := []) dL_law_658 l_RL_71 (ok_X11_undo (d := 90) (by omega)  h1) lx_0 ly_0 cn_11 (rmL (Nat.le_of_ble_eq_true rfl)) rfl rfl (Nat.le_of_ble_eq_true rfl) (Nat.le_of_ble_eq_true rfl) ?_
  refine V.aload_n (pc := 661) dL_law_661 rfl ?_
  refine V.callV (pc := 662) (As := []) (st := [.int r]) dL_law_662 l_RL_74 (ok_X12_undo (d := 90) (by omega)  h2) lx_44 ly_44 cn_12 (rmL (Nat.le_of_ble_eq_true rfl)) rfl rfl (Nat.le_of_ble_eq_true rfl) (Nat.le_of_ble_eq_true rfl) ?_
  refine V.icmp_eq_t (t := 1998) (pc := 665) dL_law_665 (by decide) rfl ?_
  refine V.iinc (lv' := [some (.ref 3000), some (.ref 0), some (.ref 44), some (.int (nI (i + 6)))]) (pc := 1998) dL_law_1998 (Nat.le_of_ble_eq_true rfl) rfl rfl (v := nI (i + 6)) (by rw [show Int32.ofInt 6 = 6 from by decide]; exact sx_6 i) rfl ?_
  refine V.goto (t := 18) (pc := 2001) dL_law_2001 (by decide) ?_
  exact kk
/-- product -/
def stp_14 (a1 a2 a3 a4 a5 : Int32) (w w' : Wd) : Prop := ∃ (r : Int32), f_X11_product a1 a2 w = some r ∧ f_X12_product a1 a2 w = some r ∧ w' = w
set_option maxHeartbeats 4000000 in
set_option maxRecDepth 100000 in
theorem law_14 {G : GT} {b L : Nat} {xs : Nat → Int32} (hL : L ≤ 3072) {i : Nat} (hi : i + 6 ≤ L) {w w' : Wd} {Z : VZ} (h : stp_14 (xs (i + 1)) (xs (i + 2)) (xs (i + 3)) (xs (i + 4)) (xs (i + 5)) w w') (kk : V (vfL G b L xs) 70 141295 70 r0 18 [some (.ref 3000), some (.ref 0), some (.ref 44), some (.int (nI (i + 6)))] [] w' Z) : V (vfL G b L xs) 70 141295 70 r0 670 [some (.ref 3000), some (.ref 0), some (.ref 44), some (.int (nI i))] [] w Z := by
  obtain ⟨r, h1, h2, rfl⟩ := h
  refine V.aload_n (pc := 670) dL_law_670 rfl ?_
  refine V.aload_n (pc := 671) dL_law_671 rfl ?_
  refine V.iload_n (pc := 672) dL_law_672 rfl ?_
  refine V.iconst (pc := 673) dL_law_673 ic_1 ?_
  refine V.iadd (pc := 674) dL_law_674 ?_
  refine V.sldX (i := i) (j := 1) (pc := 675) dL_law_675 (sx_1 i) (by omega) hL ?_
  refine V.aload_n (pc := 676) dL_law_676 rfl ?_
  refine V.iload_n (pc := 677) dL_law_677 rfl ?_
  refine V.iconst (pc := 678) dL_law_678 ic_2 ?_
  refine V.iadd (pc := 679) dL_law_679 ?_
  refine V.sldX (i := i) (j := 2) (pc := 680) dL_law_680 (sx_2 i) (by omega) hL ?_
  refine V.callV (pc := 681) (As := [.int (xs (i + 1)), .int (xs (i + 2))]) (st := []) dL_law_681 l_RL_75 (ok_X11_product (d := 90) (by omega) (xs (i + 1)) (xs (i + 2)) h1) lx_0 ly_0 cn_11 (rmL (Nat.le_of_ble_eq_true rfl)) rfl rfl (Nat.le_of_ble_eq_true rfl) (Nat.le_of_ble_eq_true rfl) ?_
  refine V.aload_n (pc := 684) dL_law_684 rfl ?_
  refine V.aload_n (pc := 685) dL_law_685 rfl ?_
  refine V.iload_n (pc := 686) dL_law_686 rfl ?_
  refine V.iconst (pc := 687) dL_law_687 ic_1 ?_
  refine V.iadd (pc := 688) dL_law_688 ?_
  refine V.sldX (i := i) (j := 1) (pc := 689) dL_law_689 (sx_1 i) (by omega) hL ?_
  refine V.aload_n (pc := 690) dL_law_690 rfl ?_
  refine V.iload_n (pc := 691) dL_law_691 rfl ?_
  refine V.iconst (pc := 692) dL_law_692 ic_2 ?_
  refine V.iadd (pc := 693) dL_law_693 ?_
  refine V.sldX (i := i) (j := 2) (pc := 694) dL_law_694 (sx_2 i) (by omega) hL ?_
  refine V.callV (pc := 695) (As := [.int (xs (i + 1)), .int (xs (i + 2))]) (st := [.int r]) dL_law_695 l_RL_78 (ok_X12_product (d := 90) (by omega) (xs (i + 1)) (xs (i + 2)) h2) lx_44 ly_44 cn_12 (rmL (Nat.le_of_ble_eq_true rfl)) rfl rfl (Nat.le_of_ble_eq_true rfl) (Nat.le_of_ble_eq_true rfl) ?_
  refine V.icmp_eq_t (t := 1998) (pc := 698) dL_law_698 (by decide) rfl ?_
  refine V.iinc (lv' := [some (.ref 3000), some (.ref 0), some (.ref 44), some (.int (nI (i + 6)))]) (pc := 1998) dL_law_1998 (Nat.le_of_ble_eq_true rfl) rfl rfl (v := nI (i + 6)) (by rw [show Int32.ofInt 6 = 6 from by decide]; exact sx_6 i) rfl ?_
  refine V.goto (t := 18) (pc := 2001) dL_law_2001 (by decide) ?_
  exact kk
/-- inverse -/
def stp_15 (a1 a2 a3 a4 a5 : Int32) (w w' : Wd) : Prop := ∃ (r : Int32), f_X11_inverse a1 w = some r ∧ f_X12_inverse a1 w = some r ∧ w' = w
set_option maxHeartbeats 4000000 in
set_option maxRecDepth 100000 in
theorem law_15 {G : GT} {b L : Nat} {xs : Nat → Int32} (hL : L ≤ 3072) {i : Nat} (hi : i + 6 ≤ L) {w w' : Wd} {Z : VZ} (h : stp_15 (xs (i + 1)) (xs (i + 2)) (xs (i + 3)) (xs (i + 4)) (xs (i + 5)) w w') (kk : V (vfL G b L xs) 70 141295 70 r0 18 [some (.ref 3000), some (.ref 0), some (.ref 44), some (.int (nI (i + 6)))] [] w' Z) : V (vfL G b L xs) 70 141295 70 r0 703 [some (.ref 3000), some (.ref 0), some (.ref 44), some (.int (nI i))] [] w Z := by
  obtain ⟨r, h1, h2, rfl⟩ := h
  refine V.aload_n (pc := 703) dL_law_703 rfl ?_
  refine V.aload_n (pc := 704) dL_law_704 rfl ?_
  refine V.iload_n (pc := 705) dL_law_705 rfl ?_
  refine V.iconst (pc := 706) dL_law_706 ic_1 ?_
  refine V.iadd (pc := 707) dL_law_707 ?_
  refine V.sldX (i := i) (j := 1) (pc := 708) dL_law_708 (sx_1 i) (by omega) hL ?_
  refine V.callV (pc := 709) (As := [.int (xs (i + 1))]) (st := []) dL_law_709 l_RL_79 (ok_X11_inverse (d := 90) (by omega) (xs (i + 1)) h1) lx_0 ly_0 cn_11 (rmL (Nat.le_of_ble_eq_true rfl)) rfl rfl (Nat.le_of_ble_eq_true rfl) (Nat.le_of_ble_eq_true rfl) ?_
  refine V.aload_n (pc := 712) dL_law_712 rfl ?_
  refine V.aload_n (pc := 713) dL_law_713 rfl ?_
  refine V.iload_n (pc := 714) dL_law_714 rfl ?_
  refine V.iconst (pc := 715) dL_law_715 ic_1 ?_
  refine V.iadd (pc := 716) dL_law_716 ?_
  refine V.sldX (i := i) (j := 1) (pc := 717) dL_law_717 (sx_1 i) (by omega) hL ?_
  refine V.callV (pc := 718) (As := [.int (xs (i + 1))]) (st := [.int r]) dL_law_718 l_RL_82 (ok_X12_inverse (d := 90) (by omega) (xs (i + 1)) h2) lx_44 ly_44 cn_12 (rmL (Nat.le_of_ble_eq_true rfl)) rfl rfl (Nat.le_of_ble_eq_true rfl) (Nat.le_of_ble_eq_true rfl) ?_
  refine V.icmp_eq_t (t := 1998) (pc := 721) dL_law_721 (by decide) rfl ?_
  refine V.iinc (lv' := [some (.ref 3000), some (.ref 0), some (.ref 44), some (.int (nI (i + 6)))]) (pc := 1998) dL_law_1998 (Nat.le_of_ble_eq_true rfl) rfl rfl (v := nI (i + 6)) (by rw [show Int32.ofInt 6 = 6 from by decide]; exact sx_6 i) rfl ?_
  refine V.goto (t := 18) (pc := 2001) dL_law_2001 (by decide) ?_
  exact kk
/-- orderOf -/
def stp_16 (a1 a2 a3 a4 a5 : Int32) (w w' : Wd) : Prop := ∃ (r : Int32) (w1 : Wd), f_X11_orderOf a1 w = some (r, w1) ∧ f_X12_orderOf a1 w1 = some r ∧ w' = w1
set_option maxHeartbeats 4000000 in
set_option maxRecDepth 100000 in
theorem law_16 {G : GT} {b L : Nat} {xs : Nat → Int32} (hL : L ≤ 3072) {i : Nat} (hi : i + 6 ≤ L) {w w' : Wd} {Z : VZ} (h : stp_16 (xs (i + 1)) (xs (i + 2)) (xs (i + 3)) (xs (i + 4)) (xs (i + 5)) w w') (kk : V (vfL G b L xs) 70 141295 70 r0 18 [some (.ref 3000), some (.ref 0), some (.ref 44), some (.int (nI (i + 6)))] [] w' Z) : V (vfL G b L xs) 70 141295 70 r0 726 [some (.ref 3000), some (.ref 0), some (.ref 44), some (.int (nI i))] [] w Z := by
  obtain ⟨r, w1, h1, h2, rfl⟩ := h
  refine V.aload_n (pc := 726) dL_law_726 rfl ?_
  refine V.aload_n (pc := 727) dL_law_727 rfl ?_
  refine V.iload_n (pc := 728) dL_law_728 rfl ?_
  refine V.iconst (pc := 729) dL_law_729 ic_1 ?_
  refine V.iadd (pc := 730) dL_law_730 ?_
  refine V.sldX (i := i) (j := 1) (pc := 731) dL_law_731 (sx_1 i) (by omega) hL ?_
  refine V.callV (pc := 732) (As := [.int (xs (i + 1))]) (st := []) dL_law_732 l_RL_83 (ok_X11_orderOf (d := 90) (by omega) (xs (i + 1)) h1) lx_0 ly_0 cn_11 (rmL (Nat.le_of_ble_eq_true rfl)) rfl rfl (Nat.le_of_ble_eq_true rfl) (Nat.le_of_ble_eq_true rfl) ?_
  refine V.aload_n (pc := 735) dL_law_735 rfl ?_
  refine V.aload_n (pc := 736) dL_law_736 rfl ?_
  refine V.iload_n (pc := 737) dL_law_737 rfl ?_
  refine V.iconst (pc := 738) dL_law_738 ic_1 ?_
  refine V.iadd (pc := 739) dL_law_739 ?_
  refine V.sldX (i := i) (j := 1) (pc := 740) dL_law_740 (sx_1 i) (by omega) hL ?_
  refine V.callV (pc := 741) (As := [.int (xs (i + 1))]) (st := [.int r]) dL_law_741 l_RL_86 (ok_X12_orderOf (d := 90) (by omega) (xs (i + 1)) h2) lx_44 ly_44 cn_12 (rmL (Nat.le_of_ble_eq_true rfl)) rfl rfl (Nat.le_of_ble_eq_true rfl) (Nat.le_of_ble_eq_true rfl) ?_
  refine V.icmp_eq_t (t := 1998) (pc := 744) dL_law_744 (by decide) rfl ?_
  refine V.iinc (lv' := [some (.ref 3000), some (.ref 0), some (.ref 44), some (.int (nI (i + 6)))]) (pc := 1998) dL_law_1998 (Nat.le_of_ble_eq_true rfl) rfl rfl (v := nI (i + 6)) (by rw [show Int32.ofInt 6 = 6 from by decide]; exact sx_6 i) rfl ?_
  refine V.goto (t := 18) (pc := 2001) dL_law_2001 (by decide) ?_
  exact kk
/-- centre -/
def stp_17 (a1 a2 a3 a4 a5 : Int32) (w w' : Wd) : Prop := ∃ (r : Int32), f_X11_centre w = some r ∧ f_X12_centre w = some r ∧ w' = w
set_option maxHeartbeats 4000000 in
set_option maxRecDepth 100000 in
theorem law_17 {G : GT} {b L : Nat} {xs : Nat → Int32} (hL : L ≤ 3072) {i : Nat} (hi : i + 6 ≤ L) {w w' : Wd} {Z : VZ} (h : stp_17 (xs (i + 1)) (xs (i + 2)) (xs (i + 3)) (xs (i + 4)) (xs (i + 5)) w w') (kk : V (vfL G b L xs) 70 141295 70 r0 18 [some (.ref 3000), some (.ref 0), some (.ref 44), some (.int (nI (i + 6)))] [] w' Z) : V (vfL G b L xs) 70 141295 70 r0 749 [some (.ref 3000), some (.ref 0), some (.ref 44), some (.int (nI i))] [] w Z := by
  obtain ⟨r, h1, h2, rfl⟩ := h
  refine V.aload_n (pc := 749) dL_law_749 rfl ?_
  refine V.callV (pc := 750) (As := []) (st := []) dL_law_750 l_RL_87 (ok_X11_centre (d := 90) (by omega)  h1) lx_0 ly_0 cn_11 (rmL (Nat.le_of_ble_eq_true rfl)) rfl rfl (Nat.le_of_ble_eq_true rfl) (Nat.le_of_ble_eq_true rfl) ?_
  refine V.aload_n (pc := 753) dL_law_753 rfl ?_
  refine V.callV (pc := 754) (As := []) (st := [.int r]) dL_law_754 l_RL_90 (ok_X12_centre (d := 90) (by omega)  h2) lx_44 ly_44 cn_12 (rmL (Nat.le_of_ble_eq_true rfl)) rfl rfl (Nat.le_of_ble_eq_true rfl) (Nat.le_of_ble_eq_true rfl) ?_
  refine V.icmp_eq_t (t := 1998) (pc := 757) dL_law_757 (by decide) rfl ?_
  refine V.iinc (lv' := [some (.ref 3000), some (.ref 0), some (.ref 44), some (.int (nI (i + 6)))]) (pc := 1998) dL_law_1998 (Nat.le_of_ble_eq_true rfl) rfl rfl (v := nI (i + 6)) (by rw [show Int32.ofInt 6 = 6 from by decide]; exact sx_6 i) rfl ?_
  refine V.goto (t := 18) (pc := 2001) dL_law_2001 (by decide) ?_
  exact kk
/-- span -/
def stp_18 (a1 a2 a3 a4 a5 : Int32) (w w' : Wd) : Prop := ∃ (r : Int32) (w1 : Wd), f_X11_span a1 w = some (r, w1) ∧ f_X12_span a1 w1 = some r ∧ w' = w1
set_option maxHeartbeats 4000000 in
set_option maxRecDepth 100000 in
theorem law_18 {G : GT} {b L : Nat} {xs : Nat → Int32} (hL : L ≤ 3072) {i : Nat} (hi : i + 6 ≤ L) {w w' : Wd} {Z : VZ} (h : stp_18 (xs (i + 1)) (xs (i + 2)) (xs (i + 3)) (xs (i + 4)) (xs (i + 5)) w w') (kk : V (vfL G b L xs) 70 141295 70 r0 18 [some (.ref 3000), some (.ref 0), some (.ref 44), some (.int (nI (i + 6)))] [] w' Z) : V (vfL G b L xs) 70 141295 70 r0 762 [some (.ref 3000), some (.ref 0), some (.ref 44), some (.int (nI i))] [] w Z := by
  obtain ⟨r, w1, h1, h2, rfl⟩ := h
  refine V.aload_n (pc := 762) dL_law_762 rfl ?_
  refine V.aload_n (pc := 763) dL_law_763 rfl ?_
  refine V.iload_n (pc := 764) dL_law_764 rfl ?_
  refine V.iconst (pc := 765) dL_law_765 ic_1 ?_
  refine V.iadd (pc := 766) dL_law_766 ?_
  refine V.sldX (i := i) (j := 1) (pc := 767) dL_law_767 (sx_1 i) (by omega) hL ?_
  refine V.callV (pc := 768) (As := [.int (xs (i + 1))]) (st := []) dL_law_768 l_RL_91 (ok_X11_span (d := 90) (by omega) (xs (i + 1)) h1) lx_0 ly_0 cn_11 (rmL (Nat.le_of_ble_eq_true rfl)) rfl rfl (Nat.le_of_ble_eq_true rfl) (Nat.le_of_ble_eq_true rfl) ?_
  refine V.aload_n (pc := 771) dL_law_771 rfl ?_
  refine V.aload_n (pc := 772) dL_law_772 rfl ?_
  refine V.iload_n (pc := 773) dL_law_773 rfl ?_
  refine V.iconst (pc := 774) dL_law_774 ic_1 ?_
  refine V.iadd (pc := 775) dL_law_775 ?_
  refine V.sldX (i := i) (j := 1) (pc := 776) dL_law_776 (sx_1 i) (by omega) hL ?_
  refine V.callV (pc := 777) (As := [.int (xs (i + 1))]) (st := [.int r]) dL_law_777 l_RL_94 (ok_X12_span (d := 90) (by omega) (xs (i + 1)) h2) lx_44 ly_44 cn_12 (rmL (Nat.le_of_ble_eq_true rfl)) rfl rfl (Nat.le_of_ble_eq_true rfl) (Nat.le_of_ble_eq_true rfl) ?_
  refine V.icmp_eq_t (t := 1998) (pc := 780) dL_law_780 (by decide) rfl ?_
  refine V.iinc (lv' := [some (.ref 3000), some (.ref 0), some (.ref 44), some (.int (nI (i + 6)))]) (pc := 1998) dL_law_1998 (Nat.le_of_ble_eq_true rfl) rfl rfl (v := nI (i + 6)) (by rw [show Int32.ofInt 6 = 6 from by decide]; exact sx_6 i) rfl ?_
  refine V.goto (t := 18) (pc := 2001) dL_law_2001 (by decide) ?_
  exact kk
/-- subgroups -/
def stp_19 (a1 a2 a3 a4 a5 : Int32) (w w' : Wd) : Prop := ∃ (r : Int32) (w1 : Wd), f_X11_subgroups w = some (r, w1) ∧ f_X12_subgroups w1 = some r ∧ w' = w1
set_option maxHeartbeats 4000000 in
set_option maxRecDepth 100000 in
theorem law_19 {G : GT} {b L : Nat} {xs : Nat → Int32} (hL : L ≤ 3072) {i : Nat} (hi : i + 6 ≤ L) {w w' : Wd} {Z : VZ} (h : stp_19 (xs (i + 1)) (xs (i + 2)) (xs (i + 3)) (xs (i + 4)) (xs (i + 5)) w w') (kk : V (vfL G b L xs) 70 141295 70 r0 18 [some (.ref 3000), some (.ref 0), some (.ref 44), some (.int (nI (i + 6)))] [] w' Z) : V (vfL G b L xs) 70 141295 70 r0 785 [some (.ref 3000), some (.ref 0), some (.ref 44), some (.int (nI i))] [] w Z := by
  obtain ⟨r, w1, h1, h2, rfl⟩ := h
  refine V.aload_n (pc := 785) dL_law_785 rfl ?_
  refine V.callV (pc := 786) (As := []) (st := []) dL_law_786 l_RL_95 (ok_X11_subgroups (d := 90) (by omega)  h1) lx_0 ly_0 cn_11 (rmL (Nat.le_of_ble_eq_true rfl)) rfl rfl (Nat.le_of_ble_eq_true rfl) (Nat.le_of_ble_eq_true rfl) ?_
  refine V.aload_n (pc := 789) dL_law_789 rfl ?_
  refine V.callV (pc := 790) (As := []) (st := [.int r]) dL_law_790 l_RL_98 (ok_X12_subgroups (d := 90) (by omega)  h2) lx_44 ly_44 cn_12 (rmL (Nat.le_of_ble_eq_true rfl)) rfl rfl (Nat.le_of_ble_eq_true rfl) (Nat.le_of_ble_eq_true rfl) ?_
  refine V.icmp_eq_t (t := 1998) (pc := 793) dL_law_793 (by decide) rfl ?_
  refine V.iinc (lv' := [some (.ref 3000), some (.ref 0), some (.ref 44), some (.int (nI (i + 6)))]) (pc := 1998) dL_law_1998 (Nat.le_of_ble_eq_true rfl) rfl rfl (v := nI (i + 6)) (by rw [show Int32.ofInt 6 = 6 from by decide]; exact sx_6 i) rfl ?_
  refine V.goto (t := 18) (pc := 2001) dL_law_2001 (by decide) ?_
  exact kk
/-- coset -/
def stp_20 (a1 a2 a3 a4 a5 : Int32) (w w' : Wd) : Prop := ∃ (r : Int32) (w1 : Wd), f_X11_coset a1 a2 (bz a3) w = some (r, w1) ∧ f_X12_coset a1 a2 (bz a3) w1 = some r ∧ w' = w1
set_option maxHeartbeats 4000000 in
set_option maxRecDepth 100000 in
theorem law_20 {G : GT} {b L : Nat} {xs : Nat → Int32} (hL : L ≤ 3072) {i : Nat} (hi : i + 6 ≤ L) {w w' : Wd} {Z : VZ} (h : stp_20 (xs (i + 1)) (xs (i + 2)) (xs (i + 3)) (xs (i + 4)) (xs (i + 5)) w w') (kk : V (vfL G b L xs) 70 141295 70 r0 18 [some (.ref 3000), some (.ref 0), some (.ref 44), some (.int (nI (i + 6)))] [] w' Z) : V (vfL G b L xs) 70 141295 70 r0 798 [some (.ref 3000), some (.ref 0), some (.ref 44), some (.int (nI i))] [] w Z := by
  obtain ⟨r, w1, h1, h2, rfl⟩ := h
  refine V.aload_n (pc := 798) dL_law_798 rfl ?_
  refine V.aload_n (pc := 799) dL_law_799 rfl ?_
  refine V.iload_n (pc := 800) dL_law_800 rfl ?_
  refine V.iconst (pc := 801) dL_law_801 ic_1 ?_
  refine V.iadd (pc := 802) dL_law_802 ?_
  refine V.sldX (i := i) (j := 1) (pc := 803) dL_law_803 (sx_1 i) (by omega) hL ?_
  refine V.aload_n (pc := 804) dL_law_804 rfl ?_
  refine V.iload_n (pc := 805) dL_law_805 rfl ?_
  refine V.iconst (pc := 806) dL_law_806 ic_2 ?_
  refine V.iadd (pc := 807) dL_law_807 ?_
  refine V.sldX (i := i) (j := 2) (pc := 808) dL_law_808 (sx_2 i) (by omega) hL ?_
  refine V.aload_n (pc := 809) dL_law_809 rfl ?_
  refine V.iload_n (pc := 810) dL_law_810 rfl ?_
  refine V.iconst (pc := 811) dL_law_811 ic_3 ?_
  refine V.iadd (pc := 812) dL_law_812 ?_
  refine V.sldX (i := i) (j := 3) (pc := 813) dL_law_813 (sx_3 i) (by omega) hL ?_
  by_cases cxsi3 : (xs (i + 3)) = 0
  · have e : bz (xs (i + 3)) = 0 := if_pos cxsi3
    rw [e] at h1 h2
    refine V.if_eq_t (t := 821) (pc := 814) dL_law_814 (by decide) cxsi3 ?_
    refine V.iconst (pc := 821) dL_law_821 ic_0 ?_
    refine V.callV (pc := 822) (As := [.int (xs (i + 1)), .int (xs (i + 2)), .int 0]) (st := []) dL_law_822 l_RL_99 (ok_X11_coset (d := 90) (by omega) (xs (i + 1)) (xs (i + 2)) 0 h1) lx_0 ly_0 cn_11 (rmL (Nat.le_of_ble_eq_true rfl)) rfl rfl (Nat.le_of_ble_eq_true rfl) (Nat.le_of_ble_eq_true rfl) ?_
    refine V.aload_n (pc := 825) dL_law_825 rfl ?_
    refine V.aload_n (pc := 826) dL_law_826 rfl ?_
    refine V.iload_n (pc := 827) dL_law_827 rfl ?_
    refine V.iconst (pc := 828) dL_law_828 ic_1 ?_
    refine V.iadd (pc := 829) dL_law_829 ?_
    refine V.sldX (i := i) (j := 1) (pc := 830) dL_law_830 (sx_1 i) (by omega) hL ?_
    refine V.aload_n (pc := 831) dL_law_831 rfl ?_
    refine V.iload_n (pc := 832) dL_law_832 rfl ?_
    refine V.iconst (pc := 833) dL_law_833 ic_2 ?_
    refine V.iadd (pc := 834) dL_law_834 ?_
    refine V.sldX (i := i) (j := 2) (pc := 835) dL_law_835 (sx_2 i) (by omega) hL ?_
    refine V.aload_n (pc := 836) dL_law_836 rfl ?_
    refine V.iload_n (pc := 837) dL_law_837 rfl ?_
    refine V.iconst (pc := 838) dL_law_838 ic_3 ?_
    refine V.iadd (pc := 839) dL_law_839 ?_
    refine V.sldX (i := i) (j := 3) (pc := 840) dL_law_840 (sx_3 i) (by omega) hL ?_
    refine V.if_eq_t (t := 848) (pc := 841) dL_law_841 (by decide) cxsi3 ?_
    refine V.iconst (pc := 848) dL_law_848 ic_0 ?_
    refine V.callV (pc := 849) (As := [.int (xs (i + 1)), .int (xs (i + 2)), .int 0]) (st := [.int r]) dL_law_849 l_RL_103 (ok_X12_coset (d := 90) (by omega) (xs (i + 1)) (xs (i + 2)) 0 h2) lx_44 ly_44 cn_12 (rmL (Nat.le_of_ble_eq_true rfl)) rfl rfl (Nat.le_of_ble_eq_true rfl) (Nat.le_of_ble_eq_true rfl) ?_
    refine V.icmp_eq_t (t := 1998) (pc := 852) dL_law_852 (by decide) rfl ?_
    refine V.iinc (lv' := [some (.ref 3000), some (.ref 0), some (.ref 44), some (.int (nI (i + 6)))]) (pc := 1998) dL_law_1998 (Nat.le_of_ble_eq_true rfl) rfl rfl (v := nI (i + 6)) (by rw [show Int32.ofInt 6 = 6 from by decide]; exact sx_6 i) rfl ?_
    refine V.goto (t := 18) (pc := 2001) dL_law_2001 (by decide) ?_
    exact kk
  · have e : bz (xs (i + 3)) = 1 := if_neg cxsi3
    rw [e] at h1 h2
    refine V.if_eq_f (t := 821) (pc := 814) dL_law_814 (by decide) cxsi3 ?_
    refine V.iconst (pc := 817) dL_law_817 ic_1 ?_
    refine V.goto (t := 822) (pc := 818) dL_law_818 (by decide) ?_
    refine V.callV (pc := 822) (As := [.int (xs (i + 1)), .int (xs (i + 2)), .int 1]) (st := []) dL_law_822 l_RL_99 (ok_X11_coset (d := 90) (by omega) (xs (i + 1)) (xs (i + 2)) 1 h1) lx_0 ly_0 cn_11 (rmL (Nat.le_of_ble_eq_true rfl)) rfl rfl (Nat.le_of_ble_eq_true rfl) (Nat.le_of_ble_eq_true rfl) ?_
    refine V.aload_n (pc := 825) dL_law_825 rfl ?_
    refine V.aload_n (pc := 826) dL_law_826 rfl ?_
    refine V.iload_n (pc := 827) dL_law_827 rfl ?_
    refine V.iconst (pc := 828) dL_law_828 ic_1 ?_
    refine V.iadd (pc := 829) dL_law_829 ?_
    refine V.sldX (i := i) (j := 1) (pc := 830) dL_law_830 (sx_1 i) (by omega) hL ?_
    refine V.aload_n (pc := 831) dL_law_831 rfl ?_
    refine V.iload_n (pc := 832) dL_law_832 rfl ?_
    refine V.iconst (pc := 833) dL_law_833 ic_2 ?_
    refine V.iadd (pc := 834) dL_law_834 ?_
    refine V.sldX (i := i) (j := 2) (pc := 835) dL_law_835 (sx_2 i) (by omega) hL ?_
    refine V.aload_n (pc := 836) dL_law_836 rfl ?_
    refine V.iload_n (pc := 837) dL_law_837 rfl ?_
    refine V.iconst (pc := 838) dL_law_838 ic_3 ?_
    refine V.iadd (pc := 839) dL_law_839 ?_
    refine V.sldX (i := i) (j := 3) (pc := 840) dL_law_840 (sx_3 i) (by omega) hL ?_
    refine V.if_eq_f (t := 848) (pc := 841) dL_law_841 (by decide) cxsi3 ?_
    refine V.iconst (pc := 844) dL_law_844 ic_1 ?_
    refine V.goto (t := 849) (pc := 845) dL_law_845 (by decide) ?_
    refine V.callV (pc := 849) (As := [.int (xs (i + 1)), .int (xs (i + 2)), .int 1]) (st := [.int r]) dL_law_849 l_RL_103 (ok_X12_coset (d := 90) (by omega) (xs (i + 1)) (xs (i + 2)) 1 h2) lx_44 ly_44 cn_12 (rmL (Nat.le_of_ble_eq_true rfl)) rfl rfl (Nat.le_of_ble_eq_true rfl) (Nat.le_of_ble_eq_true rfl) ?_
    refine V.icmp_eq_t (t := 1998) (pc := 852) dL_law_852 (by decide) rfl ?_
    refine V.iinc (lv' := [some (.ref 3000), some (.ref 0), some (.ref 44), some (.int (nI (i + 6)))]) (pc := 1998) dL_law_1998 (Nat.le_of_ble_eq_true rfl) rfl rfl (v := nI (i + 6)) (by rw [show Int32.ofInt 6 = 6 from by decide]; exact sx_6 i) rfl ?_
    refine V.goto (t := 18) (pc := 2001) dL_law_2001 (by decide) ?_
    exact kk
/-- generator -/
def stp_21 (a1 a2 a3 a4 a5 : Int32) (w w' : Wd) : Prop := ∃ (r : Int32), f_X11_generator a1 w = some r ∧ f_X12_generator a1 w = some r ∧ w' = w
set_option maxHeartbeats 4000000 in
set_option maxRecDepth 100000 in
theorem law_21 {G : GT} {b L : Nat} {xs : Nat → Int32} (hL : L ≤ 3072) {i : Nat} (hi : i + 6 ≤ L) {w w' : Wd} {Z : VZ} (h : stp_21 (xs (i + 1)) (xs (i + 2)) (xs (i + 3)) (xs (i + 4)) (xs (i + 5)) w w') (kk : V (vfL G b L xs) 70 141295 70 r0 18 [some (.ref 3000), some (.ref 0), some (.ref 44), some (.int (nI (i + 6)))] [] w' Z) : V (vfL G b L xs) 70 141295 70 r0 857 [some (.ref 3000), some (.ref 0), some (.ref 44), some (.int (nI i))] [] w Z := by
  obtain ⟨r, h1, h2, rfl⟩ := h
  refine V.aload_n (pc := 857) dL_law_857 rfl ?_
  refine V.aload_n (pc := 858) dL_law_858 rfl ?_
  refine V.iload_n (pc := 859) dL_law_859 rfl ?_
  refine V.iconst (pc := 860) dL_law_860 ic_1 ?_
  refine V.iadd (pc := 861) dL_law_861 ?_
  refine V.sldX (i := i) (j := 1) (pc := 862) dL_law_862 (sx_1 i) (by omega) hL ?_
  refine V.callV (pc := 863) (As := [.int (xs (i + 1))]) (st := []) dL_law_863 l_RL_104 (ok_X11_generator (d := 90) (by omega) (xs (i + 1)) h1) lx_0 ly_0 cn_11 (rmL (Nat.le_of_ble_eq_true rfl)) rfl rfl (Nat.le_of_ble_eq_true rfl) (Nat.le_of_ble_eq_true rfl) ?_
  refine V.aload_n (pc := 866) dL_law_866 rfl ?_
  refine V.aload_n (pc := 867) dL_law_867 rfl ?_
  refine V.iload_n (pc := 868) dL_law_868 rfl ?_
  refine V.iconst (pc := 869) dL_law_869 ic_1 ?_
  refine V.iadd (pc := 870) dL_law_870 ?_
  refine V.sldX (i := i) (j := 1) (pc := 871) dL_law_871 (sx_1 i) (by omega) hL ?_
  refine V.callV (pc := 872) (As := [.int (xs (i + 1))]) (st := [.int r]) dL_law_872 l_RL_107 (ok_X12_generator (d := 90) (by omega) (xs (i + 1)) h2) lx_44 ly_44 cn_12 (rmL (Nat.le_of_ble_eq_true rfl)) rfl rfl (Nat.le_of_ble_eq_true rfl) (Nat.le_of_ble_eq_true rfl) ?_
  refine V.icmp_eq_t (t := 1998) (pc := 875) dL_law_875 (by decide) rfl ?_
  refine V.iinc (lv' := [some (.ref 3000), some (.ref 0), some (.ref 44), some (.int (nI (i + 6)))]) (pc := 1998) dL_law_1998 (Nat.le_of_ble_eq_true rfl) rfl rfl (v := nI (i + 6)) (by rw [show Int32.ofInt 6 = 6 from by decide]; exact sx_6 i) rfl ?_
  refine V.goto (t := 18) (pc := 2001) dL_law_2001 (by decide) ?_
  exact kk
/-- alike -/
def stp_22 (a1 a2 a3 a4 a5 : Int32) (w w' : Wd) : Prop := ∃ (r : Int32), f_X11_alike a1 w = some r ∧ f_X12_alike a1 w = some r ∧ w' = w
set_option maxHeartbeats 4000000 in
set_option maxRecDepth 100000 in
theorem law_22 {G : GT} {b L : Nat} {xs : Nat → Int32} (hL : L ≤ 3072) {i : Nat} (hi : i + 6 ≤ L) {w w' : Wd} {Z : VZ} (h : stp_22 (xs (i + 1)) (xs (i + 2)) (xs (i + 3)) (xs (i + 4)) (xs (i + 5)) w w') (kk : V (vfL G b L xs) 70 141295 70 r0 18 [some (.ref 3000), some (.ref 0), some (.ref 44), some (.int (nI (i + 6)))] [] w' Z) : V (vfL G b L xs) 70 141295 70 r0 880 [some (.ref 3000), some (.ref 0), some (.ref 44), some (.int (nI i))] [] w Z := by
  obtain ⟨r, h1, h2, rfl⟩ := h
  refine V.aload_n (pc := 880) dL_law_880 rfl ?_
  refine V.aload_n (pc := 881) dL_law_881 rfl ?_
  refine V.iload_n (pc := 882) dL_law_882 rfl ?_
  refine V.iconst (pc := 883) dL_law_883 ic_1 ?_
  refine V.iadd (pc := 884) dL_law_884 ?_
  refine V.sldX (i := i) (j := 1) (pc := 885) dL_law_885 (sx_1 i) (by omega) hL ?_
  refine V.callV (pc := 886) (As := [.int (xs (i + 1))]) (st := []) dL_law_886 l_RL_108 (ok_X11_alike (d := 90) (by omega) (xs (i + 1)) h1) lx_0 ly_0 cn_11 (rmL (Nat.le_of_ble_eq_true rfl)) rfl rfl (Nat.le_of_ble_eq_true rfl) (Nat.le_of_ble_eq_true rfl) ?_
  refine V.aload_n (pc := 889) dL_law_889 rfl ?_
  refine V.aload_n (pc := 890) dL_law_890 rfl ?_
  refine V.iload_n (pc := 891) dL_law_891 rfl ?_
  refine V.iconst (pc := 892) dL_law_892 ic_1 ?_
  refine V.iadd (pc := 893) dL_law_893 ?_
  refine V.sldX (i := i) (j := 1) (pc := 894) dL_law_894 (sx_1 i) (by omega) hL ?_
  refine V.callV (pc := 895) (As := [.int (xs (i + 1))]) (st := [.int r]) dL_law_895 l_RL_111 (ok_X12_alike (d := 90) (by omega) (xs (i + 1)) h2) lx_44 ly_44 cn_12 (rmL (Nat.le_of_ble_eq_true rfl)) rfl rfl (Nat.le_of_ble_eq_true rfl) (Nat.le_of_ble_eq_true rfl) ?_
  refine V.icmp_eq_t (t := 1998) (pc := 898) dL_law_898 (by decide) rfl ?_
  refine V.iinc (lv' := [some (.ref 3000), some (.ref 0), some (.ref 44), some (.int (nI (i + 6)))]) (pc := 1998) dL_law_1998 (Nat.le_of_ble_eq_true rfl) rfl rfl (v := nI (i + 6)) (by rw [show Int32.ofInt 6 = 6 from by decide]; exact sx_6 i) rfl ?_
  refine V.goto (t := 18) (pc := 2001) dL_law_2001 (by decide) ?_
  exact kk
/-- kin -/
def stp_23 (a1 a2 a3 a4 a5 : Int32) (w w' : Wd) : Prop := ∃ (r : Int32), f_X11_kin w = some r ∧ f_X12_kin w = some r ∧ w' = w
set_option maxHeartbeats 4000000 in
set_option maxRecDepth 100000 in
theorem law_23 {G : GT} {b L : Nat} {xs : Nat → Int32} (hL : L ≤ 3072) {i : Nat} (hi : i + 6 ≤ L) {w w' : Wd} {Z : VZ} (h : stp_23 (xs (i + 1)) (xs (i + 2)) (xs (i + 3)) (xs (i + 4)) (xs (i + 5)) w w') (kk : V (vfL G b L xs) 70 141295 70 r0 18 [some (.ref 3000), some (.ref 0), some (.ref 44), some (.int (nI (i + 6)))] [] w' Z) : V (vfL G b L xs) 70 141295 70 r0 903 [some (.ref 3000), some (.ref 0), some (.ref 44), some (.int (nI i))] [] w Z := by
  obtain ⟨r, h1, h2, rfl⟩ := h
  refine V.aload_n (pc := 903) dL_law_903 rfl ?_
  refine V.callV (pc := 904) (As := []) (st := []) dL_law_904 l_RL_112 (ok_X11_kin (d := 90) (by omega)  h1) lx_0 ly_0 cn_11 (rmL (Nat.le_of_ble_eq_true rfl)) rfl rfl (Nat.le_of_ble_eq_true rfl) (Nat.le_of_ble_eq_true rfl) ?_
  refine V.aload_n (pc := 907) dL_law_907 rfl ?_
  refine V.callV (pc := 908) (As := []) (st := [.int r]) dL_law_908 l_RL_115 (ok_X12_kin (d := 90) (by omega)  h2) lx_44 ly_44 cn_12 (rmL (Nat.le_of_ble_eq_true rfl)) rfl rfl (Nat.le_of_ble_eq_true rfl) (Nat.le_of_ble_eq_true rfl) ?_
  refine V.icmp_eq_t (t := 1998) (pc := 911) dL_law_911 (by decide) rfl ?_
  refine V.iinc (lv' := [some (.ref 3000), some (.ref 0), some (.ref 44), some (.int (nI (i + 6)))]) (pc := 1998) dL_law_1998 (Nat.le_of_ble_eq_true rfl) rfl rfl (v := nI (i + 6)) (by rw [show Int32.ofInt 6 = 6 from by decide]; exact sx_6 i) rfl ?_
  refine V.goto (t := 18) (pc := 2001) dL_law_2001 (by decide) ?_
  exact kk
/-- normal -/
def stp_24 (a1 a2 a3 a4 a5 : Int32) (w w' : Wd) : Prop := ∃ (r : Int32) (w1 : Wd), f_X11_normal a1 w = some (r, w1) ∧ f_X12_normal a1 w1 = some r ∧ w' = w1
set_option maxHeartbeats 4000000 in
set_option maxRecDepth 100000 in
theorem law_24 {G : GT} {b L : Nat} {xs : Nat → Int32} (hL : L ≤ 3072) {i : Nat} (hi : i + 6 ≤ L) {w w' : Wd} {Z : VZ} (h : stp_24 (xs (i + 1)) (xs (i + 2)) (xs (i + 3)) (xs (i + 4)) (xs (i + 5)) w w') (kk : V (vfL G b L xs) 70 141295 70 r0 18 [some (.ref 3000), some (.ref 0), some (.ref 44), some (.int (nI (i + 6)))] [] w' Z) : V (vfL G b L xs) 70 141295 70 r0 916 [some (.ref 3000), some (.ref 0), some (.ref 44), some (.int (nI i))] [] w Z := by
  obtain ⟨r, w1, h1, h2, rfl⟩ := h
  refine V.aload_n (pc := 916) dL_law_916 rfl ?_
  refine V.aload_n (pc := 917) dL_law_917 rfl ?_
  refine V.iload_n (pc := 918) dL_law_918 rfl ?_
  refine V.iconst (pc := 919) dL_law_919 ic_1 ?_
  refine V.iadd (pc := 920) dL_law_920 ?_
  refine V.sldX (i := i) (j := 1) (pc := 921) dL_law_921 (sx_1 i) (by omega) hL ?_
  refine V.callV (pc := 922) (As := [.int (xs (i + 1))]) (st := []) dL_law_922 l_RL_116 (ok_X11_normal (d := 90) (by omega) (xs (i + 1)) h1) lx_0 ly_0 cn_11 (rmL (Nat.le_of_ble_eq_true rfl)) rfl rfl (Nat.le_of_ble_eq_true rfl) (Nat.le_of_ble_eq_true rfl) ?_
  refine V.aload_n (pc := 925) dL_law_925 rfl ?_
  refine V.aload_n (pc := 926) dL_law_926 rfl ?_
  refine V.iload_n (pc := 927) dL_law_927 rfl ?_
  refine V.iconst (pc := 928) dL_law_928 ic_1 ?_
  refine V.iadd (pc := 929) dL_law_929 ?_
  refine V.sldX (i := i) (j := 1) (pc := 930) dL_law_930 (sx_1 i) (by omega) hL ?_
  refine V.callV (pc := 931) (As := [.int (xs (i + 1))]) (st := [.int r]) dL_law_931 l_RL_119 (ok_X12_normal (d := 90) (by omega) (xs (i + 1)) h2) lx_44 ly_44 cn_12 (rmL (Nat.le_of_ble_eq_true rfl)) rfl rfl (Nat.le_of_ble_eq_true rfl) (Nat.le_of_ble_eq_true rfl) ?_
  refine V.icmp_eq_t (t := 1998) (pc := 934) dL_law_934 (by decide) rfl ?_
  refine V.iinc (lv' := [some (.ref 3000), some (.ref 0), some (.ref 44), some (.int (nI (i + 6)))]) (pc := 1998) dL_law_1998 (Nat.le_of_ble_eq_true rfl) rfl rfl (v := nI (i + 6)) (by rw [show Int32.ofInt 6 = 6 from by decide]; exact sx_6 i) rfl ?_
  refine V.goto (t := 18) (pc := 2001) dL_law_2001 (by decide) ?_
  exact kk
/-- power -/
def stp_25 (a1 a2 a3 a4 a5 : Int32) (w w' : Wd) : Prop := ∃ (r : Int32), f_X11_power a1 a2 w = some r ∧ f_X12_power a1 a2 w = some r ∧ w' = w
set_option maxHeartbeats 4000000 in
set_option maxRecDepth 100000 in
theorem law_25 {G : GT} {b L : Nat} {xs : Nat → Int32} (hL : L ≤ 3072) {i : Nat} (hi : i + 6 ≤ L) {w w' : Wd} {Z : VZ} (h : stp_25 (xs (i + 1)) (xs (i + 2)) (xs (i + 3)) (xs (i + 4)) (xs (i + 5)) w w') (kk : V (vfL G b L xs) 70 141295 70 r0 18 [some (.ref 3000), some (.ref 0), some (.ref 44), some (.int (nI (i + 6)))] [] w' Z) : V (vfL G b L xs) 70 141295 70 r0 939 [some (.ref 3000), some (.ref 0), some (.ref 44), some (.int (nI i))] [] w Z := by
  obtain ⟨r, h1, h2, rfl⟩ := h
  refine V.aload_n (pc := 939) dL_law_939 rfl ?_
  refine V.aload_n (pc := 940) dL_law_940 rfl ?_
  refine V.iload_n (pc := 941) dL_law_941 rfl ?_
  refine V.iconst (pc := 942) dL_law_942 ic_1 ?_
  refine V.iadd (pc := 943) dL_law_943 ?_
  refine V.sldX (i := i) (j := 1) (pc := 944) dL_law_944 (sx_1 i) (by omega) hL ?_
  refine V.aload_n (pc := 945) dL_law_945 rfl ?_
  refine V.iload_n (pc := 946) dL_law_946 rfl ?_
  refine V.iconst (pc := 947) dL_law_947 ic_2 ?_
  refine V.iadd (pc := 948) dL_law_948 ?_
  refine V.sldX (i := i) (j := 2) (pc := 949) dL_law_949 (sx_2 i) (by omega) hL ?_
  refine V.callV (pc := 950) (As := [.int (xs (i + 1)), .int (xs (i + 2))]) (st := []) dL_law_950 l_RL_120 (ok_X11_power (d := 90) (by omega) (xs (i + 1)) (xs (i + 2)) h1) lx_0 ly_0 cn_11 (rmL (Nat.le_of_ble_eq_true rfl)) rfl rfl (Nat.le_of_ble_eq_true rfl) (Nat.le_of_ble_eq_true rfl) ?_
  refine V.aload_n (pc := 953) dL_law_953 rfl ?_
  refine V.aload_n (pc := 954) dL_law_954 rfl ?_
  refine V.iload_n (pc := 955) dL_law_955 rfl ?_
  refine V.iconst (pc := 956) dL_law_956 ic_1 ?_
  refine V.iadd (pc := 957) dL_law_957 ?_
  refine V.sldX (i := i) (j := 1) (pc := 958) dL_law_958 (sx_1 i) (by omega) hL ?_
  refine V.aload_n (pc := 959) dL_law_959 rfl ?_
  refine V.iload_n (pc := 960) dL_law_960 rfl ?_
  refine V.iconst (pc := 961) dL_law_961 ic_2 ?_
  refine V.iadd (pc := 962) dL_law_962 ?_
  refine V.sldX (i := i) (j := 2) (pc := 963) dL_law_963 (sx_2 i) (by omega) hL ?_
  refine V.callV (pc := 964) (As := [.int (xs (i + 1)), .int (xs (i + 2))]) (st := [.int r]) dL_law_964 l_RL_123 (ok_X12_power (d := 90) (by omega) (xs (i + 1)) (xs (i + 2)) h2) lx_44 ly_44 cn_12 (rmL (Nat.le_of_ble_eq_true rfl)) rfl rfl (Nat.le_of_ble_eq_true rfl) (Nat.le_of_ble_eq_true rfl) ?_
  refine V.icmp_eq_t (t := 1998) (pc := 967) dL_law_967 (by decide) rfl ?_
  refine V.iinc (lv' := [some (.ref 3000), some (.ref 0), some (.ref 44), some (.int (nI (i + 6)))]) (pc := 1998) dL_law_1998 (Nat.le_of_ble_eq_true rfl) rfl rfl (v := nI (i + 6)) (by rw [show Int32.ofInt 6 = 6 from by decide]; exact sx_6 i) rfl ?_
  refine V.goto (t := 18) (pc := 2001) dL_law_2001 (by decide) ?_
  exact kk
/-- covers -/
def stp_26 (a1 a2 a3 a4 a5 : Int32) (w w' : Wd) : Prop := ∃ (r : Int32), f_X11_covers a1 w = some r ∧ f_X12_covers a1 w = some r ∧ w' = w
set_option maxHeartbeats 4000000 in
set_option maxRecDepth 100000 in
theorem law_26 {G : GT} {b L : Nat} {xs : Nat → Int32} (hL : L ≤ 3072) {i : Nat} (hi : i + 6 ≤ L) {w w' : Wd} {Z : VZ} (h : stp_26 (xs (i + 1)) (xs (i + 2)) (xs (i + 3)) (xs (i + 4)) (xs (i + 5)) w w') (kk : V (vfL G b L xs) 70 141295 70 r0 18 [some (.ref 3000), some (.ref 0), some (.ref 44), some (.int (nI (i + 6)))] [] w' Z) : V (vfL G b L xs) 70 141295 70 r0 972 [some (.ref 3000), some (.ref 0), some (.ref 44), some (.int (nI i))] [] w Z := by
  obtain ⟨r, h1, h2, rfl⟩ := h
  refine V.aload_n (pc := 972) dL_law_972 rfl ?_
  refine V.aload_n (pc := 973) dL_law_973 rfl ?_
  refine V.iload_n (pc := 974) dL_law_974 rfl ?_
  refine V.iconst (pc := 975) dL_law_975 ic_1 ?_
  refine V.iadd (pc := 976) dL_law_976 ?_
  refine V.sldX (i := i) (j := 1) (pc := 977) dL_law_977 (sx_1 i) (by omega) hL ?_
  refine V.callV (pc := 978) (As := [.int (xs (i + 1))]) (st := []) dL_law_978 l_RL_124 (ok_X11_covers (d := 90) (by omega) (xs (i + 1)) h1) lx_0 ly_0 cn_11 (rmL (Nat.le_of_ble_eq_true rfl)) rfl rfl (Nat.le_of_ble_eq_true rfl) (Nat.le_of_ble_eq_true rfl) ?_
  refine V.aload_n (pc := 981) dL_law_981 rfl ?_
  refine V.aload_n (pc := 982) dL_law_982 rfl ?_
  refine V.iload_n (pc := 983) dL_law_983 rfl ?_
  refine V.iconst (pc := 984) dL_law_984 ic_1 ?_
  refine V.iadd (pc := 985) dL_law_985 ?_
  refine V.sldX (i := i) (j := 1) (pc := 986) dL_law_986 (sx_1 i) (by omega) hL ?_
  refine V.callV (pc := 987) (As := [.int (xs (i + 1))]) (st := [.int r]) dL_law_987 l_RL_127 (ok_X12_covers (d := 90) (by omega) (xs (i + 1)) h2) lx_44 ly_44 cn_12 (rmL (Nat.le_of_ble_eq_true rfl)) rfl rfl (Nat.le_of_ble_eq_true rfl) (Nat.le_of_ble_eq_true rfl) ?_
  refine V.icmp_eq_t (t := 1998) (pc := 990) dL_law_990 (by decide) rfl ?_
  refine V.iinc (lv' := [some (.ref 3000), some (.ref 0), some (.ref 44), some (.int (nI (i + 6)))]) (pc := 1998) dL_law_1998 (Nat.le_of_ble_eq_true rfl) rfl rfl (v := nI (i + 6)) (by rw [show Int32.ofInt 6 = 6 from by decide]; exact sx_6 i) rfl ?_
  refine V.goto (t := 18) (pc := 2001) dL_law_2001 (by decide) ?_
  exact kk
/-- is -/
def stp_27 (a1 a2 a3 a4 a5 : Int32) (w w' : Wd) : Prop := ∃ (r : Int32), f_X11_is a1 a2 w = some r ∧ f_X12_is a1 a2 w = some r ∧ w' = w
set_option maxHeartbeats 4000000 in
set_option maxRecDepth 100000 in
theorem law_27 {G : GT} {b L : Nat} {xs : Nat → Int32} (hL : L ≤ 3072) {i : Nat} (hi : i + 6 ≤ L) {w w' : Wd} {Z : VZ} (h : stp_27 (xs (i + 1)) (xs (i + 2)) (xs (i + 3)) (xs (i + 4)) (xs (i + 5)) w w') (kk : V (vfL G b L xs) 70 141295 70 r0 18 [some (.ref 3000), some (.ref 0), some (.ref 44), some (.int (nI (i + 6)))] [] w' Z) : V (vfL G b L xs) 70 141295 70 r0 995 [some (.ref 3000), some (.ref 0), some (.ref 44), some (.int (nI i))] [] w Z := by
  obtain ⟨r, h1, h2, rfl⟩ := h
  refine V.aload_n (pc := 995) dL_law_995 rfl ?_
  refine V.aload_n (pc := 996) dL_law_996 rfl ?_
  refine V.iload_n (pc := 997) dL_law_997 rfl ?_
  refine V.iconst (pc := 998) dL_law_998 ic_1 ?_
  refine V.iadd (pc := 999) dL_law_999 ?_
  refine V.sldX (i := i) (j := 1) (pc := 1000) dL_law_1000 (sx_1 i) (by omega) hL ?_
  refine V.aload_n (pc := 1001) dL_law_1001 rfl ?_
  refine V.iload_n (pc := 1002) dL_law_1002 rfl ?_
  refine V.iconst (pc := 1003) dL_law_1003 ic_2 ?_
  refine V.iadd (pc := 1004) dL_law_1004 ?_
  refine V.sldX (i := i) (j := 2) (pc := 1005) dL_law_1005 (sx_2 i) (by omega) hL ?_
  refine V.callV (pc := 1006) (As := [.int (xs (i + 1)), .int (xs (i + 2))]) (st := []) dL_law_1006 l_RL_128 (ok_X11_is (d := 90) (by omega) (xs (i + 1)) (xs (i + 2)) h1) lx_0 ly_0 cn_11 (rmL (Nat.le_of_ble_eq_true rfl)) rfl rfl (Nat.le_of_ble_eq_true rfl) (Nat.le_of_ble_eq_true rfl) ?_
  refine V.aload_n (pc := 1009) dL_law_1009 rfl ?_
  refine V.aload_n (pc := 1010) dL_law_1010 rfl ?_
  refine V.iload_n (pc := 1011) dL_law_1011 rfl ?_
  refine V.iconst (pc := 1012) dL_law_1012 ic_1 ?_
  refine V.iadd (pc := 1013) dL_law_1013 ?_
  refine V.sldX (i := i) (j := 1) (pc := 1014) dL_law_1014 (sx_1 i) (by omega) hL ?_
  refine V.aload_n (pc := 1015) dL_law_1015 rfl ?_
  refine V.iload_n (pc := 1016) dL_law_1016 rfl ?_
  refine V.iconst (pc := 1017) dL_law_1017 ic_2 ?_
  refine V.iadd (pc := 1018) dL_law_1018 ?_
  refine V.sldX (i := i) (j := 2) (pc := 1019) dL_law_1019 (sx_2 i) (by omega) hL ?_
  refine V.callV (pc := 1020) (As := [.int (xs (i + 1)), .int (xs (i + 2))]) (st := [.int r]) dL_law_1020 l_RL_131 (ok_X12_is (d := 90) (by omega) (xs (i + 1)) (xs (i + 2)) h2) lx_44 ly_44 cn_12 (rmL (Nat.le_of_ble_eq_true rfl)) rfl rfl (Nat.le_of_ble_eq_true rfl) (Nat.le_of_ble_eq_true rfl) ?_
  refine V.icmp_eq_t (t := 1998) (pc := 1023) dL_law_1023 (by decide) rfl ?_
  refine V.iinc (lv' := [some (.ref 3000), some (.ref 0), some (.ref 44), some (.int (nI (i + 6)))]) (pc := 1998) dL_law_1998 (Nat.le_of_ble_eq_true rfl) rfl rfl (v := nI (i + 6)) (by rw [show Int32.ofInt 6 = 6 from by decide]; exact sx_6 i) rfl ?_
  refine V.goto (t := 18) (pc := 2001) dL_law_2001 (by decide) ?_
  exact kk
/-- triples -/
def stp_28 (a1 a2 a3 a4 a5 : Int32) (w w' : Wd) : Prop := ∃ (r : Int32), f_X11_triples a1 w = some r ∧ f_X12_triples a1 w = some r ∧ w' = w
set_option maxHeartbeats 4000000 in
set_option maxRecDepth 100000 in
theorem law_28 {G : GT} {b L : Nat} {xs : Nat → Int32} (hL : L ≤ 3072) {i : Nat} (hi : i + 6 ≤ L) {w w' : Wd} {Z : VZ} (h : stp_28 (xs (i + 1)) (xs (i + 2)) (xs (i + 3)) (xs (i + 4)) (xs (i + 5)) w w') (kk : V (vfL G b L xs) 70 141295 70 r0 18 [some (.ref 3000), some (.ref 0), some (.ref 44), some (.int (nI (i + 6)))] [] w' Z) : V (vfL G b L xs) 70 141295 70 r0 1028 [some (.ref 3000), some (.ref 0), some (.ref 44), some (.int (nI i))] [] w Z := by
  obtain ⟨r, h1, h2, rfl⟩ := h
  refine V.aload_n (pc := 1028) dL_law_1028 rfl ?_
  refine V.aload_n (pc := 1029) dL_law_1029 rfl ?_
  refine V.iload_n (pc := 1030) dL_law_1030 rfl ?_
  refine V.iconst (pc := 1031) dL_law_1031 ic_1 ?_
  refine V.iadd (pc := 1032) dL_law_1032 ?_
  refine V.sldX (i := i) (j := 1) (pc := 1033) dL_law_1033 (sx_1 i) (by omega) hL ?_
  refine V.callV (pc := 1034) (As := [.int (xs (i + 1))]) (st := []) dL_law_1034 l_RL_132 (ok_X11_triples (d := 90) (by omega) (xs (i + 1)) h1) lx_0 ly_0 cn_11 (rmL (Nat.le_of_ble_eq_true rfl)) rfl rfl (Nat.le_of_ble_eq_true rfl) (Nat.le_of_ble_eq_true rfl) ?_
  refine V.aload_n (pc := 1037) dL_law_1037 rfl ?_
  refine V.aload_n (pc := 1038) dL_law_1038 rfl ?_
  refine V.iload_n (pc := 1039) dL_law_1039 rfl ?_
  refine V.iconst (pc := 1040) dL_law_1040 ic_1 ?_
  refine V.iadd (pc := 1041) dL_law_1041 ?_
  refine V.sldX (i := i) (j := 1) (pc := 1042) dL_law_1042 (sx_1 i) (by omega) hL ?_
  refine V.callV (pc := 1043) (As := [.int (xs (i + 1))]) (st := [.int r]) dL_law_1043 l_RL_135 (ok_X12_triples (d := 90) (by omega) (xs (i + 1)) h2) lx_44 ly_44 cn_12 (rmL (Nat.le_of_ble_eq_true rfl)) rfl rfl (Nat.le_of_ble_eq_true rfl) (Nat.le_of_ble_eq_true rfl) ?_
  refine V.icmp_eq_t (t := 1998) (pc := 1046) dL_law_1046 (by decide) rfl ?_
  refine V.iinc (lv' := [some (.ref 3000), some (.ref 0), some (.ref 44), some (.int (nI (i + 6)))]) (pc := 1998) dL_law_1998 (Nat.le_of_ble_eq_true rfl) rfl rfl (v := nI (i + 6)) (by rw [show Int32.ofInt 6 = 6 from by decide]; exact sx_6 i) rfl ?_
  refine V.goto (t := 18) (pc := 2001) dL_law_2001 (by decide) ?_
  exact kk
/-- triple -/
def stp_29 (a1 a2 a3 a4 a5 : Int32) (w w' : Wd) : Prop := ∃ (r : Int32), f_X11_triple a1 a2 w = some r ∧ f_X12_triple a1 a2 w = some r ∧ w' = w
set_option maxHeartbeats 4000000 in
set_option maxRecDepth 100000 in
theorem law_29 {G : GT} {b L : Nat} {xs : Nat → Int32} (hL : L ≤ 3072) {i : Nat} (hi : i + 6 ≤ L) {w w' : Wd} {Z : VZ} (h : stp_29 (xs (i + 1)) (xs (i + 2)) (xs (i + 3)) (xs (i + 4)) (xs (i + 5)) w w') (kk : V (vfL G b L xs) 70 141295 70 r0 18 [some (.ref 3000), some (.ref 0), some (.ref 44), some (.int (nI (i + 6)))] [] w' Z) : V (vfL G b L xs) 70 141295 70 r0 1051 [some (.ref 3000), some (.ref 0), some (.ref 44), some (.int (nI i))] [] w Z := by
  obtain ⟨r, h1, h2, rfl⟩ := h
  refine V.aload_n (pc := 1051) dL_law_1051 rfl ?_
  refine V.aload_n (pc := 1052) dL_law_1052 rfl ?_
  refine V.iload_n (pc := 1053) dL_law_1053 rfl ?_
  refine V.iconst (pc := 1054) dL_law_1054 ic_1 ?_
  refine V.iadd (pc := 1055) dL_law_1055 ?_
  refine V.sldX (i := i) (j := 1) (pc := 1056) dL_law_1056 (sx_1 i) (by omega) hL ?_
  refine V.aload_n (pc := 1057) dL_law_1057 rfl ?_
  refine V.iload_n (pc := 1058) dL_law_1058 rfl ?_
  refine V.iconst (pc := 1059) dL_law_1059 ic_2 ?_
  refine V.iadd (pc := 1060) dL_law_1060 ?_
  refine V.sldX (i := i) (j := 2) (pc := 1061) dL_law_1061 (sx_2 i) (by omega) hL ?_
  refine V.callV (pc := 1062) (As := [.int (xs (i + 1)), .int (xs (i + 2))]) (st := []) dL_law_1062 l_RL_136 (ok_X11_triple (d := 90) (by omega) (xs (i + 1)) (xs (i + 2)) h1) lx_0 ly_0 cn_11 (rmL (Nat.le_of_ble_eq_true rfl)) rfl rfl (Nat.le_of_ble_eq_true rfl) (Nat.le_of_ble_eq_true rfl) ?_
  refine V.aload_n (pc := 1065) dL_law_1065 rfl ?_
  refine V.aload_n (pc := 1066) dL_law_1066 rfl ?_
  refine V.iload_n (pc := 1067) dL_law_1067 rfl ?_
  refine V.iconst (pc := 1068) dL_law_1068 ic_1 ?_
  refine V.iadd (pc := 1069) dL_law_1069 ?_
  refine V.sldX (i := i) (j := 1) (pc := 1070) dL_law_1070 (sx_1 i) (by omega) hL ?_
  refine V.aload_n (pc := 1071) dL_law_1071 rfl ?_
  refine V.iload_n (pc := 1072) dL_law_1072 rfl ?_
  refine V.iconst (pc := 1073) dL_law_1073 ic_2 ?_
  refine V.iadd (pc := 1074) dL_law_1074 ?_
  refine V.sldX (i := i) (j := 2) (pc := 1075) dL_law_1075 (sx_2 i) (by omega) hL ?_
  refine V.callV (pc := 1076) (As := [.int (xs (i + 1)), .int (xs (i + 2))]) (st := [.int r]) dL_law_1076 l_RL_139 (ok_X12_triple (d := 90) (by omega) (xs (i + 1)) (xs (i + 2)) h2) lx_44 ly_44 cn_12 (rmL (Nat.le_of_ble_eq_true rfl)) rfl rfl (Nat.le_of_ble_eq_true rfl) (Nat.le_of_ble_eq_true rfl) ?_
  refine V.icmp_eq_t (t := 1998) (pc := 1079) dL_law_1079 (by decide) rfl ?_
  refine V.iinc (lv' := [some (.ref 3000), some (.ref 0), some (.ref 44), some (.int (nI (i + 6)))]) (pc := 1998) dL_law_1998 (Nat.le_of_ble_eq_true rfl) rfl rfl (v := nI (i + 6)) (by rw [show Int32.ofInt 6 = 6 from by decide]; exact sx_6 i) rfl ?_
  refine V.goto (t := 18) (pc := 2001) dL_law_2001 (by decide) ?_
  exact kk
/-- products -/
def stp_30 (a1 a2 a3 a4 a5 : Int32) (w w' : Wd) : Prop := ∃ (r : Int32), f_X11_products a1 a2 w = some r ∧ f_X12_products a1 a2 w = some r ∧ w' = w
set_option maxHeartbeats 4000000 in
set_option maxRecDepth 100000 in
theorem law_30 {G : GT} {b L : Nat} {xs : Nat → Int32} (hL : L ≤ 3072) {i : Nat} (hi : i + 6 ≤ L) {w w' : Wd} {Z : VZ} (h : stp_30 (xs (i + 1)) (xs (i + 2)) (xs (i + 3)) (xs (i + 4)) (xs (i + 5)) w w') (kk : V (vfL G b L xs) 70 141295 70 r0 18 [some (.ref 3000), some (.ref 0), some (.ref 44), some (.int (nI (i + 6)))] [] w' Z) : V (vfL G b L xs) 70 141295 70 r0 1084 [some (.ref 3000), some (.ref 0), some (.ref 44), some (.int (nI i))] [] w Z := by
  obtain ⟨r, h1, h2, rfl⟩ := h
  refine V.aload_n (pc := 1084) dL_law_1084 rfl ?_
  refine V.aload_n (pc := 1085) dL_law_1085 rfl ?_
  refine V.iload_n (pc := 1086) dL_law_1086 rfl ?_
  refine V.iconst (pc := 1087) dL_law_1087 ic_1 ?_
  refine V.iadd (pc := 1088) dL_law_1088 ?_
  refine V.sldX (i := i) (j := 1) (pc := 1089) dL_law_1089 (sx_1 i) (by omega) hL ?_
  refine V.aload_n (pc := 1090) dL_law_1090 rfl ?_
  refine V.iload_n (pc := 1091) dL_law_1091 rfl ?_
  refine V.iconst (pc := 1092) dL_law_1092 ic_2 ?_
  refine V.iadd (pc := 1093) dL_law_1093 ?_
  refine V.sldX (i := i) (j := 2) (pc := 1094) dL_law_1094 (sx_2 i) (by omega) hL ?_
  refine V.callV (pc := 1095) (As := [.int (xs (i + 1)), .int (xs (i + 2))]) (st := []) dL_law_1095 l_RL_140 (ok_X11_products (d := 90) (by omega) (xs (i + 1)) (xs (i + 2)) h1) lx_0 ly_0 cn_11 (rmL (Nat.le_of_ble_eq_true rfl)) rfl rfl (Nat.le_of_ble_eq_true rfl) (Nat.le_of_ble_eq_true rfl) ?_
  refine V.aload_n (pc := 1098) dL_law_1098 rfl ?_
  refine V.aload_n (pc := 1099) dL_law_1099 rfl ?_
  refine V.iload_n (pc := 1100) dL_law_1100 rfl ?_
  refine V.iconst (pc := 1101) dL_law_1101 ic_1 ?_
  refine V.iadd (pc := 1102) dL_law_1102 ?_
  refine V.sldX (i := i) (j := 1) (pc := 1103) dL_law_1103 (sx_1 i) (by omega) hL ?_
  refine V.aload_n (pc := 1104) dL_law_1104 rfl ?_
  refine V.iload_n (pc := 1105) dL_law_1105 rfl ?_
  refine V.iconst (pc := 1106) dL_law_1106 ic_2 ?_
  refine V.iadd (pc := 1107) dL_law_1107 ?_
  refine V.sldX (i := i) (j := 2) (pc := 1108) dL_law_1108 (sx_2 i) (by omega) hL ?_
  refine V.callV (pc := 1109) (As := [.int (xs (i + 1)), .int (xs (i + 2))]) (st := [.int r]) dL_law_1109 l_RL_143 (ok_X12_products (d := 90) (by omega) (xs (i + 1)) (xs (i + 2)) h2) lx_44 ly_44 cn_12 (rmL (Nat.le_of_ble_eq_true rfl)) rfl rfl (Nat.le_of_ble_eq_true rfl) (Nat.le_of_ble_eq_true rfl) ?_
  refine V.icmp_eq_t (t := 1998) (pc := 1112) dL_law_1112 (by decide) rfl ?_
  refine V.iinc (lv' := [some (.ref 3000), some (.ref 0), some (.ref 44), some (.int (nI (i + 6)))]) (pc := 1998) dL_law_1998 (Nat.le_of_ble_eq_true rfl) rfl rfl (v := nI (i + 6)) (by rw [show Int32.ofInt 6 = 6 from by decide]; exact sx_6 i) rfl ?_
  refine V.goto (t := 18) (pc := 2001) dL_law_2001 (by decide) ?_
  exact kk
/-- quotients -/
def stp_31 (a1 a2 a3 a4 a5 : Int32) (w w' : Wd) : Prop := ∃ (r : Int32), f_X11_quotients a1 w = some r ∧ f_X12_quotients a1 w = some r ∧ w' = w
set_option maxHeartbeats 4000000 in
set_option maxRecDepth 100000 in
theorem law_31 {G : GT} {b L : Nat} {xs : Nat → Int32} (hL : L ≤ 3072) {i : Nat} (hi : i + 6 ≤ L) {w w' : Wd} {Z : VZ} (h : stp_31 (xs (i + 1)) (xs (i + 2)) (xs (i + 3)) (xs (i + 4)) (xs (i + 5)) w w') (kk : V (vfL G b L xs) 70 141295 70 r0 18 [some (.ref 3000), some (.ref 0), some (.ref 44), some (.int (nI (i + 6)))] [] w' Z) : V (vfL G b L xs) 70 141295 70 r0 1117 [some (.ref 3000), some (.ref 0), some (.ref 44), some (.int (nI i))] [] w Z := by
  obtain ⟨r, h1, h2, rfl⟩ := h
  refine V.aload_n (pc := 1117) dL_law_1117 rfl ?_
  refine V.aload_n (pc := 1118) dL_law_1118 rfl ?_
  refine V.iload_n (pc := 1119) dL_law_1119 rfl ?_
  refine V.iconst (pc := 1120) dL_law_1120 ic_1 ?_
  refine V.iadd (pc := 1121) dL_law_1121 ?_
  refine V.sldX (i := i) (j := 1) (pc := 1122) dL_law_1122 (sx_1 i) (by omega) hL ?_
  refine V.callV (pc := 1123) (As := [.int (xs (i + 1))]) (st := []) dL_law_1123 l_RL_144 (ok_X11_quotients (d := 90) (by omega) (xs (i + 1)) h1) lx_0 ly_0 cn_11 (rmL (Nat.le_of_ble_eq_true rfl)) rfl rfl (Nat.le_of_ble_eq_true rfl) (Nat.le_of_ble_eq_true rfl) ?_
  refine V.aload_n (pc := 1126) dL_law_1126 rfl ?_
  refine V.aload_n (pc := 1127) dL_law_1127 rfl ?_
  refine V.iload_n (pc := 1128) dL_law_1128 rfl ?_
  refine V.iconst (pc := 1129) dL_law_1129 ic_1 ?_
  refine V.iadd (pc := 1130) dL_law_1130 ?_
  refine V.sldX (i := i) (j := 1) (pc := 1131) dL_law_1131 (sx_1 i) (by omega) hL ?_
  refine V.callV (pc := 1132) (As := [.int (xs (i + 1))]) (st := [.int r]) dL_law_1132 l_RL_147 (ok_X12_quotients (d := 90) (by omega) (xs (i + 1)) h2) lx_44 ly_44 cn_12 (rmL (Nat.le_of_ble_eq_true rfl)) rfl rfl (Nat.le_of_ble_eq_true rfl) (Nat.le_of_ble_eq_true rfl) ?_
  refine V.icmp_eq_t (t := 1998) (pc := 1135) dL_law_1135 (by decide) rfl ?_
  refine V.iinc (lv' := [some (.ref 3000), some (.ref 0), some (.ref 44), some (.int (nI (i + 6)))]) (pc := 1998) dL_law_1998 (Nat.le_of_ble_eq_true rfl) rfl rfl (v := nI (i + 6)) (by rw [show Int32.ofInt 6 = 6 from by decide]; exact sx_6 i) rfl ?_
  refine V.goto (t := 18) (pc := 2001) dL_law_2001 (by decide) ?_
  exact kk
/-- even -/
def stp_32 (a1 a2 a3 a4 a5 : Int32) (w w' : Wd) : Prop := ∃ (r : Int32), f_X11_even a1 w = some r ∧ f_X12_even a1 w = some r ∧ w' = w
set_option maxHeartbeats 4000000 in
set_option maxRecDepth 100000 in
theorem law_32 {G : GT} {b L : Nat} {xs : Nat → Int32} (hL : L ≤ 3072) {i : Nat} (hi : i + 6 ≤ L) {w w' : Wd} {Z : VZ} (h : stp_32 (xs (i + 1)) (xs (i + 2)) (xs (i + 3)) (xs (i + 4)) (xs (i + 5)) w w') (kk : V (vfL G b L xs) 70 141295 70 r0 18 [some (.ref 3000), some (.ref 0), some (.ref 44), some (.int (nI (i + 6)))] [] w' Z) : V (vfL G b L xs) 70 141295 70 r0 1140 [some (.ref 3000), some (.ref 0), some (.ref 44), some (.int (nI i))] [] w Z := by
  obtain ⟨r, h1, h2, rfl⟩ := h
  refine V.aload_n (pc := 1140) dL_law_1140 rfl ?_
  refine V.aload_n (pc := 1141) dL_law_1141 rfl ?_
  refine V.iload_n (pc := 1142) dL_law_1142 rfl ?_
  refine V.iconst (pc := 1143) dL_law_1143 ic_1 ?_
  refine V.iadd (pc := 1144) dL_law_1144 ?_
  refine V.sldX (i := i) (j := 1) (pc := 1145) dL_law_1145 (sx_1 i) (by omega) hL ?_
  refine V.callV (pc := 1146) (As := [.int (xs (i + 1))]) (st := []) dL_law_1146 l_RL_148 (ok_X11_even (d := 90) (by omega) (xs (i + 1)) h1) lx_0 ly_0 cn_11 (rmL (Nat.le_of_ble_eq_true rfl)) rfl rfl (Nat.le_of_ble_eq_true rfl) (Nat.le_of_ble_eq_true rfl) ?_
  refine V.aload_n (pc := 1149) dL_law_1149 rfl ?_
  refine V.aload_n (pc := 1150) dL_law_1150 rfl ?_
  refine V.iload_n (pc := 1151) dL_law_1151 rfl ?_
  refine V.iconst (pc := 1152) dL_law_1152 ic_1 ?_
  refine V.iadd (pc := 1153) dL_law_1153 ?_
  refine V.sldX (i := i) (j := 1) (pc := 1154) dL_law_1154 (sx_1 i) (by omega) hL ?_
  refine V.callV (pc := 1155) (As := [.int (xs (i + 1))]) (st := [.int r]) dL_law_1155 l_RL_151 (ok_X12_even (d := 90) (by omega) (xs (i + 1)) h2) lx_44 ly_44 cn_12 (rmL (Nat.le_of_ble_eq_true rfl)) rfl rfl (Nat.le_of_ble_eq_true rfl) (Nat.le_of_ble_eq_true rfl) ?_
  refine V.icmp_eq_t (t := 1998) (pc := 1158) dL_law_1158 (by decide) rfl ?_
  refine V.iinc (lv' := [some (.ref 3000), some (.ref 0), some (.ref 44), some (.int (nI (i + 6)))]) (pc := 1998) dL_law_1998 (Nat.le_of_ble_eq_true rfl) rfl rfl (v := nI (i + 6)) (by rw [show Int32.ofInt 6 = 6 from by decide]; exact sx_6 i) rfl ?_
  refine V.goto (t := 18) (pc := 2001) dL_law_2001 (by decide) ?_
  exact kk
/-- copies -/
def stp_33 (a1 a2 a3 a4 a5 : Int32) (w w' : Wd) : Prop := ∃ (r : Int32) (w1 : Wd), f_X11_copies a1 w = some (r, w1) ∧ f_X12_copies a1 w1 = some r ∧ w' = w1
set_option maxHeartbeats 4000000 in
set_option maxRecDepth 100000 in
theorem law_33 {G : GT} {b L : Nat} {xs : Nat → Int32} (hL : L ≤ 3072) {i : Nat} (hi : i + 6 ≤ L) {w w' : Wd} {Z : VZ} (h : stp_33 (xs (i + 1)) (xs (i + 2)) (xs (i + 3)) (xs (i + 4)) (xs (i + 5)) w w') (kk : V (vfL G b L xs) 70 141295 70 r0 18 [some (.ref 3000), some (.ref 0), some (.ref 44), some (.int (nI (i + 6)))] [] w' Z) : V (vfL G b L xs) 70 141295 70 r0 1163 [some (.ref 3000), some (.ref 0), some (.ref 44), some (.int (nI i))] [] w Z := by
  obtain ⟨r, w1, h1, h2, rfl⟩ := h
  refine V.aload_n (pc := 1163) dL_law_1163 rfl ?_
  refine V.aload_n (pc := 1164) dL_law_1164 rfl ?_
  refine V.iload_n (pc := 1165) dL_law_1165 rfl ?_
  refine V.iconst (pc := 1166) dL_law_1166 ic_1 ?_
  refine V.iadd (pc := 1167) dL_law_1167 ?_
  refine V.sldX (i := i) (j := 1) (pc := 1168) dL_law_1168 (sx_1 i) (by omega) hL ?_
  refine V.callV (pc := 1169) (As := [.int (xs (i + 1))]) (st := []) dL_law_1169 l_RL_152 (ok_X11_copies (d := 90) (by omega) (xs (i + 1)) h1) lx_0 ly_0 cn_11 (rmL (Nat.le_of_ble_eq_true rfl)) rfl rfl (Nat.le_of_ble_eq_true rfl) (Nat.le_of_ble_eq_true rfl) ?_
  refine V.aload_n (pc := 1172) dL_law_1172 rfl ?_
  refine V.aload_n (pc := 1173) dL_law_1173 rfl ?_
  refine V.iload_n (pc := 1174) dL_law_1174 rfl ?_
  refine V.iconst (pc := 1175) dL_law_1175 ic_1 ?_
  refine V.iadd (pc := 1176) dL_law_1176 ?_
  refine V.sldX (i := i) (j := 1) (pc := 1177) dL_law_1177 (sx_1 i) (by omega) hL ?_
  refine V.callV (pc := 1178) (As := [.int (xs (i + 1))]) (st := [.int r]) dL_law_1178 l_RL_155 (ok_X12_copies (d := 90) (by omega) (xs (i + 1)) h2) lx_44 ly_44 cn_12 (rmL (Nat.le_of_ble_eq_true rfl)) rfl rfl (Nat.le_of_ble_eq_true rfl) (Nat.le_of_ble_eq_true rfl) ?_
  refine V.icmp_eq_t (t := 1998) (pc := 1181) dL_law_1181 (by decide) rfl ?_
  refine V.iinc (lv' := [some (.ref 3000), some (.ref 0), some (.ref 44), some (.int (nI (i + 6)))]) (pc := 1998) dL_law_1998 (Nat.le_of_ble_eq_true rfl) rfl rfl (v := nI (i + 6)) (by rw [show Int32.ofInt 6 = 6 from by decide]; exact sx_6 i) rfl ?_
  refine V.goto (t := 18) (pc := 2001) dL_law_2001 (by decide) ?_
  exact kk
/-- open -/
def stp_34 (a1 a2 a3 a4 a5 : Int32) (w w' : Wd) : Prop := ∃ (r : Int32), f_X11_open a1 w = some r ∧ f_X12_open a1 w = some r ∧ w' = w
set_option maxHeartbeats 4000000 in
set_option maxRecDepth 100000 in
theorem law_34 {G : GT} {b L : Nat} {xs : Nat → Int32} (hL : L ≤ 3072) {i : Nat} (hi : i + 6 ≤ L) {w w' : Wd} {Z : VZ} (h : stp_34 (xs (i + 1)) (xs (i + 2)) (xs (i + 3)) (xs (i + 4)) (xs (i + 5)) w w') (kk : V (vfL G b L xs) 70 141295 70 r0 18 [some (.ref 3000), some (.ref 0), some (.ref 44), some (.int (nI (i + 6)))] [] w' Z) : V (vfL G b L xs) 70 141295 70 r0 1186 [some (.ref 3000), some (.ref 0), some (.ref 44), some (.int (nI i))] [] w Z := by
  obtain ⟨r, h1, h2, rfl⟩ := h
  refine V.aload_n (pc := 1186) dL_law_1186 rfl ?_
  refine V.aload_n (pc := 1187) dL_law_1187 rfl ?_
  refine V.iload_n (pc := 1188) dL_law_1188 rfl ?_
  refine V.iconst (pc := 1189) dL_law_1189 ic_1 ?_
  refine V.iadd (pc := 1190) dL_law_1190 ?_
  refine V.sldX (i := i) (j := 1) (pc := 1191) dL_law_1191 (sx_1 i) (by omega) hL ?_
  refine V.callV (pc := 1192) (As := [.int (xs (i + 1))]) (st := []) dL_law_1192 l_RL_156 (ok_X11_open (d := 90) (by omega) (xs (i + 1)) h1) lx_0 ly_0 cn_11 (rmL (Nat.le_of_ble_eq_true rfl)) rfl rfl (Nat.le_of_ble_eq_true rfl) (Nat.le_of_ble_eq_true rfl) ?_
  refine V.aload_n (pc := 1195) dL_law_1195 rfl ?_
  refine V.aload_n (pc := 1196) dL_law_1196 rfl ?_
  refine V.iload_n (pc := 1197) dL_law_1197 rfl ?_
  refine V.iconst (pc := 1198) dL_law_1198 ic_1 ?_
  refine V.iadd (pc := 1199) dL_law_1199 ?_
  refine V.sldX (i := i) (j := 1) (pc := 1200) dL_law_1200 (sx_1 i) (by omega) hL ?_
  refine V.callV (pc := 1201) (As := [.int (xs (i + 1))]) (st := [.int r]) dL_law_1201 l_RL_159 (ok_X12_open (d := 90) (by omega) (xs (i + 1)) h2) lx_44 ly_44 cn_12 (rmL (Nat.le_of_ble_eq_true rfl)) rfl rfl (Nat.le_of_ble_eq_true rfl) (Nat.le_of_ble_eq_true rfl) ?_
  refine V.icmp_eq_t (t := 1998) (pc := 1204) dL_law_1204 (by decide) rfl ?_
  refine V.iinc (lv' := [some (.ref 3000), some (.ref 0), some (.ref 44), some (.int (nI (i + 6)))]) (pc := 1998) dL_law_1998 (Nat.le_of_ble_eq_true rfl) rfl rfl (v := nI (i + 6)) (by rw [show Int32.ofInt 6 = 6 from by decide]; exact sx_6 i) rfl ?_
  refine V.goto (t := 18) (pc := 2001) dL_law_2001 (by decide) ?_
  exact kk
/-- period -/
def stp_35 (a1 a2 a3 a4 a5 : Int32) (w w' : Wd) : Prop := ∃ (r : Int32), f_X11_period a1 (bz a2) w = some r ∧ f_X12_period a1 (bz a2) w = some r ∧ w' = w
set_option maxHeartbeats 4000000 in
set_option maxRecDepth 100000 in
theorem law_35 {G : GT} {b L : Nat} {xs : Nat → Int32} (hL : L ≤ 3072) {i : Nat} (hi : i + 6 ≤ L) {w w' : Wd} {Z : VZ} (h : stp_35 (xs (i + 1)) (xs (i + 2)) (xs (i + 3)) (xs (i + 4)) (xs (i + 5)) w w') (kk : V (vfL G b L xs) 70 141295 70 r0 18 [some (.ref 3000), some (.ref 0), some (.ref 44), some (.int (nI (i + 6)))] [] w' Z) : V (vfL G b L xs) 70 141295 70 r0 1209 [some (.ref 3000), some (.ref 0), some (.ref 44), some (.int (nI i))] [] w Z := by
  obtain ⟨r, h1, h2, rfl⟩ := h
  refine V.aload_n (pc := 1209) dL_law_1209 rfl ?_
  refine V.aload_n (pc := 1210) dL_law_1210 rfl ?_
  refine V.iload_n (pc := 1211) dL_law_1211 rfl ?_
  refine V.iconst (pc := 1212) dL_law_1212 ic_1 ?_
  refine V.iadd (pc := 1213) dL_law_1213 ?_
  refine V.sldX (i := i) (j := 1) (pc := 1214) dL_law_1214 (sx_1 i) (by omega) hL ?_
  refine V.aload_n (pc := 1215) dL_law_1215 rfl ?_
  refine V.iload_n (pc := 1216) dL_law_1216 rfl ?_
  refine V.iconst (pc := 1217) dL_law_1217 ic_2 ?_
  refine V.iadd (pc := 1218) dL_law_1218 ?_
  refine V.sldX (i := i) (j := 2) (pc := 1219) dL_law_1219 (sx_2 i) (by omega) hL ?_
  by_cases cxsi2 : (xs (i + 2)) = 0
  · have e : bz (xs (i + 2)) = 0 := if_pos cxsi2
    rw [e] at h1 h2
    refine V.if_eq_t (t := 1227) (pc := 1220) dL_law_1220 (by decide) cxsi2 ?_
    refine V.iconst (pc := 1227) dL_law_1227 ic_0 ?_
    refine V.callV (pc := 1228) (As := [.int (xs (i + 1)), .int 0]) (st := []) dL_law_1228 l_RL_160 (ok_X11_period (d := 90) (by omega) (xs (i + 1)) 0 h1) lx_0 ly_0 cn_11 (rmL (Nat.le_of_ble_eq_true rfl)) rfl rfl (Nat.le_of_ble_eq_true rfl) (Nat.le_of_ble_eq_true rfl) ?_
    refine V.aload_n (pc := 1231) dL_law_1231 rfl ?_
    refine V.aload_n (pc := 1232) dL_law_1232 rfl ?_
    refine V.iload_n (pc := 1233) dL_law_1233 rfl ?_
    refine V.iconst (pc := 1234) dL_law_1234 ic_1 ?_
    refine V.iadd (pc := 1235) dL_law_1235 ?_
    refine V.sldX (i := i) (j := 1) (pc := 1236) dL_law_1236 (sx_1 i) (by omega) hL ?_
    refine V.aload_n (pc := 1237) dL_law_1237 rfl ?_
    refine V.iload_n (pc := 1238) dL_law_1238 rfl ?_
    refine V.iconst (pc := 1239) dL_law_1239 ic_2 ?_
    refine V.iadd (pc := 1240) dL_law_1240 ?_
    refine V.sldX (i := i) (j := 2) (pc := 1241) dL_law_1241 (sx_2 i) (by omega) hL ?_
    refine V.if_eq_t (t := 1249) (pc := 1242) dL_law_1242 (by decide) cxsi2 ?_
    refine V.iconst (pc := 1249) dL_law_1249 ic_0 ?_
    refine V.callV (pc := 1250) (As := [.int (xs (i + 1)), .int 0]) (st := [.int r]) dL_law_1250 l_RL_163 (ok_X12_period (d := 90) (by omega) (xs (i + 1)) 0 h2) lx_44 ly_44 cn_12 (rmL (Nat.le_of_ble_eq_true rfl)) rfl rfl (Nat.le_of_ble_eq_true rfl) (Nat.le_of_ble_eq_true rfl) ?_
    refine V.icmp_eq_t (t := 1998) (pc := 1253) dL_law_1253 (by decide) rfl ?_
    refine V.iinc (lv' := [some (.ref 3000), some (.ref 0), some (.ref 44), some (.int (nI (i + 6)))]) (pc := 1998) dL_law_1998 (Nat.le_of_ble_eq_true rfl) rfl rfl (v := nI (i + 6)) (by rw [show Int32.ofInt 6 = 6 from by decide]; exact sx_6 i) rfl ?_
    refine V.goto (t := 18) (pc := 2001) dL_law_2001 (by decide) ?_
    exact kk
  · have e : bz (xs (i + 2)) = 1 := if_neg cxsi2
    rw [e] at h1 h2
    refine V.if_eq_f (t := 1227) (pc := 1220) dL_law_1220 (by decide) cxsi2 ?_
    refine V.iconst (pc := 1223) dL_law_1223 ic_1 ?_
    refine V.goto (t := 1228) (pc := 1224) dL_law_1224 (by decide) ?_
    refine V.callV (pc := 1228) (As := [.int (xs (i + 1)), .int 1]) (st := []) dL_law_1228 l_RL_160 (ok_X11_period (d := 90) (by omega) (xs (i + 1)) 1 h1) lx_0 ly_0 cn_11 (rmL (Nat.le_of_ble_eq_true rfl)) rfl rfl (Nat.le_of_ble_eq_true rfl) (Nat.le_of_ble_eq_true rfl) ?_
    refine V.aload_n (pc := 1231) dL_law_1231 rfl ?_
    refine V.aload_n (pc := 1232) dL_law_1232 rfl ?_
    refine V.iload_n (pc := 1233) dL_law_1233 rfl ?_
    refine V.iconst (pc := 1234) dL_law_1234 ic_1 ?_
    refine V.iadd (pc := 1235) dL_law_1235 ?_
    refine V.sldX (i := i) (j := 1) (pc := 1236) dL_law_1236 (sx_1 i) (by omega) hL ?_
    refine V.aload_n (pc := 1237) dL_law_1237 rfl ?_
    refine V.iload_n (pc := 1238) dL_law_1238 rfl ?_
    refine V.iconst (pc := 1239) dL_law_1239 ic_2 ?_
    refine V.iadd (pc := 1240) dL_law_1240 ?_
    refine V.sldX (i := i) (j := 2) (pc := 1241) dL_law_1241 (sx_2 i) (by omega) hL ?_
    refine V.if_eq_f (t := 1249) (pc := 1242) dL_law_1242 (by decide) cxsi2 ?_
    refine V.iconst (pc := 1245) dL_law_1245 ic_1 ?_
    refine V.goto (t := 1250) (pc := 1246) dL_law_1246 (by decide) ?_
    refine V.callV (pc := 1250) (As := [.int (xs (i + 1)), .int 1]) (st := [.int r]) dL_law_1250 l_RL_163 (ok_X12_period (d := 90) (by omega) (xs (i + 1)) 1 h2) lx_44 ly_44 cn_12 (rmL (Nat.le_of_ble_eq_true rfl)) rfl rfl (Nat.le_of_ble_eq_true rfl) (Nat.le_of_ble_eq_true rfl) ?_
    refine V.icmp_eq_t (t := 1998) (pc := 1253) dL_law_1253 (by decide) rfl ?_
    refine V.iinc (lv' := [some (.ref 3000), some (.ref 0), some (.ref 44), some (.int (nI (i + 6)))]) (pc := 1998) dL_law_1998 (Nat.le_of_ble_eq_true rfl) rfl rfl (v := nI (i + 6)) (by rw [show Int32.ofInt 6 = 6 from by decide]; exact sx_6 i) rfl ?_
    refine V.goto (t := 18) (pc := 2001) dL_law_2001 (by decide) ?_
    exact kk
/-- ways -/
def stp_36 (a1 a2 a3 a4 a5 : Int32) (w w' : Wd) : Prop := ∃ (r : Int32), f_X11_ways a1 a2 w = some r ∧ f_X12_ways a1 a2 w = some r ∧ w' = w
set_option maxHeartbeats 4000000 in
set_option maxRecDepth 100000 in
theorem law_36 {G : GT} {b L : Nat} {xs : Nat → Int32} (hL : L ≤ 3072) {i : Nat} (hi : i + 6 ≤ L) {w w' : Wd} {Z : VZ} (h : stp_36 (xs (i + 1)) (xs (i + 2)) (xs (i + 3)) (xs (i + 4)) (xs (i + 5)) w w') (kk : V (vfL G b L xs) 70 141295 70 r0 18 [some (.ref 3000), some (.ref 0), some (.ref 44), some (.int (nI (i + 6)))] [] w' Z) : V (vfL G b L xs) 70 141295 70 r0 1258 [some (.ref 3000), some (.ref 0), some (.ref 44), some (.int (nI i))] [] w Z := by
  obtain ⟨r, h1, h2, rfl⟩ := h
  refine V.aload_n (pc := 1258) dL_law_1258 rfl ?_
  refine V.aload_n (pc := 1259) dL_law_1259 rfl ?_
  refine V.iload_n (pc := 1260) dL_law_1260 rfl ?_
  refine V.iconst (pc := 1261) dL_law_1261 ic_1 ?_
  refine V.iadd (pc := 1262) dL_law_1262 ?_
  refine V.sldX (i := i) (j := 1) (pc := 1263) dL_law_1263 (sx_1 i) (by omega) hL ?_
  refine V.aload_n (pc := 1264) dL_law_1264 rfl ?_
  refine V.iload_n (pc := 1265) dL_law_1265 rfl ?_
  refine V.iconst (pc := 1266) dL_law_1266 ic_2 ?_
  refine V.iadd (pc := 1267) dL_law_1267 ?_
  refine V.sldX (i := i) (j := 2) (pc := 1268) dL_law_1268 (sx_2 i) (by omega) hL ?_
  refine V.callV (pc := 1269) (As := [.int (xs (i + 1)), .int (xs (i + 2))]) (st := []) dL_law_1269 l_RL_164 (ok_X11_ways (d := 90) (by omega) (xs (i + 1)) (xs (i + 2)) h1) lx_0 ly_0 cn_11 (rmL (Nat.le_of_ble_eq_true rfl)) rfl rfl (Nat.le_of_ble_eq_true rfl) (Nat.le_of_ble_eq_true rfl) ?_
  refine V.aload_n (pc := 1272) dL_law_1272 rfl ?_
  refine V.aload_n (pc := 1273) dL_law_1273 rfl ?_
  refine V.iload_n (pc := 1274) dL_law_1274 rfl ?_
  refine V.iconst (pc := 1275) dL_law_1275 ic_1 ?_
  refine V.iadd (pc := 1276) dL_law_1276 ?_
  refine V.sldX (i := i) (j := 1) (pc := 1277) dL_law_1277 (sx_1 i) (by omega) hL ?_
  refine V.aload_n (pc := 1278) dL_law_1278 rfl ?_
  refine V.iload_n (pc := 1279) dL_law_1279 rfl ?_
  refine V.iconst (pc := 1280) dL_law_1280 ic_2 ?_
  refine V.iadd (pc := 1281) dL_law_1281 ?_
  refine V.sldX (i := i) (j := 2) (pc := 1282) dL_law_1282 (sx_2 i) (by omega) hL ?_
  refine V.callV (pc := 1283) (As := [.int (xs (i + 1)), .int (xs (i + 2))]) (st := [.int r]) dL_law_1283 l_RL_167 (ok_X12_ways (d := 90) (by omega) (xs (i + 1)) (xs (i + 2)) h2) lx_44 ly_44 cn_12 (rmL (Nat.le_of_ble_eq_true rfl)) rfl rfl (Nat.le_of_ble_eq_true rfl) (Nat.le_of_ble_eq_true rfl) ?_
  refine V.icmp_eq_t (t := 1998) (pc := 1286) dL_law_1286 (by decide) rfl ?_
  refine V.iinc (lv' := [some (.ref 3000), some (.ref 0), some (.ref 44), some (.int (nI (i + 6)))]) (pc := 1998) dL_law_1998 (Nat.le_of_ble_eq_true rfl) rfl rfl (v := nI (i + 6)) (by rw [show Int32.ofInt 6 = 6 from by decide]; exact sx_6 i) rfl ?_
  refine V.goto (t := 18) (pc := 2001) dL_law_2001 (by decide) ?_
  exact kk
/-- energy -/
def stp_37 (a1 a2 a3 a4 a5 : Int32) (w w' : Wd) : Prop := ∃ (r : Int32), f_X11_energy a1 w = some r ∧ f_X12_energy a1 w = some r ∧ w' = w
set_option maxHeartbeats 4000000 in
set_option maxRecDepth 100000 in
theorem law_37 {G : GT} {b L : Nat} {xs : Nat → Int32} (hL : L ≤ 3072) {i : Nat} (hi : i + 6 ≤ L) {w w' : Wd} {Z : VZ} (h : stp_37 (xs (i + 1)) (xs (i + 2)) (xs (i + 3)) (xs (i + 4)) (xs (i + 5)) w w') (kk : V (vfL G b L xs) 70 141295 70 r0 18 [some (.ref 3000), some (.ref 0), some (.ref 44), some (.int (nI (i + 6)))] [] w' Z) : V (vfL G b L xs) 70 141295 70 r0 1291 [some (.ref 3000), some (.ref 0), some (.ref 44), some (.int (nI i))] [] w Z := by
  obtain ⟨r, h1, h2, rfl⟩ := h
  refine V.aload_n (pc := 1291) dL_law_1291 rfl ?_
  refine V.aload_n (pc := 1292) dL_law_1292 rfl ?_
  refine V.iload_n (pc := 1293) dL_law_1293 rfl ?_
  refine V.iconst (pc := 1294) dL_law_1294 ic_1 ?_
  refine V.iadd (pc := 1295) dL_law_1295 ?_
  refine V.sldX (i := i) (j := 1) (pc := 1296) dL_law_1296 (sx_1 i) (by omega) hL ?_
  refine V.callV (pc := 1297) (As := [.int (xs (i + 1))]) (st := []) dL_law_1297 l_RL_168 (ok_X11_energy (d := 90) (by omega) (xs (i + 1)) h1) lx_0 ly_0 cn_11 (rmL (Nat.le_of_ble_eq_true rfl)) rfl rfl (Nat.le_of_ble_eq_true rfl) (Nat.le_of_ble_eq_true rfl) ?_
  refine V.aload_n (pc := 1300) dL_law_1300 rfl ?_
  refine V.aload_n (pc := 1301) dL_law_1301 rfl ?_
  refine V.iload_n (pc := 1302) dL_law_1302 rfl ?_
  refine V.iconst (pc := 1303) dL_law_1303 ic_1 ?_
  refine V.iadd (pc := 1304) dL_law_1304 ?_
  refine V.sldX (i := i) (j := 1) (pc := 1305) dL_law_1305 (sx_1 i) (by omega) hL ?_
  refine V.callV (pc := 1306) (As := [.int (xs (i + 1))]) (st := [.int r]) dL_law_1306 l_RL_171 (ok_X12_energy (d := 90) (by omega) (xs (i + 1)) h2) lx_44 ly_44 cn_12 (rmL (Nat.le_of_ble_eq_true rfl)) rfl rfl (Nat.le_of_ble_eq_true rfl) (Nat.le_of_ble_eq_true rfl) ?_
  refine V.icmp_eq_t (t := 1998) (pc := 1309) dL_law_1309 (by decide) rfl ?_
  refine V.iinc (lv' := [some (.ref 3000), some (.ref 0), some (.ref 44), some (.int (nI (i + 6)))]) (pc := 1998) dL_law_1998 (Nat.le_of_ble_eq_true rfl) rfl rfl (v := nI (i + 6)) (by rw [show Int32.ofInt 6 = 6 from by decide]; exact sx_6 i) rfl ?_
  refine V.goto (t := 18) (pc := 2001) dL_law_2001 (by decide) ?_
  exact kk
/-- many -/
def stp_38 (a1 a2 a3 a4 a5 : Int32) (w w' : Wd) : Prop := ∃ (r : Int32) (w1 : Wd), f_X11_many a1 a2 w = some (r, w1) ∧ f_X12_many a1 a2 w1 = some r ∧ w' = w1
set_option maxHeartbeats 4000000 in
set_option maxRecDepth 100000 in
theorem law_38 {G : GT} {b L : Nat} {xs : Nat → Int32} (hL : L ≤ 3072) {i : Nat} (hi : i + 6 ≤ L) {w w' : Wd} {Z : VZ} (h : stp_38 (xs (i + 1)) (xs (i + 2)) (xs (i + 3)) (xs (i + 4)) (xs (i + 5)) w w') (kk : V (vfL G b L xs) 70 141295 70 r0 18 [some (.ref 3000), some (.ref 0), some (.ref 44), some (.int (nI (i + 6)))] [] w' Z) : V (vfL G b L xs) 70 141295 70 r0 1314 [some (.ref 3000), some (.ref 0), some (.ref 44), some (.int (nI i))] [] w Z := by
  obtain ⟨r, w1, h1, h2, rfl⟩ := h
  refine V.aload_n (pc := 1314) dL_law_1314 rfl ?_
  refine V.aload_n (pc := 1315) dL_law_1315 rfl ?_
  refine V.iload_n (pc := 1316) dL_law_1316 rfl ?_
  refine V.iconst (pc := 1317) dL_law_1317 ic_1 ?_
  refine V.iadd (pc := 1318) dL_law_1318 ?_
  refine V.sldX (i := i) (j := 1) (pc := 1319) dL_law_1319 (sx_1 i) (by omega) hL ?_
  refine V.aload_n (pc := 1320) dL_law_1320 rfl ?_
  refine V.iload_n (pc := 1321) dL_law_1321 rfl ?_
  refine V.iconst (pc := 1322) dL_law_1322 ic_2 ?_
  refine V.iadd (pc := 1323) dL_law_1323 ?_
  refine V.sldX (i := i) (j := 2) (pc := 1324) dL_law_1324 (sx_2 i) (by omega) hL ?_
  refine V.callV (pc := 1325) (As := [.int (xs (i + 1)), .int (xs (i + 2))]) (st := []) dL_law_1325 l_RL_172 (ok_X11_many (d := 90) (by omega) (xs (i + 1)) (xs (i + 2)) h1) lx_0 ly_0 cn_11 (rmL (Nat.le_of_ble_eq_true rfl)) rfl rfl (Nat.le_of_ble_eq_true rfl) (Nat.le_of_ble_eq_true rfl) ?_
  refine V.aload_n (pc := 1328) dL_law_1328 rfl ?_
  refine V.aload_n (pc := 1329) dL_law_1329 rfl ?_
  refine V.iload_n (pc := 1330) dL_law_1330 rfl ?_
  refine V.iconst (pc := 1331) dL_law_1331 ic_1 ?_
  refine V.iadd (pc := 1332) dL_law_1332 ?_
  refine V.sldX (i := i) (j := 1) (pc := 1333) dL_law_1333 (sx_1 i) (by omega) hL ?_
  refine V.aload_n (pc := 1334) dL_law_1334 rfl ?_
  refine V.iload_n (pc := 1335) dL_law_1335 rfl ?_
  refine V.iconst (pc := 1336) dL_law_1336 ic_2 ?_
  refine V.iadd (pc := 1337) dL_law_1337 ?_
  refine V.sldX (i := i) (j := 2) (pc := 1338) dL_law_1338 (sx_2 i) (by omega) hL ?_
  refine V.callV (pc := 1339) (As := [.int (xs (i + 1)), .int (xs (i + 2))]) (st := [.int r]) dL_law_1339 l_RL_175 (ok_X12_many (d := 90) (by omega) (xs (i + 1)) (xs (i + 2)) h2) lx_44 ly_44 cn_12 (rmL (Nat.le_of_ble_eq_true rfl)) rfl rfl (Nat.le_of_ble_eq_true rfl) (Nat.le_of_ble_eq_true rfl) ?_
  refine V.icmp_eq_t (t := 1998) (pc := 1342) dL_law_1342 (by decide) rfl ?_
  refine V.iinc (lv' := [some (.ref 3000), some (.ref 0), some (.ref 44), some (.int (nI (i + 6)))]) (pc := 1998) dL_law_1998 (Nat.le_of_ble_eq_true rfl) rfl rfl (v := nI (i + 6)) (by rw [show Int32.ofInt 6 = 6 from by decide]; exact sx_6 i) rfl ?_
  refine V.goto (t := 18) (pc := 2001) dL_law_2001 (by decide) ?_
  exact kk
/-- greatest -/
def stp_39 (a1 a2 a3 a4 a5 : Int32) (w w' : Wd) : Prop := ∃ (r : Int32) (w1 : Wd), f_X11_greatest w = some (r, w1) ∧ f_X12_greatest w1 = some r ∧ w' = w1
set_option maxHeartbeats 4000000 in
set_option maxRecDepth 100000 in
theorem law_39 {G : GT} {b L : Nat} {xs : Nat → Int32} (hL : L ≤ 3072) {i : Nat} (hi : i + 6 ≤ L) {w w' : Wd} {Z : VZ} (h : stp_39 (xs (i + 1)) (xs (i + 2)) (xs (i + 3)) (xs (i + 4)) (xs (i + 5)) w w') (kk : V (vfL G b L xs) 70 141295 70 r0 18 [some (.ref 3000), some (.ref 0), some (.ref 44), some (.int (nI (i + 6)))] [] w' Z) : V (vfL G b L xs) 70 141295 70 r0 1347 [some (.ref 3000), some (.ref 0), some (.ref 44), some (.int (nI i))] [] w Z := by
  obtain ⟨r, w1, h1, h2, rfl⟩ := h
  refine V.aload_n (pc := 1347) dL_law_1347 rfl ?_
  refine V.callV (pc := 1348) (As := []) (st := []) dL_law_1348 l_RL_176 (ok_X11_greatest (d := 90) (by omega)  h1) lx_0 ly_0 cn_11 (rmL (Nat.le_of_ble_eq_true rfl)) rfl rfl (Nat.le_of_ble_eq_true rfl) (Nat.le_of_ble_eq_true rfl) ?_
  refine V.aload_n (pc := 1351) dL_law_1351 rfl ?_
  refine V.callV (pc := 1352) (As := []) (st := [.int r]) dL_law_1352 l_RL_179 (ok_X12_greatest (d := 90) (by omega)  h2) lx_44 ly_44 cn_12 (rmL (Nat.le_of_ble_eq_true rfl)) rfl rfl (Nat.le_of_ble_eq_true rfl) (Nat.le_of_ble_eq_true rfl) ?_
  refine V.icmp_eq_t (t := 1998) (pc := 1355) dL_law_1355 (by decide) rfl ?_
  refine V.iinc (lv' := [some (.ref 3000), some (.ref 0), some (.ref 44), some (.int (nI (i + 6)))]) (pc := 1998) dL_law_1998 (Nat.le_of_ble_eq_true rfl) rfl rfl (v := nI (i + 6)) (by rw [show Int32.ofInt 6 = 6 from by decide]; exact sx_6 i) rfl ?_
  refine V.goto (t := 18) (pc := 2001) dL_law_2001 (by decide) ?_
  exact kk
/-- nth -/
def stp_40 (a1 a2 a3 a4 a5 : Int32) (w w' : Wd) : Prop := ∃ (r : Int32) (w1 : Wd), f_X11_nth a1 a2 a3 w = some (r, w1) ∧ f_X12_nth a1 a2 a3 w1 = some r ∧ w' = w1
set_option maxHeartbeats 4000000 in
set_option maxRecDepth 100000 in
theorem law_40 {G : GT} {b L : Nat} {xs : Nat → Int32} (hL : L ≤ 3072) {i : Nat} (hi : i + 6 ≤ L) {w w' : Wd} {Z : VZ} (h : stp_40 (xs (i + 1)) (xs (i + 2)) (xs (i + 3)) (xs (i + 4)) (xs (i + 5)) w w') (kk : V (vfL G b L xs) 70 141295 70 r0 18 [some (.ref 3000), some (.ref 0), some (.ref 44), some (.int (nI (i + 6)))] [] w' Z) : V (vfL G b L xs) 70 141295 70 r0 1360 [some (.ref 3000), some (.ref 0), some (.ref 44), some (.int (nI i))] [] w Z := by
  obtain ⟨r, w1, h1, h2, rfl⟩ := h
  refine V.aload_n (pc := 1360) dL_law_1360 rfl ?_
  refine V.aload_n (pc := 1361) dL_law_1361 rfl ?_
  refine V.iload_n (pc := 1362) dL_law_1362 rfl ?_
  refine V.iconst (pc := 1363) dL_law_1363 ic_1 ?_
  refine V.iadd (pc := 1364) dL_law_1364 ?_
  refine V.sldX (i := i) (j := 1) (pc := 1365) dL_law_1365 (sx_1 i) (by omega) hL ?_
  refine V.aload_n (pc := 1366) dL_law_1366 rfl ?_
  refine V.iload_n (pc := 1367) dL_law_1367 rfl ?_
  refine V.iconst (pc := 1368) dL_law_1368 ic_2 ?_
  refine V.iadd (pc := 1369) dL_law_1369 ?_
  refine V.sldX (i := i) (j := 2) (pc := 1370) dL_law_1370 (sx_2 i) (by omega) hL ?_
  refine V.aload_n (pc := 1371) dL_law_1371 rfl ?_
  refine V.iload_n (pc := 1372) dL_law_1372 rfl ?_
  refine V.iconst (pc := 1373) dL_law_1373 ic_3 ?_
  refine V.iadd (pc := 1374) dL_law_1374 ?_
  refine V.sldX (i := i) (j := 3) (pc := 1375) dL_law_1375 (sx_3 i) (by omega) hL ?_
  refine V.callV (pc := 1376) (As := [.int (xs (i + 1)), .int (xs (i + 2)), .int (xs (i + 3))]) (st := []) dL_law_1376 l_RL_180 (ok_X11_nth (d := 90) (by omega) (xs (i + 1)) (xs (i + 2)) (xs (i + 3)) h1) lx_0 ly_0 cn_11 (rmL (Nat.le_of_ble_eq_true rfl)) rfl rfl (Nat.le_of_ble_eq_true rfl) (Nat.le_of_ble_eq_true rfl) ?_
  refine V.aload_n (pc := 1379) dL_law_1379 rfl ?_
  refine V.aload_n (pc := 1380) dL_law_1380 rfl ?_
  refine V.iload_n (pc := 1381) dL_law_1381 rfl ?_
  refine V.iconst (pc := 1382) dL_law_1382 ic_1 ?_
  refine V.iadd (pc := 1383) dL_law_1383 ?_
  refine V.sldX (i := i) (j := 1) (pc := 1384) dL_law_1384 (sx_1 i) (by omega) hL ?_
  refine V.aload_n (pc := 1385) dL_law_1385 rfl ?_
  refine V.iload_n (pc := 1386) dL_law_1386 rfl ?_
  refine V.iconst (pc := 1387) dL_law_1387 ic_2 ?_
  refine V.iadd (pc := 1388) dL_law_1388 ?_
  refine V.sldX (i := i) (j := 2) (pc := 1389) dL_law_1389 (sx_2 i) (by omega) hL ?_
  refine V.aload_n (pc := 1390) dL_law_1390 rfl ?_
  refine V.iload_n (pc := 1391) dL_law_1391 rfl ?_
  refine V.iconst (pc := 1392) dL_law_1392 ic_3 ?_
  refine V.iadd (pc := 1393) dL_law_1393 ?_
  refine V.sldX (i := i) (j := 3) (pc := 1394) dL_law_1394 (sx_3 i) (by omega) hL ?_
  refine V.callV (pc := 1395) (As := [.int (xs (i + 1)), .int (xs (i + 2)), .int (xs (i + 3))]) (st := [.int r]) dL_law_1395 l_RL_184 (ok_X12_nth (d := 90) (by omega) (xs (i + 1)) (xs (i + 2)) (xs (i + 3)) h2) lx_44 ly_44 cn_12 (rmL (Nat.le_of_ble_eq_true rfl)) rfl rfl (Nat.le_of_ble_eq_true rfl) (Nat.le_of_ble_eq_true rfl) ?_
  refine V.icmp_eq_t (t := 1998) (pc := 1398) dL_law_1398 (by decide) rfl ?_
  refine V.iinc (lv' := [some (.ref 3000), some (.ref 0), some (.ref 44), some (.int (nI (i + 6)))]) (pc := 1998) dL_law_1998 (Nat.le_of_ble_eq_true rfl) rfl rfl (v := nI (i + 6)) (by rw [show Int32.ofInt 6 = 6 from by decide]; exact sx_6 i) rfl ?_
  refine V.goto (t := 18) (pc := 2001) dL_law_2001 (by decide) ?_
  exact kk
/-- within -/
def stp_41 (a1 a2 a3 a4 a5 : Int32) (w w' : Wd) : Prop := ∃ (r : Int32) (w1 : Wd), f_X11_within a1 (bz a2) w = some (r, w1) ∧ f_X12_within a1 (bz a2) w1 = some r ∧ w' = w1
set_option maxHeartbeats 4000000 in
set_option maxRecDepth 100000 in
theorem law_41 {G : GT} {b L : Nat} {xs : Nat → Int32} (hL : L ≤ 3072) {i : Nat} (hi : i + 6 ≤ L) {w w' : Wd} {Z : VZ} (h : stp_41 (xs (i + 1)) (xs (i + 2)) (xs (i + 3)) (xs (i + 4)) (xs (i + 5)) w w') (kk : V (vfL G b L xs) 70 141295 70 r0 18 [some (.ref 3000), some (.ref 0), some (.ref 44), some (.int (nI (i + 6)))] [] w' Z) : V (vfL G b L xs) 70 141295 70 r0 1403 [some (.ref 3000), some (.ref 0), some (.ref 44), some (.int (nI i))] [] w Z := by
  obtain ⟨r, w1, h1, h2, rfl⟩ := h
  refine V.aload_n (pc := 1403) dL_law_1403 rfl ?_
  refine V.aload_n (pc := 1404) dL_law_1404 rfl ?_
  refine V.iload_n (pc := 1405) dL_law_1405 rfl ?_
  refine V.iconst (pc := 1406) dL_law_1406 ic_1 ?_
  refine V.iadd (pc := 1407) dL_law_1407 ?_
  refine V.sldX (i := i) (j := 1) (pc := 1408) dL_law_1408 (sx_1 i) (by omega) hL ?_
  refine V.aload_n (pc := 1409) dL_law_1409 rfl ?_
  refine V.iload_n (pc := 1410) dL_law_1410 rfl ?_
  refine V.iconst (pc := 1411) dL_law_1411 ic_2 ?_
  refine V.iadd (pc := 1412) dL_law_1412 ?_
  refine V.sldX (i := i) (j := 2) (pc := 1413) dL_law_1413 (sx_2 i) (by omega) hL ?_
  by_cases cxsi2 : (xs (i + 2)) = 0
  · have e : bz (xs (i + 2)) = 0 := if_pos cxsi2
    rw [e] at h1 h2
    refine V.if_eq_t (t := 1421) (pc := 1414) dL_law_1414 (by decide) cxsi2 ?_
    refine V.iconst (pc := 1421) dL_law_1421 ic_0 ?_
    refine V.callV (pc := 1422) (As := [.int (xs (i + 1)), .int 0]) (st := []) dL_law_1422 l_RL_185 (ok_X11_within (d := 90) (by omega) (xs (i + 1)) 0 h1) lx_0 ly_0 cn_11 (rmL (Nat.le_of_ble_eq_true rfl)) rfl rfl (Nat.le_of_ble_eq_true rfl) (Nat.le_of_ble_eq_true rfl) ?_
    refine V.aload_n (pc := 1425) dL_law_1425 rfl ?_
    refine V.aload_n (pc := 1426) dL_law_1426 rfl ?_
    refine V.iload_n (pc := 1427) dL_law_1427 rfl ?_
    refine V.iconst (pc := 1428) dL_law_1428 ic_1 ?_
    refine V.iadd (pc := 1429) dL_law_1429 ?_
    refine V.sldX (i := i) (j := 1) (pc := 1430) dL_law_1430 (sx_1 i) (by omega) hL ?_
    refine V.aload_n (pc := 1431) dL_law_1431 rfl ?_
    refine V.iload_n (pc := 1432) dL_law_1432 rfl ?_
    refine V.iconst (pc := 1433) dL_law_1433 ic_2 ?_
    refine V.iadd (pc := 1434) dL_law_1434 ?_
    refine V.sldX (i := i) (j := 2) (pc := 1435) dL_law_1435 (sx_2 i) (by omega) hL ?_
    refine V.if_eq_t (t := 1443) (pc := 1436) dL_law_1436 (by decide) cxsi2 ?_
    refine V.iconst (pc := 1443) dL_law_1443 ic_0 ?_
    refine V.callV (pc := 1444) (As := [.int (xs (i + 1)), .int 0]) (st := [.int r]) dL_law_1444 l_RL_188 (ok_X12_within (d := 90) (by omega) (xs (i + 1)) 0 h2) lx_44 ly_44 cn_12 (rmL (Nat.le_of_ble_eq_true rfl)) rfl rfl (Nat.le_of_ble_eq_true rfl) (Nat.le_of_ble_eq_true rfl) ?_
    refine V.icmp_eq_t (t := 1998) (pc := 1447) dL_law_1447 (by decide) rfl ?_
    refine V.iinc (lv' := [some (.ref 3000), some (.ref 0), some (.ref 44), some (.int (nI (i + 6)))]) (pc := 1998) dL_law_1998 (Nat.le_of_ble_eq_true rfl) rfl rfl (v := nI (i + 6)) (by rw [show Int32.ofInt 6 = 6 from by decide]; exact sx_6 i) rfl ?_
    refine V.goto (t := 18) (pc := 2001) dL_law_2001 (by decide) ?_
    exact kk
  · have e : bz (xs (i + 2)) = 1 := if_neg cxsi2
    rw [e] at h1 h2
    refine V.if_eq_f (t := 1421) (pc := 1414) dL_law_1414 (by decide) cxsi2 ?_
    refine V.iconst (pc := 1417) dL_law_1417 ic_1 ?_
    refine V.goto (t := 1422) (pc := 1418) dL_law_1418 (by decide) ?_
    refine V.callV (pc := 1422) (As := [.int (xs (i + 1)), .int 1]) (st := []) dL_law_1422 l_RL_185 (ok_X11_within (d := 90) (by omega) (xs (i + 1)) 1 h1) lx_0 ly_0 cn_11 (rmL (Nat.le_of_ble_eq_true rfl)) rfl rfl (Nat.le_of_ble_eq_true rfl) (Nat.le_of_ble_eq_true rfl) ?_
    refine V.aload_n (pc := 1425) dL_law_1425 rfl ?_
    refine V.aload_n (pc := 1426) dL_law_1426 rfl ?_
    refine V.iload_n (pc := 1427) dL_law_1427 rfl ?_
    refine V.iconst (pc := 1428) dL_law_1428 ic_1 ?_
    refine V.iadd (pc := 1429) dL_law_1429 ?_
    refine V.sldX (i := i) (j := 1) (pc := 1430) dL_law_1430 (sx_1 i) (by omega) hL ?_
    refine V.aload_n (pc := 1431) dL_law_1431 rfl ?_
    refine V.iload_n (pc := 1432) dL_law_1432 rfl ?_
    refine V.iconst (pc := 1433) dL_law_1433 ic_2 ?_
    refine V.iadd (pc := 1434) dL_law_1434 ?_
    refine V.sldX (i := i) (j := 2) (pc := 1435) dL_law_1435 (sx_2 i) (by omega) hL ?_
    refine V.if_eq_f (t := 1443) (pc := 1436) dL_law_1436 (by decide) cxsi2 ?_
    refine V.iconst (pc := 1439) dL_law_1439 ic_1 ?_
    refine V.goto (t := 1444) (pc := 1440) dL_law_1440 (by decide) ?_
    refine V.callV (pc := 1444) (As := [.int (xs (i + 1)), .int 1]) (st := [.int r]) dL_law_1444 l_RL_188 (ok_X12_within (d := 90) (by omega) (xs (i + 1)) 1 h2) lx_44 ly_44 cn_12 (rmL (Nat.le_of_ble_eq_true rfl)) rfl rfl (Nat.le_of_ble_eq_true rfl) (Nat.le_of_ble_eq_true rfl) ?_
    refine V.icmp_eq_t (t := 1998) (pc := 1447) dL_law_1447 (by decide) rfl ?_
    refine V.iinc (lv' := [some (.ref 3000), some (.ref 0), some (.ref 44), some (.int (nI (i + 6)))]) (pc := 1998) dL_law_1998 (Nat.le_of_ble_eq_true rfl) rfl rfl (v := nI (i + 6)) (by rw [show Int32.ofInt 6 = 6 from by decide]; exact sx_6 i) rfl ?_
    refine V.goto (t := 18) (pc := 2001) dL_law_2001 (by decide) ?_
    exact kk
/-- nearest -/
def stp_42 (a1 a2 a3 a4 a5 : Int32) (w w' : Wd) : Prop := ∃ (r : Int32) (w1 : Wd), f_X11_nearest a1 a2 a3 w = some (r, w1) ∧ f_X12_nearest a1 a2 a3 w1 = some r ∧ w' = w1
set_option maxHeartbeats 4000000 in
set_option maxRecDepth 100000 in
theorem law_42 {G : GT} {b L : Nat} {xs : Nat → Int32} (hL : L ≤ 3072) {i : Nat} (hi : i + 6 ≤ L) {w w' : Wd} {Z : VZ} (h : stp_42 (xs (i + 1)) (xs (i + 2)) (xs (i + 3)) (xs (i + 4)) (xs (i + 5)) w w') (kk : V (vfL G b L xs) 70 141295 70 r0 18 [some (.ref 3000), some (.ref 0), some (.ref 44), some (.int (nI (i + 6)))] [] w' Z) : V (vfL G b L xs) 70 141295 70 r0 1452 [some (.ref 3000), some (.ref 0), some (.ref 44), some (.int (nI i))] [] w Z := by
  obtain ⟨r, w1, h1, h2, rfl⟩ := h
  refine V.aload_n (pc := 1452) dL_law_1452 rfl ?_
  refine V.aload_n (pc := 1453) dL_law_1453 rfl ?_
  refine V.iload_n (pc := 1454) dL_law_1454 rfl ?_
  refine V.iconst (pc := 1455) dL_law_1455 ic_1 ?_
  refine V.iadd (pc := 1456) dL_law_1456 ?_
  refine V.sldX (i := i) (j := 1) (pc := 1457) dL_law_1457 (sx_1 i) (by omega) hL ?_
  refine V.aload_n (pc := 1458) dL_law_1458 rfl ?_
  refine V.iload_n (pc := 1459) dL_law_1459 rfl ?_
  refine V.iconst (pc := 1460) dL_law_1460 ic_2 ?_
  refine V.iadd (pc := 1461) dL_law_1461 ?_
  refine V.sldX (i := i) (j := 2) (pc := 1462) dL_law_1462 (sx_2 i) (by omega) hL ?_
  refine V.aload_n (pc := 1463) dL_law_1463 rfl ?_
  refine V.iload_n (pc := 1464) dL_law_1464 rfl ?_
  refine V.iconst (pc := 1465) dL_law_1465 ic_3 ?_
  refine V.iadd (pc := 1466) dL_law_1466 ?_
  refine V.sldX (i := i) (j := 3) (pc := 1467) dL_law_1467 (sx_3 i) (by omega) hL ?_
  refine V.callV (pc := 1468) (As := [.int (xs (i + 1)), .int (xs (i + 2)), .int (xs (i + 3))]) (st := []) dL_law_1468 l_RL_189 (ok_X11_nearest (d := 90) (by omega) (xs (i + 1)) (xs (i + 2)) (xs (i + 3)) h1) lx_0 ly_0 cn_11 (rmL (Nat.le_of_ble_eq_true rfl)) rfl rfl (Nat.le_of_ble_eq_true rfl) (Nat.le_of_ble_eq_true rfl) ?_
  refine V.aload_n (pc := 1471) dL_law_1471 rfl ?_
  refine V.aload_n (pc := 1472) dL_law_1472 rfl ?_
  refine V.iload_n (pc := 1473) dL_law_1473 rfl ?_
  refine V.iconst (pc := 1474) dL_law_1474 ic_1 ?_
  refine V.iadd (pc := 1475) dL_law_1475 ?_
  refine V.sldX (i := i) (j := 1) (pc := 1476) dL_law_1476 (sx_1 i) (by omega) hL ?_
  refine V.aload_n (pc := 1477) dL_law_1477 rfl ?_
  refine V.iload_n (pc := 1478) dL_law_1478 rfl ?_
  refine V.iconst (pc := 1479) dL_law_1479 ic_2 ?_
  refine V.iadd (pc := 1480) dL_law_1480 ?_
  refine V.sldX (i := i) (j := 2) (pc := 1481) dL_law_1481 (sx_2 i) (by omega) hL ?_
  refine V.aload_n (pc := 1482) dL_law_1482 rfl ?_
  refine V.iload_n (pc := 1483) dL_law_1483 rfl ?_
  refine V.iconst (pc := 1484) dL_law_1484 ic_3 ?_
  refine V.iadd (pc := 1485) dL_law_1485 ?_
  refine V.sldX (i := i) (j := 3) (pc := 1486) dL_law_1486 (sx_3 i) (by omega) hL ?_
  refine V.callV (pc := 1487) (As := [.int (xs (i + 1)), .int (xs (i + 2)), .int (xs (i + 3))]) (st := [.int r]) dL_law_1487 l_RL_192 (ok_X12_nearest (d := 90) (by omega) (xs (i + 1)) (xs (i + 2)) (xs (i + 3)) h2) lx_44 ly_44 cn_12 (rmL (Nat.le_of_ble_eq_true rfl)) rfl rfl (Nat.le_of_ble_eq_true rfl) (Nat.le_of_ble_eq_true rfl) ?_
  refine V.icmp_eq_t (t := 1998) (pc := 1490) dL_law_1490 (by decide) rfl ?_
  refine V.iinc (lv' := [some (.ref 3000), some (.ref 0), some (.ref 44), some (.int (nI (i + 6)))]) (pc := 1998) dL_law_1998 (Nat.le_of_ble_eq_true rfl) rfl rfl (v := nI (i + 6)) (by rw [show Int32.ofInt 6 = 6 from by decide]; exact sx_6 i) rfl ?_
  refine V.goto (t := 18) (pc := 2001) dL_law_2001 (by decide) ?_
  exact kk
/-- best -/
def stp_43 (a1 a2 a3 a4 a5 : Int32) (w w' : Wd) : Prop := ∃ (r : Int32) (w1 : Wd), f_X11_best a1 w = some (r, w1) ∧ f_X12_best a1 w1 = some r ∧ w' = w1
set_option maxHeartbeats 4000000 in
set_option maxRecDepth 100000 in
theorem law_43 {G : GT} {b L : Nat} {xs : Nat → Int32} (hL : L ≤ 3072) {i : Nat} (hi : i + 6 ≤ L) {w w' : Wd} {Z : VZ} (h : stp_43 (xs (i + 1)) (xs (i + 2)) (xs (i + 3)) (xs (i + 4)) (xs (i + 5)) w w') (kk : V (vfL G b L xs) 70 141295 70 r0 18 [some (.ref 3000), some (.ref 0), some (.ref 44), some (.int (nI (i + 6)))] [] w' Z) : V (vfL G b L xs) 70 141295 70 r0 1495 [some (.ref 3000), some (.ref 0), some (.ref 44), some (.int (nI i))] [] w Z := by
  obtain ⟨r, w1, h1, h2, rfl⟩ := h
  refine V.aload_n (pc := 1495) dL_law_1495 rfl ?_
  refine V.aload_n (pc := 1496) dL_law_1496 rfl ?_
  refine V.iload_n (pc := 1497) dL_law_1497 rfl ?_
  refine V.iconst (pc := 1498) dL_law_1498 ic_1 ?_
  refine V.iadd (pc := 1499) dL_law_1499 ?_
  refine V.sldX (i := i) (j := 1) (pc := 1500) dL_law_1500 (sx_1 i) (by omega) hL ?_
  refine V.callV (pc := 1501) (As := [.int (xs (i + 1))]) (st := []) dL_law_1501 l_RL_193 (ok_X11_best (d := 90) (by omega) (xs (i + 1)) h1) lx_0 ly_0 cn_11 (rmL (Nat.le_of_ble_eq_true rfl)) rfl rfl (Nat.le_of_ble_eq_true rfl) (Nat.le_of_ble_eq_true rfl) ?_
  refine V.aload_n (pc := 1504) dL_law_1504 rfl ?_
  refine V.aload_n (pc := 1505) dL_law_1505 rfl ?_
  refine V.iload_n (pc := 1506) dL_law_1506 rfl ?_
  refine V.iconst (pc := 1507) dL_law_1507 ic_1 ?_
  refine V.iadd (pc := 1508) dL_law_1508 ?_
  refine V.sldX (i := i) (j := 1) (pc := 1509) dL_law_1509 (sx_1 i) (by omega) hL ?_
  refine V.callV (pc := 1510) (As := [.int (xs (i + 1))]) (st := [.int r]) dL_law_1510 l_RL_196 (ok_X12_best (d := 90) (by omega) (xs (i + 1)) h2) lx_44 ly_44 cn_12 (rmL (Nat.le_of_ble_eq_true rfl)) rfl rfl (Nat.le_of_ble_eq_true rfl) (Nat.le_of_ble_eq_true rfl) ?_
  refine V.icmp_eq_t (t := 1998) (pc := 1513) dL_law_1513 (by decide) rfl ?_
  refine V.iinc (lv' := [some (.ref 3000), some (.ref 0), some (.ref 44), some (.int (nI (i + 6)))]) (pc := 1998) dL_law_1998 (Nat.le_of_ble_eq_true rfl) rfl rfl (v := nI (i + 6)) (by rw [show Int32.ofInt 6 = 6 from by decide]; exact sx_6 i) rfl ?_
  refine V.goto (t := 18) (pc := 2001) dL_law_2001 (by decide) ?_
  exact kk
/-- mean -/
def stp_44 (a1 a2 a3 a4 a5 : Int32) (w w' : Wd) : Prop := ∃ (r : Int32) (w1 : Wd), f_X11_mean a1 (bz a2) w = some (r, w1) ∧ f_X12_mean a1 (bz a2) w1 = some r ∧ w' = w1
set_option maxHeartbeats 4000000 in
set_option maxRecDepth 100000 in
theorem law_44 {G : GT} {b L : Nat} {xs : Nat → Int32} (hL : L ≤ 3072) {i : Nat} (hi : i + 6 ≤ L) {w w' : Wd} {Z : VZ} (h : stp_44 (xs (i + 1)) (xs (i + 2)) (xs (i + 3)) (xs (i + 4)) (xs (i + 5)) w w') (kk : V (vfL G b L xs) 70 141295 70 r0 18 [some (.ref 3000), some (.ref 0), some (.ref 44), some (.int (nI (i + 6)))] [] w' Z) : V (vfL G b L xs) 70 141295 70 r0 1518 [some (.ref 3000), some (.ref 0), some (.ref 44), some (.int (nI i))] [] w Z := by
  obtain ⟨r, w1, h1, h2, rfl⟩ := h
  refine V.aload_n (pc := 1518) dL_law_1518 rfl ?_
  refine V.aload_n (pc := 1519) dL_law_1519 rfl ?_
  refine V.iload_n (pc := 1520) dL_law_1520 rfl ?_
  refine V.iconst (pc := 1521) dL_law_1521 ic_1 ?_
  refine V.iadd (pc := 1522) dL_law_1522 ?_
  refine V.sldX (i := i) (j := 1) (pc := 1523) dL_law_1523 (sx_1 i) (by omega) hL ?_
  refine V.aload_n (pc := 1524) dL_law_1524 rfl ?_
  refine V.iload_n (pc := 1525) dL_law_1525 rfl ?_
  refine V.iconst (pc := 1526) dL_law_1526 ic_2 ?_
  refine V.iadd (pc := 1527) dL_law_1527 ?_
  refine V.sldX (i := i) (j := 2) (pc := 1528) dL_law_1528 (sx_2 i) (by omega) hL ?_
  by_cases cxsi2 : (xs (i + 2)) = 0
  · have e : bz (xs (i + 2)) = 0 := if_pos cxsi2
    rw [e] at h1 h2
    refine V.if_eq_t (t := 1536) (pc := 1529) dL_law_1529 (by decide) cxsi2 ?_
    refine V.iconst (pc := 1536) dL_law_1536 ic_0 ?_
    refine V.callV (pc := 1537) (As := [.int (xs (i + 1)), .int 0]) (st := []) dL_law_1537 l_RL_197 (ok_X11_mean (d := 90) (by omega) (xs (i + 1)) 0 h1) lx_0 ly_0 cn_11 (rmL (Nat.le_of_ble_eq_true rfl)) rfl rfl (Nat.le_of_ble_eq_true rfl) (Nat.le_of_ble_eq_true rfl) ?_
    refine V.aload_n (pc := 1540) dL_law_1540 rfl ?_
    refine V.aload_n (pc := 1541) dL_law_1541 rfl ?_
    refine V.iload_n (pc := 1542) dL_law_1542 rfl ?_
    refine V.iconst (pc := 1543) dL_law_1543 ic_1 ?_
    refine V.iadd (pc := 1544) dL_law_1544 ?_
    refine V.sldX (i := i) (j := 1) (pc := 1545) dL_law_1545 (sx_1 i) (by omega) hL ?_
    refine V.aload_n (pc := 1546) dL_law_1546 rfl ?_
    refine V.iload_n (pc := 1547) dL_law_1547 rfl ?_
    refine V.iconst (pc := 1548) dL_law_1548 ic_2 ?_
    refine V.iadd (pc := 1549) dL_law_1549 ?_
    refine V.sldX (i := i) (j := 2) (pc := 1550) dL_law_1550 (sx_2 i) (by omega) hL ?_
    refine V.if_eq_t (t := 1558) (pc := 1551) dL_law_1551 (by decide) cxsi2 ?_
    refine V.iconst (pc := 1558) dL_law_1558 ic_0 ?_
    refine V.callV (pc := 1559) (As := [.int (xs (i + 1)), .int 0]) (st := [.int r]) dL_law_1559 l_RL_200 (ok_X12_mean (d := 90) (by omega) (xs (i + 1)) 0 h2) lx_44 ly_44 cn_12 (rmL (Nat.le_of_ble_eq_true rfl)) rfl rfl (Nat.le_of_ble_eq_true rfl) (Nat.le_of_ble_eq_true rfl) ?_
    refine V.icmp_eq_t (t := 1998) (pc := 1562) dL_law_1562 (by decide) rfl ?_
    refine V.iinc (lv' := [some (.ref 3000), some (.ref 0), some (.ref 44), some (.int (nI (i + 6)))]) (pc := 1998) dL_law_1998 (Nat.le_of_ble_eq_true rfl) rfl rfl (v := nI (i + 6)) (by rw [show Int32.ofInt 6 = 6 from by decide]; exact sx_6 i) rfl ?_
    refine V.goto (t := 18) (pc := 2001) dL_law_2001 (by decide) ?_
    exact kk
  · have e : bz (xs (i + 2)) = 1 := if_neg cxsi2
    rw [e] at h1 h2
    refine V.if_eq_f (t := 1536) (pc := 1529) dL_law_1529 (by decide) cxsi2 ?_
    refine V.iconst (pc := 1532) dL_law_1532 ic_1 ?_
    refine V.goto (t := 1537) (pc := 1533) dL_law_1533 (by decide) ?_
    refine V.callV (pc := 1537) (As := [.int (xs (i + 1)), .int 1]) (st := []) dL_law_1537 l_RL_197 (ok_X11_mean (d := 90) (by omega) (xs (i + 1)) 1 h1) lx_0 ly_0 cn_11 (rmL (Nat.le_of_ble_eq_true rfl)) rfl rfl (Nat.le_of_ble_eq_true rfl) (Nat.le_of_ble_eq_true rfl) ?_
    refine V.aload_n (pc := 1540) dL_law_1540 rfl ?_
    refine V.aload_n (pc := 1541) dL_law_1541 rfl ?_
    refine V.iload_n (pc := 1542) dL_law_1542 rfl ?_
    refine V.iconst (pc := 1543) dL_law_1543 ic_1 ?_
    refine V.iadd (pc := 1544) dL_law_1544 ?_
    refine V.sldX (i := i) (j := 1) (pc := 1545) dL_law_1545 (sx_1 i) (by omega) hL ?_
    refine V.aload_n (pc := 1546) dL_law_1546 rfl ?_
    refine V.iload_n (pc := 1547) dL_law_1547 rfl ?_
    refine V.iconst (pc := 1548) dL_law_1548 ic_2 ?_
    refine V.iadd (pc := 1549) dL_law_1549 ?_
    refine V.sldX (i := i) (j := 2) (pc := 1550) dL_law_1550 (sx_2 i) (by omega) hL ?_
    refine V.if_eq_f (t := 1558) (pc := 1551) dL_law_1551 (by decide) cxsi2 ?_
    refine V.iconst (pc := 1554) dL_law_1554 ic_1 ?_
    refine V.goto (t := 1559) (pc := 1555) dL_law_1555 (by decide) ?_
    refine V.callV (pc := 1559) (As := [.int (xs (i + 1)), .int 1]) (st := [.int r]) dL_law_1559 l_RL_200 (ok_X12_mean (d := 90) (by omega) (xs (i + 1)) 1 h2) lx_44 ly_44 cn_12 (rmL (Nat.le_of_ble_eq_true rfl)) rfl rfl (Nat.le_of_ble_eq_true rfl) (Nat.le_of_ble_eq_true rfl) ?_
    refine V.icmp_eq_t (t := 1998) (pc := 1562) dL_law_1562 (by decide) rfl ?_
    refine V.iinc (lv' := [some (.ref 3000), some (.ref 0), some (.ref 44), some (.int (nI (i + 6)))]) (pc := 1998) dL_law_1998 (Nat.le_of_ble_eq_true rfl) rfl rfl (v := nI (i + 6)) (by rw [show Int32.ofInt 6 = 6 from by decide]; exact sx_6 i) rfl ?_
    refine V.goto (t := 18) (pc := 2001) dL_law_2001 (by decide) ?_
    exact kk
/-- usual -/
def stp_45 (a1 a2 a3 a4 a5 : Int32) (w w' : Wd) : Prop := ∃ (r : Int32) (w1 w2 : Wd), f_X11_usual a1 w = some (r, w1) ∧ f_X12_usual a1 w1 = some (r, w2) ∧ w' = w2
set_option maxHeartbeats 4000000 in
set_option maxRecDepth 100000 in
theorem law_45 {G : GT} {b L : Nat} {xs : Nat → Int32} (hL : L ≤ 3072) {i : Nat} (hi : i + 6 ≤ L) {w w' : Wd} {Z : VZ} (h : stp_45 (xs (i + 1)) (xs (i + 2)) (xs (i + 3)) (xs (i + 4)) (xs (i + 5)) w w') (kk : V (vfL G b L xs) 70 141295 70 r0 18 [some (.ref 3000), some (.ref 0), some (.ref 44), some (.int (nI (i + 6)))] [] w' Z) : V (vfL G b L xs) 70 141295 70 r0 1567 [some (.ref 3000), some (.ref 0), some (.ref 44), some (.int (nI i))] [] w Z := by
  obtain ⟨r, w1, w2, h1, h2, rfl⟩ := h
  refine V.aload_n (pc := 1567) dL_law_1567 rfl ?_
  refine V.aload_n (pc := 1568) dL_law_1568 rfl ?_
  refine V.iload_n (pc := 1569) dL_law_1569 rfl ?_
  refine V.iconst (pc := 1570) dL_law_1570 ic_1 ?_
  refine V.iadd (pc := 1571) dL_law_1571 ?_
  refine V.sldX (i := i) (j := 1) (pc := 1572) dL_law_1572 (sx_1 i) (by omega) hL ?_
  refine V.callV (pc := 1573) (As := [.int (xs (i + 1))]) (st := []) dL_law_1573 l_RL_201 (ok_X11_usual (d := 90) (by omega) (xs (i + 1)) h1) lx_0 ly_0 cn_11 (rmL (Nat.le_of_ble_eq_true rfl)) rfl rfl (Nat.le_of_ble_eq_true rfl) (Nat.le_of_ble_eq_true rfl) ?_
  refine V.aload_n (pc := 1576) dL_law_1576 rfl ?_
  refine V.aload_n (pc := 1577) dL_law_1577 rfl ?_
  refine V.iload_n (pc := 1578) dL_law_1578 rfl ?_
  refine V.iconst (pc := 1579) dL_law_1579 ic_1 ?_
  refine V.iadd (pc := 1580) dL_law_1580 ?_
  refine V.sldX (i := i) (j := 1) (pc := 1581) dL_law_1581 (sx_1 i) (by omega) hL ?_
  refine V.callV (pc := 1582) (As := [.int (xs (i + 1))]) (st := [.int r]) dL_law_1582 l_RL_204 (ok_X12_usual (d := 90) (by omega) (xs (i + 1)) h2) lx_44 ly_44 cn_12 (rmL (Nat.le_of_ble_eq_true rfl)) rfl rfl (Nat.le_of_ble_eq_true rfl) (Nat.le_of_ble_eq_true rfl) ?_
  refine V.icmp_eq_t (t := 1998) (pc := 1585) dL_law_1585 (by decide) rfl ?_
  refine V.iinc (lv' := [some (.ref 3000), some (.ref 0), some (.ref 44), some (.int (nI (i + 6)))]) (pc := 1998) dL_law_1998 (Nat.le_of_ble_eq_true rfl) rfl rfl (v := nI (i + 6)) (by rw [show Int32.ofInt 6 = 6 from by decide]; exact sx_6 i) rfl ?_
  refine V.goto (t := 18) (pc := 2001) dL_law_2001 (by decide) ?_
  exact kk
/-- parts -/
def stp_46 (a1 a2 a3 a4 a5 : Int32) (w w' : Wd) : Prop := ∃ (r : Int32) (w1 w2 : Wd), f_X11_parts a1 w = some (r, w1) ∧ f_X12_parts a1 w1 = some (r, w2) ∧ w' = w2
set_option maxHeartbeats 4000000 in
set_option maxRecDepth 100000 in
theorem law_46 {G : GT} {b L : Nat} {xs : Nat → Int32} (hL : L ≤ 3072) {i : Nat} (hi : i + 6 ≤ L) {w w' : Wd} {Z : VZ} (h : stp_46 (xs (i + 1)) (xs (i + 2)) (xs (i + 3)) (xs (i + 4)) (xs (i + 5)) w w') (kk : V (vfL G b L xs) 70 141295 70 r0 18 [some (.ref 3000), some (.ref 0), some (.ref 44), some (.int (nI (i + 6)))] [] w' Z) : V (vfL G b L xs) 70 141295 70 r0 1590 [some (.ref 3000), some (.ref 0), some (.ref 44), some (.int (nI i))] [] w Z := by
  obtain ⟨r, w1, w2, h1, h2, rfl⟩ := h
  refine V.aload_n (pc := 1590) dL_law_1590 rfl ?_
  refine V.aload_n (pc := 1591) dL_law_1591 rfl ?_
  refine V.iload_n (pc := 1592) dL_law_1592 rfl ?_
  refine V.iconst (pc := 1593) dL_law_1593 ic_1 ?_
  refine V.iadd (pc := 1594) dL_law_1594 ?_
  refine V.sldX (i := i) (j := 1) (pc := 1595) dL_law_1595 (sx_1 i) (by omega) hL ?_
  refine V.callV (pc := 1596) (As := [.int (xs (i + 1))]) (st := []) dL_law_1596 l_RL_205 (ok_X11_parts (d := 90) (by omega) (xs (i + 1)) h1) lx_0 ly_0 cn_11 (rmL (Nat.le_of_ble_eq_true rfl)) rfl rfl (Nat.le_of_ble_eq_true rfl) (Nat.le_of_ble_eq_true rfl) ?_
  refine V.aload_n (pc := 1599) dL_law_1599 rfl ?_
  refine V.aload_n (pc := 1600) dL_law_1600 rfl ?_
  refine V.iload_n (pc := 1601) dL_law_1601 rfl ?_
  refine V.iconst (pc := 1602) dL_law_1602 ic_1 ?_
  refine V.iadd (pc := 1603) dL_law_1603 ?_
  refine V.sldX (i := i) (j := 1) (pc := 1604) dL_law_1604 (sx_1 i) (by omega) hL ?_
  refine V.callV (pc := 1605) (As := [.int (xs (i + 1))]) (st := [.int r]) dL_law_1605 l_RL_208 (ok_X12_parts (d := 90) (by omega) (xs (i + 1)) h2) lx_44 ly_44 cn_12 (rmL (Nat.le_of_ble_eq_true rfl)) rfl rfl (Nat.le_of_ble_eq_true rfl) (Nat.le_of_ble_eq_true rfl) ?_
  refine V.icmp_eq_t (t := 1998) (pc := 1608) dL_law_1608 (by decide) rfl ?_
  refine V.iinc (lv' := [some (.ref 3000), some (.ref 0), some (.ref 44), some (.int (nI (i + 6)))]) (pc := 1998) dL_law_1998 (Nat.le_of_ble_eq_true rfl) rfl rfl (v := nI (i + 6)) (by rw [show Int32.ofInt 6 = 6 from by decide]; exact sx_6 i) rfl ?_
  refine V.goto (t := 18) (pc := 2001) dL_law_2001 (by decide) ?_
  exact kk
/-- classes -/
def stp_47 (a1 a2 a3 a4 a5 : Int32) (w w' : Wd) : Prop := ∃ (r : Int32) (w1 w2 : Wd), f_X11_classes w = some (r, w1) ∧ f_X12_classes w1 = some (r, w2) ∧ w' = w2
set_option maxHeartbeats 4000000 in
set_option maxRecDepth 100000 in
theorem law_47 {G : GT} {b L : Nat} {xs : Nat → Int32} (hL : L ≤ 3072) {i : Nat} (hi : i + 6 ≤ L) {w w' : Wd} {Z : VZ} (h : stp_47 (xs (i + 1)) (xs (i + 2)) (xs (i + 3)) (xs (i + 4)) (xs (i + 5)) w w') (kk : V (vfL G b L xs) 70 141295 70 r0 18 [some (.ref 3000), some (.ref 0), some (.ref 44), some (.int (nI (i + 6)))] [] w' Z) : V (vfL G b L xs) 70 141295 70 r0 1613 [some (.ref 3000), some (.ref 0), some (.ref 44), some (.int (nI i))] [] w Z := by
  obtain ⟨r, w1, w2, h1, h2, rfl⟩ := h
  refine V.aload_n (pc := 1613) dL_law_1613 rfl ?_
  refine V.callV (pc := 1614) (As := []) (st := []) dL_law_1614 l_RL_209 (ok_X11_classes (d := 90) (by omega)  h1) lx_0 ly_0 cn_11 (rmL (Nat.le_of_ble_eq_true rfl)) rfl rfl (Nat.le_of_ble_eq_true rfl) (Nat.le_of_ble_eq_true rfl) ?_
  refine V.aload_n (pc := 1617) dL_law_1617 rfl ?_
  refine V.callV (pc := 1618) (As := []) (st := [.int r]) dL_law_1618 l_RL_212 (ok_X12_classes (d := 90) (by omega)  h2) lx_44 ly_44 cn_12 (rmL (Nat.le_of_ble_eq_true rfl)) rfl rfl (Nat.le_of_ble_eq_true rfl) (Nat.le_of_ble_eq_true rfl) ?_
  refine V.icmp_eq_t (t := 1998) (pc := 1621) dL_law_1621 (by decide) rfl ?_
  refine V.iinc (lv' := [some (.ref 3000), some (.ref 0), some (.ref 44), some (.int (nI (i + 6)))]) (pc := 1998) dL_law_1998 (Nat.le_of_ble_eq_true rfl) rfl rfl (v := nI (i + 6)) (by rw [show Int32.ofInt 6 = 6 from by decide]; exact sx_6 i) rfl ?_
  refine V.goto (t := 18) (pc := 2001) dL_law_2001 (by decide) ?_
  exact kk
/-- colour -/
def stp_48 (a1 a2 a3 a4 a5 : Int32) (w w' : Wd) : Prop := ∃ (r : Int32) (w1 w2 : Wd), f_X11_colour a1 w = some (r, w1) ∧ f_X12_colour a1 w1 = some (r, w2) ∧ w' = w2
set_option maxHeartbeats 4000000 in
set_option maxRecDepth 100000 in
theorem law_48 {G : GT} {b L : Nat} {xs : Nat → Int32} (hL : L ≤ 3072) {i : Nat} (hi : i + 6 ≤ L) {w w' : Wd} {Z : VZ} (h : stp_48 (xs (i + 1)) (xs (i + 2)) (xs (i + 3)) (xs (i + 4)) (xs (i + 5)) w w') (kk : V (vfL G b L xs) 70 141295 70 r0 18 [some (.ref 3000), some (.ref 0), some (.ref 44), some (.int (nI (i + 6)))] [] w' Z) : V (vfL G b L xs) 70 141295 70 r0 1626 [some (.ref 3000), some (.ref 0), some (.ref 44), some (.int (nI i))] [] w Z := by
  obtain ⟨r, w1, w2, h1, h2, rfl⟩ := h
  refine V.aload_n (pc := 1626) dL_law_1626 rfl ?_
  refine V.aload_n (pc := 1627) dL_law_1627 rfl ?_
  refine V.iload_n (pc := 1628) dL_law_1628 rfl ?_
  refine V.iconst (pc := 1629) dL_law_1629 ic_1 ?_
  refine V.iadd (pc := 1630) dL_law_1630 ?_
  refine V.sldX (i := i) (j := 1) (pc := 1631) dL_law_1631 (sx_1 i) (by omega) hL ?_
  refine V.callV (pc := 1632) (As := [.int (xs (i + 1))]) (st := []) dL_law_1632 l_RL_213 (ok_X11_colour (d := 90) (by omega) (xs (i + 1)) h1) lx_0 ly_0 cn_11 (rmL (Nat.le_of_ble_eq_true rfl)) rfl rfl (Nat.le_of_ble_eq_true rfl) (Nat.le_of_ble_eq_true rfl) ?_
  refine V.aload_n (pc := 1635) dL_law_1635 rfl ?_
  refine V.aload_n (pc := 1636) dL_law_1636 rfl ?_
  refine V.iload_n (pc := 1637) dL_law_1637 rfl ?_
  refine V.iconst (pc := 1638) dL_law_1638 ic_1 ?_
  refine V.iadd (pc := 1639) dL_law_1639 ?_
  refine V.sldX (i := i) (j := 1) (pc := 1640) dL_law_1640 (sx_1 i) (by omega) hL ?_
  refine V.callV (pc := 1641) (As := [.int (xs (i + 1))]) (st := [.int r]) dL_law_1641 l_RL_216 (ok_X12_colour (d := 90) (by omega) (xs (i + 1)) h2) lx_44 ly_44 cn_12 (rmL (Nat.le_of_ble_eq_true rfl)) rfl rfl (Nat.le_of_ble_eq_true rfl) (Nat.le_of_ble_eq_true rfl) ?_
  refine V.icmp_eq_t (t := 1998) (pc := 1644) dL_law_1644 (by decide) rfl ?_
  refine V.iinc (lv' := [some (.ref 3000), some (.ref 0), some (.ref 44), some (.int (nI (i + 6)))]) (pc := 1998) dL_law_1998 (Nat.le_of_ble_eq_true rfl) rfl rfl (v := nI (i + 6)) (by rw [show Int32.ofInt 6 = 6 from by decide]; exact sx_6 i) rfl ?_
  refine V.goto (t := 18) (pc := 2001) dL_law_2001 (by decide) ?_
  exact kk
/-- turns -/
def stp_49 (a1 a2 a3 a4 a5 : Int32) (w w' : Wd) : Prop := ∃ (r : Int32) (w1 w2 : Wd), f_X11_turns w = some (r, w1) ∧ f_X12_turns w1 = some (r, w2) ∧ w' = w2
set_option maxHeartbeats 4000000 in
set_option maxRecDepth 100000 in
theorem law_49 {G : GT} {b L : Nat} {xs : Nat → Int32} (hL : L ≤ 3072) {i : Nat} (hi : i + 6 ≤ L) {w w' : Wd} {Z : VZ} (h : stp_49 (xs (i + 1)) (xs (i + 2)) (xs (i + 3)) (xs (i + 4)) (xs (i + 5)) w w') (kk : V (vfL G b L xs) 70 141295 70 r0 18 [some (.ref 3000), some (.ref 0), some (.ref 44), some (.int (nI (i + 6)))] [] w' Z) : V (vfL G b L xs) 70 141295 70 r0 1649 [some (.ref 3000), some (.ref 0), some (.ref 44), some (.int (nI i))] [] w Z := by
  obtain ⟨r, w1, w2, h1, h2, rfl⟩ := h
  refine V.aload_n (pc := 1649) dL_law_1649 rfl ?_
  refine V.callV (pc := 1650) (As := []) (st := []) dL_law_1650 l_RL_217 (ok_X11_turns (d := 90) (by omega)  h1) lx_0 ly_0 cn_11 (rmL (Nat.le_of_ble_eq_true rfl)) rfl rfl (Nat.le_of_ble_eq_true rfl) (Nat.le_of_ble_eq_true rfl) ?_
  refine V.aload_n (pc := 1653) dL_law_1653 rfl ?_
  refine V.callV (pc := 1654) (As := []) (st := [.int r]) dL_law_1654 l_RL_220 (ok_X12_turns (d := 90) (by omega)  h2) lx_44 ly_44 cn_12 (rmL (Nat.le_of_ble_eq_true rfl)) rfl rfl (Nat.le_of_ble_eq_true rfl) (Nat.le_of_ble_eq_true rfl) ?_
  refine V.icmp_eq_t (t := 1998) (pc := 1657) dL_law_1657 (by decide) rfl ?_
  refine V.iinc (lv' := [some (.ref 3000), some (.ref 0), some (.ref 44), some (.int (nI (i + 6)))]) (pc := 1998) dL_law_1998 (Nat.le_of_ble_eq_true rfl) rfl rfl (v := nI (i + 6)) (by rw [show Int32.ofInt 6 = 6 from by decide]; exact sx_6 i) rfl ?_
  refine V.goto (t := 18) (pc := 2001) dL_law_2001 (by decide) ?_
  exact kk
/-- image -/
def stp_50 (a1 a2 a3 a4 a5 : Int32) (w w' : Wd) : Prop := ∃ (r : Int32) (w1 w2 : Wd), f_X11_image a1 w = some (r, w1) ∧ f_X12_image a1 w1 = some (r, w2) ∧ w' = w2
set_option maxHeartbeats 4000000 in
set_option maxRecDepth 100000 in
theorem law_50 {G : GT} {b L : Nat} {xs : Nat → Int32} (hL : L ≤ 3072) {i : Nat} (hi : i + 6 ≤ L) {w w' : Wd} {Z : VZ} (h : stp_50 (xs (i + 1)) (xs (i + 2)) (xs (i + 3)) (xs (i + 4)) (xs (i + 5)) w w') (kk : V (vfL G b L xs) 70 141295 70 r0 18 [some (.ref 3000), some (.ref 0), some (.ref 44), some (.int (nI (i + 6)))] [] w' Z) : V (vfL G b L xs) 70 141295 70 r0 1662 [some (.ref 3000), some (.ref 0), some (.ref 44), some (.int (nI i))] [] w Z := by
  obtain ⟨r, w1, w2, h1, h2, rfl⟩ := h
  refine V.aload_n (pc := 1662) dL_law_1662 rfl ?_
  refine V.aload_n (pc := 1663) dL_law_1663 rfl ?_
  refine V.iload_n (pc := 1664) dL_law_1664 rfl ?_
  refine V.iconst (pc := 1665) dL_law_1665 ic_1 ?_
  refine V.iadd (pc := 1666) dL_law_1666 ?_
  refine V.sldX (i := i) (j := 1) (pc := 1667) dL_law_1667 (sx_1 i) (by omega) hL ?_
  refine V.callV (pc := 1668) (As := [.int (xs (i + 1))]) (st := []) dL_law_1668 l_RL_221 (ok_X11_image (d := 90) (by omega) (xs (i + 1)) h1) lx_0 ly_0 cn_11 (rmL (Nat.le_of_ble_eq_true rfl)) rfl rfl (Nat.le_of_ble_eq_true rfl) (Nat.le_of_ble_eq_true rfl) ?_
  refine V.aload_n (pc := 1671) dL_law_1671 rfl ?_
  refine V.aload_n (pc := 1672) dL_law_1672 rfl ?_
  refine V.iload_n (pc := 1673) dL_law_1673 rfl ?_
  refine V.iconst (pc := 1674) dL_law_1674 ic_1 ?_
  refine V.iadd (pc := 1675) dL_law_1675 ?_
  refine V.sldX (i := i) (j := 1) (pc := 1676) dL_law_1676 (sx_1 i) (by omega) hL ?_
  refine V.callV (pc := 1677) (As := [.int (xs (i + 1))]) (st := [.int r]) dL_law_1677 l_RL_224 (ok_X12_image (d := 90) (by omega) (xs (i + 1)) h2) lx_44 ly_44 cn_12 (rmL (Nat.le_of_ble_eq_true rfl)) rfl rfl (Nat.le_of_ble_eq_true rfl) (Nat.le_of_ble_eq_true rfl) ?_
  refine V.icmp_eq_t (t := 1998) (pc := 1680) dL_law_1680 (by decide) rfl ?_
  refine V.iinc (lv' := [some (.ref 3000), some (.ref 0), some (.ref 44), some (.int (nI (i + 6)))]) (pc := 1998) dL_law_1998 (Nat.le_of_ble_eq_true rfl) rfl rfl (v := nI (i + 6)) (by rw [show Int32.ofInt 6 = 6 from by decide]; exact sx_6 i) rfl ?_
  refine V.goto (t := 18) (pc := 2001) dL_law_2001 (by decide) ?_
  exact kk
/-- orbit -/
def stp_51 (a1 a2 a3 a4 a5 : Int32) (w w' : Wd) : Prop := ∃ (r : Int32) (w1 w2 : Wd), f_X11_orbit a1 w = some (r, w1) ∧ f_X12_orbit a1 w1 = some (r, w2) ∧ w' = w2
set_option maxHeartbeats 4000000 in
set_option maxRecDepth 100000 in
theorem law_51 {G : GT} {b L : Nat} {xs : Nat → Int32} (hL : L ≤ 3072) {i : Nat} (hi : i + 6 ≤ L) {w w' : Wd} {Z : VZ} (h : stp_51 (xs (i + 1)) (xs (i + 2)) (xs (i + 3)) (xs (i + 4)) (xs (i + 5)) w w') (kk : V (vfL G b L xs) 70 141295 70 r0 18 [some (.ref 3000), some (.ref 0), some (.ref 44), some (.int (nI (i + 6)))] [] w' Z) : V (vfL G b L xs) 70 141295 70 r0 1685 [some (.ref 3000), some (.ref 0), some (.ref 44), some (.int (nI i))] [] w Z := by
  obtain ⟨r, w1, w2, h1, h2, rfl⟩ := h
  refine V.aload_n (pc := 1685) dL_law_1685 rfl ?_
  refine V.aload_n (pc := 1686) dL_law_1686 rfl ?_
  refine V.iload_n (pc := 1687) dL_law_1687 rfl ?_
  refine V.iconst (pc := 1688) dL_law_1688 ic_1 ?_
  refine V.iadd (pc := 1689) dL_law_1689 ?_
  refine V.sldX (i := i) (j := 1) (pc := 1690) dL_law_1690 (sx_1 i) (by omega) hL ?_
  refine V.callV (pc := 1691) (As := [.int (xs (i + 1))]) (st := []) dL_law_1691 l_RL_225 (ok_X11_orbit (d := 90) (by omega) (xs (i + 1)) h1) lx_0 ly_0 cn_11 (rmL (Nat.le_of_ble_eq_true rfl)) rfl rfl (Nat.le_of_ble_eq_true rfl) (Nat.le_of_ble_eq_true rfl) ?_
  refine V.aload_n (pc := 1694) dL_law_1694 rfl ?_
  refine V.aload_n (pc := 1695) dL_law_1695 rfl ?_
  refine V.iload_n (pc := 1696) dL_law_1696 rfl ?_
  refine V.iconst (pc := 1697) dL_law_1697 ic_1 ?_
  refine V.iadd (pc := 1698) dL_law_1698 ?_
  refine V.sldX (i := i) (j := 1) (pc := 1699) dL_law_1699 (sx_1 i) (by omega) hL ?_
  refine V.callV (pc := 1700) (As := [.int (xs (i + 1))]) (st := [.int r]) dL_law_1700 l_RL_228 (ok_X12_orbit (d := 90) (by omega) (xs (i + 1)) h2) lx_44 ly_44 cn_12 (rmL (Nat.le_of_ble_eq_true rfl)) rfl rfl (Nat.le_of_ble_eq_true rfl) (Nat.le_of_ble_eq_true rfl) ?_
  refine V.icmp_eq_t (t := 1998) (pc := 1703) dL_law_1703 (by decide) rfl ?_
  refine V.iinc (lv' := [some (.ref 3000), some (.ref 0), some (.ref 44), some (.int (nI (i + 6)))]) (pc := 1998) dL_law_1998 (Nat.le_of_ble_eq_true rfl) rfl rfl (v := nI (i + 6)) (by rw [show Int32.ofInt 6 = 6 from by decide]; exact sx_6 i) rfl ?_
  refine V.goto (t := 18) (pc := 2001) dL_law_2001 (by decide) ?_
  exact kk
/-- orbits -/
def stp_52 (a1 a2 a3 a4 a5 : Int32) (w w' : Wd) : Prop := ∃ (r : Int32) (w1 w2 : Wd), f_X11_orbits a1 a2 w = some (r, w1) ∧ f_X12_orbits a1 a2 w1 = some (r, w2) ∧ w' = w2
set_option maxHeartbeats 4000000 in
set_option maxRecDepth 100000 in
theorem law_52 {G : GT} {b L : Nat} {xs : Nat → Int32} (hL : L ≤ 3072) {i : Nat} (hi : i + 6 ≤ L) {w w' : Wd} {Z : VZ} (h : stp_52 (xs (i + 1)) (xs (i + 2)) (xs (i + 3)) (xs (i + 4)) (xs (i + 5)) w w') (kk : V (vfL G b L xs) 70 141295 70 r0 18 [some (.ref 3000), some (.ref 0), some (.ref 44), some (.int (nI (i + 6)))] [] w' Z) : V (vfL G b L xs) 70 141295 70 r0 1708 [some (.ref 3000), some (.ref 0), some (.ref 44), some (.int (nI i))] [] w Z := by
  obtain ⟨r, w1, w2, h1, h2, rfl⟩ := h
  refine V.aload_n (pc := 1708) dL_law_1708 rfl ?_
  refine V.aload_n (pc := 1709) dL_law_1709 rfl ?_
  refine V.iload_n (pc := 1710) dL_law_1710 rfl ?_
  refine V.iconst (pc := 1711) dL_law_1711 ic_1 ?_
  refine V.iadd (pc := 1712) dL_law_1712 ?_
  refine V.sldX (i := i) (j := 1) (pc := 1713) dL_law_1713 (sx_1 i) (by omega) hL ?_
  refine V.aload_n (pc := 1714) dL_law_1714 rfl ?_
  refine V.iload_n (pc := 1715) dL_law_1715 rfl ?_
  refine V.iconst (pc := 1716) dL_law_1716 ic_2 ?_
  refine V.iadd (pc := 1717) dL_law_1717 ?_
  refine V.sldX (i := i) (j := 2) (pc := 1718) dL_law_1718 (sx_2 i) (by omega) hL ?_
  refine V.callV (pc := 1719) (As := [.int (xs (i + 1)), .int (xs (i + 2))]) (st := []) dL_law_1719 l_RL_229 (ok_X11_orbits (d := 90) (by omega) (xs (i + 1)) (xs (i + 2)) h1) lx_0 ly_0 cn_11 (rmL (Nat.le_of_ble_eq_true rfl)) rfl rfl (Nat.le_of_ble_eq_true rfl) (Nat.le_of_ble_eq_true rfl) ?_
  refine V.aload_n (pc := 1722) dL_law_1722 rfl ?_
  refine V.aload_n (pc := 1723) dL_law_1723 rfl ?_
  refine V.iload_n (pc := 1724) dL_law_1724 rfl ?_
  refine V.iconst (pc := 1725) dL_law_1725 ic_1 ?_
  refine V.iadd (pc := 1726) dL_law_1726 ?_
  refine V.sldX (i := i) (j := 1) (pc := 1727) dL_law_1727 (sx_1 i) (by omega) hL ?_
  refine V.aload_n (pc := 1728) dL_law_1728 rfl ?_
  refine V.iload_n (pc := 1729) dL_law_1729 rfl ?_
  refine V.iconst (pc := 1730) dL_law_1730 ic_2 ?_
  refine V.iadd (pc := 1731) dL_law_1731 ?_
  refine V.sldX (i := i) (j := 2) (pc := 1732) dL_law_1732 (sx_2 i) (by omega) hL ?_
  refine V.callV (pc := 1733) (As := [.int (xs (i + 1)), .int (xs (i + 2))]) (st := [.int r]) dL_law_1733 l_RL_232 (ok_X12_orbits (d := 90) (by omega) (xs (i + 1)) (xs (i + 2)) h2) lx_44 ly_44 cn_12 (rmL (Nat.le_of_ble_eq_true rfl)) rfl rfl (Nat.le_of_ble_eq_true rfl) (Nat.le_of_ble_eq_true rfl) ?_
  refine V.icmp_eq_t (t := 1998) (pc := 1736) dL_law_1736 (by decide) rfl ?_
  refine V.iinc (lv' := [some (.ref 3000), some (.ref 0), some (.ref 44), some (.int (nI (i + 6)))]) (pc := 1998) dL_law_1998 (Nat.le_of_ble_eq_true rfl) rfl rfl (v := nI (i + 6)) (by rw [show Int32.ofInt 6 = 6 from by decide]; exact sx_6 i) rfl ?_
  refine V.goto (t := 18) (pc := 2001) dL_law_2001 (by decide) ?_
  exact kk
/-- characters -/
def stp_53 (a1 a2 a3 a4 a5 : Int32) (w w' : Wd) : Prop := ∃ (r : Int32) (w1 w2 : Wd), f_X11_characters a1 w = some (r, w1) ∧ f_X12_characters a1 w1 = some (r, w2) ∧ w' = w2
set_option maxHeartbeats 4000000 in
set_option maxRecDepth 100000 in
theorem law_53 {G : GT} {b L : Nat} {xs : Nat → Int32} (hL : L ≤ 3072) {i : Nat} (hi : i + 6 ≤ L) {w w' : Wd} {Z : VZ} (h : stp_53 (xs (i + 1)) (xs (i + 2)) (xs (i + 3)) (xs (i + 4)) (xs (i + 5)) w w') (kk : V (vfL G b L xs) 70 141295 70 r0 18 [some (.ref 3000), some (.ref 0), some (.ref 44), some (.int (nI (i + 6)))] [] w' Z) : V (vfL G b L xs) 70 141295 70 r0 1741 [some (.ref 3000), some (.ref 0), some (.ref 44), some (.int (nI i))] [] w Z := by
  obtain ⟨r, w1, w2, h1, h2, rfl⟩ := h
  refine V.aload_n (pc := 1741) dL_law_1741 rfl ?_
  refine V.aload_n (pc := 1742) dL_law_1742 rfl ?_
  refine V.iload_n (pc := 1743) dL_law_1743 rfl ?_
  refine V.iconst (pc := 1744) dL_law_1744 ic_1 ?_
  refine V.iadd (pc := 1745) dL_law_1745 ?_
  refine V.sldX (i := i) (j := 1) (pc := 1746) dL_law_1746 (sx_1 i) (by omega) hL ?_
  refine V.callV (pc := 1747) (As := [.int (xs (i + 1))]) (st := []) dL_law_1747 l_RL_233 (ok_X11_characters (d := 90) (by omega) (xs (i + 1)) h1) lx_0 ly_0 cn_11 (rmL (Nat.le_of_ble_eq_true rfl)) rfl rfl (Nat.le_of_ble_eq_true rfl) (Nat.le_of_ble_eq_true rfl) ?_
  refine V.aload_n (pc := 1750) dL_law_1750 rfl ?_
  refine V.aload_n (pc := 1751) dL_law_1751 rfl ?_
  refine V.iload_n (pc := 1752) dL_law_1752 rfl ?_
  refine V.iconst (pc := 1753) dL_law_1753 ic_1 ?_
  refine V.iadd (pc := 1754) dL_law_1754 ?_
  refine V.sldX (i := i) (j := 1) (pc := 1755) dL_law_1755 (sx_1 i) (by omega) hL ?_
  refine V.callV (pc := 1756) (As := [.int (xs (i + 1))]) (st := [.int r]) dL_law_1756 l_RL_236 (ok_X12_characters (d := 90) (by omega) (xs (i + 1)) h2) lx_44 ly_44 cn_12 (rmL (Nat.le_of_ble_eq_true rfl)) rfl rfl (Nat.le_of_ble_eq_true rfl) (Nat.le_of_ble_eq_true rfl) ?_
  refine V.icmp_eq_t (t := 1998) (pc := 1759) dL_law_1759 (by decide) rfl ?_
  refine V.iinc (lv' := [some (.ref 3000), some (.ref 0), some (.ref 44), some (.int (nI (i + 6)))]) (pc := 1998) dL_law_1998 (Nat.le_of_ble_eq_true rfl) rfl rfl (v := nI (i + 6)) (by rw [show Int32.ofInt 6 = 6 from by decide]; exact sx_6 i) rfl ?_
  refine V.goto (t := 18) (pc := 2001) dL_law_2001 (by decide) ?_
  exact kk
/-- character -/
def stp_54 (a1 a2 a3 a4 a5 : Int32) (w w' : Wd) : Prop := ∃ (r : Int32) (w1 w2 : Wd), f_X11_character a1 a2 a3 w = some (r, w1) ∧ f_X12_character a1 a2 a3 w1 = some (r, w2) ∧ w' = w2
set_option maxHeartbeats 4000000 in
set_option maxRecDepth 100000 in
theorem law_54 {G : GT} {b L : Nat} {xs : Nat → Int32} (hL : L ≤ 3072) {i : Nat} (hi : i + 6 ≤ L) {w w' : Wd} {Z : VZ} (h : stp_54 (xs (i + 1)) (xs (i + 2)) (xs (i + 3)) (xs (i + 4)) (xs (i + 5)) w w') (kk : V (vfL G b L xs) 70 141295 70 r0 18 [some (.ref 3000), some (.ref 0), some (.ref 44), some (.int (nI (i + 6)))] [] w' Z) : V (vfL G b L xs) 70 141295 70 r0 1764 [some (.ref 3000), some (.ref 0), some (.ref 44), some (.int (nI i))] [] w Z := by
  obtain ⟨r, w1, w2, h1, h2, rfl⟩ := h
  refine V.aload_n (pc := 1764) dL_law_1764 rfl ?_
  refine V.aload_n (pc := 1765) dL_law_1765 rfl ?_
  refine V.iload_n (pc := 1766) dL_law_1766 rfl ?_
  refine V.iconst (pc := 1767) dL_law_1767 ic_1 ?_
  refine V.iadd (pc := 1768) dL_law_1768 ?_
  refine V.sldX (i := i) (j := 1) (pc := 1769) dL_law_1769 (sx_1 i) (by omega) hL ?_
  refine V.aload_n (pc := 1770) dL_law_1770 rfl ?_
  refine V.iload_n (pc := 1771) dL_law_1771 rfl ?_
  refine V.iconst (pc := 1772) dL_law_1772 ic_2 ?_
  refine V.iadd (pc := 1773) dL_law_1773 ?_
  refine V.sldX (i := i) (j := 2) (pc := 1774) dL_law_1774 (sx_2 i) (by omega) hL ?_
  refine V.aload_n (pc := 1775) dL_law_1775 rfl ?_
  refine V.iload_n (pc := 1776) dL_law_1776 rfl ?_
  refine V.iconst (pc := 1777) dL_law_1777 ic_3 ?_
  refine V.iadd (pc := 1778) dL_law_1778 ?_
  refine V.sldX (i := i) (j := 3) (pc := 1779) dL_law_1779 (sx_3 i) (by omega) hL ?_
  refine V.callV (pc := 1780) (As := [.int (xs (i + 1)), .int (xs (i + 2)), .int (xs (i + 3))]) (st := []) dL_law_1780 l_RL_237 (ok_X11_character (d := 90) (by omega) (xs (i + 1)) (xs (i + 2)) (xs (i + 3)) h1) lx_0 ly_0 cn_11 (rmL (Nat.le_of_ble_eq_true rfl)) rfl rfl (Nat.le_of_ble_eq_true rfl) (Nat.le_of_ble_eq_true rfl) ?_
  refine V.aload_n (pc := 1783) dL_law_1783 rfl ?_
  refine V.aload_n (pc := 1784) dL_law_1784 rfl ?_
  refine V.iload_n (pc := 1785) dL_law_1785 rfl ?_
  refine V.iconst (pc := 1786) dL_law_1786 ic_1 ?_
  refine V.iadd (pc := 1787) dL_law_1787 ?_
  refine V.sldX (i := i) (j := 1) (pc := 1788) dL_law_1788 (sx_1 i) (by omega) hL ?_
  refine V.aload_n (pc := 1789) dL_law_1789 rfl ?_
  refine V.iload_n (pc := 1790) dL_law_1790 rfl ?_
  refine V.iconst (pc := 1791) dL_law_1791 ic_2 ?_
  refine V.iadd (pc := 1792) dL_law_1792 ?_
  refine V.sldX (i := i) (j := 2) (pc := 1793) dL_law_1793 (sx_2 i) (by omega) hL ?_
  refine V.aload_n (pc := 1794) dL_law_1794 rfl ?_
  refine V.iload_n (pc := 1795) dL_law_1795 rfl ?_
  refine V.iconst (pc := 1796) dL_law_1796 ic_3 ?_
  refine V.iadd (pc := 1797) dL_law_1797 ?_
  refine V.sldX (i := i) (j := 3) (pc := 1798) dL_law_1798 (sx_3 i) (by omega) hL ?_
  refine V.callV (pc := 1799) (As := [.int (xs (i + 1)), .int (xs (i + 2)), .int (xs (i + 3))]) (st := [.int r]) dL_law_1799 l_RL_240 (ok_X12_character (d := 90) (by omega) (xs (i + 1)) (xs (i + 2)) (xs (i + 3)) h2) lx_44 ly_44 cn_12 (rmL (Nat.le_of_ble_eq_true rfl)) rfl rfl (Nat.le_of_ble_eq_true rfl) (Nat.le_of_ble_eq_true rfl) ?_
  refine V.icmp_eq_t (t := 1998) (pc := 1802) dL_law_1802 (by decide) rfl ?_
  refine V.iinc (lv' := [some (.ref 3000), some (.ref 0), some (.ref 44), some (.int (nI (i + 6)))]) (pc := 1998) dL_law_1998 (Nat.le_of_ble_eq_true rfl) rfl rfl (v := nI (i + 6)) (by rw [show Int32.ofInt 6 = 6 from by decide]; exact sx_6 i) rfl ?_
  refine V.goto (t := 18) (pc := 2001) dL_law_2001 (by decide) ?_
  exact kk
/-- lift -/
def stp_55 (a1 a2 a3 a4 a5 : Int32) (w w' : Wd) : Prop := ∃ (r : Int32) (w1 w2 : Wd), f_X11_lift a1 a2 a3 w = some (r, w1) ∧ f_X12_lift a1 a2 a3 w1 = some (r, w2) ∧ w' = w2
set_option maxHeartbeats 4000000 in
set_option maxRecDepth 100000 in
theorem law_55 {G : GT} {b L : Nat} {xs : Nat → Int32} (hL : L ≤ 3072) {i : Nat} (hi : i + 6 ≤ L) {w w' : Wd} {Z : VZ} (h : stp_55 (xs (i + 1)) (xs (i + 2)) (xs (i + 3)) (xs (i + 4)) (xs (i + 5)) w w') (kk : V (vfL G b L xs) 70 141295 70 r0 18 [some (.ref 3000), some (.ref 0), some (.ref 44), some (.int (nI (i + 6)))] [] w' Z) : V (vfL G b L xs) 70 141295 70 r0 1807 [some (.ref 3000), some (.ref 0), some (.ref 44), some (.int (nI i))] [] w Z := by
  obtain ⟨r, w1, w2, h1, h2, rfl⟩ := h
  refine V.aload_n (pc := 1807) dL_law_1807 rfl ?_
  refine V.aload_n (pc := 1808) dL_law_1808 rfl ?_
  refine V.iload_n (pc := 1809) dL_law_1809 rfl ?_
  refine V.iconst (pc := 1810) dL_law_1810 ic_1 ?_
  refine V.iadd (pc := 1811) dL_law_1811 ?_
  refine V.sldX (i := i) (j := 1) (pc := 1812) dL_law_1812 (sx_1 i) (by omega) hL ?_
  refine V.aload_n (pc := 1813) dL_law_1813 rfl ?_
  refine V.iload_n (pc := 1814) dL_law_1814 rfl ?_
  refine V.iconst (pc := 1815) dL_law_1815 ic_2 ?_
  refine V.iadd (pc := 1816) dL_law_1816 ?_
  refine V.sldX (i := i) (j := 2) (pc := 1817) dL_law_1817 (sx_2 i) (by omega) hL ?_
  refine V.aload_n (pc := 1818) dL_law_1818 rfl ?_
  refine V.iload_n (pc := 1819) dL_law_1819 rfl ?_
  refine V.iconst (pc := 1820) dL_law_1820 ic_3 ?_
  refine V.iadd (pc := 1821) dL_law_1821 ?_
  refine V.sldX (i := i) (j := 3) (pc := 1822) dL_law_1822 (sx_3 i) (by omega) hL ?_
  refine V.callV (pc := 1823) (As := [.int (xs (i + 1)), .int (xs (i + 2)), .int (xs (i + 3))]) (st := []) dL_law_1823 l_RL_241 (ok_X11_lift (d := 90) (by omega) (xs (i + 1)) (xs (i + 2)) (xs (i + 3)) h1) lx_0 ly_0 cn_11 (rmL (Nat.le_of_ble_eq_true rfl)) rfl rfl (Nat.le_of_ble_eq_true rfl) (Nat.le_of_ble_eq_true rfl) ?_
  refine V.aload_n (pc := 1826) dL_law_1826 rfl ?_
  refine V.aload_n (pc := 1827) dL_law_1827 rfl ?_
  refine V.iload_n (pc := 1828) dL_law_1828 rfl ?_
  refine V.iconst (pc := 1829) dL_law_1829 ic_1 ?_
  refine V.iadd (pc := 1830) dL_law_1830 ?_
  refine V.sldX (i := i) (j := 1) (pc := 1831) dL_law_1831 (sx_1 i) (by omega) hL ?_
  refine V.aload_n (pc := 1832) dL_law_1832 rfl ?_
  refine V.iload_n (pc := 1833) dL_law_1833 rfl ?_
  refine V.iconst (pc := 1834) dL_law_1834 ic_2 ?_
  refine V.iadd (pc := 1835) dL_law_1835 ?_
  refine V.sldX (i := i) (j := 2) (pc := 1836) dL_law_1836 (sx_2 i) (by omega) hL ?_
  refine V.aload_n (pc := 1837) dL_law_1837 rfl ?_
  refine V.iload_n (pc := 1838) dL_law_1838 rfl ?_
  refine V.iconst (pc := 1839) dL_law_1839 ic_3 ?_
  refine V.iadd (pc := 1840) dL_law_1840 ?_
  refine V.sldX (i := i) (j := 3) (pc := 1841) dL_law_1841 (sx_3 i) (by omega) hL ?_
  refine V.callV (pc := 1842) (As := [.int (xs (i + 1)), .int (xs (i + 2)), .int (xs (i + 3))]) (st := [.int r]) dL_law_1842 l_RL_244 (ok_X12_lift (d := 90) (by omega) (xs (i + 1)) (xs (i + 2)) (xs (i + 3)) h2) lx_44 ly_44 cn_12 (rmL (Nat.le_of_ble_eq_true rfl)) rfl rfl (Nat.le_of_ble_eq_true rfl) (Nat.le_of_ble_eq_true rfl) ?_
  refine V.icmp_eq_t (t := 1998) (pc := 1845) dL_law_1845 (by decide) rfl ?_
  refine V.iinc (lv' := [some (.ref 3000), some (.ref 0), some (.ref 44), some (.int (nI (i + 6)))]) (pc := 1998) dL_law_1998 (Nat.le_of_ble_eq_true rfl) rfl rfl (v := nI (i + 6)) (by rw [show Int32.ofInt 6 = 6 from by decide]; exact sx_6 i) rfl ?_
  refine V.goto (t := 18) (pc := 2001) dL_law_2001 (by decide) ?_
  exact kk
/-- middle -/
def stp_56 (a1 a2 a3 a4 a5 : Int32) (w w' : Wd) : Prop := ∃ (r : Int32), f_X11_middle a1 = some r ∧ f_X12_middle a1 = some r ∧ w' = w
set_option maxHeartbeats 4000000 in
set_option maxRecDepth 100000 in
theorem law_56 {G : GT} {b L : Nat} {xs : Nat → Int32} (hL : L ≤ 3072) {i : Nat} (hi : i + 6 ≤ L) {w w' : Wd} {Z : VZ} (h : stp_56 (xs (i + 1)) (xs (i + 2)) (xs (i + 3)) (xs (i + 4)) (xs (i + 5)) w w') (kk : V (vfL G b L xs) 70 141295 70 r0 18 [some (.ref 3000), some (.ref 0), some (.ref 44), some (.int (nI (i + 6)))] [] w' Z) : V (vfL G b L xs) 70 141295 70 r0 1850 [some (.ref 3000), some (.ref 0), some (.ref 44), some (.int (nI i))] [] w Z := by
  obtain ⟨r, h1, h2, rfl⟩ := h
  refine V.aload_n (pc := 1850) dL_law_1850 rfl ?_
  refine V.aload_n (pc := 1851) dL_law_1851 rfl ?_
  refine V.iload_n (pc := 1852) dL_law_1852 rfl ?_
  refine V.iconst (pc := 1853) dL_law_1853 ic_1 ?_
  refine V.iadd (pc := 1854) dL_law_1854 ?_
  refine V.sldX (i := i) (j := 1) (pc := 1855) dL_law_1855 (sx_1 i) (by omega) hL ?_
  refine V.callV (pc := 1856) (As := [.int (xs (i + 1))]) (st := []) dL_law_1856 l_RL_245 (ok_X11_middle (d := 90) (by omega) (xs (i + 1)) h1) lx_0 ly_0 cn_11 (rmL (Nat.le_of_ble_eq_true rfl)) rfl rfl (Nat.le_of_ble_eq_true rfl) (Nat.le_of_ble_eq_true rfl) ?_
  refine V.aload_n (pc := 1859) dL_law_1859 rfl ?_
  refine V.aload_n (pc := 1860) dL_law_1860 rfl ?_
  refine V.iload_n (pc := 1861) dL_law_1861 rfl ?_
  refine V.iconst (pc := 1862) dL_law_1862 ic_1 ?_
  refine V.iadd (pc := 1863) dL_law_1863 ?_
  refine V.sldX (i := i) (j := 1) (pc := 1864) dL_law_1864 (sx_1 i) (by omega) hL ?_
  refine V.callV (pc := 1865) (As := [.int (xs (i + 1))]) (st := [.int r]) dL_law_1865 l_RL_248 (ok_X12_middle (d := 90) (by omega) (xs (i + 1)) h2) lx_44 ly_44 cn_12 (rmL (Nat.le_of_ble_eq_true rfl)) rfl rfl (Nat.le_of_ble_eq_true rfl) (Nat.le_of_ble_eq_true rfl) ?_
  refine V.icmp_eq_t (t := 1998) (pc := 1868) dL_law_1868 (by decide) rfl ?_
  refine V.iinc (lv' := [some (.ref 3000), some (.ref 0), some (.ref 44), some (.int (nI (i + 6)))]) (pc := 1998) dL_law_1998 (Nat.le_of_ble_eq_true rfl) rfl rfl (v := nI (i + 6)) (by rw [show Int32.ofInt 6 = 6 from by decide]; exact sx_6 i) rfl ?_
  refine V.goto (t := 18) (pc := 2001) dL_law_2001 (by decide) ?_
  exact kk
/-- lifted -/
def stp_57 (a1 a2 a3 a4 a5 : Int32) (w w' : Wd) : Prop := ∃ (r : Int32) (w1 w2 : Wd), f_X11_lifted a1 w = some (r, w1) ∧ f_X12_lifted a1 w1 = some (r, w2) ∧ w' = w2
set_option maxHeartbeats 4000000 in
set_option maxRecDepth 100000 in
theorem law_57 {G : GT} {b L : Nat} {xs : Nat → Int32} (hL : L ≤ 3072) {i : Nat} (hi : i + 6 ≤ L) {w w' : Wd} {Z : VZ} (h : stp_57 (xs (i + 1)) (xs (i + 2)) (xs (i + 3)) (xs (i + 4)) (xs (i + 5)) w w') (kk : V (vfL G b L xs) 70 141295 70 r0 18 [some (.ref 3000), some (.ref 0), some (.ref 44), some (.int (nI (i + 6)))] [] w' Z) : V (vfL G b L xs) 70 141295 70 r0 1873 [some (.ref 3000), some (.ref 0), some (.ref 44), some (.int (nI i))] [] w Z := by
  obtain ⟨r, w1, w2, h1, h2, rfl⟩ := h
  refine V.aload_n (pc := 1873) dL_law_1873 rfl ?_
  refine V.aload_n (pc := 1874) dL_law_1874 rfl ?_
  refine V.iload_n (pc := 1875) dL_law_1875 rfl ?_
  refine V.iconst (pc := 1876) dL_law_1876 ic_1 ?_
  refine V.iadd (pc := 1877) dL_law_1877 ?_
  refine V.sldX (i := i) (j := 1) (pc := 1878) dL_law_1878 (sx_1 i) (by omega) hL ?_
  refine V.callV (pc := 1879) (As := [.int (xs (i + 1))]) (st := []) dL_law_1879 l_RL_249 (ok_X11_lifted (d := 90) (by omega) (xs (i + 1)) h1) lx_0 ly_0 cn_11 (rmL (Nat.le_of_ble_eq_true rfl)) rfl rfl (Nat.le_of_ble_eq_true rfl) (Nat.le_of_ble_eq_true rfl) ?_
  refine V.aload_n (pc := 1882) dL_law_1882 rfl ?_
  refine V.aload_n (pc := 1883) dL_law_1883 rfl ?_
  refine V.iload_n (pc := 1884) dL_law_1884 rfl ?_
  refine V.iconst (pc := 1885) dL_law_1885 ic_1 ?_
  refine V.iadd (pc := 1886) dL_law_1886 ?_
  refine V.sldX (i := i) (j := 1) (pc := 1887) dL_law_1887 (sx_1 i) (by omega) hL ?_
  refine V.callV (pc := 1888) (As := [.int (xs (i + 1))]) (st := [.int r]) dL_law_1888 l_RL_252 (ok_X12_lifted (d := 90) (by omega) (xs (i + 1)) h2) lx_44 ly_44 cn_12 (rmL (Nat.le_of_ble_eq_true rfl)) rfl rfl (Nat.le_of_ble_eq_true rfl) (Nat.le_of_ble_eq_true rfl) ?_
  refine V.icmp_eq_t (t := 1998) (pc := 1891) dL_law_1891 (by decide) rfl ?_
  refine V.iinc (lv' := [some (.ref 3000), some (.ref 0), some (.ref 44), some (.int (nI (i + 6)))]) (pc := 1998) dL_law_1998 (Nat.le_of_ble_eq_true rfl) rfl rfl (v := nI (i + 6)) (by rw [show Int32.ofInt 6 = 6 from by decide]; exact sx_6 i) rfl ?_
  refine V.goto (t := 18) (pc := 2001) dL_law_2001 (by decide) ?_
  exact kk
/-- ints -/
def stp_58 (a1 a2 a3 a4 a5 : Int32) (w w' : Wd) : Prop := ∃ (r : Int32), f_X11_ints a1 a2 = some r ∧ f_X12_ints a1 a2 = some r ∧ w' = w
set_option maxHeartbeats 4000000 in
set_option maxRecDepth 100000 in
theorem law_58 {G : GT} {b L : Nat} {xs : Nat → Int32} (hL : L ≤ 3072) {i : Nat} (hi : i + 6 ≤ L) {w w' : Wd} {Z : VZ} (h : stp_58 (xs (i + 1)) (xs (i + 2)) (xs (i + 3)) (xs (i + 4)) (xs (i + 5)) w w') (kk : V (vfL G b L xs) 70 141295 70 r0 18 [some (.ref 3000), some (.ref 0), some (.ref 44), some (.int (nI (i + 6)))] [] w' Z) : V (vfL G b L xs) 70 141295 70 r0 1896 [some (.ref 3000), some (.ref 0), some (.ref 44), some (.int (nI i))] [] w Z := by
  obtain ⟨r, h1, h2, rfl⟩ := h
  refine V.aload_n (pc := 1896) dL_law_1896 rfl ?_
  refine V.aload_n (pc := 1897) dL_law_1897 rfl ?_
  refine V.iload_n (pc := 1898) dL_law_1898 rfl ?_
  refine V.iconst (pc := 1899) dL_law_1899 ic_1 ?_
  refine V.iadd (pc := 1900) dL_law_1900 ?_
  refine V.sldX (i := i) (j := 1) (pc := 1901) dL_law_1901 (sx_1 i) (by omega) hL ?_
  refine V.aload_n (pc := 1902) dL_law_1902 rfl ?_
  refine V.iload_n (pc := 1903) dL_law_1903 rfl ?_
  refine V.iconst (pc := 1904) dL_law_1904 ic_2 ?_
  refine V.iadd (pc := 1905) dL_law_1905 ?_
  refine V.sldX (i := i) (j := 2) (pc := 1906) dL_law_1906 (sx_2 i) (by omega) hL ?_
  refine V.callV (pc := 1907) (As := [.int (xs (i + 1)), .int (xs (i + 2))]) (st := []) dL_law_1907 l_RL_253 (ok_X11_ints (d := 90) (by omega) (xs (i + 1)) (xs (i + 2)) h1) lx_0 ly_0 cn_11 (rmL (Nat.le_of_ble_eq_true rfl)) rfl rfl (Nat.le_of_ble_eq_true rfl) (Nat.le_of_ble_eq_true rfl) ?_
  refine V.aload_n (pc := 1910) dL_law_1910 rfl ?_
  refine V.aload_n (pc := 1911) dL_law_1911 rfl ?_
  refine V.iload_n (pc := 1912) dL_law_1912 rfl ?_
  refine V.iconst (pc := 1913) dL_law_1913 ic_1 ?_
  refine V.iadd (pc := 1914) dL_law_1914 ?_
  refine V.sldX (i := i) (j := 1) (pc := 1915) dL_law_1915 (sx_1 i) (by omega) hL ?_
  refine V.aload_n (pc := 1916) dL_law_1916 rfl ?_
  refine V.iload_n (pc := 1917) dL_law_1917 rfl ?_
  refine V.iconst (pc := 1918) dL_law_1918 ic_2 ?_
  refine V.iadd (pc := 1919) dL_law_1919 ?_
  refine V.sldX (i := i) (j := 2) (pc := 1920) dL_law_1920 (sx_2 i) (by omega) hL ?_
  refine V.callV (pc := 1921) (As := [.int (xs (i + 1)), .int (xs (i + 2))]) (st := [.int r]) dL_law_1921 l_RL_256 (ok_X12_ints (d := 90) (by omega) (xs (i + 1)) (xs (i + 2)) h2) lx_44 ly_44 cn_12 (rmL (Nat.le_of_ble_eq_true rfl)) rfl rfl (Nat.le_of_ble_eq_true rfl) (Nat.le_of_ble_eq_true rfl) ?_
  refine V.icmp_eq_t (t := 1998) (pc := 1924) dL_law_1924 (by decide) rfl ?_
  refine V.iinc (lv' := [some (.ref 3000), some (.ref 0), some (.ref 44), some (.int (nI (i + 6)))]) (pc := 1998) dL_law_1998 (Nat.le_of_ble_eq_true rfl) rfl rfl (v := nI (i + 6)) (by rw [show Int32.ofInt 6 = 6 from by decide]; exact sx_6 i) rfl ?_
  refine V.goto (t := 18) (pc := 2001) dL_law_2001 (by decide) ?_
  exact kk
/-- spell -/
def stp_59 (a1 a2 a3 a4 a5 : Int32) (w w' : Wd) : Prop := ∃ (r : Int32) (w1 w2 : Wd), f_X11_spell a1 w = some (r, w1) ∧ f_X12_spell a1 w1 = some (r, w2) ∧ w' = w2
set_option maxHeartbeats 4000000 in
set_option maxRecDepth 100000 in
theorem law_59 {G : GT} {b L : Nat} {xs : Nat → Int32} (hL : L ≤ 3072) {i : Nat} (hi : i + 6 ≤ L) {w w' : Wd} {Z : VZ} (h : stp_59 (xs (i + 1)) (xs (i + 2)) (xs (i + 3)) (xs (i + 4)) (xs (i + 5)) w w') (kk : V (vfL G b L xs) 70 141295 70 r0 18 [some (.ref 3000), some (.ref 0), some (.ref 44), some (.int (nI (i + 6)))] [] w' Z) : V (vfL G b L xs) 70 141295 70 r0 1929 [some (.ref 3000), some (.ref 0), some (.ref 44), some (.int (nI i))] [] w Z := by
  obtain ⟨r, w1, w2, h1, h2, rfl⟩ := h
  refine V.aload_n (pc := 1929) dL_law_1929 rfl ?_
  refine V.aload_n (pc := 1930) dL_law_1930 rfl ?_
  refine V.iload_n (pc := 1931) dL_law_1931 rfl ?_
  refine V.iconst (pc := 1932) dL_law_1932 ic_1 ?_
  refine V.iadd (pc := 1933) dL_law_1933 ?_
  refine V.sldX (i := i) (j := 1) (pc := 1934) dL_law_1934 (sx_1 i) (by omega) hL ?_
  refine V.callV (pc := 1935) (As := [.int (xs (i + 1))]) (st := []) dL_law_1935 l_RL_257 (ok_X11_spell (d := 90) (by omega) (xs (i + 1)) h1) lx_0 ly_0 cn_11 (rmL (Nat.le_of_ble_eq_true rfl)) rfl rfl (Nat.le_of_ble_eq_true rfl) (Nat.le_of_ble_eq_true rfl) ?_
  refine V.aload_n (pc := 1938) dL_law_1938 rfl ?_
  refine V.aload_n (pc := 1939) dL_law_1939 rfl ?_
  refine V.iload_n (pc := 1940) dL_law_1940 rfl ?_
  refine V.iconst (pc := 1941) dL_law_1941 ic_1 ?_
  refine V.iadd (pc := 1942) dL_law_1942 ?_
  refine V.sldX (i := i) (j := 1) (pc := 1943) dL_law_1943 (sx_1 i) (by omega) hL ?_
  refine V.callV (pc := 1944) (As := [.int (xs (i + 1))]) (st := [.int r]) dL_law_1944 l_RL_260 (ok_X12_spell (d := 90) (by omega) (xs (i + 1)) h2) lx_44 ly_44 cn_12 (rmL (Nat.le_of_ble_eq_true rfl)) rfl rfl (Nat.le_of_ble_eq_true rfl) (Nat.le_of_ble_eq_true rfl) ?_
  refine V.icmp_eq_t (t := 1998) (pc := 1947) dL_law_1947 (by decide) rfl ?_
  refine V.iinc (lv' := [some (.ref 3000), some (.ref 0), some (.ref 44), some (.int (nI (i + 6)))]) (pc := 1998) dL_law_1998 (Nat.le_of_ble_eq_true rfl) rfl rfl (v := nI (i + 6)) (by rw [show Int32.ofInt 6 = 6 from by decide]; exact sx_6 i) rfl ?_
  refine V.goto (t := 18) (pc := 2001) dL_law_2001 (by decide) ?_
  exact kk
/-- report -/
def stp_60 (a1 a2 a3 a4 a5 : Int32) (w w' : Wd) : Prop := ∃ (r : Int32) (w1 w2 : Wd), f_X11_report a1 w = some (r, w1) ∧ f_X12_report a1 w1 = some (r, w2) ∧ w' = w2
set_option maxHeartbeats 4000000 in
set_option maxRecDepth 100000 in
theorem law_60 {G : GT} {b L : Nat} {xs : Nat → Int32} (hL : L ≤ 3072) {i : Nat} (hi : i + 6 ≤ L) {w w' : Wd} {Z : VZ} (h : stp_60 (xs (i + 1)) (xs (i + 2)) (xs (i + 3)) (xs (i + 4)) (xs (i + 5)) w w') (kk : V (vfL G b L xs) 70 141295 70 r0 18 [some (.ref 3000), some (.ref 0), some (.ref 44), some (.int (nI (i + 6)))] [] w' Z) : V (vfL G b L xs) 70 141295 70 r0 1952 [some (.ref 3000), some (.ref 0), some (.ref 44), some (.int (nI i))] [] w Z := by
  obtain ⟨r, w1, w2, h1, h2, rfl⟩ := h
  refine V.aload_n (pc := 1952) dL_law_1952 rfl ?_
  refine V.aload_n (pc := 1953) dL_law_1953 rfl ?_
  refine V.iload_n (pc := 1954) dL_law_1954 rfl ?_
  refine V.iconst (pc := 1955) dL_law_1955 ic_1 ?_
  refine V.iadd (pc := 1956) dL_law_1956 ?_
  refine V.sldX (i := i) (j := 1) (pc := 1957) dL_law_1957 (sx_1 i) (by omega) hL ?_
  refine V.callV (pc := 1958) (As := [.int (xs (i + 1))]) (st := []) dL_law_1958 l_RL_261 (ok_X11_report (d := 90) (by omega) (xs (i + 1)) h1) lx_0 ly_0 cn_11 (rmL (Nat.le_of_ble_eq_true rfl)) rfl rfl (Nat.le_of_ble_eq_true rfl) (Nat.le_of_ble_eq_true rfl) ?_
  refine V.aload_n (pc := 1961) dL_law_1961 rfl ?_
  refine V.aload_n (pc := 1962) dL_law_1962 rfl ?_
  refine V.iload_n (pc := 1963) dL_law_1963 rfl ?_
  refine V.iconst (pc := 1964) dL_law_1964 ic_1 ?_
  refine V.iadd (pc := 1965) dL_law_1965 ?_
  refine V.sldX (i := i) (j := 1) (pc := 1966) dL_law_1966 (sx_1 i) (by omega) hL ?_
  refine V.callV (pc := 1967) (As := [.int (xs (i + 1))]) (st := [.int r]) dL_law_1967 l_RL_264 (ok_X12_report (d := 90) (by omega) (xs (i + 1)) h2) lx_44 ly_44 cn_12 (rmL (Nat.le_of_ble_eq_true rfl)) rfl rfl (Nat.le_of_ble_eq_true rfl) (Nat.le_of_ble_eq_true rfl) ?_
  refine V.icmp_eq_t (t := 1998) (pc := 1970) dL_law_1970 (by decide) rfl ?_
  refine V.iinc (lv' := [some (.ref 3000), some (.ref 0), some (.ref 44), some (.int (nI (i + 6)))]) (pc := 1998) dL_law_1998 (Nat.le_of_ble_eq_true rfl) rfl rfl (v := nI (i + 6)) (by rw [show Int32.ofInt 6 = 6 from by decide]; exact sx_6 i) rfl ?_
  refine V.goto (t := 18) (pc := 2001) dL_law_2001 (by decide) ?_
  exact kk
/-- count -/
def stp_61 (a1 a2 a3 a4 a5 : Int32) (w w' : Wd) : Prop := ∃ (r : Int32), f_X11_count a1 w = some r ∧ f_X12_count a1 w = some r ∧ w' = w
set_option maxHeartbeats 4000000 in
set_option maxRecDepth 100000 in
theorem law_61 {G : GT} {b L : Nat} {xs : Nat → Int32} (hL : L ≤ 3072) {i : Nat} (hi : i + 6 ≤ L) {w w' : Wd} {Z : VZ} (h : stp_61 (xs (i + 1)) (xs (i + 2)) (xs (i + 3)) (xs (i + 4)) (xs (i + 5)) w w') (kk : V (vfL G b L xs) 70 141295 70 r0 18 [some (.ref 3000), some (.ref 0), some (.ref 44), some (.int (nI (i + 6)))] [] w' Z) : V (vfL G b L xs) 70 141295 70 r0 1975 [some (.ref 3000), some (.ref 0), some (.ref 44), some (.int (nI i))] [] w Z := by
  obtain ⟨r, h1, h2, rfl⟩ := h
  refine V.aload_n (pc := 1975) dL_law_1975 rfl ?_
  refine V.aload_n (pc := 1976) dL_law_1976 rfl ?_
  refine V.iload_n (pc := 1977) dL_law_1977 rfl ?_
  refine V.iconst (pc := 1978) dL_law_1978 ic_1 ?_
  refine V.iadd (pc := 1979) dL_law_1979 ?_
  refine V.sldX (i := i) (j := 1) (pc := 1980) dL_law_1980 (sx_1 i) (by omega) hL ?_
  refine V.callV (pc := 1981) (As := [.int (xs (i + 1))]) (st := []) dL_law_1981 l_RL_265 (ok_X11_count (d := 90) (by omega) (xs (i + 1)) h1) lx_0 ly_0 cn_11 (rmL (Nat.le_of_ble_eq_true rfl)) rfl rfl (Nat.le_of_ble_eq_true rfl) (Nat.le_of_ble_eq_true rfl) ?_
  refine V.aload_n (pc := 1984) dL_law_1984 rfl ?_
  refine V.aload_n (pc := 1985) dL_law_1985 rfl ?_
  refine V.iload_n (pc := 1986) dL_law_1986 rfl ?_
  refine V.iconst (pc := 1987) dL_law_1987 ic_1 ?_
  refine V.iadd (pc := 1988) dL_law_1988 ?_
  refine V.sldX (i := i) (j := 1) (pc := 1989) dL_law_1989 (sx_1 i) (by omega) hL ?_
  refine V.callV (pc := 1990) (As := [.int (xs (i + 1))]) (st := [.int r]) dL_law_1990 l_RL_268 (ok_X12_count (d := 90) (by omega) (xs (i + 1)) h2) lx_44 ly_44 cn_12 (rmL (Nat.le_of_ble_eq_true rfl)) rfl rfl (Nat.le_of_ble_eq_true rfl) (Nat.le_of_ble_eq_true rfl) ?_
  refine V.icmp_eq_t (t := 1998) (pc := 1993) dL_law_1993 (by decide) rfl ?_
  refine V.iinc (lv' := [some (.ref 3000), some (.ref 0), some (.ref 44), some (.int (nI (i + 6)))]) (pc := 1998) dL_law_1998 (Nat.le_of_ble_eq_true rfl) rfl rfl (v := nI (i + 6)) (by rw [show Int32.ofInt 6 = 6 from by decide]; exact sx_6 i) rfl ?_
  refine V.goto (t := 18) (pc := 2001) dL_law_2001 (by decide) ?_
  exact kk
def StpL (k : Nat) (a1 a2 a3 a4 a5 : Int32) (w w' : Wd) : Prop := match k with
  | 0 => stp_0 a1 a2 a3 a4 a5 w w'
  | 1 => stp_1 a1 a2 a3 a4 a5 w w'
  | 2 => stp_2 a1 a2 a3 a4 a5 w w'
  | 3 => stp_3 a1 a2 a3 a4 a5 w w'
  | 4 => stp_4 a1 a2 a3 a4 a5 w w'
  | 5 => stp_5 a1 a2 a3 a4 a5 w w'
  | 6 => stp_6 a1 a2 a3 a4 a5 w w'
  | 7 => stp_7 a1 a2 a3 a4 a5 w w'
  | 8 => stp_8 a1 a2 a3 a4 a5 w w'
  | 9 => stp_9 a1 a2 a3 a4 a5 w w'
  | 10 => stp_10 a1 a2 a3 a4 a5 w w'
  | 11 => stp_11 a1 a2 a3 a4 a5 w w'
  | 12 => stp_12 a1 a2 a3 a4 a5 w w'
  | 13 => stp_13 a1 a2 a3 a4 a5 w w'
  | 14 => stp_14 a1 a2 a3 a4 a5 w w'
  | 15 => stp_15 a1 a2 a3 a4 a5 w w'
  | 16 => stp_16 a1 a2 a3 a4 a5 w w'
  | 17 => stp_17 a1 a2 a3 a4 a5 w w'
  | 18 => stp_18 a1 a2 a3 a4 a5 w w'
  | 19 => stp_19 a1 a2 a3 a4 a5 w w'
  | 20 => stp_20 a1 a2 a3 a4 a5 w w'
  | 21 => stp_21 a1 a2 a3 a4 a5 w w'
  | 22 => stp_22 a1 a2 a3 a4 a5 w w'
  | 23 => stp_23 a1 a2 a3 a4 a5 w w'
  | 24 => stp_24 a1 a2 a3 a4 a5 w w'
  | 25 => stp_25 a1 a2 a3 a4 a5 w w'
  | 26 => stp_26 a1 a2 a3 a4 a5 w w'
  | 27 => stp_27 a1 a2 a3 a4 a5 w w'
  | 28 => stp_28 a1 a2 a3 a4 a5 w w'
  | 29 => stp_29 a1 a2 a3 a4 a5 w w'
  | 30 => stp_30 a1 a2 a3 a4 a5 w w'
  | 31 => stp_31 a1 a2 a3 a4 a5 w w'
  | 32 => stp_32 a1 a2 a3 a4 a5 w w'
  | 33 => stp_33 a1 a2 a3 a4 a5 w w'
  | 34 => stp_34 a1 a2 a3 a4 a5 w w'
  | 35 => stp_35 a1 a2 a3 a4 a5 w w'
  | 36 => stp_36 a1 a2 a3 a4 a5 w w'
  | 37 => stp_37 a1 a2 a3 a4 a5 w w'
  | 38 => stp_38 a1 a2 a3 a4 a5 w w'
  | 39 => stp_39 a1 a2 a3 a4 a5 w w'
  | 40 => stp_40 a1 a2 a3 a4 a5 w w'
  | 41 => stp_41 a1 a2 a3 a4 a5 w w'
  | 42 => stp_42 a1 a2 a3 a4 a5 w w'
  | 43 => stp_43 a1 a2 a3 a4 a5 w w'
  | 44 => stp_44 a1 a2 a3 a4 a5 w w'
  | 45 => stp_45 a1 a2 a3 a4 a5 w w'
  | 46 => stp_46 a1 a2 a3 a4 a5 w w'
  | 47 => stp_47 a1 a2 a3 a4 a5 w w'
  | 48 => stp_48 a1 a2 a3 a4 a5 w w'
  | 49 => stp_49 a1 a2 a3 a4 a5 w w'
  | 50 => stp_50 a1 a2 a3 a4 a5 w w'
  | 51 => stp_51 a1 a2 a3 a4 a5 w w'
  | 52 => stp_52 a1 a2 a3 a4 a5 w w'
  | 53 => stp_53 a1 a2 a3 a4 a5 w w'
  | 54 => stp_54 a1 a2 a3 a4 a5 w w'
  | 55 => stp_55 a1 a2 a3 a4 a5 w w'
  | 56 => stp_56 a1 a2 a3 a4 a5 w w'
  | 57 => stp_57 a1 a2 a3 a4 a5 w w'
  | 58 => stp_58 a1 a2 a3 a4 a5 w w'
  | 59 => stp_59 a1 a2 a3 a4 a5 w w'
  | 60 => stp_60 a1 a2 a3 a4 a5 w w'
  | 61 => stp_61 a1 a2 a3 a4 a5 w w'
  | _ => w' = w
set_option maxHeartbeats 8000000 in
set_option maxRecDepth 100000 in
theorem law_loop {G : GT} {b L : Nat} {xs : Nat → Int32} (hL : L ≤ 3072) (Inv : Wd → Prop) (hI : ∀ k a1 a2 a3 a4 a5 w, Inv w → ∃ w', StpL k a1 a2 a3 a4 a5 w w' ∧ Inv w') : ∀ (n i : Nat), L + 7 - i < n → i ≤ L → ∀ w, Inv w → ∃ wf, V (vfL G b L xs) 70 141295 70 r0 18 [some (.ref 3000), some (.ref 0), some (.ref 44), some (.int (nI i))] [] w (some (.int 1), 70, r0, wf) := by
  intro n
  induction n with
  | zero => intro i h; omega
  | succ n ih =>
    intro i hn hi w hw
    have e6 : (nI L - 6 : Int32).toInt = (L : Int) - 6 := pk_sub_toInt (a := L) (b := 6) (by omega) (by decide)
    have ei : (nI i).toInt = (i : Int) := nI_toInt (by omega)
    have pre : ∀ wf, (L < i + 6 → V (vfL G b L xs) 70 141295 70 r0 2004 [some (.ref 3000), some (.ref 0), some (.ref 44), some (.int (nI i))] [] w (some (.int 1), 70, r0, wf)) → (i + 6 ≤ L → V (vfL G b L xs) 70 141295 70 r0 33 [some (.ref 3000), some (.ref 0), some (.ref 44), some (.int (nI i))] [.int (xs i &&& 63)] w (some (.int 1), 70, r0, wf)) → V (vfL G b L xs) 70 141295 70 r0 18 [some (.ref 3000), some (.ref 0), some (.ref 44), some (.int (nI i))] [] w (some (.int 1), 70, r0, wf) := by
      intro wf k1 k2
      refine V.iload_n (pc := 18) dL_law_18 rfl ?_
      refine V.aload_n (pc := 19) dL_law_19 rfl ?_
      refine V.slenX (pc := 20) dL_law_20 ?_
      refine V.bipush (pc := 21) dL_law_21 bp_6 ?_
      refine V.isub (pc := 23) dL_law_23 ?_
      by_cases hc : i + 6 ≤ L
      · refine V.icmp_gt_f (t := 2004) (pc := 24) dL_law_24 (by decide) (fun q => ?_) ?_
        · rw [Int32.lt_iff_toInt_lt, e6, ei] at q; omega
        · refine V.aload_n (pc := 27) dL_law_27 rfl ?_
          refine V.iload_n (pc := 28) dL_law_28 rfl ?_
          refine V.sldX (i := i) (j := 0) (pc := 29) dL_law_29 rfl (by omega) hL ?_
          refine V.bipush (pc := 30) dL_law_30 bp_63 ?_
          refine V.iand (pc := 32) dL_law_32 ?_
          exact k2 hc
      · refine V.icmp_gt_t (t := 2004) (pc := 24) dL_law_24 (by decide) ?_ ?_
        · rw [Int32.lt_iff_toInt_lt, e6, ei]; omega
        · exact k1 (by omega)
    by_cases hi6 : i + 6 ≤ L
    · have hi := hi6
      have pre : ∀ wf, V (vfL G b L xs) 70 141295 70 r0 33 [some (.ref 3000), some (.ref 0), some (.ref 44), some (.int (nI i))] [.int (xs i &&& 63)] w (some (.int 1), 70, r0, wf) → V (vfL G b L xs) 70 141295 70 r0 18 [some (.ref 3000), some (.ref 0), some (.ref 44), some (.int (nI i))] [] w (some (.int 1), 70, r0, wf) := fun wf k2 => pre wf (fun q => absurd q (by omega)) (fun _ => k2)
      obtain ⟨q, hq, eq⟩ := pk_andE (xs i) (m := 63) 6 (by decide)
      rw [eq] at pre
      match q, hq with
      | 0, _ =>
        obtain ⟨w', hs, hI'⟩ := hI 0 (xs (i + 1)) (xs (i + 2)) (xs (i + 3)) (xs (i + 4)) (xs (i + 5)) w hw
        obtain ⟨wf, hV⟩ := ih (i + 6) (by omega) (by omega) w' hI'
        exact ⟨wf, pre wf (V.tswIn (x0 := 0) (t := 296) (pc := 33) dL_law_33 rfl (by decide) (by decide) rfl (by decide) (law_0 hL hi hs hV))⟩
      | 1, _ =>
        obtain ⟨w', hs, hI'⟩ := hI 1 (xs (i + 1)) (xs (i + 2)) (xs (i + 3)) (xs (i + 4)) (xs (i + 5)) w hw
        obtain ⟨wf, hV⟩ := ih (i + 6) (by omega) (by omega) w' hI'
        exact ⟨wf, pre wf (V.tswIn (x0 := 1) (t := 359) (pc := 33) dL_law_33 rfl (by decide) (by decide) rfl (by decide) (law_1 hL hi hs hV))⟩
      | 2, _ =>
        obtain ⟨w', hs, hI'⟩ := hI 2 (xs (i + 1)) (xs (i + 2)) (xs (i + 3)) (xs (i + 4)) (xs (i + 5)) w hw
        obtain ⟨wf, hV⟩ := ih (i + 6) (by omega) (by omega) w' hI'
        exact ⟨wf, pre wf (V.tswIn (x0 := 2) (t := 382) (pc := 33) dL_law_33 rfl (by decide) (by decide) rfl (by decide) (law_2 hL hi hs hV))⟩
      | 3, _ =>
        obtain ⟨w', hs, hI'⟩ := hI 3 (xs (i + 1)) (xs (i + 2)) (xs (i + 3)) (xs (i + 4)) (xs (i + 5)) w hw
        obtain ⟨wf, hV⟩ := ih (i + 6) (by omega) (by omega) w' hI'
        exact ⟨wf, pre wf (V.tswIn (x0 := 3) (t := 395) (pc := 33) dL_law_33 rfl (by decide) (by decide) rfl (by decide) (law_3 hL hi hs hV))⟩
      | 4, _ =>
        obtain ⟨w', hs, hI'⟩ := hI 4 (xs (i + 1)) (xs (i + 2)) (xs (i + 3)) (xs (i + 4)) (xs (i + 5)) w hw
        obtain ⟨wf, hV⟩ := ih (i + 6) (by omega) (by omega) w' hI'
        exact ⟨wf, pre wf (V.tswIn (x0 := 4) (t := 444) (pc := 33) dL_law_33 rfl (by decide) (by decide) rfl (by decide) (law_4 hL hi hs hV))⟩
      | 5, _ =>
        obtain ⟨w', hs, hI'⟩ := hI 5 (xs (i + 1)) (xs (i + 2)) (xs (i + 3)) (xs (i + 4)) (xs (i + 5)) w hw
        obtain ⟨wf, hV⟩ := ih (i + 6) (by omega) (by omega) w' hI'
        exact ⟨wf, pre wf (V.tswIn (x0 := 5) (t := 467) (pc := 33) dL_law_33 rfl (by decide) (by decide) rfl (by decide) (law_5 hL hi hs hV))⟩
      | 6, _ =>
        obtain ⟨w', hs, hI'⟩ := hI 6 (xs (i + 1)) (xs (i + 2)) (xs (i + 3)) (xs (i + 4)) (xs (i + 5)) w hw
        obtain ⟨wf, hV⟩ := ih (i + 6) (by omega) (by omega) w' hI'
        exact ⟨wf, pre wf (V.tswIn (x0 := 6) (t := 480) (pc := 33) dL_law_33 rfl (by decide) (by decide) rfl (by decide) (law_6 hL hi hs hV))⟩
      | 7, _ =>
        obtain ⟨w', hs, hI'⟩ := hI 7 (xs (i + 1)) (xs (i + 2)) (xs (i + 3)) (xs (i + 4)) (xs (i + 5)) w hw
        obtain ⟨wf, hV⟩ := ih (i + 6) (by omega) (by omega) w' hI'
        exact ⟨wf, pre wf (V.tswIn (x0 := 7) (t := 493) (pc := 33) dL_law_33 rfl (by decide) (by decide) rfl (by decide) (law_7 hL hi hs hV))⟩
      | 8, _ =>
        obtain ⟨w', hs, hI'⟩ := hI 8 (xs (i + 1)) (xs (i + 2)) (xs (i + 3)) (xs (i + 4)) (xs (i + 5)) w hw
        obtain ⟨wf, hV⟩ := ih (i + 6) (by omega) (by omega) w' hI'
        exact ⟨wf, pre wf (V.tswIn (x0 := 8) (t := 542) (pc := 33) dL_law_33 rfl (by decide) (by decide) rfl (by decide) (law_8 hL hi hs hV))⟩
      | 9, _ =>
        obtain ⟨w', hs, hI'⟩ := hI 9 (xs (i + 1)) (xs (i + 2)) (xs (i + 3)) (xs (i + 4)) (xs (i + 5)) w hw
        obtain ⟨wf, hV⟩ := ih (i + 6) (by omega) (by omega) w' hI'
        exact ⟨wf, pre wf (V.tswIn (x0 := 9) (t := 555) (pc := 33) dL_law_33 rfl (by decide) (by decide) rfl (by decide) (law_9 hL hi hs hV))⟩
      | 10, _ =>
        obtain ⟨w', hs, hI'⟩ := hI 10 (xs (i + 1)) (xs (i + 2)) (xs (i + 3)) (xs (i + 4)) (xs (i + 5)) w hw
        obtain ⟨wf, hV⟩ := ih (i + 6) (by omega) (by omega) w' hI'
        exact ⟨wf, pre wf (V.tswIn (x0 := 10) (t := 578) (pc := 33) dL_law_33 rfl (by decide) (by decide) rfl (by decide) (law_10 hL hi hs hV))⟩
      | 11, _ =>
        obtain ⟨w', hs, hI'⟩ := hI 11 (xs (i + 1)) (xs (i + 2)) (xs (i + 3)) (xs (i + 4)) (xs (i + 5)) w hw
        obtain ⟨wf, hV⟩ := ih (i + 6) (by omega) (by omega) w' hI'
        exact ⟨wf, pre wf (V.tswIn (x0 := 11) (t := 611) (pc := 33) dL_law_33 rfl (by decide) (by decide) rfl (by decide) (law_11 hL hi hs hV))⟩
      | 12, _ =>
        obtain ⟨w', hs, hI'⟩ := hI 12 (xs (i + 1)) (xs (i + 2)) (xs (i + 3)) (xs (i + 4)) (xs (i + 5)) w hw
        obtain ⟨wf, hV⟩ := ih (i + 6) (by omega) (by omega) w' hI'
        exact ⟨wf, pre wf (V.tswIn (x0 := 12) (t := 634) (pc := 33) dL_law_33 rfl (by decide) (by decide) rfl (by decide) (law_12 hL hi hs hV))⟩
      | 13, _ =>
        obtain ⟨w', hs, hI'⟩ := hI 13 (xs (i + 1)) (xs (i + 2)) (xs (i + 3)) (xs (i + 4)) (xs (i + 5)) w hw
        obtain ⟨wf, hV⟩ := ih (i + 6) (by omega) (by omega) w' hI'
        exact ⟨wf, pre wf (V.tswIn (x0 := 13) (t := 657) (pc := 33) dL_law_33 rfl (by decide) (by decide) rfl (by decide) (law_13 hL hi hs hV))⟩
      | 14, _ =>
        obtain ⟨w', hs, hI'⟩ := hI 14 (xs (i + 1)) (xs (i + 2)) (xs (i + 3)) (xs (i + 4)) (xs (i + 5)) w hw
        obtain ⟨wf, hV⟩ := ih (i + 6) (by omega) (by omega) w' hI'
        exact ⟨wf, pre wf (V.tswIn (x0 := 14) (t := 670) (pc := 33) dL_law_33 rfl (by decide) (by decide) rfl (by decide) (law_14 hL hi hs hV))⟩
      | 15, _ =>
        obtain ⟨w', hs, hI'⟩ := hI 15 (xs (i + 1)) (xs (i + 2)) (xs (i + 3)) (xs (i + 4)) (xs (i + 5)) w hw
        obtain ⟨wf, hV⟩ := ih (i + 6) (by omega) (by omega) w' hI'
        exact ⟨wf, pre wf (V.tswIn (x0 := 15) (t := 703) (pc := 33) dL_law_33 rfl (by decide) (by decide) rfl (by decide) (law_15 hL hi hs hV))⟩
      | 16, _ =>
        obtain ⟨w', hs, hI'⟩ := hI 16 (xs (i + 1)) (xs (i + 2)) (xs (i + 3)) (xs (i + 4)) (xs (i + 5)) w hw
        obtain ⟨wf, hV⟩ := ih (i + 6) (by omega) (by omega) w' hI'
        exact ⟨wf, pre wf (V.tswIn (x0 := 16) (t := 726) (pc := 33) dL_law_33 rfl (by decide) (by decide) rfl (by decide) (law_16 hL hi hs hV))⟩
      | 17, _ =>
        obtain ⟨w', hs, hI'⟩ := hI 17 (xs (i + 1)) (xs (i + 2)) (xs (i + 3)) (xs (i + 4)) (xs (i + 5)) w hw
        obtain ⟨wf, hV⟩ := ih (i + 6) (by omega) (by omega) w' hI'
        exact ⟨wf, pre wf (V.tswIn (x0 := 17) (t := 749) (pc := 33) dL_law_33 rfl (by decide) (by decide) rfl (by decide) (law_17 hL hi hs hV))⟩
      | 18, _ =>
        obtain ⟨w', hs, hI'⟩ := hI 18 (xs (i + 1)) (xs (i + 2)) (xs (i + 3)) (xs (i + 4)) (xs (i + 5)) w hw
        obtain ⟨wf, hV⟩ := ih (i + 6) (by omega) (by omega) w' hI'
        exact ⟨wf, pre wf (V.tswIn (x0 := 18) (t := 762) (pc := 33) dL_law_33 rfl (by decide) (by decide) rfl (by decide) (law_18 hL hi hs hV))⟩
      | 19, _ =>
        obtain ⟨w', hs, hI'⟩ := hI 19 (xs (i + 1)) (xs (i + 2)) (xs (i + 3)) (xs (i + 4)) (xs (i + 5)) w hw
        obtain ⟨wf, hV⟩ := ih (i + 6) (by omega) (by omega) w' hI'
        exact ⟨wf, pre wf (V.tswIn (x0 := 19) (t := 785) (pc := 33) dL_law_33 rfl (by decide) (by decide) rfl (by decide) (law_19 hL hi hs hV))⟩
      | 20, _ =>
        obtain ⟨w', hs, hI'⟩ := hI 20 (xs (i + 1)) (xs (i + 2)) (xs (i + 3)) (xs (i + 4)) (xs (i + 5)) w hw
        obtain ⟨wf, hV⟩ := ih (i + 6) (by omega) (by omega) w' hI'
        exact ⟨wf, pre wf (V.tswIn (x0 := 20) (t := 798) (pc := 33) dL_law_33 rfl (by decide) (by decide) rfl (by decide) (law_20 hL hi hs hV))⟩
      | 21, _ =>
        obtain ⟨w', hs, hI'⟩ := hI 21 (xs (i + 1)) (xs (i + 2)) (xs (i + 3)) (xs (i + 4)) (xs (i + 5)) w hw
        obtain ⟨wf, hV⟩ := ih (i + 6) (by omega) (by omega) w' hI'
        exact ⟨wf, pre wf (V.tswIn (x0 := 21) (t := 857) (pc := 33) dL_law_33 rfl (by decide) (by decide) rfl (by decide) (law_21 hL hi hs hV))⟩
      | 22, _ =>
        obtain ⟨w', hs, hI'⟩ := hI 22 (xs (i + 1)) (xs (i + 2)) (xs (i + 3)) (xs (i + 4)) (xs (i + 5)) w hw
        obtain ⟨wf, hV⟩ := ih (i + 6) (by omega) (by omega) w' hI'
        exact ⟨wf, pre wf (V.tswIn (x0 := 22) (t := 880) (pc := 33) dL_law_33 rfl (by decide) (by decide) rfl (by decide) (law_22 hL hi hs hV))⟩
      | 23, _ =>
        obtain ⟨w', hs, hI'⟩ := hI 23 (xs (i + 1)) (xs (i + 2)) (xs (i + 3)) (xs (i + 4)) (xs (i + 5)) w hw
        obtain ⟨wf, hV⟩ := ih (i + 6) (by omega) (by omega) w' hI'
        exact ⟨wf, pre wf (V.tswIn (x0 := 23) (t := 903) (pc := 33) dL_law_33 rfl (by decide) (by decide) rfl (by decide) (law_23 hL hi hs hV))⟩
      | 24, _ =>
        obtain ⟨w', hs, hI'⟩ := hI 24 (xs (i + 1)) (xs (i + 2)) (xs (i + 3)) (xs (i + 4)) (xs (i + 5)) w hw
        obtain ⟨wf, hV⟩ := ih (i + 6) (by omega) (by omega) w' hI'
        exact ⟨wf, pre wf (V.tswIn (x0 := 24) (t := 916) (pc := 33) dL_law_33 rfl (by decide) (by decide) rfl (by decide) (law_24 hL hi hs hV))⟩
      | 25, _ =>
        obtain ⟨w', hs, hI'⟩ := hI 25 (xs (i + 1)) (xs (i + 2)) (xs (i + 3)) (xs (i + 4)) (xs (i + 5)) w hw
        obtain ⟨wf, hV⟩ := ih (i + 6) (by omega) (by omega) w' hI'
        exact ⟨wf, pre wf (V.tswIn (x0 := 25) (t := 939) (pc := 33) dL_law_33 rfl (by decide) (by decide) rfl (by decide) (law_25 hL hi hs hV))⟩
      | 26, _ =>
        obtain ⟨w', hs, hI'⟩ := hI 26 (xs (i + 1)) (xs (i + 2)) (xs (i + 3)) (xs (i + 4)) (xs (i + 5)) w hw
        obtain ⟨wf, hV⟩ := ih (i + 6) (by omega) (by omega) w' hI'
        exact ⟨wf, pre wf (V.tswIn (x0 := 26) (t := 972) (pc := 33) dL_law_33 rfl (by decide) (by decide) rfl (by decide) (law_26 hL hi hs hV))⟩
      | 27, _ =>
        obtain ⟨w', hs, hI'⟩ := hI 27 (xs (i + 1)) (xs (i + 2)) (xs (i + 3)) (xs (i + 4)) (xs (i + 5)) w hw
        obtain ⟨wf, hV⟩ := ih (i + 6) (by omega) (by omega) w' hI'
        exact ⟨wf, pre wf (V.tswIn (x0 := 27) (t := 995) (pc := 33) dL_law_33 rfl (by decide) (by decide) rfl (by decide) (law_27 hL hi hs hV))⟩
      | 28, _ =>
        obtain ⟨w', hs, hI'⟩ := hI 28 (xs (i + 1)) (xs (i + 2)) (xs (i + 3)) (xs (i + 4)) (xs (i + 5)) w hw
        obtain ⟨wf, hV⟩ := ih (i + 6) (by omega) (by omega) w' hI'
        exact ⟨wf, pre wf (V.tswIn (x0 := 28) (t := 1028) (pc := 33) dL_law_33 rfl (by decide) (by decide) rfl (by decide) (law_28 hL hi hs hV))⟩
      | 29, _ =>
        obtain ⟨w', hs, hI'⟩ := hI 29 (xs (i + 1)) (xs (i + 2)) (xs (i + 3)) (xs (i + 4)) (xs (i + 5)) w hw
        obtain ⟨wf, hV⟩ := ih (i + 6) (by omega) (by omega) w' hI'
        exact ⟨wf, pre wf (V.tswIn (x0 := 29) (t := 1051) (pc := 33) dL_law_33 rfl (by decide) (by decide) rfl (by decide) (law_29 hL hi hs hV))⟩
      | 30, _ =>
        obtain ⟨w', hs, hI'⟩ := hI 30 (xs (i + 1)) (xs (i + 2)) (xs (i + 3)) (xs (i + 4)) (xs (i + 5)) w hw
        obtain ⟨wf, hV⟩ := ih (i + 6) (by omega) (by omega) w' hI'
        exact ⟨wf, pre wf (V.tswIn (x0 := 30) (t := 1084) (pc := 33) dL_law_33 rfl (by decide) (by decide) rfl (by decide) (law_30 hL hi hs hV))⟩
      | 31, _ =>
        obtain ⟨w', hs, hI'⟩ := hI 31 (xs (i + 1)) (xs (i + 2)) (xs (i + 3)) (xs (i + 4)) (xs (i + 5)) w hw
        obtain ⟨wf, hV⟩ := ih (i + 6) (by omega) (by omega) w' hI'
        exact ⟨wf, pre wf (V.tswIn (x0 := 31) (t := 1117) (pc := 33) dL_law_33 rfl (by decide) (by decide) rfl (by decide) (law_31 hL hi hs hV))⟩
      | 32, _ =>
        obtain ⟨w', hs, hI'⟩ := hI 32 (xs (i + 1)) (xs (i + 2)) (xs (i + 3)) (xs (i + 4)) (xs (i + 5)) w hw
        obtain ⟨wf, hV⟩ := ih (i + 6) (by omega) (by omega) w' hI'
        exact ⟨wf, pre wf (V.tswIn (x0 := 32) (t := 1140) (pc := 33) dL_law_33 rfl (by decide) (by decide) rfl (by decide) (law_32 hL hi hs hV))⟩
      | 33, _ =>
        obtain ⟨w', hs, hI'⟩ := hI 33 (xs (i + 1)) (xs (i + 2)) (xs (i + 3)) (xs (i + 4)) (xs (i + 5)) w hw
        obtain ⟨wf, hV⟩ := ih (i + 6) (by omega) (by omega) w' hI'
        exact ⟨wf, pre wf (V.tswIn (x0 := 33) (t := 1163) (pc := 33) dL_law_33 rfl (by decide) (by decide) rfl (by decide) (law_33 hL hi hs hV))⟩
      | 34, _ =>
        obtain ⟨w', hs, hI'⟩ := hI 34 (xs (i + 1)) (xs (i + 2)) (xs (i + 3)) (xs (i + 4)) (xs (i + 5)) w hw
        obtain ⟨wf, hV⟩ := ih (i + 6) (by omega) (by omega) w' hI'
        exact ⟨wf, pre wf (V.tswIn (x0 := 34) (t := 1186) (pc := 33) dL_law_33 rfl (by decide) (by decide) rfl (by decide) (law_34 hL hi hs hV))⟩
      | 35, _ =>
        obtain ⟨w', hs, hI'⟩ := hI 35 (xs (i + 1)) (xs (i + 2)) (xs (i + 3)) (xs (i + 4)) (xs (i + 5)) w hw
        obtain ⟨wf, hV⟩ := ih (i + 6) (by omega) (by omega) w' hI'
        exact ⟨wf, pre wf (V.tswIn (x0 := 35) (t := 1209) (pc := 33) dL_law_33 rfl (by decide) (by decide) rfl (by decide) (law_35 hL hi hs hV))⟩
      | 36, _ =>
        obtain ⟨w', hs, hI'⟩ := hI 36 (xs (i + 1)) (xs (i + 2)) (xs (i + 3)) (xs (i + 4)) (xs (i + 5)) w hw
        obtain ⟨wf, hV⟩ := ih (i + 6) (by omega) (by omega) w' hI'
        exact ⟨wf, pre wf (V.tswIn (x0 := 36) (t := 1258) (pc := 33) dL_law_33 rfl (by decide) (by decide) rfl (by decide) (law_36 hL hi hs hV))⟩
      | 37, _ =>
        obtain ⟨w', hs, hI'⟩ := hI 37 (xs (i + 1)) (xs (i + 2)) (xs (i + 3)) (xs (i + 4)) (xs (i + 5)) w hw
        obtain ⟨wf, hV⟩ := ih (i + 6) (by omega) (by omega) w' hI'
        exact ⟨wf, pre wf (V.tswIn (x0 := 37) (t := 1291) (pc := 33) dL_law_33 rfl (by decide) (by decide) rfl (by decide) (law_37 hL hi hs hV))⟩
      | 38, _ =>
        obtain ⟨w', hs, hI'⟩ := hI 38 (xs (i + 1)) (xs (i + 2)) (xs (i + 3)) (xs (i + 4)) (xs (i + 5)) w hw
        obtain ⟨wf, hV⟩ := ih (i + 6) (by omega) (by omega) w' hI'
        exact ⟨wf, pre wf (V.tswIn (x0 := 38) (t := 1314) (pc := 33) dL_law_33 rfl (by decide) (by decide) rfl (by decide) (law_38 hL hi hs hV))⟩
      | 39, _ =>
        obtain ⟨w', hs, hI'⟩ := hI 39 (xs (i + 1)) (xs (i + 2)) (xs (i + 3)) (xs (i + 4)) (xs (i + 5)) w hw
        obtain ⟨wf, hV⟩ := ih (i + 6) (by omega) (by omega) w' hI'
        exact ⟨wf, pre wf (V.tswIn (x0 := 39) (t := 1347) (pc := 33) dL_law_33 rfl (by decide) (by decide) rfl (by decide) (law_39 hL hi hs hV))⟩
      | 40, _ =>
        obtain ⟨w', hs, hI'⟩ := hI 40 (xs (i + 1)) (xs (i + 2)) (xs (i + 3)) (xs (i + 4)) (xs (i + 5)) w hw
        obtain ⟨wf, hV⟩ := ih (i + 6) (by omega) (by omega) w' hI'
        exact ⟨wf, pre wf (V.tswIn (x0 := 40) (t := 1360) (pc := 33) dL_law_33 rfl (by decide) (by decide) rfl (by decide) (law_40 hL hi hs hV))⟩
      | 41, _ =>
        obtain ⟨w', hs, hI'⟩ := hI 41 (xs (i + 1)) (xs (i + 2)) (xs (i + 3)) (xs (i + 4)) (xs (i + 5)) w hw
        obtain ⟨wf, hV⟩ := ih (i + 6) (by omega) (by omega) w' hI'
        exact ⟨wf, pre wf (V.tswIn (x0 := 41) (t := 1403) (pc := 33) dL_law_33 rfl (by decide) (by decide) rfl (by decide) (law_41 hL hi hs hV))⟩
      | 42, _ =>
        obtain ⟨w', hs, hI'⟩ := hI 42 (xs (i + 1)) (xs (i + 2)) (xs (i + 3)) (xs (i + 4)) (xs (i + 5)) w hw
        obtain ⟨wf, hV⟩ := ih (i + 6) (by omega) (by omega) w' hI'
        exact ⟨wf, pre wf (V.tswIn (x0 := 42) (t := 1452) (pc := 33) dL_law_33 rfl (by decide) (by decide) rfl (by decide) (law_42 hL hi hs hV))⟩
      | 43, _ =>
        obtain ⟨w', hs, hI'⟩ := hI 43 (xs (i + 1)) (xs (i + 2)) (xs (i + 3)) (xs (i + 4)) (xs (i + 5)) w hw
        obtain ⟨wf, hV⟩ := ih (i + 6) (by omega) (by omega) w' hI'
        exact ⟨wf, pre wf (V.tswIn (x0 := 43) (t := 1495) (pc := 33) dL_law_33 rfl (by decide) (by decide) rfl (by decide) (law_43 hL hi hs hV))⟩
      | 44, _ =>
        obtain ⟨w', hs, hI'⟩ := hI 44 (xs (i + 1)) (xs (i + 2)) (xs (i + 3)) (xs (i + 4)) (xs (i + 5)) w hw
        obtain ⟨wf, hV⟩ := ih (i + 6) (by omega) (by omega) w' hI'
        exact ⟨wf, pre wf (V.tswIn (x0 := 44) (t := 1518) (pc := 33) dL_law_33 rfl (by decide) (by decide) rfl (by decide) (law_44 hL hi hs hV))⟩
      | 45, _ =>
        obtain ⟨w', hs, hI'⟩ := hI 45 (xs (i + 1)) (xs (i + 2)) (xs (i + 3)) (xs (i + 4)) (xs (i + 5)) w hw
        obtain ⟨wf, hV⟩ := ih (i + 6) (by omega) (by omega) w' hI'
        exact ⟨wf, pre wf (V.tswIn (x0 := 45) (t := 1567) (pc := 33) dL_law_33 rfl (by decide) (by decide) rfl (by decide) (law_45 hL hi hs hV))⟩
      | 46, _ =>
        obtain ⟨w', hs, hI'⟩ := hI 46 (xs (i + 1)) (xs (i + 2)) (xs (i + 3)) (xs (i + 4)) (xs (i + 5)) w hw
        obtain ⟨wf, hV⟩ := ih (i + 6) (by omega) (by omega) w' hI'
        exact ⟨wf, pre wf (V.tswIn (x0 := 46) (t := 1590) (pc := 33) dL_law_33 rfl (by decide) (by decide) rfl (by decide) (law_46 hL hi hs hV))⟩
      | 47, _ =>
        obtain ⟨w', hs, hI'⟩ := hI 47 (xs (i + 1)) (xs (i + 2)) (xs (i + 3)) (xs (i + 4)) (xs (i + 5)) w hw
        obtain ⟨wf, hV⟩ := ih (i + 6) (by omega) (by omega) w' hI'
        exact ⟨wf, pre wf (V.tswIn (x0 := 47) (t := 1613) (pc := 33) dL_law_33 rfl (by decide) (by decide) rfl (by decide) (law_47 hL hi hs hV))⟩
      | 48, _ =>
        obtain ⟨w', hs, hI'⟩ := hI 48 (xs (i + 1)) (xs (i + 2)) (xs (i + 3)) (xs (i + 4)) (xs (i + 5)) w hw
        obtain ⟨wf, hV⟩ := ih (i + 6) (by omega) (by omega) w' hI'
        exact ⟨wf, pre wf (V.tswIn (x0 := 48) (t := 1626) (pc := 33) dL_law_33 rfl (by decide) (by decide) rfl (by decide) (law_48 hL hi hs hV))⟩
      | 49, _ =>
        obtain ⟨w', hs, hI'⟩ := hI 49 (xs (i + 1)) (xs (i + 2)) (xs (i + 3)) (xs (i + 4)) (xs (i + 5)) w hw
        obtain ⟨wf, hV⟩ := ih (i + 6) (by omega) (by omega) w' hI'
        exact ⟨wf, pre wf (V.tswIn (x0 := 49) (t := 1649) (pc := 33) dL_law_33 rfl (by decide) (by decide) rfl (by decide) (law_49 hL hi hs hV))⟩
      | 50, _ =>
        obtain ⟨w', hs, hI'⟩ := hI 50 (xs (i + 1)) (xs (i + 2)) (xs (i + 3)) (xs (i + 4)) (xs (i + 5)) w hw
        obtain ⟨wf, hV⟩ := ih (i + 6) (by omega) (by omega) w' hI'
        exact ⟨wf, pre wf (V.tswIn (x0 := 50) (t := 1662) (pc := 33) dL_law_33 rfl (by decide) (by decide) rfl (by decide) (law_50 hL hi hs hV))⟩
      | 51, _ =>
        obtain ⟨w', hs, hI'⟩ := hI 51 (xs (i + 1)) (xs (i + 2)) (xs (i + 3)) (xs (i + 4)) (xs (i + 5)) w hw
        obtain ⟨wf, hV⟩ := ih (i + 6) (by omega) (by omega) w' hI'
        exact ⟨wf, pre wf (V.tswIn (x0 := 51) (t := 1685) (pc := 33) dL_law_33 rfl (by decide) (by decide) rfl (by decide) (law_51 hL hi hs hV))⟩
      | 52, _ =>
        obtain ⟨w', hs, hI'⟩ := hI 52 (xs (i + 1)) (xs (i + 2)) (xs (i + 3)) (xs (i + 4)) (xs (i + 5)) w hw
        obtain ⟨wf, hV⟩ := ih (i + 6) (by omega) (by omega) w' hI'
        exact ⟨wf, pre wf (V.tswIn (x0 := 52) (t := 1708) (pc := 33) dL_law_33 rfl (by decide) (by decide) rfl (by decide) (law_52 hL hi hs hV))⟩
      | 53, _ =>
        obtain ⟨w', hs, hI'⟩ := hI 53 (xs (i + 1)) (xs (i + 2)) (xs (i + 3)) (xs (i + 4)) (xs (i + 5)) w hw
        obtain ⟨wf, hV⟩ := ih (i + 6) (by omega) (by omega) w' hI'
        exact ⟨wf, pre wf (V.tswIn (x0 := 53) (t := 1741) (pc := 33) dL_law_33 rfl (by decide) (by decide) rfl (by decide) (law_53 hL hi hs hV))⟩
      | 54, _ =>
        obtain ⟨w', hs, hI'⟩ := hI 54 (xs (i + 1)) (xs (i + 2)) (xs (i + 3)) (xs (i + 4)) (xs (i + 5)) w hw
        obtain ⟨wf, hV⟩ := ih (i + 6) (by omega) (by omega) w' hI'
        exact ⟨wf, pre wf (V.tswIn (x0 := 54) (t := 1764) (pc := 33) dL_law_33 rfl (by decide) (by decide) rfl (by decide) (law_54 hL hi hs hV))⟩
      | 55, _ =>
        obtain ⟨w', hs, hI'⟩ := hI 55 (xs (i + 1)) (xs (i + 2)) (xs (i + 3)) (xs (i + 4)) (xs (i + 5)) w hw
        obtain ⟨wf, hV⟩ := ih (i + 6) (by omega) (by omega) w' hI'
        exact ⟨wf, pre wf (V.tswIn (x0 := 55) (t := 1807) (pc := 33) dL_law_33 rfl (by decide) (by decide) rfl (by decide) (law_55 hL hi hs hV))⟩
      | 56, _ =>
        obtain ⟨w', hs, hI'⟩ := hI 56 (xs (i + 1)) (xs (i + 2)) (xs (i + 3)) (xs (i + 4)) (xs (i + 5)) w hw
        obtain ⟨wf, hV⟩ := ih (i + 6) (by omega) (by omega) w' hI'
        exact ⟨wf, pre wf (V.tswIn (x0 := 56) (t := 1850) (pc := 33) dL_law_33 rfl (by decide) (by decide) rfl (by decide) (law_56 hL hi hs hV))⟩
      | 57, _ =>
        obtain ⟨w', hs, hI'⟩ := hI 57 (xs (i + 1)) (xs (i + 2)) (xs (i + 3)) (xs (i + 4)) (xs (i + 5)) w hw
        obtain ⟨wf, hV⟩ := ih (i + 6) (by omega) (by omega) w' hI'
        exact ⟨wf, pre wf (V.tswIn (x0 := 57) (t := 1873) (pc := 33) dL_law_33 rfl (by decide) (by decide) rfl (by decide) (law_57 hL hi hs hV))⟩
      | 58, _ =>
        obtain ⟨w', hs, hI'⟩ := hI 58 (xs (i + 1)) (xs (i + 2)) (xs (i + 3)) (xs (i + 4)) (xs (i + 5)) w hw
        obtain ⟨wf, hV⟩ := ih (i + 6) (by omega) (by omega) w' hI'
        exact ⟨wf, pre wf (V.tswIn (x0 := 58) (t := 1896) (pc := 33) dL_law_33 rfl (by decide) (by decide) rfl (by decide) (law_58 hL hi hs hV))⟩
      | 59, _ =>
        obtain ⟨w', hs, hI'⟩ := hI 59 (xs (i + 1)) (xs (i + 2)) (xs (i + 3)) (xs (i + 4)) (xs (i + 5)) w hw
        obtain ⟨wf, hV⟩ := ih (i + 6) (by omega) (by omega) w' hI'
        exact ⟨wf, pre wf (V.tswIn (x0 := 59) (t := 1929) (pc := 33) dL_law_33 rfl (by decide) (by decide) rfl (by decide) (law_59 hL hi hs hV))⟩
      | 60, _ =>
        obtain ⟨w', hs, hI'⟩ := hI 60 (xs (i + 1)) (xs (i + 2)) (xs (i + 3)) (xs (i + 4)) (xs (i + 5)) w hw
        obtain ⟨wf, hV⟩ := ih (i + 6) (by omega) (by omega) w' hI'
        exact ⟨wf, pre wf (V.tswIn (x0 := 60) (t := 1952) (pc := 33) dL_law_33 rfl (by decide) (by decide) rfl (by decide) (law_60 hL hi hs hV))⟩
      | 61, _ =>
        obtain ⟨w', hs, hI'⟩ := hI 61 (xs (i + 1)) (xs (i + 2)) (xs (i + 3)) (xs (i + 4)) (xs (i + 5)) w hw
        obtain ⟨wf, hV⟩ := ih (i + 6) (by omega) (by omega) w' hI'
        exact ⟨wf, pre wf (V.tswIn (x0 := 61) (t := 1975) (pc := 33) dL_law_33 rfl (by decide) (by decide) rfl (by decide) (law_61 hL hi hs hV))⟩
      | q + 62, hq =>
        obtain ⟨wf, hV⟩ := ih (i + 6) (by omega) (by omega) w hw
        refine ⟨wf, pre wf (V.tswOut (t := 1998) (pc := 33) dL_law_33 (Or.inr ?_) (by decide) ?_)⟩
        · rw [nI_toInt (by omega)]; omega
        · refine V.iinc (lv' := [some (.ref 3000), some (.ref 0), some (.ref 44), some (.int (nI (i + 6)))]) (pc := 1998) dL_law_1998 (Nat.le_of_ble_eq_true rfl) rfl rfl (v := nI (i + 6)) (by rw [show Int32.ofInt 6 = 6 from by decide]; exact sx_6 i) rfl ?_
          refine V.goto (t := 18) (pc := 2001) dL_law_2001 (by decide) ?_
          exact hV
    · refine ⟨w, pre w (fun _ => ?_) (fun q => absurd q hi6)⟩
      refine V.iconst (pc := 2004) dL_law_2004 ic_1 ?_
      exact V.zret (pc := 2005) dL_law_2005 rfl (Or.inr rfl) (Nat.le_of_ble_eq_true rfl) (Nat.le_of_ble_eq_true rfl)
