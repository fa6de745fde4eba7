/-! the law's own walk: one row a case -/
def mL : Mth := (yL_law, cL_law, 4, some .boolean)
def lvL (i : Nat) : List (Nat × Value) := [(0, .ref 400), (1, .ref 0), (2, .ref 300), (3, .int (nI i))]
theorem lg_cmp_rr (r : Int64) : lg_cmp r r = 0 := by
  unfold lg_cmp
  rw [if_neg (by simp), if_pos rfl]
section LW
variable {p : Program} {l : Launch} {e : Env} {s : State} {m : MethodId} {args : Array Value} {below : List Frame} {meth : Method} {c : Code} {D : va_G} {cI cQ : ClassId} {A : Nat → Prop} {Z : State → Prop} {ad : Nat → Nat} {pc : Nat} {st : List Value} {sg : Hp} {b L i : Nat} {xs : Nat → Int32}
def lh (p : Program) (s : State) (m : MethodId) (args : Array Value) (meth : Method) (c : Code) (D : va_G) (cI cQ : ClassId) (A : Nat → Prop) (ad : Nat → Nat) (b L : Nat) (xs : Nat → Int32) : Prop := cxt mL p s m args meth c D cI cQ ∧ va_X b L xs s s.heap ∧ b < s.heap.size ∧ ¬ A b ∧ ad 400 = b ∧ (∀ q : Nat, s.heap.size ≤ q → A q) ∧ L ≤ 3072
theorem gw_cong {tb : Sd} {M : Mth} {R : Room} {X : List (Nat × Nat × List Value)} {mc ms : Nat} {lv : List (Nat × Value)} {sg2 : Hp} (h : ∀ b, b ∈ kys tb → sg b = sg2 b) (k : gw M p l e R s m args below meth c D cI cQ A Z X ad tb mc ms pc lv st sg2) : gw M p l e R s m args below meth c D cI cQ A Z X ad tb mc ms pc lv st sg := by
  intro H locs ls hP hD hS hl
  rw [wld_cong h] at hP hD
  exact k H locs ls hP hD hS hl
theorem l_arg (hh : lh p s m args meth c D cI cQ A ad b L xs) {n : Nat} {z : Int} (hz : Int32.ofInt z = nI n) (hi : i + n < L) (d0 : decode cL_law pc = .ok (.aload_n 0, 1)) (d1 : decode cL_law (pc + 1) = .ok (.iload_n 3, 1)) (d2 : decode cL_law (pc + 2) = .ok (.iconst z, 1)) (d3 : decode cL_law (pc + 3) = .ok (.iadd, 1)) (d4 : decode cL_law (pc + 4) = .ok (.iaload, 1)) (k : gw mL p l e room_1 s m args below meth c D cI cQ A Z [] ad tL 600000 7302250 (pc + 5) (lvL i) (.int (xs (i + n)) :: st) sg) : gw mL p l e room_1 s m args below meth c D cI cQ A Z [] ad tL 600000 7302250 pc (lvL i) st sg := by
  obtain ⟨hc, h1, h2, h3, h4, h5, h6⟩ := hh
  refine g_aload_n hc (k0 := 0) (x := 400) rfl d0 (g_iload_n hc (k0 := 3) (x := nI i) rfl d1 (g_iconst hc hz d2 (g_iadd hc d3 ?_)))
  rw [nI_add]
  refine g_sld hc h1 h2 h3 h4 (inb_in (inbN hi (by omega))) d4 ?_
  rw [nI_clamp (by omega)]
  exact k
theorem l_C (hh : lh p s m args meth c D cI cQ A ad b L xs) {idx n : Nat} {M2 : Mth} {av : List Value} {r : Option Value} {d : Hp} (hm : cVt RL idx M2 n) (hn : av.length = n) (hqc : RX6 = M2.1.cls) (hlen : (lg_sl (.ref 0 :: av)).length ≤ M2.2.2.1) (hl21 : M2.2.2.1 ≤ 21) (hst : (st.map fun v => v.category).sum ≤ 8) (hd : decode cL_law pc = .ok (.invokevirtual idx, 3)) (hb : pw tC 7 M2 0 (lv_args 0 (.ref 0 :: av)) [] sg (fun r2 s2 => r2 = r ∧ s2 = d)) (k : gw mL p l e room_1 s m args below meth c D cI cQ A Z [] ad tL 600000 7302250 (pc + 3) (lvL i) (r.toList ++ st) (cmb d sg)) : gw mL p l e room_1 s m args below meth c D cI cQ A Z [] ad tL 600000 7302250 pc (lvL i) (av.reverse ++ .ref 0 :: st) sg := by
  obtain ⟨hc, h1, h2, h3, h4, h5, h6⟩ := hh
  refine g_callV hc (t1 := tC) (d := 7) (q := (RX6, TX6, 9)) (ci := 5) (fl := [some 1, some 2, some 3, some 4, some 5, some 6, some 7, none, none]) tL_nd tC_nd tC_sub tC_ker h5 (by decide) (by show 8 + (M2.2.2.1 + 11) + 40 * 7 ≤ 346; omega) (Nat.le_refl _) (Nat.le_refl _) hm hn (by decide +kernel) rfl hqc hlen hst hd hb (fun r2 s2 hq => ?_)
  obtain ⟨rfl, rfl⟩ := hq
  exact gw_cong mixC k
theorem l_M (hh : lh p s m args meth c D cI cQ A ad b L xs) {idx n : Nat} {M2 : Mth} {av : List Value} {r : Option Value} {d k0 : Hp} (hm : cVt RL idx M2 n) (hn : av.length = n) (hqc : RX7 = M2.1.cls) (hlen : (lg_sl (.ref 300 :: av)).length ≤ M2.2.2.1) (hl21 : M2.2.2.1 ≤ 21) (hst : (st.map fun v => v.category).sum ≤ 8) (hd : decode cL_law pc = .ok (.invokevirtual idx, 3)) (hb : pw tM 7 M2 0 (lv_args 0 (.ref 300 :: av)) [] (cmb d sg) (fun r2 s2 => r2 = r ∧ s2 = k0)) (k : gw mL p l e room_1 s m args below meth c D cI cQ A Z [] ad tL 600000 7302250 (pc + 3) (lvL i) (r.toList ++ st) (cmb d k0)) : gw mL p l e room_1 s m args below meth c D cI cQ A Z [] ad tL 600000 7302250 pc (lvL i) (av.reverse ++ .ref 300 :: st) (cmb d sg) := by
  obtain ⟨hc, h1, h2, h3, h4, h5, h6⟩ := hh
  refine g_callV hc (t1 := tM) (d := 7) (q := (RX7, TX7, 25)) (ci := 6) (fl := [none, none, some 302, some 303, none, none, none, some 307, some 308, some 309, none, some 311, none, some 313, some 314, some 315, none, some 317, some 318, none, some 320, some 321, some 322, some 323, none]) tL_nd tM_nd tM_sub tM_ker h5 (by decide) (by show 8 + (M2.2.2.1 + 11) + 40 * 7 ≤ 346; omega) (Nat.le_refl _) (Nat.le_refl _) hm hn (by decide +kernel) rfl hqc hlen hst hd hb (fun r2 s2 hq => ?_)
  obtain ⟨rfl, rfl⟩ := hq
  exact gw_cong mixM k
theorem wd_270 : Cond.methodLink RL 13 yX6_steps ∈ gtb := gm (List.mem_of_getElem? (i := 270) (by decide +kernel)) rfl
theorem wd_271 : Cond.instanceMethod yX6_steps ∈ gtb := gm (List.mem_of_getElem? (i := 271) (by decide +kernel)) rfl
theorem wd_272 : Cond.selects RX6 yX6_steps yX6_steps ∈ gtb := gm (List.mem_of_getElem? (i := 272) (by decide +kernel)) rfl
theorem wd_273 : Cond.code yX6_steps cX6_steps 5 (some .int) ∈ gtb := gm (List.mem_of_getElem? (i := 273) (by decide +kernel)) rfl
theorem wd_331 : Cond.methodLink RL 18 yX6_bucket ∈ gtb := gm (List.mem_of_getElem? (i := 331) (by decide +kernel)) rfl
theorem wd_332 : Cond.instanceMethod yX6_bucket ∈ gtb := gm (List.mem_of_getElem? (i := 332) (by decide +kernel)) rfl
theorem wd_333 : Cond.selects RX6 yX6_bucket yX6_bucket ∈ gtb := gm (List.mem_of_getElem? (i := 333) (by decide +kernel)) rfl
theorem wd_334 : Cond.code yX6_bucket cX6_bucket 3 (some .int) ∈ gtb := gm (List.mem_of_getElem? (i := 334) (by decide +kernel)) rfl
theorem wd_338 : Cond.methodLink RL 23 yX6_late ∈ gtb := gm (List.mem_of_getElem? (i := 338) (by decide +kernel)) rfl
theorem wd_339 : Cond.instanceMethod yX6_late ∈ gtb := gm (List.mem_of_getElem? (i := 339) (by decide +kernel)) rfl
theorem wd_340 : Cond.selects RX6 yX6_late yX6_late ∈ gtb := gm (List.mem_of_getElem? (i := 340) (by decide +kernel)) rfl
theorem wd_341 : Cond.code yX6_late cX6_late 3 (some .int) ∈ gtb := gm (List.mem_of_getElem? (i := 341) (by decide +kernel)) rfl
theorem wd_345 : Cond.methodLink RL 27 yX6_text ∈ gtb := gm (List.mem_of_getElem? (i := 345) (by decide +kernel)) rfl
theorem wd_346 : Cond.instanceMethod yX6_text ∈ gtb := gm (List.mem_of_getElem? (i := 346) (by decide +kernel)) rfl
theorem wd_347 : Cond.selects RX6 yX6_text yX6_text ∈ gtb := gm (List.mem_of_getElem? (i := 347) (by decide +kernel)) rfl
theorem wd_348 : Cond.code yX6_text cX6_text 5 (some .int) ∈ gtb := gm (List.mem_of_getElem? (i := 348) (by decide +kernel)) rfl
theorem wd_402 : Cond.methodLink RL 31 yX6_at ∈ gtb := gm (List.mem_of_getElem? (i := 402) (by decide +kernel)) rfl
theorem wd_403 : Cond.instanceMethod yX6_at ∈ gtb := gm (List.mem_of_getElem? (i := 403) (by decide +kernel)) rfl
theorem wd_404 : Cond.selects RX6 yX6_at yX6_at ∈ gtb := gm (List.mem_of_getElem? (i := 404) (by decide +kernel)) rfl
theorem wd_405 : Cond.code yX6_at cX6_at 3 (some .int) ∈ gtb := gm (List.mem_of_getElem? (i := 405) (by decide +kernel)) rfl
theorem wd_414 : Cond.methodLink RL 35 yX6_make ∈ gtb := gm (List.mem_of_getElem? (i := 414) (by decide +kernel)) rfl
theorem wd_415 : Cond.instanceMethod yX6_make ∈ gtb := gm (List.mem_of_getElem? (i := 415) (by decide +kernel)) rfl
theorem wd_416 : Cond.selects RX6 yX6_make yX6_make ∈ gtb := gm (List.mem_of_getElem? (i := 416) (by decide +kernel)) rfl
theorem wd_417 : Cond.code yX6_make cX6_make 4 (some .int) ∈ gtb := gm (List.mem_of_getElem? (i := 417) (by decide +kernel)) rfl
theorem wd_435 : Cond.methodLink RL 40 yX6_move ∈ gtb := gm (List.mem_of_getElem? (i := 435) (by decide +kernel)) rfl
theorem wd_436 : Cond.instanceMethod yX6_move ∈ gtb := gm (List.mem_of_getElem? (i := 436) (by decide +kernel)) rfl
theorem wd_437 : Cond.selects RX6 yX6_move yX6_move ∈ gtb := gm (List.mem_of_getElem? (i := 437) (by decide +kernel)) rfl
theorem wd_438 : Cond.code yX6_move cX6_move 4 (some .int) ∈ gtb := gm (List.mem_of_getElem? (i := 438) (by decide +kernel)) rfl
theorem wd_445 : Cond.methodLink RL 44 yX6_delay ∈ gtb := gm (List.mem_of_getElem? (i := 445) (by decide +kernel)) rfl
theorem wd_446 : Cond.instanceMethod yX6_delay ∈ gtb := gm (List.mem_of_getElem? (i := 446) (by decide +kernel)) rfl
theorem wd_447 : Cond.selects RX6 yX6_delay yX6_delay ∈ gtb := gm (List.mem_of_getElem? (i := 447) (by decide +kernel)) rfl
theorem wd_448 : Cond.code yX6_delay cX6_delay 3 (some .int) ∈ gtb := gm (List.mem_of_getElem? (i := 448) (by decide +kernel)) rfl
theorem wd_452 : Cond.methodLink RL 48 yX6_heap ∈ gtb := gm (List.mem_of_getElem? (i := 452) (by decide +kernel)) rfl
theorem wd_453 : Cond.instanceMethod yX6_heap ∈ gtb := gm (List.mem_of_getElem? (i := 453) (by decide +kernel)) rfl
theorem wd_454 : Cond.selects RX6 yX6_heap yX6_heap ∈ gtb := gm (List.mem_of_getElem? (i := 454) (by decide +kernel)) rfl
theorem wd_455 : Cond.code yX6_heap cX6_heap 3 (some .int) ∈ gtb := gm (List.mem_of_getElem? (i := 455) (by decide +kernel)) rfl
theorem wd_459 : Cond.methodLink RL 52 yX6_within ∈ gtb := gm (List.mem_of_getElem? (i := 459) (by decide +kernel)) rfl
theorem wd_460 : Cond.instanceMethod yX6_within ∈ gtb := gm (List.mem_of_getElem? (i := 460) (by decide +kernel)) rfl
theorem wd_461 : Cond.selects RX6 yX6_within yX6_within ∈ gtb := gm (List.mem_of_getElem? (i := 461) (by decide +kernel)) rfl
theorem wd_462 : Cond.code yX6_within cX6_within 3 (some .int) ∈ gtb := gm (List.mem_of_getElem? (i := 462) (by decide +kernel)) rfl
theorem wd_463 : Cond.methodLink RL 56 yX6_serve ∈ gtb := gm (List.mem_of_getElem? (i := 463) (by decide +kernel)) rfl
theorem wd_464 : Cond.instanceMethod yX6_serve ∈ gtb := gm (List.mem_of_getElem? (i := 464) (by decide +kernel)) rfl
theorem wd_465 : Cond.selects RX6 yX6_serve yX6_serve ∈ gtb := gm (List.mem_of_getElem? (i := 465) (by decide +kernel)) rfl
theorem wd_466 : Cond.code yX6_serve cX6_serve 4 (some .int) ∈ gtb := gm (List.mem_of_getElem? (i := 466) (by decide +kernel)) rfl
theorem wd_476 : Cond.methodLink RL 60 yX6_flow ∈ gtb := gm (List.mem_of_getElem? (i := 476) (by decide +kernel)) rfl
theorem wd_477 : Cond.instanceMethod yX6_flow ∈ gtb := gm (List.mem_of_getElem? (i := 477) (by decide +kernel)) rfl
theorem wd_478 : Cond.selects RX6 yX6_flow yX6_flow ∈ gtb := gm (List.mem_of_getElem? (i := 478) (by decide +kernel)) rfl
theorem wd_479 : Cond.code yX6_flow cX6_flow 6 (some .int) ∈ gtb := gm (List.mem_of_getElem? (i := 479) (by decide +kernel)) rfl
theorem wd_501 : Cond.methodLink RL 65 yX6_ofFlow ∈ gtb := gm (List.mem_of_getElem? (i := 501) (by decide +kernel)) rfl
theorem wd_502 : Cond.instanceMethod yX6_ofFlow ∈ gtb := gm (List.mem_of_getElem? (i := 502) (by decide +kernel)) rfl
theorem wd_503 : Cond.selects RX6 yX6_ofFlow yX6_ofFlow ∈ gtb := gm (List.mem_of_getElem? (i := 503) (by decide +kernel)) rfl
theorem wd_504 : Cond.code yX6_ofFlow cX6_ofFlow 3 (some .int) ∈ gtb := gm (List.mem_of_getElem? (i := 504) (by decide +kernel)) rfl
theorem wd_514 : Cond.methodLink RL 69 yX6_rule ∈ gtb := gm (List.mem_of_getElem? (i := 514) (by decide +kernel)) rfl
theorem wd_515 : Cond.instanceMethod yX6_rule ∈ gtb := gm (List.mem_of_getElem? (i := 515) (by decide +kernel)) rfl
theorem wd_516 : Cond.selects RX6 yX6_rule yX6_rule ∈ gtb := gm (List.mem_of_getElem? (i := 516) (by decide +kernel)) rfl
theorem wd_517 : Cond.code yX6_rule cX6_rule 3 (some .int) ∈ gtb := gm (List.mem_of_getElem? (i := 517) (by decide +kernel)) rfl
theorem wd_522 : Cond.methodLink RL 74 yX6_ring ∈ gtb := gm (List.mem_of_getElem? (i := 522) (by decide +kernel)) rfl
theorem wd_523 : Cond.instanceMethod yX6_ring ∈ gtb := gm (List.mem_of_getElem? (i := 523) (by decide +kernel)) rfl
theorem wd_524 : Cond.selects RX6 yX6_ring yX6_ring ∈ gtb := gm (List.mem_of_getElem? (i := 524) (by decide +kernel)) rfl
theorem wd_525 : Cond.code yX6_ring cX6_ring 1 (some .int) ∈ gtb := gm (List.mem_of_getElem? (i := 525) (by decide +kernel)) rfl
theorem wd_538 : Cond.methodLink RL 79 yX6_latest ∈ gtb := gm (List.mem_of_getElem? (i := 538) (by decide +kernel)) rfl
theorem wd_539 : Cond.instanceMethod yX6_latest ∈ gtb := gm (List.mem_of_getElem? (i := 539) (by decide +kernel)) rfl
theorem wd_540 : Cond.selects RX6 yX6_latest yX6_latest ∈ gtb := gm (List.mem_of_getElem? (i := 540) (by decide +kernel)) rfl
theorem wd_541 : Cond.code yX6_latest cX6_latest 3 (some .int) ∈ gtb := gm (List.mem_of_getElem? (i := 541) (by decide +kernel)) rfl
theorem wd_583 : Cond.methodLink RL 83 yX6_there ∈ gtb := gm (List.mem_of_getElem? (i := 583) (by decide +kernel)) rfl
theorem wd_584 : Cond.instanceMethod yX6_there ∈ gtb := gm (List.mem_of_getElem? (i := 584) (by decide +kernel)) rfl
theorem wd_585 : Cond.selects RX6 yX6_there yX6_there ∈ gtb := gm (List.mem_of_getElem? (i := 585) (by decide +kernel)) rfl
theorem wd_586 : Cond.code yX6_there cX6_there 5 (some .int) ∈ gtb := gm (List.mem_of_getElem? (i := 586) (by decide +kernel)) rfl
theorem wd_590 : Cond.methodLink RL 87 yX6_heapAt ∈ gtb := gm (List.mem_of_getElem? (i := 590) (by decide +kernel)) rfl
theorem wd_591 : Cond.instanceMethod yX6_heapAt ∈ gtb := gm (List.mem_of_getElem? (i := 591) (by decide +kernel)) rfl
theorem wd_592 : Cond.selects RX6 yX6_heapAt yX6_heapAt ∈ gtb := gm (List.mem_of_getElem? (i := 592) (by decide +kernel)) rfl
theorem wd_593 : Cond.code yX6_heapAt cX6_heapAt 2 (some .int) ∈ gtb := gm (List.mem_of_getElem? (i := 593) (by decide +kernel)) rfl
theorem wd_599 : Cond.methodLink RL 91 yX6_bound ∈ gtb := gm (List.mem_of_getElem? (i := 599) (by decide +kernel)) rfl
theorem wd_600 : Cond.instanceMethod yX6_bound ∈ gtb := gm (List.mem_of_getElem? (i := 600) (by decide +kernel)) rfl
theorem wd_601 : Cond.selects RX6 yX6_bound yX6_bound ∈ gtb := gm (List.mem_of_getElem? (i := 601) (by decide +kernel)) rfl
theorem wd_602 : Cond.code yX6_bound cX6_bound 3 (some .int) ∈ gtb := gm (List.mem_of_getElem? (i := 602) (by decide +kernel)) rfl
theorem wd_613 : Cond.methodLink RL 95 yX6_see ∈ gtb := gm (List.mem_of_getElem? (i := 613) (by decide +kernel)) rfl
theorem wd_614 : Cond.instanceMethod yX6_see ∈ gtb := gm (List.mem_of_getElem? (i := 614) (by decide +kernel)) rfl
theorem wd_615 : Cond.selects RX6 yX6_see yX6_see ∈ gtb := gm (List.mem_of_getElem? (i := 615) (by decide +kernel)) rfl
theorem wd_616 : Cond.code yX6_see cX6_see 5 (some .int) ∈ gtb := gm (List.mem_of_getElem? (i := 616) (by decide +kernel)) rfl
theorem wd_625 : Cond.methodLink RL 99 yX6_keeps ∈ gtb := gm (List.mem_of_getElem? (i := 625) (by decide +kernel)) rfl
theorem wd_626 : Cond.instanceMethod yX6_keeps ∈ gtb := gm (List.mem_of_getElem? (i := 626) (by decide +kernel)) rfl
theorem wd_627 : Cond.selects RX6 yX6_keeps yX6_keeps ∈ gtb := gm (List.mem_of_getElem? (i := 627) (by decide +kernel)) rfl
theorem wd_628 : Cond.code yX6_keeps cX6_keeps 4 (some .int) ∈ gtb := gm (List.mem_of_getElem? (i := 628) (by decide +kernel)) rfl
theorem wd_633 : Cond.methodLink RL 103 yX6_burst ∈ gtb := gm (List.mem_of_getElem? (i := 633) (by decide +kernel)) rfl
theorem wd_634 : Cond.instanceMethod yX6_burst ∈ gtb := gm (List.mem_of_getElem? (i := 634) (by decide +kernel)) rfl
theorem wd_635 : Cond.selects RX6 yX6_burst yX6_burst ∈ gtb := gm (List.mem_of_getElem? (i := 635) (by decide +kernel)) rfl
theorem wd_636 : Cond.code yX6_burst cX6_burst 2 (some .int) ∈ gtb := gm (List.mem_of_getElem? (i := 636) (by decide +kernel)) rfl
theorem wd_643 : Cond.methodLink RL 107 yX6_shape ∈ gtb := gm (List.mem_of_getElem? (i := 643) (by decide +kernel)) rfl
theorem wd_644 : Cond.instanceMethod yX6_shape ∈ gtb := gm (List.mem_of_getElem? (i := 644) (by decide +kernel)) rfl
theorem wd_645 : Cond.selects RX6 yX6_shape yX6_shape ∈ gtb := gm (List.mem_of_getElem? (i := 645) (by decide +kernel)) rfl
theorem wd_646 : Cond.code yX6_shape cX6_shape 4 (some .int) ∈ gtb := gm (List.mem_of_getElem? (i := 646) (by decide +kernel)) rfl
theorem wd_662 : Cond.methodLink RL 111 yX6_letIn ∈ gtb := gm (List.mem_of_getElem? (i := 662) (by decide +kernel)) rfl
theorem wd_663 : Cond.instanceMethod yX6_letIn ∈ gtb := gm (List.mem_of_getElem? (i := 663) (by decide +kernel)) rfl
theorem wd_664 : Cond.selects RX6 yX6_letIn yX6_letIn ∈ gtb := gm (List.mem_of_getElem? (i := 664) (by decide +kernel)) rfl
theorem wd_665 : Cond.code yX6_letIn cX6_letIn 6 (some .int) ∈ gtb := gm (List.mem_of_getElem? (i := 665) (by decide +kernel)) rfl
theorem wd_668 : Cond.methodLink RL 115 yX6_sheet ∈ gtb := gm (List.mem_of_getElem? (i := 668) (by decide +kernel)) rfl
theorem wd_669 : Cond.instanceMethod yX6_sheet ∈ gtb := gm (List.mem_of_getElem? (i := 669) (by decide +kernel)) rfl
theorem wd_670 : Cond.selects RX6 yX6_sheet yX6_sheet ∈ gtb := gm (List.mem_of_getElem? (i := 670) (by decide +kernel)) rfl
theorem wd_671 : Cond.code yX6_sheet cX6_sheet 4 (some .int) ∈ gtb := gm (List.mem_of_getElem? (i := 671) (by decide +kernel)) rfl
theorem wd_676 : Cond.methodLink RL 119 yX6_lose ∈ gtb := gm (List.mem_of_getElem? (i := 676) (by decide +kernel)) rfl
theorem wd_677 : Cond.instanceMethod yX6_lose ∈ gtb := gm (List.mem_of_getElem? (i := 677) (by decide +kernel)) rfl
theorem wd_678 : Cond.selects RX6 yX6_lose yX6_lose ∈ gtb := gm (List.mem_of_getElem? (i := 678) (by decide +kernel)) rfl
theorem wd_679 : Cond.code yX6_lose cX6_lose 2 (some .int) ∈ gtb := gm (List.mem_of_getElem? (i := 679) (by decide +kernel)) rfl
theorem wd_685 : Cond.methodLink RL 123 yX6_put ∈ gtb := gm (List.mem_of_getElem? (i := 685) (by decide +kernel)) rfl
theorem wd_686 : Cond.instanceMethod yX6_put ∈ gtb := gm (List.mem_of_getElem? (i := 686) (by decide +kernel)) rfl
theorem wd_687 : Cond.selects RX6 yX6_put yX6_put ∈ gtb := gm (List.mem_of_getElem? (i := 687) (by decide +kernel)) rfl
theorem wd_688 : Cond.code yX6_put cX6_put 4 (some .int) ∈ gtb := gm (List.mem_of_getElem? (i := 688) (by decide +kernel)) rfl
theorem wd_697 : Cond.methodLink RL 127 yX6_cell ∈ gtb := gm (List.mem_of_getElem? (i := 697) (by decide +kernel)) rfl
theorem wd_698 : Cond.instanceMethod yX6_cell ∈ gtb := gm (List.mem_of_getElem? (i := 698) (by decide +kernel)) rfl
theorem wd_699 : Cond.selects RX6 yX6_cell yX6_cell ∈ gtb := gm (List.mem_of_getElem? (i := 699) (by decide +kernel)) rfl
theorem wd_700 : Cond.code yX6_cell cX6_cell 5 (some .long) ∈ gtb := gm (List.mem_of_getElem? (i := 700) (by decide +kernel)) rfl
theorem wd_706 : Cond.methodLink RL 132 yX6_copy ∈ gtb := gm (List.mem_of_getElem? (i := 706) (by decide +kernel)) rfl
theorem wd_707 : Cond.instanceMethod yX6_copy ∈ gtb := gm (List.mem_of_getElem? (i := 707) (by decide +kernel)) rfl
theorem wd_708 : Cond.selects RX6 yX6_copy yX6_copy ∈ gtb := gm (List.mem_of_getElem? (i := 708) (by decide +kernel)) rfl
theorem wd_709 : Cond.code yX6_copy cX6_copy 6 (some .int) ∈ gtb := gm (List.mem_of_getElem? (i := 709) (by decide +kernel)) rfl
theorem wd_714 : Cond.methodLink RL 136 yX6_tell ∈ gtb := gm (List.mem_of_getElem? (i := 714) (by decide +kernel)) rfl
theorem wd_715 : Cond.instanceMethod yX6_tell ∈ gtb := gm (List.mem_of_getElem? (i := 715) (by decide +kernel)) rfl
theorem wd_716 : Cond.selects RX6 yX6_tell yX6_tell ∈ gtb := gm (List.mem_of_getElem? (i := 716) (by decide +kernel)) rfl
theorem wd_717 : Cond.code yX6_tell cX6_tell 3 (some .int) ∈ gtb := gm (List.mem_of_getElem? (i := 717) (by decide +kernel)) rfl
theorem wd_735 : Cond.methodLink RL 140 yX6_draw ∈ gtb := gm (List.mem_of_getElem? (i := 735) (by decide +kernel)) rfl
theorem wd_736 : Cond.instanceMethod yX6_draw ∈ gtb := gm (List.mem_of_getElem? (i := 736) (by decide +kernel)) rfl
theorem wd_737 : Cond.selects RX6 yX6_draw yX6_draw ∈ gtb := gm (List.mem_of_getElem? (i := 737) (by decide +kernel)) rfl
theorem wd_738 : Cond.code yX6_draw cX6_draw 2 (some .int) ∈ gtb := gm (List.mem_of_getElem? (i := 738) (by decide +kernel)) rfl
theorem wd_739 : Cond.methodLink RL 144 yX6_as ∈ gtb := gm (List.mem_of_getElem? (i := 739) (by decide +kernel)) rfl
theorem wd_740 : Cond.instanceMethod yX6_as ∈ gtb := gm (List.mem_of_getElem? (i := 740) (by decide +kernel)) rfl
theorem wd_741 : Cond.selects RX6 yX6_as yX6_as ∈ gtb := gm (List.mem_of_getElem? (i := 741) (by decide +kernel)) rfl
theorem wd_742 : Cond.code yX6_as cX6_as 3 (some .int) ∈ gtb := gm (List.mem_of_getElem? (i := 742) (by decide +kernel)) rfl
theorem wd_747 : Cond.methodLink RL 148 yX6_trace ∈ gtb := gm (List.mem_of_getElem? (i := 747) (by decide +kernel)) rfl
theorem wd_748 : Cond.instanceMethod yX6_trace ∈ gtb := gm (List.mem_of_getElem? (i := 748) (by decide +kernel)) rfl
theorem wd_749 : Cond.selects RX6 yX6_trace yX6_trace ∈ gtb := gm (List.mem_of_getElem? (i := 749) (by decide +kernel)) rfl
theorem wd_750 : Cond.code yX6_trace cX6_trace 1 (some .int) ∈ gtb := gm (List.mem_of_getElem? (i := 750) (by decide +kernel)) rfl
theorem wd_751 : Cond.methodLink RL 152 yX6_fault ∈ gtb := gm (List.mem_of_getElem? (i := 751) (by decide +kernel)) rfl
theorem wd_752 : Cond.instanceMethod yX6_fault ∈ gtb := gm (List.mem_of_getElem? (i := 752) (by decide +kernel)) rfl
theorem wd_753 : Cond.selects RX6 yX6_fault yX6_fault ∈ gtb := gm (List.mem_of_getElem? (i := 753) (by decide +kernel)) rfl
theorem wd_754 : Cond.code yX6_fault cX6_fault 1 (some .int) ∈ gtb := gm (List.mem_of_getElem? (i := 754) (by decide +kernel)) rfl
theorem wd_755 : Cond.methodLink RL 156 yX6_many ∈ gtb := gm (List.mem_of_getElem? (i := 755) (by decide +kernel)) rfl
theorem wd_756 : Cond.instanceMethod yX6_many ∈ gtb := gm (List.mem_of_getElem? (i := 756) (by decide +kernel)) rfl
theorem wd_757 : Cond.selects RX6 yX6_many yX6_many ∈ gtb := gm (List.mem_of_getElem? (i := 757) (by decide +kernel)) rfl
theorem wd_758 : Cond.code yX6_many cX6_many 2 (some .int) ∈ gtb := gm (List.mem_of_getElem? (i := 758) (by decide +kernel)) rfl
theorem wd_845 : Cond.methodLink RL 17 yX7_steps ∈ gtb := gm (List.mem_of_getElem? (i := 845) (by decide +kernel)) rfl
theorem wd_846 : Cond.instanceMethod yX7_steps ∈ gtb := gm (List.mem_of_getElem? (i := 846) (by decide +kernel)) rfl
theorem wd_847 : Cond.selects RX7 yX7_steps yX7_steps ∈ gtb := gm (List.mem_of_getElem? (i := 847) (by decide +kernel)) rfl
theorem wd_848 : Cond.code yX7_steps cX7_steps 8 (some .int) ∈ gtb := gm (List.mem_of_getElem? (i := 848) (by decide +kernel)) rfl
theorem wd_895 : Cond.methodLink RL 22 yX7_bucket ∈ gtb := gm (List.mem_of_getElem? (i := 895) (by decide +kernel)) rfl
theorem wd_896 : Cond.instanceMethod yX7_bucket ∈ gtb := gm (List.mem_of_getElem? (i := 896) (by decide +kernel)) rfl
theorem wd_897 : Cond.selects RX7 yX7_bucket yX7_bucket ∈ gtb := gm (List.mem_of_getElem? (i := 897) (by decide +kernel)) rfl
theorem wd_898 : Cond.code yX7_bucket cX7_bucket 3 (some .int) ∈ gtb := gm (List.mem_of_getElem? (i := 898) (by decide +kernel)) rfl
theorem wd_904 : Cond.methodLink RL 26 yX7_late ∈ gtb := gm (List.mem_of_getElem? (i := 904) (by decide +kernel)) rfl
theorem wd_905 : Cond.instanceMethod yX7_late ∈ gtb := gm (List.mem_of_getElem? (i := 905) (by decide +kernel)) rfl
theorem wd_906 : Cond.selects RX7 yX7_late yX7_late ∈ gtb := gm (List.mem_of_getElem? (i := 906) (by decide +kernel)) rfl
theorem wd_907 : Cond.code yX7_late cX7_late 3 (some .int) ∈ gtb := gm (List.mem_of_getElem? (i := 907) (by decide +kernel)) rfl
theorem wd_912 : Cond.methodLink RL 30 yX7_text ∈ gtb := gm (List.mem_of_getElem? (i := 912) (by decide +kernel)) rfl
theorem wd_913 : Cond.instanceMethod yX7_text ∈ gtb := gm (List.mem_of_getElem? (i := 913) (by decide +kernel)) rfl
theorem wd_914 : Cond.selects RX7 yX7_text yX7_text ∈ gtb := gm (List.mem_of_getElem? (i := 914) (by decide +kernel)) rfl
theorem wd_915 : Cond.code yX7_text cX7_text 8 (some .int) ∈ gtb := gm (List.mem_of_getElem? (i := 915) (by decide +kernel)) rfl
theorem wd_949 : Cond.methodLink RL 34 yX7_at ∈ gtb := gm (List.mem_of_getElem? (i := 949) (by decide +kernel)) rfl
theorem wd_950 : Cond.instanceMethod yX7_at ∈ gtb := gm (List.mem_of_getElem? (i := 950) (by decide +kernel)) rfl
theorem wd_951 : Cond.selects RX7 yX7_at yX7_at ∈ gtb := gm (List.mem_of_getElem? (i := 951) (by decide +kernel)) rfl
theorem wd_952 : Cond.code yX7_at cX7_at 3 (some .int) ∈ gtb := gm (List.mem_of_getElem? (i := 952) (by decide +kernel)) rfl
theorem wd_957 : Cond.methodLink RL 39 yX7_make ∈ gtb := gm (List.mem_of_getElem? (i := 957) (by decide +kernel)) rfl
theorem wd_958 : Cond.instanceMethod yX7_make ∈ gtb := gm (List.mem_of_getElem? (i := 958) (by decide +kernel)) rfl
theorem wd_959 : Cond.selects RX7 yX7_make yX7_make ∈ gtb := gm (List.mem_of_getElem? (i := 959) (by decide +kernel)) rfl
theorem wd_960 : Cond.code yX7_make cX7_make 4 (some .int) ∈ gtb := gm (List.mem_of_getElem? (i := 960) (by decide +kernel)) rfl
theorem wd_962 : Cond.methodLink RL 43 yX7_move ∈ gtb := gm (List.mem_of_getElem? (i := 962) (by decide +kernel)) rfl
theorem wd_963 : Cond.instanceMethod yX7_move ∈ gtb := gm (List.mem_of_getElem? (i := 963) (by decide +kernel)) rfl
theorem wd_964 : Cond.selects RX7 yX7_move yX7_move ∈ gtb := gm (List.mem_of_getElem? (i := 964) (by decide +kernel)) rfl
theorem wd_965 : Cond.code yX7_move cX7_move 4 (some .int) ∈ gtb := gm (List.mem_of_getElem? (i := 965) (by decide +kernel)) rfl
theorem wd_970 : Cond.methodLink RL 47 yX7_delay ∈ gtb := gm (List.mem_of_getElem? (i := 970) (by decide +kernel)) rfl
theorem wd_971 : Cond.instanceMethod yX7_delay ∈ gtb := gm (List.mem_of_getElem? (i := 971) (by decide +kernel)) rfl
theorem wd_972 : Cond.selects RX7 yX7_delay yX7_delay ∈ gtb := gm (List.mem_of_getElem? (i := 972) (by decide +kernel)) rfl
theorem wd_973 : Cond.code yX7_delay cX7_delay 3 (some .int) ∈ gtb := gm (List.mem_of_getElem? (i := 973) (by decide +kernel)) rfl
theorem wd_982 : Cond.methodLink RL 51 yX7_heap ∈ gtb := gm (List.mem_of_getElem? (i := 982) (by decide +kernel)) rfl
theorem wd_983 : Cond.instanceMethod yX7_heap ∈ gtb := gm (List.mem_of_getElem? (i := 983) (by decide +kernel)) rfl
theorem wd_984 : Cond.selects RX7 yX7_heap yX7_heap ∈ gtb := gm (List.mem_of_getElem? (i := 984) (by decide +kernel)) rfl
theorem wd_985 : Cond.code yX7_heap cX7_heap 3 (some .int) ∈ gtb := gm (List.mem_of_getElem? (i := 985) (by decide +kernel)) rfl
theorem wd_990 : Cond.methodLink RL 55 yX7_within ∈ gtb := gm (List.mem_of_getElem? (i := 990) (by decide +kernel)) rfl
theorem wd_991 : Cond.instanceMethod yX7_within ∈ gtb := gm (List.mem_of_getElem? (i := 991) (by decide +kernel)) rfl
theorem wd_992 : Cond.selects RX7 yX7_within yX7_within ∈ gtb := gm (List.mem_of_getElem? (i := 992) (by decide +kernel)) rfl
theorem wd_993 : Cond.code yX7_within cX7_within 3 (some .int) ∈ gtb := gm (List.mem_of_getElem? (i := 993) (by decide +kernel)) rfl
theorem wd_994 : Cond.methodLink RL 59 yX7_serve ∈ gtb := gm (List.mem_of_getElem? (i := 994) (by decide +kernel)) rfl
theorem wd_995 : Cond.instanceMethod yX7_serve ∈ gtb := gm (List.mem_of_getElem? (i := 995) (by decide +kernel)) rfl
theorem wd_996 : Cond.selects RX7 yX7_serve yX7_serve ∈ gtb := gm (List.mem_of_getElem? (i := 996) (by decide +kernel)) rfl
theorem wd_997 : Cond.code yX7_serve cX7_serve 4 (some .int) ∈ gtb := gm (List.mem_of_getElem? (i := 997) (by decide +kernel)) rfl
theorem wd_1002 : Cond.methodLink RL 64 yX7_flow ∈ gtb := gm (List.mem_of_getElem? (i := 1002) (by decide +kernel)) rfl
theorem wd_1003 : Cond.instanceMethod yX7_flow ∈ gtb := gm (List.mem_of_getElem? (i := 1003) (by decide +kernel)) rfl
theorem wd_1004 : Cond.selects RX7 yX7_flow yX7_flow ∈ gtb := gm (List.mem_of_getElem? (i := 1004) (by decide +kernel)) rfl
theorem wd_1005 : Cond.code yX7_flow cX7_flow 9 (some .int) ∈ gtb := gm (List.mem_of_getElem? (i := 1005) (by decide +kernel)) rfl
theorem wd_1010 : Cond.methodLink RL 68 yX7_ofFlow ∈ gtb := gm (List.mem_of_getElem? (i := 1010) (by decide +kernel)) rfl
theorem wd_1011 : Cond.instanceMethod yX7_ofFlow ∈ gtb := gm (List.mem_of_getElem? (i := 1011) (by decide +kernel)) rfl
theorem wd_1012 : Cond.selects RX7 yX7_ofFlow yX7_ofFlow ∈ gtb := gm (List.mem_of_getElem? (i := 1012) (by decide +kernel)) rfl
theorem wd_1013 : Cond.code yX7_ofFlow cX7_ofFlow 3 (some .int) ∈ gtb := gm (List.mem_of_getElem? (i := 1013) (by decide +kernel)) rfl
theorem wd_1020 : Cond.methodLink RL 73 yX7_rule ∈ gtb := gm (List.mem_of_getElem? (i := 1020) (by decide +kernel)) rfl
theorem wd_1021 : Cond.instanceMethod yX7_rule ∈ gtb := gm (List.mem_of_getElem? (i := 1021) (by decide +kernel)) rfl
theorem wd_1022 : Cond.selects RX7 yX7_rule yX7_rule ∈ gtb := gm (List.mem_of_getElem? (i := 1022) (by decide +kernel)) rfl
theorem wd_1023 : Cond.code yX7_rule cX7_rule 3 (some .int) ∈ gtb := gm (List.mem_of_getElem? (i := 1023) (by decide +kernel)) rfl
theorem wd_1024 : Cond.methodLink RL 78 yX7_ring ∈ gtb := gm (List.mem_of_getElem? (i := 1024) (by decide +kernel)) rfl
theorem wd_1025 : Cond.instanceMethod yX7_ring ∈ gtb := gm (List.mem_of_getElem? (i := 1025) (by decide +kernel)) rfl
theorem wd_1026 : Cond.selects RX7 yX7_ring yX7_ring ∈ gtb := gm (List.mem_of_getElem? (i := 1026) (by decide +kernel)) rfl
theorem wd_1027 : Cond.code yX7_ring cX7_ring 1 (some .int) ∈ gtb := gm (List.mem_of_getElem? (i := 1027) (by decide +kernel)) rfl
theorem wd_1032 : Cond.methodLink RL 82 yX7_latest ∈ gtb := gm (List.mem_of_getElem? (i := 1032) (by decide +kernel)) rfl
theorem wd_1033 : Cond.instanceMethod yX7_latest ∈ gtb := gm (List.mem_of_getElem? (i := 1033) (by decide +kernel)) rfl
theorem wd_1034 : Cond.selects RX7 yX7_latest yX7_latest ∈ gtb := gm (List.mem_of_getElem? (i := 1034) (by decide +kernel)) rfl
theorem wd_1035 : Cond.code yX7_latest cX7_latest 3 (some .int) ∈ gtb := gm (List.mem_of_getElem? (i := 1035) (by decide +kernel)) rfl
theorem wd_1068 : Cond.methodLink RL 86 yX7_there ∈ gtb := gm (List.mem_of_getElem? (i := 1068) (by decide +kernel)) rfl
theorem wd_1069 : Cond.instanceMethod yX7_there ∈ gtb := gm (List.mem_of_getElem? (i := 1069) (by decide +kernel)) rfl
theorem wd_1070 : Cond.selects RX7 yX7_there yX7_there ∈ gtb := gm (List.mem_of_getElem? (i := 1070) (by decide +kernel)) rfl
theorem wd_1071 : Cond.code yX7_there cX7_there 5 (some .int) ∈ gtb := gm (List.mem_of_getElem? (i := 1071) (by decide +kernel)) rfl
theorem wd_1072 : Cond.methodLink RL 90 yX7_heapAt ∈ gtb := gm (List.mem_of_getElem? (i := 1072) (by decide +kernel)) rfl
theorem wd_1073 : Cond.instanceMethod yX7_heapAt ∈ gtb := gm (List.mem_of_getElem? (i := 1073) (by decide +kernel)) rfl
theorem wd_1074 : Cond.selects RX7 yX7_heapAt yX7_heapAt ∈ gtb := gm (List.mem_of_getElem? (i := 1074) (by decide +kernel)) rfl
theorem wd_1075 : Cond.code yX7_heapAt cX7_heapAt 2 (some .int) ∈ gtb := gm (List.mem_of_getElem? (i := 1075) (by decide +kernel)) rfl
theorem wd_1076 : Cond.methodLink RL 94 yX7_bound ∈ gtb := gm (List.mem_of_getElem? (i := 1076) (by decide +kernel)) rfl
theorem wd_1077 : Cond.instanceMethod yX7_bound ∈ gtb := gm (List.mem_of_getElem? (i := 1077) (by decide +kernel)) rfl
theorem wd_1078 : Cond.selects RX7 yX7_bound yX7_bound ∈ gtb := gm (List.mem_of_getElem? (i := 1078) (by decide +kernel)) rfl
theorem wd_1079 : Cond.code yX7_bound cX7_bound 5 (some .int) ∈ gtb := gm (List.mem_of_getElem? (i := 1079) (by decide +kernel)) rfl
theorem wd_1080 : Cond.methodLink RL 98 yX7_see ∈ gtb := gm (List.mem_of_getElem? (i := 1080) (by decide +kernel)) rfl
theorem wd_1081 : Cond.instanceMethod yX7_see ∈ gtb := gm (List.mem_of_getElem? (i := 1081) (by decide +kernel)) rfl
theorem wd_1082 : Cond.selects RX7 yX7_see yX7_see ∈ gtb := gm (List.mem_of_getElem? (i := 1082) (by decide +kernel)) rfl
theorem wd_1083 : Cond.code yX7_see cX7_see 8 (some .int) ∈ gtb := gm (List.mem_of_getElem? (i := 1083) (by decide +kernel)) rfl
theorem wd_1084 : Cond.methodLink RL 102 yX7_keeps ∈ gtb := gm (List.mem_of_getElem? (i := 1084) (by decide +kernel)) rfl
theorem wd_1085 : Cond.instanceMethod yX7_keeps ∈ gtb := gm (List.mem_of_getElem? (i := 1085) (by decide +kernel)) rfl
theorem wd_1086 : Cond.selects RX7 yX7_keeps yX7_keeps ∈ gtb := gm (List.mem_of_getElem? (i := 1086) (by decide +kernel)) rfl
theorem wd_1087 : Cond.code yX7_keeps cX7_keeps 4 (some .int) ∈ gtb := gm (List.mem_of_getElem? (i := 1087) (by decide +kernel)) rfl
theorem wd_1092 : Cond.methodLink RL 106 yX7_burst ∈ gtb := gm (List.mem_of_getElem? (i := 1092) (by decide +kernel)) rfl
theorem wd_1093 : Cond.instanceMethod yX7_burst ∈ gtb := gm (List.mem_of_getElem? (i := 1093) (by decide +kernel)) rfl
theorem wd_1094 : Cond.selects RX7 yX7_burst yX7_burst ∈ gtb := gm (List.mem_of_getElem? (i := 1094) (by decide +kernel)) rfl
theorem wd_1095 : Cond.code yX7_burst cX7_burst 5 (some .int) ∈ gtb := gm (List.mem_of_getElem? (i := 1095) (by decide +kernel)) rfl
theorem wd_1096 : Cond.methodLink RL 110 yX7_shape ∈ gtb := gm (List.mem_of_getElem? (i := 1096) (by decide +kernel)) rfl
theorem wd_1097 : Cond.instanceMethod yX7_shape ∈ gtb := gm (List.mem_of_getElem? (i := 1097) (by decide +kernel)) rfl
theorem wd_1098 : Cond.selects RX7 yX7_shape yX7_shape ∈ gtb := gm (List.mem_of_getElem? (i := 1098) (by decide +kernel)) rfl
theorem wd_1099 : Cond.code yX7_shape cX7_shape 3 (some .int) ∈ gtb := gm (List.mem_of_getElem? (i := 1099) (by decide +kernel)) rfl
theorem wd_1102 : Cond.methodLink RL 114 yX7_letIn ∈ gtb := gm (List.mem_of_getElem? (i := 1102) (by decide +kernel)) rfl
theorem wd_1103 : Cond.instanceMethod yX7_letIn ∈ gtb := gm (List.mem_of_getElem? (i := 1103) (by decide +kernel)) rfl
theorem wd_1104 : Cond.selects RX7 yX7_letIn yX7_letIn ∈ gtb := gm (List.mem_of_getElem? (i := 1104) (by decide +kernel)) rfl
theorem wd_1105 : Cond.code yX7_letIn cX7_letIn 6 (some .int) ∈ gtb := gm (List.mem_of_getElem? (i := 1105) (by decide +kernel)) rfl
theorem wd_1106 : Cond.methodLink RL 118 yX7_sheet ∈ gtb := gm (List.mem_of_getElem? (i := 1106) (by decide +kernel)) rfl
theorem wd_1107 : Cond.instanceMethod yX7_sheet ∈ gtb := gm (List.mem_of_getElem? (i := 1107) (by decide +kernel)) rfl
theorem wd_1108 : Cond.selects RX7 yX7_sheet yX7_sheet ∈ gtb := gm (List.mem_of_getElem? (i := 1108) (by decide +kernel)) rfl
theorem wd_1109 : Cond.code yX7_sheet cX7_sheet 5 (some .int) ∈ gtb := gm (List.mem_of_getElem? (i := 1109) (by decide +kernel)) rfl
theorem wd_1110 : Cond.methodLink RL 122 yX7_lose ∈ gtb := gm (List.mem_of_getElem? (i := 1110) (by decide +kernel)) rfl
theorem wd_1111 : Cond.instanceMethod yX7_lose ∈ gtb := gm (List.mem_of_getElem? (i := 1111) (by decide +kernel)) rfl
theorem wd_1112 : Cond.selects RX7 yX7_lose yX7_lose ∈ gtb := gm (List.mem_of_getElem? (i := 1112) (by decide +kernel)) rfl
theorem wd_1113 : Cond.code yX7_lose cX7_lose 3 (some .int) ∈ gtb := gm (List.mem_of_getElem? (i := 1113) (by decide +kernel)) rfl
theorem wd_1114 : Cond.methodLink RL 126 yX7_put ∈ gtb := gm (List.mem_of_getElem? (i := 1114) (by decide +kernel)) rfl
theorem wd_1115 : Cond.instanceMethod yX7_put ∈ gtb := gm (List.mem_of_getElem? (i := 1115) (by decide +kernel)) rfl
theorem wd_1116 : Cond.selects RX7 yX7_put yX7_put ∈ gtb := gm (List.mem_of_getElem? (i := 1116) (by decide +kernel)) rfl
theorem wd_1117 : Cond.code yX7_put cX7_put 4 (some .int) ∈ gtb := gm (List.mem_of_getElem? (i := 1117) (by decide +kernel)) rfl
theorem wd_1122 : Cond.methodLink RL 131 yX7_cell ∈ gtb := gm (List.mem_of_getElem? (i := 1122) (by decide +kernel)) rfl
theorem wd_1123 : Cond.instanceMethod yX7_cell ∈ gtb := gm (List.mem_of_getElem? (i := 1123) (by decide +kernel)) rfl
theorem wd_1124 : Cond.selects RX7 yX7_cell yX7_cell ∈ gtb := gm (List.mem_of_getElem? (i := 1124) (by decide +kernel)) rfl
theorem wd_1125 : Cond.code yX7_cell cX7_cell 4 (some .long) ∈ gtb := gm (List.mem_of_getElem? (i := 1125) (by decide +kernel)) rfl
theorem wd_1134 : Cond.methodLink RL 135 yX7_copy ∈ gtb := gm (List.mem_of_getElem? (i := 1134) (by decide +kernel)) rfl
theorem wd_1135 : Cond.instanceMethod yX7_copy ∈ gtb := gm (List.mem_of_getElem? (i := 1135) (by decide +kernel)) rfl
theorem wd_1136 : Cond.selects RX7 yX7_copy yX7_copy ∈ gtb := gm (List.mem_of_getElem? (i := 1136) (by decide +kernel)) rfl
theorem wd_1137 : Cond.code yX7_copy cX7_copy 7 (some .int) ∈ gtb := gm (List.mem_of_getElem? (i := 1137) (by decide +kernel)) rfl
theorem wd_1138 : Cond.methodLink RL 139 yX7_tell ∈ gtb := gm (List.mem_of_getElem? (i := 1138) (by decide +kernel)) rfl
theorem wd_1139 : Cond.instanceMethod yX7_tell ∈ gtb := gm (List.mem_of_getElem? (i := 1139) (by decide +kernel)) rfl
theorem wd_1140 : Cond.selects RX7 yX7_tell yX7_tell ∈ gtb := gm (List.mem_of_getElem? (i := 1140) (by decide +kernel)) rfl
theorem wd_1141 : Cond.code yX7_tell cX7_tell 4 (some .int) ∈ gtb := gm (List.mem_of_getElem? (i := 1141) (by decide +kernel)) rfl
theorem wd_1147 : Cond.methodLink RL 143 yX7_draw ∈ gtb := gm (List.mem_of_getElem? (i := 1147) (by decide +kernel)) rfl
theorem wd_1148 : Cond.instanceMethod yX7_draw ∈ gtb := gm (List.mem_of_getElem? (i := 1148) (by decide +kernel)) rfl
theorem wd_1149 : Cond.selects RX7 yX7_draw yX7_draw ∈ gtb := gm (List.mem_of_getElem? (i := 1149) (by decide +kernel)) rfl
theorem wd_1150 : Cond.code yX7_draw cX7_draw 2 (some .int) ∈ gtb := gm (List.mem_of_getElem? (i := 1150) (by decide +kernel)) rfl
theorem wd_1151 : Cond.methodLink RL 147 yX7_as ∈ gtb := gm (List.mem_of_getElem? (i := 1151) (by decide +kernel)) rfl
theorem wd_1152 : Cond.instanceMethod yX7_as ∈ gtb := gm (List.mem_of_getElem? (i := 1152) (by decide +kernel)) rfl
theorem wd_1153 : Cond.selects RX7 yX7_as yX7_as ∈ gtb := gm (List.mem_of_getElem? (i := 1153) (by decide +kernel)) rfl
theorem wd_1154 : Cond.code yX7_as cX7_as 3 (some .int) ∈ gtb := gm (List.mem_of_getElem? (i := 1154) (by decide +kernel)) rfl
theorem wd_1155 : Cond.methodLink RL 151 yX7_trace ∈ gtb := gm (List.mem_of_getElem? (i := 1155) (by decide +kernel)) rfl
theorem wd_1156 : Cond.instanceMethod yX7_trace ∈ gtb := gm (List.mem_of_getElem? (i := 1156) (by decide +kernel)) rfl
theorem wd_1157 : Cond.selects RX7 yX7_trace yX7_trace ∈ gtb := gm (List.mem_of_getElem? (i := 1157) (by decide +kernel)) rfl
theorem wd_1158 : Cond.code yX7_trace cX7_trace 1 (some .int) ∈ gtb := gm (List.mem_of_getElem? (i := 1158) (by decide +kernel)) rfl
theorem wd_1159 : Cond.methodLink RL 155 yX7_fault ∈ gtb := gm (List.mem_of_getElem? (i := 1159) (by decide +kernel)) rfl
theorem wd_1160 : Cond.instanceMethod yX7_fault ∈ gtb := gm (List.mem_of_getElem? (i := 1160) (by decide +kernel)) rfl
theorem wd_1161 : Cond.selects RX7 yX7_fault yX7_fault ∈ gtb := gm (List.mem_of_getElem? (i := 1161) (by decide +kernel)) rfl
theorem wd_1162 : Cond.code yX7_fault cX7_fault 1 (some .int) ∈ gtb := gm (List.mem_of_getElem? (i := 1162) (by decide +kernel)) rfl
theorem wd_1163 : Cond.methodLink RL 159 yX7_many ∈ gtb := gm (List.mem_of_getElem? (i := 1163) (by decide +kernel)) rfl
theorem wd_1164 : Cond.instanceMethod yX7_many ∈ gtb := gm (List.mem_of_getElem? (i := 1164) (by decide +kernel)) rfl
theorem wd_1165 : Cond.selects RX7 yX7_many yX7_many ∈ gtb := gm (List.mem_of_getElem? (i := 1165) (by decide +kernel)) rfl
theorem wd_1166 : Cond.code yX7_many cX7_many 4 (some .int) ∈ gtb := gm (List.mem_of_getElem? (i := 1166) (by decide +kernel)) rfl
theorem qV_RL_13 : cVt RL 13 mX6_steps 4 := ⟨wd_270, wd_271, wd_272, wd_67, wd_273, by decide +kernel, ⟨by decide +kernel, by decide +kernel, by decide +kernel⟩, by decide +kernel⟩
theorem qV_RL_17 : cVt RL 17 mX7_steps 4 := ⟨wd_845, wd_846, wd_847, wd_74, wd_848, by decide +kernel, ⟨by decide +kernel, by decide +kernel, by decide +kernel⟩, by decide +kernel⟩
theorem qV_RL_18 : cVt RL 18 mX6_bucket 2 := ⟨wd_331, wd_332, wd_333, wd_67, wd_334, by decide +kernel, ⟨by decide +kernel, by decide +kernel, by decide +kernel⟩, by decide +kernel⟩
theorem qV_RL_22 : cVt RL 22 mX7_bucket 2 := ⟨wd_895, wd_896, wd_897, wd_74, wd_898, by decide +kernel, ⟨by decide +kernel, by decide +kernel, by decide +kernel⟩, by decide +kernel⟩
theorem qV_RL_23 : cVt RL 23 mX6_late 2 := ⟨wd_338, wd_339, wd_340, wd_67, wd_341, by decide +kernel, ⟨by decide +kernel, by decide +kernel, by decide +kernel⟩, by decide +kernel⟩
theorem qV_RL_26 : cVt RL 26 mX7_late 2 := ⟨wd_904, wd_905, wd_906, wd_74, wd_907, by decide +kernel, ⟨by decide +kernel, by decide +kernel, by decide +kernel⟩, by decide +kernel⟩
theorem qV_RL_27 : cVt RL 27 mX6_text 4 := ⟨wd_345, wd_346, wd_347, wd_67, wd_348, by decide +kernel, ⟨by decide +kernel, by decide +kernel, by decide +kernel⟩, by decide +kernel⟩
theorem qV_RL_30 : cVt RL 30 mX7_text 4 := ⟨wd_912, wd_913, wd_914, wd_74, wd_915, by decide +kernel, ⟨by decide +kernel, by decide +kernel, by decide +kernel⟩, by decide +kernel⟩
theorem qV_RL_31 : cVt RL 31 mX6_at 2 := ⟨wd_402, wd_403, wd_404, wd_67, wd_405, by decide +kernel, ⟨by decide +kernel, by decide +kernel, by decide +kernel⟩, by decide +kernel⟩
theorem qV_RL_34 : cVt RL 34 mX7_at 2 := ⟨wd_949, wd_950, wd_951, wd_74, wd_952, by decide +kernel, ⟨by decide +kernel, by decide +kernel, by decide +kernel⟩, by decide +kernel⟩
theorem qV_RL_35 : cVt RL 35 mX6_make 3 := ⟨wd_414, wd_415, wd_416, wd_67, wd_417, by decide +kernel, ⟨by decide +kernel, by decide +kernel, by decide +kernel⟩, by decide +kernel⟩
theorem qV_RL_39 : cVt RL 39 mX7_make 3 := ⟨wd_957, wd_958, wd_959, wd_74, wd_960, by decide +kernel, ⟨by decide +kernel, by decide +kernel, by decide +kernel⟩, by decide +kernel⟩
theorem qV_RL_40 : cVt RL 40 mX6_move 3 := ⟨wd_435, wd_436, wd_437, wd_67, wd_438, by decide +kernel, ⟨by decide +kernel, by decide +kernel, by decide +kernel⟩, by decide +kernel⟩
theorem qV_RL_43 : cVt RL 43 mX7_move 3 := ⟨wd_962, wd_963, wd_964, wd_74, wd_965, by decide +kernel, ⟨by decide +kernel, by decide +kernel, by decide +kernel⟩, by decide +kernel⟩
theorem qV_RL_44 : cVt RL 44 mX6_delay 2 := ⟨wd_445, wd_446, wd_447, wd_67, wd_448, by decide +kernel, ⟨by decide +kernel, by decide +kernel, by decide +kernel⟩, by decide +kernel⟩
theorem qV_RL_47 : cVt RL 47 mX7_delay 2 := ⟨wd_970, wd_971, wd_972, wd_74, wd_973, by decide +kernel, ⟨by decide +kernel, by decide +kernel, by decide +kernel⟩, by decide +kernel⟩
theorem qV_RL_48 : cVt RL 48 mX6_heap 2 := ⟨wd_452, wd_453, wd_454, wd_67, wd_455, by decide +kernel, ⟨by decide +kernel, by decide +kernel, by decide +kernel⟩, by decide +kernel⟩
theorem qV_RL_51 : cVt RL 51 mX7_heap 2 := ⟨wd_982, wd_983, wd_984, wd_74, wd_985, by decide +kernel, ⟨by decide +kernel, by decide +kernel, by decide +kernel⟩, by decide +kernel⟩
theorem qV_RL_52 : cVt RL 52 mX6_within 2 := ⟨wd_459, wd_460, wd_461, wd_67, wd_462, by decide +kernel, ⟨by decide +kernel, by decide +kernel, by decide +kernel⟩, by decide +kernel⟩
theorem qV_RL_55 : cVt RL 55 mX7_within 2 := ⟨wd_990, wd_991, wd_992, wd_74, wd_993, by decide +kernel, ⟨by decide +kernel, by decide +kernel, by decide +kernel⟩, by decide +kernel⟩
theorem qV_RL_56 : cVt RL 56 mX6_serve 2 := ⟨wd_463, wd_464, wd_465, wd_67, wd_466, by decide +kernel, ⟨by decide +kernel, by decide +kernel, by decide +kernel⟩, by decide +kernel⟩
theorem qV_RL_59 : cVt RL 59 mX7_serve 2 := ⟨wd_994, wd_995, wd_996, wd_74, wd_997, by decide +kernel, ⟨by decide +kernel, by decide +kernel, by decide +kernel⟩, by decide +kernel⟩
theorem qV_RL_60 : cVt RL 60 mX6_flow 5 := ⟨wd_476, wd_477, wd_478, wd_67, wd_479, by decide +kernel, ⟨by decide +kernel, by decide +kernel, by decide +kernel⟩, by decide +kernel⟩
theorem qV_RL_64 : cVt RL 64 mX7_flow 5 := ⟨wd_1002, wd_1003, wd_1004, wd_74, wd_1005, by decide +kernel, ⟨by decide +kernel, by decide +kernel, by decide +kernel⟩, by decide +kernel⟩
theorem qV_RL_65 : cVt RL 65 mX6_ofFlow 2 := ⟨wd_501, wd_502, wd_503, wd_67, wd_504, by decide +kernel, ⟨by decide +kernel, by decide +kernel, by decide +kernel⟩, by decide +kernel⟩
theorem qV_RL_68 : cVt RL 68 mX7_ofFlow 2 := ⟨wd_1010, wd_1011, wd_1012, wd_74, wd_1013, by decide +kernel, ⟨by decide +kernel, by decide +kernel, by decide +kernel⟩, by decide +kernel⟩
theorem qV_RL_69 : cVt RL 69 mX6_rule 1 := ⟨wd_514, wd_515, wd_516, wd_67, wd_517, by decide +kernel, ⟨by decide +kernel, by decide +kernel, by decide +kernel⟩, by decide +kernel⟩
theorem qV_RL_73 : cVt RL 73 mX7_rule 1 := ⟨wd_1020, wd_1021, wd_1022, wd_74, wd_1023, by decide +kernel, ⟨by decide +kernel, by decide +kernel, by decide +kernel⟩, by decide +kernel⟩
theorem qV_RL_74 : cVt RL 74 mX6_ring 0 := ⟨wd_522, wd_523, wd_524, wd_67, wd_525, by decide +kernel, ⟨by decide +kernel, by decide +kernel, by decide +kernel⟩, by decide +kernel⟩
theorem qV_RL_78 : cVt RL 78 mX7_ring 0 := ⟨wd_1024, wd_1025, wd_1026, wd_74, wd_1027, by decide +kernel, ⟨by decide +kernel, by decide +kernel, by decide +kernel⟩, by decide +kernel⟩
theorem qV_RL_79 : cVt RL 79 mX6_latest 2 := ⟨wd_538, wd_539, wd_540, wd_67, wd_541, by decide +kernel, ⟨by decide +kernel, by decide +kernel, by decide +kernel⟩, by decide +kernel⟩
theorem qV_RL_82 : cVt RL 82 mX7_latest 2 := ⟨wd_1032, wd_1033, wd_1034, wd_74, wd_1035, by decide +kernel, ⟨by decide +kernel, by decide +kernel, by decide +kernel⟩, by decide +kernel⟩
theorem qV_RL_83 : cVt RL 83 mX6_there 4 := ⟨wd_583, wd_584, wd_585, wd_67, wd_586, by decide +kernel, ⟨by decide +kernel, by decide +kernel, by decide +kernel⟩, by decide +kernel⟩
theorem qV_RL_86 : cVt RL 86 mX7_there 4 := ⟨wd_1068, wd_1069, wd_1070, wd_74, wd_1071, by decide +kernel, ⟨by decide +kernel, by decide +kernel, by decide +kernel⟩, by decide +kernel⟩
theorem qV_RL_87 : cVt RL 87 mX6_heapAt 1 := ⟨wd_590, wd_591, wd_592, wd_67, wd_593, by decide +kernel, ⟨by decide +kernel, by decide +kernel, by decide +kernel⟩, by decide +kernel⟩
theorem qV_RL_90 : cVt RL 90 mX7_heapAt 1 := ⟨wd_1072, wd_1073, wd_1074, wd_74, wd_1075, by decide +kernel, ⟨by decide +kernel, by decide +kernel, by decide +kernel⟩, by decide +kernel⟩
theorem qV_RL_91 : cVt RL 91 mX6_bound 2 := ⟨wd_599, wd_600, wd_601, wd_67, wd_602, by decide +kernel, ⟨by decide +kernel, by decide +kernel, by decide +kernel⟩, by decide +kernel⟩
theorem qV_RL_94 : cVt RL 94 mX7_bound 2 := ⟨wd_1076, wd_1077, wd_1078, wd_74, wd_1079, by decide +kernel, ⟨by decide +kernel, by decide +kernel, by decide +kernel⟩, by decide +kernel⟩
theorem qV_RL_95 : cVt RL 95 mX6_see 4 := ⟨wd_613, wd_614, wd_615, wd_67, wd_616, by decide +kernel, ⟨by decide +kernel, by decide +kernel, by decide +kernel⟩, by decide +kernel⟩
theorem qV_RL_98 : cVt RL 98 mX7_see 4 := ⟨wd_1080, wd_1081, wd_1082, wd_74, wd_1083, by decide +kernel, ⟨by decide +kernel, by decide +kernel, by decide +kernel⟩, by decide +kernel⟩
theorem qV_RL_99 : cVt RL 99 mX6_keeps 2 := ⟨wd_625, wd_626, wd_627, wd_67, wd_628, by decide +kernel, ⟨by decide +kernel, by decide +kernel, by decide +kernel⟩, by decide +kernel⟩
theorem qV_RL_102 : cVt RL 102 mX7_keeps 2 := ⟨wd_1084, wd_1085, wd_1086, wd_74, wd_1087, by decide +kernel, ⟨by decide +kernel, by decide +kernel, by decide +kernel⟩, by decide +kernel⟩
theorem qV_RL_103 : cVt RL 103 mX6_burst 1 := ⟨wd_633, wd_634, wd_635, wd_67, wd_636, by decide +kernel, ⟨by decide +kernel, by decide +kernel, by decide +kernel⟩, by decide +kernel⟩
theorem qV_RL_106 : cVt RL 106 mX7_burst 1 := ⟨wd_1092, wd_1093, wd_1094, wd_74, wd_1095, by decide +kernel, ⟨by decide +kernel, by decide +kernel, by decide +kernel⟩, by decide +kernel⟩
theorem qV_RL_107 : cVt RL 107 mX6_shape 2 := ⟨wd_643, wd_644, wd_645, wd_67, wd_646, by decide +kernel, ⟨by decide +kernel, by decide +kernel, by decide +kernel⟩, by decide +kernel⟩
theorem qV_RL_110 : cVt RL 110 mX7_shape 2 := ⟨wd_1096, wd_1097, wd_1098, wd_74, wd_1099, by decide +kernel, ⟨by decide +kernel, by decide +kernel, by decide +kernel⟩, by decide +kernel⟩
theorem qV_RL_111 : cVt RL 111 mX6_letIn 3 := ⟨wd_662, wd_663, wd_664, wd_67, wd_665, by decide +kernel, ⟨by decide +kernel, by decide +kernel, by decide +kernel⟩, by decide +kernel⟩
theorem qV_RL_114 : cVt RL 114 mX7_letIn 3 := ⟨wd_1102, wd_1103, wd_1104, wd_74, wd_1105, by decide +kernel, ⟨by decide +kernel, by decide +kernel, by decide +kernel⟩, by decide +kernel⟩
theorem qV_RL_115 : cVt RL 115 mX6_sheet 3 := ⟨wd_668, wd_669, wd_670, wd_67, wd_671, by decide +kernel, ⟨by decide +kernel, by decide +kernel, by decide +kernel⟩, by decide +kernel⟩
theorem qV_RL_118 : cVt RL 118 mX7_sheet 3 := ⟨wd_1106, wd_1107, wd_1108, wd_74, wd_1109, by decide +kernel, ⟨by decide +kernel, by decide +kernel, by decide +kernel⟩, by decide +kernel⟩
theorem qV_RL_119 : cVt RL 119 mX6_lose 1 := ⟨wd_676, wd_677, wd_678, wd_67, wd_679, by decide +kernel, ⟨by decide +kernel, by decide +kernel, by decide +kernel⟩, by decide +kernel⟩
theorem qV_RL_122 : cVt RL 122 mX7_lose 1 := ⟨wd_1110, wd_1111, wd_1112, wd_74, wd_1113, by decide +kernel, ⟨by decide +kernel, by decide +kernel, by decide +kernel⟩, by decide +kernel⟩
theorem qV_RL_123 : cVt RL 123 mX6_put 3 := ⟨wd_685, wd_686, wd_687, wd_67, wd_688, by decide +kernel, ⟨by decide +kernel, by decide +kernel, by decide +kernel⟩, by decide +kernel⟩
theorem qV_RL_126 : cVt RL 126 mX7_put 3 := ⟨wd_1114, wd_1115, wd_1116, wd_74, wd_1117, by decide +kernel, ⟨by decide +kernel, by decide +kernel, by decide +kernel⟩, by decide +kernel⟩
theorem qV_RL_127 : cVt RL 127 mX6_cell 3 := ⟨wd_697, wd_698, wd_699, wd_67, wd_700, by decide +kernel, ⟨by decide +kernel, by decide +kernel, by decide +kernel⟩, by decide +kernel⟩
theorem qV_RL_131 : cVt RL 131 mX7_cell 3 := ⟨wd_1122, wd_1123, wd_1124, wd_74, wd_1125, by decide +kernel, ⟨by decide +kernel, by decide +kernel, by decide +kernel⟩, by decide +kernel⟩
theorem qV_RL_132 : cVt RL 132 mX6_copy 5 := ⟨wd_706, wd_707, wd_708, wd_67, wd_709, by decide +kernel, ⟨by decide +kernel, by decide +kernel, by decide +kernel⟩, by decide +kernel⟩
theorem qV_RL_135 : cVt RL 135 mX7_copy 5 := ⟨wd_1134, wd_1135, wd_1136, wd_74, wd_1137, by decide +kernel, ⟨by decide +kernel, by decide +kernel, by decide +kernel⟩, by decide +kernel⟩
theorem qV_RL_136 : cVt RL 136 mX6_tell 1 := ⟨wd_714, wd_715, wd_716, wd_67, wd_717, by decide +kernel, ⟨by decide +kernel, by decide +kernel, by decide +kernel⟩, by decide +kernel⟩
theorem qV_RL_139 : cVt RL 139 mX7_tell 1 := ⟨wd_1138, wd_1139, wd_1140, wd_74, wd_1141, by decide +kernel, ⟨by decide +kernel, by decide +kernel, by decide +kernel⟩, by decide +kernel⟩
theorem qV_RL_140 : cVt RL 140 mX6_draw 1 := ⟨wd_735, wd_736, wd_737, wd_67, wd_738, by decide +kernel, ⟨by decide +kernel, by decide +kernel, by decide +kernel⟩, by decide +kernel⟩
theorem qV_RL_143 : cVt RL 143 mX7_draw 1 := ⟨wd_1147, wd_1148, wd_1149, wd_74, wd_1150, by decide +kernel, ⟨by decide +kernel, by decide +kernel, by decide +kernel⟩, by decide +kernel⟩
theorem qV_RL_144 : cVt RL 144 mX6_as 2 := ⟨wd_739, wd_740, wd_741, wd_67, wd_742, by decide +kernel, ⟨by decide +kernel, by decide +kernel, by decide +kernel⟩, by decide +kernel⟩
theorem qV_RL_147 : cVt RL 147 mX7_as 2 := ⟨wd_1151, wd_1152, wd_1153, wd_74, wd_1154, by decide +kernel, ⟨by decide +kernel, by decide +kernel, by decide +kernel⟩, by decide +kernel⟩
theorem qV_RL_148 : cVt RL 148 mX6_trace 0 := ⟨wd_747, wd_748, wd_749, wd_67, wd_750, by decide +kernel, ⟨by decide +kernel, by decide +kernel, by decide +kernel⟩, by decide +kernel⟩
theorem qV_RL_151 : cVt RL 151 mX7_trace 0 := ⟨wd_1155, wd_1156, wd_1157, wd_74, wd_1158, by decide +kernel, ⟨by decide +kernel, by decide +kernel, by decide +kernel⟩, by decide +kernel⟩
theorem qV_RL_152 : cVt RL 152 mX6_fault 0 := ⟨wd_751, wd_752, wd_753, wd_67, wd_754, by decide +kernel, ⟨by decide +kernel, by decide +kernel, by decide +kernel⟩, by decide +kernel⟩
theorem qV_RL_155 : cVt RL 155 mX7_fault 0 := ⟨wd_1159, wd_1160, wd_1161, wd_74, wd_1162, by decide +kernel, ⟨by decide +kernel, by decide +kernel, by decide +kernel⟩, by decide +kernel⟩
theorem qV_RL_156 : cVt RL 156 mX6_many 1 := ⟨wd_755, wd_756, wd_757, wd_67, wd_758, by decide +kernel, ⟨by decide +kernel, by decide +kernel, by decide +kernel⟩, by decide +kernel⟩
theorem qV_RL_159 : cVt RL 159 mX7_many 1 := ⟨wd_1163, wd_1164, wd_1165, wd_74, wd_1166, by decide +kernel, ⟨by decide +kernel, by decide +kernel, by decide +kernel⟩, by decide +kernel⟩
theorem law_0 (hh : lh p s m args meth c D cI cQ A ad b L xs) (hi : i + 6 ≤ L) (hR : Rel sg sg) (kn : ∀ sg2, Rel sg2 sg2 → gw mL p l e room_1 s m args below meth c D cI cQ A Z [] ad tL 600000 7302250 1414 (lvL i) [] sg2) : gw mL p l e room_1 s m args below meth c D cI cQ A Z [] ad tL 600000 7302250 188 (lvL i) [] sg := by
  have hc := hh.1
  obtain ⟨r, d, k, h1, h2, h3⟩ := Sim_law (f := (fX6_steps (xs (i + 1)) (xs (i + 2)) (xs (i + 3)) (xs (i + 4)))) (g := (fX7_steps (xs (i + 1)) (xs (i + 2)) (xs (i + 3)) (xs (i + 4)))) (fun c m h => steps_st h) hR
  refine g_aload_n hc (k0 := 1) (x := 0) rfl dL_law_188 ?_
  refine l_arg hh (n := 1) (by decide) (by omega) dL_law_189 dL_law_190 dL_law_191 dL_law_192 dL_law_193 ?_
  refine l_arg hh (n := 2) (by decide) (by omega) dL_law_194 dL_law_195 dL_law_196 dL_law_197 dL_law_198 ?_
  refine l_arg hh (n := 3) (by decide) (by omega) dL_law_199 dL_law_200 dL_law_201 dL_law_202 dL_law_203 ?_
  refine l_arg hh (n := 4) (by decide) (by omega) dL_law_204 dL_law_205 dL_law_206 dL_law_207 dL_law_208 ?_
  refine l_C hh (av := [.int (xs (i + 1)), .int (xs (i + 2)), .int (xs (i + 3)), .int (xs (i + 4))]) (st := []) (r := some (.int r)) (d := d) qV_RL_13 rfl rfl (Nat.le_of_ble_eq_true rfl) (by decide) (Nat.le_of_ble_eq_true rfl) dL_law_209 (tX6_steps (by omega) ⟨r, d, h1, rfl, rfl⟩) ?_
  refine g_aload_n hc (k0 := 2) (x := 300) rfl dL_law_212 ?_
  refine l_arg hh (n := 1) (by decide) (by omega) dL_law_213 dL_law_214 dL_law_215 dL_law_216 dL_law_217 ?_
  refine l_arg hh (n := 2) (by decide) (by omega) dL_law_218 dL_law_219 dL_law_220 dL_law_221 dL_law_222 ?_
  refine l_arg hh (n := 3) (by decide) (by omega) dL_law_223 dL_law_224 dL_law_225 dL_law_226 dL_law_227 ?_
  refine l_arg hh (n := 4) (by decide) (by omega) dL_law_228 dL_law_229 dL_law_230 dL_law_231 dL_law_232 ?_
  refine l_M hh (av := [.int (xs (i + 1)), .int (xs (i + 2)), .int (xs (i + 3)), .int (xs (i + 4))]) (st := [.int r]) (r := some (.int r)) (d := d) (k0 := k) qV_RL_17 rfl rfl (Nat.le_of_ble_eq_true rfl) (by decide) (Nat.le_of_ble_eq_true rfl) dL_law_233 (tX7_steps (by omega) ⟨r, k, h2, rfl, rfl⟩) ?_
  exact g_icmp_eq hc dL_law_236 (tgt := 1414) (by decide) (fun _ => kn _ h3) (fun q => absurd rfl q)
theorem law_1 (hh : lh p s m args meth c D cI cQ A ad b L xs) (hi : i + 6 ≤ L) (hR : Rel sg sg) (kn : ∀ sg2, Rel sg2 sg2 → gw mL p l e room_1 s m args below meth c D cI cQ A Z [] ad tL 600000 7302250 1414 (lvL i) [] sg2) : gw mL p l e room_1 s m args below meth c D cI cQ A Z [] ad tL 600000 7302250 241 (lvL i) [] sg := by
  have hc := hh.1
  obtain ⟨r, d, k, h1, h2, h3⟩ := Sim_law (f := (fX6_bucket (xs (i + 1)) (xs (i + 2)))) (g := (fX7_bucket (xs (i + 1)) (xs (i + 2)))) (fun c m h => bucket_st h) hR
  refine g_aload_n hc (k0 := 1) (x := 0) rfl dL_law_241 ?_
  refine l_arg hh (n := 1) (by decide) (by omega) dL_law_242 dL_law_243 dL_law_244 dL_law_245 dL_law_246 ?_
  refine l_arg hh (n := 2) (by decide) (by omega) dL_law_247 dL_law_248 dL_law_249 dL_law_250 dL_law_251 ?_
  refine l_C hh (av := [.int (xs (i + 1)), .int (xs (i + 2))]) (st := []) (r := some (.int r)) (d := d) qV_RL_18 rfl rfl (Nat.le_of_ble_eq_true rfl) (by decide) (Nat.le_of_ble_eq_true rfl) dL_law_252 (tX6_bucket (by omega) ⟨r, d, h1, rfl, rfl⟩) ?_
  refine g_aload_n hc (k0 := 2) (x := 300) rfl dL_law_255 ?_
  refine l_arg hh (n := 1) (by decide) (by omega) dL_law_256 dL_law_257 dL_law_258 dL_law_259 dL_law_260 ?_
  refine l_arg hh (n := 2) (by decide) (by omega) dL_law_261 dL_law_262 dL_law_263 dL_law_264 dL_law_265 ?_
  refine l_M hh (av := [.int (xs (i + 1)), .int (xs (i + 2))]) (st := [.int r]) (r := some (.int r)) (d := d) (k0 := k) qV_RL_22 rfl rfl (Nat.le_of_ble_eq_true rfl) (by decide) (Nat.le_of_ble_eq_true rfl) dL_law_266 (tX7_bucket (by omega) ⟨r, k, h2, rfl, rfl⟩) ?_
  exact g_icmp_eq hc dL_law_269 (tgt := 1414) (by decide) (fun _ => kn _ h3) (fun q => absurd rfl q)
theorem law_2 (hh : lh p s m args meth c D cI cQ A ad b L xs) (hi : i + 6 ≤ L) (hR : Rel sg sg) (kn : ∀ sg2, Rel sg2 sg2 → gw mL p l e room_1 s m args below meth c D cI cQ A Z [] ad tL 600000 7302250 1414 (lvL i) [] sg2) : gw mL p l e room_1 s m args below meth c D cI cQ A Z [] ad tL 600000 7302250 274 (lvL i) [] sg := by
  have hc := hh.1
  obtain ⟨r, d, k, h1, h2, h3⟩ := Sim_law (f := (fX6_late (xs (i + 1)) (xs (i + 2)))) (g := (fX7_late (xs (i + 1)) (xs (i + 2)))) (fun c m h => late_st h) hR
  refine g_aload_n hc (k0 := 1) (x := 0) rfl dL_law_274 ?_
  refine l_arg hh (n := 1) (by decide) (by omega) dL_law_275 dL_law_276 dL_law_277 dL_law_278 dL_law_279 ?_
  refine l_arg hh (n := 2) (by decide) (by omega) dL_law_280 dL_law_281 dL_law_282 dL_law_283 dL_law_284 ?_
  refine l_C hh (av := [.int (xs (i + 1)), .int (xs (i + 2))]) (st := []) (r := some (.int r)) (d := d) qV_RL_23 rfl rfl (Nat.le_of_ble_eq_true rfl) (by decide) (Nat.le_of_ble_eq_true rfl) dL_law_285 (tX6_late (by omega) ⟨r, d, h1, rfl, rfl⟩) ?_
  refine g_aload_n hc (k0 := 2) (x := 300) rfl dL_law_288 ?_
  refine l_arg hh (n := 1) (by decide) (by omega) dL_law_289 dL_law_290 dL_law_291 dL_law_292 dL_law_293 ?_
  refine l_arg hh (n := 2) (by decide) (by omega) dL_law_294 dL_law_295 dL_law_296 dL_law_297 dL_law_298 ?_
  refine l_M hh (av := [.int (xs (i + 1)), .int (xs (i + 2))]) (st := [.int r]) (r := some (.int r)) (d := d) (k0 := k) qV_RL_26 rfl rfl (Nat.le_of_ble_eq_true rfl) (by decide) (Nat.le_of_ble_eq_true rfl) dL_law_299 (tX7_late (by omega) ⟨r, k, h2, rfl, rfl⟩) ?_
  exact g_icmp_eq hc dL_law_302 (tgt := 1414) (by decide) (fun _ => kn _ h3) (fun q => absurd rfl q)
theorem law_3 (hh : lh p s m args meth c D cI cQ A ad b L xs) (hi : i + 6 ≤ L) (hR : Rel sg sg) (kn : ∀ sg2, Rel sg2 sg2 → gw mL p l e room_1 s m args below meth c D cI cQ A Z [] ad tL 600000 7302250 1414 (lvL i) [] sg2) : gw mL p l e room_1 s m args below meth c D cI cQ A Z [] ad tL 600000 7302250 307 (lvL i) [] sg := by
  have hc := hh.1
  obtain ⟨r, d, k, h1, h2, h3⟩ := Sim_law (f := (fX6_text (xs (i + 1)) (xs (i + 2)) (xs (i + 3)) (xs (i + 4)))) (g := (fX7_text (xs (i + 1)) (xs (i + 2)) (xs (i + 3)) (xs (i + 4)))) (fun c m h => text_st h) hR
  refine g_aload_n hc (k0 := 1) (x := 0) rfl dL_law_307 ?_
  refine l_arg hh (n := 1) (by decide) (by omega) dL_law_308 dL_law_309 dL_law_310 dL_law_311 dL_law_312 ?_
  refine l_arg hh (n := 2) (by decide) (by omega) dL_law_313 dL_law_314 dL_law_315 dL_law_316 dL_law_317 ?_
  refine l_arg hh (n := 3) (by decide) (by omega) dL_law_318 dL_law_319 dL_law_320 dL_law_321 dL_law_322 ?_
  refine l_arg hh (n := 4) (by decide) (by omega) dL_law_323 dL_law_324 dL_law_325 dL_law_326 dL_law_327 ?_
  refine l_C hh (av := [.int (xs (i + 1)), .int (xs (i + 2)), .int (xs (i + 3)), .int (xs (i + 4))]) (st := []) (r := some (.int r)) (d := d) qV_RL_27 rfl rfl (Nat.le_of_ble_eq_true rfl) (by decide) (Nat.le_of_ble_eq_true rfl) dL_law_328 (tX6_text (by omega) ⟨r, d, h1, rfl, rfl⟩) ?_
  refine g_aload_n hc (k0 := 2) (x := 300) rfl dL_law_331 ?_
  refine l_arg hh (n := 1) (by decide) (by omega) dL_law_332 dL_law_333 dL_law_334 dL_law_335 dL_law_336 ?_
  refine l_arg hh (n := 2) (by decide) (by omega) dL_law_337 dL_law_338 dL_law_339 dL_law_340 dL_law_341 ?_
  refine l_arg hh (n := 3) (by decide) (by omega) dL_law_342 dL_law_343 dL_law_344 dL_law_345 dL_law_346 ?_
  refine l_arg hh (n := 4) (by decide) (by omega) dL_law_347 dL_law_348 dL_law_349 dL_law_350 dL_law_351 ?_
  refine l_M hh (av := [.int (xs (i + 1)), .int (xs (i + 2)), .int (xs (i + 3)), .int (xs (i + 4))]) (st := [.int r]) (r := some (.int r)) (d := d) (k0 := k) qV_RL_30 rfl rfl (Nat.le_of_ble_eq_true rfl) (by decide) (Nat.le_of_ble_eq_true rfl) dL_law_352 (tX7_text (by omega) ⟨r, k, h2, rfl, rfl⟩) ?_
  exact g_icmp_eq hc dL_law_355 (tgt := 1414) (by decide) (fun _ => kn _ h3) (fun q => absurd rfl q)
theorem law_4 (hh : lh p s m args meth c D cI cQ A ad b L xs) (hi : i + 6 ≤ L) (hR : Rel sg sg) (kn : ∀ sg2, Rel sg2 sg2 → gw mL p l e room_1 s m args below meth c D cI cQ A Z [] ad tL 600000 7302250 1414 (lvL i) [] sg2) : gw mL p l e room_1 s m args below meth c D cI cQ A Z [] ad tL 600000 7302250 360 (lvL i) [] sg := by
  have hc := hh.1
  obtain ⟨r, d, k, h1, h2, h3⟩ := Sim_law (f := (fX6_at (xs (i + 1)) (xs (i + 2)))) (g := (fX7_at (xs (i + 1)) (xs (i + 2)))) (fun c m h => at_st h) hR
  refine g_aload_n hc (k0 := 1) (x := 0) rfl dL_law_360 ?_
  refine l_arg hh (n := 1) (by decide) (by omega) dL_law_361 dL_law_362 dL_law_363 dL_law_364 dL_law_365 ?_
  refine l_arg hh (n := 2) (by decide) (by omega) dL_law_366 dL_law_367 dL_law_368 dL_law_369 dL_law_370 ?_
  refine l_C hh (av := [.int (xs (i + 1)), .int (xs (i + 2))]) (st := []) (r := some (.int r)) (d := d) qV_RL_31 rfl rfl (Nat.le_of_ble_eq_true rfl) (by decide) (Nat.le_of_ble_eq_true rfl) dL_law_371 (tX6_at (by omega) ⟨r, d, h1, rfl, rfl⟩) ?_
  refine g_aload_n hc (k0 := 2) (x := 300) rfl dL_law_374 ?_
  refine l_arg hh (n := 1) (by decide) (by omega) dL_law_375 dL_law_376 dL_law_377 dL_law_378 dL_law_379 ?_
  refine l_arg hh (n := 2) (by decide) (by omega) dL_law_380 dL_law_381 dL_law_382 dL_law_383 dL_law_384 ?_
  refine l_M hh (av := [.int (xs (i + 1)), .int (xs (i + 2))]) (st := [.int r]) (r := some (.int r)) (d := d) (k0 := k) qV_RL_34 rfl rfl (Nat.le_of_ble_eq_true rfl) (by decide) (Nat.le_of_ble_eq_true rfl) dL_law_385 (tX7_at (by omega) ⟨r, k, h2, rfl, rfl⟩) ?_
  exact g_icmp_eq hc dL_law_388 (tgt := 1414) (by decide) (fun _ => kn _ h3) (fun q => absurd rfl q)
theorem law_5 (hh : lh p s m args meth c D cI cQ A ad b L xs) (hi : i + 6 ≤ L) (hR : Rel sg sg) (kn : ∀ sg2, Rel sg2 sg2 → gw mL p l e room_1 s m args below meth c D cI cQ A Z [] ad tL 600000 7302250 1414 (lvL i) [] sg2) : gw mL p l e room_1 s m args below meth c D cI cQ A Z [] ad tL 600000 7302250 393 (lvL i) [] sg := by
  have hc := hh.1
  obtain ⟨r, d, k, h1, h2, h3⟩ := Sim_law (f := (fX6_make (xs (i + 1)) (xs (i + 2)) (xs (i + 3)))) (g := (fX7_make (xs (i + 1)) (xs (i + 2)) (xs (i + 3)))) (fun c m h => make_st h) hR
  refine g_aload_n hc (k0 := 1) (x := 0) rfl dL_law_393 ?_
  refine l_arg hh (n := 1) (by decide) (by omega) dL_law_394 dL_law_395 dL_law_396 dL_law_397 dL_law_398 ?_
  refine l_arg hh (n := 2) (by decide) (by omega) dL_law_399 dL_law_400 dL_law_401 dL_law_402 dL_law_403 ?_
  refine l_arg hh (n := 3) (by decide) (by omega) dL_law_404 dL_law_405 dL_law_406 dL_law_407 dL_law_408 ?_
  refine l_C hh (av := [.int (xs (i + 1)), .int (xs (i + 2)), .int (xs (i + 3))]) (st := []) (r := some (.int r)) (d := d) qV_RL_35 rfl rfl (Nat.le_of_ble_eq_true rfl) (by decide) (Nat.le_of_ble_eq_true rfl) dL_law_409 (tX6_make (by omega) ⟨r, d, h1, rfl, rfl⟩) ?_
  refine g_aload_n hc (k0 := 2) (x := 300) rfl dL_law_412 ?_
  refine l_arg hh (n := 1) (by decide) (by omega) dL_law_413 dL_law_414 dL_law_415 dL_law_416 dL_law_417 ?_
  refine l_arg hh (n := 2) (by decide) (by omega) dL_law_418 dL_law_419 dL_law_420 dL_law_421 dL_law_422 ?_
  refine l_arg hh (n := 3) (by decide) (by omega) dL_law_423 dL_law_424 dL_law_425 dL_law_426 dL_law_427 ?_
  refine l_M hh (av := [.int (xs (i + 1)), .int (xs (i + 2)), .int (xs (i + 3))]) (st := [.int r]) (r := some (.int r)) (d := d) (k0 := k) qV_RL_39 rfl rfl (Nat.le_of_ble_eq_true rfl) (by decide) (Nat.le_of_ble_eq_true rfl) dL_law_428 (tX7_make (by omega) ⟨r, k, h2, rfl, rfl⟩) ?_
  exact g_icmp_eq hc dL_law_431 (tgt := 1414) (by decide) (fun _ => kn _ h3) (fun q => absurd rfl q)
theorem law_6 (hh : lh p s m args meth c D cI cQ A ad b L xs) (hi : i + 6 ≤ L) (hR : Rel sg sg) (kn : ∀ sg2, Rel sg2 sg2 → gw mL p l e room_1 s m args below meth c D cI cQ A Z [] ad tL 600000 7302250 1414 (lvL i) [] sg2) : gw mL p l e room_1 s m args below meth c D cI cQ A Z [] ad tL 600000 7302250 436 (lvL i) [] sg := by
  have hc := hh.1
  obtain ⟨r, d, k, h1, h2, h3⟩ := Sim_law (f := (fX6_move (xs (i + 1)) (xs (i + 2)) (xs (i + 3)))) (g := (fX7_move (xs (i + 1)) (xs (i + 2)) (xs (i + 3)))) (fun c m h => move_st h) hR
  refine g_aload_n hc (k0 := 1) (x := 0) rfl dL_law_436 ?_
  refine l_arg hh (n := 1) (by decide) (by omega) dL_law_437 dL_law_438 dL_law_439 dL_law_440 dL_law_441 ?_
  refine l_arg hh (n := 2) (by decide) (by omega) dL_law_442 dL_law_443 dL_law_444 dL_law_445 dL_law_446 ?_
  refine l_arg hh (n := 3) (by decide) (by omega) dL_law_447 dL_law_448 dL_law_449 dL_law_450 dL_law_451 ?_
  refine l_C hh (av := [.int (xs (i + 1)), .int (xs (i + 2)), .int (xs (i + 3))]) (st := []) (r := some (.int r)) (d := d) qV_RL_40 rfl rfl (Nat.le_of_ble_eq_true rfl) (by decide) (Nat.le_of_ble_eq_true rfl) dL_law_452 (tX6_move (by omega) ⟨r, d, h1, rfl, rfl⟩) ?_
  refine g_aload_n hc (k0 := 2) (x := 300) rfl dL_law_455 ?_
  refine l_arg hh (n := 1) (by decide) (by omega) dL_law_456 dL_law_457 dL_law_458 dL_law_459 dL_law_460 ?_
  refine l_arg hh (n := 2) (by decide) (by omega) dL_law_461 dL_law_462 dL_law_463 dL_law_464 dL_law_465 ?_
  refine l_arg hh (n := 3) (by decide) (by omega) dL_law_466 dL_law_467 dL_law_468 dL_law_469 dL_law_470 ?_
  refine l_M hh (av := [.int (xs (i + 1)), .int (xs (i + 2)), .int (xs (i + 3))]) (st := [.int r]) (r := some (.int r)) (d := d) (k0 := k) qV_RL_43 rfl rfl (Nat.le_of_ble_eq_true rfl) (by decide) (Nat.le_of_ble_eq_true rfl) dL_law_471 (tX7_move (by omega) ⟨r, k, h2, rfl, rfl⟩) ?_
  exact g_icmp_eq hc dL_law_474 (tgt := 1414) (by decide) (fun _ => kn _ h3) (fun q => absurd rfl q)
theorem law_7 (hh : lh p s m args meth c D cI cQ A ad b L xs) (hi : i + 6 ≤ L) (hR : Rel sg sg) (kn : ∀ sg2, Rel sg2 sg2 → gw mL p l e room_1 s m args below meth c D cI cQ A Z [] ad tL 600000 7302250 1414 (lvL i) [] sg2) : gw mL p l e room_1 s m args below meth c D cI cQ A Z [] ad tL 600000 7302250 479 (lvL i) [] sg := by
  have hc := hh.1
  obtain ⟨r, d, k, h1, h2, h3⟩ := Sim_law (f := (fX6_delay (xs (i + 1)) (xs (i + 2)))) (g := (fX7_delay (xs (i + 1)) (xs (i + 2)))) (fun c m h => delay_st h) hR
  refine g_aload_n hc (k0 := 1) (x := 0) rfl dL_law_479 ?_
  refine l_arg hh (n := 1) (by decide) (by omega) dL_law_480 dL_law_481 dL_law_482 dL_law_483 dL_law_484 ?_
  refine l_arg hh (n := 2) (by decide) (by omega) dL_law_485 dL_law_486 dL_law_487 dL_law_488 dL_law_489 ?_
  refine l_C hh (av := [.int (xs (i + 1)), .int (xs (i + 2))]) (st := []) (r := some (.int r)) (d := d) qV_RL_44 rfl rfl (Nat.le_of_ble_eq_true rfl) (by decide) (Nat.le_of_ble_eq_true rfl) dL_law_490 (tX6_delay (by omega) ⟨r, d, h1, rfl, rfl⟩) ?_
  refine g_aload_n hc (k0 := 2) (x := 300) rfl dL_law_493 ?_
  refine l_arg hh (n := 1) (by decide) (by omega) dL_law_494 dL_law_495 dL_law_496 dL_law_497 dL_law_498 ?_
  refine l_arg hh (n := 2) (by decide) (by omega) dL_law_499 dL_law_500 dL_law_501 dL_law_502 dL_law_503 ?_
  refine l_M hh (av := [.int (xs (i + 1)), .int (xs (i + 2))]) (st := [.int r]) (r := some (.int r)) (d := d) (k0 := k) qV_RL_47 rfl rfl (Nat.le_of_ble_eq_true rfl) (by decide) (Nat.le_of_ble_eq_true rfl) dL_law_504 (tX7_delay (by omega) ⟨r, k, h2, rfl, rfl⟩) ?_
  exact g_icmp_eq hc dL_law_507 (tgt := 1414) (by decide) (fun _ => kn _ h3) (fun q => absurd rfl q)
theorem law_8 (hh : lh p s m args meth c D cI cQ A ad b L xs) (hi : i + 6 ≤ L) (hR : Rel sg sg) (kn : ∀ sg2, Rel sg2 sg2 → gw mL p l e room_1 s m args below meth c D cI cQ A Z [] ad tL 600000 7302250 1414 (lvL i) [] sg2) : gw mL p l e room_1 s m args below meth c D cI cQ A Z [] ad tL 600000 7302250 512 (lvL i) [] sg := by
  have hc := hh.1
  obtain ⟨r, d, k, h1, h2, h3⟩ := Sim_law (f := (fX6_heap (xs (i + 1)) (xs (i + 2)))) (g := (fX7_heap (xs (i + 1)) (xs (i + 2)))) (fun c m h => heap_st h) hR
  refine g_aload_n hc (k0 := 1) (x := 0) rfl dL_law_512 ?_
  refine l_arg hh (n := 1) (by decide) (by omega) dL_law_513 dL_law_514 dL_law_515 dL_law_516 dL_law_517 ?_
  refine l_arg hh (n := 2) (by decide) (by omega) dL_law_518 dL_law_519 dL_law_520 dL_law_521 dL_law_522 ?_
  refine l_C hh (av := [.int (xs (i + 1)), .int (xs (i + 2))]) (st := []) (r := some (.int r)) (d := d) qV_RL_48 rfl rfl (Nat.le_of_ble_eq_true rfl) (by decide) (Nat.le_of_ble_eq_true rfl) dL_law_523 (tX6_heap (by omega) ⟨r, d, h1, rfl, rfl⟩) ?_
  refine g_aload_n hc (k0 := 2) (x := 300) rfl dL_law_526 ?_
  refine l_arg hh (n := 1) (by decide) (by omega) dL_law_527 dL_law_528 dL_law_529 dL_law_530 dL_law_531 ?_
  refine l_arg hh (n := 2) (by decide) (by omega) dL_law_532 dL_law_533 dL_law_534 dL_law_535 dL_law_536 ?_
  refine l_M hh (av := [.int (xs (i + 1)), .int (xs (i + 2))]) (st := [.int r]) (r := some (.int r)) (d := d) (k0 := k) qV_RL_51 rfl rfl (Nat.le_of_ble_eq_true rfl) (by decide) (Nat.le_of_ble_eq_true rfl) dL_law_537 (tX7_heap (by omega) ⟨r, k, h2, rfl, rfl⟩) ?_
  exact g_icmp_eq hc dL_law_540 (tgt := 1414) (by decide) (fun _ => kn _ h3) (fun q => absurd rfl q)
theorem law_9 (hh : lh p s m args meth c D cI cQ A ad b L xs) (hi : i + 6 ≤ L) (hR : Rel sg sg) (kn : ∀ sg2, Rel sg2 sg2 → gw mL p l e room_1 s m args below meth c D cI cQ A Z [] ad tL 600000 7302250 1414 (lvL i) [] sg2) : gw mL p l e room_1 s m args below meth c D cI cQ A Z [] ad tL 600000 7302250 545 (lvL i) [] sg := by
  have hc := hh.1
  obtain ⟨r, d, k, h1, h2, h3⟩ := Sim_law (f := (fX6_within (xs (i + 1)) (xs (i + 2)))) (g := (fX7_within (xs (i + 1)) (xs (i + 2)))) (fun c m h => within_st h) hR
  refine g_aload_n hc (k0 := 1) (x := 0) rfl dL_law_545 ?_
  refine l_arg hh (n := 1) (by decide) (by omega) dL_law_546 dL_law_547 dL_law_548 dL_law_549 dL_law_550 ?_
  refine l_arg hh (n := 2) (by decide) (by omega) dL_law_551 dL_law_552 dL_law_553 dL_law_554 dL_law_555 ?_
  refine l_C hh (av := [.int (xs (i + 1)), .int (xs (i + 2))]) (st := []) (r := some (.int r)) (d := d) qV_RL_52 rfl rfl (Nat.le_of_ble_eq_true rfl) (by decide) (Nat.le_of_ble_eq_true rfl) dL_law_556 (tX6_within (by omega) ⟨r, d, h1, rfl, rfl⟩) ?_
  refine g_aload_n hc (k0 := 2) (x := 300) rfl dL_law_559 ?_
  refine l_arg hh (n := 1) (by decide) (by omega) dL_law_560 dL_law_561 dL_law_562 dL_law_563 dL_law_564 ?_
  refine l_arg hh (n := 2) (by decide) (by omega) dL_law_565 dL_law_566 dL_law_567 dL_law_568 dL_law_569 ?_
  refine l_M hh (av := [.int (xs (i + 1)), .int (xs (i + 2))]) (st := [.int r]) (r := some (.int r)) (d := d) (k0 := k) qV_RL_55 rfl rfl (Nat.le_of_ble_eq_true rfl) (by decide) (Nat.le_of_ble_eq_true rfl) dL_law_570 (tX7_within (by omega) ⟨r, k, h2, rfl, rfl⟩) ?_
  exact g_icmp_eq hc dL_law_573 (tgt := 1414) (by decide) (fun _ => kn _ h3) (fun q => absurd rfl q)
theorem law_10 (hh : lh p s m args meth c D cI cQ A ad b L xs) (hi : i + 6 ≤ L) (hR : Rel sg sg) (kn : ∀ sg2, Rel sg2 sg2 → gw mL p l e room_1 s m args below meth c D cI cQ A Z [] ad tL 600000 7302250 1414 (lvL i) [] sg2) : gw mL p l e room_1 s m args below meth c D cI cQ A Z [] ad tL 600000 7302250 578 (lvL i) [] sg := by
  have hc := hh.1
  obtain ⟨r, d, k, h1, h2, h3⟩ := Sim_law (f := (fX6_serve (xs (i + 1)) (xs (i + 2)))) (g := (fX7_serve (xs (i + 1)) (xs (i + 2)))) (fun c m h => serve_st h) hR
  refine g_aload_n hc (k0 := 1) (x := 0) rfl dL_law_578 ?_
  refine l_arg hh (n := 1) (by decide) (by omega) dL_law_579 dL_law_580 dL_law_581 dL_law_582 dL_law_583 ?_
  refine l_arg hh (n := 2) (by decide) (by omega) dL_law_584 dL_law_585 dL_law_586 dL_law_587 dL_law_588 ?_
  refine l_C hh (av := [.int (xs (i + 1)), .int (xs (i + 2))]) (st := []) (r := some (.int r)) (d := d) qV_RL_56 rfl rfl (Nat.le_of_ble_eq_true rfl) (by decide) (Nat.le_of_ble_eq_true rfl) dL_law_589 (tX6_serve (by omega) ⟨r, d, h1, rfl, rfl⟩) ?_
  refine g_aload_n hc (k0 := 2) (x := 300) rfl dL_law_592 ?_
  refine l_arg hh (n := 1) (by decide) (by omega) dL_law_593 dL_law_594 dL_law_595 dL_law_596 dL_law_597 ?_
  refine l_arg hh (n := 2) (by decide) (by omega) dL_law_598 dL_law_599 dL_law_600 dL_law_601 dL_law_602 ?_
  refine l_M hh (av := [.int (xs (i + 1)), .int (xs (i + 2))]) (st := [.int r]) (r := some (.int r)) (d := d) (k0 := k) qV_RL_59 rfl rfl (Nat.le_of_ble_eq_true rfl) (by decide) (Nat.le_of_ble_eq_true rfl) dL_law_603 (tX7_serve (by omega) ⟨r, k, h2, rfl, rfl⟩) ?_
  exact g_icmp_eq hc dL_law_606 (tgt := 1414) (by decide) (fun _ => kn _ h3) (fun q => absurd rfl q)
theorem law_11 (hh : lh p s m args meth c D cI cQ A ad b L xs) (hi : i + 6 ≤ L) (hR : Rel sg sg) (kn : ∀ sg2, Rel sg2 sg2 → gw mL p l e room_1 s m args below meth c D cI cQ A Z [] ad tL 600000 7302250 1414 (lvL i) [] sg2) : gw mL p l e room_1 s m args below meth c D cI cQ A Z [] ad tL 600000 7302250 611 (lvL i) [] sg := by
  have hc := hh.1
  obtain ⟨r, d, k, h1, h2, h3⟩ := Sim_law (f := (fX6_flow (xs (i + 1)) (xs (i + 2)) (xs (i + 3)) (xs (i + 4)) (xs (i + 5)))) (g := (fX7_flow (xs (i + 1)) (xs (i + 2)) (xs (i + 3)) (xs (i + 4)) (xs (i + 5)))) (fun c m h => flow_st h) hR
  refine g_aload_n hc (k0 := 1) (x := 0) rfl dL_law_611 ?_
  refine l_arg hh (n := 1) (by decide) (by omega) dL_law_612 dL_law_613 dL_law_614 dL_law_615 dL_law_616 ?_
  refine l_arg hh (n := 2) (by decide) (by omega) dL_law_617 dL_law_618 dL_law_619 dL_law_620 dL_law_621 ?_
  refine l_arg hh (n := 3) (by decide) (by omega) dL_law_622 dL_law_623 dL_law_624 dL_law_625 dL_law_626 ?_
  refine l_arg hh (n := 4) (by decide) (by omega) dL_law_627 dL_law_628 dL_law_629 dL_law_630 dL_law_631 ?_
  refine l_arg hh (n := 5) (by decide) (by omega) dL_law_632 dL_law_633 dL_law_634 dL_law_635 dL_law_636 ?_
  refine l_C hh (av := [.int (xs (i + 1)), .int (xs (i + 2)), .int (xs (i + 3)), .int (xs (i + 4)), .int (xs (i + 5))]) (st := []) (r := some (.int r)) (d := d) qV_RL_60 rfl rfl (Nat.le_of_ble_eq_true rfl) (by decide) (Nat.le_of_ble_eq_true rfl) dL_law_637 (tX6_flow (by omega) ⟨r, d, h1, rfl, rfl⟩) ?_
  refine g_aload_n hc (k0 := 2) (x := 300) rfl dL_law_640 ?_
  refine l_arg hh (n := 1) (by decide) (by omega) dL_law_641 dL_law_642 dL_law_643 dL_law_644 dL_law_645 ?_
  refine l_arg hh (n := 2) (by decide) (by omega) dL_law_646 dL_law_647 dL_law_648 dL_law_649 dL_law_650 ?_
  refine l_arg hh (n := 3) (by decide) (by omega) dL_law_651 dL_law_652 dL_law_653 dL_law_654 dL_law_655 ?_
  refine l_arg hh (n := 4) (by decide) (by omega) dL_law_656 dL_law_657 dL_law_658 dL_law_659 dL_law_660 ?_
  refine l_arg hh (n := 5) (by decide) (by omega) dL_law_661 dL_law_662 dL_law_663 dL_law_664 dL_law_665 ?_
  refine l_M hh (av := [.int (xs (i + 1)), .int (xs (i + 2)), .int (xs (i + 3)), .int (xs (i + 4)), .int (xs (i + 5))]) (st := [.int r]) (r := some (.int r)) (d := d) (k0 := k) qV_RL_64 rfl rfl (Nat.le_of_ble_eq_true rfl) (by decide) (Nat.le_of_ble_eq_true rfl) dL_law_666 (tX7_flow (by omega) ⟨r, k, h2, rfl, rfl⟩) ?_
  exact g_icmp_eq hc dL_law_669 (tgt := 1414) (by decide) (fun _ => kn _ h3) (fun q => absurd rfl q)
theorem law_12 (hh : lh p s m args meth c D cI cQ A ad b L xs) (hi : i + 6 ≤ L) (hR : Rel sg sg) (kn : ∀ sg2, Rel sg2 sg2 → gw mL p l e room_1 s m args below meth c D cI cQ A Z [] ad tL 600000 7302250 1414 (lvL i) [] sg2) : gw mL p l e room_1 s m args below meth c D cI cQ A Z [] ad tL 600000 7302250 674 (lvL i) [] sg := by
  have hc := hh.1
  obtain ⟨r, d, k, h1, h2, h3⟩ := Sim_law (f := (fX6_ofFlow (xs (i + 1)) (xs (i + 2)))) (g := (fX7_ofFlow (xs (i + 1)) (xs (i + 2)))) (fun c m h => ofFlow_st h) hR
  refine g_aload_n hc (k0 := 1) (x := 0) rfl dL_law_674 ?_
  refine l_arg hh (n := 1) (by decide) (by omega) dL_law_675 dL_law_676 dL_law_677 dL_law_678 dL_law_679 ?_
  refine l_arg hh (n := 2) (by decide) (by omega) dL_law_680 dL_law_681 dL_law_682 dL_law_683 dL_law_684 ?_
  refine l_C hh (av := [.int (xs (i + 1)), .int (xs (i + 2))]) (st := []) (r := some (.int r)) (d := d) qV_RL_65 rfl rfl (Nat.le_of_ble_eq_true rfl) (by decide) (Nat.le_of_ble_eq_true rfl) dL_law_685 (tX6_ofFlow (by omega) ⟨r, d, h1, rfl, rfl⟩) ?_
  refine g_aload_n hc (k0 := 2) (x := 300) rfl dL_law_688 ?_
  refine l_arg hh (n := 1) (by decide) (by omega) dL_law_689 dL_law_690 dL_law_691 dL_law_692 dL_law_693 ?_
  refine l_arg hh (n := 2) (by decide) (by omega) dL_law_694 dL_law_695 dL_law_696 dL_law_697 dL_law_698 ?_
  refine l_M hh (av := [.int (xs (i + 1)), .int (xs (i + 2))]) (st := [.int r]) (r := some (.int r)) (d := d) (k0 := k) qV_RL_68 rfl rfl (Nat.le_of_ble_eq_true rfl) (by decide) (Nat.le_of_ble_eq_true rfl) dL_law_699 (tX7_ofFlow (by omega) ⟨r, k, h2, rfl, rfl⟩) ?_
  exact g_icmp_eq hc dL_law_702 (tgt := 1414) (by decide) (fun _ => kn _ h3) (fun q => absurd rfl q)
theorem law_13 (hh : lh p s m args meth c D cI cQ A ad b L xs) (hi : i + 6 ≤ L) (hR : Rel sg sg) (kn : ∀ sg2, Rel sg2 sg2 → gw mL p l e room_1 s m args below meth c D cI cQ A Z [] ad tL 600000 7302250 1414 (lvL i) [] sg2) : gw mL p l e room_1 s m args below meth c D cI cQ A Z [] ad tL 600000 7302250 707 (lvL i) [] sg := by
  have hc := hh.1
  obtain ⟨r, d, k, h1, h2, h3⟩ := Sim_law (f := (fX6_rule (xs (i + 1)))) (g := (fX7_rule (xs (i + 1)))) (fun c m h => rule_st h) hR
  refine g_aload_n hc (k0 := 1) (x := 0) rfl dL_law_707 ?_
  refine l_arg hh (n := 1) (by decide) (by omega) dL_law_708 dL_law_709 dL_law_710 dL_law_711 dL_law_712 ?_
  refine l_C hh (av := [.int (xs (i + 1))]) (st := []) (r := some (.int r)) (d := d) qV_RL_69 rfl rfl (Nat.le_of_ble_eq_true rfl) (by decide) (Nat.le_of_ble_eq_true rfl) dL_law_713 (tX6_rule (by omega) ⟨r, d, h1, rfl, rfl⟩) ?_
  refine g_aload_n hc (k0 := 2) (x := 300) rfl dL_law_716 ?_
  refine l_arg hh (n := 1) (by decide) (by omega) dL_law_717 dL_law_718 dL_law_719 dL_law_720 dL_law_721 ?_
  refine l_M hh (av := [.int (xs (i + 1))]) (st := [.int r]) (r := some (.int r)) (d := d) (k0 := k) qV_RL_73 rfl rfl (Nat.le_of_ble_eq_true rfl) (by decide) (Nat.le_of_ble_eq_true rfl) dL_law_722 (tX7_rule (by omega) ⟨r, k, h2, rfl, rfl⟩) ?_
  exact g_icmp_eq hc dL_law_725 (tgt := 1414) (by decide) (fun _ => kn _ h3) (fun q => absurd rfl q)
theorem law_14 (hh : lh p s m args meth c D cI cQ A ad b L xs) (hi : i + 6 ≤ L) (hR : Rel sg sg) (kn : ∀ sg2, Rel sg2 sg2 → gw mL p l e room_1 s m args below meth c D cI cQ A Z [] ad tL 600000 7302250 1414 (lvL i) [] sg2) : gw mL p l e room_1 s m args below meth c D cI cQ A Z [] ad tL 600000 7302250 730 (lvL i) [] sg := by
  have hc := hh.1
  obtain ⟨r, d, k, h1, h2, h3⟩ := Sim_law (f := fX6_ring) (g := fX7_ring) (fun c m h => ring_st h) hR
  refine g_aload_n hc (k0 := 1) (x := 0) rfl dL_law_730 ?_
  refine l_C hh (av := []) (st := []) (r := some (.int r)) (d := d) qV_RL_74 rfl rfl (Nat.le_of_ble_eq_true rfl) (by decide) (Nat.le_of_ble_eq_true rfl) dL_law_731 (tX6_ring (by omega) ⟨r, d, h1, rfl, rfl⟩) ?_
  refine g_aload_n hc (k0 := 2) (x := 300) rfl dL_law_734 ?_
  refine l_M hh (av := []) (st := [.int r]) (r := some (.int r)) (d := d) (k0 := k) qV_RL_78 rfl rfl (Nat.le_of_ble_eq_true rfl) (by decide) (Nat.le_of_ble_eq_true rfl) dL_law_735 (tX7_ring (by omega) ⟨r, k, h2, rfl, rfl⟩) ?_
  exact g_icmp_eq hc dL_law_738 (tgt := 1414) (by decide) (fun _ => kn _ h3) (fun q => absurd rfl q)
theorem law_15 (hh : lh p s m args meth c D cI cQ A ad b L xs) (hi : i + 6 ≤ L) (hR : Rel sg sg) (kn : ∀ sg2, Rel sg2 sg2 → gw mL p l e room_1 s m args below meth c D cI cQ A Z [] ad tL 600000 7302250 1414 (lvL i) [] sg2) : gw mL p l e room_1 s m args below meth c D cI cQ A Z [] ad tL 600000 7302250 743 (lvL i) [] sg := by
  have hc := hh.1
  obtain ⟨r, d, k, h1, h2, h3⟩ := Sim_law (f := (fX6_latest (xs (i + 1)) (xs (i + 2)))) (g := (fX7_latest (xs (i + 1)) (xs (i + 2)))) (fun c m h => latest_st h) hR
  refine g_aload_n hc (k0 := 1) (x := 0) rfl dL_law_743 ?_
  refine l_arg hh (n := 1) (by decide) (by omega) dL_law_744 dL_law_745 dL_law_746 dL_law_747 dL_law_748 ?_
  refine l_arg hh (n := 2) (by decide) (by omega) dL_law_749 dL_law_750 dL_law_751 dL_law_752 dL_law_753 ?_
  refine l_C hh (av := [.int (xs (i + 1)), .int (xs (i + 2))]) (st := []) (r := some (.int r)) (d := d) qV_RL_79 rfl rfl (Nat.le_of_ble_eq_true rfl) (by decide) (Nat.le_of_ble_eq_true rfl) dL_law_754 (tX6_latest (by omega) ⟨r, d, h1, rfl, rfl⟩) ?_
  refine g_aload_n hc (k0 := 2) (x := 300) rfl dL_law_757 ?_
  refine l_arg hh (n := 1) (by decide) (by omega) dL_law_758 dL_law_759 dL_law_760 dL_law_761 dL_law_762 ?_
  refine l_arg hh (n := 2) (by decide) (by omega) dL_law_763 dL_law_764 dL_law_765 dL_law_766 dL_law_767 ?_
  refine l_M hh (av := [.int (xs (i + 1)), .int (xs (i + 2))]) (st := [.int r]) (r := some (.int r)) (d := d) (k0 := k) qV_RL_82 rfl rfl (Nat.le_of_ble_eq_true rfl) (by decide) (Nat.le_of_ble_eq_true rfl) dL_law_768 (tX7_latest (by omega) ⟨r, k, h2, rfl, rfl⟩) ?_
  exact g_icmp_eq hc dL_law_771 (tgt := 1414) (by decide) (fun _ => kn _ h3) (fun q => absurd rfl q)
theorem law_16 (hh : lh p s m args meth c D cI cQ A ad b L xs) (hi : i + 6 ≤ L) (hR : Rel sg sg) (kn : ∀ sg2, Rel sg2 sg2 → gw mL p l e room_1 s m args below meth c D cI cQ A Z [] ad tL 600000 7302250 1414 (lvL i) [] sg2) : gw mL p l e room_1 s m args below meth c D cI cQ A Z [] ad tL 600000 7302250 776 (lvL i) [] sg := by
  have hc := hh.1
  obtain ⟨r, d, k, h1, h2, h3⟩ := Sim_law (f := (fX6_there (xs (i + 1)) (xs (i + 2)) (xs (i + 3)) (xs (i + 4)))) (g := (fX7_there (xs (i + 1)) (xs (i + 2)) (xs (i + 3)) (xs (i + 4)))) (fun c m h => there_st h) hR
  refine g_aload_n hc (k0 := 1) (x := 0) rfl dL_law_776 ?_
  refine l_arg hh (n := 1) (by decide) (by omega) dL_law_777 dL_law_778 dL_law_779 dL_law_780 dL_law_781 ?_
  refine l_arg hh (n := 2) (by decide) (by omega) dL_law_782 dL_law_783 dL_law_784 dL_law_785 dL_law_786 ?_
  refine l_arg hh (n := 3) (by decide) (by omega) dL_law_787 dL_law_788 dL_law_789 dL_law_790 dL_law_791 ?_
  refine l_arg hh (n := 4) (by decide) (by omega) dL_law_792 dL_law_793 dL_law_794 dL_law_795 dL_law_796 ?_
  refine l_C hh (av := [.int (xs (i + 1)), .int (xs (i + 2)), .int (xs (i + 3)), .int (xs (i + 4))]) (st := []) (r := some (.int r)) (d := d) qV_RL_83 rfl rfl (Nat.le_of_ble_eq_true rfl) (by decide) (Nat.le_of_ble_eq_true rfl) dL_law_797 (tX6_there (by omega) ⟨r, d, h1, rfl, rfl⟩) ?_
  refine g_aload_n hc (k0 := 2) (x := 300) rfl dL_law_800 ?_
  refine l_arg hh (n := 1) (by decide) (by omega) dL_law_801 dL_law_802 dL_law_803 dL_law_804 dL_law_805 ?_
  refine l_arg hh (n := 2) (by decide) (by omega) dL_law_806 dL_law_807 dL_law_808 dL_law_809 dL_law_810 ?_
  refine l_arg hh (n := 3) (by decide) (by omega) dL_law_811 dL_law_812 dL_law_813 dL_law_814 dL_law_815 ?_
  refine l_arg hh (n := 4) (by decide) (by omega) dL_law_816 dL_law_817 dL_law_818 dL_law_819 dL_law_820 ?_
  refine l_M hh (av := [.int (xs (i + 1)), .int (xs (i + 2)), .int (xs (i + 3)), .int (xs (i + 4))]) (st := [.int r]) (r := some (.int r)) (d := d) (k0 := k) qV_RL_86 rfl rfl (Nat.le_of_ble_eq_true rfl) (by decide) (Nat.le_of_ble_eq_true rfl) dL_law_821 (tX7_there (by omega) ⟨r, k, h2, rfl, rfl⟩) ?_
  exact g_icmp_eq hc dL_law_824 (tgt := 1414) (by decide) (fun _ => kn _ h3) (fun q => absurd rfl q)
theorem law_17 (hh : lh p s m args meth c D cI cQ A ad b L xs) (hi : i + 6 ≤ L) (hR : Rel sg sg) (kn : ∀ sg2, Rel sg2 sg2 → gw mL p l e room_1 s m args below meth c D cI cQ A Z [] ad tL 600000 7302250 1414 (lvL i) [] sg2) : gw mL p l e room_1 s m args below meth c D cI cQ A Z [] ad tL 600000 7302250 829 (lvL i) [] sg := by
  have hc := hh.1
  obtain ⟨r, d, k, h1, h2, h3⟩ := Sim_law (f := (fX6_heapAt (xs (i + 1)))) (g := (fX7_heapAt (xs (i + 1)))) (fun c m h => heapAt_st h) hR
  refine g_aload_n hc (k0 := 1) (x := 0) rfl dL_law_829 ?_
  refine l_arg hh (n := 1) (by decide) (by omega) dL_law_830 dL_law_831 dL_law_832 dL_law_833 dL_law_834 ?_
  refine l_C hh (av := [.int (xs (i + 1))]) (st := []) (r := some (.int r)) (d := d) qV_RL_87 rfl rfl (Nat.le_of_ble_eq_true rfl) (by decide) (Nat.le_of_ble_eq_true rfl) dL_law_835 (tX6_heapAt (by omega) ⟨r, d, h1, rfl, rfl⟩) ?_
  refine g_aload_n hc (k0 := 2) (x := 300) rfl dL_law_838 ?_
  refine l_arg hh (n := 1) (by decide) (by omega) dL_law_839 dL_law_840 dL_law_841 dL_law_842 dL_law_843 ?_
  refine l_M hh (av := [.int (xs (i + 1))]) (st := [.int r]) (r := some (.int r)) (d := d) (k0 := k) qV_RL_90 rfl rfl (Nat.le_of_ble_eq_true rfl) (by decide) (Nat.le_of_ble_eq_true rfl) dL_law_844 (tX7_heapAt (by omega) ⟨r, k, h2, rfl, rfl⟩) ?_
  exact g_icmp_eq hc dL_law_847 (tgt := 1414) (by decide) (fun _ => kn _ h3) (fun q => absurd rfl q)
theorem law_18 (hh : lh p s m args meth c D cI cQ A ad b L xs) (hi : i + 6 ≤ L) (hR : Rel sg sg) (kn : ∀ sg2, Rel sg2 sg2 → gw mL p l e room_1 s m args below meth c D cI cQ A Z [] ad tL 600000 7302250 1414 (lvL i) [] sg2) : gw mL p l e room_1 s m args below meth c D cI cQ A Z [] ad tL 600000 7302250 852 (lvL i) [] sg := by
  have hc := hh.1
  obtain ⟨r, d, k, h1, h2, h3⟩ := Sim_law (f := (fX6_bound (xs (i + 1)) (xs (i + 2)))) (g := (fX7_bound (xs (i + 1)) (xs (i + 2)))) (fun c m h => bound_st h) hR
  refine g_aload_n hc (k0 := 1) (x := 0) rfl dL_law_852 ?_
  refine l_arg hh (n := 1) (by decide) (by omega) dL_law_853 dL_law_854 dL_law_855 dL_law_856 dL_law_857 ?_
  refine l_arg hh (n := 2) (by decide) (by omega) dL_law_858 dL_law_859 dL_law_860 dL_law_861 dL_law_862 ?_
  refine l_C hh (av := [.int (xs (i + 1)), .int (xs (i + 2))]) (st := []) (r := some (.int r)) (d := d) qV_RL_91 rfl rfl (Nat.le_of_ble_eq_true rfl) (by decide) (Nat.le_of_ble_eq_true rfl) dL_law_863 (tX6_bound (by omega) ⟨r, d, h1, rfl, rfl⟩) ?_
  refine g_aload_n hc (k0 := 2) (x := 300) rfl dL_law_866 ?_
  refine l_arg hh (n := 1) (by decide) (by omega) dL_law_867 dL_law_868 dL_law_869 dL_law_870 dL_law_871 ?_
  refine l_arg hh (n := 2) (by decide) (by omega) dL_law_872 dL_law_873 dL_law_874 dL_law_875 dL_law_876 ?_
  refine l_M hh (av := [.int (xs (i + 1)), .int (xs (i + 2))]) (st := [.int r]) (r := some (.int r)) (d := d) (k0 := k) qV_RL_94 rfl rfl (Nat.le_of_ble_eq_true rfl) (by decide) (Nat.le_of_ble_eq_true rfl) dL_law_877 (tX7_bound (by omega) ⟨r, k, h2, rfl, rfl⟩) ?_
  exact g_icmp_eq hc dL_law_880 (tgt := 1414) (by decide) (fun _ => kn _ h3) (fun q => absurd rfl q)
theorem law_19 (hh : lh p s m args meth c D cI cQ A ad b L xs) (hi : i + 6 ≤ L) (hR : Rel sg sg) (kn : ∀ sg2, Rel sg2 sg2 → gw mL p l e room_1 s m args below meth c D cI cQ A Z [] ad tL 600000 7302250 1414 (lvL i) [] sg2) : gw mL p l e room_1 s m args below meth c D cI cQ A Z [] ad tL 600000 7302250 885 (lvL i) [] sg := by
  have hc := hh.1
  obtain ⟨r, d, k, h1, h2, h3⟩ := Sim_law (f := (fX6_see (xs (i + 1)) (xs (i + 2)) (xs (i + 3)) (xs (i + 4)))) (g := (fX7_see (xs (i + 1)) (xs (i + 2)) (xs (i + 3)) (xs (i + 4)))) (fun c m h => see_st h) hR
  refine g_aload_n hc (k0 := 1) (x := 0) rfl dL_law_885 ?_
  refine l_arg hh (n := 1) (by decide) (by omega) dL_law_886 dL_law_887 dL_law_888 dL_law_889 dL_law_890 ?_
  refine l_arg hh (n := 2) (by decide) (by omega) dL_law_891 dL_law_892 dL_law_893 dL_law_894 dL_law_895 ?_
  refine l_arg hh (n := 3) (by decide) (by omega) dL_law_896 dL_law_897 dL_law_898 dL_law_899 dL_law_900 ?_
  refine l_arg hh (n := 4) (by decide) (by omega) dL_law_901 dL_law_902 dL_law_903 dL_law_904 dL_law_905 ?_
  refine l_C hh (av := [.int (xs (i + 1)), .int (xs (i + 2)), .int (xs (i + 3)), .int (xs (i + 4))]) (st := []) (r := some (.int r)) (d := d) qV_RL_95 rfl rfl (Nat.le_of_ble_eq_true rfl) (by decide) (Nat.le_of_ble_eq_true rfl) dL_law_906 (tX6_see (by omega) ⟨r, d, h1, rfl, rfl⟩) ?_
  refine g_aload_n hc (k0 := 2) (x := 300) rfl dL_law_909 ?_
  refine l_arg hh (n := 1) (by decide) (by omega) dL_law_910 dL_law_911 dL_law_912 dL_law_913 dL_law_914 ?_
  refine l_arg hh (n := 2) (by decide) (by omega) dL_law_915 dL_law_916 dL_law_917 dL_law_918 dL_law_919 ?_
  refine l_arg hh (n := 3) (by decide) (by omega) dL_law_920 dL_law_921 dL_law_922 dL_law_923 dL_law_924 ?_
  refine l_arg hh (n := 4) (by decide) (by omega) dL_law_925 dL_law_926 dL_law_927 dL_law_928 dL_law_929 ?_
  refine l_M hh (av := [.int (xs (i + 1)), .int (xs (i + 2)), .int (xs (i + 3)), .int (xs (i + 4))]) (st := [.int r]) (r := some (.int r)) (d := d) (k0 := k) qV_RL_98 rfl rfl (Nat.le_of_ble_eq_true rfl) (by decide) (Nat.le_of_ble_eq_true rfl) dL_law_930 (tX7_see (by omega) ⟨r, k, h2, rfl, rfl⟩) ?_
  exact g_icmp_eq hc dL_law_933 (tgt := 1414) (by decide) (fun _ => kn _ h3) (fun q => absurd rfl q)
theorem law_20 (hh : lh p s m args meth c D cI cQ A ad b L xs) (hi : i + 6 ≤ L) (hR : Rel sg sg) (kn : ∀ sg2, Rel sg2 sg2 → gw mL p l e room_1 s m args below meth c D cI cQ A Z [] ad tL 600000 7302250 1414 (lvL i) [] sg2) : gw mL p l e room_1 s m args below meth c D cI cQ A Z [] ad tL 600000 7302250 938 (lvL i) [] sg := by
  have hc := hh.1
  obtain ⟨r, d, k, h1, h2, h3⟩ := Sim_law (f := (fX6_keeps (xs (i + 1)) (xs (i + 2)))) (g := (fX7_keeps (xs (i + 1)) (xs (i + 2)))) (fun c m h => keeps_st h) hR
  refine g_aload_n hc (k0 := 1) (x := 0) rfl dL_law_938 ?_
  refine l_arg hh (n := 1) (by decide) (by omega) dL_law_939 dL_law_940 dL_law_941 dL_law_942 dL_law_943 ?_
  refine l_arg hh (n := 2) (by decide) (by omega) dL_law_944 dL_law_945 dL_law_946 dL_law_947 dL_law_948 ?_
  refine l_C hh (av := [.int (xs (i + 1)), .int (xs (i + 2))]) (st := []) (r := some (.int r)) (d := d) qV_RL_99 rfl rfl (Nat.le_of_ble_eq_true rfl) (by decide) (Nat.le_of_ble_eq_true rfl) dL_law_949 (tX6_keeps (by omega) ⟨r, d, h1, rfl, rfl⟩) ?_
  refine g_aload_n hc (k0 := 2) (x := 300) rfl dL_law_952 ?_
  refine l_arg hh (n := 1) (by decide) (by omega) dL_law_953 dL_law_954 dL_law_955 dL_law_956 dL_law_957 ?_
  refine l_arg hh (n := 2) (by decide) (by omega) dL_law_958 dL_law_959 dL_law_960 dL_law_961 dL_law_962 ?_
  refine l_M hh (av := [.int (xs (i + 1)), .int (xs (i + 2))]) (st := [.int r]) (r := some (.int r)) (d := d) (k0 := k) qV_RL_102 rfl rfl (Nat.le_of_ble_eq_true rfl) (by decide) (Nat.le_of_ble_eq_true rfl) dL_law_963 (tX7_keeps (by omega) ⟨r, k, h2, rfl, rfl⟩) ?_
  exact g_icmp_eq hc dL_law_966 (tgt := 1414) (by decide) (fun _ => kn _ h3) (fun q => absurd rfl q)
theorem law_21 (hh : lh p s m args meth c D cI cQ A ad b L xs) (hi : i + 6 ≤ L) (hR : Rel sg sg) (kn : ∀ sg2, Rel sg2 sg2 → gw mL p l e room_1 s m args below meth c D cI cQ A Z [] ad tL 600000 7302250 1414 (lvL i) [] sg2) : gw mL p l e room_1 s m args below meth c D cI cQ A Z [] ad tL 600000 7302250 971 (lvL i) [] sg := by
  have hc := hh.1
  obtain ⟨r, d, k, h1, h2, h3⟩ := Sim_law (f := (fX6_burst (xs (i + 1)))) (g := (fX7_burst (xs (i + 1)))) (fun c m h => burst_st h) hR
  refine g_aload_n hc (k0 := 1) (x := 0) rfl dL_law_971 ?_
  refine l_arg hh (n := 1) (by decide) (by omega) dL_law_972 dL_law_973 dL_law_974 dL_law_975 dL_law_976 ?_
  refine l_C hh (av := [.int (xs (i + 1))]) (st := []) (r := some (.int r)) (d := d) qV_RL_103 rfl rfl (Nat.le_of_ble_eq_true rfl) (by decide) (Nat.le_of_ble_eq_true rfl) dL_law_977 (tX6_burst (by omega) ⟨r, d, h1, rfl, rfl⟩) ?_
  refine g_aload_n hc (k0 := 2) (x := 300) rfl dL_law_980 ?_
  refine l_arg hh (n := 1) (by decide) (by omega) dL_law_981 dL_law_982 dL_law_983 dL_law_984 dL_law_985 ?_
  refine l_M hh (av := [.int (xs (i + 1))]) (st := [.int r]) (r := some (.int r)) (d := d) (k0 := k) qV_RL_106 rfl rfl (Nat.le_of_ble_eq_true rfl) (by decide) (Nat.le_of_ble_eq_true rfl) dL_law_986 (tX7_burst (by omega) ⟨r, k, h2, rfl, rfl⟩) ?_
  exact g_icmp_eq hc dL_law_989 (tgt := 1414) (by decide) (fun _ => kn _ h3) (fun q => absurd rfl q)
theorem law_22 (hh : lh p s m args meth c D cI cQ A ad b L xs) (hi : i + 6 ≤ L) (hR : Rel sg sg) (kn : ∀ sg2, Rel sg2 sg2 → gw mL p l e room_1 s m args below meth c D cI cQ A Z [] ad tL 600000 7302250 1414 (lvL i) [] sg2) : gw mL p l e room_1 s m args below meth c D cI cQ A Z [] ad tL 600000 7302250 994 (lvL i) [] sg := by
  have hc := hh.1
  obtain ⟨r, d, k, h1, h2, h3⟩ := Sim_law (f := (fX6_shape (xs (i + 1)) (xs (i + 2)))) (g := (fX7_shape (xs (i + 1)) (xs (i + 2)))) (fun c m h => shape_st h) hR
  refine g_aload_n hc (k0 := 1) (x := 0) rfl dL_law_994 ?_
  refine l_arg hh (n := 1) (by decide) (by omega) dL_law_995 dL_law_996 dL_law_997 dL_law_998 dL_law_999 ?_
  refine l_arg hh (n := 2) (by decide) (by omega) dL_law_1000 dL_law_1001 dL_law_1002 dL_law_1003 dL_law_1004 ?_
  refine l_C hh (av := [.int (xs (i + 1)), .int (xs (i + 2))]) (st := []) (r := some (.int r)) (d := d) qV_RL_107 rfl rfl (Nat.le_of_ble_eq_true rfl) (by decide) (Nat.le_of_ble_eq_true rfl) dL_law_1005 (tX6_shape (by omega) ⟨r, d, h1, rfl, rfl⟩) ?_
  refine g_aload_n hc (k0 := 2) (x := 300) rfl dL_law_1008 ?_
  refine l_arg hh (n := 1) (by decide) (by omega) dL_law_1009 dL_law_1010 dL_law_1011 dL_law_1012 dL_law_1013 ?_
  refine l_arg hh (n := 2) (by decide) (by omega) dL_law_1014 dL_law_1015 dL_law_1016 dL_law_1017 dL_law_1018 ?_
  refine l_M hh (av := [.int (xs (i + 1)), .int (xs (i + 2))]) (st := [.int r]) (r := some (.int r)) (d := d) (k0 := k) qV_RL_110 rfl rfl (Nat.le_of_ble_eq_true rfl) (by decide) (Nat.le_of_ble_eq_true rfl) dL_law_1019 (tX7_shape (by omega) ⟨r, k, h2, rfl, rfl⟩) ?_
  exact g_icmp_eq hc dL_law_1022 (tgt := 1414) (by decide) (fun _ => kn _ h3) (fun q => absurd rfl q)
theorem law_23 (hh : lh p s m args meth c D cI cQ A ad b L xs) (hi : i + 6 ≤ L) (hR : Rel sg sg) (kn : ∀ sg2, Rel sg2 sg2 → gw mL p l e room_1 s m args below meth c D cI cQ A Z [] ad tL 600000 7302250 1414 (lvL i) [] sg2) : gw mL p l e room_1 s m args below meth c D cI cQ A Z [] ad tL 600000 7302250 1027 (lvL i) [] sg := by
  have hc := hh.1
  obtain ⟨r, d, k, h1, h2, h3⟩ := Sim_law (f := (fX6_letIn (xs (i + 1)) (xs (i + 2)) (xs (i + 3)))) (g := (fX7_letIn (xs (i + 1)) (xs (i + 2)) (xs (i + 3)))) (fun c m h => letIn_st h) hR
  refine g_aload_n hc (k0 := 1) (x := 0) rfl dL_law_1027 ?_
  refine l_arg hh (n := 1) (by decide) (by omega) dL_law_1028 dL_law_1029 dL_law_1030 dL_law_1031 dL_law_1032 ?_
  refine l_arg hh (n := 2) (by decide) (by omega) dL_law_1033 dL_law_1034 dL_law_1035 dL_law_1036 dL_law_1037 ?_
  refine l_arg hh (n := 3) (by decide) (by omega) dL_law_1038 dL_law_1039 dL_law_1040 dL_law_1041 dL_law_1042 ?_
  refine l_C hh (av := [.int (xs (i + 1)), .int (xs (i + 2)), .int (xs (i + 3))]) (st := []) (r := some (.int r)) (d := d) qV_RL_111 rfl rfl (Nat.le_of_ble_eq_true rfl) (by decide) (Nat.le_of_ble_eq_true rfl) dL_law_1043 (tX6_letIn (by omega) ⟨r, d, h1, rfl, rfl⟩) ?_
  refine g_aload_n hc (k0 := 2) (x := 300) rfl dL_law_1046 ?_
  refine l_arg hh (n := 1) (by decide) (by omega) dL_law_1047 dL_law_1048 dL_law_1049 dL_law_1050 dL_law_1051 ?_
  refine l_arg hh (n := 2) (by decide) (by omega) dL_law_1052 dL_law_1053 dL_law_1054 dL_law_1055 dL_law_1056 ?_
  refine l_arg hh (n := 3) (by decide) (by omega) dL_law_1057 dL_law_1058 dL_law_1059 dL_law_1060 dL_law_1061 ?_
  refine l_M hh (av := [.int (xs (i + 1)), .int (xs (i + 2)), .int (xs (i + 3))]) (st := [.int r]) (r := some (.int r)) (d := d) (k0 := k) qV_RL_114 rfl rfl (Nat.le_of_ble_eq_true rfl) (by decide) (Nat.le_of_ble_eq_true rfl) dL_law_1062 (tX7_letIn (by omega) ⟨r, k, h2, rfl, rfl⟩) ?_
  exact g_icmp_eq hc dL_law_1065 (tgt := 1414) (by decide) (fun _ => kn _ h3) (fun q => absurd rfl q)
theorem law_24 (hh : lh p s m args meth c D cI cQ A ad b L xs) (hi : i + 6 ≤ L) (hR : Rel sg sg) (kn : ∀ sg2, Rel sg2 sg2 → gw mL p l e room_1 s m args below meth c D cI cQ A Z [] ad tL 600000 7302250 1414 (lvL i) [] sg2) : gw mL p l e room_1 s m args below meth c D cI cQ A Z [] ad tL 600000 7302250 1070 (lvL i) [] sg := by
  have hc := hh.1
  obtain ⟨r, d, k, h1, h2, h3⟩ := Sim_law (f := (fX6_sheet (xs (i + 1)) (xs (i + 2)) (xs (i + 3)))) (g := (fX7_sheet (xs (i + 1)) (xs (i + 2)) (xs (i + 3)))) (fun c m h => sheet_st h) hR
  refine g_aload_n hc (k0 := 1) (x := 0) rfl dL_law_1070 ?_
  refine l_arg hh (n := 1) (by decide) (by omega) dL_law_1071 dL_law_1072 dL_law_1073 dL_law_1074 dL_law_1075 ?_
  refine l_arg hh (n := 2) (by decide) (by omega) dL_law_1076 dL_law_1077 dL_law_1078 dL_law_1079 dL_law_1080 ?_
  refine l_arg hh (n := 3) (by decide) (by omega) dL_law_1081 dL_law_1082 dL_law_1083 dL_law_1084 dL_law_1085 ?_
  refine l_C hh (av := [.int (xs (i + 1)), .int (xs (i + 2)), .int (xs (i + 3))]) (st := []) (r := some (.int r)) (d := d) qV_RL_115 rfl rfl (Nat.le_of_ble_eq_true rfl) (by decide) (Nat.le_of_ble_eq_true rfl) dL_law_1086 (tX6_sheet (by omega) ⟨r, d, h1, rfl, rfl⟩) ?_
  refine g_aload_n hc (k0 := 2) (x := 300) rfl dL_law_1089 ?_
  refine l_arg hh (n := 1) (by decide) (by omega) dL_law_1090 dL_law_1091 dL_law_1092 dL_law_1093 dL_law_1094 ?_
  refine l_arg hh (n := 2) (by decide) (by omega) dL_law_1095 dL_law_1096 dL_law_1097 dL_law_1098 dL_law_1099 ?_
  refine l_arg hh (n := 3) (by decide) (by omega) dL_law_1100 dL_law_1101 dL_law_1102 dL_law_1103 dL_law_1104 ?_
  refine l_M hh (av := [.int (xs (i + 1)), .int (xs (i + 2)), .int (xs (i + 3))]) (st := [.int r]) (r := some (.int r)) (d := d) (k0 := k) qV_RL_118 rfl rfl (Nat.le_of_ble_eq_true rfl) (by decide) (Nat.le_of_ble_eq_true rfl) dL_law_1105 (tX7_sheet (by omega) ⟨r, k, h2, rfl, rfl⟩) ?_
  exact g_icmp_eq hc dL_law_1108 (tgt := 1414) (by decide) (fun _ => kn _ h3) (fun q => absurd rfl q)
theorem law_25 (hh : lh p s m args meth c D cI cQ A ad b L xs) (hi : i + 6 ≤ L) (hR : Rel sg sg) (kn : ∀ sg2, Rel sg2 sg2 → gw mL p l e room_1 s m args below meth c D cI cQ A Z [] ad tL 600000 7302250 1414 (lvL i) [] sg2) : gw mL p l e room_1 s m args below meth c D cI cQ A Z [] ad tL 600000 7302250 1113 (lvL i) [] sg := by
  have hc := hh.1
  obtain ⟨r, d, k, h1, h2, h3⟩ := Sim_law (f := (fX6_lose (xs (i + 1)))) (g := (fX7_lose (xs (i + 1)))) (fun c m h => lose_st h) hR
  refine g_aload_n hc (k0 := 1) (x := 0) rfl dL_law_1113 ?_
  refine l_arg hh (n := 1) (by decide) (by omega) dL_law_1114 dL_law_1115 dL_law_1116 dL_law_1117 dL_law_1118 ?_
  refine l_C hh (av := [.int (xs (i + 1))]) (st := []) (r := some (.int r)) (d := d) qV_RL_119 rfl rfl (Nat.le_of_ble_eq_true rfl) (by decide) (Nat.le_of_ble_eq_true rfl) dL_law_1119 (tX6_lose (by omega) ⟨r, d, h1, rfl, rfl⟩) ?_
  refine g_aload_n hc (k0 := 2) (x := 300) rfl dL_law_1122 ?_
  refine l_arg hh (n := 1) (by decide) (by omega) dL_law_1123 dL_law_1124 dL_law_1125 dL_law_1126 dL_law_1127 ?_
  refine l_M hh (av := [.int (xs (i + 1))]) (st := [.int r]) (r := some (.int r)) (d := d) (k0 := k) qV_RL_122 rfl rfl (Nat.le_of_ble_eq_true rfl) (by decide) (Nat.le_of_ble_eq_true rfl) dL_law_1128 (tX7_lose (by omega) ⟨r, k, h2, rfl, rfl⟩) ?_
  exact g_icmp_eq hc dL_law_1131 (tgt := 1414) (by decide) (fun _ => kn _ h3) (fun q => absurd rfl q)
theorem law_26 (hh : lh p s m args meth c D cI cQ A ad b L xs) (hi : i + 6 ≤ L) (hR : Rel sg sg) (kn : ∀ sg2, Rel sg2 sg2 → gw mL p l e room_1 s m args below meth c D cI cQ A Z [] ad tL 600000 7302250 1414 (lvL i) [] sg2) : gw mL p l e room_1 s m args below meth c D cI cQ A Z [] ad tL 600000 7302250 1136 (lvL i) [] sg := by
  have hc := hh.1
  obtain ⟨r, d, k, h1, h2, h3⟩ := Sim_law (f := (fX6_put (xs (i + 1)) (xs (i + 2)) (xs (i + 3)))) (g := (fX7_put (xs (i + 1)) (xs (i + 2)) (xs (i + 3)))) (fun c m h => put_st h) hR
  refine g_aload_n hc (k0 := 1) (x := 0) rfl dL_law_1136 ?_
  refine l_arg hh (n := 1) (by decide) (by omega) dL_law_1137 dL_law_1138 dL_law_1139 dL_law_1140 dL_law_1141 ?_
  refine l_arg hh (n := 2) (by decide) (by omega) dL_law_1142 dL_law_1143 dL_law_1144 dL_law_1145 dL_law_1146 ?_
  refine l_arg hh (n := 3) (by decide) (by omega) dL_law_1147 dL_law_1148 dL_law_1149 dL_law_1150 dL_law_1151 ?_
  refine l_C hh (av := [.int (xs (i + 1)), .int (xs (i + 2)), .int (xs (i + 3))]) (st := []) (r := some (.int r)) (d := d) qV_RL_123 rfl rfl (Nat.le_of_ble_eq_true rfl) (by decide) (Nat.le_of_ble_eq_true rfl) dL_law_1152 (tX6_put (by omega) ⟨r, d, h1, rfl, rfl⟩) ?_
  refine g_aload_n hc (k0 := 2) (x := 300) rfl dL_law_1155 ?_
  refine l_arg hh (n := 1) (by decide) (by omega) dL_law_1156 dL_law_1157 dL_law_1158 dL_law_1159 dL_law_1160 ?_
  refine l_arg hh (n := 2) (by decide) (by omega) dL_law_1161 dL_law_1162 dL_law_1163 dL_law_1164 dL_law_1165 ?_
  refine l_arg hh (n := 3) (by decide) (by omega) dL_law_1166 dL_law_1167 dL_law_1168 dL_law_1169 dL_law_1170 ?_
  refine l_M hh (av := [.int (xs (i + 1)), .int (xs (i + 2)), .int (xs (i + 3))]) (st := [.int r]) (r := some (.int r)) (d := d) (k0 := k) qV_RL_126 rfl rfl (Nat.le_of_ble_eq_true rfl) (by decide) (Nat.le_of_ble_eq_true rfl) dL_law_1171 (tX7_put (by omega) ⟨r, k, h2, rfl, rfl⟩) ?_
  exact g_icmp_eq hc dL_law_1174 (tgt := 1414) (by decide) (fun _ => kn _ h3) (fun q => absurd rfl q)
theorem law_27 (hh : lh p s m args meth c D cI cQ A ad b L xs) (hi : i + 6 ≤ L) (hR : Rel sg sg) (kn : ∀ sg2, Rel sg2 sg2 → gw mL p l e room_1 s m args below meth c D cI cQ A Z [] ad tL 600000 7302250 1414 (lvL i) [] sg2) : gw mL p l e room_1 s m args below meth c D cI cQ A Z [] ad tL 600000 7302250 1179 (lvL i) [] sg := by
  have hc := hh.1
  obtain ⟨r, d, k, h1, h2, h3⟩ := Sim_law (f := (fX6_cell (xs (i + 1)) (xs (i + 2)) (xs (i + 3)))) (g := (fX7_cell (xs (i + 1)) (xs (i + 2)) (xs (i + 3)))) (fun c m h => cell_st h) hR
  refine g_aload_n hc (k0 := 1) (x := 0) rfl dL_law_1179 ?_
  refine l_arg hh (n := 1) (by decide) (by omega) dL_law_1180 dL_law_1181 dL_law_1182 dL_law_1183 dL_law_1184 ?_
  refine l_arg hh (n := 2) (by decide) (by omega) dL_law_1185 dL_law_1186 dL_law_1187 dL_law_1188 dL_law_1189 ?_
  refine l_arg hh (n := 3) (by decide) (by omega) dL_law_1190 dL_law_1191 dL_law_1192 dL_law_1193 dL_law_1194 ?_
  refine l_C hh (av := [.int (xs (i + 1)), .int (xs (i + 2)), .int (xs (i + 3))]) (st := []) (r := some (.long r)) (d := d) qV_RL_127 rfl rfl (Nat.le_of_ble_eq_true rfl) (by decide) (Nat.le_of_ble_eq_true rfl) dL_law_1195 (tX6_cell (by omega) ⟨r, d, h1, rfl, rfl⟩) ?_
  refine g_aload_n hc (k0 := 2) (x := 300) rfl dL_law_1198 ?_
  refine l_arg hh (n := 1) (by decide) (by omega) dL_law_1199 dL_law_1200 dL_law_1201 dL_law_1202 dL_law_1203 ?_
  refine l_arg hh (n := 2) (by decide) (by omega) dL_law_1204 dL_law_1205 dL_law_1206 dL_law_1207 dL_law_1208 ?_
  refine l_arg hh (n := 3) (by decide) (by omega) dL_law_1209 dL_law_1210 dL_law_1211 dL_law_1212 dL_law_1213 ?_
  refine l_M hh (av := [.int (xs (i + 1)), .int (xs (i + 2)), .int (xs (i + 3))]) (st := [.long r]) (r := some (.long r)) (d := d) (k0 := k) qV_RL_131 rfl rfl (Nat.le_of_ble_eq_true rfl) (by decide) (Nat.le_of_ble_eq_true rfl) dL_law_1214 (tX7_cell (by omega) ⟨r, k, h2, rfl, rfl⟩) ?_
  refine g_lcmp hc dL_law_1217 ?_
  exact g_if_eq hc dL_law_1218 (tgt := 1414) (by decide) (fun _ => kn _ h3) (fun q => absurd (lg_cmp_rr r) q)
theorem law_28 (hh : lh p s m args meth c D cI cQ A ad b L xs) (hi : i + 6 ≤ L) (hR : Rel sg sg) (kn : ∀ sg2, Rel sg2 sg2 → gw mL p l e room_1 s m args below meth c D cI cQ A Z [] ad tL 600000 7302250 1414 (lvL i) [] sg2) : gw mL p l e room_1 s m args below meth c D cI cQ A Z [] ad tL 600000 7302250 1223 (lvL i) [] sg := by
  have hc := hh.1
  obtain ⟨r, d, k, h1, h2, h3⟩ := Sim_law (f := (fX6_copy (xs (i + 1)) (xs (i + 2)) (xs (i + 3)) (xs (i + 4)) (xs (i + 5)))) (g := (fX7_copy (xs (i + 1)) (xs (i + 2)) (xs (i + 3)) (xs (i + 4)) (xs (i + 5)))) (fun c m h => copy_st h) hR
  refine g_aload_n hc (k0 := 1) (x := 0) rfl dL_law_1223 ?_
  refine l_arg hh (n := 1) (by decide) (by omega) dL_law_1224 dL_law_1225 dL_law_1226 dL_law_1227 dL_law_1228 ?_
  refine l_arg hh (n := 2) (by decide) (by omega) dL_law_1229 dL_law_1230 dL_law_1231 dL_law_1232 dL_law_1233 ?_
  refine l_arg hh (n := 3) (by decide) (by omega) dL_law_1234 dL_law_1235 dL_law_1236 dL_law_1237 dL_law_1238 ?_
  refine l_arg hh (n := 4) (by decide) (by omega) dL_law_1239 dL_law_1240 dL_law_1241 dL_law_1242 dL_law_1243 ?_
  refine l_arg hh (n := 5) (by decide) (by omega) dL_law_1244 dL_law_1245 dL_law_1246 dL_law_1247 dL_law_1248 ?_
  refine l_C hh (av := [.int (xs (i + 1)), .int (xs (i + 2)), .int (xs (i + 3)), .int (xs (i + 4)), .int (xs (i + 5))]) (st := []) (r := some (.int r)) (d := d) qV_RL_132 rfl rfl (Nat.le_of_ble_eq_true rfl) (by decide) (Nat.le_of_ble_eq_true rfl) dL_law_1249 (tX6_copy (by omega) ⟨r, d, h1, rfl, rfl⟩) ?_
  refine g_aload_n hc (k0 := 2) (x := 300) rfl dL_law_1252 ?_
  refine l_arg hh (n := 1) (by decide) (by omega) dL_law_1253 dL_law_1254 dL_law_1255 dL_law_1256 dL_law_1257 ?_
  refine l_arg hh (n := 2) (by decide) (by omega) dL_law_1258 dL_law_1259 dL_law_1260 dL_law_1261 dL_law_1262 ?_
  refine l_arg hh (n := 3) (by decide) (by omega) dL_law_1263 dL_law_1264 dL_law_1265 dL_law_1266 dL_law_1267 ?_
  refine l_arg hh (n := 4) (by decide) (by omega) dL_law_1268 dL_law_1269 dL_law_1270 dL_law_1271 dL_law_1272 ?_
  refine l_arg hh (n := 5) (by decide) (by omega) dL_law_1273 dL_law_1274 dL_law_1275 dL_law_1276 dL_law_1277 ?_
  refine l_M hh (av := [.int (xs (i + 1)), .int (xs (i + 2)), .int (xs (i + 3)), .int (xs (i + 4)), .int (xs (i + 5))]) (st := [.int r]) (r := some (.int r)) (d := d) (k0 := k) qV_RL_135 rfl rfl (Nat.le_of_ble_eq_true rfl) (by decide) (Nat.le_of_ble_eq_true rfl) dL_law_1278 (tX7_copy (by omega) ⟨r, k, h2, rfl, rfl⟩) ?_
  exact g_icmp_eq hc dL_law_1281 (tgt := 1414) (by decide) (fun _ => kn _ h3) (fun q => absurd rfl q)
theorem law_29 (hh : lh p s m args meth c D cI cQ A ad b L xs) (hi : i + 6 ≤ L) (hR : Rel sg sg) (kn : ∀ sg2, Rel sg2 sg2 → gw mL p l e room_1 s m args below meth c D cI cQ A Z [] ad tL 600000 7302250 1414 (lvL i) [] sg2) : gw mL p l e room_1 s m args below meth c D cI cQ A Z [] ad tL 600000 7302250 1286 (lvL i) [] sg := by
  have hc := hh.1
  obtain ⟨r, d, k, h1, h2, h3⟩ := Sim_law (f := (fX6_tell (xs (i + 1)))) (g := (fX7_tell (xs (i + 1)))) (fun c m h => tell_st h) hR
  refine g_aload_n hc (k0 := 1) (x := 0) rfl dL_law_1286 ?_
  refine l_arg hh (n := 1) (by decide) (by omega) dL_law_1287 dL_law_1288 dL_law_1289 dL_law_1290 dL_law_1291 ?_
  refine l_C hh (av := [.int (xs (i + 1))]) (st := []) (r := some (.int r)) (d := d) qV_RL_136 rfl rfl (Nat.le_of_ble_eq_true rfl) (by decide) (Nat.le_of_ble_eq_true rfl) dL_law_1292 (tX6_tell (by omega) ⟨r, d, h1, rfl, rfl⟩) ?_
  refine g_aload_n hc (k0 := 2) (x := 300) rfl dL_law_1295 ?_
  refine l_arg hh (n := 1) (by decide) (by omega) dL_law_1296 dL_law_1297 dL_law_1298 dL_law_1299 dL_law_1300 ?_
  refine l_M hh (av := [.int (xs (i + 1))]) (st := [.int r]) (r := some (.int r)) (d := d) (k0 := k) qV_RL_139 rfl rfl (Nat.le_of_ble_eq_true rfl) (by decide) (Nat.le_of_ble_eq_true rfl) dL_law_1301 (tX7_tell (by omega) ⟨r, k, h2, rfl, rfl⟩) ?_
  exact g_icmp_eq hc dL_law_1304 (tgt := 1414) (by decide) (fun _ => kn _ h3) (fun q => absurd rfl q)
theorem law_30 (hh : lh p s m args meth c D cI cQ A ad b L xs) (hi : i + 6 ≤ L) (hR : Rel sg sg) (kn : ∀ sg2, Rel sg2 sg2 → gw mL p l e room_1 s m args below meth c D cI cQ A Z [] ad tL 600000 7302250 1414 (lvL i) [] sg2) : gw mL p l e room_1 s m args below meth c D cI cQ A Z [] ad tL 600000 7302250 1309 (lvL i) [] sg := by
  have hc := hh.1
  obtain ⟨r, d, k, h1, h2, h3⟩ := Sim_law (f := (fX6_draw (xs (i + 1)))) (g := (fX7_draw (xs (i + 1)))) (fun c m h => draw_st h) hR
  refine g_aload_n hc (k0 := 1) (x := 0) rfl dL_law_1309 ?_
  refine l_arg hh (n := 1) (by decide) (by omega) dL_law_1310 dL_law_1311 dL_law_1312 dL_law_1313 dL_law_1314 ?_
  refine l_C hh (av := [.int (xs (i + 1))]) (st := []) (r := some (.int r)) (d := d) qV_RL_140 rfl rfl (Nat.le_of_ble_eq_true rfl) (by decide) (Nat.le_of_ble_eq_true rfl) dL_law_1315 (tX6_draw (by omega) ⟨r, d, h1, rfl, rfl⟩) ?_
  refine g_aload_n hc (k0 := 2) (x := 300) rfl dL_law_1318 ?_
  refine l_arg hh (n := 1) (by decide) (by omega) dL_law_1319 dL_law_1320 dL_law_1321 dL_law_1322 dL_law_1323 ?_
  refine l_M hh (av := [.int (xs (i + 1))]) (st := [.int r]) (r := some (.int r)) (d := d) (k0 := k) qV_RL_143 rfl rfl (Nat.le_of_ble_eq_true rfl) (by decide) (Nat.le_of_ble_eq_true rfl) dL_law_1324 (tX7_draw (by omega) ⟨r, k, h2, rfl, rfl⟩) ?_
  exact g_icmp_eq hc dL_law_1327 (tgt := 1414) (by decide) (fun _ => kn _ h3) (fun q => absurd rfl q)
theorem law_31 (hh : lh p s m args meth c D cI cQ A ad b L xs) (hi : i + 6 ≤ L) (hR : Rel sg sg) (kn : ∀ sg2, Rel sg2 sg2 → gw mL p l e room_1 s m args below meth c D cI cQ A Z [] ad tL 600000 7302250 1414 (lvL i) [] sg2) : gw mL p l e room_1 s m args below meth c D cI cQ A Z [] ad tL 600000 7302250 1332 (lvL i) [] sg := by
  have hc := hh.1
  obtain ⟨r, d, k, h1, h2, h3⟩ := Sim_law (f := (fX6_as (xs (i + 1)) (xs (i + 2)))) (g := (fX7_as (xs (i + 1)) (xs (i + 2)))) (fun c m h => as_st h) hR
  refine g_aload_n hc (k0 := 1) (x := 0) rfl dL_law_1332 ?_
  refine l_arg hh (n := 1) (by decide) (by omega) dL_law_1333 dL_law_1334 dL_law_1335 dL_law_1336 dL_law_1337 ?_
  refine l_arg hh (n := 2) (by decide) (by omega) dL_law_1338 dL_law_1339 dL_law_1340 dL_law_1341 dL_law_1342 ?_
  refine l_C hh (av := [.int (xs (i + 1)), .int (xs (i + 2))]) (st := []) (r := some (.int r)) (d := d) qV_RL_144 rfl rfl (Nat.le_of_ble_eq_true rfl) (by decide) (Nat.le_of_ble_eq_true rfl) dL_law_1343 (tX6_as (by omega) ⟨r, d, h1, rfl, rfl⟩) ?_
  refine g_aload_n hc (k0 := 2) (x := 300) rfl dL_law_1346 ?_
  refine l_arg hh (n := 1) (by decide) (by omega) dL_law_1347 dL_law_1348 dL_law_1349 dL_law_1350 dL_law_1351 ?_
  refine l_arg hh (n := 2) (by decide) (by omega) dL_law_1352 dL_law_1353 dL_law_1354 dL_law_1355 dL_law_1356 ?_
  refine l_M hh (av := [.int (xs (i + 1)), .int (xs (i + 2))]) (st := [.int r]) (r := some (.int r)) (d := d) (k0 := k) qV_RL_147 rfl rfl (Nat.le_of_ble_eq_true rfl) (by decide) (Nat.le_of_ble_eq_true rfl) dL_law_1357 (tX7_as (by omega) ⟨r, k, h2, rfl, rfl⟩) ?_
  exact g_icmp_eq hc dL_law_1360 (tgt := 1414) (by decide) (fun _ => kn _ h3) (fun q => absurd rfl q)
theorem law_32 (hh : lh p s m args meth c D cI cQ A ad b L xs) (hi : i + 6 ≤ L) (hR : Rel sg sg) (kn : ∀ sg2, Rel sg2 sg2 → gw mL p l e room_1 s m args below meth c D cI cQ A Z [] ad tL 600000 7302250 1414 (lvL i) [] sg2) : gw mL p l e room_1 s m args below meth c D cI cQ A Z [] ad tL 600000 7302250 1365 (lvL i) [] sg := by
  have hc := hh.1
  obtain ⟨r, d, k, h1, h2, h3⟩ := Sim_law (f := fX6_trace) (g := fX7_trace) (fun c m h => trace_st h) hR
  refine g_aload_n hc (k0 := 1) (x := 0) rfl dL_law_1365 ?_
  refine l_C hh (av := []) (st := []) (r := some (.int r)) (d := d) qV_RL_148 rfl rfl (Nat.le_of_ble_eq_true rfl) (by decide) (Nat.le_of_ble_eq_true rfl) dL_law_1366 (tX6_trace ⟨r, d, h1, rfl, rfl⟩) ?_
  refine g_aload_n hc (k0 := 2) (x := 300) rfl dL_law_1369 ?_
  refine l_M hh (av := []) (st := [.int r]) (r := some (.int r)) (d := d) (k0 := k) qV_RL_151 rfl rfl (Nat.le_of_ble_eq_true rfl) (by decide) (Nat.le_of_ble_eq_true rfl) dL_law_1370 (tX7_trace ⟨r, k, h2, rfl, rfl⟩) ?_
  exact g_icmp_eq hc dL_law_1373 (tgt := 1414) (by decide) (fun _ => kn _ h3) (fun q => absurd rfl q)
theorem law_33 (hh : lh p s m args meth c D cI cQ A ad b L xs) (hi : i + 6 ≤ L) (hR : Rel sg sg) (kn : ∀ sg2, Rel sg2 sg2 → gw mL p l e room_1 s m args below meth c D cI cQ A Z [] ad tL 600000 7302250 1414 (lvL i) [] sg2) : gw mL p l e room_1 s m args below meth c D cI cQ A Z [] ad tL 600000 7302250 1378 (lvL i) [] sg := by
  have hc := hh.1
  obtain ⟨r, d, k, h1, h2, h3⟩ := Sim_law (f := fX6_fault) (g := fX7_fault) (fun c m h => fault_st h) hR
  refine g_aload_n hc (k0 := 1) (x := 0) rfl dL_law_1378 ?_
  refine l_C hh (av := []) (st := []) (r := some (.int r)) (d := d) qV_RL_152 rfl rfl (Nat.le_of_ble_eq_true rfl) (by decide) (Nat.le_of_ble_eq_true rfl) dL_law_1379 (tX6_fault ⟨r, d, h1, rfl, rfl⟩) ?_
  refine g_aload_n hc (k0 := 2) (x := 300) rfl dL_law_1382 ?_
  refine l_M hh (av := []) (st := [.int r]) (r := some (.int r)) (d := d) (k0 := k) qV_RL_155 rfl rfl (Nat.le_of_ble_eq_true rfl) (by decide) (Nat.le_of_ble_eq_true rfl) dL_law_1383 (tX7_fault ⟨r, k, h2, rfl, rfl⟩) ?_
  exact g_icmp_eq hc dL_law_1386 (tgt := 1414) (by decide) (fun _ => kn _ h3) (fun q => absurd rfl q)
theorem law_34 (hh : lh p s m args meth c D cI cQ A ad b L xs) (hi : i + 6 ≤ L) (hR : Rel sg sg) (kn : ∀ sg2, Rel sg2 sg2 → gw mL p l e room_1 s m args below meth c D cI cQ A Z [] ad tL 600000 7302250 1414 (lvL i) [] sg2) : gw mL p l e room_1 s m args below meth c D cI cQ A Z [] ad tL 600000 7302250 1391 (lvL i) [] sg := by
  have hc := hh.1
  obtain ⟨r, d, k, h1, h2, h3⟩ := Sim_law (f := (fX6_many (xs (i + 1)))) (g := (fX7_many (xs (i + 1)))) (fun c m h => many_st h) hR
  refine g_aload_n hc (k0 := 1) (x := 0) rfl dL_law_1391 ?_
  refine l_arg hh (n := 1) (by decide) (by omega) dL_law_1392 dL_law_1393 dL_law_1394 dL_law_1395 dL_law_1396 ?_
  refine l_C hh (av := [.int (xs (i + 1))]) (st := []) (r := some (.int r)) (d := d) qV_RL_156 rfl rfl (Nat.le_of_ble_eq_true rfl) (by decide) (Nat.le_of_ble_eq_true rfl) dL_law_1397 (tX6_many (by omega) ⟨r, d, h1, rfl, rfl⟩) ?_
  refine g_aload_n hc (k0 := 2) (x := 300) rfl dL_law_1400 ?_
  refine l_arg hh (n := 1) (by decide) (by omega) dL_law_1401 dL_law_1402 dL_law_1403 dL_law_1404 dL_law_1405 ?_
  refine l_M hh (av := [.int (xs (i + 1))]) (st := [.int r]) (r := some (.int r)) (d := d) (k0 := k) qV_RL_159 rfl rfl (Nat.le_of_ble_eq_true rfl) (by decide) (Nat.le_of_ble_eq_true rfl) dL_law_1406 (tX7_many ⟨r, k, h2, rfl, rfl⟩) ?_
  exact g_icmp_eq hc dL_law_1409 (tgt := 1414) (by decide) (fun _ => kn _ h3) (fun q => absurd rfl q)
end LW
