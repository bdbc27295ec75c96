def f9_law_234 (sL : Nat) (sx : Nat → Int32) (fu : Nat) (k69 : Int32 → Int32 → Int32 → Int32 → Mem → Option (Mem × Int32)) (x4 : Int32) (x5 : Int32) (x6 : Int32) (x7 : Int32) (x8 : Int32) (x9 : Int32) (x10 : Int32) (x11 : Int32) (x12 : Int32) (x13 : Int32) (x14 : Int32) (x15 : Int32) (s0 : Int32) (M : Mem) : Option (Mem × Int32) :=
    if (x10 + s0) < 0 then ((f9_law_259 sL sx fu k69 x4 x5 x6 x7 x8 x9 x10 x11 x12 x13 x14 x15 s0 (0 : Int32) M))
    else (if (10 : Int32) ≤ (x10 + s0) then ((f9_law_259 sL sx fu k69 x4 x5 x6 x7 x8 x9 x10 x11 x12 x13 x14 x15 s0 (0 : Int32) M))
    else ((f9_law_259 sL sx fu k69 x4 x5 x6 x7 x8 x9 x10 x11 x12 x13 x14 x15 s0 (1 : Int32) M)))
set_option maxHeartbeats 4000000 in
set_option maxRecDepth 10000 in
theorem w9_law_234 {ad : Nat → Nat} {X : XX} {R : Mem × Int32} {fu : Nat} {k69 : Int32 → Int32 → Int32 → Int32 → Mem → Option (Mem × Int32)} (h : Lx layC ad X cL_law RL 30 9 (some .boolean) (R.1) (some (.int R.2))) (hk69 : ∀ (x4 : Int32) (x5 : Int32) (x6 : Int32) (x7 : Int32) (M : Mem), k69 x4 x5 x6 x7 M = some R → Lp layC ad X M 69 [(0, .ref (zB X.1)), (1, .ref (ad 28)), (2, .ref (ad 47)), (4, .int x4), (5, .int x5), (6, .int x6), (7, .int x7)] []) {x4 : Int32} {x5 : Int32} {x6 : Int32} {x7 : Int32} {x8 : Int32} {x9 : Int32} {x10 : Int32} {x11 : Int32} {x12 : Int32} {x13 : Int32} {x14 : Int32} {x15 : Int32} {s0 : Int32} {M : Mem} (hF : f9_law_234 (zL X.1) (zX X.1) fu k69 x4 x5 x6 x7 x8 x9 x10 x11 x12 x13 x14 x15 s0 M = some R) : Lp layC ad X M 234 [(0, .ref (zB X.1)), (1, .ref (ad 28)), (2, .ref (ad 47)), (4, .int x4), (5, .int x5), (6, .int x6), (7, .int x7), (8, .int x8), (9, .int x9), (10, .int x10), (11, .int x11), (12, .int x12), (13, .int x13), (14, .int x14), (15, .int x15)] [.int s0] := by
  unfold f9_law_234 at hF
  refine L_istore (pc := 234) (lv' := [(18, .int s0), (0, .ref (zB X.1)), (1, .ref (ad 28)), (2, .ref (ad 47)), (4, .int x4), (5, .int x5), (6, .int x6), (7, .int x7), (8, .int x8), (9, .int x9), (10, .int x10), (11, .int x11), (12, .int x12), (13, .int x13), (14, .int x14), (15, .int x15)]) h rfl (by decide) rfl dL_law_234 ?_
  refine L_iload (pc := 236) h 10 rfl dL_law_236 ?_
  refine L_iload (pc := 238) h 0 rfl dL_law_238 ?_
  refine L_iadd (pc := 240) h dL_law_240 ?_
  refine L_if_lt (pc := 241) (tgt := 258) h dL_law_241 (by decide) (fun c1 => ?_) (fun c1 => ?_)
  · have hF := itp c1 hF
    refine L_iconst (pc := 258) (v := 0) h (by decide) dL_law_258 ?_
    exact Lp_sub (nX := 0) (lv' := [(0, .ref (zB X.1)), (1, .ref (ad 28)), (2, .ref (ad 47)), (4, .int x4), (5, .int x5), (6, .int x6), (7, .int x7), (8, .int x8), (9, .int x9), (10, .int x10), (11, .int x11), (12, .int x12), (13, .int x13), (14, .int x14), (15, .int x15), (18, .int s0)]) [1, 2, 3, 4, 5, 6, 7, 8, 9, 10, 11, 12, 13, 14, 15, 0] rfl (w9_law_259 h (hk69 := hk69) (hF := hF))
  · have hF := ifn c1 hF
    refine L_iload (pc := 244) h 10 rfl dL_law_244 ?_
    refine L_iload (pc := 246) h 0 rfl dL_law_246 ?_
    refine L_iadd (pc := 248) h dL_law_248 ?_
    refine L_bipush (pc := 249) (v := 10) h (by decide) dL_law_249 ?_
    refine L_icmp_ge (pc := 251) (tgt := 258) h dL_law_251 (by decide) (fun c2 => ?_) (fun c2 => ?_)
    · have hF := itp c2 hF
      refine L_iconst (pc := 258) (v := 0) h (by decide) dL_law_258 ?_
      exact Lp_sub (nX := 0) (lv' := [(0, .ref (zB X.1)), (1, .ref (ad 28)), (2, .ref (ad 47)), (4, .int x4), (5, .int x5), (6, .int x6), (7, .int x7), (8, .int x8), (9, .int x9), (10, .int x10), (11, .int x11), (12, .int x12), (13, .int x13), (14, .int x14), (15, .int x15), (18, .int s0)]) [1, 2, 3, 4, 5, 6, 7, 8, 9, 10, 11, 12, 13, 14, 15, 0] rfl (w9_law_259 h (hk69 := hk69) (hF := hF))
    · have hF := ifn c2 hF
      refine L_iconst (pc := 254) (v := 1) h (by decide) dL_law_254 ?_
      refine L_goto (pc := 255) (tgt := 259) h dL_law_255 (by decide) ?_
      exact Lp_sub (nX := 0) (lv' := [(0, .ref (zB X.1)), (1, .ref (ad 28)), (2, .ref (ad 47)), (4, .int x4), (5, .int x5), (6, .int x6), (7, .int x7), (8, .int x8), (9, .int x9), (10, .int x10), (11, .int x11), (12, .int x12), (13, .int x13), (14, .int x14), (15, .int x15), (18, .int s0)]) [1, 2, 3, 4, 5, 6, 7, 8, 9, 10, 11, 12, 13, 14, 15, 0] rfl (w9_law_259 h (hk69 := hk69) (hF := hF))
def f9_law_381 (sL : Nat) (sx : Nat → Int32) (fu : Nat) (k69 : Int32 → Int32 → Int32 → Int32 → Mem → Option (Mem × Int32)) (x4 : Int32) (x5 : Int32) (x6 : Int32) (x7 : Int32) (x8 : Int32) (x9 : Int32) (x10 : Int32) (x11 : Int32) (x12 : Int32) (x13 : Int32) (x14 : Int32) (x15 : Int32) (x17 : Int32) (s0 : Int32) (s1 : Int32) (M : Mem) : Option (Mem × Int32) :=
    if s1 = s0 then (if x17 = 0 then ((f9_law_629 sL sx fu k69 x4 x5 x6 x7 x8 x9 x10 x11 x12 x13 x14 x15 x17 M))
    else ((f4_count M fu (3 : Int32)).bind fun r4 =>
    if r4 = (x11 ||| ((1 : Int32) <<< (x14 &&& 31))) then ((f4_count M fu (4 : Int32)).bind fun r7 =>
    if r7 = (x12 - ((1 : Int32) <<< (x14 &&& 31))) then ((f9_law_629 sL sx fu k69 x4 x5 x6 x7 x8 x9 x10 x11 x12 x13 x14 x15 x17 M))
    else ((some (M, (0 : Int32)))))
    else ((some (M, (0 : Int32))))))
    else ((some (M, (0 : Int32))))
set_option maxHeartbeats 4000000 in
set_option maxRecDepth 10000 in
theorem w9_law_381 {ad : Nat → Nat} {X : XX} {R : Mem × Int32} {fu : Nat} {k69 : Int32 → Int32 → Int32 → Int32 → Mem → Option (Mem × Int32)} (h : Lx layC ad X cL_law RL 30 9 (some .boolean) (R.1) (some (.int R.2))) (hk69 : ∀ (x4 : Int32) (x5 : Int32) (x6 : Int32) (x7 : Int32) (M : Mem), k69 x4 x5 x6 x7 M = some R → Lp layC ad X M 69 [(0, .ref (zB X.1)), (1, .ref (ad 28)), (2, .ref (ad 47)), (4, .int x4), (5, .int x5), (6, .int x6), (7, .int x7)] []) {x4 : Int32} {x5 : Int32} {x6 : Int32} {x7 : Int32} {x8 : Int32} {x9 : Int32} {x10 : Int32} {x11 : Int32} {x12 : Int32} {x13 : Int32} {x14 : Int32} {x15 : Int32} {x17 : Int32} {s0 : Int32} {s1 : Int32} {M : Mem} (hF : f9_law_381 (zL X.1) (zX X.1) fu k69 x4 x5 x6 x7 x8 x9 x10 x11 x12 x13 x14 x15 x17 s0 s1 M = some R) : Lp layC ad X M 381 [(0, .ref (zB X.1)), (1, .ref (ad 28)), (2, .ref (ad 47)), (4, .int x4), (5, .int x5), (6, .int x6), (7, .int x7), (8, .int x8), (9, .int x9), (10, .int x10), (11, .int x11), (12, .int x12), (13, .int x13), (14, .int x14), (15, .int x15), (17, .int x17)] [.int s0, .int s1] := by
  unfold f9_law_381 at hF
  refine L_icmp_ne (pc := 381) (tgt := 419) h dL_law_381 (by decide) (fun c1 => ?_) (fun c1 => ?_)
  · have hF := ifn c1 hF
    refine L_iconst (pc := 419) (v := 0) h (by decide) dL_law_419 ?_
    cases hF
    exact L_zreturn (pc := 420) h rfl zr0 rfl rfl dL_law_420
  · have hF := itp c1 hF
    refine L_iload (pc := 384) h 15 rfl dL_law_384 ?_
    refine L_if_eq (pc := 386) (tgt := 421) h dL_law_386 (by decide) (fun c2 => ?_) (fun c2 => ?_)
    · have hF := itp c2 hF
      refine L_goto (pc := 421) (tgt := 629) h dL_law_421 (by decide) ?_
      exact Lp_sub (nX := 0) (lv' := [(0, .ref (zB X.1)), (1, .ref (ad 28)), (2, .ref (ad 47)), (4, .int x4), (5, .int x5), (6, .int x6), (7, .int x7), (8, .int x8), (9, .int x9), (10, .int x10), (11, .int x11), (12, .int x12), (13, .int x13), (14, .int x14), (15, .int x15), (17, .int x17)]) [0, 1, 2, 3, 4, 5, 6, 7, 8, 9, 10, 11, 12, 13, 14, 15] rfl (w9_law_629 h (hk69 := hk69) (hF := hF))
    · have hF := ifn c2 hF
      refine L_aload_n (pc := 389) h 1 rfl rfl dL_law_389 ?_
      refine L_iconst (pc := 390) (v := 3) h (by decide) dL_law_390 ?_
      obtain ⟨r4, hc3, hF⟩ := bd hF
      refine L_callV (pc := 391) (st := []) h [.int (3 : Int32)] cvL_42 (c4_count (ad := ad) (z := X.1) hc3) rfl rfl lc_28 (by decide) (by decide) (Nat.le_of_ble_eq_true rfl) dL_law_391 (st1 := [.int r4]) rfl ?_
      refine L_iload (pc := 394) h 10 rfl dL_law_394 ?_
      refine L_iconst (pc := 396) (v := 1) h (by decide) dL_law_396 ?_
      refine L_iload (pc := 397) h 13 rfl dL_law_397 ?_
      refine L_ishl (pc := 399) h dL_law_399 ?_
      refine L_ior (pc := 400) h dL_law_400 ?_
      refine L_icmp_ne (pc := 401) (tgt := 419) h dL_law_401 (by decide) (fun c5 => ?_) (fun c5 => ?_)
      · have hF := ifn c5 hF
        refine L_iconst (pc := 419) (v := 0) h (by decide) dL_law_419 ?_
        cases hF
        exact L_zreturn (pc := 420) h rfl zr0 rfl rfl dL_law_420
      · have hF := itp c5 hF
        refine L_aload_n (pc := 404) h 1 rfl rfl dL_law_404 ?_
        refine L_iconst (pc := 405) (v := 4) h (by decide) dL_law_405 ?_
        obtain ⟨r7, hc6, hF⟩ := bd hF
        refine L_callV (pc := 406) (st := []) h [.int (4 : Int32)] cvL_42 (c4_count (ad := ad) (z := X.1) hc6) rfl rfl lc_28 (by decide) (by decide) (Nat.le_of_ble_eq_true rfl) dL_law_406 (st1 := [.int r7]) rfl ?_
        refine L_iload (pc := 409) h 11 rfl dL_law_409 ?_
        refine L_iconst (pc := 411) (v := 1) h (by decide) dL_law_411 ?_
        refine L_iload (pc := 412) h 13 rfl dL_law_412 ?_
        refine L_ishl (pc := 414) h dL_law_414 ?_
        refine L_isub (pc := 415) h dL_law_415 ?_
        refine L_icmp_eq (pc := 416) (tgt := 421) h dL_law_416 (by decide) (fun c8 => ?_) (fun c8 => ?_)
        · have hF := itp c8 hF
          refine L_goto (pc := 421) (tgt := 629) h dL_law_421 (by decide) ?_
          exact Lp_sub (nX := 0) (lv' := [(0, .ref (zB X.1)), (1, .ref (ad 28)), (2, .ref (ad 47)), (4, .int x4), (5, .int x5), (6, .int x6), (7, .int x7), (8, .int x8), (9, .int x9), (10, .int x10), (11, .int x11), (12, .int x12), (13, .int x13), (14, .int x14), (15, .int x15), (17, .int x17)]) [0, 1, 2, 3, 4, 5, 6, 7, 8, 9, 10, 11, 12, 13, 14, 15] rfl (w9_law_629 h (hk69 := hk69) (hF := hF))
        · have hF := ifn c8 hF
          refine L_iconst (pc := 419) (v := 0) h (by decide) dL_law_419 ?_
          cases hF
          exact L_zreturn (pc := 420) h rfl zr0 rfl rfl dL_law_420
def f9_law_360 (sL : Nat) (sx : Nat → Int32) (fu : Nat) (k69 : Int32 → Int32 → Int32 → Int32 → Mem → Option (Mem × Int32)) (x4 : Int32) (x5 : Int32) (x6 : Int32) (x7 : Int32) (x8 : Int32) (x9 : Int32) (x10 : Int32) (x11 : Int32) (x12 : Int32) (x13 : Int32) (x14 : Int32) (x15 : Int32) (x18 : Int32) (s0 : Int32) (M : Mem) : Option (Mem × Int32) :=
    if s0 = 0 then ((f9_law_381 sL sx fu k69 x4 x5 x6 x7 x8 x9 x10 x11 x12 x13 x14 x15 s0 (-4 : Int32) x18 M))
    else ((f9_many fu x11).bind fun r3 =>
    (f9_law_381 sL sx fu k69 x4 x5 x6 x7 x8 x9 x10 x11 x12 x13 x14 x15 s0 (r3 + (1 : Int32)) x18 M))
set_option maxHeartbeats 4000000 in
set_option maxRecDepth 10000 in
theorem w9_law_360 {ad : Nat → Nat} {X : XX} {R : Mem × Int32} {fu : Nat} {k69 : Int32 → Int32 → Int32 → Int32 → Mem → Option (Mem × Int32)} (h : Lx layC ad X cL_law RL 30 9 (some .boolean) (R.1) (some (.int R.2))) (hk69 : ∀ (x4 : Int32) (x5 : Int32) (x6 : Int32) (x7 : Int32) (M : Mem), k69 x4 x5 x6 x7 M = some R → Lp layC ad X M 69 [(0, .ref (zB X.1)), (1, .ref (ad 28)), (2, .ref (ad 47)), (4, .int x4), (5, .int x5), (6, .int x6), (7, .int x7)] []) {x4 : Int32} {x5 : Int32} {x6 : Int32} {x7 : Int32} {x8 : Int32} {x9 : Int32} {x10 : Int32} {x11 : Int32} {x12 : Int32} {x13 : Int32} {x14 : Int32} {x15 : Int32} {x18 : Int32} {s0 : Int32} {M : Mem} (hF : f9_law_360 (zL X.1) (zX X.1) fu k69 x4 x5 x6 x7 x8 x9 x10 x11 x12 x13 x14 x15 x18 s0 M = some R) : Lp layC ad X M 360 [(0, .ref (zB X.1)), (1, .ref (ad 28)), (2, .ref (ad 47)), (4, .int x4), (5, .int x5), (6, .int x6), (7, .int x7), (8, .int x8), (9, .int x9), (10, .int x10), (11, .int x11), (12, .int x12), (13, .int x13), (14, .int x14), (15, .int x15), (18, .int x18)] [.int s0] := by
  unfold f9_law_360 at hF
  refine L_istore (pc := 360) (lv' := [(17, .int s0), (0, .ref (zB X.1)), (1, .ref (ad 28)), (2, .ref (ad 47)), (4, .int x4), (5, .int x5), (6, .int x6), (7, .int x7), (8, .int x8), (9, .int x9), (10, .int x10), (11, .int x11), (12, .int x12), (13, .int x13), (14, .int x14), (15, .int x15), (18, .int x18)]) h rfl (by decide) rfl dL_law_360 ?_
  refine L_iload (pc := 362) h 16 rfl dL_law_362 ?_
  refine L_iload (pc := 364) h 0 rfl dL_law_364 ?_
  refine L_if_eq (pc := 366) (tgt := 379) h dL_law_366 (by decide) (fun c1 => ?_) (fun c1 => ?_)
  · have hF := itp c1 hF
    refine L_bipush (pc := 379) (v := (-4)) h (by decide) dL_law_379 ?_
    exact Lp_sub (nX := 0) (lv' := [(0, .ref (zB X.1)), (1, .ref (ad 28)), (2, .ref (ad 47)), (4, .int x4), (5, .int x5), (6, .int x6), (7, .int x7), (8, .int x8), (9, .int x9), (10, .int x10), (11, .int x11), (12, .int x12), (13, .int x13), (14, .int x14), (15, .int x15), (17, .int s0)]) [1, 2, 3, 4, 5, 6, 7, 8, 9, 10, 11, 12, 13, 14, 15, 0] rfl (w9_law_381 h (hk69 := hk69) (hF := hF))
  · have hF := ifn c1 hF
    refine L_iload (pc := 369) h 11 rfl dL_law_369 ?_
    obtain ⟨r3, hc2, hF⟩ := bd hF
    refine L_callS (pc := 371) (st := [.int x18]) h [.int x11] csL_66 (c9_many (ad := ad) (z := X.1) (M := M) hc2) rfl rfl (by decide) (by decide) (Nat.le_of_ble_eq_true rfl) dL_law_371 (st1 := [.int r3, .int x18]) rfl ?_
    refine L_iconst (pc := 374) (v := 1) h (by decide) dL_law_374 ?_
    refine L_iadd (pc := 375) h dL_law_375 ?_
    refine L_goto (pc := 376) (tgt := 381) h dL_law_376 (by decide) ?_
    exact Lp_sub (nX := 0) (lv' := [(0, .ref (zB X.1)), (1, .ref (ad 28)), (2, .ref (ad 47)), (4, .int x4), (5, .int x5), (6, .int x6), (7, .int x7), (8, .int x8), (9, .int x9), (10, .int x10), (11, .int x11), (12, .int x12), (13, .int x13), (14, .int x14), (15, .int x15), (17, .int s0)]) [1, 2, 3, 4, 5, 6, 7, 8, 9, 10, 11, 12, 13, 14, 15, 0] rfl (w9_law_381 h (hk69 := hk69) (hF := hF))
def f9_law_487 (sL : Nat) (sx : Nat → Int32) (fu : Nat) (k69 : Int32 → Int32 → Int32 → Int32 → Mem → Option (Mem × Int32)) (x4 : Int32) (x5 : Int32) (x6 : Int32) (x7 : Int32) (x8 : Int32) (x9 : Int32) (x10 : Int32) (x11 : Int32) (x12 : Int32) (x13 : Int32) (x14 : Int32) (x15 : Int32) (x17 : Int32) (x18 : Int32) (s0 : Int32) (s1 : Int32) (M : Mem) : Option (Mem × Int32) :=
    if s1 = s0 then (if x17 = 0 then ((f9_law_629 sL sx fu k69 x4 x5 x6 x7 x8 x9 x10 x11 x12 x13 x14 x15 x17 M))
    else ((f4_count M fu (3 : Int32)).bind fun r4 =>
    if r4 = (x11 - ((1 : Int32) <<< (x18 &&& 31))) then ((f4_pin x18 (1 : Int32) M).bind fun ⟨M7, r8⟩ =>
    (f9_told_28 M7 r8).bind fun r10 =>
    if r10 = x10 then ((f9_law_629 sL sx fu k69 x4 x5 x6 x7 x8 x9 x10 x11 x12 x13 x14 x15 x17 M7))
    else ((some (M7, (0 : Int32)))))
    else ((some (M, (0 : Int32))))))
    else ((some (M, (0 : Int32))))
set_option maxHeartbeats 4000000 in
set_option maxRecDepth 10000 in
theorem w9_law_487 {ad : Nat → Nat} {X : XX} {R : Mem × Int32} {fu : Nat} {k69 : Int32 → Int32 → Int32 → Int32 → Mem → Option (Mem × Int32)} (h : Lx layC ad X cL_law RL 30 9 (some .boolean) (R.1) (some (.int R.2))) (hk69 : ∀ (x4 : Int32) (x5 : Int32) (x6 : Int32) (x7 : Int32) (M : Mem), k69 x4 x5 x6 x7 M = some R → Lp layC ad X M 69 [(0, .ref (zB X.1)), (1, .ref (ad 28)), (2, .ref (ad 47)), (4, .int x4), (5, .int x5), (6, .int x6), (7, .int x7)] []) {x4 : Int32} {x5 : Int32} {x6 : Int32} {x7 : Int32} {x8 : Int32} {x9 : Int32} {x10 : Int32} {x11 : Int32} {x12 : Int32} {x13 : Int32} {x14 : Int32} {x15 : Int32} {x17 : Int32} {x18 : Int32} {s0 : Int32} {s1 : Int32} {M : Mem} (hF : f9_law_487 (zL X.1) (zX X.1) fu k69 x4 x5 x6 x7 x8 x9 x10 x11 x12 x13 x14 x15 x17 x18 s0 s1 M = some R) : Lp layC ad X M 487 [(0, .ref (zB X.1)), (1, .ref (ad 28)), (2, .ref (ad 47)), (4, .int x4), (5, .int x5), (6, .int x6), (7, .int x7), (8, .int x8), (9, .int x9), (10, .int x10), (11, .int x11), (12, .int x12), (13, .int x13), (14, .int x14), (15, .int x15), (17, .int x17), (18, .int x18)] [.int s0, .int s1] := by
  unfold f9_law_487 at hF
  refine L_icmp_ne (pc := 487) (tgt := 526) h dL_law_487 (by decide) (fun c1 => ?_) (fun c1 => ?_)
  · have hF := ifn c1 hF
    refine L_iconst (pc := 526) (v := 0) h (by decide) dL_law_526 ?_
    cases hF
    exact L_zreturn (pc := 527) h rfl zr0 rfl rfl dL_law_527
  · have hF := itp c1 hF
    refine L_iload (pc := 490) h 15 rfl dL_law_490 ?_
    refine L_if_eq (pc := 492) (tgt := 528) h dL_law_492 (by decide) (fun c2 => ?_) (fun c2 => ?_)
    · have hF := itp c2 hF
      refine L_goto (pc := 528) (tgt := 629) h dL_law_528 (by decide) ?_
      exact Lp_sub (nX := 0) (lv' := [(0, .ref (zB X.1)), (1, .ref (ad 28)), (2, .ref (ad 47)), (4, .int x4), (5, .int x5), (6, .int x6), (7, .int x7), (8, .int x8), (9, .int x9), (10, .int x10), (11, .int x11), (12, .int x12), (13, .int x13), (14, .int x14), (15, .int x15), (17, .int x17)]) [0, 1, 2, 3, 4, 5, 6, 7, 8, 9, 10, 11, 12, 13, 14, 15] rfl (w9_law_629 h (hk69 := hk69) (hF := hF))
    · have hF := ifn c2 hF
      refine L_aload_n (pc := 495) h 1 rfl rfl dL_law_495 ?_
      refine L_iconst (pc := 496) (v := 3) h (by decide) dL_law_496 ?_
      obtain ⟨r4, hc3, hF⟩ := bd hF
      refine L_callV (pc := 497) (st := []) h [.int (3 : Int32)] cvL_42 (c4_count (ad := ad) (z := X.1) hc3) rfl rfl lc_28 (by decide) (by decide) (Nat.le_of_ble_eq_true rfl) dL_law_497 (st1 := [.int r4]) rfl ?_
      refine L_iload (pc := 500) h 10 rfl dL_law_500 ?_
      refine L_iconst (pc := 502) (v := 1) h (by decide) dL_law_502 ?_
      refine L_iload (pc := 503) h 16 rfl dL_law_503 ?_
      refine L_ishl (pc := 505) h dL_law_505 ?_
      refine L_isub (pc := 506) h dL_law_506 ?_
      refine L_icmp_ne (pc := 507) (tgt := 526) h dL_law_507 (by decide) (fun c5 => ?_) (fun c5 => ?_)
      · have hF := ifn c5 hF
        refine L_iconst (pc := 526) (v := 0) h (by decide) dL_law_526 ?_
        cases hF
        exact L_zreturn (pc := 527) h rfl zr0 rfl rfl dL_law_527
      · have hF := itp c5 hF
        refine L_aload_n (pc := 510) h 1 rfl rfl dL_law_510 ?_
        refine L_aload_n (pc := 511) h 1 rfl rfl dL_law_511 ?_
        refine L_iload (pc := 512) h 16 rfl dL_law_512 ?_
        refine L_iconst (pc := 514) (v := 1) h (by decide) dL_law_514 ?_
        obtain ⟨⟨M7, r8⟩, hc6, hF⟩ := bd hF
        refine L_callV (pc := 515) (st := [.ref (ad 28)]) h [.int x18, .int (1 : Int32)] cvL_88 (c4_pin (ad := ad) (z := X.1) hc6) rfl rfl lc_28 (by decide) (by decide) (Nat.le_of_ble_eq_true rfl) dL_law_515 (st1 := [.int r8, .ref (ad 28)]) rfl ?_
        obtain ⟨r10, hc9, hF⟩ := bd hF
        refine L_callS (pc := 518) (st := []) h [.ref (ad 28), .int r8] csL_91 (c9_told_28 (ad := ad) (z := X.1) hc9) rfl rfl (by decide) (by decide) (Nat.le_of_ble_eq_true rfl) dL_law_518 (st1 := [.int r10]) rfl ?_
        refine L_iload (pc := 521) h 9 rfl dL_law_521 ?_
        refine L_icmp_eq (pc := 523) (tgt := 528) h dL_law_523 (by decide) (fun c11 => ?_) (fun c11 => ?_)
        · have hF := itp c11 hF
          refine L_goto (pc := 528) (tgt := 629) h dL_law_528 (by decide) ?_
          exact Lp_sub (nX := 0) (lv' := [(0, .ref (zB X.1)), (1, .ref (ad 28)), (2, .ref (ad 47)), (4, .int x4), (5, .int x5), (6, .int x6), (7, .int x7), (8, .int x8), (9, .int x9), (10, .int x10), (11, .int x11), (12, .int x12), (13, .int x13), (14, .int x14), (15, .int x15), (17, .int x17)]) [0, 1, 2, 3, 4, 5, 6, 7, 8, 9, 10, 11, 12, 13, 14, 15] rfl (w9_law_629 h (hk69 := hk69) (hF := hF))
        · have hF := ifn c11 hF
          refine L_iconst (pc := 526) (v := 0) h (by decide) dL_law_526 ?_
          cases hF
          exact L_zreturn (pc := 527) h rfl zr0 rfl rfl dL_law_527
def f9_law_466 (sL : Nat) (sx : Nat → Int32) (fu : Nat) (k69 : Int32 → Int32 → Int32 → Int32 → Mem → Option (Mem × Int32)) (x4 : Int32) (x5 : Int32) (x6 : Int32) (x7 : Int32) (x8 : Int32) (x9 : Int32) (x10 : Int32) (x11 : Int32) (x12 : Int32) (x13 : Int32) (x14 : Int32) (x15 : Int32) (x18 : Int32) (x19 : Int32) (s0 : Int32) (M : Mem) : Option (Mem × Int32) :=
    if s0 = 0 then ((f9_law_487 sL sx fu k69 x4 x5 x6 x7 x8 x9 x10 x11 x12 x13 x14 x15 s0 x18 (-4 : Int32) x19 M))
    else ((f9_many fu x11).bind fun r3 =>
    (f9_law_487 sL sx fu k69 x4 x5 x6 x7 x8 x9 x10 x11 x12 x13 x14 x15 s0 x18 (r3 - (1 : Int32)) x19 M))
set_option maxHeartbeats 4000000 in
set_option maxRecDepth 10000 in
theorem w9_law_466 {ad : Nat → Nat} {X : XX} {R : Mem × Int32} {fu : Nat} {k69 : Int32 → Int32 → Int32 → Int32 → Mem → Option (Mem × Int32)} (h : Lx layC ad X cL_law RL 30 9 (some .boolean) (R.1) (some (.int R.2))) (hk69 : ∀ (x4 : Int32) (x5 : Int32) (x6 : Int32) (x7 : Int32) (M : Mem), k69 x4 x5 x6 x7 M = some R → Lp layC ad X M 69 [(0, .ref (zB X.1)), (1, .ref (ad 28)), (2, .ref (ad 47)), (4, .int x4), (5, .int x5), (6, .int x6), (7, .int x7)] []) {x4 : Int32} {x5 : Int32} {x6 : Int32} {x7 : Int32} {x8 : Int32} {x9 : Int32} {x10 : Int32} {x11 : Int32} {x12 : Int32} {x13 : Int32} {x14 : Int32} {x15 : Int32} {x18 : Int32} {x19 : Int32} {s0 : Int32} {M : Mem} (hF : f9_law_466 (zL X.1) (zX X.1) fu k69 x4 x5 x6 x7 x8 x9 x10 x11 x12 x13 x14 x15 x18 x19 s0 M = some R) : Lp layC ad X M 466 [(0, .ref (zB X.1)), (1, .ref (ad 28)), (2, .ref (ad 47)), (4, .int x4), (5, .int x5), (6, .int x6), (7, .int x7), (8, .int x8), (9, .int x9), (10, .int x10), (11, .int x11), (12, .int x12), (13, .int x13), (14, .int x14), (15, .int x15), (18, .int x18), (19, .int x19)] [.int s0] := by
  unfold f9_law_466 at hF
  refine L_istore (pc := 466) (lv' := [(17, .int s0), (0, .ref (zB X.1)), (1, .ref (ad 28)), (2, .ref (ad 47)), (4, .int x4), (5, .int x5), (6, .int x6), (7, .int x7), (8, .int x8), (9, .int x9), (10, .int x10), (11, .int x11), (12, .int x12), (13, .int x13), (14, .int x14), (15, .int x15), (18, .int x18), (19, .int x19)]) h rfl (by decide) rfl dL_law_466 ?_
  refine L_iload (pc := 468) h 17 rfl dL_law_468 ?_
  refine L_iload (pc := 470) h 0 rfl dL_law_470 ?_
  refine L_if_eq (pc := 472) (tgt := 485) h dL_law_472 (by decide) (fun c1 => ?_) (fun c1 => ?_)
  · have hF := itp c1 hF
    refine L_bipush (pc := 485) (v := (-4)) h (by decide) dL_law_485 ?_
    exact Lp_sub (nX := 0) (lv' := [(0, .ref (zB X.1)), (1, .ref (ad 28)), (2, .ref (ad 47)), (4, .int x4), (5, .int x5), (6, .int x6), (7, .int x7), (8, .int x8), (9, .int x9), (10, .int x10), (11, .int x11), (12, .int x12), (13, .int x13), (14, .int x14), (15, .int x15), (17, .int s0), (18, .int x18)]) [1, 2, 3, 4, 5, 6, 7, 8, 9, 10, 11, 12, 13, 14, 15, 0, 16] rfl (w9_law_487 h (hk69 := hk69) (hF := hF))
  · have hF := ifn c1 hF
    refine L_iload (pc := 475) h 11 rfl dL_law_475 ?_
    obtain ⟨r3, hc2, hF⟩ := bd hF
    refine L_callS (pc := 477) (st := [.int x19]) h [.int x11] csL_66 (c9_many (ad := ad) (z := X.1) (M := M) hc2) rfl rfl (by decide) (by decide) (Nat.le_of_ble_eq_true rfl) dL_law_477 (st1 := [.int r3, .int x19]) rfl ?_
    refine L_iconst (pc := 480) (v := 1) h (by decide) dL_law_480 ?_
    refine L_isub (pc := 481) h dL_law_481 ?_
    refine L_goto (pc := 482) (tgt := 487) h dL_law_482 (by decide) ?_
    exact Lp_sub (nX := 0) (lv' := [(0, .ref (zB X.1)), (1, .ref (ad 28)), (2, .ref (ad 47)), (4, .int x4), (5, .int x5), (6, .int x6), (7, .int x7), (8, .int x8), (9, .int x9), (10, .int x10), (11, .int x11), (12, .int x12), (13, .int x13), (14, .int x14), (15, .int x15), (17, .int s0), (18, .int x18)]) [1, 2, 3, 4, 5, 6, 7, 8, 9, 10, 11, 12, 13, 14, 15, 0, 16] rfl (w9_law_487 h (hk69 := hk69) (hF := hF))
def f9_law_537 (sL : Nat) (sx : Nat → Int32) (fu : Nat) (k69 : Int32 → Int32 → Int32 → Int32 → Mem → Option (Mem × Int32)) : Nat → Int32 → Int32 → Int32 → Int32 → Int32 → Int32 → Int32 → Int32 → Int32 → Int32 → Int32 → Int32 → Int32 → Int32 → Int32 → Mem → Option (Mem × Int32)
  | 0 => fun _ _ _ _ _ _ _ _ _ _ _ _ _ _ _ _ => none
  | f + 1 => fun x4 x5 x6 x7 x8 x9 x10 x11 x12 x13 x14 x15 x17 x18 x19 M =>
    if x4 ≤ x19 then ((f4_sweep fu M).bind fun ⟨M3, r4⟩ =>
    (f9_many fu x18).bind fun r6 =>
    if r4 = r6 then ((f4_count M3 fu (5 : Int32)).bind fun r9 =>
    if r9 = (x13 ||| x18) then ((f4_count M3 fu (4 : Int32)).bind fun r12 =>
    if r12 = (x12 - x18) then ((f4_count M3 fu (3 : Int32)).bind fun r15 =>
    if r15 = x11 then ((f9_law_629 sL sx fu k69 x4 x5 x6 x7 x8 x9 x10 x11 x12 x13 x14 x15 x17 M3))
    else ((some (M3, (0 : Int32)))))
    else ((some (M3, (0 : Int32)))))
    else ((some (M3, (0 : Int32)))))
    else ((some (M3, (0 : Int32)))))
    else ((f4_pin x19 (1 : Int32) M).bind fun ⟨M18, r19⟩ =>
    (f9_told_28 M18 r19).bind fun r21 =>
    if r21 = x10 then (nm (x18 ||| ((1 : Int32) <<< (x19 &&& 31))) fun v23 =>
    nm (x19 + (1 : Int32)) fun v24 =>
    ((f9_law_537 sL sx fu k69 f) x4 x5 x6 x7 x8 x9 x10 x11 x12 x13 x14 x15 x17 v23 v24 M18))
    else (nm (x18 ||| (0 : Int32)) fun v25 =>
    nm (x19 + (1 : Int32)) fun v26 =>
    ((f9_law_537 sL sx fu k69 f) x4 x5 x6 x7 x8 x9 x10 x11 x12 x13 x14 x15 x17 v25 v26 M18)))
set_option maxHeartbeats 4000000 in
set_option maxRecDepth 10000 in
theorem w9_lawi_537 {ad : Nat → Nat} {X : XX} {R : Mem × Int32} {fu : Nat} {k69 : Int32 → Int32 → Int32 → Int32 → Mem → Option (Mem × Int32)} (h : Lx layC ad X cL_law RL 30 9 (some .boolean) (R.1) (some (.int R.2))) (hk69 : ∀ (x4 : Int32) (x5 : Int32) (x6 : Int32) (x7 : Int32) (M : Mem), k69 x4 x5 x6 x7 M = some R → Lp layC ad X M 69 [(0, .ref (zB X.1)), (1, .ref (ad 28)), (2, .ref (ad 47)), (4, .int x4), (5, .int x5), (6, .int x6), (7, .int x7)] []) : ∀ (f : Nat) (x4 : Int32) (x5 : Int32) (x6 : Int32) (x7 : Int32) (x8 : Int32) (x9 : Int32) (x10 : Int32) (x11 : Int32) (x12 : Int32) (x13 : Int32) (x14 : Int32) (x15 : Int32) (x17 : Int32) (x18 : Int32) (x19 : Int32) (M : Mem), f9_law_537 (zL X.1) (zX X.1) fu k69 f x4 x5 x6 x7 x8 x9 x10 x11 x12 x13 x14 x15 x17 x18 x19 M = some R → Lp layC ad X M 537 [(0, .ref (zB X.1)), (1, .ref (ad 28)), (2, .ref (ad 47)), (4, .int x4), (5, .int x5), (6, .int x6), (7, .int x7), (8, .int x8), (9, .int x9), (10, .int x10), (11, .int x11), (12, .int x12), (13, .int x13), (14, .int x14), (15, .int x15), (17, .int x17), (18, .int x18), (19, .int x19)] [] := by
  intro f
  induction f with
  | zero => intro x4 x5 x6 x7 x8 x9 x10 x11 x12 x13 x14 x15 x17 x18 x19 M hF; exact absurd hF (by simp [f9_law_537])
  | succ f ih =>
    intro x4 x5 x6 x7 x8 x9 x10 x11 x12 x13 x14 x15 x17 x18 x19 M hF
    rw [f9_law_537] at hF
    refine L_iload (pc := 537) h 17 rfl dL_law_537 ?_
    refine L_iload (pc := 539) h 3 rfl dL_law_539 ?_
    refine L_icmp_ge (pc := 541) (tgt := 579) h dL_law_541 (by decide) (fun c1 => ?_) (fun c1 => ?_)
    · have hF := itp c1 hF
      refine L_aload_n (pc := 579) h 1 rfl rfl dL_law_579 ?_
      obtain ⟨⟨M3, r4⟩, hc2, hF⟩ := bd hF
      refine L_callV (pc := 580) (st := []) h [] cvL_72 (c4_sweep (ad := ad) (z := X.1) hc2) rfl rfl lc_28 (by decide) (by decide) (Nat.le_of_ble_eq_true rfl) dL_law_580 (st1 := [.int r4]) rfl ?_
      refine L_iload (pc := 583) h 16 rfl dL_law_583 ?_
      obtain ⟨r6, hc5, hF⟩ := bd hF
      refine L_callS (pc := 585) (st := [.int r4]) h [.int x18] csL_66 (c9_many (ad := ad) (z := X.1) (M := M3) hc5) rfl rfl (by decide) (by decide) (Nat.le_of_ble_eq_true rfl) dL_law_585 (st1 := [.int r6, .int r4]) rfl ?_
      refine L_icmp_ne (pc := 588) (tgt := 627) h dL_law_588 (by decide) (fun c7 => ?_) (fun c7 => ?_)
      · have hF := ifn c7 hF
        refine L_iconst (pc := 627) (v := 0) h (by decide) dL_law_627 ?_
        cases hF
        exact L_zreturn (pc := 628) h rfl zr0 rfl rfl dL_law_628
      · have hF := itp c7 hF
        refine L_aload_n (pc := 591) h 1 rfl rfl dL_law_591 ?_
        refine L_iconst (pc := 592) (v := 5) h (by decide) dL_law_592 ?_
        obtain ⟨r9, hc8, hF⟩ := bd hF
        refine L_callV (pc := 593) (st := []) h [.int (5 : Int32)] cvL_42 (c4_count (ad := ad) (z := X.1) hc8) rfl rfl lc_28 (by decide) (by decide) (Nat.le_of_ble_eq_true rfl) dL_law_593 (st1 := [.int r9]) rfl ?_
        refine L_iload (pc := 596) h 12 rfl dL_law_596 ?_
        refine L_iload (pc := 598) h 16 rfl dL_law_598 ?_
        refine L_ior (pc := 600) h dL_law_600 ?_
        refine L_icmp_ne (pc := 601) (tgt := 627) h dL_law_601 (by decide) (fun c10 => ?_) (fun c10 => ?_)
        · have hF := ifn c10 hF
          refine L_iconst (pc := 627) (v := 0) h (by decide) dL_law_627 ?_
          cases hF
          exact L_zreturn (pc := 628) h rfl zr0 rfl rfl dL_law_628
        · have hF := itp c10 hF
          refine L_aload_n (pc := 604) h 1 rfl rfl dL_law_604 ?_
          refine L_iconst (pc := 605) (v := 4) h (by decide) dL_law_605 ?_
          obtain ⟨r12, hc11, hF⟩ := bd hF
          refine L_callV (pc := 606) (st := []) h [.int (4 : Int32)] cvL_42 (c4_count (ad := ad) (z := X.1) hc11) rfl rfl lc_28 (by decide) (by decide) (Nat.le_of_ble_eq_true rfl) dL_law_606 (st1 := [.int r12]) rfl ?_
          refine L_iload (pc := 609) h 11 rfl dL_law_609 ?_
          refine L_iload (pc := 611) h 16 rfl dL_law_611 ?_
          refine L_isub (pc := 613) h dL_law_613 ?_
          refine L_icmp_ne (pc := 614) (tgt := 627) h dL_law_614 (by decide) (fun c13 => ?_) (fun c13 => ?_)
          · have hF := ifn c13 hF
            refine L_iconst (pc := 627) (v := 0) h (by decide) dL_law_627 ?_
            cases hF
            exact L_zreturn (pc := 628) h rfl zr0 rfl rfl dL_law_628
          · have hF := itp c13 hF
            refine L_aload_n (pc := 617) h 1 rfl rfl dL_law_617 ?_
            refine L_iconst (pc := 618) (v := 3) h (by decide) dL_law_618 ?_
            obtain ⟨r15, hc14, hF⟩ := bd hF
            refine L_callV (pc := 619) (st := []) h [.int (3 : Int32)] cvL_42 (c4_count (ad := ad) (z := X.1) hc14) rfl rfl lc_28 (by decide) (by decide) (Nat.le_of_ble_eq_true rfl) dL_law_619 (st1 := [.int r15]) rfl ?_
            refine L_iload (pc := 622) h 10 rfl dL_law_622 ?_
            refine L_icmp_eq (pc := 624) (tgt := 629) h dL_law_624 (by decide) (fun c16 => ?_) (fun c16 => ?_)
            · have hF := itp c16 hF
              exact Lp_sub (nX := 0) (lv' := [(0, .ref (zB X.1)), (1, .ref (ad 28)), (2, .ref (ad 47)), (4, .int x4), (5, .int x5), (6, .int x6), (7, .int x7), (8, .int x8), (9, .int x9), (10, .int x10), (11, .int x11), (12, .int x12), (13, .int x13), (14, .int x14), (15, .int x15), (17, .int x17)]) [0, 1, 2, 3, 4, 5, 6, 7, 8, 9, 10, 11, 12, 13, 14, 15] rfl (w9_law_629 h (hk69 := hk69) (hF := hF))
            · have hF := ifn c16 hF
              refine L_iconst (pc := 627) (v := 0) h (by decide) dL_law_627 ?_
              cases hF
              exact L_zreturn (pc := 628) h rfl zr0 rfl rfl dL_law_628
    · have hF := ifn c1 hF
      refine L_iload (pc := 544) h 16 rfl dL_law_544 ?_
      refine L_aload_n (pc := 546) h 1 rfl rfl dL_law_546 ?_
      refine L_aload_n (pc := 547) h 1 rfl rfl dL_law_547 ?_
      refine L_iload (pc := 548) h 17 rfl dL_law_548 ?_
      refine L_iconst (pc := 550) (v := 1) h (by decide) dL_law_550 ?_
      obtain ⟨⟨M18, r19⟩, hc17, hF⟩ := bd hF
      refine L_callV (pc := 551) (st := [.ref (ad 28), .int x18]) h [.int x19, .int (1 : Int32)] cvL_88 (c4_pin (ad := ad) (z := X.1) hc17) rfl rfl lc_28 (by decide) (by decide) (Nat.le_of_ble_eq_true rfl) dL_law_551 (st1 := [.int r19, .ref (ad 28), .int x18]) rfl ?_
      obtain ⟨r21, hc20, hF⟩ := bd hF
      refine L_callS (pc := 554) (st := [.int x18]) h [.ref (ad 28), .int r19] csL_91 (c9_told_28 (ad := ad) (z := X.1) hc20) rfl rfl (by decide) (by decide) (Nat.le_of_ble_eq_true rfl) dL_law_554 (st1 := [.int r21, .int x18]) rfl ?_
      refine L_iload (pc := 557) h 9 rfl dL_law_557 ?_
      refine L_icmp_ne (pc := 559) (tgt := 569) h dL_law_559 (by decide) (fun c22 => ?_) (fun c22 => ?_)
      · have hF := ifn c22 hF
        refine L_iconst (pc := 569) (v := 0) h (by decide) dL_law_569 ?_
        refine L_ior (pc := 570) h dL_law_570 ?_
        obtain ⟨v25, hv25, hF⟩ := nm_e2 hF
        refine L_istore (pc := 571) (lv' := [(18, .int v25), (0, .ref (zB X.1)), (1, .ref (ad 28)), (2, .ref (ad 47)), (4, .int x4), (5, .int x5), (6, .int x6), (7, .int x7), (8, .int x8), (9, .int x9), (10, .int x10), (11, .int x11), (12, .int x12), (13, .int x13), (14, .int x14), (15, .int x15), (17, .int x17), (19, .int x19)]) h hv25 (by decide) rfl dL_law_571 ?_
        obtain ⟨v26, hv26, hF⟩ := nm_e2 hF
        refine L_iinc (pc := 573) (lv' := [(19, .int v26), (18, .int v25), (0, .ref (zB X.1)), (1, .ref (ad 28)), (2, .ref (ad 47)), (4, .int x4), (5, .int x5), (6, .int x6), (7, .int x7), (8, .int x8), (9, .int x9), (10, .int x10), (11, .int x11), (12, .int x12), (13, .int x13), (14, .int x14), (15, .int x15), (17, .int x17)]) h 17 rfl (by decide) hv26 (by decide) rfl dL_law_573 ?_
        refine L_goto (pc := 576) (tgt := 537) h dL_law_576 (by decide) ?_
        exact Lp_sub (nX := 0) (lv' := [(0, .ref (zB X.1)), (1, .ref (ad 28)), (2, .ref (ad 47)), (4, .int x4), (5, .int x5), (6, .int x6), (7, .int x7), (8, .int x8), (9, .int x9), (10, .int x10), (11, .int x11), (12, .int x12), (13, .int x13), (14, .int x14), (15, .int x15), (17, .int x17), (18, .int v25), (19, .int v26)]) [2, 3, 4, 5, 6, 7, 8, 9, 10, 11, 12, 13, 14, 15, 16, 17, 1, 0] rfl (ih _ _ _ _ _ _ _ _ _ _ _ _ _ _ _ _ hF)
      · have hF := itp c22 hF
        refine L_iconst (pc := 562) (v := 1) h (by decide) dL_law_562 ?_
        refine L_iload (pc := 563) h 17 rfl dL_law_563 ?_
        refine L_ishl (pc := 565) h dL_law_565 ?_
        refine L_goto (pc := 566) (tgt := 570) h dL_law_566 (by decide) ?_
        refine L_ior (pc := 570) h dL_law_570 ?_
        obtain ⟨v23, hv23, hF⟩ := nm_e2 hF
        refine L_istore (pc := 571) (lv' := [(18, .int v23), (0, .ref (zB X.1)), (1, .ref (ad 28)), (2, .ref (ad 47)), (4, .int x4), (5, .int x5), (6, .int x6), (7, .int x7), (8, .int x8), (9, .int x9), (10, .int x10), (11, .int x11), (12, .int x12), (13, .int x13), (14, .int x14), (15, .int x15), (17, .int x17), (19, .int x19)]) h hv23 (by decide) rfl dL_law_571 ?_
        obtain ⟨v24, hv24, hF⟩ := nm_e2 hF
        refine L_iinc (pc := 573) (lv' := [(19, .int v24), (18, .int v23), (0, .ref (zB X.1)), (1, .ref (ad 28)), (2, .ref (ad 47)), (4, .int x4), (5, .int x5), (6, .int x6), (7, .int x7), (8, .int x8), (9, .int x9), (10, .int x10), (11, .int x11), (12, .int x12), (13, .int x13), (14, .int x14), (15, .int x15), (17, .int x17)]) h 17 rfl (by decide) hv24 (by decide) rfl dL_law_573 ?_
        refine L_goto (pc := 576) (tgt := 537) h dL_law_576 (by decide) ?_
        exact Lp_sub (nX := 0) (lv' := [(0, .ref (zB X.1)), (1, .ref (ad 28)), (2, .ref (ad 47)), (4, .int x4), (5, .int x5), (6, .int x6), (7, .int x7), (8, .int x8), (9, .int x9), (10, .int x10), (11, .int x11), (12, .int x12), (13, .int x13), (14, .int x14), (15, .int x15), (17, .int x17), (18, .int v23), (19, .int v24)]) [2, 3, 4, 5, 6, 7, 8, 9, 10, 11, 12, 13, 14, 15, 16, 17, 1, 0] rfl (ih _ _ _ _ _ _ _ _ _ _ _ _ _ _ _ _ hF)
theorem w9_law_537 {ad : Nat → Nat} {X : XX} {R : Mem × Int32} {fu : Nat} {k69 : Int32 → Int32 → Int32 → Int32 → Mem → Option (Mem × Int32)} (h : Lx layC ad X cL_law RL 30 9 (some .boolean) (R.1) (some (.int R.2))) (hk69 : ∀ (x4 : Int32) (x5 : Int32) (x6 : Int32) (x7 : Int32) (M : Mem), k69 x4 x5 x6 x7 M = some R → Lp layC ad X M 69 [(0, .ref (zB X.1)), (1, .ref (ad 28)), (2, .ref (ad 47)), (4, .int x4), (5, .int x5), (6, .int x6), (7, .int x7)] []) {f : Nat} {x4 : Int32} {x5 : Int32} {x6 : Int32} {x7 : Int32} {x8 : Int32} {x9 : Int32} {x10 : Int32} {x11 : Int32} {x12 : Int32} {x13 : Int32} {x14 : Int32} {x15 : Int32} {x17 : Int32} {x18 : Int32} {x19 : Int32} {M : Mem} (hF : f9_law_537 (zL X.1) (zX X.1) fu k69 f x4 x5 x6 x7 x8 x9 x10 x11 x12 x13 x14 x15 x17 x18 x19 M = some R) : Lp layC ad X M 537 [(0, .ref (zB X.1)), (1, .ref (ad 28)), (2, .ref (ad 47)), (4, .int x4), (5, .int x5), (6, .int x6), (7, .int x7), (8, .int x8), (9, .int x9), (10, .int x10), (11, .int x11), (12, .int x12), (13, .int x13), (14, .int x14), (15, .int x15), (17, .int x17), (18, .int x18), (19, .int x19)] [] := w9_lawi_537 h hk69 f _ _ _ _ _ _ _ _ _ _ _ _ _ _ _ _ hF
def f9_law_186 (sL : Nat) (sx : Nat → Int32) (fu : Nat) (k69 : Int32 → Int32 → Int32 → Int32 → Mem → Option (Mem × Int32)) (x4 : Int32) (x5 : Int32) (x6 : Int32) (x7 : Int32) (x8 : Int32) (x9 : Int32) (x10 : Int32) (x11 : Int32) (x12 : Int32) (x13 : Int32) (x14 : Int32) (M : Mem) : Option (Mem × Int32) :=
    (f4_pin x14 (1 : Int32) M).bind fun ⟨M2, r3⟩ =>
    (f9_told_28 M2 r3).bind fun r5 =>
    (f9_part x8 (12 : Int32)).bind fun r7 =>
    if (4 : Int32) ≤ r7 then (if (9 : Int32) ≤ r7 then (if (11 : Int32) ≤ r7 then ((f9_law_537 sL sx fu k69 fu x4 x5 x6 x7 x8 x9 x10 x11 x12 x13 x14 r5 (1 : Int32) (0 : Int32) (0 : Int32) M2))
    else ((f9_part (x8 >>> ((4 : Int32) &&& 31)) x4).bind fun r12 =>
    (f4_drop fu r12 M2).bind fun ⟨M14, r15⟩ =>
    if ((x11 >>> (r12 &&& 31)) &&& (1 : Int32)) = (1 : Int32) then ((f9_law_466 sL sx fu k69 x4 x5 x6 x7 x8 x9 x10 x11 x12 x13 x14 r5 r12 r15 (1 : Int32) M14))
    else ((f9_law_466 sL sx fu k69 x4 x5 x6 x7 x8 x9 x10 x11 x12 x13 x14 r5 r12 r15 (0 : Int32) M14))))
    else ((f4_pick fu x14 M2).bind fun ⟨M18, r19⟩ =>
    if r5 = x10 then ((f9_law_360 sL sx fu k69 x4 x5 x6 x7 x8 x9 x10 x11 x12 x13 x14 r5 r19 (1 : Int32) M18))
    else ((f9_law_360 sL sx fu k69 x4 x5 x6 x7 x8 x9 x10 x11 x12 x13 x14 r5 r19 (0 : Int32) M18))))
    else ((f9_part (x8 >>> ((12 : Int32) &&& 31)) (3 : Int32)).bind fun r22 =>
    if r22 = 0 then ((f9_law_234 sL sx fu k69 x4 x5 x6 x7 x8 x9 x10 x11 x12 x13 x14 r5 (-1 : Int32) M2))
    else ((f9_law_234 sL sx fu k69 x4 x5 x6 x7 x8 x9 x10 x11 x12 x13 x14 r5 (1 : Int32) M2)))
set_option maxHeartbeats 4000000 in
set_option maxRecDepth 10000 in
theorem w9_law_186 {ad : Nat → Nat} {X : XX} {R : Mem × Int32} {fu : Nat} {k69 : Int32 → Int32 → Int32 → Int32 → Mem → Option (Mem × Int32)} (h : Lx layC ad X cL_law RL 30 9 (some .boolean) (R.1) (some (.int R.2))) (hk69 : ∀ (x4 : Int32) (x5 : Int32) (x6 : Int32) (x7 : Int32) (M : Mem), k69 x4 x5 x6 x7 M = some R → Lp layC ad X M 69 [(0, .ref (zB X.1)), (1, .ref (ad 28)), (2, .ref (ad 47)), (4, .int x4), (5, .int x5), (6, .int x6), (7, .int x7)] []) {x4 : Int32} {x5 : Int32} {x6 : Int32} {x7 : Int32} {x8 : Int32} {x9 : Int32} {x10 : Int32} {x11 : Int32} {x12 : Int32} {x13 : Int32} {x14 : Int32} {M : Mem} (hF : f9_law_186 (zL X.1) (zX X.1) fu k69 x4 x5 x6 x7 x8 x9 x10 x11 x12 x13 x14 M = some R) : Lp layC ad X M 186 [(0, .ref (zB X.1)), (1, .ref (ad 28)), (2, .ref (ad 47)), (4, .int x4), (5, .int x5), (6, .int x6), (7, .int x7), (8, .int x8), (9, .int x9), (10, .int x10), (11, .int x11), (12, .int x12), (13, .int x13), (14, .int x14)] [] := by
  unfold f9_law_186 at hF
  refine L_aload_n (pc := 186) h 1 rfl rfl dL_law_186 ?_
  refine L_aload_n (pc := 187) h 1 rfl rfl dL_law_187 ?_
  refine L_iload (pc := 188) h 13 rfl dL_law_188 ?_
  refine L_iconst (pc := 190) (v := 1) h (by decide) dL_law_190 ?_
  obtain ⟨⟨M2, r3⟩, hc1, hF⟩ := bd hF
  refine L_callV (pc := 191) (st := [.ref (ad 28)]) h [.int x14, .int (1 : Int32)] cvL_88 (c4_pin (ad := ad) (z := X.1) hc1) rfl rfl lc_28 (by decide) (by decide) (Nat.le_of_ble_eq_true rfl) dL_law_191 (st1 := [.int r3, .ref (ad 28)]) rfl ?_
  obtain ⟨r5, hc4, hF⟩ := bd hF
  refine L_callS (pc := 194) (st := []) h [.ref (ad 28), .int r3] csL_91 (c9_told_28 (ad := ad) (z := X.1) hc4) rfl rfl (by decide) (by decide) (Nat.le_of_ble_eq_true rfl) dL_law_194 (st1 := [.int r5]) rfl ?_
  refine L_istore (pc := 197) (lv' := [(15, .int r5), (0, .ref (zB X.1)), (1, .ref (ad 28)), (2, .ref (ad 47)), (4, .int x4), (5, .int x5), (6, .int x6), (7, .int x7), (8, .int x8), (9, .int x9), (10, .int x10), (11, .int x11), (12, .int x12), (13, .int x13), (14, .int x14)]) h rfl (by decide) rfl dL_law_197 ?_
  refine L_iload (pc := 199) h 8 rfl dL_law_199 ?_
  refine L_bipush (pc := 201) (v := 12) h (by decide) dL_law_201 ?_
  obtain ⟨r7, hc6, hF⟩ := bd hF
  refine L_callS (pc := 203) (st := []) h [.int x8, .int (12 : Int32)] csL_21 (c9_part (ad := ad) (z := X.1) (M := M2) hc6) rfl rfl (by decide) (by decide) (Nat.le_of_ble_eq_true rfl) dL_law_203 (st1 := [.int r7]) rfl ?_
  refine L_istore (pc := 206) (lv' := [(16, .int r7), (15, .int r5), (0, .ref (zB X.1)), (1, .ref (ad 28)), (2, .ref (ad 47)), (4, .int x4), (5, .int x5), (6, .int x6), (7, .int x7), (8, .int x8), (9, .int x9), (10, .int x10), (11, .int x11), (12, .int x12), (13, .int x13), (14, .int x14)]) h rfl (by decide) rfl dL_law_206 ?_
  refine L_iconst (pc := 208) (v := 1) h (by decide) dL_law_208 ?_
  refine L_istore (pc := 209) (lv' := [(17, .int (1 : Int32)), (16, .int r7), (15, .int r5), (0, .ref (zB X.1)), (1, .ref (ad 28)), (2, .ref (ad 47)), (4, .int x4), (5, .int x5), (6, .int x6), (7, .int x7), (8, .int x8), (9, .int x9), (10, .int x10), (11, .int x11), (12, .int x12), (13, .int x13), (14, .int x14)]) h rfl (by decide) rfl dL_law_209 ?_
  refine L_iload (pc := 211) h 1 rfl dL_law_211 ?_
  refine L_iconst (pc := 213) (v := 4) h (by decide) dL_law_213 ?_
  refine L_icmp_ge (pc := 214) (tgt := 333) h dL_law_214 (by decide) (fun c8 => ?_) (fun c8 => ?_)
  · have hF := itp c8 hF
    refine L_iload (pc := 333) h 1 rfl dL_law_333 ?_
    refine L_bipush (pc := 335) (v := 9) h (by decide) dL_law_335 ?_
    refine L_icmp_ge (pc := 337) (tgt := 424) h dL_law_337 (by decide) (fun c9 => ?_) (fun c9 => ?_)
    · have hF := itp c9 hF
      refine L_iload (pc := 424) h 1 rfl dL_law_424 ?_
      refine L_bipush (pc := 426) (v := 11) h (by decide) dL_law_426 ?_
      refine L_icmp_ge (pc := 428) (tgt := 531) h dL_law_428 (by decide) (fun c10 => ?_) (fun c10 => ?_)
      · have hF := itp c10 hF
        refine L_iconst (pc := 531) (v := 0) h (by decide) dL_law_531 ?_
        refine L_istore (pc := 532) (lv' := [(18, .int (0 : Int32)), (17, .int (1 : Int32)), (16, .int r7), (15, .int r5), (0, .ref (zB X.1)), (1, .ref (ad 28)), (2, .ref (ad 47)), (4, .int x4), (5, .int x5), (6, .int x6), (7, .int x7), (8, .int x8), (9, .int x9), (10, .int x10), (11, .int x11), (12, .int x12), (13, .int x13), (14, .int x14)]) h rfl (by decide) rfl dL_law_532 ?_
        refine L_iconst (pc := 534) (v := 0) h (by decide) dL_law_534 ?_
        refine L_istore (pc := 535) (lv' := [(19, .int (0 : Int32)), (18, .int (0 : Int32)), (17, .int (1 : Int32)), (16, .int r7), (15, .int r5), (0, .ref (zB X.1)), (1, .ref (ad 28)), (2, .ref (ad 47)), (4, .int x4), (5, .int x5), (6, .int x6), (7, .int x7), (8, .int x8), (9, .int x9), (10, .int x10), (11, .int x11), (12, .int x12), (13, .int x13), (14, .int x14)]) h rfl (by decide) rfl dL_law_535 ?_
        exact Lp_sub (nX := 0) (lv' := [(0, .ref (zB X.1)), (1, .ref (ad 28)), (2, .ref (ad 47)), (4, .int x4), (5, .int x5), (6, .int x6), (7, .int x7), (8, .int x8), (9, .int x9), (10, .int x10), (11, .int x11), (12, .int x12), (13, .int x13), (14, .int x14), (15, .int r5), (17, .int (1 : Int32)), (18, .int (0 : Int32)), (19, .int (0 : Int32))]) [5, 6, 7, 8, 9, 10, 11, 12, 13, 14, 15, 16, 17, 18, 4, 2, 1, 0] rfl (w9_law_537 h (hk69 := hk69) (hF := hF))
      · have hF := ifn c10 hF
        refine L_iload (pc := 431) h 10 rfl dL_law_431 ?_
        refine L_iconst (pc := 433) (v := 4) h (by decide) dL_law_433 ?_
        refine L_ishr (pc := 434) h dL_law_434 ?_
        refine L_iload (pc := 435) h 6 rfl dL_law_435 ?_
        obtain ⟨r12, hc11, hF⟩ := bd hF
        refine L_callS (pc := 437) (st := []) h [.int (x8 >>> ((4 : Int32) &&& 31)), .int x4] csL_21 (c9_part (ad := ad) (z := X.1) (M := M2) hc11) rfl rfl (by decide) (by decide) (Nat.le_of_ble_eq_true rfl) dL_law_437 (st1 := [.int r12]) rfl ?_
        refine L_istore (pc := 440) (lv' := [(18, .int r12), (17, .int (1 : Int32)), (16, .int r7), (15, .int r5), (0, .ref (zB X.1)), (1, .ref (ad 28)), (2, .ref (ad 47)), (4, .int x4), (5, .int x5), (6, .int x6), (7, .int x7), (8, .int x8), (9, .int x9), (10, .int x10), (11, .int x11), (12, .int x12), (13, .int x13), (14, .int x14)]) h rfl (by decide) rfl dL_law_440 ?_
        refine L_aload_n (pc := 442) h 5 rfl rfl dL_law_442 ?_
        refine L_iload (pc := 443) h 0 rfl dL_law_443 ?_
        obtain ⟨⟨M14, r15⟩, hc13, hF⟩ := bd hF
        refine L_callV (pc := 445) (st := []) h [.int r12] cvL_69 (c4_drop (ad := ad) (z := X.1) hc13) rfl rfl lc_28 (by decide) (by decide) (Nat.le_of_ble_eq_true rfl) dL_law_445 (st1 := [.int r15]) rfl ?_
        refine L_istore (pc := 448) (lv' := [(19, .int r15), (18, .int r12), (17, .int (1 : Int32)), (16, .int r7), (15, .int r5), (0, .ref (zB X.1)), (1, .ref (ad 28)), (2, .ref (ad 47)), (4, .int x4), (5, .int x5), (6, .int x6), (7, .int x7), (8, .int x8), (9, .int x9), (10, .int x10), (11, .int x11), (12, .int x12), (13, .int x13), (14, .int x14)]) h rfl (by decide) rfl dL_law_448 ?_
        refine L_iload (pc := 450) h 15 rfl dL_law_450 ?_
        refine L_iload (pc := 452) h 1 rfl dL_law_452 ?_
        refine L_ishr (pc := 454) h dL_law_454 ?_
        refine L_iconst (pc := 455) (v := 1) h (by decide) dL_law_455 ?_
        refine L_iand (pc := 456) h dL_law_456 ?_
        refine L_iconst (pc := 457) (v := 1) h (by decide) dL_law_457 ?_
        refine L_icmp_ne (pc := 458) (tgt := 465) h dL_law_458 (by decide) (fun c16 => ?_) (fun c16 => ?_)
        · have hF := ifn c16 hF
          refine L_iconst (pc := 465) (v := 0) h (by decide) dL_law_465 ?_
          exact Lp_sub (nX := 0) (lv' := [(0, .ref (zB X.1)), (1, .ref (ad 28)), (2, .ref (ad 47)), (4, .int x4), (5, .int x5), (6, .int x6), (7, .int x7), (8, .int x8), (9, .int x9), (10, .int x10), (11, .int x11), (12, .int x12), (13, .int x13), (14, .int x14), (15, .int r5), (18, .int r12), (19, .int r15)]) [5, 6, 7, 8, 9, 10, 11, 12, 13, 14, 15, 16, 17, 18, 4, 1, 0] rfl (w9_law_466 h (hk69 := hk69) (hF := hF))
        · have hF := itp c16 hF
          refine L_iconst (pc := 461) (v := 1) h (by decide) dL_law_461 ?_
          refine L_goto (pc := 462) (tgt := 466) h dL_law_462 (by decide) ?_
          exact Lp_sub (nX := 0) (lv' := [(0, .ref (zB X.1)), (1, .ref (ad 28)), (2, .ref (ad 47)), (4, .int x4), (5, .int x5), (6, .int x6), (7, .int x7), (8, .int x8), (9, .int x9), (10, .int x10), (11, .int x11), (12, .int x12), (13, .int x13), (14, .int x14), (15, .int r5), (18, .int r12), (19, .int r15)]) [5, 6, 7, 8, 9, 10, 11, 12, 13, 14, 15, 16, 17, 18, 4, 1, 0] rfl (w9_law_466 h (hk69 := hk69) (hF := hF))
    · have hF := ifn c9 hF
      refine L_aload_n (pc := 340) h 4 rfl rfl dL_law_340 ?_
      refine L_iload (pc := 341) h 16 rfl dL_law_341 ?_
      obtain ⟨⟨M18, r19⟩, hc17, hF⟩ := bd hF
      refine L_callV (pc := 343) (st := []) h [.int x14] cvL_59 (c4_pick (ad := ad) (z := X.1) hc17) rfl rfl lc_28 (by decide) (by decide) (Nat.le_of_ble_eq_true rfl) dL_law_343 (st1 := [.int r19]) rfl ?_
      refine L_istore (pc := 346) (lv' := [(18, .int r19), (17, .int (1 : Int32)), (16, .int r7), (15, .int r5), (0, .ref (zB X.1)), (1, .ref (ad 28)), (2, .ref (ad 47)), (4, .int x4), (5, .int x5), (6, .int x6), (7, .int x7), (8, .int x8), (9, .int x9), (10, .int x10), (11, .int x11), (12, .int x12), (13, .int x13), (14, .int x14)]) h rfl (by decide) rfl dL_law_346 ?_
      refine L_iload (pc := 348) h 3 rfl dL_law_348 ?_
      refine L_iload (pc := 350) h 13 rfl dL_law_350 ?_
      refine L_icmp_ne (pc := 352) (tgt := 359) h dL_law_352 (by decide) (fun c20 => ?_) (fun c20 => ?_)
      · have hF := ifn c20 hF
        refine L_iconst (pc := 359) (v := 0) h (by decide) dL_law_359 ?_
        exact Lp_sub (nX := 0) (lv' := [(0, .ref (zB X.1)), (1, .ref (ad 28)), (2, .ref (ad 47)), (4, .int x4), (5, .int x5), (6, .int x6), (7, .int x7), (8, .int x8), (9, .int x9), (10, .int x10), (11, .int x11), (12, .int x12), (13, .int x13), (14, .int x14), (15, .int r5), (18, .int r19)]) [4, 5, 6, 7, 8, 9, 10, 11, 12, 13, 14, 15, 16, 17, 3, 0] rfl (w9_law_360 h (hk69 := hk69) (hF := hF))
      · have hF := itp c20 hF
        refine L_iconst (pc := 355) (v := 1) h (by decide) dL_law_355 ?_
        refine L_goto (pc := 356) (tgt := 360) h dL_law_356 (by decide) ?_
        exact Lp_sub (nX := 0) (lv' := [(0, .ref (zB X.1)), (1, .ref (ad 28)), (2, .ref (ad 47)), (4, .int x4), (5, .int x5), (6, .int x6), (7, .int x7), (8, .int x8), (9, .int x9), (10, .int x10), (11, .int x11), (12, .int x12), (13, .int x13), (14, .int x14), (15, .int r5), (18, .int r19)]) [4, 5, 6, 7, 8, 9, 10, 11, 12, 13, 14, 15, 16, 17, 3, 0] rfl (w9_law_360 h (hk69 := hk69) (hF := hF))
  · have hF := ifn c8 hF
    refine L_iload (pc := 217) h 10 rfl dL_law_217 ?_
    refine L_bipush (pc := 219) (v := 12) h (by decide) dL_law_219 ?_
    refine L_ishr (pc := 221) h dL_law_221 ?_
    refine L_iconst (pc := 222) (v := 3) h (by decide) dL_law_222 ?_
    obtain ⟨r22, hc21, hF⟩ := bd hF
    refine L_callS (pc := 223) (st := []) h [.int (x8 >>> ((12 : Int32) &&& 31)), .int (3 : Int32)] csL_21 (c9_part (ad := ad) (z := X.1) (M := M2) hc21) rfl rfl (by decide) (by decide) (Nat.le_of_ble_eq_true rfl) dL_law_223 (st1 := [.int r22]) rfl ?_
    refine L_if_ne (pc := 226) (tgt := 233) h dL_law_226 (by decide) (fun c23 => ?_) (fun c23 => ?_)
    · have hF := ifn c23 hF
      refine L_iconst (pc := 233) (v := 1) h (by decide) dL_law_233 ?_
      exact Lp_sub (nX := 0) (lv' := [(0, .ref (zB X.1)), (1, .ref (ad 28)), (2, .ref (ad 47)), (4, .int x4), (5, .int x5), (6, .int x6), (7, .int x7), (8, .int x8), (9, .int x9), (10, .int x10), (11, .int x11), (12, .int x12), (13, .int x13), (14, .int x14), (15, .int r5)]) [3, 4, 5, 6, 7, 8, 9, 10, 11, 12, 13, 14, 15, 16, 2] rfl (w9_law_234 h (hk69 := hk69) (hF := hF))
    · have hF := itp c23 hF
      refine L_iconst (pc := 229) (v := (-1)) h (by decide) dL_law_229 ?_
      refine L_goto (pc := 230) (tgt := 234) h dL_law_230 (by decide) ?_
      exact Lp_sub (nX := 0) (lv' := [(0, .ref (zB X.1)), (1, .ref (ad 28)), (2, .ref (ad 47)), (4, .int x4), (5, .int x5), (6, .int x6), (7, .int x7), (8, .int x8), (9, .int x9), (10, .int x10), (11, .int x11), (12, .int x12), (13, .int x13), (14, .int x14), (15, .int r5)]) [3, 4, 5, 6, 7, 8, 9, 10, 11, 12, 13, 14, 15, 16, 2] rfl (w9_law_234 h (hk69 := hk69) (hF := hF))
def f9_law_136 (sL : Nat) (sx : Nat → Int32) (fu : Nat) (k69 : Int32 → Int32 → Int32 → Int32 → Mem → Option (Mem × Int32)) : Nat → Int32 → Int32 → Int32 → Int32 → Int32 → Int32 → Int32 → Int32 → Int32 → Int32 → Int32 → Int32 → Mem → Option (Mem × Int32)
  | 0 => fun _ _ _ _ _ _ _ _ _ _ _ _ _ => none
  | f + 1 => fun x4 x5 x6 x7 x8 x9 x10 x11 x12 x13 x14 x15 M =>
    if (8 : Int32) ≤ x15 then ((f9_law_186 sL sx fu k69 x4 x5 x6 x7 x8 x9 x10 x11 x12 x13 x14 M))
    else ((f9_part (x8 >>> ((8 : Int32) &&& 31)) (5 : Int32)).bind fun r3 =>
    if r3 ≤ 0 then ((f9_law_186 sL sx fu k69 x4 x5 x6 x7 x8 x9 x10 x11 x12 x13 x14 M))
    else ((f4_pin x14 (1 : Int32) M).bind fun ⟨M6, r7⟩ =>
    (f9_told_28 M6 r7).bind fun r9 =>
    if r9 = x10 then ((f9_law_186 sL sx fu k69 x4 x5 x6 x7 x8 x9 x10 x11 x12 x13 x14 M6))
    else ((rmI (x14 + (1 : Int32)) x4).bind fun v11 =>
    nm (x15 + (1 : Int32)) fun v12 =>
    ((f9_law_136 sL sx fu k69 f) x4 x5 x6 x7 x8 x9 x10 x11 x12 x13 v11 v12 M6))))
set_option maxHeartbeats 4000000 in
set_option maxRecDepth 10000 in
theorem w9_lawi_136 {ad : Nat → Nat} {X : XX} {R : Mem × Int32} {fu : Nat} {k69 : Int32 → Int32 → Int32 → Int32 → Mem → Option (Mem × Int32)} (h : Lx layC ad X cL_law RL 30 9 (some .boolean) (R.1) (some (.int R.2))) (hk69 : ∀ (x4 : Int32) (x5 : Int32) (x6 : Int32) (x7 : Int32) (M : Mem), k69 x4 x5 x6 x7 M = some R → Lp layC ad X M 69 [(0, .ref (zB X.1)), (1, .ref (ad 28)), (2, .ref (ad 47)), (4, .int x4), (5, .int x5), (6, .int x6), (7, .int x7)] []) : ∀ (f : Nat) (x4 : Int32) (x5 : Int32) (x6 : Int32) (x7 : Int32) (x8 : Int32) (x9 : Int32) (x10 : Int32) (x11 : Int32) (x12 : Int32) (x13 : Int32) (x14 : Int32) (x15 : Int32) (M : Mem), f9_law_136 (zL X.1) (zX X.1) fu k69 f x4 x5 x6 x7 x8 x9 x10 x11 x12 x13 x14 x15 M = some R → Lp layC ad X M 136 [(0, .ref (zB X.1)), (1, .ref (ad 28)), (2, .ref (ad 47)), (4, .int x4), (5, .int x5), (6, .int x6), (7, .int x7), (8, .int x8), (9, .int x9), (10, .int x10), (11, .int x11), (12, .int x12), (13, .int x13), (14, .int x14), (15, .int x15)] [] := by
  intro f
  induction f with
  | zero => intro x4 x5 x6 x7 x8 x9 x10 x11 x12 x13 x14 x15 M hF; exact absurd hF (by simp [f9_law_136])
  | succ f ih =>
    intro x4 x5 x6 x7 x8 x9 x10 x11 x12 x13 x14 x15 M hF
    rw [f9_law_136] at hF
    refine L_iload (pc := 136) h 14 rfl dL_law_136 ?_
    refine L_bipush (pc := 138) (v := 8) h (by decide) dL_law_138 ?_
    refine L_icmp_ge (pc := 140) (tgt := 186) h dL_law_140 (by decide) (fun c1 => ?_) (fun c1 => ?_)
    · have hF := itp c1 hF
      exact Lp_sub (nX := 0) (lv' := [(0, .ref (zB X.1)), (1, .ref (ad 28)), (2, .ref (ad 47)), (4, .int x4), (5, .int x5), (6, .int x6), (7, .int x7), (8, .int x8), (9, .int x9), (10, .int x10), (11, .int x11), (12, .int x12), (13, .int x13), (14, .int x14)]) [0, 1, 2, 3, 4, 5, 6, 7, 8, 9, 10, 11, 12, 13] rfl (w9_law_186 h (hk69 := hk69) (hF := hF))
    · have hF := ifn c1 hF
      refine L_iload (pc := 143) h 7 rfl dL_law_143 ?_
      refine L_bipush (pc := 145) (v := 8) h (by decide) dL_law_145 ?_
      refine L_ishr (pc := 147) h dL_law_147 ?_
      refine L_iconst (pc := 148) (v := 5) h (by decide) dL_law_148 ?_
      obtain ⟨r3, hc2, hF⟩ := bd hF
      refine L_callS (pc := 149) (st := []) h [.int (x8 >>> ((8 : Int32) &&& 31)), .int (5 : Int32)] csL_21 (c9_part (ad := ad) (z := X.1) (M := M) hc2) rfl rfl (by decide) (by decide) (Nat.le_of_ble_eq_true rfl) dL_law_149 (st1 := [.int r3]) rfl ?_
      refine L_if_le (pc := 152) (tgt := 186) h dL_law_152 (by decide) (fun c4 => ?_) (fun c4 => ?_)
      · have hF := itp c4 hF
        exact Lp_sub (nX := 0) (lv' := [(0, .ref (zB X.1)), (1, .ref (ad 28)), (2, .ref (ad 47)), (4, .int x4), (5, .int x5), (6, .int x6), (7, .int x7), (8, .int x8), (9, .int x9), (10, .int x10), (11, .int x11), (12, .int x12), (13, .int x13), (14, .int x14)]) [0, 1, 2, 3, 4, 5, 6, 7, 8, 9, 10, 11, 12, 13] rfl (w9_law_186 h (hk69 := hk69) (hF := hF))
      · have hF := ifn c4 hF
        refine L_aload_n (pc := 155) h 1 rfl rfl dL_law_155 ?_
        refine L_aload_n (pc := 156) h 1 rfl rfl dL_law_156 ?_
        refine L_iload (pc := 157) h 13 rfl dL_law_157 ?_
        refine L_iconst (pc := 159) (v := 1) h (by decide) dL_law_159 ?_
        obtain ⟨⟨M6, r7⟩, hc5, hF⟩ := bd hF
        refine L_callV (pc := 160) (st := [.ref (ad 28)]) h [.int x14, .int (1 : Int32)] cvL_88 (c4_pin (ad := ad) (z := X.1) hc5) rfl rfl lc_28 (by decide) (by decide) (Nat.le_of_ble_eq_true rfl) dL_law_160 (st1 := [.int r7, .ref (ad 28)]) rfl ?_
        obtain ⟨r9, hc8, hF⟩ := bd hF
        refine L_callS (pc := 163) (st := []) h [.ref (ad 28), .int r7] csL_91 (c9_told_28 (ad := ad) (z := X.1) hc8) rfl rfl (by decide) (by decide) (Nat.le_of_ble_eq_true rfl) dL_law_163 (st1 := [.int r9]) rfl ?_
        refine L_iload (pc := 166) h 9 rfl dL_law_166 ?_
        refine L_icmp_eq (pc := 168) (tgt := 186) h dL_law_168 (by decide) (fun c10 => ?_) (fun c10 => ?_)
        · have hF := itp c10 hF
          exact Lp_sub (nX := 0) (lv' := [(0, .ref (zB X.1)), (1, .ref (ad 28)), (2, .ref (ad 47)), (4, .int x4), (5, .int x5), (6, .int x6), (7, .int x7), (8, .int x8), (9, .int x9), (10, .int x10), (11, .int x11), (12, .int x12), (13, .int x13), (14, .int x14)]) [0, 1, 2, 3, 4, 5, 6, 7, 8, 9, 10, 11, 12, 13] rfl (w9_law_186 h (hk69 := hk69) (hF := hF))
        · have hF := ifn c10 hF
          refine L_iload (pc := 171) h 13 rfl dL_law_171 ?_
          refine L_iconst (pc := 173) (v := 1) h (by decide) dL_law_173 ?_
          refine L_iadd (pc := 174) h dL_law_174 ?_
          refine L_iload (pc := 175) h 3 rfl dL_law_175 ?_
          obtain ⟨v11, hv11, hF⟩ := bd hF
          refine L_irem (pc := 177) h hv11 dL_law_177 ?_
          refine L_istore (pc := 178) (lv' := [(14, .int v11), (0, .ref (zB X.1)), (1, .ref (ad 28)), (2, .ref (ad 47)), (4, .int x4), (5, .int x5), (6, .int x6), (7, .int x7), (8, .int x8), (9, .int x9), (10, .int x10), (11, .int x11), (12, .int x12), (13, .int x13), (15, .int x15)]) h rfl (by decide) rfl dL_law_178 ?_
          obtain ⟨v12, hv12, hF⟩ := nm_e2 hF
          refine L_iinc (pc := 180) (lv' := [(15, .int v12), (14, .int v11), (0, .ref (zB X.1)), (1, .ref (ad 28)), (2, .ref (ad 47)), (4, .int x4), (5, .int x5), (6, .int x6), (7, .int x7), (8, .int x8), (9, .int x9), (10, .int x10), (11, .int x11), (12, .int x12), (13, .int x13)]) h 14 rfl (by decide) hv12 (by decide) rfl dL_law_180 ?_
          refine L_goto (pc := 183) (tgt := 136) h dL_law_183 (by decide) ?_
          exact Lp_sub (nX := 0) (lv' := [(0, .ref (zB X.1)), (1, .ref (ad 28)), (2, .ref (ad 47)), (4, .int x4), (5, .int x5), (6, .int x6), (7, .int x7), (8, .int x8), (9, .int x9), (10, .int x10), (11, .int x11), (12, .int x12), (13, .int x13), (14, .int v11), (15, .int v12)]) [2, 3, 4, 5, 6, 7, 8, 9, 10, 11, 12, 13, 14, 1, 0] rfl (ih _ _ _ _ _ _ _ _ _ _ _ _ _ hF)
theorem w9_law_136 {ad : Nat → Nat} {X : XX} {R : Mem × Int32} {fu : Nat} {k69 : Int32 → Int32 → Int32 → Int32 → Mem → Option (Mem × Int32)} (h : Lx layC ad X cL_law RL 30 9 (some .boolean) (R.1) (some (.int R.2))) (hk69 : ∀ (x4 : Int32) (x5 : Int32) (x6 : Int32) (x7 : Int32) (M : Mem), k69 x4 x5 x6 x7 M = some R → Lp layC ad X M 69 [(0, .ref (zB X.1)), (1, .ref (ad 28)), (2, .ref (ad 47)), (4, .int x4), (5, .int x5), (6, .int x6), (7, .int x7)] []) {f : Nat} {x4 : Int32} {x5 : Int32} {x6 : Int32} {x7 : Int32} {x8 : Int32} {x9 : Int32} {x10 : Int32} {x11 : Int32} {x12 : Int32} {x13 : Int32} {x14 : Int32} {x15 : Int32} {M : Mem} (hF : f9_law_136 (zL X.1) (zX X.1) fu k69 f x4 x5 x6 x7 x8 x9 x10 x11 x12 x13 x14 x15 M = some R) : Lp layC ad X M 136 [(0, .ref (zB X.1)), (1, .ref (ad 28)), (2, .ref (ad 47)), (4, .int x4), (5, .int x5), (6, .int x6), (7, .int x7), (8, .int x8), (9, .int x9), (10, .int x10), (11, .int x11), (12, .int x12), (13, .int x13), (14, .int x14), (15, .int x15)] [] := w9_lawi_136 h hk69 f _ _ _ _ _ _ _ _ _ _ _ _ _ hF
def f9_law_1599 (sL : Nat) (sx : Nat → Int32) (fu : Nat) (k1500 : Int32 → Int32 → Int32 → Int32 → Int32 → Int32 → Int32 → Int32 → Int32 → Int32 → Int32 → Mem → Option (Mem × Int32)) (x4 : Int32) (x5 : Int32) (x7 : Int32) (x8 : Int32) (x9 : Int32) (x10 : Int32) (x11 : Int32) (x15 : Int32) (x16 : Int32) (x18 : Int32) (x19 : Int32) (x22 : Int32) (M : Mem) : Option (Mem × Int32) :=
    if ((x16 >>> (x19 &&& 31)) &&& (1 : Int32)) = (1 : Int32) then (if (1 : Int32) ≤ x22 then (nm (x19 + (1 : Int32)) fun v3 =>
    (k1500 x4 x5 x7 x8 x9 x10 x11 x15 x16 x18 v3 M))
    else ((some (M, (0 : Int32)))))
    else (nm (x19 + (1 : Int32)) fun v4 =>
    (k1500 x4 x5 x7 x8 x9 x10 x11 x15 x16 x18 v4 M))
set_option maxHeartbeats 4000000 in
set_option maxRecDepth 10000 in
theorem w9_law_1599 {ad : Nat → Nat} {X : XX} {R : Mem × Int32} {fu : Nat} {k1500 : Int32 → Int32 → Int32 → Int32 → Int32 → Int32 → Int32 → Int32 → Int32 → Int32 → Int32 → Mem → Option (Mem × Int32)} (h : Lx layC ad X cL_law RL 30 9 (some .boolean) (R.1) (some (.int R.2))) (hk1500 : ∀ (x4 : Int32) (x5 : Int32) (x7 : Int32) (x8 : Int32) (x9 : Int32) (x10 : Int32) (x11 : Int32) (x15 : Int32) (x16 : Int32) (x18 : Int32) (x19 : Int32) (M : Mem), k1500 x4 x5 x7 x8 x9 x10 x11 x15 x16 x18 x19 M = some R → Lp layC ad X M 1500 [(0, .ref (zB X.1)), (1, .ref (ad 28)), (2, .ref (ad 47)), (4, .int x4), (5, .int x5), (7, .int x7), (8, .int x8), (9, .int x9), (10, .int x10), (11, .int x11), (15, .int x15), (16, .int x16), (18, .int x18), (19, .int x19)] []) {x4 : Int32} {x5 : Int32} {x7 : Int32} {x8 : Int32} {x9 : Int32} {x10 : Int32} {x11 : Int32} {x15 : Int32} {x16 : Int32} {x18 : Int32} {x19 : Int32} {x22 : Int32} {M : Mem} (hF : f9_law_1599 (zL X.1) (zX X.1) fu k1500 x4 x5 x7 x8 x9 x10 x11 x15 x16 x18 x19 x22 M = some R) : Lp layC ad X M 1599 [(0, .ref (zB X.1)), (1, .ref (ad 28)), (2, .ref (ad 47)), (4, .int x4), (5, .int x5), (7, .int x7), (8, .int x8), (9, .int x9), (10, .int x10), (11, .int x11), (15, .int x15), (16, .int x16), (18, .int x18), (19, .int x19), (22, .int x22)] [] := by
  unfold f9_law_1599 at hF
  refine L_iload (pc := 1599) h 11 rfl dL_law_1599 ?_
  refine L_iload (pc := 1601) h 13 rfl dL_law_1601 ?_
  refine L_ishr (pc := 1603) h dL_law_1603 ?_
  refine L_iconst (pc := 1604) (v := 1) h (by decide) dL_law_1604 ?_
  refine L_iand (pc := 1605) h dL_law_1605 ?_
  refine L_iconst (pc := 1606) (v := 1) h (by decide) dL_law_1606 ?_
  refine L_icmp_ne (pc := 1607) (tgt := 1618) h dL_law_1607 (by decide) (fun c1 => ?_) (fun c1 => ?_)
  · have hF := ifn c1 hF
    obtain ⟨v4, hv4, hF⟩ := nm_e2 hF
    refine L_iinc (pc := 1618) (lv' := [(19, .int v4), (0, .ref (zB X.1)), (1, .ref (ad 28)), (2, .ref (ad 47)), (4, .int x4), (5, .int x5), (7, .int x7), (8, .int x8), (9, .int x9), (10, .int x10), (11, .int x11), (15, .int x15), (16, .int x16), (18, .int x18), (22, .int x22)]) h 13 rfl (by decide) hv4 (by decide) rfl dL_law_1618 ?_
    refine L_goto (pc := 1621) (tgt := 1500) h dL_law_1621 (by decide) ?_
    exact Lp_sub (nX := 0) (lv' := [(0, .ref (zB X.1)), (1, .ref (ad 28)), (2, .ref (ad 47)), (4, .int x4), (5, .int x5), (7, .int x7), (8, .int x8), (9, .int x9), (10, .int x10), (11, .int x11), (15, .int x15), (16, .int x16), (18, .int x18), (19, .int v4)]) [1, 2, 3, 4, 5, 6, 7, 8, 9, 10, 11, 12, 13, 0] rfl (hk1500 _ _ _ _ _ _ _ _ _ _ _ _ hF)
  · have hF := itp c1 hF
    refine L_iload (pc := 1610) h 14 rfl dL_law_1610 ?_
    refine L_iconst (pc := 1612) (v := 1) h (by decide) dL_law_1612 ?_
    refine L_icmp_ge (pc := 1613) (tgt := 1618) h dL_law_1613 (by decide) (fun c2 => ?_) (fun c2 => ?_)
    · have hF := itp c2 hF
      obtain ⟨v3, hv3, hF⟩ := nm_e2 hF
      refine L_iinc (pc := 1618) (lv' := [(19, .int v3), (0, .ref (zB X.1)), (1, .ref (ad 28)), (2, .ref (ad 47)), (4, .int x4), (5, .int x5), (7, .int x7), (8, .int x8), (9, .int x9), (10, .int x10), (11, .int x11), (15, .int x15), (16, .int x16), (18, .int x18), (22, .int x22)]) h 13 rfl (by decide) hv3 (by decide) rfl dL_law_1618 ?_
      refine L_goto (pc := 1621) (tgt := 1500) h dL_law_1621 (by decide) ?_
      exact Lp_sub (nX := 0) (lv' := [(0, .ref (zB X.1)), (1, .ref (ad 28)), (2, .ref (ad 47)), (4, .int x4), (5, .int x5), (7, .int x7), (8, .int x8), (9, .int x9), (10, .int x10), (11, .int x11), (15, .int x15), (16, .int x16), (18, .int x18), (19, .int v3)]) [1, 2, 3, 4, 5, 6, 7, 8, 9, 10, 11, 12, 13, 0] rfl (hk1500 _ _ _ _ _ _ _ _ _ _ _ _ hF)
    · have hF := ifn c2 hF
      refine L_iconst (pc := 1616) (v := 0) h (by decide) dL_law_1616 ?_
      cases hF
      exact L_zreturn (pc := 1617) h rfl zr0 rfl rfl dL_law_1617
def f9_law_1534 (sL : Nat) (sx : Nat → Int32) (fu : Nat) (k1500 : Int32 → Int32 → Int32 → Int32 → Int32 → Int32 → Int32 → Int32 → Int32 → Int32 → Int32 → Mem → Option (Mem × Int32)) (x4 : Int32) (x5 : Int32) (x7 : Int32) (x8 : Int32) (x9 : Int32) (x10 : Int32) (x11 : Int32) (x15 : Int32) (x16 : Int32) (x18 : Int32) (x19 : Int32) (s0 : Int32) (M : Mem) : Option (Mem × Int32) :=
    (f4_pin x19 (2 : Int32) M).bind fun ⟨M2, r3⟩ =>
    (f9_told_28 M2 r3).bind fun r5 =>
    (f4_pin x19 (5 : Int32) M2).bind fun ⟨M7, r8⟩ =>
    (f9_told_28 M7 r8).bind fun r10 =>
    if s0 = 0 then ((f9_law_1599 sL sx fu k1500 x4 x5 x7 x8 x9 x10 x11 x15 x16 x18 x19 r10 M7))
    else (if x15 < r10 then ((some (M7, (0 : Int32))))
    else (if ((x16 >>> (x19 &&& 31)) &&& (1 : Int32)) = 0 then (if (r5 &&& x18) = 0 then (if r10 ≤ 0 then ((f9_law_1599 sL sx fu k1500 x4 x5 x7 x8 x9 x10 x11 x15 x16 x18 x19 r10 M7))
    else ((some (M7, (0 : Int32)))))
    else ((f9_law_1599 sL sx fu k1500 x4 x5 x7 x8 x9 x10 x11 x15 x16 x18 x19 r10 M7)))
    else ((f9_law_1599 sL sx fu k1500 x4 x5 x7 x8 x9 x10 x11 x15 x16 x18 x19 r10 M7))))
set_option maxHeartbeats 4000000 in
set_option maxRecDepth 10000 in
theorem w9_law_1534 {ad : Nat → Nat} {X : XX} {R : Mem × Int32} {fu : Nat} {k1500 : Int32 → Int32 → Int32 → Int32 → Int32 → Int32 → Int32 → Int32 → Int32 → Int32 → Int32 → Mem → Option (Mem × Int32)} (h : Lx layC ad X cL_law RL 30 9 (some .boolean) (R.1) (some (.int R.2))) (hk1500 : ∀ (x4 : Int32) (x5 : Int32) (x7 : Int32) (x8 : Int32) (x9 : Int32) (x10 : Int32) (x11 : Int32) (x15 : Int32) (x16 : Int32) (x18 : Int32) (x19 : Int32) (M : Mem), k1500 x4 x5 x7 x8 x9 x10 x11 x15 x16 x18 x19 M = some R → Lp layC ad X M 1500 [(0, .ref (zB X.1)), (1, .ref (ad 28)), (2, .ref (ad 47)), (4, .int x4), (5, .int x5), (7, .int x7), (8, .int x8), (9, .int x9), (10, .int x10), (11, .int x11), (15, .int x15), (16, .int x16), (18, .int x18), (19, .int x19)] []) {x4 : Int32} {x5 : Int32} {x7 : Int32} {x8 : Int32} {x9 : Int32} {x10 : Int32} {x11 : Int32} {x15 : Int32} {x16 : Int32} {x18 : Int32} {x19 : Int32} {s0 : Int32} {M : Mem} (hF : f9_law_1534 (zL X.1) (zX X.1) fu k1500 x4 x5 x7 x8 x9 x10 x11 x15 x16 x18 x19 s0 M = some R) : Lp layC ad X M 1534 [(0, .ref (zB X.1)), (1, .ref (ad 28)), (2, .ref (ad 47)), (4, .int x4), (5, .int x5), (7, .int x7), (8, .int x8), (9, .int x9), (10, .int x10), (11, .int x11), (15, .int x15), (16, .int x16), (18, .int x18), (19, .int x19)] [.int s0] := by
  unfold f9_law_1534 at hF
  refine L_istore (pc := 1534) (lv' := [(20, .int s0), (0, .ref (zB X.1)), (1, .ref (ad 28)), (2, .ref (ad 47)), (4, .int x4), (5, .int x5), (7, .int x7), (8, .int x8), (9, .int x9), (10, .int x10), (11, .int x11), (15, .int x15), (16, .int x16), (18, .int x18), (19, .int x19)]) h rfl (by decide) rfl dL_law_1534 ?_
  refine L_aload_n (pc := 1536) h 2 rfl rfl dL_law_1536 ?_
  refine L_aload_n (pc := 1537) h 2 rfl rfl dL_law_1537 ?_
  refine L_iload (pc := 1538) h 14 rfl dL_law_1538 ?_
  refine L_iconst (pc := 1540) (v := 2) h (by decide) dL_law_1540 ?_
  obtain ⟨⟨M2, r3⟩, hc1, hF⟩ := bd hF
  refine L_callV (pc := 1541) (st := [.ref (ad 28)]) h [.int x19, .int (2 : Int32)] cvL_88 (c4_pin (ad := ad) (z := X.1) hc1) rfl rfl lc_28 (by decide) (by decide) (Nat.le_of_ble_eq_true rfl) dL_law_1541 (st1 := [.int r3, .ref (ad 28)]) rfl ?_
  obtain ⟨r5, hc4, hF⟩ := bd hF
  refine L_callS (pc := 1544) (st := []) h [.ref (ad 28), .int r3] csL_91 (c9_told_28 (ad := ad) (z := X.1) hc4) rfl rfl (by decide) (by decide) (Nat.le_of_ble_eq_true rfl) dL_law_1544 (st1 := [.int r5]) rfl ?_
  refine L_istore (pc := 1547) (lv' := [(21, .int r5), (20, .int s0), (0, .ref (zB X.1)), (1, .ref (ad 28)), (2, .ref (ad 47)), (4, .int x4), (5, .int x5), (7, .int x7), (8, .int x8), (9, .int x9), (10, .int x10), (11, .int x11), (15, .int x15), (16, .int x16), (18, .int x18), (19, .int x19)]) h rfl (by decide) rfl dL_law_1547 ?_
  refine L_aload_n (pc := 1549) h 3 rfl rfl dL_law_1549 ?_
  refine L_aload_n (pc := 1550) h 3 rfl rfl dL_law_1550 ?_
  refine L_iload (pc := 1551) h 15 rfl dL_law_1551 ?_
  refine L_iconst (pc := 1553) (v := 5) h (by decide) dL_law_1553 ?_
  obtain ⟨⟨M7, r8⟩, hc6, hF⟩ := bd hF
  refine L_callV (pc := 1554) (st := [.ref (ad 28)]) h [.int x19, .int (5 : Int32)] cvL_88 (c4_pin (ad := ad) (z := X.1) hc6) rfl rfl lc_28 (by decide) (by decide) (Nat.le_of_ble_eq_true rfl) dL_law_1554 (st1 := [.int r8, .ref (ad 28)]) rfl ?_
  obtain ⟨r10, hc9, hF⟩ := bd hF
  refine L_callS (pc := 1557) (st := []) h [.ref (ad 28), .int r8] csL_91 (c9_told_28 (ad := ad) (z := X.1) hc9) rfl rfl (by decide) (by decide) (Nat.le_of_ble_eq_true rfl) dL_law_1557 (st1 := [.int r10]) rfl ?_
  refine L_istore (pc := 1560) (lv' := [(22, .int r10), (21, .int r5), (20, .int s0), (0, .ref (zB X.1)), (1, .ref (ad 28)), (2, .ref (ad 47)), (4, .int x4), (5, .int x5), (7, .int x7), (8, .int x8), (9, .int x9), (10, .int x10), (11, .int x11), (15, .int x15), (16, .int x16), (18, .int x18), (19, .int x19)]) h rfl (by decide) rfl dL_law_1560 ?_
  refine L_iload (pc := 1562) h 2 rfl dL_law_1562 ?_
  refine L_if_eq (pc := 1564) (tgt := 1599) h dL_law_1564 (by decide) (fun c11 => ?_) (fun c11 => ?_)
  · have hF := itp c11 hF
    exact Lp_sub (nX := 0) (lv' := [(0, .ref (zB X.1)), (1, .ref (ad 28)), (2, .ref (ad 47)), (4, .int x4), (5, .int x5), (7, .int x7), (8, .int x8), (9, .int x9), (10, .int x10), (11, .int x11), (15, .int x15), (16, .int x16), (18, .int x18), (19, .int x19), (22, .int r10)]) [3, 4, 5, 6, 7, 8, 9, 10, 11, 12, 13, 14, 15, 16, 0] rfl (w9_law_1599 h (hk1500 := hk1500) (hF := hF))
  · have hF := ifn c11 hF
    refine L_iload (pc := 1567) h 0 rfl dL_law_1567 ?_
    refine L_iload (pc := 1569) h 13 rfl dL_law_1569 ?_
    refine L_icmp_gt (pc := 1571) (tgt := 1597) h dL_law_1571 (by decide) (fun c12 => ?_) (fun c12 => ?_)
    · have hF := itp c12 hF
      refine L_iconst (pc := 1597) (v := 0) h (by decide) dL_law_1597 ?_
      cases hF
      exact L_zreturn (pc := 1598) h rfl zr0 rfl rfl dL_law_1598
    · have hF := ifn c12 hF
      refine L_iload (pc := 1574) h 14 rfl dL_law_1574 ?_
      refine L_iload (pc := 1576) h 16 rfl dL_law_1576 ?_
      refine L_ishr (pc := 1578) h dL_law_1578 ?_
      refine L_iconst (pc := 1579) (v := 1) h (by decide) dL_law_1579 ?_
      refine L_iand (pc := 1580) h dL_law_1580 ?_
      refine L_if_ne (pc := 1581) (tgt := 1599) h dL_law_1581 (by decide) (fun c13 => ?_) (fun c13 => ?_)
      · have hF := ifn c13 hF
        exact Lp_sub (nX := 0) (lv' := [(0, .ref (zB X.1)), (1, .ref (ad 28)), (2, .ref (ad 47)), (4, .int x4), (5, .int x5), (7, .int x7), (8, .int x8), (9, .int x9), (10, .int x10), (11, .int x11), (15, .int x15), (16, .int x16), (18, .int x18), (19, .int x19), (22, .int r10)]) [3, 4, 5, 6, 7, 8, 9, 10, 11, 12, 13, 14, 15, 16, 0] rfl (w9_law_1599 h (hk1500 := hk1500) (hF := hF))
      · have hF := itp c13 hF
        refine L_iload (pc := 1584) h 1 rfl dL_law_1584 ?_
        refine L_iload (pc := 1586) h 15 rfl dL_law_1586 ?_
        refine L_iand (pc := 1588) h dL_law_1588 ?_
        refine L_if_ne (pc := 1589) (tgt := 1599) h dL_law_1589 (by decide) (fun c14 => ?_) (fun c14 => ?_)
        · have hF := ifn c14 hF
          exact Lp_sub (nX := 0) (lv' := [(0, .ref (zB X.1)), (1, .ref (ad 28)), (2, .ref (ad 47)), (4, .int x4), (5, .int x5), (7, .int x7), (8, .int x8), (9, .int x9), (10, .int x10), (11, .int x11), (15, .int x15), (16, .int x16), (18, .int x18), (19, .int x19), (22, .int r10)]) [3, 4, 5, 6, 7, 8, 9, 10, 11, 12, 13, 14, 15, 16, 0] rfl (w9_law_1599 h (hk1500 := hk1500) (hF := hF))
        · have hF := itp c14 hF
          refine L_iload (pc := 1592) h 0 rfl dL_law_1592 ?_
          refine L_if_le (pc := 1594) (tgt := 1599) h dL_law_1594 (by decide) (fun c15 => ?_) (fun c15 => ?_)
          · have hF := itp c15 hF
            exact Lp_sub (nX := 0) (lv' := [(0, .ref (zB X.1)), (1, .ref (ad 28)), (2, .ref (ad 47)), (4, .int x4), (5, .int x5), (7, .int x7), (8, .int x8), (9, .int x9), (10, .int x10), (11, .int x11), (15, .int x15), (16, .int x16), (18, .int x18), (19, .int x19), (22, .int r10)]) [3, 4, 5, 6, 7, 8, 9, 10, 11, 12, 13, 14, 15, 16, 0] rfl (w9_law_1599 h (hk1500 := hk1500) (hF := hF))
          · have hF := ifn c15 hF
            refine L_iconst (pc := 1597) (v := 0) h (by decide) dL_law_1597 ?_
            cases hF
            exact L_zreturn (pc := 1598) h rfl zr0 rfl rfl dL_law_1598
def f9_law_1730 (sL : Nat) (sx : Nat → Int32) (fu : Nat) (k1630 : Int32 → Int32 → Int32 → Int32 → Int32 → Int32 → Int32 → Int32 → Int32 → Int32 → Mem → Option (Mem × Int32)) : Nat → Int32 → Int32 → Int32 → Int32 → Int32 → Int32 → Int32 → Int32 → Int32 → Int32 → Int32 → Int32 → Int32 → Int32 → Mem → Option (Mem × Int32)
  | 0 => fun _ _ _ _ _ _ _ _ _ _ _ _ _ _ _ => none
  | f + 1 => fun x4 x5 x7 x8 x9 x10 x11 x15 x20 x21 x22 x23 x25 x26 M =>
    if x4 ≤ x26 then (if x23 = x21 then (nm (x20 + (1 : Int32)) fun v3 =>
    (k1630 x4 x5 x7 x8 x9 x10 x11 x15 x21 v3 M))
    else ((some (M, (0 : Int32)))))
    else (if ((x22 >>> (x26 &&& 31)) &&& (1 : Int32)) = 0 then (nm (x26 + (1 : Int32)) fun v5 =>
    ((f9_law_1730 sL sx fu k1630 f) x4 x5 x7 x8 x9 x10 x11 x15 x20 x21 x22 x23 x25 v5 M))
    else ((f4_pin x26 (2 : Int32) M).bind fun ⟨M7, r8⟩ =>
    (f9_told_28 M7 r8).bind fun r10 =>
    if (r10 &&& x25) = 0 then (nm (x25 ||| r10) fun v12 =>
    (f4_pin x26 (5 : Int32) M7).bind fun ⟨M14, r15⟩ =>
    (f9_told_28 M14 r15).bind fun r17 =>
    nm (x23 + r17) fun v18 =>
    nm (x26 + (1 : Int32)) fun v19 =>
    ((f9_law_1730 sL sx fu k1630 f) x4 x5 x7 x8 x9 x10 x11 x15 x20 x21 x22 v18 v12 v19 M14))
    else ((some (M7, (0 : Int32))))))
set_option maxHeartbeats 4000000 in
set_option maxRecDepth 10000 in
theorem w9_lawi_1730 {ad : Nat → Nat} {X : XX} {R : Mem × Int32} {fu : Nat} {k1630 : Int32 → Int32 → Int32 → Int32 → Int32 → Int32 → Int32 → Int32 → Int32 → Int32 → Mem → Option (Mem × Int32)} (h : Lx layC ad X cL_law RL 30 9 (some .boolean) (R.1) (some (.int R.2))) (hk1630 : ∀ (x4 : Int32) (x5 : Int32) (x7 : Int32) (x8 : Int32) (x9 : Int32) (x10 : Int32) (x11 : Int32) (x15 : Int32) (x19 : Int32) (x20 : Int32) (M : Mem), k1630 x4 x5 x7 x8 x9 x10 x11 x15 x19 x20 M = some R → Lp layC ad X M 1630 [(0, .ref (zB X.1)), (1, .ref (ad 28)), (2, .ref (ad 47)), (4, .int x4), (5, .int x5), (7, .int x7), (8, .int x8), (9, .int x9), (10, .int x10), (11, .int x11), (15, .int x15), (19, .int x19), (20, .int x20)] []) : ∀ (f : Nat) (x4 : Int32) (x5 : Int32) (x7 : Int32) (x8 : Int32) (x9 : Int32) (x10 : Int32) (x11 : Int32) (x15 : Int32) (x20 : Int32) (x21 : Int32) (x22 : Int32) (x23 : Int32) (x25 : Int32) (x26 : Int32) (M : Mem), f9_law_1730 (zL X.1) (zX X.1) fu k1630 f x4 x5 x7 x8 x9 x10 x11 x15 x20 x21 x22 x23 x25 x26 M = some R → Lp layC ad X M 1730 [(0, .ref (zB X.1)), (1, .ref (ad 28)), (2, .ref (ad 47)), (4, .int x4), (5, .int x5), (7, .int x7), (8, .int x8), (9, .int x9), (10, .int x10), (11, .int x11), (15, .int x15), (20, .int x20), (21, .int x21), (22, .int x22), (23, .int x23), (25, .int x25), (26, .int x26)] [] := by
  intro f
  induction f with
  | zero => intro x4 x5 x7 x8 x9 x10 x11 x15 x20 x21 x22 x23 x25 x26 M hF; exact absurd hF (by simp [f9_law_1730])
  | succ f ih =>
    intro x4 x5 x7 x8 x9 x10 x11 x15 x20 x21 x22 x23 x25 x26 M hF
    rw [f9_law_1730] at hF
    refine L_iload (pc := 1730) h 16 rfl dL_law_1730 ?_
    refine L_iload (pc := 1732) h 3 rfl dL_law_1732 ?_
    refine L_icmp_ge (pc := 1734) (tgt := 1802) h dL_law_1734 (by decide) (fun c1 => ?_) (fun c1 => ?_)
    · have hF := itp c1 hF
      refine L_iload (pc := 1802) h 14 rfl dL_law_1802 ?_
      refine L_iload (pc := 1804) h 12 rfl dL_law_1804 ?_
      refine L_icmp_eq (pc := 1806) (tgt := 1811) h dL_law_1806 (by decide) (fun c2 => ?_) (fun c2 => ?_)
      · have hF := itp c2 hF
        refine L_iload (pc := 1811) h 12 rfl dL_law_1811 ?_
        refine L_istore (pc := 1813) (lv' := [(19, .int x21), (0, .ref (zB X.1)), (1, .ref (ad 28)), (2, .ref (ad 47)), (4, .int x4), (5, .int x5), (7, .int x7), (8, .int x8), (9, .int x9), (10, .int x10), (11, .int x11), (15, .int x15), (20, .int x20), (21, .int x21), (22, .int x22), (23, .int x23), (25, .int x25), (26, .int x26)]) h rfl (by decide) rfl dL_law_1813 ?_
        obtain ⟨v3, hv3, hF⟩ := nm_e2 hF
        refine L_iinc (pc := 1815) (lv' := [(20, .int v3), (19, .int x21), (0, .ref (zB X.1)), (1, .ref (ad 28)), (2, .ref (ad 47)), (4, .int x4), (5, .int x5), (7, .int x7), (8, .int x8), (9, .int x9), (10, .int x10), (11, .int x11), (15, .int x15), (21, .int x21), (22, .int x22), (23, .int x23), (25, .int x25), (26, .int x26)]) h 12 rfl (by decide) hv3 (by decide) rfl dL_law_1815 ?_
        refine L_goto (pc := 1818) (tgt := 1630) h dL_law_1818 (by decide) ?_
        exact Lp_sub (nX := 0) (lv' := [(0, .ref (zB X.1)), (1, .ref (ad 28)), (2, .ref (ad 47)), (4, .int x4), (5, .int x5), (7, .int x7), (8, .int x8), (9, .int x9), (10, .int x10), (11, .int x11), (15, .int x15), (19, .int x21), (20, .int v3)]) [2, 3, 4, 5, 6, 7, 8, 9, 10, 11, 12, 1, 0] rfl (hk1630 _ _ _ _ _ _ _ _ _ _ _ hF)
      · have hF := ifn c2 hF
        refine L_iconst (pc := 1809) (v := 0) h (by decide) dL_law_1809 ?_
        cases hF
        exact L_zreturn (pc := 1810) h rfl zr0 rfl rfl dL_law_1810
    · have hF := ifn c1 hF
      refine L_iload (pc := 1737) h 13 rfl dL_law_1737 ?_
      refine L_iload (pc := 1739) h 16 rfl dL_law_1739 ?_
      refine L_ishr (pc := 1741) h dL_law_1741 ?_
      refine L_iconst (pc := 1742) (v := 1) h (by decide) dL_law_1742 ?_
      refine L_iand (pc := 1743) h dL_law_1743 ?_
      refine L_if_ne (pc := 1744) (tgt := 1750) h dL_law_1744 (by decide) (fun c4 => ?_) (fun c4 => ?_)
      · have hF := ifn c4 hF
        refine L_aload_n (pc := 1750) h 1 rfl rfl dL_law_1750 ?_
        refine L_aload_n (pc := 1751) h 1 rfl rfl dL_law_1751 ?_
        refine L_iload (pc := 1752) h 16 rfl dL_law_1752 ?_
        refine L_iconst (pc := 1754) (v := 2) h (by decide) dL_law_1754 ?_
        obtain ⟨⟨M7, r8⟩, hc6, hF⟩ := bd hF
        refine L_callV (pc := 1755) (st := [.ref (ad 28)]) h [.int x26, .int (2 : Int32)] cvL_88 (c4_pin (ad := ad) (z := X.1) hc6) rfl rfl lc_28 (by decide) (by decide) (Nat.le_of_ble_eq_true rfl) dL_law_1755 (st1 := [.int r8, .ref (ad 28)]) rfl ?_
        obtain ⟨r10, hc9, hF⟩ := bd hF
        refine L_callS (pc := 1758) (st := []) h [.ref (ad 28), .int r8] csL_91 (c9_told_28 (ad := ad) (z := X.1) hc9) rfl rfl (by decide) (by decide) (Nat.le_of_ble_eq_true rfl) dL_law_1758 (st1 := [.int r10]) rfl ?_
        refine L_istore (pc := 1761) (lv' := [(27, .int r10), (0, .ref (zB X.1)), (1, .ref (ad 28)), (2, .ref (ad 47)), (4, .int x4), (5, .int x5), (7, .int x7), (8, .int x8), (9, .int x9), (10, .int x10), (11, .int x11), (15, .int x15), (20, .int x20), (21, .int x21), (22, .int x22), (23, .int x23), (25, .int x25), (26, .int x26)]) h rfl (by decide) rfl dL_law_1761 ?_
        refine L_iload (pc := 1763) h 0 rfl dL_law_1763 ?_
        refine L_iload (pc := 1765) h 16 rfl dL_law_1765 ?_
        refine L_iand (pc := 1767) h dL_law_1767 ?_
        refine L_if_eq (pc := 1768) (tgt := 1773) h dL_law_1768 (by decide) (fun c11 => ?_) (fun c11 => ?_)
        · have hF := itp c11 hF
          refine L_iload (pc := 1773) h 16 rfl dL_law_1773 ?_
          refine L_iload (pc := 1775) h 0 rfl dL_law_1775 ?_
          refine L_ior (pc := 1777) h dL_law_1777 ?_
          obtain ⟨v12, hv12, hF⟩ := nm_e2 hF
          refine L_istore (pc := 1778) (lv' := [(25, .int v12), (27, .int r10), (0, .ref (zB X.1)), (1, .ref (ad 28)), (2, .ref (ad 47)), (4, .int x4), (5, .int x5), (7, .int x7), (8, .int x8), (9, .int x9), (10, .int x10), (11, .int x11), (15, .int x15), (20, .int x20), (21, .int x21), (22, .int x22), (23, .int x23), (26, .int x26)]) h hv12 (by decide) rfl dL_law_1778 ?_
          refine L_iload (pc := 1780) h 16 rfl dL_law_1780 ?_
          refine L_aload_n (pc := 1782) h 3 rfl rfl dL_law_1782 ?_
          refine L_aload_n (pc := 1783) h 3 rfl rfl dL_law_1783 ?_
          refine L_iload (pc := 1784) h 17 rfl dL_law_1784 ?_
          refine L_iconst (pc := 1786) (v := 5) h (by decide) dL_law_1786 ?_
          obtain ⟨⟨M14, r15⟩, hc13, hF⟩ := bd hF
          refine L_callV (pc := 1787) (st := [.ref (ad 28), .int x23]) h [.int x26, .int (5 : Int32)] cvL_88 (c4_pin (ad := ad) (z := X.1) hc13) rfl rfl lc_28 (by decide) (by decide) (Nat.le_of_ble_eq_true rfl) dL_law_1787 (st1 := [.int r15, .ref (ad 28), .int x23]) rfl ?_
          obtain ⟨r17, hc16, hF⟩ := bd hF
          refine L_callS (pc := 1790) (st := [.int x23]) h [.ref (ad 28), .int r15] csL_91 (c9_told_28 (ad := ad) (z := X.1) hc16) rfl rfl (by decide) (by decide) (Nat.le_of_ble_eq_true rfl) dL_law_1790 (st1 := [.int r17, .int x23]) rfl ?_
          refine L_iadd (pc := 1793) h dL_law_1793 ?_
          obtain ⟨v18, hv18, hF⟩ := nm_e2 hF
          refine L_istore (pc := 1794) (lv' := [(23, .int v18), (25, .int v12), (27, .int r10), (0, .ref (zB X.1)), (1, .ref (ad 28)), (2, .ref (ad 47)), (4, .int x4), (5, .int x5), (7, .int x7), (8, .int x8), (9, .int x9), (10, .int x10), (11, .int x11), (15, .int x15), (20, .int x20), (21, .int x21), (22, .int x22), (26, .int x26)]) h hv18 (by decide) rfl dL_law_1794 ?_
          obtain ⟨v19, hv19, hF⟩ := nm_e2 hF
          refine L_iinc (pc := 1796) (lv' := [(26, .int v19), (23, .int v18), (25, .int v12), (27, .int r10), (0, .ref (zB X.1)), (1, .ref (ad 28)), (2, .ref (ad 47)), (4, .int x4), (5, .int x5), (7, .int x7), (8, .int x8), (9, .int x9), (10, .int x10), (11, .int x11), (15, .int x15), (20, .int x20), (21, .int x21), (22, .int x22)]) h 17 rfl (by decide) hv19 (by decide) rfl dL_law_1796 ?_
          refine L_goto (pc := 1799) (tgt := 1730) h dL_law_1799 (by decide) ?_
          exact Lp_sub (nX := 0) (lv' := [(0, .ref (zB X.1)), (1, .ref (ad 28)), (2, .ref (ad 47)), (4, .int x4), (5, .int x5), (7, .int x7), (8, .int x8), (9, .int x9), (10, .int x10), (11, .int x11), (15, .int x15), (20, .int x20), (21, .int x21), (22, .int x22), (23, .int v18), (25, .int v12), (26, .int v19)]) [4, 5, 6, 7, 8, 9, 10, 11, 12, 13, 14, 15, 16, 17, 1, 2, 0] rfl (ih _ _ _ _ _ _ _ _ _ _ _ _ _ _ _ hF)
        · have hF := ifn c11 hF
          refine L_iconst (pc := 1771) (v := 0) h (by decide) dL_law_1771 ?_
          cases hF
          exact L_zreturn (pc := 1772) h rfl zr0 rfl rfl dL_law_1772
      · have hF := itp c4 hF
        refine L_goto (pc := 1747) (tgt := 1796) h dL_law_1747 (by decide) ?_
        obtain ⟨v5, hv5, hF⟩ := nm_e2 hF
        refine L_iinc (pc := 1796) (lv' := [(26, .int v5), (0, .ref (zB X.1)), (1, .ref (ad 28)), (2, .ref (ad 47)), (4, .int x4), (5, .int x5), (7, .int x7), (8, .int x8), (9, .int x9), (10, .int x10), (11, .int x11), (15, .int x15), (20, .int x20), (21, .int x21), (22, .int x22), (23, .int x23), (25, .int x25)]) h 16 rfl (by decide) hv5 (by decide) rfl dL_law_1796 ?_
        refine L_goto (pc := 1799) (tgt := 1730) h dL_law_1799 (by decide) ?_
        exact Lp_sub (nX := 0) (lv' := [(0, .ref (zB X.1)), (1, .ref (ad 28)), (2, .ref (ad 47)), (4, .int x4), (5, .int x5), (7, .int x7), (8, .int x8), (9, .int x9), (10, .int x10), (11, .int x11), (15, .int x15), (20, .int x20), (21, .int x21), (22, .int x22), (23, .int x23), (25, .int x25), (26, .int v5)]) [1, 2, 3, 4, 5, 6, 7, 8, 9, 10, 11, 12, 13, 14, 15, 16, 0] rfl (ih _ _ _ _ _ _ _ _ _ _ _ _ _ _ _ hF)
theorem w9_law_1730 {ad : Nat → Nat} {X : XX} {R : Mem × Int32} {fu : Nat} {k1630 : Int32 → Int32 → Int32 → Int32 → Int32 → Int32 → Int32 → Int32 → Int32 → Int32 → Mem → Option (Mem × Int32)} (h : Lx layC ad X cL_law RL 30 9 (some .boolean) (R.1) (some (.int R.2))) (hk1630 : ∀ (x4 : Int32) (x5 : Int32) (x7 : Int32) (x8 : Int32) (x9 : Int32) (x10 : Int32) (x11 : Int32) (x15 : Int32) (x19 : Int32) (x20 : Int32) (M : Mem), k1630 x4 x5 x7 x8 x9 x10 x11 x15 x19 x20 M = some R → Lp layC ad X M 1630 [(0, .ref (zB X.1)), (1, .ref (ad 28)), (2, .ref (ad 47)), (4, .int x4), (5, .int x5), (7, .int x7), (8, .int x8), (9, .int x9), (10, .int x10), (11, .int x11), (15, .int x15), (19, .int x19), (20, .int x20)] []) {f : Nat} {x4 : Int32} {x5 : Int32} {x7 : Int32} {x8 : Int32} {x9 : Int32} {x10 : Int32} {x11 : Int32} {x15 : Int32} {x20 : Int32} {x21 : Int32} {x22 : Int32} {x23 : Int32} {x25 : Int32} {x26 : Int32} {M : Mem} (hF : f9_law_1730 (zL X.1) (zX X.1) fu k1630 f x4 x5 x7 x8 x9 x10 x11 x15 x20 x21 x22 x23 x25 x26 M = some R) : Lp layC ad X M 1730 [(0, .ref (zB X.1)), (1, .ref (ad 28)), (2, .ref (ad 47)), (4, .int x4), (5, .int x5), (7, .int x7), (8, .int x8), (9, .int x9), (10, .int x10), (11, .int x11), (15, .int x15), (20, .int x20), (21, .int x21), (22, .int x22), (23, .int x23), (25, .int x25), (26, .int x26)] [] := w9_lawi_1730 h hk1630 f _ _ _ _ _ _ _ _ _ _ _ _ _ _ _ hF
def f9_law_1721 (sL : Nat) (sx : Nat → Int32) (fu : Nat) (k1630 : Int32 → Int32 → Int32 → Int32 → Int32 → Int32 → Int32 → Int32 → Int32 → Int32 → Mem → Option (Mem × Int32)) (x4 : Int32) (x5 : Int32) (x7 : Int32) (x8 : Int32) (x9 : Int32) (x10 : Int32) (x11 : Int32) (x15 : Int32) (x20 : Int32) (x21 : Int32) (x22 : Int32) (x23 : Int32) (M : Mem) : Option (Mem × Int32) :=
    (f4_busy fu M).bind fun ⟨M2, r3⟩ =>
    (f9_law_1730 sL sx fu k1630 fu x4 x5 x7 x8 x9 x10 x11 x15 x20 x21 x22 x23 r3 (0 : Int32) M2)
set_option maxHeartbeats 4000000 in
set_option maxRecDepth 10000 in
theorem w9_law_1721 {ad : Nat → Nat} {X : XX} {R : Mem × Int32} {fu : Nat} {k1630 : Int32 → Int32 → Int32 → Int32 → Int32 → Int32 → Int32 → Int32 → Int32 → Int32 → Mem → Option (Mem × Int32)} (h : Lx layC ad X cL_law RL 30 9 (some .boolean) (R.1) (some (.int R.2))) (hk1630 : ∀ (x4 : Int32) (x5 : Int32) (x7 : Int32) (x8 : Int32) (x9 : Int32) (x10 : Int32) (x11 : Int32) (x15 : Int32) (x19 : Int32) (x20 : Int32) (M : Mem), k1630 x4 x5 x7 x8 x9 x10 x11 x15 x19 x20 M = some R → Lp layC ad X M 1630 [(0, .ref (zB X.1)), (1, .ref (ad 28)), (2, .ref (ad 47)), (4, .int x4), (5, .int x5), (7, .int x7), (8, .int x8), (9, .int x9), (10, .int x10), (11, .int x11), (15, .int x15), (19, .int x19), (20, .int x20)] []) {x4 : Int32} {x5 : Int32} {x7 : Int32} {x8 : Int32} {x9 : Int32} {x10 : Int32} {x11 : Int32} {x15 : Int32} {x20 : Int32} {x21 : Int32} {x22 : Int32} {x23 : Int32} {M : Mem} (hF : f9_law_1721 (zL X.1) (zX X.1) fu k1630 x4 x5 x7 x8 x9 x10 x11 x15 x20 x21 x22 x23 M = some R) : Lp layC ad X M 1721 [(0, .ref (zB X.1)), (1, .ref (ad 28)), (2, .ref (ad 47)), (4, .int x4), (5, .int x5), (7, .int x7), (8, .int x8), (9, .int x9), (10, .int x10), (11, .int x11), (15, .int x15), (20, .int x20), (21, .int x21), (22, .int x22), (23, .int x23)] [] := by
  unfold f9_law_1721 at hF
  refine L_aload_n (pc := 1721) h 1 rfl rfl dL_law_1721 ?_
  obtain ⟨⟨M2, r3⟩, hc1, hF⟩ := bd hF
  refine L_callV (pc := 1722) (st := []) h [] cvL_98 (c4_busy (ad := ad) (z := X.1) hc1) rfl rfl lc_28 (by decide) (by decide) (Nat.le_of_ble_eq_true rfl) dL_law_1722 (st1 := [.int r3]) rfl ?_
  refine L_istore (pc := 1725) (lv' := [(25, .int r3), (0, .ref (zB X.1)), (1, .ref (ad 28)), (2, .ref (ad 47)), (4, .int x4), (5, .int x5), (7, .int x7), (8, .int x8), (9, .int x9), (10, .int x10), (11, .int x11), (15, .int x15), (20, .int x20), (21, .int x21), (22, .int x22), (23, .int x23)]) h rfl (by decide) rfl dL_law_1725 ?_
  refine L_iconst (pc := 1727) (v := 0) h (by decide) dL_law_1727 ?_
  refine L_istore (pc := 1728) (lv' := [(26, .int (0 : Int32)), (25, .int r3), (0, .ref (zB X.1)), (1, .ref (ad 28)), (2, .ref (ad 47)), (4, .int x4), (5, .int x5), (7, .int x7), (8, .int x8), (9, .int x9), (10, .int x10), (11, .int x11), (15, .int x15), (20, .int x20), (21, .int x21), (22, .int x22), (23, .int x23)]) h rfl (by decide) rfl dL_law_1728 ?_
  exact Lp_sub (nX := 0) (lv' := [(0, .ref (zB X.1)), (1, .ref (ad 28)), (2, .ref (ad 47)), (4, .int x4), (5, .int x5), (7, .int x7), (8, .int x8), (9, .int x9), (10, .int x10), (11, .int x11), (15, .int x15), (20, .int x20), (21, .int x21), (22, .int x22), (23, .int x23), (25, .int r3), (26, .int (0 : Int32))]) [2, 3, 4, 5, 6, 7, 8, 9, 10, 11, 12, 13, 14, 15, 16, 1, 0] rfl (w9_law_1730 h (hk1630 := hk1630) (hF := hF))
def f9_law_1973 (sL : Nat) (sx : Nat → Int32) (fu : Nat) (k1824 : Int32 → Int32 → Int32 → Int32 → Int32 → Int32 → Int32 → Int32 → Int32 → Mem → Option (Mem × Int32)) (k1903 : Int32 → Int32 → Int32 → Int32 → Int32 → Int32 → Int32 → Int32 → Int32 → Int32 → Int32 → Int32 → Int32 → Int32 → Mem → Option (Mem × Int32)) (x4 : Int32) (x5 : Int32) (x7 : Int32) (x8 : Int32) (x9 : Int32) (x10 : Int32) (x11 : Int32) (x15 : Int32) (x20 : Int32) (x21 : Int32) (x22 : Int32) (x23 : Int32) (x24 : Int32) (x25 : Int32) (x26 : Int32) (s0 : Int32) (M : Mem) : Option (Mem × Int32) :=
    if x22 < s0 then ((some (M, (0 : Int32))))
    else ((f4_walk fu ((1 : Int32) <<< (x25 &&& 31)) M).bind fun ⟨M3, r4⟩ =>
    if r4 = s0 then ((f4_asked M3).bind fun r7 =>
    if r7 = x26 then (nm (x25 + (1 : Int32)) fun v9 =>
    (k1903 x4 x5 x7 x8 x9 x10 x11 x15 x20 x21 x22 x23 x24 v9 M3))
    else ((some (M3, (0 : Int32)))))
    else ((some (M3, (0 : Int32)))))
set_option maxHeartbeats 4000000 in
set_option maxRecDepth 10000 in
theorem w9_law_1973 {ad : Nat → Nat} {X : XX} {R : Mem × Int32} {fu : Nat} {k1824 : Int32 → Int32 → Int32 → Int32 → Int32 → Int32 → Int32 → Int32 → Int32 → Mem → Option (Mem × Int32)} {k1903 : Int32 → Int32 → Int32 → Int32 → Int32 → Int32 → Int32 → Int32 → Int32 → Int32 → Int32 → Int32 → Int32 → Int32 → Mem → Option (Mem × Int32)} (h : Lx layC ad X cL_law RL 30 9 (some .boolean) (R.1) (some (.int R.2))) (hk1824 : ∀ (x4 : Int32) (x5 : Int32) (x7 : Int32) (x8 : Int32) (x9 : Int32) (x10 : Int32) (x11 : Int32) (x15 : Int32) (x20 : Int32) (M : Mem), k1824 x4 x5 x7 x8 x9 x10 x11 x15 x20 M = some R → Lp layC ad X M 1824 [(0, .ref (zB X.1)), (1, .ref (ad 28)), (2, .ref (ad 47)), (4, .int x4), (5, .int x5), (7, .int x7), (8, .int x8), (9, .int x9), (10, .int x10), (11, .int x11), (15, .int x15), (20, .int x20)] []) (hk1903 : ∀ (x4 : Int32) (x5 : Int32) (x7 : Int32) (x8 : Int32) (x9 : Int32) (x10 : Int32) (x11 : Int32) (x15 : Int32) (x20 : Int32) (x21 : Int32) (x22 : Int32) (x23 : Int32) (x24 : Int32) (x25 : Int32) (M : Mem), k1903 x4 x5 x7 x8 x9 x10 x11 x15 x20 x21 x22 x23 x24 x25 M = some R → Lp layC ad X M 1903 [(0, .ref (zB X.1)), (1, .ref (ad 28)), (2, .ref (ad 47)), (4, .int x4), (5, .int x5), (7, .int x7), (8, .int x8), (9, .int x9), (10, .int x10), (11, .int x11), (15, .int x15), (20, .int x20), (21, .int x21), (22, .int x22), (23, .int x23), (24, .int x24), (25, .int x25)] []) {x4 : Int32} {x5 : Int32} {x7 : Int32} {x8 : Int32} {x9 : Int32} {x10 : Int32} {x11 : Int32} {x15 : Int32} {x20 : Int32} {x21 : Int32} {x22 : Int32} {x23 : Int32} {x24 : Int32} {x25 : Int32} {x26 : Int32} {s0 : Int32} {M : Mem} (hF : f9_law_1973 (zL X.1) (zX X.1) fu k1824 k1903 x4 x5 x7 x8 x9 x10 x11 x15 x20 x21 x22 x23 x24 x25 x26 s0 M = some R) : Lp layC ad X M 1973 [(0, .ref (zB X.1)), (1, .ref (ad 28)), (2, .ref (ad 47)), (4, .int x4), (5, .int x5), (7, .int x7), (8, .int x8), (9, .int x9), (10, .int x10), (11, .int x11), (15, .int x15), (20, .int x20), (21, .int x21), (22, .int x22), (23, .int x23), (24, .int x24), (25, .int x25), (26, .int x26)] [.int s0] := by
  unfold f9_law_1973 at hF
  refine L_istore (pc := 1973) (lv' := [(27, .int s0), (0, .ref (zB X.1)), (1, .ref (ad 28)), (2, .ref (ad 47)), (4, .int x4), (5, .int x5), (7, .int x7), (8, .int x8), (9, .int x9), (10, .int x10), (11, .int x11), (15, .int x15), (20, .int x20), (21, .int x21), (22, .int x22), (23, .int x23), (24, .int x24), (25, .int x25), (26, .int x26)]) h rfl (by decide) rfl dL_law_1973 ?_
  refine L_iload (pc := 1975) h 0 rfl dL_law_1975 ?_
  refine L_iload (pc := 1977) h 14 rfl dL_law_1977 ?_
  refine L_icmp_gt (pc := 1979) (tgt := 2004) h dL_law_1979 (by decide) (fun c1 => ?_) (fun c1 => ?_)
  · have hF := itp c1 hF
    refine L_iconst (pc := 2004) (v := 0) h (by decide) dL_law_2004 ?_
    cases hF
    exact L_zreturn (pc := 2005) h rfl zr0 rfl rfl dL_law_2005
  · have hF := ifn c1 hF
    refine L_aload_n (pc := 1982) h 2 rfl rfl dL_law_1982 ?_
    refine L_iconst (pc := 1983) (v := 1) h (by decide) dL_law_1983 ?_
    refine L_iload (pc := 1984) h 17 rfl dL_law_1984 ?_
    refine L_ishl (pc := 1986) h dL_law_1986 ?_
    obtain ⟨⟨M3, r4⟩, hc2, hF⟩ := bd hF
    refine L_callV (pc := 1987) (st := []) h [.int ((1 : Int32) <<< (x25 &&& 31))] cvL_124 (c4_walk (ad := ad) (z := X.1) hc2) rfl rfl lc_28 (by decide) (by decide) (Nat.le_of_ble_eq_true rfl) dL_law_1987 (st1 := [.int r4]) rfl ?_
    refine L_iload (pc := 1990) h 0 rfl dL_law_1990 ?_
    refine L_icmp_ne (pc := 1992) (tgt := 2004) h dL_law_1992 (by decide) (fun c5 => ?_) (fun c5 => ?_)
    · have hF := ifn c5 hF
      refine L_iconst (pc := 2004) (v := 0) h (by decide) dL_law_2004 ?_
      cases hF
      exact L_zreturn (pc := 2005) h rfl zr0 rfl rfl dL_law_2005
    · have hF := itp c5 hF
      refine L_aload_n (pc := 1995) h 2 rfl rfl dL_law_1995 ?_
      obtain ⟨r7, hc6, hF⟩ := bd hF
      refine L_callV (pc := 1996) (st := []) h [] cvL_101 (c4_asked (ad := ad) (z := X.1) hc6) rfl rfl lc_28 (by decide) (by decide) (Nat.le_of_ble_eq_true rfl) dL_law_1996 (st1 := [.int r7]) rfl ?_
      refine L_iload (pc := 1999) h 18 rfl dL_law_1999 ?_
      refine L_icmp_eq (pc := 2001) (tgt := 2006) h dL_law_2001 (by decide) (fun c8 => ?_) (fun c8 => ?_)
      · have hF := itp c8 hF
        obtain ⟨v9, hv9, hF⟩ := nm_e2 hF
        refine L_iinc (pc := 2006) (lv' := [(25, .int v9), (27, .int s0), (0, .ref (zB X.1)), (1, .ref (ad 28)), (2, .ref (ad 47)), (4, .int x4), (5, .int x5), (7, .int x7), (8, .int x8), (9, .int x9), (10, .int x10), (11, .int x11), (15, .int x15), (20, .int x20), (21, .int x21), (22, .int x22), (23, .int x23), (24, .int x24), (26, .int x26)]) h 17 rfl (by decide) hv9 (by decide) rfl dL_law_2006 ?_
        refine L_goto (pc := 2009) (tgt := 1903) h dL_law_2009 (by decide) ?_
        exact Lp_sub (nX := 0) (lv' := [(0, .ref (zB X.1)), (1, .ref (ad 28)), (2, .ref (ad 47)), (4, .int x4), (5, .int x5), (7, .int x7), (8, .int x8), (9, .int x9), (10, .int x10), (11, .int x11), (15, .int x15), (20, .int x20), (21, .int x21), (22, .int x22), (23, .int x23), (24, .int x24), (25, .int v9)]) [2, 3, 4, 5, 6, 7, 8, 9, 10, 11, 12, 13, 14, 15, 16, 17, 0] rfl (hk1903 _ _ _ _ _ _ _ _ _ _ _ _ _ _ _ hF)
      · have hF := ifn c8 hF
        refine L_iconst (pc := 2004) (v := 0) h (by decide) dL_law_2004 ?_
        cases hF
        exact L_zreturn (pc := 2005) h rfl zr0 rfl rfl dL_law_2005
