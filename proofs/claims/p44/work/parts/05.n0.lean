def f9_law_947 (sL : Nat) (sx : Nat → Int32) (fu : Nat) (k69 : Int32 → Int32 → Int32 → Int32 → Mem → Option (Mem × Int32)) (k736 : Int32 → Int32 → Int32 → Int32 → Int32 → Int32 → Int32 → Int32 → Int32 → Int32 → Int32 → Int32 → Int32 → Int32 → Int32 → Int32 → Mem → Option (Mem × Int32)) (x4 : Int32) (x5 : Int32) (x6 : Int32) (x7 : Int32) (x8 : Int32) (x9 : Int32) (x10 : Int32) (x11 : Int32) (x12 : Int32) (x13 : Int32) (x14 : Int32) (x15 : Int32) (x17 : Int32) (x19 : Int32) (x20 : Int32) (x23 : Int32) (s0 : Int32) (s1 : Int32) (M : Mem) : Option (Mem × Int32) :=
    nm (s1 ||| s0) fun v1 =>
    if x23 = 0 then (nm (x19 + (0 : Int32)) fun v3 =>
    nm (x20 + (1 : Int32)) fun v4 =>
    (k736 x4 x5 x6 x7 x8 x9 x10 x11 x12 x13 x14 x15 x17 v1 v3 v4 M))
    else ((f4_pin x20 (5 : Int32) M).bind fun ⟨M6, r7⟩ =>
    (f9_told_28 M6 r7).bind fun r9 =>
    nm (x19 + r9) fun v10 =>
    nm (x20 + (1 : Int32)) fun v11 =>
    (k736 x4 x5 x6 x7 x8 x9 x10 x11 x12 x13 x14 x15 x17 v1 v10 v11 M6))
set_option maxHeartbeats 4000000 in
set_option maxRecDepth 10000 in
theorem w9_law_947 {ad : Nat → Nat} {X : XX} {R : Mem × Int32} {fu : Nat} {k69 : Int32 → Int32 → Int32 → Int32 → Mem → Option (Mem × Int32)} {k736 : Int32 → Int32 → Int32 → Int32 → Int32 → Int32 → Int32 → Int32 → Int32 → Int32 → Int32 → Int32 → Int32 → Int32 → Int32 → Int32 → Mem → Option (Mem × Int32)} (h : Lx layC ad X cL_law RL 30 9 (some .boolean) (R.1) (some (.int R.2))) (hk69 : ∀ (x4 : Int32) (x5 : Int32) (x6 : Int32) (x7 : Int32) (M : Mem), k69 x4 x5 x6 x7 M = some R → Lp layC ad X M 69 [(0, .ref (zB X.1)), (1, .ref (ad 28)), (2, .ref (ad 47)), (4, .int x4), (5, .int x5), (6, .int x6), (7, .int x7)] []) (hk736 : ∀ (x4 : Int32) (x5 : Int32) (x6 : Int32) (x7 : Int32) (x8 : Int32) (x9 : Int32) (x10 : Int32) (x11 : Int32) (x12 : Int32) (x13 : Int32) (x14 : Int32) (x15 : Int32) (x17 : Int32) (x18 : Int32) (x19 : Int32) (x20 : Int32) (M : Mem), k736 x4 x5 x6 x7 x8 x9 x10 x11 x12 x13 x14 x15 x17 x18 x19 x20 M = some R → Lp layC ad X M 736 [(0, .ref (zB X.1)), (1, .ref (ad 28)), (2, .ref (ad 47)), (4, .int x4), (5, .int x5), (6, .int x6), (7, .int x7), (8, .int x8), (9, .int x9), (10, .int x10), (11, .int x11), (12, .int x12), (13, .int x13), (14, .int x14), (15, .int x15), (17, .int x17), (18, .int x18), (19, .int x19), (20, .int x20)] []) {x4 : Int32} {x5 : Int32} {x6 : Int32} {x7 : Int32} {x8 : Int32} {x9 : Int32} {x10 : Int32} {x11 : Int32} {x12 : Int32} {x13 : Int32} {x14 : Int32} {x15 : Int32} {x17 : Int32} {x19 : Int32} {x20 : Int32} {x23 : Int32} {s0 : Int32} {s1 : Int32} {M : Mem} (hF : f9_law_947 (zL X.1) (zX X.1) fu k69 k736 x4 x5 x6 x7 x8 x9 x10 x11 x12 x13 x14 x15 x17 x19 x20 x23 s0 s1 M = some R) : Lp layC ad X M 947 [(0, .ref (zB X.1)), (1, .ref (ad 28)), (2, .ref (ad 47)), (4, .int x4), (5, .int x5), (6, .int x6), (7, .int x7), (8, .int x8), (9, .int x9), (10, .int x10), (11, .int x11), (12, .int x12), (13, .int x13), (14, .int x14), (15, .int x15), (17, .int x17), (19, .int x19), (20, .int x20), (23, .int x23)] [.int s0, .int s1] := by
  unfold f9_law_947 at hF
  refine L_ior (pc := 947) h dL_law_947 ?_
  obtain ⟨v1, hv1, hF⟩ := nm_e2 hF
  refine L_istore (pc := 948) (lv' := [(18, .int v1), (0, .ref (zB X.1)), (1, .ref (ad 28)), (2, .ref (ad 47)), (4, .int x4), (5, .int x5), (6, .int x6), (7, .int x7), (8, .int x8), (9, .int x9), (10, .int x10), (11, .int x11), (12, .int x12), (13, .int x13), (14, .int x14), (15, .int x15), (17, .int x17), (19, .int x19), (20, .int x20), (23, .int x23)]) h hv1 (by decide) rfl dL_law_948 ?_
  refine L_iload (pc := 950) h 17 rfl dL_law_950 ?_
  refine L_iload (pc := 952) h 19 rfl dL_law_952 ?_
  refine L_if_eq (pc := 954) (tgt := 971) h dL_law_954 (by decide) (fun c2 => ?_) (fun c2 => ?_)
  · have hF := itp c2 hF
    refine L_iconst (pc := 971) (v := 0) h (by decide) dL_law_971 ?_
    refine L_iadd (pc := 972) h dL_law_972 ?_
    obtain ⟨v3, hv3, hF⟩ := nm_e2 hF
    refine L_istore (pc := 973) (lv' := [(19, .int v3), (18, .int v1), (0, .ref (zB X.1)), (1, .ref (ad 28)), (2, .ref (ad 47)), (4, .int x4), (5, .int x5), (6, .int x6), (7, .int x7), (8, .int x8), (9, .int x9), (10, .int x10), (11, .int x11), (12, .int x12), (13, .int x13), (14, .int x14), (15, .int x15), (17, .int x17), (20, .int x20), (23, .int x23)]) h hv3 (by decide) rfl dL_law_973 ?_
    obtain ⟨v4, hv4, hF⟩ := nm_e2 hF
    refine L_iinc (pc := 975) (lv' := [(20, .int v4), (19, .int v3), (18, .int v1), (0, .ref (zB X.1)), (1, .ref (ad 28)), (2, .ref (ad 47)), (4, .int x4), (5, .int x5), (6, .int x6), (7, .int x7), (8, .int x8), (9, .int x9), (10, .int x10), (11, .int x11), (12, .int x12), (13, .int x13), (14, .int x14), (15, .int x15), (17, .int x17), (23, .int x23)]) h 18 rfl (by decide) hv4 (by decide) rfl dL_law_975 ?_
    refine L_goto (pc := 978) (tgt := 736) h dL_law_978 (by decide) ?_
    exact Lp_sub (nX := 0) (lv' := [(0, .ref (zB X.1)), (1, .ref (ad 28)), (2, .ref (ad 47)), (4, .int x4), (5, .int x5), (6, .int x6), (7, .int x7), (8, .int x8), (9, .int x9), (10, .int x10), (11, .int x11), (12, .int x12), (13, .int x13), (14, .int x14), (15, .int x15), (17, .int x17), (18, .int v1), (19, .int v3), (20, .int v4)]) [3, 4, 5, 6, 7, 8, 9, 10, 11, 12, 13, 14, 15, 16, 17, 18, 2, 1, 0] rfl (hk736 _ _ _ _ _ _ _ _ _ _ _ _ _ _ _ _ _ hF)
  · have hF := ifn c2 hF
    refine L_aload_n (pc := 957) h 2 rfl rfl dL_law_957 ?_
    refine L_aload_n (pc := 958) h 2 rfl rfl dL_law_958 ?_
    refine L_iload (pc := 959) h 18 rfl dL_law_959 ?_
    refine L_iconst (pc := 961) (v := 5) h (by decide) dL_law_961 ?_
    obtain ⟨⟨M6, r7⟩, hc5, hF⟩ := bd hF
    refine L_callV (pc := 962) (st := [.ref (ad 28), .int x19]) h [.int x20, .int (5 : Int32)] cvL_88 (c4_pin (ad := ad) (z := X.1) hc5) rfl rfl lc_28 (by decide) (by decide) (Nat.le_of_ble_eq_true rfl) dL_law_962 (st1 := [.int r7, .ref (ad 28), .int x19]) rfl ?_
    obtain ⟨r9, hc8, hF⟩ := bd hF
    refine L_callS (pc := 965) (st := [.int x19]) h [.ref (ad 28), .int r7] csL_91 (c9_told_28 (ad := ad) (z := X.1) hc8) rfl rfl (by decide) (by decide) (Nat.le_of_ble_eq_true rfl) dL_law_965 (st1 := [.int r9, .int x19]) rfl ?_
    refine L_goto (pc := 968) (tgt := 972) h dL_law_968 (by decide) ?_
    refine L_iadd (pc := 972) h dL_law_972 ?_
    obtain ⟨v10, hv10, hF⟩ := nm_e2 hF
    refine L_istore (pc := 973) (lv' := [(19, .int v10), (18, .int v1), (0, .ref (zB X.1)), (1, .ref (ad 28)), (2, .ref (ad 47)), (4, .int x4), (5, .int x5), (6, .int x6), (7, .int x7), (8, .int x8), (9, .int x9), (10, .int x10), (11, .int x11), (12, .int x12), (13, .int x13), (14, .int x14), (15, .int x15), (17, .int x17), (20, .int x20), (23, .int x23)]) h hv10 (by decide) rfl dL_law_973 ?_
    obtain ⟨v11, hv11, hF⟩ := nm_e2 hF
    refine L_iinc (pc := 975) (lv' := [(20, .int v11), (19, .int v10), (18, .int v1), (0, .ref (zB X.1)), (1, .ref (ad 28)), (2, .ref (ad 47)), (4, .int x4), (5, .int x5), (6, .int x6), (7, .int x7), (8, .int x8), (9, .int x9), (10, .int x10), (11, .int x11), (12, .int x12), (13, .int x13), (14, .int x14), (15, .int x15), (17, .int x17), (23, .int x23)]) h 18 rfl (by decide) hv11 (by decide) rfl dL_law_975 ?_
    refine L_goto (pc := 978) (tgt := 736) h dL_law_978 (by decide) ?_
    exact Lp_sub (nX := 0) (lv' := [(0, .ref (zB X.1)), (1, .ref (ad 28)), (2, .ref (ad 47)), (4, .int x4), (5, .int x5), (6, .int x6), (7, .int x7), (8, .int x8), (9, .int x9), (10, .int x10), (11, .int x11), (12, .int x12), (13, .int x13), (14, .int x14), (15, .int x15), (17, .int x17), (18, .int v1), (19, .int v10), (20, .int v11)]) [3, 4, 5, 6, 7, 8, 9, 10, 11, 12, 13, 14, 15, 16, 17, 18, 2, 1, 0] rfl (hk736 _ _ _ _ _ _ _ _ _ _ _ _ _ _ _ _ _ hF)
def f9_law_889 (sL : Nat) (sx : Nat → Int32) (fu : Nat) (k69 : Int32 → Int32 → Int32 → Int32 → Mem → Option (Mem × Int32)) (k736 : Int32 → Int32 → Int32 → Int32 → Int32 → Int32 → Int32 → Int32 → Int32 → Int32 → Int32 → Int32 → Int32 → Int32 → Int32 → Int32 → Mem → Option (Mem × Int32)) (x4 : Int32) (x5 : Int32) (x6 : Int32) (x7 : Int32) (x8 : Int32) (x9 : Int32) (x10 : Int32) (x11 : Int32) (x12 : Int32) (x13 : Int32) (x14 : Int32) (x15 : Int32) (x17 : Int32) (x18 : Int32) (x19 : Int32) (x20 : Int32) (x21 : Int32) (x22 : Int32) (x23 : Int32) (s0 : Int32) (s1 : Int32) (M : Mem) : Option (Mem × Int32) :=
    if s1 = s0 then (if (9 : Int32) < x21 then ((some (M, (0 : Int32))))
    else ((f9_many13 fu x22).bind fun r4 =>
    (f4_pin x20 (3 : Int32) M).bind fun ⟨M6, r7⟩ =>
    (f9_told_28 M6 r7).bind fun r9 =>
    if r4 = r9 then (if x22 < (1 : Int32) then ((some (M6, (0 : Int32))))
    else (if x22 ≤ (8191 : Int32) then (if x23 = 0 then ((f9_law_947 sL sx fu k69 k736 x4 x5 x6 x7 x8 x9 x10 x11 x12 x13 x14 x15 x17 x19 x20 x23 (0 : Int32) x18 M6))
    else ((f9_law_947 sL sx fu k69 k736 x4 x5 x6 x7 x8 x9 x10 x11 x12 x13 x14 x15 x17 x19 x20 x23 x22 x18 M6)))
    else ((some (M6, (0 : Int32))))))
    else ((some (M6, (0 : Int32))))))
    else ((some (M, (0 : Int32))))
set_option maxHeartbeats 4000000 in
set_option maxRecDepth 10000 in
theorem w9_law_889 {ad : Nat → Nat} {X : XX} {R : Mem × Int32} {fu : Nat} {k69 : Int32 → Int32 → Int32 → Int32 → Mem → Option (Mem × Int32)} {k736 : Int32 → Int32 → Int32 → Int32 → Int32 → Int32 → Int32 → Int32 → Int32 → Int32 → Int32 → Int32 → Int32 → Int32 → Int32 → Int32 → Mem → Option (Mem × Int32)} (h : Lx layC ad X cL_law RL 30 9 (some .boolean) (R.1) (some (.int R.2))) (hk69 : ∀ (x4 : Int32) (x5 : Int32) (x6 : Int32) (x7 : Int32) (M : Mem), k69 x4 x5 x6 x7 M = some R → Lp layC ad X M 69 [(0, .ref (zB X.1)), (1, .ref (ad 28)), (2, .ref (ad 47)), (4, .int x4), (5, .int x5), (6, .int x6), (7, .int x7)] []) (hk736 : ∀ (x4 : Int32) (x5 : Int32) (x6 : Int32) (x7 : Int32) (x8 : Int32) (x9 : Int32) (x10 : Int32) (x11 : Int32) (x12 : Int32) (x13 : Int32) (x14 : Int32) (x15 : Int32) (x17 : Int32) (x18 : Int32) (x19 : Int32) (x20 : Int32) (M : Mem), k736 x4 x5 x6 x7 x8 x9 x10 x11 x12 x13 x14 x15 x17 x18 x19 x20 M = some R → Lp layC ad X M 736 [(0, .ref (zB X.1)), (1, .ref (ad 28)), (2, .ref (ad 47)), (4, .int x4), (5, .int x5), (6, .int x6), (7, .int x7), (8, .int x8), (9, .int x9), (10, .int x10), (11, .int x11), (12, .int x12), (13, .int x13), (14, .int x14), (15, .int x15), (17, .int x17), (18, .int x18), (19, .int x19), (20, .int x20)] []) {x4 : Int32} {x5 : Int32} {x6 : Int32} {x7 : Int32} {x8 : Int32} {x9 : Int32} {x10 : Int32} {x11 : Int32} {x12 : Int32} {x13 : Int32} {x14 : Int32} {x15 : Int32} {x17 : Int32} {x18 : Int32} {x19 : Int32} {x20 : Int32} {x21 : Int32} {x22 : Int32} {x23 : Int32} {s0 : Int32} {s1 : Int32} {M : Mem} (hF : f9_law_889 (zL X.1) (zX X.1) fu k69 k736 x4 x5 x6 x7 x8 x9 x10 x11 x12 x13 x14 x15 x17 x18 x19 x20 x21 x22 x23 s0 s1 M = some R) : Lp layC ad X M 889 [(0, .ref (zB X.1)), (1, .ref (ad 28)), (2, .ref (ad 47)), (4, .int x4), (5, .int x5), (6, .int x6), (7, .int x7), (8, .int x8), (9, .int x9), (10, .int x10), (11, .int x11), (12, .int x12), (13, .int x13), (14, .int x14), (15, .int x15), (17, .int x17), (18, .int x18), (19, .int x19), (20, .int x20), (21, .int x21), (22, .int x22), (23, .int x23)] [.int s0, .int s1] := by
  unfold f9_law_889 at hF
  refine L_icmp_ne (pc := 889) (tgt := 932) h dL_law_889 (by decide) (fun c1 => ?_) (fun c1 => ?_)
  · have hF := ifn c1 hF
    refine L_iconst (pc := 932) (v := 0) h (by decide) dL_law_932 ?_
    cases hF
    exact L_zreturn (pc := 933) h rfl zr0 rfl rfl dL_law_933
  · have hF := itp c1 hF
    refine L_iload (pc := 892) h 19 rfl dL_law_892 ?_
    refine L_bipush (pc := 894) (v := 9) h (by decide) dL_law_894 ?_
    refine L_icmp_gt (pc := 896) (tgt := 932) h dL_law_896 (by decide) (fun c2 => ?_) (fun c2 => ?_)
    · have hF := itp c2 hF
      refine L_iconst (pc := 932) (v := 0) h (by decide) dL_law_932 ?_
      cases hF
      exact L_zreturn (pc := 933) h rfl zr0 rfl rfl dL_law_933
    · have hF := ifn c2 hF
      refine L_iload (pc := 899) h 20 rfl dL_law_899 ?_
      obtain ⟨r4, hc3, hF⟩ := bd hF
      refine L_callS (pc := 901) (st := []) h [.int x22] csL_95 (c9_many13 (ad := ad) (z := X.1) (M := M) hc3) rfl rfl (by decide) (by decide) (Nat.le_of_ble_eq_true rfl) dL_law_901 (st1 := [.int r4]) rfl ?_
      refine L_aload_n (pc := 904) h 1 rfl rfl dL_law_904 ?_
      refine L_aload_n (pc := 905) h 1 rfl rfl dL_law_905 ?_
      refine L_iload (pc := 906) h 18 rfl dL_law_906 ?_
      refine L_iconst (pc := 908) (v := 3) h (by decide) dL_law_908 ?_
      obtain ⟨⟨M6, r7⟩, hc5, hF⟩ := bd hF
      refine L_callV (pc := 909) (st := [.ref (ad 28), .int r4]) h [.int x20, .int (3 : Int32)] cvL_88 (c4_pin (ad := ad) (z := X.1) hc5) rfl rfl lc_28 (by decide) (by decide) (Nat.le_of_ble_eq_true rfl) dL_law_909 (st1 := [.int r7, .ref (ad 28), .int r4]) rfl ?_
      obtain ⟨r9, hc8, hF⟩ := bd hF
      refine L_callS (pc := 912) (st := [.int r4]) h [.ref (ad 28), .int r7] csL_91 (c9_told_28 (ad := ad) (z := X.1) hc8) rfl rfl (by decide) (by decide) (Nat.le_of_ble_eq_true rfl) dL_law_912 (st1 := [.int r9, .int r4]) rfl ?_
      refine L_icmp_ne (pc := 915) (tgt := 932) h dL_law_915 (by decide) (fun c10 => ?_) (fun c10 => ?_)
      · have hF := ifn c10 hF
        refine L_iconst (pc := 932) (v := 0) h (by decide) dL_law_932 ?_
        cases hF
        exact L_zreturn (pc := 933) h rfl zr0 rfl rfl dL_law_933
      · have hF := itp c10 hF
        refine L_iload (pc := 918) h 20 rfl dL_law_918 ?_
        refine L_iconst (pc := 920) (v := 1) h (by decide) dL_law_920 ?_
        refine L_icmp_lt (pc := 921) (tgt := 932) h dL_law_921 (by decide) (fun c11 => ?_) (fun c11 => ?_)
        · have hF := itp c11 hF
          refine L_iconst (pc := 932) (v := 0) h (by decide) dL_law_932 ?_
          cases hF
          exact L_zreturn (pc := 933) h rfl zr0 rfl rfl dL_law_933
        · have hF := ifn c11 hF
          refine L_iload (pc := 924) h 20 rfl dL_law_924 ?_
          refine L_sipush (pc := 926) (v := 8191) h (by decide) dL_law_926 ?_
          refine L_icmp_le (pc := 929) (tgt := 934) h dL_law_929 (by decide) (fun c12 => ?_) (fun c12 => ?_)
          · have hF := itp c12 hF
            refine L_iload (pc := 934) h 16 rfl dL_law_934 ?_
            refine L_iload (pc := 936) h 21 rfl dL_law_936 ?_
            refine L_if_eq (pc := 938) (tgt := 946) h dL_law_938 (by decide) (fun c13 => ?_) (fun c13 => ?_)
            · have hF := itp c13 hF
              refine L_iconst (pc := 946) (v := 0) h (by decide) dL_law_946 ?_
              exact Lp_sub (nX := 0) (lv' := [(0, .ref (zB X.1)), (1, .ref (ad 28)), (2, .ref (ad 47)), (4, .int x4), (5, .int x5), (6, .int x6), (7, .int x7), (8, .int x8), (9, .int x9), (10, .int x10), (11, .int x11), (12, .int x12), (13, .int x13), (14, .int x14), (15, .int x15), (17, .int x17), (19, .int x19), (20, .int x20), (23, .int x23)]) [0, 1, 2, 3, 4, 5, 6, 7, 8, 9, 10, 11, 12, 13, 14, 15, 17, 18, 21] rfl (w9_law_947 h (hk69 := hk69) (hk736 := hk736) (hF := hF))
            · have hF := ifn c13 hF
              refine L_iload (pc := 941) h 20 rfl dL_law_941 ?_
              refine L_goto (pc := 943) (tgt := 947) h dL_law_943 (by decide) ?_
              exact Lp_sub (nX := 0) (lv' := [(0, .ref (zB X.1)), (1, .ref (ad 28)), (2, .ref (ad 47)), (4, .int x4), (5, .int x5), (6, .int x6), (7, .int x7), (8, .int x8), (9, .int x9), (10, .int x10), (11, .int x11), (12, .int x12), (13, .int x13), (14, .int x14), (15, .int x15), (17, .int x17), (19, .int x19), (20, .int x20), (23, .int x23)]) [0, 1, 2, 3, 4, 5, 6, 7, 8, 9, 10, 11, 12, 13, 14, 15, 17, 18, 21] rfl (w9_law_947 h (hk69 := hk69) (hk736 := hk736) (hF := hF))
          · have hF := ifn c12 hF
            refine L_iconst (pc := 932) (v := 0) h (by decide) dL_law_932 ?_
            cases hF
            exact L_zreturn (pc := 933) h rfl zr0 rfl rfl dL_law_933
def f9_law_871 (sL : Nat) (sx : Nat → Int32) (fu : Nat) (k69 : Int32 → Int32 → Int32 → Int32 → Mem → Option (Mem × Int32)) (k736 : Int32 → Int32 → Int32 → Int32 → Int32 → Int32 → Int32 → Int32 → Int32 → Int32 → Int32 → Int32 → Int32 → Int32 → Int32 → Int32 → Mem → Option (Mem × Int32)) (x4 : Int32) (x5 : Int32) (x6 : Int32) (x7 : Int32) (x8 : Int32) (x9 : Int32) (x10 : Int32) (x11 : Int32) (x12 : Int32) (x13 : Int32) (x14 : Int32) (x15 : Int32) (x17 : Int32) (x18 : Int32) (x19 : Int32) (x20 : Int32) (x21 : Int32) (x22 : Int32) (x23 : Int32) (s0 : Int32) (M : Mem) : Option (Mem × Int32) :=
    (f4_count M fu (4 : Int32)).bind fun r2 =>
    if ((r2 >>> (x20 &&& 31)) &&& (1 : Int32)) = 0 then ((f9_law_889 sL sx fu k69 k736 x4 x5 x6 x7 x8 x9 x10 x11 x12 x13 x14 x15 x17 x18 x19 x20 x21 x22 x23 (1 : Int32) s0 M))
    else ((f9_law_889 sL sx fu k69 k736 x4 x5 x6 x7 x8 x9 x10 x11 x12 x13 x14 x15 x17 x18 x19 x20 x21 x22 x23 (0 : Int32) s0 M))
set_option maxHeartbeats 4000000 in
set_option maxRecDepth 10000 in
theorem w9_law_871 {ad : Nat → Nat} {X : XX} {R : Mem × Int32} {fu : Nat} {k69 : Int32 → Int32 → Int32 → Int32 → Mem → Option (Mem × Int32)} {k736 : Int32 → Int32 → Int32 → Int32 → Int32 → Int32 → Int32 → Int32 → Int32 → Int32 → Int32 → Int32 → Int32 → Int32 → Int32 → Int32 → Mem → Option (Mem × Int32)} (h : Lx layC ad X cL_law RL 30 9 (some .boolean) (R.1) (some (.int R.2))) (hk69 : ∀ (x4 : Int32) (x5 : Int32) (x6 : Int32) (x7 : Int32) (M : Mem), k69 x4 x5 x6 x7 M = some R → Lp layC ad X M 69 [(0, .ref (zB X.1)), (1, .ref (ad 28)), (2, .ref (ad 47)), (4, .int x4), (5, .int x5), (6, .int x6), (7, .int x7)] []) (hk736 : ∀ (x4 : Int32) (x5 : Int32) (x6 : Int32) (x7 : Int32) (x8 : Int32) (x9 : Int32) (x10 : Int32) (x11 : Int32) (x12 : Int32) (x13 : Int32) (x14 : Int32) (x15 : Int32) (x17 : Int32) (x18 : Int32) (x19 : Int32) (x20 : Int32) (M : Mem), k736 x4 x5 x6 x7 x8 x9 x10 x11 x12 x13 x14 x15 x17 x18 x19 x20 M = some R → Lp layC ad X M 736 [(0, .ref (zB X.1)), (1, .ref (ad 28)), (2, .ref (ad 47)), (4, .int x4), (5, .int x5), (6, .int x6), (7, .int x7), (8, .int x8), (9, .int x9), (10, .int x10), (11, .int x11), (12, .int x12), (13, .int x13), (14, .int x14), (15, .int x15), (17, .int x17), (18, .int x18), (19, .int x19), (20, .int x20)] []) {x4 : Int32} {x5 : Int32} {x6 : Int32} {x7 : Int32} {x8 : Int32} {x9 : Int32} {x10 : Int32} {x11 : Int32} {x12 : Int32} {x13 : Int32} {x14 : Int32} {x15 : Int32} {x17 : Int32} {x18 : Int32} {x19 : Int32} {x20 : Int32} {x21 : Int32} {x22 : Int32} {x23 : Int32} {s0 : Int32} {M : Mem} (hF : f9_law_871 (zL X.1) (zX X.1) fu k69 k736 x4 x5 x6 x7 x8 x9 x10 x11 x12 x13 x14 x15 x17 x18 x19 x20 x21 x22 x23 s0 M = some R) : Lp layC ad X M 871 [(0, .ref (zB X.1)), (1, .ref (ad 28)), (2, .ref (ad 47)), (4, .int x4), (5, .int x5), (6, .int x6), (7, .int x7), (8, .int x8), (9, .int x9), (10, .int x10), (11, .int x11), (12, .int x12), (13, .int x13), (14, .int x14), (15, .int x15), (17, .int x17), (18, .int x18), (19, .int x19), (20, .int x20), (21, .int x21), (22, .int x22), (23, .int x23)] [.int s0] := by
  unfold f9_law_871 at hF
  refine L_aload_n (pc := 871) h 1 rfl rfl dL_law_871 ?_
  refine L_iconst (pc := 872) (v := 4) h (by decide) dL_law_872 ?_
  obtain ⟨r2, hc1, hF⟩ := bd hF
  refine L_callV (pc := 873) (st := [.int s0]) h [.int (4 : Int32)] cvL_42 (c4_count (ad := ad) (z := X.1) hc1) rfl rfl lc_28 (by decide) (by decide) (Nat.le_of_ble_eq_true rfl) dL_law_873 (st1 := [.int r2, .int s0]) rfl ?_
  refine L_iload (pc := 876) h 18 rfl dL_law_876 ?_
  refine L_ishr (pc := 878) h dL_law_878 ?_
  refine L_iconst (pc := 879) (v := 1) h (by decide) dL_law_879 ?_
  refine L_iand (pc := 880) h dL_law_880 ?_
  refine L_if_ne (pc := 881) (tgt := 888) h dL_law_881 (by decide) (fun c3 => ?_) (fun c3 => ?_)
  · have hF := ifn c3 hF
    refine L_iconst (pc := 888) (v := 0) h (by decide) dL_law_888 ?_
    exact Lp_sub (nX := 0) (lv' := [(0, .ref (zB X.1)), (1, .ref (ad 28)), (2, .ref (ad 47)), (4, .int x4), (5, .int x5), (6, .int x6), (7, .int x7), (8, .int x8), (9, .int x9), (10, .int x10), (11, .int x11), (12, .int x12), (13, .int x13), (14, .int x14), (15, .int x15), (17, .int x17), (18, .int x18), (19, .int x19), (20, .int x20), (21, .int x21), (22, .int x22), (23, .int x23)]) [0, 1, 2, 3, 4, 5, 6, 7, 8, 9, 10, 11, 12, 13, 14, 15, 16, 17, 18, 19, 20, 21] rfl (w9_law_889 h (hk69 := hk69) (hk736 := hk736) (hF := hF))
  · have hF := itp c3 hF
    refine L_iconst (pc := 884) (v := 1) h (by decide) dL_law_884 ?_
    refine L_goto (pc := 885) (tgt := 889) h dL_law_885 (by decide) ?_
    exact Lp_sub (nX := 0) (lv' := [(0, .ref (zB X.1)), (1, .ref (ad 28)), (2, .ref (ad 47)), (4, .int x4), (5, .int x5), (6, .int x6), (7, .int x7), (8, .int x8), (9, .int x9), (10, .int x10), (11, .int x11), (12, .int x12), (13, .int x13), (14, .int x14), (15, .int x15), (17, .int x17), (18, .int x18), (19, .int x19), (20, .int x20), (21, .int x21), (22, .int x22), (23, .int x23)]) [0, 1, 2, 3, 4, 5, 6, 7, 8, 9, 10, 11, 12, 13, 14, 15, 16, 17, 18, 19, 20, 21] rfl (w9_law_889 h (hk69 := hk69) (hk736 := hk736) (hF := hF))
def f9_law_856 (sL : Nat) (sx : Nat → Int32) (fu : Nat) (k69 : Int32 → Int32 → Int32 → Int32 → Mem → Option (Mem × Int32)) (k736 : Int32 → Int32 → Int32 → Int32 → Int32 → Int32 → Int32 → Int32 → Int32 → Int32 → Int32 → Int32 → Int32 → Int32 → Int32 → Int32 → Mem → Option (Mem × Int32)) (x4 : Int32) (x5 : Int32) (x6 : Int32) (x7 : Int32) (x8 : Int32) (x9 : Int32) (x10 : Int32) (x11 : Int32) (x12 : Int32) (x13 : Int32) (x14 : Int32) (x15 : Int32) (x17 : Int32) (x18 : Int32) (x19 : Int32) (x20 : Int32) (x21 : Int32) (x22 : Int32) (x23 : Int32) (s0 : Int32) (s1 : Int32) (M : Mem) : Option (Mem × Int32) :=
    if s1 = s0 then (if x21 = (-9 : Int32) then ((f9_law_871 sL sx fu k69 k736 x4 x5 x6 x7 x8 x9 x10 x11 x12 x13 x14 x15 x17 x18 x19 x20 x21 x22 x23 (1 : Int32) M))
    else ((f9_law_871 sL sx fu k69 k736 x4 x5 x6 x7 x8 x9 x10 x11 x12 x13 x14 x15 x17 x18 x19 x20 x21 x22 x23 (0 : Int32) M)))
    else ((some (M, (0 : Int32))))
set_option maxHeartbeats 4000000 in
set_option maxRecDepth 10000 in
theorem w9_law_856 {ad : Nat → Nat} {X : XX} {R : Mem × Int32} {fu : Nat} {k69 : Int32 → Int32 → Int32 → Int32 → Mem → Option (Mem × Int32)} {k736 : Int32 → Int32 → Int32 → Int32 → Int32 → Int32 → Int32 → Int32 → Int32 → Int32 → Int32 → Int32 → Int32 → Int32 → Int32 → Int32 → Mem → Option (Mem × Int32)} (h : Lx layC ad X cL_law RL 30 9 (some .boolean) (R.1) (some (.int R.2))) (hk69 : ∀ (x4 : Int32) (x5 : Int32) (x6 : Int32) (x7 : Int32) (M : Mem), k69 x4 x5 x6 x7 M = some R → Lp layC ad X M 69 [(0, .ref (zB X.1)), (1, .ref (ad 28)), (2, .ref (ad 47)), (4, .int x4), (5, .int x5), (6, .int x6), (7, .int x7)] []) (hk736 : ∀ (x4 : Int32) (x5 : Int32) (x6 : Int32) (x7 : Int32) (x8 : Int32) (x9 : Int32) (x10 : Int32) (x11 : Int32) (x12 : Int32) (x13 : Int32) (x14 : Int32) (x15 : Int32) (x17 : Int32) (x18 : Int32) (x19 : Int32) (x20 : Int32) (M : Mem), k736 x4 x5 x6 x7 x8 x9 x10 x11 x12 x13 x14 x15 x17 x18 x19 x20 M = some R → Lp layC ad X M 736 [(0, .ref (zB X.1)), (1, .ref (ad 28)), (2, .ref (ad 47)), (4, .int x4), (5, .int x5), (6, .int x6), (7, .int x7), (8, .int x8), (9, .int x9), (10, .int x10), (11, .int x11), (12, .int x12), (13, .int x13), (14, .int x14), (15, .int x15), (17, .int x17), (18, .int x18), (19, .int x19), (20, .int x20)] []) {x4 : Int32} {x5 : Int32} {x6 : Int32} {x7 : Int32} {x8 : Int32} {x9 : Int32} {x10 : Int32} {x11 : Int32} {x12 : Int32} {x13 : Int32} {x14 : Int32} {x15 : Int32} {x17 : Int32} {x18 : Int32} {x19 : Int32} {x20 : Int32} {x21 : Int32} {x22 : Int32} {x23 : Int32} {s0 : Int32} {s1 : Int32} {M : Mem} (hF : f9_law_856 (zL X.1) (zX X.1) fu k69 k736 x4 x5 x6 x7 x8 x9 x10 x11 x12 x13 x14 x15 x17 x18 x19 x20 x21 x22 x23 s0 s1 M = some R) : Lp layC ad X M 856 [(0, .ref (zB X.1)), (1, .ref (ad 28)), (2, .ref (ad 47)), (4, .int x4), (5, .int x5), (6, .int x6), (7, .int x7), (8, .int x8), (9, .int x9), (10, .int x10), (11, .int x11), (12, .int x12), (13, .int x13), (14, .int x14), (15, .int x15), (17, .int x17), (18, .int x18), (19, .int x19), (20, .int x20), (21, .int x21), (22, .int x22), (23, .int x23)] [.int s0, .int s1] := by
  unfold f9_law_856 at hF
  refine L_icmp_ne (pc := 856) (tgt := 932) h dL_law_856 (by decide) (fun c1 => ?_) (fun c1 => ?_)
  · have hF := ifn c1 hF
    refine L_iconst (pc := 932) (v := 0) h (by decide) dL_law_932 ?_
    cases hF
    exact L_zreturn (pc := 933) h rfl zr0 rfl rfl dL_law_933
  · have hF := itp c1 hF
    refine L_iload (pc := 859) h 19 rfl dL_law_859 ?_
    refine L_bipush (pc := 861) (v := (-9)) h (by decide) dL_law_861 ?_
    refine L_icmp_ne (pc := 863) (tgt := 870) h dL_law_863 (by decide) (fun c2 => ?_) (fun c2 => ?_)
    · have hF := ifn c2 hF
      refine L_iconst (pc := 870) (v := 0) h (by decide) dL_law_870 ?_
      exact Lp_sub (nX := 0) (lv' := [(0, .ref (zB X.1)), (1, .ref (ad 28)), (2, .ref (ad 47)), (4, .int x4), (5, .int x5), (6, .int x6), (7, .int x7), (8, .int x8), (9, .int x9), (10, .int x10), (11, .int x11), (12, .int x12), (13, .int x13), (14, .int x14), (15, .int x15), (17, .int x17), (18, .int x18), (19, .int x19), (20, .int x20), (21, .int x21), (22, .int x22), (23, .int x23)]) [0, 1, 2, 3, 4, 5, 6, 7, 8, 9, 10, 11, 12, 13, 14, 15, 16, 17, 18, 19, 20, 21] rfl (w9_law_871 h (hk69 := hk69) (hk736 := hk736) (hF := hF))
    · have hF := itp c2 hF
      refine L_iconst (pc := 866) (v := 1) h (by decide) dL_law_866 ?_
      refine L_goto (pc := 867) (tgt := 871) h dL_law_867 (by decide) ?_
      exact Lp_sub (nX := 0) (lv' := [(0, .ref (zB X.1)), (1, .ref (ad 28)), (2, .ref (ad 47)), (4, .int x4), (5, .int x5), (6, .int x6), (7, .int x7), (8, .int x8), (9, .int x9), (10, .int x10), (11, .int x11), (12, .int x12), (13, .int x13), (14, .int x14), (15, .int x15), (17, .int x17), (18, .int x18), (19, .int x19), (20, .int x20), (21, .int x21), (22, .int x22), (23, .int x23)]) [0, 1, 2, 3, 4, 5, 6, 7, 8, 9, 10, 11, 12, 13, 14, 15, 16, 17, 18, 19, 20, 21] rfl (w9_law_871 h (hk69 := hk69) (hk736 := hk736) (hF := hF))
def f9_law_837 (sL : Nat) (sx : Nat → Int32) (fu : Nat) (k69 : Int32 → Int32 → Int32 → Int32 → Mem → Option (Mem × Int32)) (k736 : Int32 → Int32 → Int32 → Int32 → Int32 → Int32 → Int32 → Int32 → Int32 → Int32 → Int32 → Int32 → Int32 → Int32 → Int32 → Int32 → Mem → Option (Mem × Int32)) (x4 : Int32) (x5 : Int32) (x6 : Int32) (x7 : Int32) (x8 : Int32) (x9 : Int32) (x10 : Int32) (x11 : Int32) (x12 : Int32) (x13 : Int32) (x14 : Int32) (x15 : Int32) (x17 : Int32) (x18 : Int32) (x19 : Int32) (x20 : Int32) (x21 : Int32) (x22 : Int32) (x23 : Int32) (s0 : Int32) (M : Mem) : Option (Mem × Int32) :=
    (f4_count M fu (5 : Int32)).bind fun r2 =>
    if ((r2 >>> (x20 &&& 31)) &&& (1 : Int32)) = (1 : Int32) then ((f9_law_856 sL sx fu k69 k736 x4 x5 x6 x7 x8 x9 x10 x11 x12 x13 x14 x15 x17 x18 x19 x20 x21 x22 x23 (1 : Int32) s0 M))
    else ((f9_law_856 sL sx fu k69 k736 x4 x5 x6 x7 x8 x9 x10 x11 x12 x13 x14 x15 x17 x18 x19 x20 x21 x22 x23 (0 : Int32) s0 M))
set_option maxHeartbeats 4000000 in
set_option maxRecDepth 10000 in
theorem w9_law_837 {ad : Nat → Nat} {X : XX} {R : Mem × Int32} {fu : Nat} {k69 : Int32 → Int32 → Int32 → Int32 → Mem → Option (Mem × Int32)} {k736 : Int32 → Int32 → Int32 → Int32 → Int32 → Int32 → Int32 → Int32 → Int32 → Int32 → Int32 → Int32 → Int32 → Int32 → Int32 → Int32 → Mem → Option (Mem × Int32)} (h : Lx layC ad X cL_law RL 30 9 (some .boolean) (R.1) (some (.int R.2))) (hk69 : ∀ (x4 : Int32) (x5 : Int32) (x6 : Int32) (x7 : Int32) (M : Mem), k69 x4 x5 x6 x7 M = some R → Lp layC ad X M 69 [(0, .ref (zB X.1)), (1, .ref (ad 28)), (2, .ref (ad 47)), (4, .int x4), (5, .int x5), (6, .int x6), (7, .int x7)] []) (hk736 : ∀ (x4 : Int32) (x5 : Int32) (x6 : Int32) (x7 : Int32) (x8 : Int32) (x9 : Int32) (x10 : Int32) (x11 : Int32) (x12 : Int32) (x13 : Int32) (x14 : Int32) (x15 : Int32) (x17 : Int32) (x18 : Int32) (x19 : Int32) (x20 : Int32) (M : Mem), k736 x4 x5 x6 x7 x8 x9 x10 x11 x12 x13 x14 x15 x17 x18 x19 x20 M = some R → Lp layC ad X M 736 [(0, .ref (zB X.1)), (1, .ref (ad 28)), (2, .ref (ad 47)), (4, .int x4), (5, .int x5), (6, .int x6), (7, .int x7), (8, .int x8), (9, .int x9), (10, .int x10), (11, .int x11), (12, .int x12), (13, .int x13), (14, .int x14), (15, .int x15), (17, .int x17), (18, .int x18), (19, .int x19), (20, .int x20)] []) {x4 : Int32} {x5 : Int32} {x6 : Int32} {x7 : Int32} {x8 : Int32} {x9 : Int32} {x10 : Int32} {x11 : Int32} {x12 : Int32} {x13 : Int32} {x14 : Int32} {x15 : Int32} {x17 : Int32} {x18 : Int32} {x19 : Int32} {x20 : Int32} {x21 : Int32} {x22 : Int32} {x23 : Int32} {s0 : Int32} {M : Mem} (hF : f9_law_837 (zL X.1) (zX X.1) fu k69 k736 x4 x5 x6 x7 x8 x9 x10 x11 x12 x13 x14 x15 x17 x18 x19 x20 x21 x22 x23 s0 M = some R) : Lp layC ad X M 837 [(0, .ref (zB X.1)), (1, .ref (ad 28)), (2, .ref (ad 47)), (4, .int x4), (5, .int x5), (6, .int x6), (7, .int x7), (8, .int x8), (9, .int x9), (10, .int x10), (11, .int x11), (12, .int x12), (13, .int x13), (14, .int x14), (15, .int x15), (17, .int x17), (18, .int x18), (19, .int x19), (20, .int x20), (21, .int x21), (22, .int x22), (23, .int x23)] [.int s0] := by
  unfold f9_law_837 at hF
  refine L_aload_n (pc := 837) h 1 rfl rfl dL_law_837 ?_
  refine L_iconst (pc := 838) (v := 5) h (by decide) dL_law_838 ?_
  obtain ⟨r2, hc1, hF⟩ := bd hF
  refine L_callV (pc := 839) (st := [.int s0]) h [.int (5 : Int32)] cvL_42 (c4_count (ad := ad) (z := X.1) hc1) rfl rfl lc_28 (by decide) (by decide) (Nat.le_of_ble_eq_true rfl) dL_law_839 (st1 := [.int r2, .int s0]) rfl ?_
  refine L_iload (pc := 842) h 18 rfl dL_law_842 ?_
  refine L_ishr (pc := 844) h dL_law_844 ?_
  refine L_iconst (pc := 845) (v := 1) h (by decide) dL_law_845 ?_
  refine L_iand (pc := 846) h dL_law_846 ?_
  refine L_iconst (pc := 847) (v := 1) h (by decide) dL_law_847 ?_
  refine L_icmp_ne (pc := 848) (tgt := 855) h dL_law_848 (by decide) (fun c3 => ?_) (fun c3 => ?_)
  · have hF := ifn c3 hF
    refine L_iconst (pc := 855) (v := 0) h (by decide) dL_law_855 ?_
    exact Lp_sub (nX := 0) (lv' := [(0, .ref (zB X.1)), (1, .ref (ad 28)), (2, .ref (ad 47)), (4, .int x4), (5, .int x5), (6, .int x6), (7, .int x7), (8, .int x8), (9, .int x9), (10, .int x10), (11, .int x11), (12, .int x12), (13, .int x13), (14, .int x14), (15, .int x15), (17, .int x17), (18, .int x18), (19, .int x19), (20, .int x20), (21, .int x21), (22, .int x22), (23, .int x23)]) [0, 1, 2, 3, 4, 5, 6, 7, 8, 9, 10, 11, 12, 13, 14, 15, 16, 17, 18, 19, 20, 21] rfl (w9_law_856 h (hk69 := hk69) (hk736 := hk736) (hF := hF))
  · have hF := itp c3 hF
    refine L_iconst (pc := 851) (v := 1) h (by decide) dL_law_851 ?_
    refine L_goto (pc := 852) (tgt := 856) h dL_law_852 (by decide) ?_
    exact Lp_sub (nX := 0) (lv' := [(0, .ref (zB X.1)), (1, .ref (ad 28)), (2, .ref (ad 47)), (4, .int x4), (5, .int x5), (6, .int x6), (7, .int x7), (8, .int x8), (9, .int x9), (10, .int x10), (11, .int x11), (12, .int x12), (13, .int x13), (14, .int x14), (15, .int x15), (17, .int x17), (18, .int x18), (19, .int x19), (20, .int x20), (21, .int x21), (22, .int x22), (23, .int x23)]) [0, 1, 2, 3, 4, 5, 6, 7, 8, 9, 10, 11, 12, 13, 14, 15, 16, 17, 18, 19, 20, 21] rfl (w9_law_856 h (hk69 := hk69) (hk736 := hk736) (hF := hF))
def f9_law_813 (sL : Nat) (sx : Nat → Int32) (fu : Nat) (k69 : Int32 → Int32 → Int32 → Int32 → Mem → Option (Mem × Int32)) (k736 : Int32 → Int32 → Int32 → Int32 → Int32 → Int32 → Int32 → Int32 → Int32 → Int32 → Int32 → Int32 → Int32 → Int32 → Int32 → Int32 → Mem → Option (Mem × Int32)) (x4 : Int32) (x5 : Int32) (x6 : Int32) (x7 : Int32) (x8 : Int32) (x9 : Int32) (x10 : Int32) (x11 : Int32) (x12 : Int32) (x13 : Int32) (x14 : Int32) (x15 : Int32) (x17 : Int32) (x18 : Int32) (x19 : Int32) (x20 : Int32) (x21 : Int32) (x22 : Int32) (x23 : Int32) (s0 : Int32) (s1 : Int32) (M : Mem) : Option (Mem × Int32) :=
    if s1 = s0 then ((f4_pin x20 (7 : Int32) M).bind fun ⟨M3, r4⟩ =>
    (f9_told_28 M3 r4).bind fun r6 =>
    if r6 = (1 : Int32) then ((f9_law_837 sL sx fu k69 k736 x4 x5 x6 x7 x8 x9 x10 x11 x12 x13 x14 x15 x17 x18 x19 x20 x21 x22 x23 (1 : Int32) M3))
    else ((f9_law_837 sL sx fu k69 k736 x4 x5 x6 x7 x8 x9 x10 x11 x12 x13 x14 x15 x17 x18 x19 x20 x21 x22 x23 (0 : Int32) M3)))
    else ((some (M, (0 : Int32))))
set_option maxHeartbeats 4000000 in
set_option maxRecDepth 10000 in
theorem w9_law_813 {ad : Nat → Nat} {X : XX} {R : Mem × Int32} {fu : Nat} {k69 : Int32 → Int32 → Int32 → Int32 → Mem → Option (Mem × Int32)} {k736 : Int32 → Int32 → Int32 → Int32 → Int32 → Int32 → Int32 → Int32 → Int32 → Int32 → Int32 → Int32 → Int32 → Int32 → Int32 → Int32 → Mem → Option (Mem × Int32)} (h : Lx layC ad X cL_law RL 30 9 (some .boolean) (R.1) (some (.int R.2))) (hk69 : ∀ (x4 : Int32) (x5 : Int32) (x6 : Int32) (x7 : Int32) (M : Mem), k69 x4 x5 x6 x7 M = some R → Lp layC ad X M 69 [(0, .ref (zB X.1)), (1, .ref (ad 28)), (2, .ref (ad 47)), (4, .int x4), (5, .int x5), (6, .int x6), (7, .int x7)] []) (hk736 : ∀ (x4 : Int32) (x5 : Int32) (x6 : Int32) (x7 : Int32) (x8 : Int32) (x9 : Int32) (x10 : Int32) (x11 : Int32) (x12 : Int32) (x13 : Int32) (x14 : Int32) (x15 : Int32) (x17 : Int32) (x18 : Int32) (x19 : Int32) (x20 : Int32) (M : Mem), k736 x4 x5 x6 x7 x8 x9 x10 x11 x12 x13 x14 x15 x17 x18 x19 x20 M = some R → Lp layC ad X M 736 [(0, .ref (zB X.1)), (1, .ref (ad 28)), (2, .ref (ad 47)), (4, .int x4), (5, .int x5), (6, .int x6), (7, .int x7), (8, .int x8), (9, .int x9), (10, .int x10), (11, .int x11), (12, .int x12), (13, .int x13), (14, .int x14), (15, .int x15), (17, .int x17), (18, .int x18), (19, .int x19), (20, .int x20)] []) {x4 : Int32} {x5 : Int32} {x6 : Int32} {x7 : Int32} {x8 : Int32} {x9 : Int32} {x10 : Int32} {x11 : Int32} {x12 : Int32} {x13 : Int32} {x14 : Int32} {x15 : Int32} {x17 : Int32} {x18 : Int32} {x19 : Int32} {x20 : Int32} {x21 : Int32} {x22 : Int32} {x23 : Int32} {s0 : Int32} {s1 : Int32} {M : Mem} (hF : f9_law_813 (zL X.1) (zX X.1) fu k69 k736 x4 x5 x6 x7 x8 x9 x10 x11 x12 x13 x14 x15 x17 x18 x19 x20 x21 x22 x23 s0 s1 M = some R) : Lp layC ad X M 813 [(0, .ref (zB X.1)), (1, .ref (ad 28)), (2, .ref (ad 47)), (4, .int x4), (5, .int x5), (6, .int x6), (7, .int x7), (8, .int x8), (9, .int x9), (10, .int x10), (11, .int x11), (12, .int x12), (13, .int x13), (14, .int x14), (15, .int x15), (17, .int x17), (18, .int x18), (19, .int x19), (20, .int x20), (21, .int x21), (22, .int x22), (23, .int x23)] [.int s0, .int s1] := by
  unfold f9_law_813 at hF
  refine L_icmp_ne (pc := 813) (tgt := 932) h dL_law_813 (by decide) (fun c1 => ?_) (fun c1 => ?_)
  · have hF := ifn c1 hF
    refine L_iconst (pc := 932) (v := 0) h (by decide) dL_law_932 ?_
    cases hF
    exact L_zreturn (pc := 933) h rfl zr0 rfl rfl dL_law_933
  · have hF := itp c1 hF
    refine L_aload_n (pc := 816) h 1 rfl rfl dL_law_816 ?_
    refine L_aload_n (pc := 817) h 1 rfl rfl dL_law_817 ?_
    refine L_iload (pc := 818) h 18 rfl dL_law_818 ?_
    refine L_bipush (pc := 820) (v := 7) h (by decide) dL_law_820 ?_
    obtain ⟨⟨M3, r4⟩, hc2, hF⟩ := bd hF
    refine L_callV (pc := 822) (st := [.ref (ad 28)]) h [.int x20, .int (7 : Int32)] cvL_88 (c4_pin (ad := ad) (z := X.1) hc2) rfl rfl lc_28 (by decide) (by decide) (Nat.le_of_ble_eq_true rfl) dL_law_822 (st1 := [.int r4, .ref (ad 28)]) rfl ?_
    obtain ⟨r6, hc5, hF⟩ := bd hF
    refine L_callS (pc := 825) (st := []) h [.ref (ad 28), .int r4] csL_91 (c9_told_28 (ad := ad) (z := X.1) hc5) rfl rfl (by decide) (by decide) (Nat.le_of_ble_eq_true rfl) dL_law_825 (st1 := [.int r6]) rfl ?_
    refine L_iconst (pc := 828) (v := 1) h (by decide) dL_law_828 ?_
    refine L_icmp_ne (pc := 829) (tgt := 836) h dL_law_829 (by decide) (fun c7 => ?_) (fun c7 => ?_)
    · have hF := ifn c7 hF
      refine L_iconst (pc := 836) (v := 0) h (by decide) dL_law_836 ?_
      exact Lp_sub (nX := 0) (lv' := [(0, .ref (zB X.1)), (1, .ref (ad 28)), (2, .ref (ad 47)), (4, .int x4), (5, .int x5), (6, .int x6), (7, .int x7), (8, .int x8), (9, .int x9), (10, .int x10), (11, .int x11), (12, .int x12), (13, .int x13), (14, .int x14), (15, .int x15), (17, .int x17), (18, .int x18), (19, .int x19), (20, .int x20), (21, .int x21), (22, .int x22), (23, .int x23)]) [0, 1, 2, 3, 4, 5, 6, 7, 8, 9, 10, 11, 12, 13, 14, 15, 16, 17, 18, 19, 20, 21] rfl (w9_law_837 h (hk69 := hk69) (hk736 := hk736) (hF := hF))
    · have hF := itp c7 hF
      refine L_iconst (pc := 832) (v := 1) h (by decide) dL_law_832 ?_
      refine L_goto (pc := 833) (tgt := 837) h dL_law_833 (by decide) ?_
      exact Lp_sub (nX := 0) (lv' := [(0, .ref (zB X.1)), (1, .ref (ad 28)), (2, .ref (ad 47)), (4, .int x4), (5, .int x5), (6, .int x6), (7, .int x7), (8, .int x8), (9, .int x9), (10, .int x10), (11, .int x11), (12, .int x12), (13, .int x13), (14, .int x14), (15, .int x15), (17, .int x17), (18, .int x18), (19, .int x19), (20, .int x20), (21, .int x21), (22, .int x22), (23, .int x23)]) [0, 1, 2, 3, 4, 5, 6, 7, 8, 9, 10, 11, 12, 13, 14, 15, 16, 17, 18, 19, 20, 21] rfl (w9_law_837 h (hk69 := hk69) (hk736 := hk736) (hF := hF))
def f9_law_788 (sL : Nat) (sx : Nat → Int32) (fu : Nat) (k69 : Int32 → Int32 → Int32 → Int32 → Mem → Option (Mem × Int32)) (k736 : Int32 → Int32 → Int32 → Int32 → Int32 → Int32 → Int32 → Int32 → Int32 → Int32 → Int32 → Int32 → Int32 → Int32 → Int32 → Int32 → Mem → Option (Mem × Int32)) (x4 : Int32) (x5 : Int32) (x6 : Int32) (x7 : Int32) (x8 : Int32) (x9 : Int32) (x10 : Int32) (x11 : Int32) (x12 : Int32) (x13 : Int32) (x14 : Int32) (x15 : Int32) (x17 : Int32) (x18 : Int32) (x19 : Int32) (x20 : Int32) (x21 : Int32) (x22 : Int32) (s0 : Int32) (M : Mem) : Option (Mem × Int32) :=
    (f4_pin x20 (6 : Int32) M).bind fun ⟨M2, r3⟩ =>
    (f9_told_28 M2 r3).bind fun r5 =>
    if r5 = (1 : Int32) then ((f9_law_813 sL sx fu k69 k736 x4 x5 x6 x7 x8 x9 x10 x11 x12 x13 x14 x15 x17 x18 x19 x20 x21 x22 s0 (1 : Int32) s0 M2))
    else ((f9_law_813 sL sx fu k69 k736 x4 x5 x6 x7 x8 x9 x10 x11 x12 x13 x14 x15 x17 x18 x19 x20 x21 x22 s0 (0 : Int32) s0 M2))
set_option maxHeartbeats 4000000 in
set_option maxRecDepth 10000 in
theorem w9_law_788 {ad : Nat → Nat} {X : XX} {R : Mem × Int32} {fu : Nat} {k69 : Int32 → Int32 → Int32 → Int32 → Mem → Option (Mem × Int32)} {k736 : Int32 → Int32 → Int32 → Int32 → Int32 → Int32 → Int32 → Int32 → Int32 → Int32 → Int32 → Int32 → Int32 → Int32 → Int32 → Int32 → Mem → Option (Mem × Int32)} (h : Lx layC ad X cL_law RL 30 9 (some .boolean) (R.1) (some (.int R.2))) (hk69 : ∀ (x4 : Int32) (x5 : Int32) (x6 : Int32) (x7 : Int32) (M : Mem), k69 x4 x5 x6 x7 M = some R → Lp layC ad X M 69 [(0, .ref (zB X.1)), (1, .ref (ad 28)), (2, .ref (ad 47)), (4, .int x4), (5, .int x5), (6, .int x6), (7, .int x7)] []) (hk736 : ∀ (x4 : Int32) (x5 : Int32) (x6 : Int32) (x7 : Int32) (x8 : Int32) (x9 : Int32) (x10 : Int32) (x11 : Int32) (x12 : Int32) (x13 : Int32) (x14 : Int32) (x15 : Int32) (x17 : Int32) (x18 : Int32) (x19 : Int32) (x20 : Int32) (M : Mem), k736 x4 x5 x6 x7 x8 x9 x10 x11 x12 x13 x14 x15 x17 x18 x19 x20 M = some R → Lp layC ad X M 736 [(0, .ref (zB X.1)), (1, .ref (ad 28)), (2, .ref (ad 47)), (4, .int x4), (5, .int x5), (6, .int x6), (7, .int x7), (8, .int x8), (9, .int x9), (10, .int x10), (11, .int x11), (12, .int x12), (13, .int x13), (14, .int x14), (15, .int x15), (17, .int x17), (18, .int x18), (19, .int x19), (20, .int x20)] []) {x4 : Int32} {x5 : Int32} {x6 : Int32} {x7 : Int32} {x8 : Int32} {x9 : Int32} {x10 : Int32} {x11 : Int32} {x12 : Int32} {x13 : Int32} {x14 : Int32} {x15 : Int32} {x17 : Int32} {x18 : Int32} {x19 : Int32} {x20 : Int32} {x21 : Int32} {x22 : Int32} {s0 : Int32} {M : Mem} (hF : f9_law_788 (zL X.1) (zX X.1) fu k69 k736 x4 x5 x6 x7 x8 x9 x10 x11 x12 x13 x14 x15 x17 x18 x19 x20 x21 x22 s0 M = some R) : Lp layC ad X M 788 [(0, .ref (zB X.1)), (1, .ref (ad 28)), (2, .ref (ad 47)), (4, .int x4), (5, .int x5), (6, .int x6), (7, .int x7), (8, .int x8), (9, .int x9), (10, .int x10), (11, .int x11), (12, .int x12), (13, .int x13), (14, .int x14), (15, .int x15), (17, .int x17), (18, .int x18), (19, .int x19), (20, .int x20), (21, .int x21), (22, .int x22)] [.int s0] := by
  unfold f9_law_788 at hF
  refine L_istore (pc := 788) (lv' := [(23, .int s0), (0, .ref (zB X.1)), (1, .ref (ad 28)), (2, .ref (ad 47)), (4, .int x4), (5, .int x5), (6, .int x6), (7, .int x7), (8, .int x8), (9, .int x9), (10, .int x10), (11, .int x11), (12, .int x12), (13, .int x13), (14, .int x14), (15, .int x15), (17, .int x17), (18, .int x18), (19, .int x19), (20, .int x20), (21, .int x21), (22, .int x22)]) h rfl (by decide) rfl dL_law_788 ?_
  refine L_iload (pc := 790) h 0 rfl dL_law_790 ?_
  refine L_aload_n (pc := 792) h 2 rfl rfl dL_law_792 ?_
  refine L_aload_n (pc := 793) h 2 rfl rfl dL_law_793 ?_
  refine L_iload (pc := 794) h 19 rfl dL_law_794 ?_
  refine L_bipush (pc := 796) (v := 6) h (by decide) dL_law_796 ?_
  obtain ⟨⟨M2, r3⟩, hc1, hF⟩ := bd hF
  refine L_callV (pc := 798) (st := [.ref (ad 28), .int s0]) h [.int x20, .int (6 : Int32)] cvL_88 (c4_pin (ad := ad) (z := X.1) hc1) rfl rfl lc_28 (by decide) (by decide) (Nat.le_of_ble_eq_true rfl) dL_law_798 (st1 := [.int r3, .ref (ad 28), .int s0]) rfl ?_
  obtain ⟨r5, hc4, hF⟩ := bd hF
  refine L_callS (pc := 801) (st := [.int s0]) h [.ref (ad 28), .int r3] csL_91 (c9_told_28 (ad := ad) (z := X.1) hc4) rfl rfl (by decide) (by decide) (Nat.le_of_ble_eq_true rfl) dL_law_801 (st1 := [.int r5, .int s0]) rfl ?_
  refine L_iconst (pc := 804) (v := 1) h (by decide) dL_law_804 ?_
  refine L_icmp_ne (pc := 805) (tgt := 812) h dL_law_805 (by decide) (fun c6 => ?_) (fun c6 => ?_)
  · have hF := ifn c6 hF
    refine L_iconst (pc := 812) (v := 0) h (by decide) dL_law_812 ?_
    exact Lp_sub (nX := 0) (lv' := [(0, .ref (zB X.1)), (1, .ref (ad 28)), (2, .ref (ad 47)), (4, .int x4), (5, .int x5), (6, .int x6), (7, .int x7), (8, .int x8), (9, .int x9), (10, .int x10), (11, .int x11), (12, .int x12), (13, .int x13), (14, .int x14), (15, .int x15), (17, .int x17), (18, .int x18), (19, .int x19), (20, .int x20), (21, .int x21), (22, .int x22), (23, .int s0)]) [1, 2, 3, 4, 5, 6, 7, 8, 9, 10, 11, 12, 13, 14, 15, 16, 17, 18, 19, 20, 21, 0] rfl (w9_law_813 h (hk69 := hk69) (hk736 := hk736) (hF := hF))
  · have hF := itp c6 hF
    refine L_iconst (pc := 808) (v := 1) h (by decide) dL_law_808 ?_
    refine L_goto (pc := 809) (tgt := 813) h dL_law_809 (by decide) ?_
    exact Lp_sub (nX := 0) (lv' := [(0, .ref (zB X.1)), (1, .ref (ad 28)), (2, .ref (ad 47)), (4, .int x4), (5, .int x5), (6, .int x6), (7, .int x7), (8, .int x8), (9, .int x9), (10, .int x10), (11, .int x11), (12, .int x12), (13, .int x13), (14, .int x14), (15, .int x15), (17, .int x17), (18, .int x18), (19, .int x19), (20, .int x20), (21, .int x21), (22, .int x22), (23, .int s0)]) [1, 2, 3, 4, 5, 6, 7, 8, 9, 10, 11, 12, 13, 14, 15, 16, 17, 18, 19, 20, 21, 0] rfl (w9_law_813 h (hk69 := hk69) (hk736 := hk736) (hF := hF))
def f9_law_736 (sL : Nat) (sx : Nat → Int32) (fu : Nat) (k69 : Int32 → Int32 → Int32 → Int32 → Mem → Option (Mem × Int32)) : Nat → Int32 → Int32 → Int32 → Int32 → Int32 → Int32 → Int32 → Int32 → Int32 → Int32 → Int32 → Int32 → Int32 → Int32 → Int32 → Int32 → Mem → Option (Mem × Int32)
  | 0 => fun _ _ _ _ _ _ _ _ _ _ _ _ _ _ _ _ _ => none
  | f + 1 => fun x4 x5 x6 x7 x8 x9 x10 x11 x12 x13 x14 x15 x17 x18 x19 x20 M =>
    if x4 ≤ x20 then ((f4_busy fu M).bind fun ⟨M3, r4⟩ =>
    if r4 = x18 then ((f4_asked M3).bind fun r7 =>
    if (r7 &&& (x18 ^^^ (-1 : Int32))) = 0 then ((f4_clashes fu M3).bind fun ⟨M10, r11⟩ =>
    if r11 < 0 then ((some (M10, (0 : Int32))))
    else ((f4_asked M10).bind fun r14 =>
    if r14 = x19 then (if x17 = 0 then (nm (x7 + (1 : Int32)) fun v17 =>
    (k69 x4 x5 x6 v17 M10))
    else ((f9_part (x8 >>> ((20 : Int32) &&& 31)) (4 : Int32)).bind fun r19 =>
    if r19 ≤ 0 then ((f4_undo fu x9 M10).bind fun ⟨M22, r23⟩ =>
    if r23 = (1 : Int32) then ((f4_count M22 fu (2 : Int32)).bind fun r26 =>
    if r26 = x9 then ((f4_count M22 fu (1 : Int32)).bind fun r29 =>
    if r29 = x10 then ((f4_count M22 fu (3 : Int32)).bind fun r32 =>
    if r32 = x11 then ((f4_count M22 fu (4 : Int32)).bind fun r35 =>
    if r35 = x12 then ((f4_count M22 fu (5 : Int32)).bind fun r38 =>
    if r38 = x13 then ((f4_pin x14 (1 : Int32) M22).bind fun ⟨M41, r42⟩ =>
    (f9_told_28 M41 r42).bind fun r44 =>
    if r44 = x15 then (nm (x7 + (1 : Int32)) fun v46 =>
    (k69 x4 x5 x6 v46 M41))
    else ((some (M41, (0 : Int32)))))
    else ((some (M22, (0 : Int32)))))
    else ((some (M22, (0 : Int32)))))
    else ((some (M22, (0 : Int32)))))
    else ((some (M22, (0 : Int32)))))
    else ((some (M22, (0 : Int32)))))
    else ((some (M22, (0 : Int32)))))
    else (nm (x7 + (1 : Int32)) fun v47 =>
    (k69 x4 x5 x6 v47 M10))))
    else ((some (M10, (0 : Int32))))))
    else ((some (M3, (0 : Int32)))))
    else ((some (M3, (0 : Int32)))))
    else ((f4_pin x20 (1 : Int32) M).bind fun ⟨M49, r50⟩ =>
    (f9_told_28 M49 r50).bind fun r52 =>
    (f4_pin x20 (2 : Int32) M49).bind fun ⟨M54, r55⟩ =>
    (f9_told_28 M54 r55).bind fun r57 =>
    (f4_count M54 fu (3 : Int32)).bind fun r59 =>
    if ((r59 >>> (x20 &&& 31)) &&& (1 : Int32)) = (1 : Int32) then ((f9_law_788 sL sx fu k69 (f9_law_736 sL sx fu k69 f) x4 x5 x6 x7 x8 x9 x10 x11 x12 x13 x14 x15 x17 x18 x19 x20 r52 r57 (1 : Int32) M54))
    else ((f9_law_788 sL sx fu k69 (f9_law_736 sL sx fu k69 f) x4 x5 x6 x7 x8 x9 x10 x11 x12 x13 x14 x15 x17 x18 x19 x20 r52 r57 (0 : Int32) M54)))
set_option maxHeartbeats 4000000 in
set_option maxRecDepth 10000 in
theorem w9_lawi_736 {ad : Nat → Nat} {X : XX} {R : Mem × Int32} {fu : Nat} {k69 : Int32 → Int32 → Int32 → Int32 → Mem → Option (Mem × Int32)} (h : Lx layC ad X cL_law RL 30 9 (some .boolean) (R.1) (some (.int R.2))) (hk69 : ∀ (x4 : Int32) (x5 : Int32) (x6 : Int32) (x7 : Int32) (M : Mem), k69 x4 x5 x6 x7 M = some R → Lp layC ad X M 69 [(0, .ref (zB X.1)), (1, .ref (ad 28)), (2, .ref (ad 47)), (4, .int x4), (5, .int x5), (6, .int x6), (7, .int x7)] []) : ∀ (f : Nat) (x4 : Int32) (x5 : Int32) (x6 : Int32) (x7 : Int32) (x8 : Int32) (x9 : Int32) (x10 : Int32) (x11 : Int32) (x12 : Int32) (x13 : Int32) (x14 : Int32) (x15 : Int32) (x17 : Int32) (x18 : Int32) (x19 : Int32) (x20 : Int32) (M : Mem), f9_law_736 (zL X.1) (zX X.1) fu k69 f x4 x5 x6 x7 x8 x9 x10 x11 x12 x13 x14 x15 x17 x18 x19 x20 M = some R → Lp layC ad X M 736 [(0, .ref (zB X.1)), (1, .ref (ad 28)), (2, .ref (ad 47)), (4, .int x4), (5, .int x5), (6, .int x6), (7, .int x7), (8, .int x8), (9, .int x9), (10, .int x10), (11, .int x11), (12, .int x12), (13, .int x13), (14, .int x14), (15, .int x15), (17, .int x17), (18, .int x18), (19, .int x19), (20, .int x20)] [] := by
  intro f
  induction f with
  | zero => intro x4 x5 x6 x7 x8 x9 x10 x11 x12 x13 x14 x15 x17 x18 x19 x20 M hF; exact absurd hF (by simp [f9_law_736])
  | succ f ih =>
    intro x4 x5 x6 x7 x8 x9 x10 x11 x12 x13 x14 x15 x17 x18 x19 x20 M hF
    rw [f9_law_736] at hF
    refine L_iload (pc := 736) h 18 rfl dL_law_736 ?_
    refine L_iload (pc := 738) h 3 rfl dL_law_738 ?_
    refine L_icmp_ge (pc := 740) (tgt := 981) h dL_law_740 (by decide) (fun c1 => ?_) (fun c1 => ?_)
    · have hF := itp c1 hF
      refine L_aload_n (pc := 981) h 1 rfl rfl dL_law_981 ?_
      obtain ⟨⟨M3, r4⟩, hc2, hF⟩ := bd hF
      refine L_callV (pc := 982) (st := []) h [] cvL_98 (c4_busy (ad := ad) (z := X.1) hc2) rfl rfl lc_28 (by decide) (by decide) (Nat.le_of_ble_eq_true rfl) dL_law_982 (st1 := [.int r4]) rfl ?_
      refine L_iload (pc := 985) h 16 rfl dL_law_985 ?_
      refine L_icmp_ne (pc := 987) (tgt := 1018) h dL_law_987 (by decide) (fun c5 => ?_) (fun c5 => ?_)
      · have hF := ifn c5 hF
        refine L_iconst (pc := 1018) (v := 0) h (by decide) dL_law_1018 ?_
        cases hF
        exact L_zreturn (pc := 1019) h rfl zr0 rfl rfl dL_law_1019
      · have hF := itp c5 hF
        refine L_aload_n (pc := 990) h 1 rfl rfl dL_law_990 ?_
        obtain ⟨r7, hc6, hF⟩ := bd hF
        refine L_callV (pc := 991) (st := []) h [] cvL_101 (c4_asked (ad := ad) (z := X.1) hc6) rfl rfl lc_28 (by decide) (by decide) (Nat.le_of_ble_eq_true rfl) dL_law_991 (st1 := [.int r7]) rfl ?_
        refine L_iload (pc := 994) h 16 rfl dL_law_994 ?_
        refine L_iconst (pc := 996) (v := (-1)) h (by decide) dL_law_996 ?_
        refine L_ixor (pc := 997) h dL_law_997 ?_
        refine L_iand (pc := 998) h dL_law_998 ?_
        refine L_if_ne (pc := 999) (tgt := 1018) h dL_law_999 (by decide) (fun c8 => ?_) (fun c8 => ?_)
        · have hF := ifn c8 hF
          refine L_iconst (pc := 1018) (v := 0) h (by decide) dL_law_1018 ?_
          cases hF
          exact L_zreturn (pc := 1019) h rfl zr0 rfl rfl dL_law_1019
        · have hF := itp c8 hF
          refine L_aload_n (pc := 1002) h 1 rfl rfl dL_law_1002 ?_
          obtain ⟨⟨M10, r11⟩, hc9, hF⟩ := bd hF
          refine L_callV (pc := 1003) (st := []) h [] cvL_104 (c4_clashes (ad := ad) (z := X.1) hc9) rfl rfl lc_28 (by decide) (by decide) (Nat.le_of_ble_eq_true rfl) dL_law_1003 (st1 := [.int r11]) rfl ?_
          refine L_if_lt (pc := 1006) (tgt := 1018) h dL_law_1006 (by decide) (fun c12 => ?_) (fun c12 => ?_)
          · have hF := itp c12 hF
            refine L_iconst (pc := 1018) (v := 0) h (by decide) dL_law_1018 ?_
            cases hF
            exact L_zreturn (pc := 1019) h rfl zr0 rfl rfl dL_law_1019
          · have hF := ifn c12 hF
            refine L_aload_n (pc := 1009) h 1 rfl rfl dL_law_1009 ?_
            obtain ⟨r14, hc13, hF⟩ := bd hF
            refine L_callV (pc := 1010) (st := []) h [] cvL_101 (c4_asked (ad := ad) (z := X.1) hc13) rfl rfl lc_28 (by decide) (by decide) (Nat.le_of_ble_eq_true rfl) dL_law_1010 (st1 := [.int r14]) rfl ?_
            refine L_iload (pc := 1013) h 17 rfl dL_law_1013 ?_
            refine L_icmp_eq (pc := 1015) (tgt := 1020) h dL_law_1015 (by decide) (fun c15 => ?_) (fun c15 => ?_)
            · have hF := itp c15 hF
              refine L_iload (pc := 1020) h 15 rfl dL_law_1020 ?_
              refine L_if_eq (pc := 1022) (tgt := 1118) h dL_law_1022 (by decide) (fun c16 => ?_) (fun c16 => ?_)
              · have hF := itp c16 hF
                obtain ⟨v17, hv17, hF⟩ := nm_e2 hF
                refine L_iinc (pc := 1118) (lv' := [(7, .int v17), (0, .ref (zB X.1)), (1, .ref (ad 28)), (2, .ref (ad 47)), (4, .int x4), (5, .int x5), (6, .int x6), (8, .int x8), (9, .int x9), (10, .int x10), (11, .int x11), (12, .int x12), (13, .int x13), (14, .int x14), (15, .int x15), (17, .int x17), (18, .int x18), (19, .int x19), (20, .int x20)]) h 6 rfl (by decide) hv17 (by decide) rfl dL_law_1118 ?_
                refine L_goto (pc := 1121) (tgt := 69) h dL_law_1121 (by decide) ?_
                exact Lp_sub (nX := 0) (lv' := [(0, .ref (zB X.1)), (1, .ref (ad 28)), (2, .ref (ad 47)), (4, .int x4), (5, .int x5), (6, .int x6), (7, .int v17)]) [1, 2, 3, 4, 5, 6, 0] rfl (hk69 _ _ _ _ _ hF)
              · have hF := ifn c16 hF
                refine L_iload (pc := 1025) h 7 rfl dL_law_1025 ?_
                refine L_bipush (pc := 1027) (v := 20) h (by decide) dL_law_1027 ?_
                refine L_ishr (pc := 1029) h dL_law_1029 ?_
                refine L_iconst (pc := 1030) (v := 4) h (by decide) dL_law_1030 ?_
                obtain ⟨r19, hc18, hF⟩ := bd hF
                refine L_callS (pc := 1031) (st := []) h [.int (x8 >>> ((20 : Int32) &&& 31)), .int (4 : Int32)] csL_21 (c9_part (ad := ad) (z := X.1) (M := M10) hc18) rfl rfl (by decide) (by decide) (Nat.le_of_ble_eq_true rfl) dL_law_1031 (st1 := [.int r19]) rfl ?_
                refine L_if_le (pc := 1034) (tgt := 1040) h dL_law_1034 (by decide) (fun c20 => ?_) (fun c20 => ?_)
                · have hF := itp c20 hF
                  refine L_aload_n (pc := 1040) h 1 rfl rfl dL_law_1040 ?_
                  refine L_iload (pc := 1041) h 8 rfl dL_law_1041 ?_
                  obtain ⟨⟨M22, r23⟩, hc21, hF⟩ := bd hF
                  refine L_callV (pc := 1043) (st := []) h [.int x9] cvL_107 (c4_undo (ad := ad) (z := X.1) hc21) rfl rfl lc_28 (by decide) (by decide) (Nat.le_of_ble_eq_true rfl) dL_law_1043 (st1 := [.int r23]) rfl ?_
                  refine L_iconst (pc := 1046) (v := 1) h (by decide) dL_law_1046 ?_
                  refine L_icmp_ne (pc := 1047) (tgt := 1116) h dL_law_1047 (by decide) (fun c24 => ?_) (fun c24 => ?_)
                  · have hF := ifn c24 hF
                    refine L_iconst (pc := 1116) (v := 0) h (by decide) dL_law_1116 ?_
                    cases hF
                    exact L_zreturn (pc := 1117) h rfl zr0 rfl rfl dL_law_1117
                  · have hF := itp c24 hF
                    refine L_aload_n (pc := 1050) h 1 rfl rfl dL_law_1050 ?_
                    refine L_iconst (pc := 1051) (v := 2) h (by decide) dL_law_1051 ?_
                    obtain ⟨r26, hc25, hF⟩ := bd hF
                    refine L_callV (pc := 1052) (st := []) h [.int (2 : Int32)] cvL_42 (c4_count (ad := ad) (z := X.1) hc25) rfl rfl lc_28 (by decide) (by decide) (Nat.le_of_ble_eq_true rfl) dL_law_1052 (st1 := [.int r26]) rfl ?_
                    refine L_iload (pc := 1055) h 8 rfl dL_law_1055 ?_
                    refine L_icmp_ne (pc := 1057) (tgt := 1116) h dL_law_1057 (by decide) (fun c27 => ?_) (fun c27 => ?_)
                    · have hF := ifn c27 hF
                      refine L_iconst (pc := 1116) (v := 0) h (by decide) dL_law_1116 ?_
                      cases hF
                      exact L_zreturn (pc := 1117) h rfl zr0 rfl rfl dL_law_1117
                    · have hF := itp c27 hF
                      refine L_aload_n (pc := 1060) h 1 rfl rfl dL_law_1060 ?_
                      refine L_iconst (pc := 1061) (v := 1) h (by decide) dL_law_1061 ?_
                      obtain ⟨r29, hc28, hF⟩ := bd hF
                      refine L_callV (pc := 1062) (st := []) h [.int (1 : Int32)] cvL_42 (c4_count (ad := ad) (z := X.1) hc28) rfl rfl lc_28 (by decide) (by decide) (Nat.le_of_ble_eq_true rfl) dL_law_1062 (st1 := [.int r29]) rfl ?_
                      refine L_iload (pc := 1065) h 9 rfl dL_law_1065 ?_
                      refine L_icmp_ne (pc := 1067) (tgt := 1116) h dL_law_1067 (by decide) (fun c30 => ?_) (fun c30 => ?_)
                      · have hF := ifn c30 hF
                        refine L_iconst (pc := 1116) (v := 0) h (by decide) dL_law_1116 ?_
                        cases hF
                        exact L_zreturn (pc := 1117) h rfl zr0 rfl rfl dL_law_1117
                      · have hF := itp c30 hF
                        refine L_aload_n (pc := 1070) h 1 rfl rfl dL_law_1070 ?_
                        refine L_iconst (pc := 1071) (v := 3) h (by decide) dL_law_1071 ?_
                        obtain ⟨r32, hc31, hF⟩ := bd hF
                        refine L_callV (pc := 1072) (st := []) h [.int (3 : Int32)] cvL_42 (c4_count (ad := ad) (z := X.1) hc31) rfl rfl lc_28 (by decide) (by decide) (Nat.le_of_ble_eq_true rfl) dL_law_1072 (st1 := [.int r32]) rfl ?_
                        refine L_iload (pc := 1075) h 10 rfl dL_law_1075 ?_
                        refine L_icmp_ne (pc := 1077) (tgt := 1116) h dL_law_1077 (by decide) (fun c33 => ?_) (fun c33 => ?_)
                        · have hF := ifn c33 hF
                          refine L_iconst (pc := 1116) (v := 0) h (by decide) dL_law_1116 ?_
                          cases hF
                          exact L_zreturn (pc := 1117) h rfl zr0 rfl rfl dL_law_1117
                        · have hF := itp c33 hF
                          refine L_aload_n (pc := 1080) h 1 rfl rfl dL_law_1080 ?_
                          refine L_iconst (pc := 1081) (v := 4) h (by decide) dL_law_1081 ?_
                          obtain ⟨r35, hc34, hF⟩ := bd hF
                          refine L_callV (pc := 1082) (st := []) h [.int (4 : Int32)] cvL_42 (c4_count (ad := ad) (z := X.1) hc34) rfl rfl lc_28 (by decide) (by decide) (Nat.le_of_ble_eq_true rfl) dL_law_1082 (st1 := [.int r35]) rfl ?_
                          refine L_iload (pc := 1085) h 11 rfl dL_law_1085 ?_
                          refine L_icmp_ne (pc := 1087) (tgt := 1116) h dL_law_1087 (by decide) (fun c36 => ?_) (fun c36 => ?_)
                          · have hF := ifn c36 hF
                            refine L_iconst (pc := 1116) (v := 0) h (by decide) dL_law_1116 ?_
                            cases hF
                            exact L_zreturn (pc := 1117) h rfl zr0 rfl rfl dL_law_1117
                          · have hF := itp c36 hF
                            refine L_aload_n (pc := 1090) h 1 rfl rfl dL_law_1090 ?_
                            refine L_iconst (pc := 1091) (v := 5) h (by decide) dL_law_1091 ?_
                            obtain ⟨r38, hc37, hF⟩ := bd hF
                            refine L_callV (pc := 1092) (st := []) h [.int (5 : Int32)] cvL_42 (c4_count (ad := ad) (z := X.1) hc37) rfl rfl lc_28 (by decide) (by decide) (Nat.le_of_ble_eq_true rfl) dL_law_1092 (st1 := [.int r38]) rfl ?_
                            refine L_iload (pc := 1095) h 12 rfl dL_law_1095 ?_
                            refine L_icmp_ne (pc := 1097) (tgt := 1116) h dL_law_1097 (by decide) (fun c39 => ?_) (fun c39 => ?_)
                            · have hF := ifn c39 hF
                              refine L_iconst (pc := 1116) (v := 0) h (by decide) dL_law_1116 ?_
                              cases hF
                              exact L_zreturn (pc := 1117) h rfl zr0 rfl rfl dL_law_1117
                            · have hF := itp c39 hF
                              refine L_aload_n (pc := 1100) h 1 rfl rfl dL_law_1100 ?_
                              refine L_aload_n (pc := 1101) h 1 rfl rfl dL_law_1101 ?_
                              refine L_iload (pc := 1102) h 13 rfl dL_law_1102 ?_
                              refine L_iconst (pc := 1104) (v := 1) h (by decide) dL_law_1104 ?_
                              obtain ⟨⟨M41, r42⟩, hc40, hF⟩ := bd hF
                              refine L_callV (pc := 1105) (st := [.ref (ad 28)]) h [.int x14, .int (1 : Int32)] cvL_88 (c4_pin (ad := ad) (z := X.1) hc40) rfl rfl lc_28 (by decide) (by decide) (Nat.le_of_ble_eq_true rfl) dL_law_1105 (st1 := [.int r42, .ref (ad 28)]) rfl ?_
                              obtain ⟨r44, hc43, hF⟩ := bd hF
                              refine L_callS (pc := 1108) (st := []) h [.ref (ad 28), .int r42] csL_91 (c9_told_28 (ad := ad) (z := X.1) hc43) rfl rfl (by decide) (by decide) (Nat.le_of_ble_eq_true rfl) dL_law_1108 (st1 := [.int r44]) rfl ?_
                              refine L_iload (pc := 1111) h 14 rfl dL_law_1111 ?_
                              refine L_icmp_eq (pc := 1113) (tgt := 1118) h dL_law_1113 (by decide) (fun c45 => ?_) (fun c45 => ?_)
                              · have hF := itp c45 hF
                                obtain ⟨v46, hv46, hF⟩ := nm_e2 hF
                                refine L_iinc (pc := 1118) (lv' := [(7, .int v46), (0, .ref (zB X.1)), (1, .ref (ad 28)), (2, .ref (ad 47)), (4, .int x4), (5, .int x5), (6, .int x6), (8, .int x8), (9, .int x9), (10, .int x10), (11, .int x11), (12, .int x12), (13, .int x13), (14, .int x14), (15, .int x15), (17, .int x17), (18, .int x18), (19, .int x19), (20, .int x20)]) h 6 rfl (by decide) hv46 (by decide) rfl dL_law_1118 ?_
                                refine L_goto (pc := 1121) (tgt := 69) h dL_law_1121 (by decide) ?_
                                exact Lp_sub (nX := 0) (lv' := [(0, .ref (zB X.1)), (1, .ref (ad 28)), (2, .ref (ad 47)), (4, .int x4), (5, .int x5), (6, .int x6), (7, .int v46)]) [1, 2, 3, 4, 5, 6, 0] rfl (hk69 _ _ _ _ _ hF)
                              · have hF := ifn c45 hF
                                refine L_iconst (pc := 1116) (v := 0) h (by decide) dL_law_1116 ?_
                                cases hF
                                exact L_zreturn (pc := 1117) h rfl zr0 rfl rfl dL_law_1117
                · have hF := ifn c20 hF
                  refine L_goto (pc := 1037) (tgt := 1118) h dL_law_1037 (by decide) ?_
                  obtain ⟨v47, hv47, hF⟩ := nm_e2 hF
                  refine L_iinc (pc := 1118) (lv' := [(7, .int v47), (0, .ref (zB X.1)), (1, .ref (ad 28)), (2, .ref (ad 47)), (4, .int x4), (5, .int x5), (6, .int x6), (8, .int x8), (9, .int x9), (10, .int x10), (11, .int x11), (12, .int x12), (13, .int x13), (14, .int x14), (15, .int x15), (17, .int x17), (18, .int x18), (19, .int x19), (20, .int x20)]) h 6 rfl (by decide) hv47 (by decide) rfl dL_law_1118 ?_
                  refine L_goto (pc := 1121) (tgt := 69) h dL_law_1121 (by decide) ?_
                  exact Lp_sub (nX := 0) (lv' := [(0, .ref (zB X.1)), (1, .ref (ad 28)), (2, .ref (ad 47)), (4, .int x4), (5, .int x5), (6, .int x6), (7, .int v47)]) [1, 2, 3, 4, 5, 6, 0] rfl (hk69 _ _ _ _ _ hF)
            · have hF := ifn c15 hF
              refine L_iconst (pc := 1018) (v := 0) h (by decide) dL_law_1018 ?_
              cases hF
              exact L_zreturn (pc := 1019) h rfl zr0 rfl rfl dL_law_1019
    · have hF := ifn c1 hF
      refine L_aload_n (pc := 743) h 1 rfl rfl dL_law_743 ?_
      refine L_aload_n (pc := 744) h 1 rfl rfl dL_law_744 ?_
      refine L_iload (pc := 745) h 18 rfl dL_law_745 ?_
      refine L_iconst (pc := 747) (v := 1) h (by decide) dL_law_747 ?_
      obtain ⟨⟨M49, r50⟩, hc48, hF⟩ := bd hF
      refine L_callV (pc := 748) (st := [.ref (ad 28)]) h [.int x20, .int (1 : Int32)] cvL_88 (c4_pin (ad := ad) (z := X.1) hc48) rfl rfl lc_28 (by decide) (by decide) (Nat.le_of_ble_eq_true rfl) dL_law_748 (st1 := [.int r50, .ref (ad 28)]) rfl ?_
      obtain ⟨r52, hc51, hF⟩ := bd hF
      refine L_callS (pc := 751) (st := []) h [.ref (ad 28), .int r50] csL_91 (c9_told_28 (ad := ad) (z := X.1) hc51) rfl rfl (by decide) (by decide) (Nat.le_of_ble_eq_true rfl) dL_law_751 (st1 := [.int r52]) rfl ?_
      refine L_istore (pc := 754) (lv' := [(21, .int r52), (0, .ref (zB X.1)), (1, .ref (ad 28)), (2, .ref (ad 47)), (4, .int x4), (5, .int x5), (6, .int x6), (7, .int x7), (8, .int x8), (9, .int x9), (10, .int x10), (11, .int x11), (12, .int x12), (13, .int x13), (14, .int x14), (15, .int x15), (17, .int x17), (18, .int x18), (19, .int x19), (20, .int x20)]) h rfl (by decide) rfl dL_law_754 ?_
      refine L_aload_n (pc := 756) h 2 rfl rfl dL_law_756 ?_
      refine L_aload_n (pc := 757) h 2 rfl rfl dL_law_757 ?_
      refine L_iload (pc := 758) h 19 rfl dL_law_758 ?_
      refine L_iconst (pc := 760) (v := 2) h (by decide) dL_law_760 ?_
      obtain ⟨⟨M54, r55⟩, hc53, hF⟩ := bd hF
      refine L_callV (pc := 761) (st := [.ref (ad 28)]) h [.int x20, .int (2 : Int32)] cvL_88 (c4_pin (ad := ad) (z := X.1) hc53) rfl rfl lc_28 (by decide) (by decide) (Nat.le_of_ble_eq_true rfl) dL_law_761 (st1 := [.int r55, .ref (ad 28)]) rfl ?_
      obtain ⟨r57, hc56, hF⟩ := bd hF
      refine L_callS (pc := 764) (st := []) h [.ref (ad 28), .int r55] csL_91 (c9_told_28 (ad := ad) (z := X.1) hc56) rfl rfl (by decide) (by decide) (Nat.le_of_ble_eq_true rfl) dL_law_764 (st1 := [.int r57]) rfl ?_
      refine L_istore (pc := 767) (lv' := [(22, .int r57), (21, .int r52), (0, .ref (zB X.1)), (1, .ref (ad 28)), (2, .ref (ad 47)), (4, .int x4), (5, .int x5), (6, .int x6), (7, .int x7), (8, .int x8), (9, .int x9), (10, .int x10), (11, .int x11), (12, .int x12), (13, .int x13), (14, .int x14), (15, .int x15), (17, .int x17), (18, .int x18), (19, .int x19), (20, .int x20)]) h rfl (by decide) rfl dL_law_767 ?_
      refine L_aload_n (pc := 769) h 3 rfl rfl dL_law_769 ?_
      refine L_iconst (pc := 770) (v := 3) h (by decide) dL_law_770 ?_
      obtain ⟨r59, hc58, hF⟩ := bd hF
      refine L_callV (pc := 771) (st := []) h [.int (3 : Int32)] cvL_42 (c4_count (ad := ad) (z := X.1) hc58) rfl rfl lc_28 (by decide) (by decide) (Nat.le_of_ble_eq_true rfl) dL_law_771 (st1 := [.int r59]) rfl ?_
      refine L_iload (pc := 774) h 20 rfl dL_law_774 ?_
      refine L_ishr (pc := 776) h dL_law_776 ?_
      refine L_iconst (pc := 777) (v := 1) h (by decide) dL_law_777 ?_
      refine L_iand (pc := 778) h dL_law_778 ?_
      refine L_iconst (pc := 779) (v := 1) h (by decide) dL_law_779 ?_
      refine L_icmp_ne (pc := 780) (tgt := 787) h dL_law_780 (by decide) (fun c60 => ?_) (fun c60 => ?_)
      · have hF := ifn c60 hF
        refine L_iconst (pc := 787) (v := 0) h (by decide) dL_law_787 ?_
        exact Lp_sub (nX := 0) (lv' := [(0, .ref (zB X.1)), (1, .ref (ad 28)), (2, .ref (ad 47)), (4, .int x4), (5, .int x5), (6, .int x6), (7, .int x7), (8, .int x8), (9, .int x9), (10, .int x10), (11, .int x11), (12, .int x12), (13, .int x13), (14, .int x14), (15, .int x15), (17, .int x17), (18, .int x18), (19, .int x19), (20, .int x20), (21, .int r52), (22, .int r57)]) [2, 3, 4, 5, 6, 7, 8, 9, 10, 11, 12, 13, 14, 15, 16, 17, 18, 19, 20, 1, 0] rfl (w9_law_788 h (hk69 := hk69) (hk736 := fun a0 a1 a2 a3 a4 a5 a6 a7 a8 a9 a10 a11 a12 a13 a14 a15 a16 hF => ih a0 a1 a2 a3 a4 a5 a6 a7 a8 a9 a10 a11 a12 a13 a14 a15 a16 hF) (hF := hF))
      · have hF := itp c60 hF
        refine L_iconst (pc := 783) (v := 1) h (by decide) dL_law_783 ?_
        refine L_goto (pc := 784) (tgt := 788) h dL_law_784 (by decide) ?_
        exact Lp_sub (nX := 0) (lv' := [(0, .ref (zB X.1)), (1, .ref (ad 28)), (2, .ref (ad 47)), (4, .int x4), (5, .int x5), (6, .int x6), (7, .int x7), (8, .int x8), (9, .int x9), (10, .int x10), (11, .int x11), (12, .int x12), (13, .int x13), (14, .int x14), (15, .int x15), (17, .int x17), (18, .int x18), (19, .int x19), (20, .int x20), (21, .int r52), (22, .int r57)]) [2, 3, 4, 5, 6, 7, 8, 9, 10, 11, 12, 13, 14, 15, 16, 17, 18, 19, 20, 1, 0] rfl (w9_law_788 h (hk69 := hk69) (hk736 := fun a0 a1 a2 a3 a4 a5 a6 a7 a8 a9 a10 a11 a12 a13 a14 a15 a16 hF => ih a0 a1 a2 a3 a4 a5 a6 a7 a8 a9 a10 a11 a12 a13 a14 a15 a16 hF) (hF := hF))
theorem w9_law_736 {ad : Nat → Nat} {X : XX} {R : Mem × Int32} {fu : Nat} {k69 : Int32 → Int32 → Int32 → Int32 → Mem → Option (Mem × Int32)} (h : Lx layC ad X cL_law RL 30 9 (some .boolean) (R.1) (some (.int R.2))) (hk69 : ∀ (x4 : Int32) (x5 : Int32) (x6 : Int32) (x7 : Int32) (M : Mem), k69 x4 x5 x6 x7 M = some R → Lp layC ad X M 69 [(0, .ref (zB X.1)), (1, .ref (ad 28)), (2, .ref (ad 47)), (4, .int x4), (5, .int x5), (6, .int x6), (7, .int x7)] []) {f : Nat} {x4 : Int32} {x5 : Int32} {x6 : Int32} {x7 : Int32} {x8 : Int32} {x9 : Int32} {x10 : Int32} {x11 : Int32} {x12 : Int32} {x13 : Int32} {x14 : Int32} {x15 : Int32} {x17 : Int32} {x18 : Int32} {x19 : Int32} {x20 : Int32} {M : Mem} (hF : f9_law_736 (zL X.1) (zX X.1) fu k69 f x4 x5 x6 x7 x8 x9 x10 x11 x12 x13 x14 x15 x17 x18 x19 x20 M = some R) : Lp layC ad X M 736 [(0, .ref (zB X.1)), (1, .ref (ad 28)), (2, .ref (ad 47)), (4, .int x4), (5, .int x5), (6, .int x6), (7, .int x7), (8, .int x8), (9, .int x9), (10, .int x10), (11, .int x11), (12, .int x12), (13, .int x13), (14, .int x14), (15, .int x15), (17, .int x17), (18, .int x18), (19, .int x19), (20, .int x20)] [] := w9_lawi_736 h hk69 f _ _ _ _ _ _ _ _ _ _ _ _ _ _ _ _ _ hF
def f9_law_646 (sL : Nat) (sx : Nat → Int32) (fu : Nat) (k69 : Int32 → Int32 → Int32 → Int32 → Mem → Option (Mem × Int32)) (x4 : Int32) (x5 : Int32) (x6 : Int32) (x7 : Int32) (x8 : Int32) (x9 : Int32) (x10 : Int32) (x11 : Int32) (x12 : Int32) (x13 : Int32) (x14 : Int32) (x15 : Int32) (x17 : Int32) (s0 : Int32) (s1 : Int32) (s2 : Int32) (M : Mem) : Option (Mem × Int32) :=
    if s2 = (s1 + s0) then ((f4_count M fu (5 : Int32)).bind fun r3 =>
    if (r3 &&& x13) = x13 then ((f4_count M fu (3 : Int32)).bind fun r6 =>
    (f4_count M fu (4 : Int32)).bind fun r8 =>
    (f4_count M fu (5 : Int32)).bind fun r10 =>
    if ((r6 ||| r8) ||| r10) = x5 then ((f4_count M fu (3 : Int32)).bind fun r13 =>
    (f4_count M fu (4 : Int32)).bind fun r15 =>
    (f4_count M fu (5 : Int32)).bind fun r17 =>
    if ((r13 + r15) + r17) = x5 then ((f4_count M fu (1 : Int32)).bind fun r20 =>
    if r20 < 0 then ((some (M, (0 : Int32))))
    else ((f4_count M fu (1 : Int32)).bind fun r23 =>
    if r23 ≤ (9 : Int32) then ((f9_law_736 sL sx fu k69 fu x4 x5 x6 x7 x8 x9 x10 x11 x12 x13 x14 x15 x17 (0 : Int32) (0 : Int32) (0 : Int32) M))
    else ((some (M, (0 : Int32))))))
    else ((some (M, (0 : Int32)))))
    else ((some (M, (0 : Int32)))))
    else ((some (M, (0 : Int32)))))
    else ((some (M, (0 : Int32))))
set_option maxHeartbeats 4000000 in
set_option maxRecDepth 10000 in
theorem w9_law_646 {ad : Nat → Nat} {X : XX} {R : Mem × Int32} {fu : Nat} {k69 : Int32 → Int32 → Int32 → Int32 → Mem → Option (Mem × Int32)} (h : Lx layC ad X cL_law RL 30 9 (some .boolean) (R.1) (some (.int R.2))) (hk69 : ∀ (x4 : Int32) (x5 : Int32) (x6 : Int32) (x7 : Int32) (M : Mem), k69 x4 x5 x6 x7 M = some R → Lp layC ad X M 69 [(0, .ref (zB X.1)), (1, .ref (ad 28)), (2, .ref (ad 47)), (4, .int x4), (5, .int x5), (6, .int x6), (7, .int x7)] []) {x4 : Int32} {x5 : Int32} {x6 : Int32} {x7 : Int32} {x8 : Int32} {x9 : Int32} {x10 : Int32} {x11 : Int32} {x12 : Int32} {x13 : Int32} {x14 : Int32} {x15 : Int32} {x17 : Int32} {s0 : Int32} {s1 : Int32} {s2 : Int32} {M : Mem} (hF : f9_law_646 (zL X.1) (zX X.1) fu k69 x4 x5 x6 x7 x8 x9 x10 x11 x12 x13 x14 x15 x17 s0 s1 s2 M = some R) : Lp layC ad X M 646 [(0, .ref (zB X.1)), (1, .ref (ad 28)), (2, .ref (ad 47)), (4, .int x4), (5, .int x5), (6, .int x6), (7, .int x7), (8, .int x8), (9, .int x9), (10, .int x10), (11, .int x11), (12, .int x12), (13, .int x13), (14, .int x14), (15, .int x15), (17, .int x17)] [.int s0, .int s1, .int s2] := by
  unfold f9_law_646 at hF
  refine L_iadd (pc := 646) h dL_law_646 ?_
  refine L_icmp_ne (pc := 647) (tgt := 725) h dL_law_647 (by decide) (fun c1 => ?_) (fun c1 => ?_)
  · have hF := ifn c1 hF
    refine L_iconst (pc := 725) (v := 0) h (by decide) dL_law_725 ?_
    cases hF
    exact L_zreturn (pc := 726) h rfl zr0 rfl rfl dL_law_726
  · have hF := itp c1 hF
    refine L_aload_n (pc := 650) h 1 rfl rfl dL_law_650 ?_
    refine L_iconst (pc := 651) (v := 5) h (by decide) dL_law_651 ?_
    obtain ⟨r3, hc2, hF⟩ := bd hF
    refine L_callV (pc := 652) (st := []) h [.int (5 : Int32)] cvL_42 (c4_count (ad := ad) (z := X.1) hc2) rfl rfl lc_28 (by decide) (by decide) (Nat.le_of_ble_eq_true rfl) dL_law_652 (st1 := [.int r3]) rfl ?_
    refine L_iload (pc := 655) h 12 rfl dL_law_655 ?_
    refine L_iand (pc := 657) h dL_law_657 ?_
    refine L_iload (pc := 658) h 12 rfl dL_law_658 ?_
    refine L_icmp_ne (pc := 660) (tgt := 725) h dL_law_660 (by decide) (fun c4 => ?_) (fun c4 => ?_)
    · have hF := ifn c4 hF
      refine L_iconst (pc := 725) (v := 0) h (by decide) dL_law_725 ?_
      cases hF
      exact L_zreturn (pc := 726) h rfl zr0 rfl rfl dL_law_726
    · have hF := itp c4 hF
      refine L_aload_n (pc := 663) h 1 rfl rfl dL_law_663 ?_
      refine L_iconst (pc := 664) (v := 3) h (by decide) dL_law_664 ?_
      obtain ⟨r6, hc5, hF⟩ := bd hF
      refine L_callV (pc := 665) (st := []) h [.int (3 : Int32)] cvL_42 (c4_count (ad := ad) (z := X.1) hc5) rfl rfl lc_28 (by decide) (by decide) (Nat.le_of_ble_eq_true rfl) dL_law_665 (st1 := [.int r6]) rfl ?_
      refine L_aload_n (pc := 668) h 1 rfl rfl dL_law_668 ?_
      refine L_iconst (pc := 669) (v := 4) h (by decide) dL_law_669 ?_
      obtain ⟨r8, hc7, hF⟩ := bd hF
      refine L_callV (pc := 670) (st := [.int r6]) h [.int (4 : Int32)] cvL_42 (c4_count (ad := ad) (z := X.1) hc7) rfl rfl lc_28 (by decide) (by decide) (Nat.le_of_ble_eq_true rfl) dL_law_670 (st1 := [.int r8, .int r6]) rfl ?_
      refine L_ior (pc := 673) h dL_law_673 ?_
      refine L_aload_n (pc := 674) h 1 rfl rfl dL_law_674 ?_
      refine L_iconst (pc := 675) (v := 5) h (by decide) dL_law_675 ?_
      obtain ⟨r10, hc9, hF⟩ := bd hF
      refine L_callV (pc := 676) (st := [.int (r6 ||| r8)]) h [.int (5 : Int32)] cvL_42 (c4_count (ad := ad) (z := X.1) hc9) rfl rfl lc_28 (by decide) (by decide) (Nat.le_of_ble_eq_true rfl) dL_law_676 (st1 := [.int r10, .int (r6 ||| r8)]) rfl ?_
      refine L_ior (pc := 679) h dL_law_679 ?_
      refine L_iload (pc := 680) h 4 rfl dL_law_680 ?_
      refine L_icmp_ne (pc := 682) (tgt := 725) h dL_law_682 (by decide) (fun c11 => ?_) (fun c11 => ?_)
      · have hF := ifn c11 hF
        refine L_iconst (pc := 725) (v := 0) h (by decide) dL_law_725 ?_
        cases hF
        exact L_zreturn (pc := 726) h rfl zr0 rfl rfl dL_law_726
      · have hF := itp c11 hF
        refine L_aload_n (pc := 685) h 1 rfl rfl dL_law_685 ?_
        refine L_iconst (pc := 686) (v := 3) h (by decide) dL_law_686 ?_
        obtain ⟨r13, hc12, hF⟩ := bd hF
        refine L_callV (pc := 687) (st := []) h [.int (3 : Int32)] cvL_42 (c4_count (ad := ad) (z := X.1) hc12) rfl rfl lc_28 (by decide) (by decide) (Nat.le_of_ble_eq_true rfl) dL_law_687 (st1 := [.int r13]) rfl ?_
        refine L_aload_n (pc := 690) h 1 rfl rfl dL_law_690 ?_
        refine L_iconst (pc := 691) (v := 4) h (by decide) dL_law_691 ?_
        obtain ⟨r15, hc14, hF⟩ := bd hF
        refine L_callV (pc := 692) (st := [.int r13]) h [.int (4 : Int32)] cvL_42 (c4_count (ad := ad) (z := X.1) hc14) rfl rfl lc_28 (by decide) (by decide) (Nat.le_of_ble_eq_true rfl) dL_law_692 (st1 := [.int r15, .int r13]) rfl ?_
        refine L_iadd (pc := 695) h dL_law_695 ?_
        refine L_aload_n (pc := 696) h 1 rfl rfl dL_law_696 ?_
        refine L_iconst (pc := 697) (v := 5) h (by decide) dL_law_697 ?_
        obtain ⟨r17, hc16, hF⟩ := bd hF
        refine L_callV (pc := 698) (st := [.int (r13 + r15)]) h [.int (5 : Int32)] cvL_42 (c4_count (ad := ad) (z := X.1) hc16) rfl rfl lc_28 (by decide) (by decide) (Nat.le_of_ble_eq_true rfl) dL_law_698 (st1 := [.int r17, .int (r13 + r15)]) rfl ?_
        refine L_iadd (pc := 701) h dL_law_701 ?_
        refine L_iload (pc := 702) h 4 rfl dL_law_702 ?_
        refine L_icmp_ne (pc := 704) (tgt := 725) h dL_law_704 (by decide) (fun c18 => ?_) (fun c18 => ?_)
        · have hF := ifn c18 hF
          refine L_iconst (pc := 725) (v := 0) h (by decide) dL_law_725 ?_
          cases hF
          exact L_zreturn (pc := 726) h rfl zr0 rfl rfl dL_law_726
        · have hF := itp c18 hF
          refine L_aload_n (pc := 707) h 1 rfl rfl dL_law_707 ?_
          refine L_iconst (pc := 708) (v := 1) h (by decide) dL_law_708 ?_
          obtain ⟨r20, hc19, hF⟩ := bd hF
          refine L_callV (pc := 709) (st := []) h [.int (1 : Int32)] cvL_42 (c4_count (ad := ad) (z := X.1) hc19) rfl rfl lc_28 (by decide) (by decide) (Nat.le_of_ble_eq_true rfl) dL_law_709 (st1 := [.int r20]) rfl ?_
          refine L_if_lt (pc := 712) (tgt := 725) h dL_law_712 (by decide) (fun c21 => ?_) (fun c21 => ?_)
          · have hF := itp c21 hF
            refine L_iconst (pc := 725) (v := 0) h (by decide) dL_law_725 ?_
            cases hF
            exact L_zreturn (pc := 726) h rfl zr0 rfl rfl dL_law_726
          · have hF := ifn c21 hF
            refine L_aload_n (pc := 715) h 1 rfl rfl dL_law_715 ?_
            refine L_iconst (pc := 716) (v := 1) h (by decide) dL_law_716 ?_
            obtain ⟨r23, hc22, hF⟩ := bd hF
            refine L_callV (pc := 717) (st := []) h [.int (1 : Int32)] cvL_42 (c4_count (ad := ad) (z := X.1) hc22) rfl rfl lc_28 (by decide) (by decide) (Nat.le_of_ble_eq_true rfl) dL_law_717 (st1 := [.int r23]) rfl ?_
            refine L_bipush (pc := 720) (v := 9) h (by decide) dL_law_720 ?_
            refine L_icmp_le (pc := 722) (tgt := 727) h dL_law_722 (by decide) (fun c24 => ?_) (fun c24 => ?_)
            · have hF := itp c24 hF
              refine L_iconst (pc := 727) (v := 0) h (by decide) dL_law_727 ?_
              refine L_istore (pc := 728) (lv' := [(18, .int (0 : Int32)), (0, .ref (zB X.1)), (1, .ref (ad 28)), (2, .ref (ad 47)), (4, .int x4), (5, .int x5), (6, .int x6), (7, .int x7), (8, .int x8), (9, .int x9), (10, .int x10), (11, .int x11), (12, .int x12), (13, .int x13), (14, .int x14), (15, .int x15), (17, .int x17)]) h rfl (by decide) rfl dL_law_728 ?_
              refine L_iconst (pc := 730) (v := 0) h (by decide) dL_law_730 ?_
              refine L_istore (pc := 731) (lv' := [(19, .int (0 : Int32)), (18, .int (0 : Int32)), (0, .ref (zB X.1)), (1, .ref (ad 28)), (2, .ref (ad 47)), (4, .int x4), (5, .int x5), (6, .int x6), (7, .int x7), (8, .int x8), (9, .int x9), (10, .int x10), (11, .int x11), (12, .int x12), (13, .int x13), (14, .int x14), (15, .int x15), (17, .int x17)]) h rfl (by decide) rfl dL_law_731 ?_
              refine L_iconst (pc := 733) (v := 0) h (by decide) dL_law_733 ?_
              refine L_istore (pc := 734) (lv' := [(20, .int (0 : Int32)), (19, .int (0 : Int32)), (18, .int (0 : Int32)), (0, .ref (zB X.1)), (1, .ref (ad 28)), (2, .ref (ad 47)), (4, .int x4), (5, .int x5), (6, .int x6), (7, .int x7), (8, .int x8), (9, .int x9), (10, .int x10), (11, .int x11), (12, .int x12), (13, .int x13), (14, .int x14), (15, .int x15), (17, .int x17)]) h rfl (by decide) rfl dL_law_734 ?_
              exact Lp_sub (nX := 0) (lv' := [(0, .ref (zB X.1)), (1, .ref (ad 28)), (2, .ref (ad 47)), (4, .int x4), (5, .int x5), (6, .int x6), (7, .int x7), (8, .int x8), (9, .int x9), (10, .int x10), (11, .int x11), (12, .int x12), (13, .int x13), (14, .int x14), (15, .int x15), (17, .int x17), (18, .int (0 : Int32)), (19, .int (0 : Int32)), (20, .int (0 : Int32))]) [3, 4, 5, 6, 7, 8, 9, 10, 11, 12, 13, 14, 15, 16, 17, 18, 2, 1, 0] rfl (w9_law_736 h (hk69 := hk69) (hF := hF))
            · have hF := ifn c24 hF
              refine L_iconst (pc := 725) (v := 0) h (by decide) dL_law_725 ?_
              cases hF
              exact L_zreturn (pc := 726) h rfl zr0 rfl rfl dL_law_726
def f9_law_629 (sL : Nat) (sx : Nat → Int32) (fu : Nat) (k69 : Int32 → Int32 → Int32 → Int32 → Mem → Option (Mem × Int32)) (x4 : Int32) (x5 : Int32) (x6 : Int32) (x7 : Int32) (x8 : Int32) (x9 : Int32) (x10 : Int32) (x11 : Int32) (x12 : Int32) (x13 : Int32) (x14 : Int32) (x15 : Int32) (x17 : Int32) (M : Mem) : Option (Mem × Int32) :=
    (f4_count M fu (2 : Int32)).bind fun r2 =>
    if x17 = 0 then ((f9_law_646 sL sx fu k69 x4 x5 x6 x7 x8 x9 x10 x11 x12 x13 x14 x15 x17 (0 : Int32) x9 r2 M))
    else ((f9_law_646 sL sx fu k69 x4 x5 x6 x7 x8 x9 x10 x11 x12 x13 x14 x15 x17 (1 : Int32) x9 r2 M))
set_option maxHeartbeats 4000000 in
set_option maxRecDepth 10000 in
theorem w9_law_629 {ad : Nat → Nat} {X : XX} {R : Mem × Int32} {fu : Nat} {k69 : Int32 → Int32 → Int32 → Int32 → Mem → Option (Mem × Int32)} (h : Lx layC ad X cL_law RL 30 9 (some .boolean) (R.1) (some (.int R.2))) (hk69 : ∀ (x4 : Int32) (x5 : Int32) (x6 : Int32) (x7 : Int32) (M : Mem), k69 x4 x5 x6 x7 M = some R → Lp layC ad X M 69 [(0, .ref (zB X.1)), (1, .ref (ad 28)), (2, .ref (ad 47)), (4, .int x4), (5, .int x5), (6, .int x6), (7, .int x7)] []) {x4 : Int32} {x5 : Int32} {x6 : Int32} {x7 : Int32} {x8 : Int32} {x9 : Int32} {x10 : Int32} {x11 : Int32} {x12 : Int32} {x13 : Int32} {x14 : Int32} {x15 : Int32} {x17 : Int32} {M : Mem} (hF : f9_law_629 (zL X.1) (zX X.1) fu k69 x4 x5 x6 x7 x8 x9 x10 x11 x12 x13 x14 x15 x17 M = some R) : Lp layC ad X M 629 [(0, .ref (zB X.1)), (1, .ref (ad 28)), (2, .ref (ad 47)), (4, .int x4), (5, .int x5), (6, .int x6), (7, .int x7), (8, .int x8), (9, .int x9), (10, .int x10), (11, .int x11), (12, .int x12), (13, .int x13), (14, .int x14), (15, .int x15), (17, .int x17)] [] := by
  unfold f9_law_629 at hF
  refine L_aload_n (pc := 629) h 1 rfl rfl dL_law_629 ?_
  refine L_iconst (pc := 630) (v := 2) h (by decide) dL_law_630 ?_
  obtain ⟨r2, hc1, hF⟩ := bd hF
  refine L_callV (pc := 631) (st := []) h [.int (2 : Int32)] cvL_42 (c4_count (ad := ad) (z := X.1) hc1) rfl rfl lc_28 (by decide) (by decide) (Nat.le_of_ble_eq_true rfl) dL_law_631 (st1 := [.int r2]) rfl ?_
  refine L_iload (pc := 634) h 8 rfl dL_law_634 ?_
  refine L_iload (pc := 636) h 15 rfl dL_law_636 ?_
  refine L_if_eq (pc := 638) (tgt := 645) h dL_law_638 (by decide) (fun c3 => ?_) (fun c3 => ?_)
  · have hF := itp c3 hF
    refine L_iconst (pc := 645) (v := 0) h (by decide) dL_law_645 ?_
    exact Lp_sub (nX := 0) (lv' := [(0, .ref (zB X.1)), (1, .ref (ad 28)), (2, .ref (ad 47)), (4, .int x4), (5, .int x5), (6, .int x6), (7, .int x7), (8, .int x8), (9, .int x9), (10, .int x10), (11, .int x11), (12, .int x12), (13, .int x13), (14, .int x14), (15, .int x15), (17, .int x17)]) [0, 1, 2, 3, 4, 5, 6, 7, 8, 9, 10, 11, 12, 13, 14, 15] rfl (w9_law_646 h (hk69 := hk69) (hF := hF))
  · have hF := ifn c3 hF
    refine L_iconst (pc := 641) (v := 1) h (by decide) dL_law_641 ?_
    refine L_goto (pc := 642) (tgt := 646) h dL_law_642 (by decide) ?_
    exact Lp_sub (nX := 0) (lv' := [(0, .ref (zB X.1)), (1, .ref (ad 28)), (2, .ref (ad 47)), (4, .int x4), (5, .int x5), (6, .int x6), (7, .int x7), (8, .int x8), (9, .int x9), (10, .int x10), (11, .int x11), (12, .int x12), (13, .int x13), (14, .int x14), (15, .int x15), (17, .int x17)]) [0, 1, 2, 3, 4, 5, 6, 7, 8, 9, 10, 11, 12, 13, 14, 15] rfl (w9_law_646 h (hk69 := hk69) (hF := hF))
def f9_law_305 (sL : Nat) (sx : Nat → Int32) (fu : Nat) (k69 : Int32 → Int32 → Int32 → Int32 → Mem → Option (Mem × Int32)) (x4 : Int32) (x5 : Int32) (x6 : Int32) (x7 : Int32) (x8 : Int32) (x9 : Int32) (x10 : Int32) (x11 : Int32) (x12 : Int32) (x13 : Int32) (x14 : Int32) (x15 : Int32) (x17 : Int32) (s0 : Int32) (s1 : Int32) (M : Mem) : Option (Mem × Int32) :=
    if s1 = s0 then ((f4_count M fu (3 : Int32)).bind fun r3 =>
    if r3 = x11 then ((f4_count M fu (4 : Int32)).bind fun r6 =>
    if r6 = x12 then ((f9_law_629 sL sx fu k69 x4 x5 x6 x7 x8 x9 x10 x11 x12 x13 x14 x15 x17 M))
    else ((some (M, (0 : Int32)))))
    else ((some (M, (0 : Int32)))))
    else ((some (M, (0 : Int32))))
set_option maxHeartbeats 4000000 in
set_option maxRecDepth 10000 in
theorem w9_law_305 {ad : Nat → Nat} {X : XX} {R : Mem × Int32} {fu : Nat} {k69 : Int32 → Int32 → Int32 → Int32 → Mem → Option (Mem × Int32)} (h : Lx layC ad X cL_law RL 30 9 (some .boolean) (R.1) (some (.int R.2))) (hk69 : ∀ (x4 : Int32) (x5 : Int32) (x6 : Int32) (x7 : Int32) (M : Mem), k69 x4 x5 x6 x7 M = some R → Lp layC ad X M 69 [(0, .ref (zB X.1)), (1, .ref (ad 28)), (2, .ref (ad 47)), (4, .int x4), (5, .int x5), (6, .int x6), (7, .int x7)] []) {x4 : Int32} {x5 : Int32} {x6 : Int32} {x7 : Int32} {x8 : Int32} {x9 : Int32} {x10 : Int32} {x11 : Int32} {x12 : Int32} {x13 : Int32} {x14 : Int32} {x15 : Int32} {x17 : Int32} {s0 : Int32} {s1 : Int32} {M : Mem} (hF : f9_law_305 (zL X.1) (zX X.1) fu k69 x4 x5 x6 x7 x8 x9 x10 x11 x12 x13 x14 x15 x17 s0 s1 M = some R) : Lp layC ad X M 305 [(0, .ref (zB X.1)), (1, .ref (ad 28)), (2, .ref (ad 47)), (4, .int x4), (5, .int x5), (6, .int x6), (7, .int x7), (8, .int x8), (9, .int x9), (10, .int x10), (11, .int x11), (12, .int x12), (13, .int x13), (14, .int x14), (15, .int x15), (17, .int x17)] [.int s0, .int s1] := by
  unfold f9_law_305 at hF
  refine L_icmp_ne (pc := 305) (tgt := 328) h dL_law_305 (by decide) (fun c1 => ?_) (fun c1 => ?_)
  · have hF := ifn c1 hF
    refine L_iconst (pc := 328) (v := 0) h (by decide) dL_law_328 ?_
    cases hF
    exact L_zreturn (pc := 329) h rfl zr0 rfl rfl dL_law_329
  · have hF := itp c1 hF
    refine L_aload_n (pc := 308) h 1 rfl rfl dL_law_308 ?_
    refine L_iconst (pc := 309) (v := 3) h (by decide) dL_law_309 ?_
    obtain ⟨r3, hc2, hF⟩ := bd hF
    refine L_callV (pc := 310) (st := []) h [.int (3 : Int32)] cvL_42 (c4_count (ad := ad) (z := X.1) hc2) rfl rfl lc_28 (by decide) (by decide) (Nat.le_of_ble_eq_true rfl) dL_law_310 (st1 := [.int r3]) rfl ?_
    refine L_iload (pc := 313) h 10 rfl dL_law_313 ?_
    refine L_icmp_ne (pc := 315) (tgt := 328) h dL_law_315 (by decide) (fun c4 => ?_) (fun c4 => ?_)
    · have hF := ifn c4 hF
      refine L_iconst (pc := 328) (v := 0) h (by decide) dL_law_328 ?_
      cases hF
      exact L_zreturn (pc := 329) h rfl zr0 rfl rfl dL_law_329
    · have hF := itp c4 hF
      refine L_aload_n (pc := 318) h 1 rfl rfl dL_law_318 ?_
      refine L_iconst (pc := 319) (v := 4) h (by decide) dL_law_319 ?_
      obtain ⟨r6, hc5, hF⟩ := bd hF
      refine L_callV (pc := 320) (st := []) h [.int (4 : Int32)] cvL_42 (c4_count (ad := ad) (z := X.1) hc5) rfl rfl lc_28 (by decide) (by decide) (Nat.le_of_ble_eq_true rfl) dL_law_320 (st1 := [.int r6]) rfl ?_
      refine L_iload (pc := 323) h 11 rfl dL_law_323 ?_
      refine L_icmp_eq (pc := 325) (tgt := 330) h dL_law_325 (by decide) (fun c7 => ?_) (fun c7 => ?_)
      · have hF := itp c7 hF
        refine L_goto (pc := 330) (tgt := 629) h dL_law_330 (by decide) ?_
        exact Lp_sub (nX := 0) (lv' := [(0, .ref (zB X.1)), (1, .ref (ad 28)), (2, .ref (ad 47)), (4, .int x4), (5, .int x5), (6, .int x6), (7, .int x7), (8, .int x8), (9, .int x9), (10, .int x10), (11, .int x11), (12, .int x12), (13, .int x13), (14, .int x14), (15, .int x15), (17, .int x17)]) [0, 1, 2, 3, 4, 5, 6, 7, 8, 9, 10, 11, 12, 13, 14, 15] rfl (w9_law_629 h (hk69 := hk69) (hF := hF))
      · have hF := ifn c7 hF
        refine L_iconst (pc := 328) (v := 0) h (by decide) dL_law_328 ?_
        cases hF
        exact L_zreturn (pc := 329) h rfl zr0 rfl rfl dL_law_329
def f9_law_282 (sL : Nat) (sx : Nat → Int32) (fu : Nat) (k69 : Int32 → Int32 → Int32 → Int32 → Mem → Option (Mem × Int32)) (x4 : Int32) (x5 : Int32) (x6 : Int32) (x7 : Int32) (x8 : Int32) (x9 : Int32) (x10 : Int32) (x11 : Int32) (x12 : Int32) (x13 : Int32) (x14 : Int32) (x15 : Int32) (x17 : Int32) (x18 : Int32) (s0 : Int32) (s1 : Int32) (M : Mem) : Option (Mem × Int32) :=
    if s1 = s0 then ((f4_count M fu (1 : Int32)).bind fun r3 =>
    if x17 = 0 then ((f9_law_305 sL sx fu k69 x4 x5 x6 x7 x8 x9 x10 x11 x12 x13 x14 x15 x17 x10 r3 M))
    else ((f9_law_305 sL sx fu k69 x4 x5 x6 x7 x8 x9 x10 x11 x12 x13 x14 x15 x17 (x10 + x18) r3 M)))
    else ((some (M, (0 : Int32))))
set_option maxHeartbeats 4000000 in
set_option maxRecDepth 10000 in
theorem w9_law_282 {ad : Nat → Nat} {X : XX} {R : Mem × Int32} {fu : Nat} {k69 : Int32 → Int32 → Int32 → Int32 → Mem → Option (Mem × Int32)} (h : Lx layC ad X cL_law RL 30 9 (some .boolean) (R.1) (some (.int R.2))) (hk69 : ∀ (x4 : Int32) (x5 : Int32) (x6 : Int32) (x7 : Int32) (M : Mem), k69 x4 x5 x6 x7 M = some R → Lp layC ad X M 69 [(0, .ref (zB X.1)), (1, .ref (ad 28)), (2, .ref (ad 47)), (4, .int x4), (5, .int x5), (6, .int x6), (7, .int x7)] []) {x4 : Int32} {x5 : Int32} {x6 : Int32} {x7 : Int32} {x8 : Int32} {x9 : Int32} {x10 : Int32} {x11 : Int32} {x12 : Int32} {x13 : Int32} {x14 : Int32} {x15 : Int32} {x17 : Int32} {x18 : Int32} {s0 : Int32} {s1 : Int32} {M : Mem} (hF : f9_law_282 (zL X.1) (zX X.1) fu k69 x4 x5 x6 x7 x8 x9 x10 x11 x12 x13 x14 x15 x17 x18 s0 s1 M = some R) : Lp layC ad X M 282 [(0, .ref (zB X.1)), (1, .ref (ad 28)), (2, .ref (ad 47)), (4, .int x4), (5, .int x5), (6, .int x6), (7, .int x7), (8, .int x8), (9, .int x9), (10, .int x10), (11, .int x11), (12, .int x12), (13, .int x13), (14, .int x14), (15, .int x15), (17, .int x17), (18, .int x18)] [.int s0, .int s1] := by
  unfold f9_law_282 at hF
  refine L_icmp_ne (pc := 282) (tgt := 328) h dL_law_282 (by decide) (fun c1 => ?_) (fun c1 => ?_)
  · have hF := ifn c1 hF
    refine L_iconst (pc := 328) (v := 0) h (by decide) dL_law_328 ?_
    cases hF
    exact L_zreturn (pc := 329) h rfl zr0 rfl rfl dL_law_329
  · have hF := itp c1 hF
    refine L_aload_n (pc := 285) h 1 rfl rfl dL_law_285 ?_
    refine L_iconst (pc := 286) (v := 1) h (by decide) dL_law_286 ?_
    obtain ⟨r3, hc2, hF⟩ := bd hF
    refine L_callV (pc := 287) (st := []) h [.int (1 : Int32)] cvL_42 (c4_count (ad := ad) (z := X.1) hc2) rfl rfl lc_28 (by decide) (by decide) (Nat.le_of_ble_eq_true rfl) dL_law_287 (st1 := [.int r3]) rfl ?_
    refine L_iload (pc := 290) h 15 rfl dL_law_290 ?_
    refine L_if_eq (pc := 292) (tgt := 303) h dL_law_292 (by decide) (fun c4 => ?_) (fun c4 => ?_)
    · have hF := itp c4 hF
      refine L_iload (pc := 303) h 9 rfl dL_law_303 ?_
      exact Lp_sub (nX := 0) (lv' := [(0, .ref (zB X.1)), (1, .ref (ad 28)), (2, .ref (ad 47)), (4, .int x4), (5, .int x5), (6, .int x6), (7, .int x7), (8, .int x8), (9, .int x9), (10, .int x10), (11, .int x11), (12, .int x12), (13, .int x13), (14, .int x14), (15, .int x15), (17, .int x17)]) [0, 1, 2, 3, 4, 5, 6, 7, 8, 9, 10, 11, 12, 13, 14, 15] rfl (w9_law_305 h (hk69 := hk69) (hF := hF))
    · have hF := ifn c4 hF
      refine L_iload (pc := 295) h 9 rfl dL_law_295 ?_
      refine L_iload (pc := 297) h 16 rfl dL_law_297 ?_
      refine L_iadd (pc := 299) h dL_law_299 ?_
      refine L_goto (pc := 300) (tgt := 305) h dL_law_300 (by decide) ?_
      exact Lp_sub (nX := 0) (lv' := [(0, .ref (zB X.1)), (1, .ref (ad 28)), (2, .ref (ad 47)), (4, .int x4), (5, .int x5), (6, .int x6), (7, .int x7), (8, .int x8), (9, .int x9), (10, .int x10), (11, .int x11), (12, .int x12), (13, .int x13), (14, .int x14), (15, .int x15), (17, .int x17)]) [0, 1, 2, 3, 4, 5, 6, 7, 8, 9, 10, 11, 12, 13, 14, 15] rfl (w9_law_305 h (hk69 := hk69) (hF := hF))
def f9_law_259 (sL : Nat) (sx : Nat → Int32) (fu : Nat) (k69 : Int32 → Int32 → Int32 → Int32 → Mem → Option (Mem × Int32)) (x4 : Int32) (x5 : Int32) (x6 : Int32) (x7 : Int32) (x8 : Int32) (x9 : Int32) (x10 : Int32) (x11 : Int32) (x12 : Int32) (x13 : Int32) (x14 : Int32) (x15 : Int32) (x18 : Int32) (s0 : Int32) (M : Mem) : Option (Mem × Int32) :=
    (f4_step fu x18 M).bind fun ⟨M2, r3⟩ =>
    if s0 = 0 then ((f9_law_282 sL sx fu k69 x4 x5 x6 x7 x8 x9 x10 x11 x12 x13 x14 x15 s0 x18 (-4 : Int32) r3 M2))
    else ((f9_law_282 sL sx fu k69 x4 x5 x6 x7 x8 x9 x10 x11 x12 x13 x14 x15 s0 x18 (x10 + x18) r3 M2))
set_option maxHeartbeats 4000000 in
set_option maxRecDepth 10000 in
theorem w9_law_259 {ad : Nat → Nat} {X : XX} {R : Mem × Int32} {fu : Nat} {k69 : Int32 → Int32 → Int32 → Int32 → Mem → Option (Mem × Int32)} (h : Lx layC ad X cL_law RL 30 9 (some .boolean) (R.1) (some (.int R.2))) (hk69 : ∀ (x4 : Int32) (x5 : Int32) (x6 : Int32) (x7 : Int32) (M : Mem), k69 x4 x5 x6 x7 M = some R → Lp layC ad X M 69 [(0, .ref (zB X.1)), (1, .ref (ad 28)), (2, .ref (ad 47)), (4, .int x4), (5, .int x5), (6, .int x6), (7, .int x7)] []) {x4 : Int32} {x5 : Int32} {x6 : Int32} {x7 : Int32} {x8 : Int32} {x9 : Int32} {x10 : Int32} {x11 : Int32} {x12 : Int32} {x13 : Int32} {x14 : Int32} {x15 : Int32} {x18 : Int32} {s0 : Int32} {M : Mem} (hF : f9_law_259 (zL X.1) (zX X.1) fu k69 x4 x5 x6 x7 x8 x9 x10 x11 x12 x13 x14 x15 x18 s0 M = some R) : Lp layC ad X M 259 [(0, .ref (zB X.1)), (1, .ref (ad 28)), (2, .ref (ad 47)), (4, .int x4), (5, .int x5), (6, .int x6), (7, .int x7), (8, .int x8), (9, .int x9), (10, .int x10), (11, .int x11), (12, .int x12), (13, .int x13), (14, .int x14), (15, .int x15), (18, .int x18)] [.int s0] := by
  unfold f9_law_259 at hF
  refine L_istore (pc := 259) (lv' := [(17, .int s0), (0, .ref (zB X.1)), (1, .ref (ad 28)), (2, .ref (ad 47)), (4, .int x4), (5, .int x5), (6, .int x6), (7, .int x7), (8, .int x8), (9, .int x9), (10, .int x10), (11, .int x11), (12, .int x12), (13, .int x13), (14, .int x14), (15, .int x15), (18, .int x18)]) h rfl (by decide) rfl dL_law_259 ?_
  refine L_aload_n (pc := 261) h 2 rfl rfl dL_law_261 ?_
  refine L_iload (pc := 262) h 16 rfl dL_law_262 ?_
  obtain ⟨⟨M2, r3⟩, hc1, hF⟩ := bd hF
  refine L_callV (pc := 264) (st := []) h [.int x18] cvL_56 (c4_step (ad := ad) (z := X.1) hc1) rfl rfl lc_28 (by decide) (by decide) (Nat.le_of_ble_eq_true rfl) dL_law_264 (st1 := [.int r3]) rfl ?_
  refine L_iload (pc := 267) h 0 rfl dL_law_267 ?_
  refine L_if_eq (pc := 269) (tgt := 280) h dL_law_269 (by decide) (fun c4 => ?_) (fun c4 => ?_)
  · have hF := itp c4 hF
    refine L_bipush (pc := 280) (v := (-4)) h (by decide) dL_law_280 ?_
    exact Lp_sub (nX := 0) (lv' := [(0, .ref (zB X.1)), (1, .ref (ad 28)), (2, .ref (ad 47)), (4, .int x4), (5, .int x5), (6, .int x6), (7, .int x7), (8, .int x8), (9, .int x9), (10, .int x10), (11, .int x11), (12, .int x12), (13, .int x13), (14, .int x14), (15, .int x15), (17, .int s0), (18, .int x18)]) [1, 2, 3, 4, 5, 6, 7, 8, 9, 10, 11, 12, 13, 14, 15, 0, 16] rfl (w9_law_282 h (hk69 := hk69) (hF := hF))
  · have hF := ifn c4 hF
    refine L_iload (pc := 272) h 10 rfl dL_law_272 ?_
    refine L_iload (pc := 274) h 16 rfl dL_law_274 ?_
    refine L_iadd (pc := 276) h dL_law_276 ?_
    refine L_goto (pc := 277) (tgt := 282) h dL_law_277 (by decide) ?_
    exact Lp_sub (nX := 0) (lv' := [(0, .ref (zB X.1)), (1, .ref (ad 28)), (2, .ref (ad 47)), (4, .int x4), (5, .int x5), (6, .int x6), (7, .int x7), (8, .int x8), (9, .int x9), (10, .int x10), (11, .int x11), (12, .int x12), (13, .int x13), (14, .int x14), (15, .int x15), (17, .int s0), (18, .int x18)]) [1, 2, 3, 4, 5, 6, 7, 8, 9, 10, 11, 12, 13, 14, 15, 0, 16] rfl (w9_law_282 h (hk69 := hk69) (hF := hF))
