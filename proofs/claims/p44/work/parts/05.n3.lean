def f9_law_2124 (sL : Nat) (sx : Nat → Int32) (fu : Nat) : Nat → Int32 → Int32 → Int32 → Int32 → Int32 → Int32 → Int32 → Int32 → Int32 → Int32 → Mem → Option (Mem × Int32)
  | 0 => fun _ _ _ _ _ _ _ _ _ _ _ => none
  | f + 1 => fun x4 x5 x7 x8 x9 x10 x11 x15 x21 x22 M =>
    if (13 : Int32) ≤ x22 then ((f9_law_2172 sL sx fu fu x4 x5 x7 x8 x9 x10 x11 x15 (0 : Int32) M))
    else ((f4_lay (2 : Int32) x22 (-9 : Int32) M).bind fun ⟨M3, r4⟩ =>
    if r4 = (1 : Int32) then ((f4_whose fu (2 : Int32) M3).bind fun ⟨M7, r8⟩ =>
    if x21 ≤ r8 then ((f4_whose fu (2 : Int32) M7).bind fun ⟨M11, r12⟩ =>
    nm (x22 + (3 : Int32)) fun v13 =>
    ((f9_law_2124 sL sx fu f) x4 x5 x7 x8 x9 x10 x11 x15 r12 v13 M11))
    else ((some (M7, (0 : Int32)))))
    else ((some (M3, (0 : Int32)))))
set_option maxHeartbeats 4000000 in
set_option maxRecDepth 10000 in
theorem w9_lawi_2124 {ad : Nat → Nat} {X : XX} {R : Mem × Int32} {fu : Nat}  (h : Lx layC ad X cL_law RL 30 9 (some .boolean) (R.1) (some (.int R.2)))  : ∀ (f : Nat) (x4 : Int32) (x5 : Int32) (x7 : Int32) (x8 : Int32) (x9 : Int32) (x10 : Int32) (x11 : Int32) (x15 : Int32) (x21 : Int32) (x22 : Int32) (M : Mem), f9_law_2124 (zL X.1) (zX X.1) fu f x4 x5 x7 x8 x9 x10 x11 x15 x21 x22 M = some R → Lp layC ad X M 2124 [(0, .ref (zB X.1)), (1, .ref (ad 28)), (2, .ref (ad 47)), (4, .int x4), (5, .int x5), (7, .int x7), (8, .int x8), (9, .int x9), (10, .int x10), (11, .int x11), (15, .int x15), (21, .int x21), (22, .int x22)] [] := by
  intro f
  induction f with
  | zero => intro x4 x5 x7 x8 x9 x10 x11 x15 x21 x22 M hF; exact absurd hF (by simp [f9_law_2124])
  | succ f ih =>
    intro x4 x5 x7 x8 x9 x10 x11 x15 x21 x22 M hF
    rw [f9_law_2124] at hF
    refine L_iload (pc := 2124) h 12 rfl dL_law_2124 ?_
    refine L_bipush (pc := 2126) (v := 13) h (by decide) dL_law_2126 ?_
    refine L_icmp_ge (pc := 2128) (tgt := 2169) h dL_law_2128 (by decide) (fun c1 => ?_) (fun c1 => ?_)
    · have hF := itp c1 hF
      refine L_iconst (pc := 2169) (v := 0) h (by decide) dL_law_2169 ?_
      refine L_istore (pc := 2170) (lv' := [(22, .int (0 : Int32)), (0, .ref (zB X.1)), (1, .ref (ad 28)), (2, .ref (ad 47)), (4, .int x4), (5, .int x5), (7, .int x7), (8, .int x8), (9, .int x9), (10, .int x10), (11, .int x11), (15, .int x15), (21, .int x21)]) h rfl (by decide) rfl dL_law_2170 ?_
      exact Lp_sub (nX := 0) (lv' := [(0, .ref (zB X.1)), (1, .ref (ad 28)), (2, .ref (ad 47)), (4, .int x4), (5, .int x5), (7, .int x7), (8, .int x8), (9, .int x9), (10, .int x10), (11, .int x11), (15, .int x15), (22, .int (0 : Int32))]) [1, 2, 3, 4, 5, 6, 7, 8, 9, 10, 11, 0] rfl (w9_law_2172 h  (hF := hF))
    · have hF := ifn c1 hF
      refine L_aload_n (pc := 2131) h 1 rfl rfl dL_law_2131 ?_
      refine L_iconst (pc := 2132) (v := 2) h (by decide) dL_law_2132 ?_
      refine L_iload (pc := 2133) h 12 rfl dL_law_2133 ?_
      refine L_bipush (pc := 2135) (v := (-9)) h (by decide) dL_law_2135 ?_
      obtain ⟨⟨M3, r4⟩, hc2, hF⟩ := bd hF
      refine L_callV (pc := 2137) (st := []) h [.int (2 : Int32), .int x22, .int (-9 : Int32)] cvL_130 (c4_lay (ad := ad) (z := X.1) hc2) rfl rfl lc_28 (by decide) (by decide) (Nat.le_of_ble_eq_true rfl) dL_law_2137 (st1 := [.int r4]) rfl ?_
      refine L_iconst (pc := 2140) (v := 1) h (by decide) dL_law_2140 ?_
      refine L_icmp_ne (pc := 2141) (tgt := 2154) h dL_law_2141 (by decide) (fun c5 => ?_) (fun c5 => ?_)
      · have hF := ifn c5 hF
        refine L_iconst (pc := 2154) (v := 0) h (by decide) dL_law_2154 ?_
        cases hF
        exact L_zreturn (pc := 2155) h rfl zr0 rfl rfl dL_law_2155
      · have hF := itp c5 hF
        refine L_aload_n (pc := 2144) h 1 rfl rfl dL_law_2144 ?_
        refine L_iconst (pc := 2145) (v := 2) h (by decide) dL_law_2145 ?_
        obtain ⟨⟨M7, r8⟩, hc6, hF⟩ := bd hF
        refine L_callV (pc := 2146) (st := []) h [.int (2 : Int32)] cvL_133 (c4_whose (ad := ad) (z := X.1) hc6) rfl rfl lc_28 (by decide) (by decide) (Nat.le_of_ble_eq_true rfl) dL_law_2146 (st1 := [.int r8]) rfl ?_
        refine L_iload (pc := 2149) h 11 rfl dL_law_2149 ?_
        refine L_icmp_ge (pc := 2151) (tgt := 2156) h dL_law_2151 (by decide) (fun c9 => ?_) (fun c9 => ?_)
        · have hF := itp c9 hF
          refine L_aload_n (pc := 2156) h 1 rfl rfl dL_law_2156 ?_
          refine L_iconst (pc := 2157) (v := 2) h (by decide) dL_law_2157 ?_
          obtain ⟨⟨M11, r12⟩, hc10, hF⟩ := bd hF
          refine L_callV (pc := 2158) (st := []) h [.int (2 : Int32)] cvL_133 (c4_whose (ad := ad) (z := X.1) hc10) rfl rfl lc_28 (by decide) (by decide) (Nat.le_of_ble_eq_true rfl) dL_law_2158 (st1 := [.int r12]) rfl ?_
          refine L_istore (pc := 2161) (lv' := [(21, .int r12), (0, .ref (zB X.1)), (1, .ref (ad 28)), (2, .ref (ad 47)), (4, .int x4), (5, .int x5), (7, .int x7), (8, .int x8), (9, .int x9), (10, .int x10), (11, .int x11), (15, .int x15), (22, .int x22)]) h rfl (by decide) rfl dL_law_2161 ?_
          obtain ⟨v13, hv13, hF⟩ := nm_e2 hF
          refine L_iinc (pc := 2163) (lv' := [(22, .int v13), (21, .int r12), (0, .ref (zB X.1)), (1, .ref (ad 28)), (2, .ref (ad 47)), (4, .int x4), (5, .int x5), (7, .int x7), (8, .int x8), (9, .int x9), (10, .int x10), (11, .int x11), (15, .int x15)]) h 12 rfl (by decide) hv13 (by decide) rfl dL_law_2163 ?_
          refine L_goto (pc := 2166) (tgt := 2124) h dL_law_2166 (by decide) ?_
          exact Lp_sub (nX := 0) (lv' := [(0, .ref (zB X.1)), (1, .ref (ad 28)), (2, .ref (ad 47)), (4, .int x4), (5, .int x5), (7, .int x7), (8, .int x8), (9, .int x9), (10, .int x10), (11, .int x11), (15, .int x15), (21, .int r12), (22, .int v13)]) [2, 3, 4, 5, 6, 7, 8, 9, 10, 11, 12, 1, 0] rfl (ih _ _ _ _ _ _ _ _ _ _ _ hF)
        · have hF := ifn c9 hF
          refine L_iconst (pc := 2154) (v := 0) h (by decide) dL_law_2154 ?_
          cases hF
          exact L_zreturn (pc := 2155) h rfl zr0 rfl rfl dL_law_2155
theorem w9_law_2124 {ad : Nat → Nat} {X : XX} {R : Mem × Int32} {fu : Nat}  (h : Lx layC ad X cL_law RL 30 9 (some .boolean) (R.1) (some (.int R.2)))  {f : Nat} {x4 : Int32} {x5 : Int32} {x7 : Int32} {x8 : Int32} {x9 : Int32} {x10 : Int32} {x11 : Int32} {x15 : Int32} {x21 : Int32} {x22 : Int32} {M : Mem} (hF : f9_law_2124 (zL X.1) (zX X.1) fu f x4 x5 x7 x8 x9 x10 x11 x15 x21 x22 M = some R) : Lp layC ad X M 2124 [(0, .ref (zB X.1)), (1, .ref (ad 28)), (2, .ref (ad 47)), (4, .int x4), (5, .int x5), (7, .int x7), (8, .int x8), (9, .int x9), (10, .int x10), (11, .int x11), (15, .int x15), (21, .int x21), (22, .int x22)] [] := w9_lawi_2124 h  f _ _ _ _ _ _ _ _ _ _ _ hF
def f9_law_2055 (sL : Nat) (sx : Nat → Int32) (fu : Nat) : Nat → Int32 → Int32 → Int32 → Int32 → Int32 → Int32 → Int32 → Int32 → Int32 → Int32 → Mem → Option (Mem × Int32)
  | 0 => fun _ _ _ _ _ _ _ _ _ _ _ => none
  | f + 1 => fun x4 x5 x7 x8 x9 x10 x11 x15 x20 x21 M =>
    if (13 : Int32) ≤ x21 then ((f4_whose fu (2 : Int32) M).bind fun ⟨M3, r4⟩ =>
    if r4 < (1 : Int32) then ((some (M3, (0 : Int32))))
    else (if (x5 + (1 : Int32)) < r4 then ((some (M3, (0 : Int32))))
    else ((f4_asked M3).bind fun r8 =>
    if r8 ≤ x9 then ((f9_law_2124 sL sx fu fu x4 x5 x7 x8 x9 x10 x11 x15 r4 (0 : Int32) M3))
    else ((some (M3, (0 : Int32)))))))
    else ((f4_lay (2 : Int32) x21 ((x20 >>> (x21 &&& 31)) &&& (1 : Int32)) M).bind fun ⟨M11, r12⟩ =>
    if r12 = (1 : Int32) then (nm (x21 + (1 : Int32)) fun v14 =>
    ((f9_law_2055 sL sx fu f) x4 x5 x7 x8 x9 x10 x11 x15 x20 v14 M11))
    else ((some (M11, (0 : Int32)))))
set_option maxHeartbeats 4000000 in
set_option maxRecDepth 10000 in
theorem w9_lawi_2055 {ad : Nat → Nat} {X : XX} {R : Mem × Int32} {fu : Nat}  (h : Lx layC ad X cL_law RL 30 9 (some .boolean) (R.1) (some (.int R.2)))  : ∀ (f : Nat) (x4 : Int32) (x5 : Int32) (x7 : Int32) (x8 : Int32) (x9 : Int32) (x10 : Int32) (x11 : Int32) (x15 : Int32) (x20 : Int32) (x21 : Int32) (M : Mem), f9_law_2055 (zL X.1) (zX X.1) fu f x4 x5 x7 x8 x9 x10 x11 x15 x20 x21 M = some R → Lp layC ad X M 2055 [(0, .ref (zB X.1)), (1, .ref (ad 28)), (2, .ref (ad 47)), (4, .int x4), (5, .int x5), (7, .int x7), (8, .int x8), (9, .int x9), (10, .int x10), (11, .int x11), (15, .int x15), (20, .int x20), (21, .int x21)] [] := by
  intro f
  induction f with
  | zero => intro x4 x5 x7 x8 x9 x10 x11 x15 x20 x21 M hF; exact absurd hF (by simp [f9_law_2055])
  | succ f ih =>
    intro x4 x5 x7 x8 x9 x10 x11 x15 x20 x21 M hF
    rw [f9_law_2055] at hF
    refine L_iload (pc := 2055) h 12 rfl dL_law_2055 ?_
    refine L_bipush (pc := 2057) (v := 13) h (by decide) dL_law_2057 ?_
    refine L_icmp_ge (pc := 2059) (tgt := 2088) h dL_law_2059 (by decide) (fun c1 => ?_) (fun c1 => ?_)
    · have hF := itp c1 hF
      refine L_aload_n (pc := 2088) h 1 rfl rfl dL_law_2088 ?_
      refine L_iconst (pc := 2089) (v := 2) h (by decide) dL_law_2089 ?_
      obtain ⟨⟨M3, r4⟩, hc2, hF⟩ := bd hF
      refine L_callV (pc := 2090) (st := []) h [.int (2 : Int32)] cvL_133 (c4_whose (ad := ad) (z := X.1) hc2) rfl rfl lc_28 (by decide) (by decide) (Nat.le_of_ble_eq_true rfl) dL_law_2090 (st1 := [.int r4]) rfl ?_
      refine L_istore (pc := 2093) (lv' := [(21, .int r4), (0, .ref (zB X.1)), (1, .ref (ad 28)), (2, .ref (ad 47)), (4, .int x4), (5, .int x5), (7, .int x7), (8, .int x8), (9, .int x9), (10, .int x10), (11, .int x11), (15, .int x15), (20, .int x20)]) h rfl (by decide) rfl dL_law_2093 ?_
      refine L_iload (pc := 2095) h 0 rfl dL_law_2095 ?_
      refine L_iconst (pc := 2097) (v := 1) h (by decide) dL_law_2097 ?_
      refine L_icmp_lt (pc := 2098) (tgt := 2119) h dL_law_2098 (by decide) (fun c5 => ?_) (fun c5 => ?_)
      · have hF := itp c5 hF
        refine L_iconst (pc := 2119) (v := 0) h (by decide) dL_law_2119 ?_
        cases hF
        exact L_zreturn (pc := 2120) h rfl zr0 rfl rfl dL_law_2120
      · have hF := ifn c5 hF
        refine L_iload (pc := 2101) h 0 rfl dL_law_2101 ?_
        refine L_iload (pc := 2103) h 5 rfl dL_law_2103 ?_
        refine L_iconst (pc := 2105) (v := 1) h (by decide) dL_law_2105 ?_
        refine L_iadd (pc := 2106) h dL_law_2106 ?_
        refine L_icmp_gt (pc := 2107) (tgt := 2119) h dL_law_2107 (by decide) (fun c6 => ?_) (fun c6 => ?_)
        · have hF := itp c6 hF
          refine L_iconst (pc := 2119) (v := 0) h (by decide) dL_law_2119 ?_
          cases hF
          exact L_zreturn (pc := 2120) h rfl zr0 rfl rfl dL_law_2120
        · have hF := ifn c6 hF
          refine L_aload_n (pc := 2110) h 2 rfl rfl dL_law_2110 ?_
          obtain ⟨r8, hc7, hF⟩ := bd hF
          refine L_callV (pc := 2111) (st := []) h [] cvL_101 (c4_asked (ad := ad) (z := X.1) hc7) rfl rfl lc_28 (by decide) (by decide) (Nat.le_of_ble_eq_true rfl) dL_law_2111 (st1 := [.int r8]) rfl ?_
          refine L_iload (pc := 2114) h 8 rfl dL_law_2114 ?_
          refine L_icmp_le (pc := 2116) (tgt := 2121) h dL_law_2116 (by decide) (fun c9 => ?_) (fun c9 => ?_)
          · have hF := itp c9 hF
            refine L_iconst (pc := 2121) (v := 0) h (by decide) dL_law_2121 ?_
            refine L_istore (pc := 2122) (lv' := [(22, .int (0 : Int32)), (21, .int r4), (0, .ref (zB X.1)), (1, .ref (ad 28)), (2, .ref (ad 47)), (4, .int x4), (5, .int x5), (7, .int x7), (8, .int x8), (9, .int x9), (10, .int x10), (11, .int x11), (15, .int x15), (20, .int x20)]) h rfl (by decide) rfl dL_law_2122 ?_
            exact Lp_sub (nX := 0) (lv' := [(0, .ref (zB X.1)), (1, .ref (ad 28)), (2, .ref (ad 47)), (4, .int x4), (5, .int x5), (7, .int x7), (8, .int x8), (9, .int x9), (10, .int x10), (11, .int x11), (15, .int x15), (21, .int r4), (22, .int (0 : Int32))]) [2, 3, 4, 5, 6, 7, 8, 9, 10, 11, 12, 1, 0] rfl (w9_law_2124 h  (hF := hF))
          · have hF := ifn c9 hF
            refine L_iconst (pc := 2119) (v := 0) h (by decide) dL_law_2119 ?_
            cases hF
            exact L_zreturn (pc := 2120) h rfl zr0 rfl rfl dL_law_2120
    · have hF := ifn c1 hF
      refine L_aload_n (pc := 2062) h 1 rfl rfl dL_law_2062 ?_
      refine L_iconst (pc := 2063) (v := 2) h (by decide) dL_law_2063 ?_
      refine L_iload (pc := 2064) h 12 rfl dL_law_2064 ?_
      refine L_iload (pc := 2066) h 11 rfl dL_law_2066 ?_
      refine L_iload (pc := 2068) h 12 rfl dL_law_2068 ?_
      refine L_ishr (pc := 2070) h dL_law_2070 ?_
      refine L_iconst (pc := 2071) (v := 1) h (by decide) dL_law_2071 ?_
      refine L_iand (pc := 2072) h dL_law_2072 ?_
      obtain ⟨⟨M11, r12⟩, hc10, hF⟩ := bd hF
      refine L_callV (pc := 2073) (st := []) h [.int (2 : Int32), .int x21, .int ((x20 >>> (x21 &&& 31)) &&& (1 : Int32))] cvL_130 (c4_lay (ad := ad) (z := X.1) hc10) rfl rfl lc_28 (by decide) (by decide) (Nat.le_of_ble_eq_true rfl) dL_law_2073 (st1 := [.int r12]) rfl ?_
      refine L_iconst (pc := 2076) (v := 1) h (by decide) dL_law_2076 ?_
      refine L_icmp_eq (pc := 2077) (tgt := 2082) h dL_law_2077 (by decide) (fun c13 => ?_) (fun c13 => ?_)
      · have hF := itp c13 hF
        obtain ⟨v14, hv14, hF⟩ := nm_e2 hF
        refine L_iinc (pc := 2082) (lv' := [(21, .int v14), (0, .ref (zB X.1)), (1, .ref (ad 28)), (2, .ref (ad 47)), (4, .int x4), (5, .int x5), (7, .int x7), (8, .int x8), (9, .int x9), (10, .int x10), (11, .int x11), (15, .int x15), (20, .int x20)]) h 12 rfl (by decide) hv14 (by decide) rfl dL_law_2082 ?_
        refine L_goto (pc := 2085) (tgt := 2055) h dL_law_2085 (by decide) ?_
        exact Lp_sub (nX := 0) (lv' := [(0, .ref (zB X.1)), (1, .ref (ad 28)), (2, .ref (ad 47)), (4, .int x4), (5, .int x5), (7, .int x7), (8, .int x8), (9, .int x9), (10, .int x10), (11, .int x11), (15, .int x15), (20, .int x20), (21, .int v14)]) [1, 2, 3, 4, 5, 6, 7, 8, 9, 10, 11, 12, 0] rfl (ih _ _ _ _ _ _ _ _ _ _ _ hF)
      · have hF := ifn c13 hF
        refine L_iconst (pc := 2080) (v := 0) h (by decide) dL_law_2080 ?_
        cases hF
        exact L_zreturn (pc := 2081) h rfl zr0 rfl rfl dL_law_2081
theorem w9_law_2055 {ad : Nat → Nat} {X : XX} {R : Mem × Int32} {fu : Nat}  (h : Lx layC ad X cL_law RL 30 9 (some .boolean) (R.1) (some (.int R.2)))  {f : Nat} {x4 : Int32} {x5 : Int32} {x7 : Int32} {x8 : Int32} {x9 : Int32} {x10 : Int32} {x11 : Int32} {x15 : Int32} {x20 : Int32} {x21 : Int32} {M : Mem} (hF : f9_law_2055 (zL X.1) (zX X.1) fu f x4 x5 x7 x8 x9 x10 x11 x15 x20 x21 M = some R) : Lp layC ad X M 2055 [(0, .ref (zB X.1)), (1, .ref (ad 28)), (2, .ref (ad 47)), (4, .int x4), (5, .int x5), (7, .int x7), (8, .int x8), (9, .int x9), (10, .int x10), (11, .int x11), (15, .int x15), (20, .int x20), (21, .int x21)] [] := w9_lawi_2055 h  f _ _ _ _ _ _ _ _ _ _ _ hF
def f9_law_1824 (sL : Nat) (sx : Nat → Int32) (fu : Nat) : Nat → Int32 → Int32 → Int32 → Int32 → Int32 → Int32 → Int32 → Int32 → Int32 → Mem → Option (Mem × Int32)
  | 0 => fun _ _ _ _ _ _ _ _ _ _ => none
  | f + 1 => fun x4 x5 x7 x8 x9 x10 x11 x15 x20 M =>
    if (5 : Int32) ≤ x20 then ((f4_busy fu M).bind fun ⟨M3, r4⟩ =>
    (f4_row fu (2 : Int32) (13 : Int32) M3).bind fun ⟨M6, r7⟩ =>
    if r7 = (13 : Int32) then ((f9_law_2055 sL sx fu fu x4 x5 x7 x8 x9 x10 x11 x15 r4 (0 : Int32) M6))
    else ((some (M6, (0 : Int32)))))
    else ((f9_cell_S sL sx M ((35 : Int32) + x20)).bind fun r10 =>
    (f9_part r10 (x5 + (1 : Int32))).bind fun r12 =>
    (f4_walk fu r12 M).bind fun ⟨M14, r15⟩ =>
    (f4_asked M14).bind fun r17 =>
    if (r12 &&& (x10 ^^^ (-1 : Int32))) = 0 then (if r12 = 0 then (if r17 = x8 then ((f9_law_1903 sL sx fu (f9_law_1824 sL sx fu f) fu x4 x5 x7 x8 x9 x10 x11 x15 x20 r12 r15 r17 (1 : Int32) (0 : Int32) M14))
    else ((f9_law_1903 sL sx fu (f9_law_1824 sL sx fu f) fu x4 x5 x7 x8 x9 x10 x11 x15 x20 r12 r15 r17 (0 : Int32) (0 : Int32) M14)))
    else ((f9_law_1903 sL sx fu (f9_law_1824 sL sx fu f) fu x4 x5 x7 x8 x9 x10 x11 x15 x20 r12 r15 r17 (0 : Int32) (0 : Int32) M14)))
    else (if r15 = (-4 : Int32) then (nm (x20 + (1 : Int32)) fun v22 =>
    ((f9_law_1824 sL sx fu f) x4 x5 x7 x8 x9 x10 x11 x15 v22 M14))
    else ((some (M14, (0 : Int32))))))
set_option maxHeartbeats 4000000 in
set_option maxRecDepth 10000 in
theorem w9_lawi_1824 {ad : Nat → Nat} {X : XX} {R : Mem × Int32} {fu : Nat}  (h : Lx layC ad X cL_law RL 30 9 (some .boolean) (R.1) (some (.int R.2)))  : ∀ (f : Nat) (x4 : Int32) (x5 : Int32) (x7 : Int32) (x8 : Int32) (x9 : Int32) (x10 : Int32) (x11 : Int32) (x15 : Int32) (x20 : Int32) (M : Mem), f9_law_1824 (zL X.1) (zX X.1) fu f x4 x5 x7 x8 x9 x10 x11 x15 x20 M = some R → Lp layC ad X M 1824 [(0, .ref (zB X.1)), (1, .ref (ad 28)), (2, .ref (ad 47)), (4, .int x4), (5, .int x5), (7, .int x7), (8, .int x8), (9, .int x9), (10, .int x10), (11, .int x11), (15, .int x15), (20, .int x20)] [] := by
  intro f
  induction f with
  | zero => intro x4 x5 x7 x8 x9 x10 x11 x15 x20 M hF; exact absurd hF (by simp [f9_law_1824])
  | succ f ih =>
    intro x4 x5 x7 x8 x9 x10 x11 x15 x20 M hF
    rw [f9_law_1824] at hF
    refine L_iload (pc := 1824) h 11 rfl dL_law_1824 ?_
    refine L_iconst (pc := 1826) (v := 5) h (by decide) dL_law_1826 ?_
    refine L_icmp_ge (pc := 1827) (tgt := 2032) h dL_law_1827 (by decide) (fun c1 => ?_) (fun c1 => ?_)
    · have hF := itp c1 hF
      refine L_aload_n (pc := 2032) h 1 rfl rfl dL_law_2032 ?_
      obtain ⟨⟨M3, r4⟩, hc2, hF⟩ := bd hF
      refine L_callV (pc := 2033) (st := []) h [] cvL_98 (c4_busy (ad := ad) (z := X.1) hc2) rfl rfl lc_28 (by decide) (by decide) (Nat.le_of_ble_eq_true rfl) dL_law_2033 (st1 := [.int r4]) rfl ?_
      refine L_istore (pc := 2036) (lv' := [(20, .int r4), (0, .ref (zB X.1)), (1, .ref (ad 28)), (2, .ref (ad 47)), (4, .int x4), (5, .int x5), (7, .int x7), (8, .int x8), (9, .int x9), (10, .int x10), (11, .int x11), (15, .int x15)]) h rfl (by decide) rfl dL_law_2036 ?_
      refine L_aload_n (pc := 2038) h 2 rfl rfl dL_law_2038 ?_
      refine L_iconst (pc := 2039) (v := 2) h (by decide) dL_law_2039 ?_
      refine L_bipush (pc := 2040) (v := 13) h (by decide) dL_law_2040 ?_
      obtain ⟨⟨M6, r7⟩, hc5, hF⟩ := bd hF
      refine L_callV (pc := 2042) (st := []) h [.int (2 : Int32), .int (13 : Int32)] cvL_127 (c4_row (ad := ad) (z := X.1) hc5) rfl rfl lc_28 (by decide) (by decide) (Nat.le_of_ble_eq_true rfl) dL_law_2042 (st1 := [.int r7]) rfl ?_
      refine L_bipush (pc := 2045) (v := 13) h (by decide) dL_law_2045 ?_
      refine L_icmp_eq (pc := 2047) (tgt := 2052) h dL_law_2047 (by decide) (fun c8 => ?_) (fun c8 => ?_)
      · have hF := itp c8 hF
        refine L_iconst (pc := 2052) (v := 0) h (by decide) dL_law_2052 ?_
        refine L_istore (pc := 2053) (lv' := [(21, .int (0 : Int32)), (20, .int r4), (0, .ref (zB X.1)), (1, .ref (ad 28)), (2, .ref (ad 47)), (4, .int x4), (5, .int x5), (7, .int x7), (8, .int x8), (9, .int x9), (10, .int x10), (11, .int x11), (15, .int x15)]) h rfl (by decide) rfl dL_law_2053 ?_
        exact Lp_sub (nX := 0) (lv' := [(0, .ref (zB X.1)), (1, .ref (ad 28)), (2, .ref (ad 47)), (4, .int x4), (5, .int x5), (7, .int x7), (8, .int x8), (9, .int x9), (10, .int x10), (11, .int x11), (15, .int x15), (20, .int r4), (21, .int (0 : Int32))]) [2, 3, 4, 5, 6, 7, 8, 9, 10, 11, 12, 1, 0] rfl (w9_law_2055 h  (hF := hF))
      · have hF := ifn c8 hF
        refine L_iconst (pc := 2050) (v := 0) h (by decide) dL_law_2050 ?_
        cases hF
        exact L_zreturn (pc := 2051) h rfl zr0 rfl rfl dL_law_2051
    · have hF := ifn c1 hF
      refine L_aload_n (pc := 1830) h 0 rfl rfl dL_law_1830 ?_
      refine L_bipush (pc := 1831) (v := 35) h (by decide) dL_law_1831 ?_
      refine L_iload (pc := 1833) h 11 rfl dL_law_1833 ?_
      refine L_iadd (pc := 1835) h dL_law_1835 ?_
      obtain ⟨r10, hc9, hF⟩ := bd hF
      refine L_callS (pc := 1836) (st := []) h [.ref (zB X.1), .int ((35 : Int32) + x20)] csL_15 (c9_cell_S (ad := ad) (z := X.1) hc9) rfl rfl (by decide) (by decide) (Nat.le_of_ble_eq_true rfl) dL_law_1836 (st1 := [.int r10]) rfl ?_
      refine L_iload (pc := 1839) h 4 rfl dL_law_1839 ?_
      refine L_iconst (pc := 1841) (v := 1) h (by decide) dL_law_1841 ?_
      refine L_iadd (pc := 1842) h dL_law_1842 ?_
      obtain ⟨r12, hc11, hF⟩ := bd hF
      refine L_callS (pc := 1843) (st := []) h [.int r10, .int (x5 + (1 : Int32))] csL_21 (c9_part (ad := ad) (z := X.1) (M := M) hc11) rfl rfl (by decide) (by decide) (Nat.le_of_ble_eq_true rfl) dL_law_1843 (st1 := [.int r12]) rfl ?_
      refine L_istore (pc := 1846) (lv' := [(21, .int r12), (0, .ref (zB X.1)), (1, .ref (ad 28)), (2, .ref (ad 47)), (4, .int x4), (5, .int x5), (7, .int x7), (8, .int x8), (9, .int x9), (10, .int x10), (11, .int x11), (15, .int x15), (20, .int x20)]) h rfl (by decide) rfl dL_law_1846 ?_
      refine L_aload_n (pc := 1848) h 2 rfl rfl dL_law_1848 ?_
      refine L_iload (pc := 1849) h 0 rfl dL_law_1849 ?_
      obtain ⟨⟨M14, r15⟩, hc13, hF⟩ := bd hF
      refine L_callV (pc := 1851) (st := []) h [.int r12] cvL_124 (c4_walk (ad := ad) (z := X.1) hc13) rfl rfl lc_28 (by decide) (by decide) (Nat.le_of_ble_eq_true rfl) dL_law_1851 (st1 := [.int r15]) rfl ?_
      refine L_istore (pc := 1854) (lv' := [(22, .int r15), (21, .int r12), (0, .ref (zB X.1)), (1, .ref (ad 28)), (2, .ref (ad 47)), (4, .int x4), (5, .int x5), (7, .int x7), (8, .int x8), (9, .int x9), (10, .int x10), (11, .int x11), (15, .int x15), (20, .int x20)]) h rfl (by decide) rfl dL_law_1854 ?_
      refine L_aload_n (pc := 1856) h 3 rfl rfl dL_law_1856 ?_
      obtain ⟨r17, hc16, hF⟩ := bd hF
      refine L_callV (pc := 1857) (st := []) h [] cvL_101 (c4_asked (ad := ad) (z := X.1) hc16) rfl rfl lc_28 (by decide) (by decide) (Nat.le_of_ble_eq_true rfl) dL_law_1857 (st1 := [.int r17]) rfl ?_
      refine L_istore (pc := 1860) (lv' := [(23, .int r17), (22, .int r15), (21, .int r12), (0, .ref (zB X.1)), (1, .ref (ad 28)), (2, .ref (ad 47)), (4, .int x4), (5, .int x5), (7, .int x7), (8, .int x8), (9, .int x9), (10, .int x10), (11, .int x11), (15, .int x15), (20, .int x20)]) h rfl (by decide) rfl dL_law_1860 ?_
      refine L_iload (pc := 1862) h 2 rfl dL_law_1862 ?_
      refine L_iload (pc := 1864) h 11 rfl dL_law_1864 ?_
      refine L_iconst (pc := 1866) (v := (-1)) h (by decide) dL_law_1866 ?_
      refine L_ixor (pc := 1867) h dL_law_1867 ?_
      refine L_iand (pc := 1868) h dL_law_1868 ?_
      refine L_if_eq (pc := 1869) (tgt := 1881) h dL_law_1869 (by decide) (fun c18 => ?_) (fun c18 => ?_)
      · have hF := itp c18 hF
        refine L_iload (pc := 1881) h 2 rfl dL_law_1881 ?_
        refine L_if_ne (pc := 1883) (tgt := 1897) h dL_law_1883 (by decide) (fun c19 => ?_) (fun c19 => ?_)
        · have hF := ifn c19 hF
          refine L_iconst (pc := 1897) (v := 0) h (by decide) dL_law_1897 ?_
          refine L_istore (pc := 1898) (lv' := [(24, .int (0 : Int32)), (23, .int r17), (22, .int r15), (21, .int r12), (0, .ref (zB X.1)), (1, .ref (ad 28)), (2, .ref (ad 47)), (4, .int x4), (5, .int x5), (7, .int x7), (8, .int x8), (9, .int x9), (10, .int x10), (11, .int x11), (15, .int x15), (20, .int x20)]) h rfl (by decide) rfl dL_law_1898 ?_
          refine L_iconst (pc := 1900) (v := 0) h (by decide) dL_law_1900 ?_
          refine L_istore (pc := 1901) (lv' := [(25, .int (0 : Int32)), (24, .int (0 : Int32)), (23, .int r17), (22, .int r15), (21, .int r12), (0, .ref (zB X.1)), (1, .ref (ad 28)), (2, .ref (ad 47)), (4, .int x4), (5, .int x5), (7, .int x7), (8, .int x8), (9, .int x9), (10, .int x10), (11, .int x11), (15, .int x15), (20, .int x20)]) h rfl (by decide) rfl dL_law_1901 ?_
          exact Lp_sub (nX := 0) (lv' := [(0, .ref (zB X.1)), (1, .ref (ad 28)), (2, .ref (ad 47)), (4, .int x4), (5, .int x5), (7, .int x7), (8, .int x8), (9, .int x9), (10, .int x10), (11, .int x11), (15, .int x15), (20, .int x20), (21, .int r12), (22, .int r15), (23, .int r17), (24, .int (0 : Int32)), (25, .int (0 : Int32))]) [5, 6, 7, 8, 9, 10, 11, 12, 13, 14, 15, 16, 4, 3, 2, 1, 0] rfl (w9_law_1903 h (hk1824 := fun a0 a1 a2 a3 a4 a5 a6 a7 a8 a9 hF => ih a0 a1 a2 a3 a4 a5 a6 a7 a8 a9 hF) (hF := hF))
        · have hF := itp c19 hF
          refine L_iload (pc := 1886) h 0 rfl dL_law_1886 ?_
          refine L_iload (pc := 1888) h 9 rfl dL_law_1888 ?_
          refine L_icmp_ne (pc := 1890) (tgt := 1897) h dL_law_1890 (by decide) (fun c20 => ?_) (fun c20 => ?_)
          · have hF := ifn c20 hF
            refine L_iconst (pc := 1897) (v := 0) h (by decide) dL_law_1897 ?_
            refine L_istore (pc := 1898) (lv' := [(24, .int (0 : Int32)), (23, .int r17), (22, .int r15), (21, .int r12), (0, .ref (zB X.1)), (1, .ref (ad 28)), (2, .ref (ad 47)), (4, .int x4), (5, .int x5), (7, .int x7), (8, .int x8), (9, .int x9), (10, .int x10), (11, .int x11), (15, .int x15), (20, .int x20)]) h rfl (by decide) rfl dL_law_1898 ?_
            refine L_iconst (pc := 1900) (v := 0) h (by decide) dL_law_1900 ?_
            refine L_istore (pc := 1901) (lv' := [(25, .int (0 : Int32)), (24, .int (0 : Int32)), (23, .int r17), (22, .int r15), (21, .int r12), (0, .ref (zB X.1)), (1, .ref (ad 28)), (2, .ref (ad 47)), (4, .int x4), (5, .int x5), (7, .int x7), (8, .int x8), (9, .int x9), (10, .int x10), (11, .int x11), (15, .int x15), (20, .int x20)]) h rfl (by decide) rfl dL_law_1901 ?_
            exact Lp_sub (nX := 0) (lv' := [(0, .ref (zB X.1)), (1, .ref (ad 28)), (2, .ref (ad 47)), (4, .int x4), (5, .int x5), (7, .int x7), (8, .int x8), (9, .int x9), (10, .int x10), (11, .int x11), (15, .int x15), (20, .int x20), (21, .int r12), (22, .int r15), (23, .int r17), (24, .int (0 : Int32)), (25, .int (0 : Int32))]) [5, 6, 7, 8, 9, 10, 11, 12, 13, 14, 15, 16, 4, 3, 2, 1, 0] rfl (w9_law_1903 h (hk1824 := fun a0 a1 a2 a3 a4 a5 a6 a7 a8 a9 hF => ih a0 a1 a2 a3 a4 a5 a6 a7 a8 a9 hF) (hF := hF))
          · have hF := itp c20 hF
            refine L_iconst (pc := 1893) (v := 1) h (by decide) dL_law_1893 ?_
            refine L_goto (pc := 1894) (tgt := 1898) h dL_law_1894 (by decide) ?_
            refine L_istore (pc := 1898) (lv' := [(24, .int (1 : Int32)), (23, .int r17), (22, .int r15), (21, .int r12), (0, .ref (zB X.1)), (1, .ref (ad 28)), (2, .ref (ad 47)), (4, .int x4), (5, .int x5), (7, .int x7), (8, .int x8), (9, .int x9), (10, .int x10), (11, .int x11), (15, .int x15), (20, .int x20)]) h rfl (by decide) rfl dL_law_1898 ?_
            refine L_iconst (pc := 1900) (v := 0) h (by decide) dL_law_1900 ?_
            refine L_istore (pc := 1901) (lv' := [(25, .int (0 : Int32)), (24, .int (1 : Int32)), (23, .int r17), (22, .int r15), (21, .int r12), (0, .ref (zB X.1)), (1, .ref (ad 28)), (2, .ref (ad 47)), (4, .int x4), (5, .int x5), (7, .int x7), (8, .int x8), (9, .int x9), (10, .int x10), (11, .int x11), (15, .int x15), (20, .int x20)]) h rfl (by decide) rfl dL_law_1901 ?_
            exact Lp_sub (nX := 0) (lv' := [(0, .ref (zB X.1)), (1, .ref (ad 28)), (2, .ref (ad 47)), (4, .int x4), (5, .int x5), (7, .int x7), (8, .int x8), (9, .int x9), (10, .int x10), (11, .int x11), (15, .int x15), (20, .int x20), (21, .int r12), (22, .int r15), (23, .int r17), (24, .int (1 : Int32)), (25, .int (0 : Int32))]) [5, 6, 7, 8, 9, 10, 11, 12, 13, 14, 15, 16, 4, 3, 2, 1, 0] rfl (w9_law_1903 h (hk1824 := fun a0 a1 a2 a3 a4 a5 a6 a7 a8 a9 hF => ih a0 a1 a2 a3 a4 a5 a6 a7 a8 a9 hF) (hF := hF))
      · have hF := ifn c18 hF
        refine L_iload (pc := 1872) h 1 rfl dL_law_1872 ?_
        refine L_bipush (pc := 1874) (v := (-4)) h (by decide) dL_law_1874 ?_
        refine L_icmp_eq (pc := 1876) (tgt := 2026) h dL_law_1876 (by decide) (fun c21 => ?_) (fun c21 => ?_)
        · have hF := itp c21 hF
          obtain ⟨v22, hv22, hF⟩ := nm_e2 hF
          refine L_iinc (pc := 2026) (lv' := [(20, .int v22), (23, .int r17), (22, .int r15), (21, .int r12), (0, .ref (zB X.1)), (1, .ref (ad 28)), (2, .ref (ad 47)), (4, .int x4), (5, .int x5), (7, .int x7), (8, .int x8), (9, .int x9), (10, .int x10), (11, .int x11), (15, .int x15)]) h 14 rfl (by decide) hv22 (by decide) rfl dL_law_2026 ?_
          refine L_goto (pc := 2029) (tgt := 1824) h dL_law_2029 (by decide) ?_
          exact Lp_sub (nX := 0) (lv' := [(0, .ref (zB X.1)), (1, .ref (ad 28)), (2, .ref (ad 47)), (4, .int x4), (5, .int x5), (7, .int x7), (8, .int x8), (9, .int x9), (10, .int x10), (11, .int x11), (15, .int x15), (20, .int v22)]) [4, 5, 6, 7, 8, 9, 10, 11, 12, 13, 14, 0] rfl (ih _ _ _ _ _ _ _ _ _ _ hF)
        · have hF := ifn c21 hF
          refine L_iconst (pc := 1879) (v := 0) h (by decide) dL_law_1879 ?_
          cases hF
          exact L_zreturn (pc := 1880) h rfl zr0 rfl rfl dL_law_1880
theorem w9_law_1824 {ad : Nat → Nat} {X : XX} {R : Mem × Int32} {fu : Nat}  (h : Lx layC ad X cL_law RL 30 9 (some .boolean) (R.1) (some (.int R.2)))  {f : Nat} {x4 : Int32} {x5 : Int32} {x7 : Int32} {x8 : Int32} {x9 : Int32} {x10 : Int32} {x11 : Int32} {x15 : Int32} {x20 : Int32} {M : Mem} (hF : f9_law_1824 (zL X.1) (zX X.1) fu f x4 x5 x7 x8 x9 x10 x11 x15 x20 M = some R) : Lp layC ad X M 1824 [(0, .ref (zB X.1)), (1, .ref (ad 28)), (2, .ref (ad 47)), (4, .int x4), (5, .int x5), (7, .int x7), (8, .int x8), (9, .int x9), (10, .int x10), (11, .int x11), (15, .int x15), (20, .int x20)] [] := w9_lawi_1824 h  f _ _ _ _ _ _ _ _ _ _ hF
def f9_law_1630 (sL : Nat) (sx : Nat → Int32) (fu : Nat) : Nat → Int32 → Int32 → Int32 → Int32 → Int32 → Int32 → Int32 → Int32 → Int32 → Int32 → Mem → Option (Mem × Int32)
  | 0 => fun _ _ _ _ _ _ _ _ _ _ _ => none
  | f + 1 => fun x4 x5 x7 x8 x9 x10 x11 x15 x19 x20 M =>
    if (21 : Int32) ≤ x20 then ((f9_law_1824 sL sx fu fu x4 x5 x7 x8 x9 x10 x11 x15 (0 : Int32) M))
    else ((f4_within fu x20 M).bind fun ⟨M3, r4⟩ =>
    (f4_asked M3).bind fun r6 =>
    (f4_walk fu r6 M3).bind fun ⟨M8, r9⟩ =>
    if r9 < 0 then ((some (M8, (0 : Int32))))
    else (if x20 < r9 then ((some (M8, (0 : Int32))))
    else ((f4_asked M8).bind fun r13 =>
    if r13 < 0 then ((some (M8, (0 : Int32))))
    else ((f4_asked M8).bind fun r16 =>
    if (9 : Int32) < r16 then ((some (M8, (0 : Int32))))
    else (if (r6 &&& (x10 ^^^ (-1 : Int32))) = 0 then (if r4 < x19 then ((some (M8, (0 : Int32))))
    else (if r4 ≤ x15 then ((f9_law_1721 sL sx fu (f9_law_1630 sL sx fu f) x4 x5 x7 x8 x9 x10 x11 x15 x20 r4 r6 (0 : Int32) M8))
    else (if x9 = 0 then ((some (M8, (0 : Int32))))
    else ((f9_law_1721 sL sx fu (f9_law_1630 sL sx fu f) x4 x5 x7 x8 x9 x10 x11 x15 x20 r4 r6 (0 : Int32) M8)))))
    else ((some (M8, (0 : Int32)))))))))
set_option maxHeartbeats 4000000 in
set_option maxRecDepth 10000 in
theorem w9_lawi_1630 {ad : Nat → Nat} {X : XX} {R : Mem × Int32} {fu : Nat}  (h : Lx layC ad X cL_law RL 30 9 (some .boolean) (R.1) (some (.int R.2)))  : ∀ (f : Nat) (x4 : Int32) (x5 : Int32) (x7 : Int32) (x8 : Int32) (x9 : Int32) (x10 : Int32) (x11 : Int32) (x15 : Int32) (x19 : Int32) (x20 : Int32) (M : Mem), f9_law_1630 (zL X.1) (zX X.1) fu f x4 x5 x7 x8 x9 x10 x11 x15 x19 x20 M = some R → Lp layC ad X M 1630 [(0, .ref (zB X.1)), (1, .ref (ad 28)), (2, .ref (ad 47)), (4, .int x4), (5, .int x5), (7, .int x7), (8, .int x8), (9, .int x9), (10, .int x10), (11, .int x11), (15, .int x15), (19, .int x19), (20, .int x20)] [] := by
  intro f
  induction f with
  | zero => intro x4 x5 x7 x8 x9 x10 x11 x15 x19 x20 M hF; exact absurd hF (by simp [f9_law_1630])
  | succ f ih =>
    intro x4 x5 x7 x8 x9 x10 x11 x15 x19 x20 M hF
    rw [f9_law_1630] at hF
    refine L_iload (pc := 1630) h 12 rfl dL_law_1630 ?_
    refine L_bipush (pc := 1632) (v := 21) h (by decide) dL_law_1632 ?_
    refine L_icmp_ge (pc := 1634) (tgt := 1821) h dL_law_1634 (by decide) (fun c1 => ?_) (fun c1 => ?_)
    · have hF := itp c1 hF
      refine L_iconst (pc := 1821) (v := 0) h (by decide) dL_law_1821 ?_
      refine L_istore (pc := 1822) (lv' := [(20, .int (0 : Int32)), (0, .ref (zB X.1)), (1, .ref (ad 28)), (2, .ref (ad 47)), (4, .int x4), (5, .int x5), (7, .int x7), (8, .int x8), (9, .int x9), (10, .int x10), (11, .int x11), (15, .int x15), (19, .int x19)]) h rfl (by decide) rfl dL_law_1822 ?_
      exact Lp_sub (nX := 0) (lv' := [(0, .ref (zB X.1)), (1, .ref (ad 28)), (2, .ref (ad 47)), (4, .int x4), (5, .int x5), (7, .int x7), (8, .int x8), (9, .int x9), (10, .int x10), (11, .int x11), (15, .int x15), (20, .int (0 : Int32))]) [1, 2, 3, 4, 5, 6, 7, 8, 9, 10, 11, 0] rfl (w9_law_1824 h  (hF := hF))
    · have hF := ifn c1 hF
      refine L_aload_n (pc := 1637) h 1 rfl rfl dL_law_1637 ?_
      refine L_iload (pc := 1638) h 12 rfl dL_law_1638 ?_
      obtain ⟨⟨M3, r4⟩, hc2, hF⟩ := bd hF
      refine L_callV (pc := 1640) (st := []) h [.int x20] cvL_121 (c4_within (ad := ad) (z := X.1) hc2) rfl rfl lc_28 (by decide) (by decide) (Nat.le_of_ble_eq_true rfl) dL_law_1640 (st1 := [.int r4]) rfl ?_
      refine L_istore (pc := 1643) (lv' := [(21, .int r4), (0, .ref (zB X.1)), (1, .ref (ad 28)), (2, .ref (ad 47)), (4, .int x4), (5, .int x5), (7, .int x7), (8, .int x8), (9, .int x9), (10, .int x10), (11, .int x11), (15, .int x15), (19, .int x19), (20, .int x20)]) h rfl (by decide) rfl dL_law_1643 ?_
      refine L_aload_n (pc := 1645) h 2 rfl rfl dL_law_1645 ?_
      obtain ⟨r6, hc5, hF⟩ := bd hF
      refine L_callV (pc := 1646) (st := []) h [] cvL_101 (c4_asked (ad := ad) (z := X.1) hc5) rfl rfl lc_28 (by decide) (by decide) (Nat.le_of_ble_eq_true rfl) dL_law_1646 (st1 := [.int r6]) rfl ?_
      refine L_istore (pc := 1649) (lv' := [(22, .int r6), (21, .int r4), (0, .ref (zB X.1)), (1, .ref (ad 28)), (2, .ref (ad 47)), (4, .int x4), (5, .int x5), (7, .int x7), (8, .int x8), (9, .int x9), (10, .int x10), (11, .int x11), (15, .int x15), (19, .int x19), (20, .int x20)]) h rfl (by decide) rfl dL_law_1649 ?_
      refine L_iconst (pc := 1651) (v := 0) h (by decide) dL_law_1651 ?_
      refine L_istore (pc := 1652) (lv' := [(23, .int (0 : Int32)), (22, .int r6), (21, .int r4), (0, .ref (zB X.1)), (1, .ref (ad 28)), (2, .ref (ad 47)), (4, .int x4), (5, .int x5), (7, .int x7), (8, .int x8), (9, .int x9), (10, .int x10), (11, .int x11), (15, .int x15), (19, .int x19), (20, .int x20)]) h rfl (by decide) rfl dL_law_1652 ?_
      refine L_aload_n (pc := 1654) h 4 rfl rfl dL_law_1654 ?_
      refine L_iload (pc := 1655) h 1 rfl dL_law_1655 ?_
      obtain ⟨⟨M8, r9⟩, hc7, hF⟩ := bd hF
      refine L_callV (pc := 1657) (st := []) h [.int r6] cvL_124 (c4_walk (ad := ad) (z := X.1) hc7) rfl rfl lc_28 (by decide) (by decide) (Nat.le_of_ble_eq_true rfl) dL_law_1657 (st1 := [.int r9]) rfl ?_
      refine L_istore (pc := 1660) (lv' := [(24, .int r9), (23, .int (0 : Int32)), (22, .int r6), (21, .int r4), (0, .ref (zB X.1)), (1, .ref (ad 28)), (2, .ref (ad 47)), (4, .int x4), (5, .int x5), (7, .int x7), (8, .int x8), (9, .int x9), (10, .int x10), (11, .int x11), (15, .int x15), (19, .int x19), (20, .int x20)]) h rfl (by decide) rfl dL_law_1660 ?_
      refine L_iload (pc := 1662) h 0 rfl dL_law_1662 ?_
      refine L_if_lt (pc := 1664) (tgt := 1719) h dL_law_1664 (by decide) (fun c10 => ?_) (fun c10 => ?_)
      · have hF := itp c10 hF
        refine L_iconst (pc := 1719) (v := 0) h (by decide) dL_law_1719 ?_
        cases hF
        exact L_zreturn (pc := 1720) h rfl zr0 rfl rfl dL_law_1720
      · have hF := ifn c10 hF
        refine L_iload (pc := 1667) h 0 rfl dL_law_1667 ?_
        refine L_iload (pc := 1669) h 16 rfl dL_law_1669 ?_
        refine L_icmp_gt (pc := 1671) (tgt := 1719) h dL_law_1671 (by decide) (fun c11 => ?_) (fun c11 => ?_)
        · have hF := itp c11 hF
          refine L_iconst (pc := 1719) (v := 0) h (by decide) dL_law_1719 ?_
          cases hF
          exact L_zreturn (pc := 1720) h rfl zr0 rfl rfl dL_law_1720
        · have hF := ifn c11 hF
          refine L_aload_n (pc := 1674) h 5 rfl rfl dL_law_1674 ?_
          obtain ⟨r13, hc12, hF⟩ := bd hF
          refine L_callV (pc := 1675) (st := []) h [] cvL_101 (c4_asked (ad := ad) (z := X.1) hc12) rfl rfl lc_28 (by decide) (by decide) (Nat.le_of_ble_eq_true rfl) dL_law_1675 (st1 := [.int r13]) rfl ?_
          refine L_if_lt (pc := 1678) (tgt := 1719) h dL_law_1678 (by decide) (fun c14 => ?_) (fun c14 => ?_)
          · have hF := itp c14 hF
            refine L_iconst (pc := 1719) (v := 0) h (by decide) dL_law_1719 ?_
            cases hF
            exact L_zreturn (pc := 1720) h rfl zr0 rfl rfl dL_law_1720
          · have hF := ifn c14 hF
            refine L_aload_n (pc := 1681) h 5 rfl rfl dL_law_1681 ?_
            obtain ⟨r16, hc15, hF⟩ := bd hF
            refine L_callV (pc := 1682) (st := []) h [] cvL_101 (c4_asked (ad := ad) (z := X.1) hc15) rfl rfl lc_28 (by decide) (by decide) (Nat.le_of_ble_eq_true rfl) dL_law_1682 (st1 := [.int r16]) rfl ?_
            refine L_bipush (pc := 1685) (v := 9) h (by decide) dL_law_1685 ?_
            refine L_icmp_gt (pc := 1687) (tgt := 1719) h dL_law_1687 (by decide) (fun c17 => ?_) (fun c17 => ?_)
            · have hF := itp c17 hF
              refine L_iconst (pc := 1719) (v := 0) h (by decide) dL_law_1719 ?_
              cases hF
              exact L_zreturn (pc := 1720) h rfl zr0 rfl rfl dL_law_1720
            · have hF := ifn c17 hF
              refine L_iload (pc := 1690) h 2 rfl dL_law_1690 ?_
              refine L_iload (pc := 1692) h 12 rfl dL_law_1692 ?_
              refine L_iconst (pc := 1694) (v := (-1)) h (by decide) dL_law_1694 ?_
              refine L_ixor (pc := 1695) h dL_law_1695 ?_
              refine L_iand (pc := 1696) h dL_law_1696 ?_
              refine L_if_ne (pc := 1697) (tgt := 1719) h dL_law_1697 (by decide) (fun c18 => ?_) (fun c18 => ?_)
              · have hF := ifn c18 hF
                refine L_iconst (pc := 1719) (v := 0) h (by decide) dL_law_1719 ?_
                cases hF
                exact L_zreturn (pc := 1720) h rfl zr0 rfl rfl dL_law_1720
              · have hF := itp c18 hF
                refine L_iload (pc := 1700) h 3 rfl dL_law_1700 ?_
                refine L_iload (pc := 1702) h 15 rfl dL_law_1702 ?_
                refine L_icmp_lt (pc := 1704) (tgt := 1719) h dL_law_1704 (by decide) (fun c19 => ?_) (fun c19 => ?_)
                · have hF := itp c19 hF
                  refine L_iconst (pc := 1719) (v := 0) h (by decide) dL_law_1719 ?_
                  cases hF
                  exact L_zreturn (pc := 1720) h rfl zr0 rfl rfl dL_law_1720
                · have hF := ifn c19 hF
                  refine L_iload (pc := 1707) h 3 rfl dL_law_1707 ?_
                  refine L_iload (pc := 1709) h 14 rfl dL_law_1709 ?_
                  refine L_icmp_le (pc := 1711) (tgt := 1721) h dL_law_1711 (by decide) (fun c20 => ?_) (fun c20 => ?_)
                  · have hF := itp c20 hF
                    exact Lp_sub (nX := 0) (lv' := [(0, .ref (zB X.1)), (1, .ref (ad 28)), (2, .ref (ad 47)), (4, .int x4), (5, .int x5), (7, .int x7), (8, .int x8), (9, .int x9), (10, .int x10), (11, .int x11), (15, .int x15), (20, .int x20), (21, .int r4), (22, .int r6), (23, .int (0 : Int32))]) [4, 5, 6, 7, 8, 9, 10, 11, 12, 13, 14, 16, 3, 2, 1] rfl (w9_law_1721 h (hk1630 := fun a0 a1 a2 a3 a4 a5 a6 a7 a8 a9 a10 hF => ih a0 a1 a2 a3 a4 a5 a6 a7 a8 a9 a10 hF) (hF := hF))
                  · have hF := ifn c20 hF
                    refine L_iload (pc := 1714) h 11 rfl dL_law_1714 ?_
                    refine L_if_ne (pc := 1716) (tgt := 1721) h dL_law_1716 (by decide) (fun c21 => ?_) (fun c21 => ?_)
                    · have hF := ifn c21 hF
                      exact Lp_sub (nX := 0) (lv' := [(0, .ref (zB X.1)), (1, .ref (ad 28)), (2, .ref (ad 47)), (4, .int x4), (5, .int x5), (7, .int x7), (8, .int x8), (9, .int x9), (10, .int x10), (11, .int x11), (15, .int x15), (20, .int x20), (21, .int r4), (22, .int r6), (23, .int (0 : Int32))]) [4, 5, 6, 7, 8, 9, 10, 11, 12, 13, 14, 16, 3, 2, 1] rfl (w9_law_1721 h (hk1630 := fun a0 a1 a2 a3 a4 a5 a6 a7 a8 a9 a10 hF => ih a0 a1 a2 a3 a4 a5 a6 a7 a8 a9 a10 hF) (hF := hF))
                    · have hF := itp c21 hF
                      refine L_iconst (pc := 1719) (v := 0) h (by decide) dL_law_1719 ?_
                      cases hF
                      exact L_zreturn (pc := 1720) h rfl zr0 rfl rfl dL_law_1720
theorem w9_law_1630 {ad : Nat → Nat} {X : XX} {R : Mem × Int32} {fu : Nat}  (h : Lx layC ad X cL_law RL 30 9 (some .boolean) (R.1) (some (.int R.2)))  {f : Nat} {x4 : Int32} {x5 : Int32} {x7 : Int32} {x8 : Int32} {x9 : Int32} {x10 : Int32} {x11 : Int32} {x15 : Int32} {x19 : Int32} {x20 : Int32} {M : Mem} (hF : f9_law_1630 (zL X.1) (zX X.1) fu f x4 x5 x7 x8 x9 x10 x11 x15 x19 x20 M = some R) : Lp layC ad X M 1630 [(0, .ref (zB X.1)), (1, .ref (ad 28)), (2, .ref (ad 47)), (4, .int x4), (5, .int x5), (7, .int x7), (8, .int x8), (9, .int x9), (10, .int x10), (11, .int x11), (15, .int x15), (19, .int x19), (20, .int x20)] [] := w9_lawi_1630 h  f _ _ _ _ _ _ _ _ _ _ _ hF
def f9_law_1500 (sL : Nat) (sx : Nat → Int32) (fu : Nat) : Nat → Int32 → Int32 → Int32 → Int32 → Int32 → Int32 → Int32 → Int32 → Int32 → Int32 → Int32 → Mem → Option (Mem × Int32)
  | 0 => fun _ _ _ _ _ _ _ _ _ _ _ _ => none
  | f + 1 => fun x4 x5 x7 x8 x9 x10 x11 x15 x16 x18 x19 M =>
    if x4 ≤ x19 then ((f9_law_1630 sL sx fu fu x4 x5 x7 x8 x9 x10 x11 x15 (-1 : Int32) (0 : Int32) M))
    else (if ((x9 >>> (x19 &&& 31)) &&& (1 : Int32)) = (1 : Int32) then ((f9_law_1534 sL sx fu (f9_law_1500 sL sx fu f) x4 x5 x7 x8 x9 x10 x11 x15 x16 x18 x19 (1 : Int32) M))
    else (if ((x10 >>> (x19 &&& 31)) &&& (1 : Int32)) = (1 : Int32) then ((f9_law_1534 sL sx fu (f9_law_1500 sL sx fu f) x4 x5 x7 x8 x9 x10 x11 x15 x16 x18 x19 (1 : Int32) M))
    else ((f9_law_1534 sL sx fu (f9_law_1500 sL sx fu f) x4 x5 x7 x8 x9 x10 x11 x15 x16 x18 x19 (0 : Int32) M))))
set_option maxHeartbeats 4000000 in
set_option maxRecDepth 10000 in
theorem w9_lawi_1500 {ad : Nat → Nat} {X : XX} {R : Mem × Int32} {fu : Nat}  (h : Lx layC ad X cL_law RL 30 9 (some .boolean) (R.1) (some (.int R.2)))  : ∀ (f : Nat) (x4 : Int32) (x5 : Int32) (x7 : Int32) (x8 : Int32) (x9 : Int32) (x10 : Int32) (x11 : Int32) (x15 : Int32) (x16 : Int32) (x18 : Int32) (x19 : Int32) (M : Mem), f9_law_1500 (zL X.1) (zX X.1) fu f x4 x5 x7 x8 x9 x10 x11 x15 x16 x18 x19 M = some R → Lp layC ad X M 1500 [(0, .ref (zB X.1)), (1, .ref (ad 28)), (2, .ref (ad 47)), (4, .int x4), (5, .int x5), (7, .int x7), (8, .int x8), (9, .int x9), (10, .int x10), (11, .int x11), (15, .int x15), (16, .int x16), (18, .int x18), (19, .int x19)] [] := by
  intro f
  induction f with
  | zero => intro x4 x5 x7 x8 x9 x10 x11 x15 x16 x18 x19 M hF; exact absurd hF (by simp [f9_law_1500])
  | succ f ih =>
    intro x4 x5 x7 x8 x9 x10 x11 x15 x16 x18 x19 M hF
    rw [f9_law_1500] at hF
    refine L_iload (pc := 1500) h 13 rfl dL_law_1500 ?_
    refine L_iload (pc := 1502) h 3 rfl dL_law_1502 ?_
    refine L_icmp_ge (pc := 1504) (tgt := 1624) h dL_law_1504 (by decide) (fun c1 => ?_) (fun c1 => ?_)
    · have hF := itp c1 hF
      refine L_iconst (pc := 1624) (v := (-1)) h (by decide) dL_law_1624 ?_
      refine L_istore (pc := 1625) (lv' := [(19, .int (-1 : Int32)), (0, .ref (zB X.1)), (1, .ref (ad 28)), (2, .ref (ad 47)), (4, .int x4), (5, .int x5), (7, .int x7), (8, .int x8), (9, .int x9), (10, .int x10), (11, .int x11), (15, .int x15), (16, .int x16), (18, .int x18)]) h rfl (by decide) rfl dL_law_1625 ?_
      refine L_iconst (pc := 1627) (v := 0) h (by decide) dL_law_1627 ?_
      refine L_istore (pc := 1628) (lv' := [(20, .int (0 : Int32)), (19, .int (-1 : Int32)), (0, .ref (zB X.1)), (1, .ref (ad 28)), (2, .ref (ad 47)), (4, .int x4), (5, .int x5), (7, .int x7), (8, .int x8), (9, .int x9), (10, .int x10), (11, .int x11), (15, .int x15), (16, .int x16), (18, .int x18)]) h rfl (by decide) rfl dL_law_1628 ?_
      exact Lp_sub (nX := 0) (lv' := [(0, .ref (zB X.1)), (1, .ref (ad 28)), (2, .ref (ad 47)), (4, .int x4), (5, .int x5), (7, .int x7), (8, .int x8), (9, .int x9), (10, .int x10), (11, .int x11), (15, .int x15), (19, .int (-1 : Int32)), (20, .int (0 : Int32))]) [2, 3, 4, 5, 6, 7, 8, 9, 10, 11, 12, 1, 0] rfl (w9_law_1630 h  (hF := hF))
    · have hF := ifn c1 hF
      refine L_iload (pc := 1507) h 7 rfl dL_law_1507 ?_
      refine L_iload (pc := 1509) h 13 rfl dL_law_1509 ?_
      refine L_ishr (pc := 1511) h dL_law_1511 ?_
      refine L_iconst (pc := 1512) (v := 1) h (by decide) dL_law_1512 ?_
      refine L_iand (pc := 1513) h dL_law_1513 ?_
      refine L_iconst (pc := 1514) (v := 1) h (by decide) dL_law_1514 ?_
      refine L_icmp_eq (pc := 1515) (tgt := 1529) h dL_law_1515 (by decide) (fun c2 => ?_) (fun c2 => ?_)
      · have hF := itp c2 hF
        refine L_iconst (pc := 1529) (v := 1) h (by decide) dL_law_1529 ?_
        refine L_goto (pc := 1530) (tgt := 1534) h dL_law_1530 (by decide) ?_
        exact Lp_sub (nX := 0) (lv' := [(0, .ref (zB X.1)), (1, .ref (ad 28)), (2, .ref (ad 47)), (4, .int x4), (5, .int x5), (7, .int x7), (8, .int x8), (9, .int x9), (10, .int x10), (11, .int x11), (15, .int x15), (16, .int x16), (18, .int x18), (19, .int x19)]) [0, 1, 2, 3, 4, 5, 6, 7, 8, 9, 10, 11, 12, 13] rfl (w9_law_1534 h (hk1500 := fun a0 a1 a2 a3 a4 a5 a6 a7 a8 a9 a10 a11 hF => ih a0 a1 a2 a3 a4 a5 a6 a7 a8 a9 a10 a11 hF) (hF := hF))
      · have hF := ifn c2 hF
        refine L_iload (pc := 1518) h 8 rfl dL_law_1518 ?_
        refine L_iload (pc := 1520) h 13 rfl dL_law_1520 ?_
        refine L_ishr (pc := 1522) h dL_law_1522 ?_
        refine L_iconst (pc := 1523) (v := 1) h (by decide) dL_law_1523 ?_
        refine L_iand (pc := 1524) h dL_law_1524 ?_
        refine L_iconst (pc := 1525) (v := 1) h (by decide) dL_law_1525 ?_
        refine L_icmp_ne (pc := 1526) (tgt := 1533) h dL_law_1526 (by decide) (fun c3 => ?_) (fun c3 => ?_)
        · have hF := ifn c3 hF
          refine L_iconst (pc := 1533) (v := 0) h (by decide) dL_law_1533 ?_
          exact Lp_sub (nX := 0) (lv' := [(0, .ref (zB X.1)), (1, .ref (ad 28)), (2, .ref (ad 47)), (4, .int x4), (5, .int x5), (7, .int x7), (8, .int x8), (9, .int x9), (10, .int x10), (11, .int x11), (15, .int x15), (16, .int x16), (18, .int x18), (19, .int x19)]) [0, 1, 2, 3, 4, 5, 6, 7, 8, 9, 10, 11, 12, 13] rfl (w9_law_1534 h (hk1500 := fun a0 a1 a2 a3 a4 a5 a6 a7 a8 a9 a10 a11 hF => ih a0 a1 a2 a3 a4 a5 a6 a7 a8 a9 a10 a11 hF) (hF := hF))
        · have hF := itp c3 hF
          refine L_iconst (pc := 1529) (v := 1) h (by decide) dL_law_1529 ?_
          refine L_goto (pc := 1530) (tgt := 1534) h dL_law_1530 (by decide) ?_
          exact Lp_sub (nX := 0) (lv' := [(0, .ref (zB X.1)), (1, .ref (ad 28)), (2, .ref (ad 47)), (4, .int x4), (5, .int x5), (7, .int x7), (8, .int x8), (9, .int x9), (10, .int x10), (11, .int x11), (15, .int x15), (16, .int x16), (18, .int x18), (19, .int x19)]) [0, 1, 2, 3, 4, 5, 6, 7, 8, 9, 10, 11, 12, 13] rfl (w9_law_1534 h (hk1500 := fun a0 a1 a2 a3 a4 a5 a6 a7 a8 a9 a10 a11 hF => ih a0 a1 a2 a3 a4 a5 a6 a7 a8 a9 a10 a11 hF) (hF := hF))
theorem w9_law_1500 {ad : Nat → Nat} {X : XX} {R : Mem × Int32} {fu : Nat}  (h : Lx layC ad X cL_law RL 30 9 (some .boolean) (R.1) (some (.int R.2)))  {f : Nat} {x4 : Int32} {x5 : Int32} {x7 : Int32} {x8 : Int32} {x9 : Int32} {x10 : Int32} {x11 : Int32} {x15 : Int32} {x16 : Int32} {x18 : Int32} {x19 : Int32} {M : Mem} (hF : f9_law_1500 (zL X.1) (zX X.1) fu f x4 x5 x7 x8 x9 x10 x11 x15 x16 x18 x19 M = some R) : Lp layC ad X M 1500 [(0, .ref (zB X.1)), (1, .ref (ad 28)), (2, .ref (ad 47)), (4, .int x4), (5, .int x5), (7, .int x7), (8, .int x8), (9, .int x9), (10, .int x10), (11, .int x11), (15, .int x15), (16, .int x16), (18, .int x18), (19, .int x19)] [] := w9_lawi_1500 h  f _ _ _ _ _ _ _ _ _ _ _ _ hF
def f9_law_1377 (sL : Nat) (sx : Nat → Int32) (fu : Nat) : Nat → Int32 → Int32 → Int32 → Int32 → Int32 → Int32 → Int32 → Int32 → Int32 → Int32 → Int32 → Int32 → Mem → Option (Mem × Int32)
  | 0 => fun _ _ _ _ _ _ _ _ _ _ _ _ _ => none
  | f + 1 => fun x4 x5 x7 x8 x9 x10 x11 x15 x16 x17 x18 x19 M =>
    (f9_many fu x16).bind fun r2 =>
    if r2 ≤ x19 then (if x17 = x15 then ((f9_law_1500 sL sx fu fu x4 x5 x7 x8 x9 x10 x11 x15 x16 x18 (0 : Int32) M))
    else ((some (M, (0 : Int32)))))
    else ((f4_at (5 : Int32) x19 M).bind fun ⟨M6, r7⟩ =>
    if r7 = (1 : Int32) then ((f4_asked M6).bind fun r10 =>
    (f4_pin r10 (2 : Int32) M6).bind fun ⟨M12, r13⟩ =>
    (f9_told_28 M12 r13).bind fun r15 =>
    if r10 < 0 then ((some (M12, (0 : Int32))))
    else (if x4 ≤ r10 then ((some (M12, (0 : Int32))))
    else (if ((x16 >>> (r10 &&& 31)) &&& (1 : Int32)) = (1 : Int32) then (if r15 ≤ x18 then ((some (M12, (0 : Int32))))
    else (if (r15 &&& x18) = 0 then (nm (x18 ||| r15) fun v21 =>
    (f4_pin r10 (5 : Int32) M12).bind fun ⟨M23, r24⟩ =>
    (f9_told_28 M23 r24).bind fun r26 =>
    nm (x17 + r26) fun v27 =>
    nm (x19 + (1 : Int32)) fun v28 =>
    ((f9_law_1377 sL sx fu f) x4 x5 x7 x8 x9 x10 x11 x15 x16 v27 v21 v28 M23))
    else ((some (M12, (0 : Int32))))))
    else ((some (M12, (0 : Int32)))))))
    else ((some (M6, (0 : Int32)))))
set_option maxHeartbeats 4000000 in
set_option maxRecDepth 10000 in
theorem w9_lawi_1377 {ad : Nat → Nat} {X : XX} {R : Mem × Int32} {fu : Nat}  (h : Lx layC ad X cL_law RL 30 9 (some .boolean) (R.1) (some (.int R.2)))  : ∀ (f : Nat) (x4 : Int32) (x5 : Int32) (x7 : Int32) (x8 : Int32) (x9 : Int32) (x10 : Int32) (x11 : Int32) (x15 : Int32) (x16 : Int32) (x17 : Int32) (x18 : Int32) (x19 : Int32) (M : Mem), f9_law_1377 (zL X.1) (zX X.1) fu f x4 x5 x7 x8 x9 x10 x11 x15 x16 x17 x18 x19 M = some R → Lp layC ad X M 1377 [(0, .ref (zB X.1)), (1, .ref (ad 28)), (2, .ref (ad 47)), (4, .int x4), (5, .int x5), (7, .int x7), (8, .int x8), (9, .int x9), (10, .int x10), (11, .int x11), (15, .int x15), (16, .int x16), (17, .int x17), (18, .int x18), (19, .int x19)] [] := by
  intro f
  induction f with
  | zero => intro x4 x5 x7 x8 x9 x10 x11 x15 x16 x17 x18 x19 M hF; exact absurd hF (by simp [f9_law_1377])
  | succ f ih =>
    intro x4 x5 x7 x8 x9 x10 x11 x15 x16 x17 x18 x19 M hF
    rw [f9_law_1377] at hF
    refine L_iload (pc := 1377) h 14 rfl dL_law_1377 ?_
    refine L_iload (pc := 1379) h 11 rfl dL_law_1379 ?_
    obtain ⟨r2, hc1, hF⟩ := bd hF
    refine L_callS (pc := 1381) (st := [.int x19]) h [.int x16] csL_66 (c9_many (ad := ad) (z := X.1) (M := M) hc1) rfl rfl (by decide) (by decide) (Nat.le_of_ble_eq_true rfl) dL_law_1381 (st1 := [.int r2, .int x19]) rfl ?_
    refine L_icmp_ge (pc := 1384) (tgt := 1488) h dL_law_1384 (by decide) (fun c3 => ?_) (fun c3 => ?_)
    · have hF := itp c3 hF
      refine L_iload (pc := 1488) h 12 rfl dL_law_1488 ?_
      refine L_iload (pc := 1490) h 10 rfl dL_law_1490 ?_
      refine L_icmp_eq (pc := 1492) (tgt := 1497) h dL_law_1492 (by decide) (fun c4 => ?_) (fun c4 => ?_)
      · have hF := itp c4 hF
        refine L_iconst (pc := 1497) (v := 0) h (by decide) dL_law_1497 ?_
        refine L_istore (pc := 1498) (lv' := [(19, .int (0 : Int32)), (0, .ref (zB X.1)), (1, .ref (ad 28)), (2, .ref (ad 47)), (4, .int x4), (5, .int x5), (7, .int x7), (8, .int x8), (9, .int x9), (10, .int x10), (11, .int x11), (15, .int x15), (16, .int x16), (17, .int x17), (18, .int x18)]) h rfl (by decide) rfl dL_law_1498 ?_
        exact Lp_sub (nX := 0) (lv' := [(0, .ref (zB X.1)), (1, .ref (ad 28)), (2, .ref (ad 47)), (4, .int x4), (5, .int x5), (7, .int x7), (8, .int x8), (9, .int x9), (10, .int x10), (11, .int x11), (15, .int x15), (16, .int x16), (18, .int x18), (19, .int (0 : Int32))]) [1, 2, 3, 4, 5, 6, 7, 8, 9, 10, 11, 12, 14, 0] rfl (w9_law_1500 h  (hF := hF))
      · have hF := ifn c4 hF
        refine L_iconst (pc := 1495) (v := 0) h (by decide) dL_law_1495 ?_
        cases hF
        exact L_zreturn (pc := 1496) h rfl zr0 rfl rfl dL_law_1496
    · have hF := ifn c3 hF
      refine L_aload_n (pc := 1387) h 1 rfl rfl dL_law_1387 ?_
      refine L_iconst (pc := 1388) (v := 5) h (by decide) dL_law_1388 ?_
      refine L_iload (pc := 1389) h 14 rfl dL_law_1389 ?_
      obtain ⟨⟨M6, r7⟩, hc5, hF⟩ := bd hF
      refine L_callV (pc := 1391) (st := []) h [.int (5 : Int32), .int x19] cvL_118 (c4_at (ad := ad) (z := X.1) hc5) rfl rfl lc_28 (by decide) (by decide) (Nat.le_of_ble_eq_true rfl) dL_law_1391 (st1 := [.int r7]) rfl ?_
      refine L_iconst (pc := 1394) (v := 1) h (by decide) dL_law_1394 ?_
      refine L_icmp_eq (pc := 1395) (tgt := 1400) h dL_law_1395 (by decide) (fun c8 => ?_) (fun c8 => ?_)
      · have hF := itp c8 hF
        refine L_aload_n (pc := 1400) h 1 rfl rfl dL_law_1400 ?_
        obtain ⟨r10, hc9, hF⟩ := bd hF
        refine L_callV (pc := 1401) (st := []) h [] cvL_101 (c4_asked (ad := ad) (z := X.1) hc9) rfl rfl lc_28 (by decide) (by decide) (Nat.le_of_ble_eq_true rfl) dL_law_1401 (st1 := [.int r10]) rfl ?_
        refine L_istore (pc := 1404) (lv' := [(20, .int r10), (0, .ref (zB X.1)), (1, .ref (ad 28)), (2, .ref (ad 47)), (4, .int x4), (5, .int x5), (7, .int x7), (8, .int x8), (9, .int x9), (10, .int x10), (11, .int x11), (15, .int x15), (16, .int x16), (17, .int x17), (18, .int x18), (19, .int x19)]) h rfl (by decide) rfl dL_law_1404 ?_
        refine L_aload_n (pc := 1406) h 2 rfl rfl dL_law_1406 ?_
        refine L_aload_n (pc := 1407) h 2 rfl rfl dL_law_1407 ?_
        refine L_iload (pc := 1408) h 0 rfl dL_law_1408 ?_
        refine L_iconst (pc := 1410) (v := 2) h (by decide) dL_law_1410 ?_
        obtain ⟨⟨M12, r13⟩, hc11, hF⟩ := bd hF
        refine L_callV (pc := 1411) (st := [.ref (ad 28)]) h [.int r10, .int (2 : Int32)] cvL_88 (c4_pin (ad := ad) (z := X.1) hc11) rfl rfl lc_28 (by decide) (by decide) (Nat.le_of_ble_eq_true rfl) dL_law_1411 (st1 := [.int r13, .ref (ad 28)]) rfl ?_
        obtain ⟨r15, hc14, hF⟩ := bd hF
        refine L_callS (pc := 1414) (st := []) h [.ref (ad 28), .int r13] csL_91 (c9_told_28 (ad := ad) (z := X.1) hc14) rfl rfl (by decide) (by decide) (Nat.le_of_ble_eq_true rfl) dL_law_1414 (st1 := [.int r15]) rfl ?_
        refine L_istore (pc := 1417) (lv' := [(21, .int r15), (20, .int r10), (0, .ref (zB X.1)), (1, .ref (ad 28)), (2, .ref (ad 47)), (4, .int x4), (5, .int x5), (7, .int x7), (8, .int x8), (9, .int x9), (10, .int x10), (11, .int x11), (15, .int x15), (16, .int x16), (17, .int x17), (18, .int x18), (19, .int x19)]) h rfl (by decide) rfl dL_law_1417 ?_
        refine L_iload (pc := 1419) h 1 rfl dL_law_1419 ?_
        refine L_if_lt (pc := 1421) (tgt := 1457) h dL_law_1421 (by decide) (fun c16 => ?_) (fun c16 => ?_)
        · have hF := itp c16 hF
          refine L_iconst (pc := 1457) (v := 0) h (by decide) dL_law_1457 ?_
          cases hF
          exact L_zreturn (pc := 1458) h rfl zr0 rfl rfl dL_law_1458
        · have hF := ifn c16 hF
          refine L_iload (pc := 1424) h 1 rfl dL_law_1424 ?_
          refine L_iload (pc := 1426) h 5 rfl dL_law_1426 ?_
          refine L_icmp_ge (pc := 1428) (tgt := 1457) h dL_law_1428 (by decide) (fun c17 => ?_) (fun c17 => ?_)
          · have hF := itp c17 hF
            refine L_iconst (pc := 1457) (v := 0) h (by decide) dL_law_1457 ?_
            cases hF
            exact L_zreturn (pc := 1458) h rfl zr0 rfl rfl dL_law_1458
          · have hF := ifn c17 hF
            refine L_iload (pc := 1431) h 13 rfl dL_law_1431 ?_
            refine L_iload (pc := 1433) h 1 rfl dL_law_1433 ?_
            refine L_ishr (pc := 1435) h dL_law_1435 ?_
            refine L_iconst (pc := 1436) (v := 1) h (by decide) dL_law_1436 ?_
            refine L_iand (pc := 1437) h dL_law_1437 ?_
            refine L_iconst (pc := 1438) (v := 1) h (by decide) dL_law_1438 ?_
            refine L_icmp_ne (pc := 1439) (tgt := 1457) h dL_law_1439 (by decide) (fun c18 => ?_) (fun c18 => ?_)
            · have hF := ifn c18 hF
              refine L_iconst (pc := 1457) (v := 0) h (by decide) dL_law_1457 ?_
              cases hF
              exact L_zreturn (pc := 1458) h rfl zr0 rfl rfl dL_law_1458
            · have hF := itp c18 hF
              refine L_iload (pc := 1442) h 0 rfl dL_law_1442 ?_
              refine L_iload (pc := 1444) h 15 rfl dL_law_1444 ?_
              refine L_icmp_le (pc := 1446) (tgt := 1457) h dL_law_1446 (by decide) (fun c19 => ?_) (fun c19 => ?_)
              · have hF := itp c19 hF
                refine L_iconst (pc := 1457) (v := 0) h (by decide) dL_law_1457 ?_
                cases hF
                exact L_zreturn (pc := 1458) h rfl zr0 rfl rfl dL_law_1458
              · have hF := ifn c19 hF
                refine L_iload (pc := 1449) h 0 rfl dL_law_1449 ?_
                refine L_iload (pc := 1451) h 15 rfl dL_law_1451 ?_
                refine L_iand (pc := 1453) h dL_law_1453 ?_
                refine L_if_eq (pc := 1454) (tgt := 1459) h dL_law_1454 (by decide) (fun c20 => ?_) (fun c20 => ?_)
                · have hF := itp c20 hF
                  refine L_iload (pc := 1459) h 15 rfl dL_law_1459 ?_
                  refine L_iload (pc := 1461) h 0 rfl dL_law_1461 ?_
                  refine L_ior (pc := 1463) h dL_law_1463 ?_
                  obtain ⟨v21, hv21, hF⟩ := nm_e2 hF
                  refine L_istore (pc := 1464) (lv' := [(18, .int v21), (21, .int r15), (20, .int r10), (0, .ref (zB X.1)), (1, .ref (ad 28)), (2, .ref (ad 47)), (4, .int x4), (5, .int x5), (7, .int x7), (8, .int x8), (9, .int x9), (10, .int x10), (11, .int x11), (15, .int x15), (16, .int x16), (17, .int x17), (19, .int x19)]) h hv21 (by decide) rfl dL_law_1464 ?_
                  refine L_iload (pc := 1466) h 15 rfl dL_law_1466 ?_
                  refine L_aload_n (pc := 1468) h 4 rfl rfl dL_law_1468 ?_
                  refine L_aload_n (pc := 1469) h 4 rfl rfl dL_law_1469 ?_
                  refine L_iload (pc := 1470) h 2 rfl dL_law_1470 ?_
                  refine L_iconst (pc := 1472) (v := 5) h (by decide) dL_law_1472 ?_
                  obtain ⟨⟨M23, r24⟩, hc22, hF⟩ := bd hF
                  refine L_callV (pc := 1473) (st := [.ref (ad 28), .int x17]) h [.int r10, .int (5 : Int32)] cvL_88 (c4_pin (ad := ad) (z := X.1) hc22) rfl rfl lc_28 (by decide) (by decide) (Nat.le_of_ble_eq_true rfl) dL_law_1473 (st1 := [.int r24, .ref (ad 28), .int x17]) rfl ?_
                  obtain ⟨r26, hc25, hF⟩ := bd hF
                  refine L_callS (pc := 1476) (st := [.int x17]) h [.ref (ad 28), .int r24] csL_91 (c9_told_28 (ad := ad) (z := X.1) hc25) rfl rfl (by decide) (by decide) (Nat.le_of_ble_eq_true rfl) dL_law_1476 (st1 := [.int r26, .int x17]) rfl ?_
                  refine L_iadd (pc := 1479) h dL_law_1479 ?_
                  obtain ⟨v27, hv27, hF⟩ := nm_e2 hF
                  refine L_istore (pc := 1480) (lv' := [(17, .int v27), (18, .int v21), (21, .int r15), (20, .int r10), (0, .ref (zB X.1)), (1, .ref (ad 28)), (2, .ref (ad 47)), (4, .int x4), (5, .int x5), (7, .int x7), (8, .int x8), (9, .int x9), (10, .int x10), (11, .int x11), (15, .int x15), (16, .int x16), (19, .int x19)]) h hv27 (by decide) rfl dL_law_1480 ?_
                  obtain ⟨v28, hv28, hF⟩ := nm_e2 hF
                  refine L_iinc (pc := 1482) (lv' := [(19, .int v28), (17, .int v27), (18, .int v21), (21, .int r15), (20, .int r10), (0, .ref (zB X.1)), (1, .ref (ad 28)), (2, .ref (ad 47)), (4, .int x4), (5, .int x5), (7, .int x7), (8, .int x8), (9, .int x9), (10, .int x10), (11, .int x11), (15, .int x15), (16, .int x16)]) h 16 rfl (by decide) hv28 (by decide) rfl dL_law_1482 ?_
                  refine L_goto (pc := 1485) (tgt := 1377) h dL_law_1485 (by decide) ?_
                  exact Lp_sub (nX := 0) (lv' := [(0, .ref (zB X.1)), (1, .ref (ad 28)), (2, .ref (ad 47)), (4, .int x4), (5, .int x5), (7, .int x7), (8, .int x8), (9, .int x9), (10, .int x10), (11, .int x11), (15, .int x15), (16, .int x16), (17, .int v27), (18, .int v21), (19, .int v28)]) [5, 6, 7, 8, 9, 10, 11, 12, 13, 14, 15, 16, 1, 2, 0] rfl (ih _ _ _ _ _ _ _ _ _ _ _ _ _ hF)
                · have hF := ifn c20 hF
                  refine L_iconst (pc := 1457) (v := 0) h (by decide) dL_law_1457 ?_
                  cases hF
                  exact L_zreturn (pc := 1458) h rfl zr0 rfl rfl dL_law_1458
      · have hF := ifn c8 hF
        refine L_iconst (pc := 1398) (v := 0) h (by decide) dL_law_1398 ?_
        cases hF
        exact L_zreturn (pc := 1399) h rfl zr0 rfl rfl dL_law_1399
theorem w9_law_1377 {ad : Nat → Nat} {X : XX} {R : Mem × Int32} {fu : Nat}  (h : Lx layC ad X cL_law RL 30 9 (some .boolean) (R.1) (some (.int R.2)))  {f : Nat} {x4 : Int32} {x5 : Int32} {x7 : Int32} {x8 : Int32} {x9 : Int32} {x10 : Int32} {x11 : Int32} {x15 : Int32} {x16 : Int32} {x17 : Int32} {x18 : Int32} {x19 : Int32} {M : Mem} (hF : f9_law_1377 (zL X.1) (zX X.1) fu f x4 x5 x7 x8 x9 x10 x11 x15 x16 x17 x18 x19 M = some R) : Lp layC ad X M 1377 [(0, .ref (zB X.1)), (1, .ref (ad 28)), (2, .ref (ad 47)), (4, .int x4), (5, .int x5), (7, .int x7), (8, .int x8), (9, .int x9), (10, .int x10), (11, .int x11), (15, .int x15), (16, .int x16), (17, .int x17), (18, .int x18), (19, .int x19)] [] := w9_lawi_1377 h  f _ _ _ _ _ _ _ _ _ _ _ _ _ hF
def f9_law_1320 (sL : Nat) (sx : Nat → Int32) (fu : Nat) (x4 : Int32) (x5 : Int32) (x7 : Int32) (x8 : Int32) (x9 : Int32) (x10 : Int32) (x11 : Int32) (M : Mem) : Option (Mem × Int32) :=
    (f4_best fu (5 : Int32) M).bind fun ⟨M2, r3⟩ =>
    (f4_asked M2).bind fun r5 =>
    if r3 < 0 then ((some (M2, (0 : Int32))))
    else (if (r5 &&& ((x9 ||| x10) ^^^ (-1 : Int32))) = 0 then ((f9_many fu r5).bind fun r9 =>
    (f4_at (5 : Int32) r9 M2).bind fun ⟨M11, r12⟩ =>
    if r12 = (-3 : Int32) then ((f9_law_1377 sL sx fu fu x4 x5 x7 x8 x9 x10 x11 r3 r5 (0 : Int32) (0 : Int32) (0 : Int32) M11))
    else ((some (M11, (0 : Int32)))))
    else ((some (M2, (0 : Int32)))))
set_option maxHeartbeats 4000000 in
set_option maxRecDepth 10000 in
theorem w9_law_1320 {ad : Nat → Nat} {X : XX} {R : Mem × Int32} {fu : Nat}  (h : Lx layC ad X cL_law RL 30 9 (some .boolean) (R.1) (some (.int R.2)))  {x4 : Int32} {x5 : Int32} {x7 : Int32} {x8 : Int32} {x9 : Int32} {x10 : Int32} {x11 : Int32} {M : Mem} (hF : f9_law_1320 (zL X.1) (zX X.1) fu x4 x5 x7 x8 x9 x10 x11 M = some R) : Lp layC ad X M 1320 [(0, .ref (zB X.1)), (1, .ref (ad 28)), (2, .ref (ad 47)), (4, .int x4), (5, .int x5), (7, .int x7), (8, .int x8), (9, .int x9), (10, .int x10), (11, .int x11)] [] := by
  unfold f9_law_1320 at hF
  refine L_aload_n (pc := 1320) h 1 rfl rfl dL_law_1320 ?_
  refine L_iconst (pc := 1321) (v := 5) h (by decide) dL_law_1321 ?_
  obtain ⟨⟨M2, r3⟩, hc1, hF⟩ := bd hF
  refine L_callV (pc := 1322) (st := []) h [.int (5 : Int32)] cvL_115 (c4_best (ad := ad) (z := X.1) hc1) rfl rfl lc_28 (by decide) (by decide) (Nat.le_of_ble_eq_true rfl) dL_law_1322 (st1 := [.int r3]) rfl ?_
  refine L_istore (pc := 1325) (lv' := [(15, .int r3), (0, .ref (zB X.1)), (1, .ref (ad 28)), (2, .ref (ad 47)), (4, .int x4), (5, .int x5), (7, .int x7), (8, .int x8), (9, .int x9), (10, .int x10), (11, .int x11)]) h rfl (by decide) rfl dL_law_1325 ?_
  refine L_aload_n (pc := 1327) h 2 rfl rfl dL_law_1327 ?_
  obtain ⟨r5, hc4, hF⟩ := bd hF
  refine L_callV (pc := 1328) (st := []) h [] cvL_101 (c4_asked (ad := ad) (z := X.1) hc4) rfl rfl lc_28 (by decide) (by decide) (Nat.le_of_ble_eq_true rfl) dL_law_1328 (st1 := [.int r5]) rfl ?_
  refine L_istore (pc := 1331) (lv' := [(16, .int r5), (15, .int r3), (0, .ref (zB X.1)), (1, .ref (ad 28)), (2, .ref (ad 47)), (4, .int x4), (5, .int x5), (7, .int x7), (8, .int x8), (9, .int x9), (10, .int x10), (11, .int x11)]) h rfl (by decide) rfl dL_law_1331 ?_
  refine L_iconst (pc := 1333) (v := 0) h (by decide) dL_law_1333 ?_
  refine L_istore (pc := 1334) (lv' := [(17, .int (0 : Int32)), (16, .int r5), (15, .int r3), (0, .ref (zB X.1)), (1, .ref (ad 28)), (2, .ref (ad 47)), (4, .int x4), (5, .int x5), (7, .int x7), (8, .int x8), (9, .int x9), (10, .int x10), (11, .int x11)]) h rfl (by decide) rfl dL_law_1334 ?_
  refine L_iconst (pc := 1336) (v := 0) h (by decide) dL_law_1336 ?_
  refine L_istore (pc := 1337) (lv' := [(18, .int (0 : Int32)), (17, .int (0 : Int32)), (16, .int r5), (15, .int r3), (0, .ref (zB X.1)), (1, .ref (ad 28)), (2, .ref (ad 47)), (4, .int x4), (5, .int x5), (7, .int x7), (8, .int x8), (9, .int x9), (10, .int x10), (11, .int x11)]) h rfl (by decide) rfl dL_law_1337 ?_
  refine L_iload (pc := 1339) h 3 rfl dL_law_1339 ?_
  refine L_if_lt (pc := 1341) (tgt := 1372) h dL_law_1341 (by decide) (fun c6 => ?_) (fun c6 => ?_)
  · have hF := itp c6 hF
    refine L_iconst (pc := 1372) (v := 0) h (by decide) dL_law_1372 ?_
    cases hF
    exact L_zreturn (pc := 1373) h rfl zr0 rfl rfl dL_law_1373
  · have hF := ifn c6 hF
    refine L_iload (pc := 1344) h 2 rfl dL_law_1344 ?_
    refine L_iload (pc := 1346) h 11 rfl dL_law_1346 ?_
    refine L_iload (pc := 1348) h 12 rfl dL_law_1348 ?_
    refine L_ior (pc := 1350) h dL_law_1350 ?_
    refine L_iconst (pc := 1351) (v := (-1)) h (by decide) dL_law_1351 ?_
    refine L_ixor (pc := 1352) h dL_law_1352 ?_
    refine L_iand (pc := 1353) h dL_law_1353 ?_
    refine L_if_ne (pc := 1354) (tgt := 1372) h dL_law_1354 (by decide) (fun c7 => ?_) (fun c7 => ?_)
    · have hF := ifn c7 hF
      refine L_iconst (pc := 1372) (v := 0) h (by decide) dL_law_1372 ?_
      cases hF
      exact L_zreturn (pc := 1373) h rfl zr0 rfl rfl dL_law_1373
    · have hF := itp c7 hF
      refine L_aload_n (pc := 1357) h 5 rfl rfl dL_law_1357 ?_
      refine L_iconst (pc := 1358) (v := 5) h (by decide) dL_law_1358 ?_
      refine L_iload (pc := 1359) h 2 rfl dL_law_1359 ?_
      obtain ⟨r9, hc8, hF⟩ := bd hF
      refine L_callS (pc := 1361) (st := [.int (5 : Int32), .ref (ad 28)]) h [.int r5] csL_66 (c9_many (ad := ad) (z := X.1) (M := M2) hc8) rfl rfl (by decide) (by decide) (Nat.le_of_ble_eq_true rfl) dL_law_1361 (st1 := [.int r9, .int (5 : Int32), .ref (ad 28)]) rfl ?_
      obtain ⟨⟨M11, r12⟩, hc10, hF⟩ := bd hF
      refine L_callV (pc := 1364) (st := []) h [.int (5 : Int32), .int r9] cvL_118 (c4_at (ad := ad) (z := X.1) hc10) rfl rfl lc_28 (by decide) (by decide) (Nat.le_of_ble_eq_true rfl) dL_law_1364 (st1 := [.int r12]) rfl ?_
      refine L_bipush (pc := 1367) (v := (-3)) h (by decide) dL_law_1367 ?_
      refine L_icmp_eq (pc := 1369) (tgt := 1374) h dL_law_1369 (by decide) (fun c13 => ?_) (fun c13 => ?_)
      · have hF := itp c13 hF
        refine L_iconst (pc := 1374) (v := 0) h (by decide) dL_law_1374 ?_
        refine L_istore (pc := 1375) (lv' := [(19, .int (0 : Int32)), (18, .int (0 : Int32)), (17, .int (0 : Int32)), (16, .int r5), (15, .int r3), (0, .ref (zB X.1)), (1, .ref (ad 28)), (2, .ref (ad 47)), (4, .int x4), (5, .int x5), (7, .int x7), (8, .int x8), (9, .int x9), (10, .int x10), (11, .int x11)]) h rfl (by decide) rfl dL_law_1375 ?_
        exact Lp_sub (nX := 0) (lv' := [(0, .ref (zB X.1)), (1, .ref (ad 28)), (2, .ref (ad 47)), (4, .int x4), (5, .int x5), (7, .int x7), (8, .int x8), (9, .int x9), (10, .int x10), (11, .int x11), (15, .int r3), (16, .int r5), (17, .int (0 : Int32)), (18, .int (0 : Int32)), (19, .int (0 : Int32))]) [5, 6, 7, 8, 9, 10, 11, 12, 13, 14, 4, 3, 2, 1, 0] rfl (w9_law_1377 h  (hF := hF))
      · have hF := ifn c13 hF
        refine L_iconst (pc := 1372) (v := 0) h (by decide) dL_law_1372 ?_
        cases hF
        exact L_zreturn (pc := 1373) h rfl zr0 rfl rfl dL_law_1373
def f9_law_1259 (sL : Nat) (sx : Nat → Int32) (fu : Nat) : Nat → Int32 → Int32 → Int32 → Int32 → Int32 → Int32 → Int32 → Int32 → Int32 → Mem → Option (Mem × Int32)
  | 0 => fun _ _ _ _ _ _ _ _ _ _ => none
  | f + 1 => fun x4 x5 x7 x8 x9 x10 x11 x14 x15 M =>
    if x4 ≤ x15 then ((f4_clashes fu M).bind fun ⟨M3, r4⟩ =>
    if r4 = 0 then ((f4_least fu M3).bind fun ⟨M7, r8⟩ =>
    if r8 = 0 then ((f4_on fu (1 : Int32) M7).bind fun ⟨M11, r12⟩ =>
    if r12 = x7 then ((f9_law_1320 sL sx fu x4 x5 x7 x8 x9 x10 x11 M11))
    else ((some (M11, (0 : Int32)))))
    else ((some (M7, (0 : Int32)))))
    else ((some (M3, (0 : Int32)))))
    else (if ((x14 >>> (x15 &&& 31)) &&& (1 : Int32)) = (1 : Int32) then ((f4_drop fu x15 M).bind fun ⟨M16, r17⟩ =>
    if 0 ≤ r17 then (nm (x15 + (1 : Int32)) fun v19 =>
    ((f9_law_1259 sL sx fu f) x4 x5 x7 x8 x9 x10 x11 x14 v19 M16))
    else ((some (M16, (0 : Int32)))))
    else (nm (x15 + (1 : Int32)) fun v20 =>
    ((f9_law_1259 sL sx fu f) x4 x5 x7 x8 x9 x10 x11 x14 v20 M)))
set_option maxHeartbeats 4000000 in
set_option maxRecDepth 10000 in
theorem w9_lawi_1259 {ad : Nat → Nat} {X : XX} {R : Mem × Int32} {fu : Nat}  (h : Lx layC ad X cL_law RL 30 9 (some .boolean) (R.1) (some (.int R.2)))  : ∀ (f : Nat) (x4 : Int32) (x5 : Int32) (x7 : Int32) (x8 : Int32) (x9 : Int32) (x10 : Int32) (x11 : Int32) (x14 : Int32) (x15 : Int32) (M : Mem), f9_law_1259 (zL X.1) (zX X.1) fu f x4 x5 x7 x8 x9 x10 x11 x14 x15 M = some R → Lp layC ad X M 1259 [(0, .ref (zB X.1)), (1, .ref (ad 28)), (2, .ref (ad 47)), (4, .int x4), (5, .int x5), (7, .int x7), (8, .int x8), (9, .int x9), (10, .int x10), (11, .int x11), (14, .int x14), (15, .int x15)] [] := by
  intro f
  induction f with
  | zero => intro x4 x5 x7 x8 x9 x10 x11 x14 x15 M hF; exact absurd hF (by simp [f9_law_1259])
  | succ f ih =>
    intro x4 x5 x7 x8 x9 x10 x11 x14 x15 M hF
    rw [f9_law_1259] at hF
    refine L_iload (pc := 1259) h 11 rfl dL_law_1259 ?_
    refine L_iload (pc := 1261) h 3 rfl dL_law_1261 ?_
    refine L_icmp_ge (pc := 1263) (tgt := 1294) h dL_law_1263 (by decide) (fun c1 => ?_) (fun c1 => ?_)
    · have hF := itp c1 hF
      refine L_aload_n (pc := 1294) h 1 rfl rfl dL_law_1294 ?_
      obtain ⟨⟨M3, r4⟩, hc2, hF⟩ := bd hF
      refine L_callV (pc := 1295) (st := []) h [] cvL_104 (c4_clashes (ad := ad) (z := X.1) hc2) rfl rfl lc_28 (by decide) (by decide) (Nat.le_of_ble_eq_true rfl) dL_law_1295 (st1 := [.int r4]) rfl ?_
      refine L_if_ne (pc := 1298) (tgt := 1318) h dL_law_1298 (by decide) (fun c5 => ?_) (fun c5 => ?_)
      · have hF := ifn c5 hF
        refine L_iconst (pc := 1318) (v := 0) h (by decide) dL_law_1318 ?_
        cases hF
        exact L_zreturn (pc := 1319) h rfl zr0 rfl rfl dL_law_1319
      · have hF := itp c5 hF
        refine L_aload_n (pc := 1301) h 1 rfl rfl dL_law_1301 ?_
        obtain ⟨⟨M7, r8⟩, hc6, hF⟩ := bd hF
        refine L_callV (pc := 1302) (st := []) h [] cvL_110 (c4_least (ad := ad) (z := X.1) hc6) rfl rfl lc_28 (by decide) (by decide) (Nat.le_of_ble_eq_true rfl) dL_law_1302 (st1 := [.int r8]) rfl ?_
        refine L_if_ne (pc := 1305) (tgt := 1318) h dL_law_1305 (by decide) (fun c9 => ?_) (fun c9 => ?_)
        · have hF := ifn c9 hF
          refine L_iconst (pc := 1318) (v := 0) h (by decide) dL_law_1318 ?_
          cases hF
          exact L_zreturn (pc := 1319) h rfl zr0 rfl rfl dL_law_1319
        · have hF := itp c9 hF
          refine L_aload_n (pc := 1308) h 1 rfl rfl dL_law_1308 ?_
          refine L_iconst (pc := 1309) (v := 1) h (by decide) dL_law_1309 ?_
          obtain ⟨⟨M11, r12⟩, hc10, hF⟩ := bd hF
          refine L_callV (pc := 1310) (st := []) h [.int (1 : Int32)] cvL_113 (c4_on (ad := ad) (z := X.1) hc10) rfl rfl lc_28 (by decide) (by decide) (Nat.le_of_ble_eq_true rfl) dL_law_1310 (st1 := [.int r12]) rfl ?_
          refine L_iload (pc := 1313) h 5 rfl dL_law_1313 ?_
          refine L_icmp_eq (pc := 1315) (tgt := 1320) h dL_law_1315 (by decide) (fun c13 => ?_) (fun c13 => ?_)
          · have hF := itp c13 hF
            exact Lp_sub (nX := 0) (lv' := [(0, .ref (zB X.1)), (1, .ref (ad 28)), (2, .ref (ad 47)), (4, .int x4), (5, .int x5), (7, .int x7), (8, .int x8), (9, .int x9), (10, .int x10), (11, .int x11)]) [0, 1, 2, 3, 4, 5, 6, 7, 8, 9] rfl (w9_law_1320 h  (hF := hF))
          · have hF := ifn c13 hF
            refine L_iconst (pc := 1318) (v := 0) h (by decide) dL_law_1318 ?_
            cases hF
            exact L_zreturn (pc := 1319) h rfl zr0 rfl rfl dL_law_1319
    · have hF := ifn c1 hF
      refine L_iload (pc := 1266) h 10 rfl dL_law_1266 ?_
      refine L_iload (pc := 1268) h 11 rfl dL_law_1268 ?_
      refine L_ishr (pc := 1270) h dL_law_1270 ?_
      refine L_iconst (pc := 1271) (v := 1) h (by decide) dL_law_1271 ?_
      refine L_iand (pc := 1272) h dL_law_1272 ?_
      refine L_iconst (pc := 1273) (v := 1) h (by decide) dL_law_1273 ?_
      refine L_icmp_ne (pc := 1274) (tgt := 1288) h dL_law_1274 (by decide) (fun c14 => ?_) (fun c14 => ?_)
      · have hF := ifn c14 hF
        obtain ⟨v20, hv20, hF⟩ := nm_e2 hF
        refine L_iinc (pc := 1288) (lv' := [(15, .int v20), (0, .ref (zB X.1)), (1, .ref (ad 28)), (2, .ref (ad 47)), (4, .int x4), (5, .int x5), (7, .int x7), (8, .int x8), (9, .int x9), (10, .int x10), (11, .int x11), (14, .int x14)]) h 11 rfl (by decide) hv20 (by decide) rfl dL_law_1288 ?_
        refine L_goto (pc := 1291) (tgt := 1259) h dL_law_1291 (by decide) ?_
        exact Lp_sub (nX := 0) (lv' := [(0, .ref (zB X.1)), (1, .ref (ad 28)), (2, .ref (ad 47)), (4, .int x4), (5, .int x5), (7, .int x7), (8, .int x8), (9, .int x9), (10, .int x10), (11, .int x11), (14, .int x14), (15, .int v20)]) [1, 2, 3, 4, 5, 6, 7, 8, 9, 10, 11, 0] rfl (ih _ _ _ _ _ _ _ _ _ _ hF)
      · have hF := itp c14 hF
        refine L_aload_n (pc := 1277) h 1 rfl rfl dL_law_1277 ?_
        refine L_iload (pc := 1278) h 11 rfl dL_law_1278 ?_
        obtain ⟨⟨M16, r17⟩, hc15, hF⟩ := bd hF
        refine L_callV (pc := 1280) (st := []) h [.int x15] cvL_69 (c4_drop (ad := ad) (z := X.1) hc15) rfl rfl lc_28 (by decide) (by decide) (Nat.le_of_ble_eq_true rfl) dL_law_1280 (st1 := [.int r17]) rfl ?_
        refine L_if_ge (pc := 1283) (tgt := 1288) h dL_law_1283 (by decide) (fun c18 => ?_) (fun c18 => ?_)
        · have hF := itp c18 hF
          obtain ⟨v19, hv19, hF⟩ := nm_e2 hF
          refine L_iinc (pc := 1288) (lv' := [(15, .int v19), (0, .ref (zB X.1)), (1, .ref (ad 28)), (2, .ref (ad 47)), (4, .int x4), (5, .int x5), (7, .int x7), (8, .int x8), (9, .int x9), (10, .int x10), (11, .int x11), (14, .int x14)]) h 11 rfl (by decide) hv19 (by decide) rfl dL_law_1288 ?_
          refine L_goto (pc := 1291) (tgt := 1259) h dL_law_1291 (by decide) ?_
          exact Lp_sub (nX := 0) (lv' := [(0, .ref (zB X.1)), (1, .ref (ad 28)), (2, .ref (ad 47)), (4, .int x4), (5, .int x5), (7, .int x7), (8, .int x8), (9, .int x9), (10, .int x10), (11, .int x11), (14, .int x14), (15, .int v19)]) [1, 2, 3, 4, 5, 6, 7, 8, 9, 10, 11, 0] rfl (ih _ _ _ _ _ _ _ _ _ _ hF)
        · have hF := ifn c18 hF
          refine L_iconst (pc := 1286) (v := 0) h (by decide) dL_law_1286 ?_
          cases hF
          exact L_zreturn (pc := 1287) h rfl zr0 rfl rfl dL_law_1287
theorem w9_law_1259 {ad : Nat → Nat} {X : XX} {R : Mem × Int32} {fu : Nat}  (h : Lx layC ad X cL_law RL 30 9 (some .boolean) (R.1) (some (.int R.2)))  {f : Nat} {x4 : Int32} {x5 : Int32} {x7 : Int32} {x8 : Int32} {x9 : Int32} {x10 : Int32} {x11 : Int32} {x14 : Int32} {x15 : Int32} {M : Mem} (hF : f9_law_1259 (zL X.1) (zX X.1) fu f x4 x5 x7 x8 x9 x10 x11 x14 x15 M = some R) : Lp layC ad X M 1259 [(0, .ref (zB X.1)), (1, .ref (ad 28)), (2, .ref (ad 47)), (4, .int x4), (5, .int x5), (7, .int x7), (8, .int x8), (9, .int x9), (10, .int x10), (11, .int x11), (14, .int x14), (15, .int x15)] [] := w9_lawi_1259 h  f _ _ _ _ _ _ _ _ _ _ hF
def f9_law_1234 (sL : Nat) (sx : Nat → Int32) (fu : Nat) (x4 : Int32) (x5 : Int32) (x7 : Int32) (x8 : Int32) (x9 : Int32) (x10 : Int32) (x11 : Int32) (x12 : Int32) (x13 : Int32) (x14 : Int32) (s0 : Int32) (s1 : Int32) (M : Mem) : Option (Mem × Int32) :=
    if s1 = s0 then (if x13 ≤ x12 then (if (41 : Int32) ≤ (x7 + x13) then ((f9_law_1320 sL sx fu x4 x5 x7 x8 x9 x10 x11 M))
    else ((f9_law_1259 sL sx fu fu x4 x5 x7 x8 x9 x10 x11 x14 (0 : Int32) M)))
    else ((some (M, (0 : Int32)))))
    else ((some (M, (0 : Int32))))
set_option maxHeartbeats 4000000 in
set_option maxRecDepth 10000 in
theorem w9_law_1234 {ad : Nat → Nat} {X : XX} {R : Mem × Int32} {fu : Nat}  (h : Lx layC ad X cL_law RL 30 9 (some .boolean) (R.1) (some (.int R.2)))  {x4 : Int32} {x5 : Int32} {x7 : Int32} {x8 : Int32} {x9 : Int32} {x10 : Int32} {x11 : Int32} {x12 : Int32} {x13 : Int32} {x14 : Int32} {s0 : Int32} {s1 : Int32} {M : Mem} (hF : f9_law_1234 (zL X.1) (zX X.1) fu x4 x5 x7 x8 x9 x10 x11 x12 x13 x14 s0 s1 M = some R) : Lp layC ad X M 1234 [(0, .ref (zB X.1)), (1, .ref (ad 28)), (2, .ref (ad 47)), (4, .int x4), (5, .int x5), (7, .int x7), (8, .int x8), (9, .int x9), (10, .int x10), (11, .int x11), (12, .int x12), (13, .int x13), (14, .int x14)] [.int s0, .int s1] := by
  unfold f9_law_1234 at hF
  refine L_icmp_ne (pc := 1234) (tgt := 1244) h dL_law_1234 (by decide) (fun c1 => ?_) (fun c1 => ?_)
  · have hF := ifn c1 hF
    refine L_iconst (pc := 1244) (v := 0) h (by decide) dL_law_1244 ?_
    cases hF
    exact L_zreturn (pc := 1245) h rfl zr0 rfl rfl dL_law_1245
  · have hF := itp c1 hF
    refine L_iload (pc := 1237) h 11 rfl dL_law_1237 ?_
    refine L_iload (pc := 1239) h 10 rfl dL_law_1239 ?_
    refine L_icmp_le (pc := 1241) (tgt := 1246) h dL_law_1241 (by decide) (fun c2 => ?_) (fun c2 => ?_)
    · have hF := itp c2 hF
      refine L_iload (pc := 1246) h 5 rfl dL_law_1246 ?_
      refine L_iload (pc := 1248) h 11 rfl dL_law_1248 ?_
      refine L_iadd (pc := 1250) h dL_law_1250 ?_
      refine L_bipush (pc := 1251) (v := 41) h (by decide) dL_law_1251 ?_
      refine L_icmp_ge (pc := 1253) (tgt := 1320) h dL_law_1253 (by decide) (fun c3 => ?_) (fun c3 => ?_)
      · have hF := itp c3 hF
        exact Lp_sub (nX := 0) (lv' := [(0, .ref (zB X.1)), (1, .ref (ad 28)), (2, .ref (ad 47)), (4, .int x4), (5, .int x5), (7, .int x7), (8, .int x8), (9, .int x9), (10, .int x10), (11, .int x11)]) [0, 1, 2, 3, 4, 5, 6, 7, 8, 9] rfl (w9_law_1320 h  (hF := hF))
      · have hF := ifn c3 hF
        refine L_iconst (pc := 1256) (v := 0) h (by decide) dL_law_1256 ?_
        refine L_istore (pc := 1257) (lv' := [(15, .int (0 : Int32)), (0, .ref (zB X.1)), (1, .ref (ad 28)), (2, .ref (ad 47)), (4, .int x4), (5, .int x5), (7, .int x7), (8, .int x8), (9, .int x9), (10, .int x10), (11, .int x11), (12, .int x12), (13, .int x13), (14, .int x14)]) h rfl (by decide) rfl dL_law_1257 ?_
        exact Lp_sub (nX := 0) (lv' := [(0, .ref (zB X.1)), (1, .ref (ad 28)), (2, .ref (ad 47)), (4, .int x4), (5, .int x5), (7, .int x7), (8, .int x8), (9, .int x9), (10, .int x10), (11, .int x11), (14, .int x14), (15, .int (0 : Int32))]) [1, 2, 3, 4, 5, 6, 7, 8, 9, 10, 13, 0] rfl (w9_law_1259 h  (hF := hF))
    · have hF := ifn c2 hF
      refine L_iconst (pc := 1244) (v := 0) h (by decide) dL_law_1244 ?_
      cases hF
      exact L_zreturn (pc := 1245) h rfl zr0 rfl rfl dL_law_1245
def f9_law_69 (sL : Nat) (sx : Nat → Int32) (fu : Nat) : Nat → Int32 → Int32 → Int32 → Int32 → Mem → Option (Mem × Int32)
  | 0 => fun _ _ _ _ _ => none
  | f + 1 => fun x4 x5 x6 x7 M =>
    if x6 ≤ x7 then ((f4_count M fu (2 : Int32)).bind fun r3 =>
    (f4_count M fu (1 : Int32)).bind fun r5 =>
    (f4_count M fu (3 : Int32)).bind fun r7 =>
    (f4_count M fu (4 : Int32)).bind fun r9 =>
    (f4_count M fu (5 : Int32)).bind fun r11 =>
    (f4_keep fu (1 : Int32) M).bind fun ⟨M13, r14⟩ =>
    if r14 = r3 then ((f4_clashes fu M13).bind fun ⟨M17, r18⟩ =>
    (f4_least fu M17).bind fun ⟨M20, r21⟩ =>
    (f4_asked M20).bind fun r23 =>
    if r21 < 0 then ((some (M20, (0 : Int32))))
    else ((f9_many fu r23).bind fun r26 =>
    if r26 = r21 then (if (r23 &&& (r7 ^^^ (-1 : Int32))) = 0 then (if r21 = 0 then (if r18 = 0 then ((f9_law_1234 sL sx fu x4 x5 r3 r5 r7 r9 r11 r18 r21 r23 (1 : Int32) (1 : Int32) M20))
    else ((f9_law_1234 sL sx fu x4 x5 r3 r5 r7 r9 r11 r18 r21 r23 (0 : Int32) (1 : Int32) M20)))
    else (if r18 = 0 then ((f9_law_1234 sL sx fu x4 x5 r3 r5 r7 r9 r11 r18 r21 r23 (1 : Int32) (0 : Int32) M20))
    else ((f9_law_1234 sL sx fu x4 x5 r3 r5 r7 r9 r11 r18 r21 r23 (0 : Int32) (0 : Int32) M20))))
    else ((some (M20, (0 : Int32)))))
    else ((some (M20, (0 : Int32))))))
    else ((some (M13, (0 : Int32)))))
    else ((f9_cell_S sL sx M ((11 : Int32) + x7)).bind fun r33 =>
    (f4_count M fu (2 : Int32)).bind fun r35 =>
    (f4_count M fu (1 : Int32)).bind fun r37 =>
    (f4_count M fu (3 : Int32)).bind fun r39 =>
    (f4_count M fu (4 : Int32)).bind fun r41 =>
    (f4_count M fu (5 : Int32)).bind fun r43 =>
    (f9_part (r33 >>> ((4 : Int32) &&& 31)) x4).bind fun r45 =>
    (f9_law_136 sL sx fu (f9_law_69 sL sx fu f) fu x4 x5 x6 x7 r33 r35 r37 r39 r41 r43 r45 (0 : Int32) M))
set_option maxHeartbeats 4000000 in
set_option maxRecDepth 10000 in
theorem w9_lawi_69 {ad : Nat → Nat} {X : XX} {R : Mem × Int32} {fu : Nat}  (h : Lx layC ad X cL_law RL 30 9 (some .boolean) (R.1) (some (.int R.2)))  : ∀ (f : Nat) (x4 : Int32) (x5 : Int32) (x6 : Int32) (x7 : Int32) (M : Mem), f9_law_69 (zL X.1) (zX X.1) fu f x4 x5 x6 x7 M = some R → Lp layC ad X M 69 [(0, .ref (zB X.1)), (1, .ref (ad 28)), (2, .ref (ad 47)), (4, .int x4), (5, .int x5), (6, .int x6), (7, .int x7)] [] := by
  intro f
  induction f with
  | zero => intro x4 x5 x6 x7 M hF; exact absurd hF (by simp [f9_law_69])
  | succ f ih =>
    intro x4 x5 x6 x7 M hF
    rw [f9_law_69] at hF
    refine L_iload (pc := 69) h 6 rfl dL_law_69 ?_
    refine L_iload (pc := 71) h 5 rfl dL_law_71 ?_
    refine L_icmp_ge (pc := 73) (tgt := 1124) h dL_law_73 (by decide) (fun c1 => ?_) (fun c1 => ?_)
    · have hF := itp c1 hF
      refine L_aload_n (pc := 1124) h 1 rfl rfl dL_law_1124 ?_
      refine L_iconst (pc := 1125) (v := 2) h (by decide) dL_law_1125 ?_
      obtain ⟨r3, hc2, hF⟩ := bd hF
      refine L_callV (pc := 1126) (st := []) h [.int (2 : Int32)] cvL_42 (c4_count (ad := ad) (z := X.1) hc2) rfl rfl lc_28 (by decide) (by decide) (Nat.le_of_ble_eq_true rfl) dL_law_1126 (st1 := [.int r3]) rfl ?_
      refine L_istore (pc := 1129) (lv' := [(7, .int r3), (0, .ref (zB X.1)), (1, .ref (ad 28)), (2, .ref (ad 47)), (4, .int x4), (5, .int x5), (6, .int x6)]) h rfl (by decide) rfl dL_law_1129 ?_
      refine L_aload_n (pc := 1131) h 2 rfl rfl dL_law_1131 ?_
      refine L_iconst (pc := 1132) (v := 1) h (by decide) dL_law_1132 ?_
      obtain ⟨r5, hc4, hF⟩ := bd hF
      refine L_callV (pc := 1133) (st := []) h [.int (1 : Int32)] cvL_42 (c4_count (ad := ad) (z := X.1) hc4) rfl rfl lc_28 (by decide) (by decide) (Nat.le_of_ble_eq_true rfl) dL_law_1133 (st1 := [.int r5]) rfl ?_
      refine L_istore (pc := 1136) (lv' := [(8, .int r5), (7, .int r3), (0, .ref (zB X.1)), (1, .ref (ad 28)), (2, .ref (ad 47)), (4, .int x4), (5, .int x5), (6, .int x6)]) h rfl (by decide) rfl dL_law_1136 ?_
      refine L_aload_n (pc := 1138) h 3 rfl rfl dL_law_1138 ?_
      refine L_iconst (pc := 1139) (v := 3) h (by decide) dL_law_1139 ?_
      obtain ⟨r7, hc6, hF⟩ := bd hF
      refine L_callV (pc := 1140) (st := []) h [.int (3 : Int32)] cvL_42 (c4_count (ad := ad) (z := X.1) hc6) rfl rfl lc_28 (by decide) (by decide) (Nat.le_of_ble_eq_true rfl) dL_law_1140 (st1 := [.int r7]) rfl ?_
      refine L_istore (pc := 1143) (lv' := [(9, .int r7), (8, .int r5), (7, .int r3), (0, .ref (zB X.1)), (1, .ref (ad 28)), (2, .ref (ad 47)), (4, .int x4), (5, .int x5), (6, .int x6)]) h rfl (by decide) rfl dL_law_1143 ?_
      refine L_aload_n (pc := 1145) h 4 rfl rfl dL_law_1145 ?_
      refine L_iconst (pc := 1146) (v := 4) h (by decide) dL_law_1146 ?_
      obtain ⟨r9, hc8, hF⟩ := bd hF
      refine L_callV (pc := 1147) (st := []) h [.int (4 : Int32)] cvL_42 (c4_count (ad := ad) (z := X.1) hc8) rfl rfl lc_28 (by decide) (by decide) (Nat.le_of_ble_eq_true rfl) dL_law_1147 (st1 := [.int r9]) rfl ?_
      refine L_istore (pc := 1150) (lv' := [(10, .int r9), (9, .int r7), (8, .int r5), (7, .int r3), (0, .ref (zB X.1)), (1, .ref (ad 28)), (2, .ref (ad 47)), (4, .int x4), (5, .int x5), (6, .int x6)]) h rfl (by decide) rfl dL_law_1150 ?_
      refine L_aload_n (pc := 1152) h 5 rfl rfl dL_law_1152 ?_
      refine L_iconst (pc := 1153) (v := 5) h (by decide) dL_law_1153 ?_
      obtain ⟨r11, hc10, hF⟩ := bd hF
      refine L_callV (pc := 1154) (st := []) h [.int (5 : Int32)] cvL_42 (c4_count (ad := ad) (z := X.1) hc10) rfl rfl lc_28 (by decide) (by decide) (Nat.le_of_ble_eq_true rfl) dL_law_1154 (st1 := [.int r11]) rfl ?_
      refine L_istore (pc := 1157) (lv' := [(11, .int r11), (10, .int r9), (9, .int r7), (8, .int r5), (7, .int r3), (0, .ref (zB X.1)), (1, .ref (ad 28)), (2, .ref (ad 47)), (4, .int x4), (5, .int x5), (6, .int x6)]) h rfl (by decide) rfl dL_law_1157 ?_
      refine L_aload_n (pc := 1159) h 6 rfl rfl dL_law_1159 ?_
      refine L_iconst (pc := 1160) (v := 1) h (by decide) dL_law_1160 ?_
      obtain ⟨⟨M13, r14⟩, hc12, hF⟩ := bd hF
      refine L_callV (pc := 1161) (st := []) h [.int (1 : Int32)] cvL_85 (c4_keep (ad := ad) (z := X.1) hc12) rfl rfl lc_28 (by decide) (by decide) (Nat.le_of_ble_eq_true rfl) dL_law_1161 (st1 := [.int r14]) rfl ?_
      refine L_iload (pc := 1164) h 4 rfl dL_law_1164 ?_
      refine L_icmp_eq (pc := 1166) (tgt := 1171) h dL_law_1166 (by decide) (fun c15 => ?_) (fun c15 => ?_)
      · have hF := itp c15 hF
        refine L_aload_n (pc := 1171) h 6 rfl rfl dL_law_1171 ?_
        obtain ⟨⟨M17, r18⟩, hc16, hF⟩ := bd hF
        refine L_callV (pc := 1172) (st := []) h [] cvL_104 (c4_clashes (ad := ad) (z := X.1) hc16) rfl rfl lc_28 (by decide) (by decide) (Nat.le_of_ble_eq_true rfl) dL_law_1172 (st1 := [.int r18]) rfl ?_
        refine L_istore (pc := 1175) (lv' := [(12, .int r18), (11, .int r11), (10, .int r9), (9, .int r7), (8, .int r5), (7, .int r3), (0, .ref (zB X.1)), (1, .ref (ad 28)), (2, .ref (ad 47)), (4, .int x4), (5, .int x5), (6, .int x6)]) h rfl (by decide) rfl dL_law_1175 ?_
        refine L_aload_n (pc := 1177) h 7 rfl rfl dL_law_1177 ?_
        obtain ⟨⟨M20, r21⟩, hc19, hF⟩ := bd hF
        refine L_callV (pc := 1178) (st := []) h [] cvL_110 (c4_least (ad := ad) (z := X.1) hc19) rfl rfl lc_28 (by decide) (by decide) (Nat.le_of_ble_eq_true rfl) dL_law_1178 (st1 := [.int r21]) rfl ?_
        refine L_istore (pc := 1181) (lv' := [(13, .int r21), (12, .int r18), (11, .int r11), (10, .int r9), (9, .int r7), (8, .int r5), (7, .int r3), (0, .ref (zB X.1)), (1, .ref (ad 28)), (2, .ref (ad 47)), (4, .int x4), (5, .int x5), (6, .int x6)]) h rfl (by decide) rfl dL_law_1181 ?_
        refine L_aload_n (pc := 1183) h 8 rfl rfl dL_law_1183 ?_
        obtain ⟨r23, hc22, hF⟩ := bd hF
        refine L_callV (pc := 1184) (st := []) h [] cvL_101 (c4_asked (ad := ad) (z := X.1) hc22) rfl rfl lc_28 (by decide) (by decide) (Nat.le_of_ble_eq_true rfl) dL_law_1184 (st1 := [.int r23]) rfl ?_
        refine L_istore (pc := 1187) (lv' := [(14, .int r23), (13, .int r21), (12, .int r18), (11, .int r11), (10, .int r9), (9, .int r7), (8, .int r5), (7, .int r3), (0, .ref (zB X.1)), (1, .ref (ad 28)), (2, .ref (ad 47)), (4, .int x4), (5, .int x5), (6, .int x6)]) h rfl (by decide) rfl dL_law_1187 ?_
        refine L_iload (pc := 1189) h 1 rfl dL_law_1189 ?_
        refine L_if_lt (pc := 1191) (tgt := 1244) h dL_law_1191 (by decide) (fun c24 => ?_) (fun c24 => ?_)
        · have hF := itp c24 hF
          refine L_iconst (pc := 1244) (v := 0) h (by decide) dL_law_1244 ?_
          cases hF
          exact L_zreturn (pc := 1245) h rfl zr0 rfl rfl dL_law_1245
        · have hF := ifn c24 hF
          refine L_iload (pc := 1194) h 0 rfl dL_law_1194 ?_
          obtain ⟨r26, hc25, hF⟩ := bd hF
          refine L_callS (pc := 1196) (st := []) h [.int r23] csL_66 (c9_many (ad := ad) (z := X.1) (M := M20) hc25) rfl rfl (by decide) (by decide) (Nat.le_of_ble_eq_true rfl) dL_law_1196 (st1 := [.int r26]) rfl ?_
          refine L_iload (pc := 1199) h 1 rfl dL_law_1199 ?_
          refine L_icmp_ne (pc := 1201) (tgt := 1244) h dL_law_1201 (by decide) (fun c27 => ?_) (fun c27 => ?_)
          · have hF := ifn c27 hF
            refine L_iconst (pc := 1244) (v := 0) h (by decide) dL_law_1244 ?_
            cases hF
            exact L_zreturn (pc := 1245) h rfl zr0 rfl rfl dL_law_1245
          · have hF := itp c27 hF
            refine L_iload (pc := 1204) h 0 rfl dL_law_1204 ?_
            refine L_iload (pc := 1206) h 5 rfl dL_law_1206 ?_
            refine L_iconst (pc := 1208) (v := (-1)) h (by decide) dL_law_1208 ?_
            refine L_ixor (pc := 1209) h dL_law_1209 ?_
            refine L_iand (pc := 1210) h dL_law_1210 ?_
            refine L_if_ne (pc := 1211) (tgt := 1244) h dL_law_1211 (by decide) (fun c28 => ?_) (fun c28 => ?_)
            · have hF := ifn c28 hF
              refine L_iconst (pc := 1244) (v := 0) h (by decide) dL_law_1244 ?_
              cases hF
              exact L_zreturn (pc := 1245) h rfl zr0 rfl rfl dL_law_1245
            · have hF := itp c28 hF
              refine L_iload (pc := 1214) h 1 rfl dL_law_1214 ?_
              refine L_if_ne (pc := 1216) (tgt := 1223) h dL_law_1216 (by decide) (fun c29 => ?_) (fun c29 => ?_)
              · have hF := ifn c29 hF
                refine L_iconst (pc := 1223) (v := 0) h (by decide) dL_law_1223 ?_
                refine L_iload (pc := 1224) h 2 rfl dL_law_1224 ?_
                refine L_if_ne (pc := 1226) (tgt := 1233) h dL_law_1226 (by decide) (fun c31 => ?_) (fun c31 => ?_)
                · have hF := ifn c31 hF
                  refine L_iconst (pc := 1233) (v := 0) h (by decide) dL_law_1233 ?_
                  exact Lp_sub (nX := 0) (lv' := [(0, .ref (zB X.1)), (1, .ref (ad 28)), (2, .ref (ad 47)), (4, .int x4), (5, .int x5), (7, .int r3), (8, .int r5), (9, .int r7), (10, .int r9), (11, .int r11), (12, .int r18), (13, .int r21), (14, .int r23)]) [8, 9, 10, 11, 12, 7, 6, 5, 4, 3, 2, 1, 0] rfl (w9_law_1234 h  (hF := hF))
                · have hF := itp c31 hF
                  refine L_iconst (pc := 1229) (v := 1) h (by decide) dL_law_1229 ?_
                  refine L_goto (pc := 1230) (tgt := 1234) h dL_law_1230 (by decide) ?_
                  exact Lp_sub (nX := 0) (lv' := [(0, .ref (zB X.1)), (1, .ref (ad 28)), (2, .ref (ad 47)), (4, .int x4), (5, .int x5), (7, .int r3), (8, .int r5), (9, .int r7), (10, .int r9), (11, .int r11), (12, .int r18), (13, .int r21), (14, .int r23)]) [8, 9, 10, 11, 12, 7, 6, 5, 4, 3, 2, 1, 0] rfl (w9_law_1234 h  (hF := hF))
              · have hF := itp c29 hF
                refine L_iconst (pc := 1219) (v := 1) h (by decide) dL_law_1219 ?_
                refine L_goto (pc := 1220) (tgt := 1224) h dL_law_1220 (by decide) ?_
                refine L_iload (pc := 1224) h 2 rfl dL_law_1224 ?_
                refine L_if_ne (pc := 1226) (tgt := 1233) h dL_law_1226 (by decide) (fun c30 => ?_) (fun c30 => ?_)
                · have hF := ifn c30 hF
                  refine L_iconst (pc := 1233) (v := 0) h (by decide) dL_law_1233 ?_
                  exact Lp_sub (nX := 0) (lv' := [(0, .ref (zB X.1)), (1, .ref (ad 28)), (2, .ref (ad 47)), (4, .int x4), (5, .int x5), (7, .int r3), (8, .int r5), (9, .int r7), (10, .int r9), (11, .int r11), (12, .int r18), (13, .int r21), (14, .int r23)]) [8, 9, 10, 11, 12, 7, 6, 5, 4, 3, 2, 1, 0] rfl (w9_law_1234 h  (hF := hF))
                · have hF := itp c30 hF
                  refine L_iconst (pc := 1229) (v := 1) h (by decide) dL_law_1229 ?_
                  refine L_goto (pc := 1230) (tgt := 1234) h dL_law_1230 (by decide) ?_
                  exact Lp_sub (nX := 0) (lv' := [(0, .ref (zB X.1)), (1, .ref (ad 28)), (2, .ref (ad 47)), (4, .int x4), (5, .int x5), (7, .int r3), (8, .int r5), (9, .int r7), (10, .int r9), (11, .int r11), (12, .int r18), (13, .int r21), (14, .int r23)]) [8, 9, 10, 11, 12, 7, 6, 5, 4, 3, 2, 1, 0] rfl (w9_law_1234 h  (hF := hF))
      · have hF := ifn c15 hF
        refine L_iconst (pc := 1169) (v := 0) h (by decide) dL_law_1169 ?_
        cases hF
        exact L_zreturn (pc := 1170) h rfl zr0 rfl rfl dL_law_1170
    · have hF := ifn c1 hF
      refine L_aload_n (pc := 76) h 0 rfl rfl dL_law_76 ?_
      refine L_bipush (pc := 77) (v := 11) h (by decide) dL_law_77 ?_
      refine L_iload (pc := 79) h 6 rfl dL_law_79 ?_
      refine L_iadd (pc := 81) h dL_law_81 ?_
      obtain ⟨r33, hc32, hF⟩ := bd hF
      refine L_callS (pc := 82) (st := []) h [.ref (zB X.1), .int ((11 : Int32) + x7)] csL_15 (c9_cell_S (ad := ad) (z := X.1) hc32) rfl rfl (by decide) (by decide) (Nat.le_of_ble_eq_true rfl) dL_law_82 (st1 := [.int r33]) rfl ?_
      refine L_istore (pc := 85) (lv' := [(8, .int r33), (0, .ref (zB X.1)), (1, .ref (ad 28)), (2, .ref (ad 47)), (4, .int x4), (5, .int x5), (6, .int x6), (7, .int x7)]) h rfl (by decide) rfl dL_law_85 ?_
      refine L_aload_n (pc := 87) h 2 rfl rfl dL_law_87 ?_
      refine L_iconst (pc := 88) (v := 2) h (by decide) dL_law_88 ?_
      obtain ⟨r35, hc34, hF⟩ := bd hF
      refine L_callV (pc := 89) (st := []) h [.int (2 : Int32)] cvL_42 (c4_count (ad := ad) (z := X.1) hc34) rfl rfl lc_28 (by decide) (by decide) (Nat.le_of_ble_eq_true rfl) dL_law_89 (st1 := [.int r35]) rfl ?_
      refine L_istore (pc := 92) (lv' := [(9, .int r35), (8, .int r33), (0, .ref (zB X.1)), (1, .ref (ad 28)), (2, .ref (ad 47)), (4, .int x4), (5, .int x5), (6, .int x6), (7, .int x7)]) h rfl (by decide) rfl dL_law_92 ?_
      refine L_aload_n (pc := 94) h 3 rfl rfl dL_law_94 ?_
      refine L_iconst (pc := 95) (v := 1) h (by decide) dL_law_95 ?_
      obtain ⟨r37, hc36, hF⟩ := bd hF
      refine L_callV (pc := 96) (st := []) h [.int (1 : Int32)] cvL_42 (c4_count (ad := ad) (z := X.1) hc36) rfl rfl lc_28 (by decide) (by decide) (Nat.le_of_ble_eq_true rfl) dL_law_96 (st1 := [.int r37]) rfl ?_
      refine L_istore (pc := 99) (lv' := [(10, .int r37), (9, .int r35), (8, .int r33), (0, .ref (zB X.1)), (1, .ref (ad 28)), (2, .ref (ad 47)), (4, .int x4), (5, .int x5), (6, .int x6), (7, .int x7)]) h rfl (by decide) rfl dL_law_99 ?_
      refine L_aload_n (pc := 101) h 4 rfl rfl dL_law_101 ?_
      refine L_iconst (pc := 102) (v := 3) h (by decide) dL_law_102 ?_
      obtain ⟨r39, hc38, hF⟩ := bd hF
      refine L_callV (pc := 103) (st := []) h [.int (3 : Int32)] cvL_42 (c4_count (ad := ad) (z := X.1) hc38) rfl rfl lc_28 (by decide) (by decide) (Nat.le_of_ble_eq_true rfl) dL_law_103 (st1 := [.int r39]) rfl ?_
      refine L_istore (pc := 106) (lv' := [(11, .int r39), (10, .int r37), (9, .int r35), (8, .int r33), (0, .ref (zB X.1)), (1, .ref (ad 28)), (2, .ref (ad 47)), (4, .int x4), (5, .int x5), (6, .int x6), (7, .int x7)]) h rfl (by decide) rfl dL_law_106 ?_
      refine L_aload_n (pc := 108) h 5 rfl rfl dL_law_108 ?_
      refine L_iconst (pc := 109) (v := 4) h (by decide) dL_law_109 ?_
      obtain ⟨r41, hc40, hF⟩ := bd hF
      refine L_callV (pc := 110) (st := []) h [.int (4 : Int32)] cvL_42 (c4_count (ad := ad) (z := X.1) hc40) rfl rfl lc_28 (by decide) (by decide) (Nat.le_of_ble_eq_true rfl) dL_law_110 (st1 := [.int r41]) rfl ?_
      refine L_istore (pc := 113) (lv' := [(12, .int r41), (11, .int r39), (10, .int r37), (9, .int r35), (8, .int r33), (0, .ref (zB X.1)), (1, .ref (ad 28)), (2, .ref (ad 47)), (4, .int x4), (5, .int x5), (6, .int x6), (7, .int x7)]) h rfl (by decide) rfl dL_law_113 ?_
      refine L_aload_n (pc := 115) h 6 rfl rfl dL_law_115 ?_
      refine L_iconst (pc := 116) (v := 5) h (by decide) dL_law_116 ?_
      obtain ⟨r43, hc42, hF⟩ := bd hF
      refine L_callV (pc := 117) (st := []) h [.int (5 : Int32)] cvL_42 (c4_count (ad := ad) (z := X.1) hc42) rfl rfl lc_28 (by decide) (by decide) (Nat.le_of_ble_eq_true rfl) dL_law_117 (st1 := [.int r43]) rfl ?_
      refine L_istore (pc := 120) (lv' := [(13, .int r43), (12, .int r41), (11, .int r39), (10, .int r37), (9, .int r35), (8, .int r33), (0, .ref (zB X.1)), (1, .ref (ad 28)), (2, .ref (ad 47)), (4, .int x4), (5, .int x5), (6, .int x6), (7, .int x7)]) h rfl (by decide) rfl dL_law_120 ?_
      refine L_iload (pc := 122) h 5 rfl dL_law_122 ?_
      refine L_iconst (pc := 124) (v := 4) h (by decide) dL_law_124 ?_
      refine L_ishr (pc := 125) h dL_law_125 ?_
      refine L_iload (pc := 126) h 9 rfl dL_law_126 ?_
      obtain ⟨r45, hc44, hF⟩ := bd hF
      refine L_callS (pc := 128) (st := []) h [.int (r33 >>> ((4 : Int32) &&& 31)), .int x4] csL_21 (c9_part (ad := ad) (z := X.1) (M := M) hc44) rfl rfl (by decide) (by decide) (Nat.le_of_ble_eq_true rfl) dL_law_128 (st1 := [.int r45]) rfl ?_
      refine L_istore (pc := 131) (lv' := [(14, .int r45), (13, .int r43), (12, .int r41), (11, .int r39), (10, .int r37), (9, .int r35), (8, .int r33), (0, .ref (zB X.1)), (1, .ref (ad 28)), (2, .ref (ad 47)), (4, .int x4), (5, .int x5), (6, .int x6), (7, .int x7)]) h rfl (by decide) rfl dL_law_131 ?_
      refine L_iconst (pc := 133) (v := 0) h (by decide) dL_law_133 ?_
      refine L_istore (pc := 134) (lv' := [(15, .int (0 : Int32)), (14, .int r45), (13, .int r43), (12, .int r41), (11, .int r39), (10, .int r37), (9, .int r35), (8, .int r33), (0, .ref (zB X.1)), (1, .ref (ad 28)), (2, .ref (ad 47)), (4, .int x4), (5, .int x5), (6, .int x6), (7, .int x7)]) h rfl (by decide) rfl dL_law_134 ?_
      exact Lp_sub (nX := 0) (lv' := [(0, .ref (zB X.1)), (1, .ref (ad 28)), (2, .ref (ad 47)), (4, .int x4), (5, .int x5), (6, .int x6), (7, .int x7), (8, .int r33), (9, .int r35), (10, .int r37), (11, .int r39), (12, .int r41), (13, .int r43), (14, .int r45), (15, .int (0 : Int32))]) [8, 9, 10, 11, 12, 13, 14, 7, 6, 5, 4, 3, 2, 1, 0] rfl (w9_law_136 h (hk69 := fun a0 a1 a2 a3 a4 hF => ih a0 a1 a2 a3 a4 hF) (hF := hF))
theorem w9_law_69 {ad : Nat → Nat} {X : XX} {R : Mem × Int32} {fu : Nat}  (h : Lx layC ad X cL_law RL 30 9 (some .boolean) (R.1) (some (.int R.2)))  {f : Nat} {x4 : Int32} {x5 : Int32} {x6 : Int32} {x7 : Int32} {M : Mem} (hF : f9_law_69 (zL X.1) (zX X.1) fu f x4 x5 x6 x7 M = some R) : Lp layC ad X M 69 [(0, .ref (zB X.1)), (1, .ref (ad 28)), (2, .ref (ad 47)), (4, .int x4), (5, .int x5), (6, .int x6), (7, .int x7)] [] := w9_lawi_69 h  f _ _ _ _ _ hF
