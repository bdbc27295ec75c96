def f9_law_1950 (sL : Nat) (sx : Nat → Int32) (fu : Nat) (k1824 : Int32 → Int32 → Int32 → Int32 → Int32 → Int32 → Int32 → Int32 → Int32 → Mem → Option (Mem × Int32)) (k1903 : Int32 → Int32 → Int32 → Int32 → Int32 → Int32 → Int32 → Int32 → Int32 → Int32 → Int32 → Int32 → Int32 → Int32 → Mem → Option (Mem × Int32)) (x4 : Int32) (x5 : Int32) (x7 : Int32) (x8 : Int32) (x9 : Int32) (x10 : Int32) (x11 : Int32) (x15 : Int32) (x20 : Int32) (x21 : Int32) (x22 : Int32) (x23 : Int32) (x25 : Int32) (x26 : Int32) (s0 : Int32) (s1 : Int32) (M : Mem) : Option (Mem × Int32) :=
    nm (s1 ||| s0) fun v1 =>
    if x8 ≤ x26 then ((f9_law_1973 sL sx fu k1824 k1903 x4 x5 x7 x8 x9 x10 x11 x15 x20 x21 x22 x23 v1 x25 x26 (x26 - x8) M))
    else ((f9_law_1973 sL sx fu k1824 k1903 x4 x5 x7 x8 x9 x10 x11 x15 x20 x21 x22 x23 v1 x25 x26 (x8 - x26) M))
set_option maxHeartbeats 4000000 in
set_option maxRecDepth 10000 in
theorem w9_law_1950 {ad : Nat → Nat} {X : XX} {R : Mem × Int32} {fu : Nat} {k1824 : Int32 → Int32 → Int32 → Int32 → Int32 → Int32 → Int32 → Int32 → Int32 → Mem → Option (Mem × Int32)} {k1903 : Int32 → Int32 → Int32 → Int32 → Int32 → Int32 → Int32 → Int32 → Int32 → Int32 → Int32 → Int32 → Int32 → Int32 → Mem → Option (Mem × Int32)} (h : Lx layC ad X cL_law RL 30 9 (some .boolean) (R.1) (some (.int R.2))) (hk1824 : ∀ (x4 : Int32) (x5 : Int32) (x7 : Int32) (x8 : Int32) (x9 : Int32) (x10 : Int32) (x11 : Int32) (x15 : Int32) (x20 : Int32) (M : Mem), k1824 x4 x5 x7 x8 x9 x10 x11 x15 x20 M = some R → Lp layC ad X M 1824 [(0, .ref (zB X.1)), (1, .ref (ad 28)), (2, .ref (ad 47)), (4, .int x4), (5, .int x5), (7, .int x7), (8, .int x8), (9, .int x9), (10, .int x10), (11, .int x11), (15, .int x15), (20, .int x20)] []) (hk1903 : ∀ (x4 : Int32) (x5 : Int32) (x7 : Int32) (x8 : Int32) (x9 : Int32) (x10 : Int32) (x11 : Int32) (x15 : Int32) (x20 : Int32) (x21 : Int32) (x22 : Int32) (x23 : Int32) (x24 : Int32) (x25 : Int32) (M : Mem), k1903 x4 x5 x7 x8 x9 x10 x11 x15 x20 x21 x22 x23 x24 x25 M = some R → Lp layC ad X M 1903 [(0, .ref (zB X.1)), (1, .ref (ad 28)), (2, .ref (ad 47)), (4, .int x4), (5, .int x5), (7, .int x7), (8, .int x8), (9, .int x9), (10, .int x10), (11, .int x11), (15, .int x15), (20, .int x20), (21, .int x21), (22, .int x22), (23, .int x23), (24, .int x24), (25, .int x25)] []) {x4 : Int32} {x5 : Int32} {x7 : Int32} {x8 : Int32} {x9 : Int32} {x10 : Int32} {x11 : Int32} {x15 : Int32} {x20 : Int32} {x21 : Int32} {x22 : Int32} {x23 : Int32} {x25 : Int32} {x26 : Int32} {s0 : Int32} {s1 : Int32} {M : Mem} (hF : f9_law_1950 (zL X.1) (zX X.1) fu k1824 k1903 x4 x5 x7 x8 x9 x10 x11 x15 x20 x21 x22 x23 x25 x26 s0 s1 M = some R) : Lp layC ad X M 1950 [(0, .ref (zB X.1)), (1, .ref (ad 28)), (2, .ref (ad 47)), (4, .int x4), (5, .int x5), (7, .int x7), (8, .int x8), (9, .int x9), (10, .int x10), (11, .int x11), (15, .int x15), (20, .int x20), (21, .int x21), (22, .int x22), (23, .int x23), (25, .int x25), (26, .int x26)] [.int s0, .int s1] := by
  unfold f9_law_1950 at hF
  refine L_ior (pc := 1950) h dL_law_1950 ?_
  obtain ⟨v1, hv1, hF⟩ := nm_e2 hF
  refine L_istore (pc := 1951) (lv' := [(24, .int v1), (0, .ref (zB X.1)), (1, .ref (ad 28)), (2, .ref (ad 47)), (4, .int x4), (5, .int x5), (7, .int x7), (8, .int x8), (9, .int x9), (10, .int x10), (11, .int x11), (15, .int x15), (20, .int x20), (21, .int x21), (22, .int x22), (23, .int x23), (25, .int x25), (26, .int x26)]) h hv1 (by decide) rfl dL_law_1951 ?_
  refine L_iload (pc := 1953) h 17 rfl dL_law_1953 ?_
  refine L_iload (pc := 1955) h 7 rfl dL_law_1955 ?_
  refine L_icmp_ge (pc := 1957) (tgt := 1968) h dL_law_1957 (by decide) (fun c2 => ?_) (fun c2 => ?_)
  · have hF := itp c2 hF
    refine L_iload (pc := 1968) h 17 rfl dL_law_1968 ?_
    refine L_iload (pc := 1970) h 7 rfl dL_law_1970 ?_
    refine L_isub (pc := 1972) h dL_law_1972 ?_
    exact Lp_sub (nX := 0) (lv' := [(0, .ref (zB X.1)), (1, .ref (ad 28)), (2, .ref (ad 47)), (4, .int x4), (5, .int x5), (7, .int x7), (8, .int x8), (9, .int x9), (10, .int x10), (11, .int x11), (15, .int x15), (20, .int x20), (21, .int x21), (22, .int x22), (23, .int x23), (24, .int v1), (25, .int x25), (26, .int x26)]) [1, 2, 3, 4, 5, 6, 7, 8, 9, 10, 11, 12, 13, 14, 15, 0, 16, 17] rfl (w9_law_1973 h (hk1824 := hk1824) (hk1903 := hk1903) (hF := hF))
  · have hF := ifn c2 hF
    refine L_iload (pc := 1960) h 7 rfl dL_law_1960 ?_
    refine L_iload (pc := 1962) h 17 rfl dL_law_1962 ?_
    refine L_isub (pc := 1964) h dL_law_1964 ?_
    refine L_goto (pc := 1965) (tgt := 1973) h dL_law_1965 (by decide) ?_
    exact Lp_sub (nX := 0) (lv' := [(0, .ref (zB X.1)), (1, .ref (ad 28)), (2, .ref (ad 47)), (4, .int x4), (5, .int x5), (7, .int x7), (8, .int x8), (9, .int x9), (10, .int x10), (11, .int x11), (15, .int x15), (20, .int x20), (21, .int x21), (22, .int x22), (23, .int x23), (24, .int v1), (25, .int x25), (26, .int x26)]) [1, 2, 3, 4, 5, 6, 7, 8, 9, 10, 11, 12, 13, 14, 15, 0, 16, 17] rfl (w9_law_1973 h (hk1824 := hk1824) (hk1903 := hk1903) (hF := hF))
def f9_law_1903 (sL : Nat) (sx : Nat → Int32) (fu : Nat) (k1824 : Int32 → Int32 → Int32 → Int32 → Int32 → Int32 → Int32 → Int32 → Int32 → Mem → Option (Mem × Int32)) : Nat → Int32 → Int32 → Int32 → Int32 → Int32 → Int32 → Int32 → Int32 → Int32 → Int32 → Int32 → Int32 → Int32 → Int32 → Mem → Option (Mem × Int32)
  | 0 => fun _ _ _ _ _ _ _ _ _ _ _ _ _ _ _ => none
  | f + 1 => fun x4 x5 x7 x8 x9 x10 x11 x15 x20 x21 x22 x23 x24 x25 M =>
    if x4 ≤ x25 then (if x24 = 0 then ((some (M, (0 : Int32))))
    else (if x22 ≤ (18 : Int32) then (nm (x20 + (1 : Int32)) fun v4 =>
    (k1824 x4 x5 x7 x8 x9 x10 x11 x15 v4 M))
    else ((some (M, (0 : Int32))))))
    else ((f4_pin x25 (1 : Int32) M).bind fun ⟨M6, r7⟩ =>
    (f9_told_28 M6 r7).bind fun r9 =>
    if ((x21 >>> (x25 &&& 31)) &&& (1 : Int32)) = 0 then (nm (x25 + (1 : Int32)) fun v11 =>
    ((f9_law_1903 sL sx fu k1824 f) x4 x5 x7 x8 x9 x10 x11 x15 x20 x21 x22 x23 x24 v11 M6))
    else (if r9 = x23 then ((f9_law_1950 sL sx fu k1824 (f9_law_1903 sL sx fu k1824 f) x4 x5 x7 x8 x9 x10 x11 x15 x20 x21 x22 x23 x25 r9 (1 : Int32) x24 M6))
    else ((f9_law_1950 sL sx fu k1824 (f9_law_1903 sL sx fu k1824 f) x4 x5 x7 x8 x9 x10 x11 x15 x20 x21 x22 x23 x25 r9 (0 : Int32) x24 M6))))
set_option maxHeartbeats 4000000 in
set_option maxRecDepth 10000 in
theorem w9_lawi_1903 {ad : Nat → Nat} {X : XX} {R : Mem × Int32} {fu : Nat} {k1824 : Int32 → Int32 → Int32 → Int32 → Int32 → Int32 → Int32 → Int32 → Int32 → Mem → Option (Mem × Int32)} (h : Lx layC ad X cL_law RL 30 9 (some .boolean) (R.1) (some (.int R.2))) (hk1824 : ∀ (x4 : Int32) (x5 : Int32) (x7 : Int32) (x8 : Int32) (x9 : Int32) (x10 : Int32) (x11 : Int32) (x15 : Int32) (x20 : Int32) (M : Mem), k1824 x4 x5 x7 x8 x9 x10 x11 x15 x20 M = some R → Lp layC ad X M 1824 [(0, .ref (zB X.1)), (1, .ref (ad 28)), (2, .ref (ad 47)), (4, .int x4), (5, .int x5), (7, .int x7), (8, .int x8), (9, .int x9), (10, .int x10), (11, .int x11), (15, .int x15), (20, .int x20)] []) : ∀ (f : Nat) (x4 : Int32) (x5 : Int32) (x7 : Int32) (x8 : Int32) (x9 : Int32) (x10 : Int32) (x11 : Int32) (x15 : Int32) (x20 : Int32) (x21 : Int32) (x22 : Int32) (x23 : Int32) (x24 : Int32) (x25 : Int32) (M : Mem), f9_law_1903 (zL X.1) (zX X.1) fu k1824 f x4 x5 x7 x8 x9 x10 x11 x15 x20 x21 x22 x23 x24 x25 M = some R → Lp layC ad X M 1903 [(0, .ref (zB X.1)), (1, .ref (ad 28)), (2, .ref (ad 47)), (4, .int x4), (5, .int x5), (7, .int x7), (8, .int x8), (9, .int x9), (10, .int x10), (11, .int x11), (15, .int x15), (20, .int x20), (21, .int x21), (22, .int x22), (23, .int x23), (24, .int x24), (25, .int x25)] [] := by
  intro f
  induction f with
  | zero => intro x4 x5 x7 x8 x9 x10 x11 x15 x20 x21 x22 x23 x24 x25 M hF; exact absurd hF (by simp [f9_law_1903])
  | succ f ih =>
    intro x4 x5 x7 x8 x9 x10 x11 x15 x20 x21 x22 x23 x24 x25 M hF
    rw [f9_law_1903] at hF
    refine L_iload (pc := 1903) h 16 rfl dL_law_1903 ?_
    refine L_iload (pc := 1905) h 3 rfl dL_law_1905 ?_
    refine L_icmp_ge (pc := 1907) (tgt := 2012) h dL_law_1907 (by decide) (fun c1 => ?_) (fun c1 => ?_)
    · have hF := itp c1 hF
      refine L_iload (pc := 2012) h 15 rfl dL_law_2012 ?_
      refine L_if_eq (pc := 2014) (tgt := 2024) h dL_law_2014 (by decide) (fun c2 => ?_) (fun c2 => ?_)
      · have hF := itp c2 hF
        refine L_iconst (pc := 2024) (v := 0) h (by decide) dL_law_2024 ?_
        cases hF
        exact L_zreturn (pc := 2025) h rfl zr0 rfl rfl dL_law_2025
      · have hF := ifn c2 hF
        refine L_iload (pc := 2017) h 13 rfl dL_law_2017 ?_
        refine L_bipush (pc := 2019) (v := 18) h (by decide) dL_law_2019 ?_
        refine L_icmp_le (pc := 2021) (tgt := 2026) h dL_law_2021 (by decide) (fun c3 => ?_) (fun c3 => ?_)
        · have hF := itp c3 hF
          obtain ⟨v4, hv4, hF⟩ := nm_e2 hF
          refine L_iinc (pc := 2026) (lv' := [(20, .int v4), (0, .ref (zB X.1)), (1, .ref (ad 28)), (2, .ref (ad 47)), (4, .int x4), (5, .int x5), (7, .int x7), (8, .int x8), (9, .int x9), (10, .int x10), (11, .int x11), (15, .int x15), (21, .int x21), (22, .int x22), (23, .int x23), (24, .int x24), (25, .int x25)]) h 11 rfl (by decide) hv4 (by decide) rfl dL_law_2026 ?_
          refine L_goto (pc := 2029) (tgt := 1824) h dL_law_2029 (by decide) ?_
          exact Lp_sub (nX := 0) (lv' := [(0, .ref (zB X.1)), (1, .ref (ad 28)), (2, .ref (ad 47)), (4, .int x4), (5, .int x5), (7, .int x7), (8, .int x8), (9, .int x9), (10, .int x10), (11, .int x11), (15, .int x15), (20, .int v4)]) [1, 2, 3, 4, 5, 6, 7, 8, 9, 10, 11, 0] rfl (hk1824 _ _ _ _ _ _ _ _ _ _ hF)
        · have hF := ifn c3 hF
          refine L_iconst (pc := 2024) (v := 0) h (by decide) dL_law_2024 ?_
          cases hF
          exact L_zreturn (pc := 2025) h rfl zr0 rfl rfl dL_law_2025
    · have hF := ifn c1 hF
      refine L_aload_n (pc := 1910) h 1 rfl rfl dL_law_1910 ?_
      refine L_aload_n (pc := 1911) h 1 rfl rfl dL_law_1911 ?_
      refine L_iload (pc := 1912) h 16 rfl dL_law_1912 ?_
      refine L_iconst (pc := 1914) (v := 1) h (by decide) dL_law_1914 ?_
      obtain ⟨⟨M6, r7⟩, hc5, hF⟩ := bd hF
      refine L_callV (pc := 1915) (st := [.ref (ad 28)]) h [.int x25, .int (1 : Int32)] cvL_88 (c4_pin (ad := ad) (z := X.1) hc5) rfl rfl lc_28 (by decide) (by decide) (Nat.le_of_ble_eq_true rfl) dL_law_1915 (st1 := [.int r7, .ref (ad 28)]) rfl ?_
      obtain ⟨r9, hc8, hF⟩ := bd hF
      refine L_callS (pc := 1918) (st := []) h [.ref (ad 28), .int r7] csL_91 (c9_told_28 (ad := ad) (z := X.1) hc8) rfl rfl (by decide) (by decide) (Nat.le_of_ble_eq_true rfl) dL_law_1918 (st1 := [.int r9]) rfl ?_
      refine L_istore (pc := 1921) (lv' := [(26, .int r9), (0, .ref (zB X.1)), (1, .ref (ad 28)), (2, .ref (ad 47)), (4, .int x4), (5, .int x5), (7, .int x7), (8, .int x8), (9, .int x9), (10, .int x10), (11, .int x11), (15, .int x15), (20, .int x20), (21, .int x21), (22, .int x22), (23, .int x23), (24, .int x24), (25, .int x25)]) h rfl (by decide) rfl dL_law_1921 ?_
      refine L_iload (pc := 1923) h 13 rfl dL_law_1923 ?_
      refine L_iload (pc := 1925) h 17 rfl dL_law_1925 ?_
      refine L_ishr (pc := 1927) h dL_law_1927 ?_
      refine L_iconst (pc := 1928) (v := 1) h (by decide) dL_law_1928 ?_
      refine L_iand (pc := 1929) h dL_law_1929 ?_
      refine L_if_ne (pc := 1930) (tgt := 1936) h dL_law_1930 (by decide) (fun c10 => ?_) (fun c10 => ?_)
      · have hF := ifn c10 hF
        refine L_iload (pc := 1936) h 16 rfl dL_law_1936 ?_
        refine L_iload (pc := 1938) h 0 rfl dL_law_1938 ?_
        refine L_iload (pc := 1940) h 15 rfl dL_law_1940 ?_
        refine L_icmp_ne (pc := 1942) (tgt := 1949) h dL_law_1942 (by decide) (fun c12 => ?_) (fun c12 => ?_)
        · have hF := ifn c12 hF
          refine L_iconst (pc := 1949) (v := 0) h (by decide) dL_law_1949 ?_
          exact Lp_sub (nX := 0) (lv' := [(0, .ref (zB X.1)), (1, .ref (ad 28)), (2, .ref (ad 47)), (4, .int x4), (5, .int x5), (7, .int x7), (8, .int x8), (9, .int x9), (10, .int x10), (11, .int x11), (15, .int x15), (20, .int x20), (21, .int x21), (22, .int x22), (23, .int x23), (25, .int x25), (26, .int r9)]) [1, 2, 3, 4, 5, 6, 7, 8, 9, 10, 11, 12, 13, 14, 15, 17, 0] rfl (w9_law_1950 h (hk1824 := hk1824) (hk1903 := fun a0 a1 a2 a3 a4 a5 a6 a7 a8 a9 a10 a11 a12 a13 a14 hF => ih a0 a1 a2 a3 a4 a5 a6 a7 a8 a9 a10 a11 a12 a13 a14 hF) (hF := hF))
        · have hF := itp c12 hF
          refine L_iconst (pc := 1945) (v := 1) h (by decide) dL_law_1945 ?_
          refine L_goto (pc := 1946) (tgt := 1950) h dL_law_1946 (by decide) ?_
          exact Lp_sub (nX := 0) (lv' := [(0, .ref (zB X.1)), (1, .ref (ad 28)), (2, .ref (ad 47)), (4, .int x4), (5, .int x5), (7, .int x7), (8, .int x8), (9, .int x9), (10, .int x10), (11, .int x11), (15, .int x15), (20, .int x20), (21, .int x21), (22, .int x22), (23, .int x23), (25, .int x25), (26, .int r9)]) [1, 2, 3, 4, 5, 6, 7, 8, 9, 10, 11, 12, 13, 14, 15, 17, 0] rfl (w9_law_1950 h (hk1824 := hk1824) (hk1903 := fun a0 a1 a2 a3 a4 a5 a6 a7 a8 a9 a10 a11 a12 a13 a14 hF => ih a0 a1 a2 a3 a4 a5 a6 a7 a8 a9 a10 a11 a12 a13 a14 hF) (hF := hF))
      · have hF := itp c10 hF
        refine L_goto (pc := 1933) (tgt := 2006) h dL_law_1933 (by decide) ?_
        obtain ⟨v11, hv11, hF⟩ := nm_e2 hF
        refine L_iinc (pc := 2006) (lv' := [(25, .int v11), (26, .int r9), (0, .ref (zB X.1)), (1, .ref (ad 28)), (2, .ref (ad 47)), (4, .int x4), (5, .int x5), (7, .int x7), (8, .int x8), (9, .int x9), (10, .int x10), (11, .int x11), (15, .int x15), (20, .int x20), (21, .int x21), (22, .int x22), (23, .int x23), (24, .int x24)]) h 17 rfl (by decide) hv11 (by decide) rfl dL_law_2006 ?_
        refine L_goto (pc := 2009) (tgt := 1903) h dL_law_2009 (by decide) ?_
        exact Lp_sub (nX := 0) (lv' := [(0, .ref (zB X.1)), (1, .ref (ad 28)), (2, .ref (ad 47)), (4, .int x4), (5, .int x5), (7, .int x7), (8, .int x8), (9, .int x9), (10, .int x10), (11, .int x11), (15, .int x15), (20, .int x20), (21, .int x21), (22, .int x22), (23, .int x23), (24, .int x24), (25, .int v11)]) [2, 3, 4, 5, 6, 7, 8, 9, 10, 11, 12, 13, 14, 15, 16, 17, 0] rfl (ih _ _ _ _ _ _ _ _ _ _ _ _ _ _ _ hF)
theorem w9_law_1903 {ad : Nat → Nat} {X : XX} {R : Mem × Int32} {fu : Nat} {k1824 : Int32 → Int32 → Int32 → Int32 → Int32 → Int32 → Int32 → Int32 → Int32 → Mem → Option (Mem × Int32)} (h : Lx layC ad X cL_law RL 30 9 (some .boolean) (R.1) (some (.int R.2))) (hk1824 : ∀ (x4 : Int32) (x5 : Int32) (x7 : Int32) (x8 : Int32) (x9 : Int32) (x10 : Int32) (x11 : Int32) (x15 : Int32) (x20 : Int32) (M : Mem), k1824 x4 x5 x7 x8 x9 x10 x11 x15 x20 M = some R → Lp layC ad X M 1824 [(0, .ref (zB X.1)), (1, .ref (ad 28)), (2, .ref (ad 47)), (4, .int x4), (5, .int x5), (7, .int x7), (8, .int x8), (9, .int x9), (10, .int x10), (11, .int x11), (15, .int x15), (20, .int x20)] []) {f : Nat} {x4 : Int32} {x5 : Int32} {x7 : Int32} {x8 : Int32} {x9 : Int32} {x10 : Int32} {x11 : Int32} {x15 : Int32} {x20 : Int32} {x21 : Int32} {x22 : Int32} {x23 : Int32} {x24 : Int32} {x25 : Int32} {M : Mem} (hF : f9_law_1903 (zL X.1) (zX X.1) fu k1824 f x4 x5 x7 x8 x9 x10 x11 x15 x20 x21 x22 x23 x24 x25 M = some R) : Lp layC ad X M 1903 [(0, .ref (zB X.1)), (1, .ref (ad 28)), (2, .ref (ad 47)), (4, .int x4), (5, .int x5), (7, .int x7), (8, .int x8), (9, .int x9), (10, .int x10), (11, .int x11), (15, .int x15), (20, .int x20), (21, .int x21), (22, .int x22), (23, .int x23), (24, .int x24), (25, .int x25)] [] := w9_lawi_1903 h hk1824 f _ _ _ _ _ _ _ _ _ _ _ _ _ _ _ hF
def f9_law_2604 (sL : Nat) (sx : Nat → Int32) (fu : Nat) (k2462 : Int32 → Int32 → Int32 → Int32 → Int32 → Int32 → Int32 → Int32 → Int64 → Int64 → Int32 → Mem → Option (Mem × Int32)) (x5 : Int32) (x7 : Int32) (x8 : Int32) (x9 : Int32) (x10 : Int32) (x11 : Int32) (x15 : Int32) (x22 : Int32) (x23 : Int64) (x25 : Int64) (x27 : Int32) (s0 : Int64) (s1 : Int64) (M : Mem) : Option (Mem × Int32) :=
    if (lg_cmp s1 s0) = 0 then ((f4_lower M).bind fun r3 =>
    if (lg_cmp r3 (1 : Int64)) = 0 then (nm (x27 + (4 : Int32)) fun v5 =>
    (k2462 x5 x7 x8 x9 x10 x11 x15 x22 x23 x25 v5 M))
    else ((some (M, (0 : Int32)))))
    else ((some (M, (0 : Int32))))
set_option maxHeartbeats 4000000 in
set_option maxRecDepth 10000 in
theorem w9_law_2604 {ad : Nat → Nat} {X : XX} {R : Mem × Int32} {fu : Nat} {k2462 : Int32 → Int32 → Int32 → Int32 → Int32 → Int32 → Int32 → Int32 → Int64 → Int64 → Int32 → Mem → Option (Mem × Int32)} (h : Lx layC ad X cL_law RL 30 9 (some .boolean) (R.1) (some (.int R.2))) (hk2462 : ∀ (x5 : Int32) (x7 : Int32) (x8 : Int32) (x9 : Int32) (x10 : Int32) (x11 : Int32) (x15 : Int32) (x22 : Int32) (x23 : Int64) (x25 : Int64) (x27 : Int32) (M : Mem), k2462 x5 x7 x8 x9 x10 x11 x15 x22 x23 x25 x27 M = some R → Lp layC ad X M 2462 [(0, .ref (zB X.1)), (1, .ref (ad 28)), (5, .int x5), (7, .int x7), (8, .int x8), (9, .int x9), (10, .int x10), (11, .int x11), (15, .int x15), (22, .int x22), (23, .long x23), (25, .long x25), (27, .int x27)] []) {x5 : Int32} {x7 : Int32} {x8 : Int32} {x9 : Int32} {x10 : Int32} {x11 : Int32} {x15 : Int32} {x22 : Int32} {x23 : Int64} {x25 : Int64} {x27 : Int32} {s0 : Int64} {s1 : Int64} {M : Mem} (hF : f9_law_2604 (zL X.1) (zX X.1) fu k2462 x5 x7 x8 x9 x10 x11 x15 x22 x23 x25 x27 s0 s1 M = some R) : Lp layC ad X M 2604 [(0, .ref (zB X.1)), (1, .ref (ad 28)), (5, .int x5), (7, .int x7), (8, .int x8), (9, .int x9), (10, .int x10), (11, .int x11), (15, .int x15), (22, .int x22), (23, .long x23), (25, .long x25), (27, .int x27)] [.long s0, .long s1] := by
  unfold f9_law_2604 at hF
  refine L_lcmp (pc := 2604) h dL_law_2604 ?_
  refine L_if_ne (pc := 2605) (tgt := 2617) h dL_law_2605 (by decide) (fun c1 => ?_) (fun c1 => ?_)
  · have hF := ifn c1 hF
    refine L_iconst (pc := 2617) (v := 0) h (by decide) dL_law_2617 ?_
    cases hF
    exact L_zreturn (pc := 2618) h rfl zr0 rfl rfl dL_law_2618
  · have hF := itp c1 hF
    refine L_aload_n (pc := 2608) h 1 rfl rfl dL_law_2608 ?_
    obtain ⟨r3, hc2, hF⟩ := bd hF
    refine L_callV (pc := 2609) (st := []) h [] cvL_157 (c4_lower (ad := ad) (z := X.1) hc2) rfl rfl lc_28 (by decide) (by decide) (Nat.le_of_ble_eq_true rfl) dL_law_2609 (st1 := [.long r3]) rfl ?_
    refine L_lconst (pc := 2612) (v := 1) h (by decide) dL_law_2612 ?_
    refine L_lcmp (pc := 2613) h dL_law_2613 ?_
    refine L_if_eq (pc := 2614) (tgt := 2619) h dL_law_2614 (by decide) (fun c4 => ?_) (fun c4 => ?_)
    · have hF := itp c4 hF
      obtain ⟨v5, hv5, hF⟩ := nm_e2 hF
      refine L_iinc (pc := 2619) (lv' := [(27, .int v5), (0, .ref (zB X.1)), (1, .ref (ad 28)), (5, .int x5), (7, .int x7), (8, .int x8), (9, .int x9), (10, .int x10), (11, .int x11), (15, .int x15), (22, .int x22), (23, .long x23), (25, .long x25)]) h 12 rfl (by decide) hv5 (by decide) rfl dL_law_2619 ?_
      refine L_goto (pc := 2622) (tgt := 2462) h dL_law_2622 (by decide) ?_
      exact Lp_sub (nX := 0) (lv' := [(0, .ref (zB X.1)), (1, .ref (ad 28)), (5, .int x5), (7, .int x7), (8, .int x8), (9, .int x9), (10, .int x10), (11, .int x11), (15, .int x15), (22, .int x22), (23, .long x23), (25, .long x25), (27, .int v5)]) [1, 2, 3, 4, 5, 6, 7, 8, 9, 10, 11, 12, 0] rfl (hk2462 _ _ _ _ _ _ _ _ _ _ _ _ hF)
    · have hF := ifn c4 hF
      refine L_iconst (pc := 2617) (v := 0) h (by decide) dL_law_2617 ?_
      cases hF
      exact L_zreturn (pc := 2618) h rfl zr0 rfl rfl dL_law_2618
def f9_law_2565 (sL : Nat) (sx : Nat → Int32) (fu : Nat) (k2462 : Int32 → Int32 → Int32 → Int32 → Int32 → Int32 → Int32 → Int32 → Int64 → Int64 → Int32 → Mem → Option (Mem × Int32)) (x5 : Int32) (x7 : Int32) (x8 : Int32) (x9 : Int32) (x10 : Int32) (x11 : Int32) (x15 : Int32) (x22 : Int32) (x27 : Int32) (M : Mem) : Option (Mem × Int32) :=
    (f4_upper M).bind fun r2 =>
    (f4_lower M).bind fun r4 =>
    (f4_odds fu x27 (0 : Int32) M).bind fun ⟨M6, r7⟩ =>
    if r7 = (1 : Int32) then ((f4_upper M6).bind fun r10 =>
    if x15 < x27 then ((f9_law_2604 sL sx fu k2462 x5 x7 x8 x9 x10 x11 x15 x22 r2 r4 x27 (0 : Int64) r10 M6))
    else ((f9_law_2604 sL sx fu k2462 x5 x7 x8 x9 x10 x11 x15 x22 r2 r4 x27 (1 : Int64) r10 M6)))
    else ((some (M6, (0 : Int32))))
set_option maxHeartbeats 4000000 in
set_option maxRecDepth 10000 in
theorem w9_law_2565 {ad : Nat → Nat} {X : XX} {R : Mem × Int32} {fu : Nat} {k2462 : Int32 → Int32 → Int32 → Int32 → Int32 → Int32 → Int32 → Int32 → Int64 → Int64 → Int32 → Mem → Option (Mem × Int32)} (h : Lx layC ad X cL_law RL 30 9 (some .boolean) (R.1) (some (.int R.2))) (hk2462 : ∀ (x5 : Int32) (x7 : Int32) (x8 : Int32) (x9 : Int32) (x10 : Int32) (x11 : Int32) (x15 : Int32) (x22 : Int32) (x23 : Int64) (x25 : Int64) (x27 : Int32) (M : Mem), k2462 x5 x7 x8 x9 x10 x11 x15 x22 x23 x25 x27 M = some R → Lp layC ad X M 2462 [(0, .ref (zB X.1)), (1, .ref (ad 28)), (5, .int x5), (7, .int x7), (8, .int x8), (9, .int x9), (10, .int x10), (11, .int x11), (15, .int x15), (22, .int x22), (23, .long x23), (25, .long x25), (27, .int x27)] []) {x5 : Int32} {x7 : Int32} {x8 : Int32} {x9 : Int32} {x10 : Int32} {x11 : Int32} {x15 : Int32} {x22 : Int32} {x27 : Int32} {M : Mem} (hF : f9_law_2565 (zL X.1) (zX X.1) fu k2462 x5 x7 x8 x9 x10 x11 x15 x22 x27 M = some R) : Lp layC ad X M 2565 [(0, .ref (zB X.1)), (1, .ref (ad 28)), (5, .int x5), (7, .int x7), (8, .int x8), (9, .int x9), (10, .int x10), (11, .int x11), (15, .int x15), (22, .int x22), (27, .int x27)] [] := by
  unfold f9_law_2565 at hF
  refine L_aload_n (pc := 2565) h 1 rfl rfl dL_law_2565 ?_
  obtain ⟨r2, hc1, hF⟩ := bd hF
  refine L_callV (pc := 2566) (st := []) h [] cvL_153 (c4_upper (ad := ad) (z := X.1) hc1) rfl rfl lc_28 (by decide) (by decide) (Nat.le_of_ble_eq_true rfl) dL_law_2566 (st1 := [.long r2]) rfl ?_
  refine L_lstore (pc := 2569) (lv' := [(23, .long r2), (0, .ref (zB X.1)), (1, .ref (ad 28)), (5, .int x5), (7, .int x7), (8, .int x8), (9, .int x9), (10, .int x10), (11, .int x11), (15, .int x15), (22, .int x22), (27, .int x27)]) h rfl (by decide) rfl dL_law_2569 ?_
  refine L_aload_n (pc := 2571) h 2 rfl rfl dL_law_2571 ?_
  obtain ⟨r4, hc3, hF⟩ := bd hF
  refine L_callV (pc := 2572) (st := []) h [] cvL_157 (c4_lower (ad := ad) (z := X.1) hc3) rfl rfl lc_28 (by decide) (by decide) (Nat.le_of_ble_eq_true rfl) dL_law_2572 (st1 := [.long r4]) rfl ?_
  refine L_lstore (pc := 2575) (lv' := [(25, .long r4), (23, .long r2), (0, .ref (zB X.1)), (1, .ref (ad 28)), (5, .int x5), (7, .int x7), (8, .int x8), (9, .int x9), (10, .int x10), (11, .int x11), (15, .int x15), (22, .int x22), (27, .int x27)]) h rfl (by decide) rfl dL_law_2575 ?_
  refine L_aload_n (pc := 2577) h 3 rfl rfl dL_law_2577 ?_
  refine L_iload (pc := 2578) h 12 rfl dL_law_2578 ?_
  refine L_iconst (pc := 2580) (v := 0) h (by decide) dL_law_2580 ?_
  obtain ⟨⟨M6, r7⟩, hc5, hF⟩ := bd hF
  refine L_callV (pc := 2581) (st := []) h [.int x27, .int (0 : Int32)] cvL_150 (c4_odds (ad := ad) (z := X.1) hc5) rfl rfl lc_28 (by decide) (by decide) (Nat.le_of_ble_eq_true rfl) dL_law_2581 (st1 := [.int r7]) rfl ?_
  refine L_iconst (pc := 2584) (v := 1) h (by decide) dL_law_2584 ?_
  refine L_icmp_ne (pc := 2585) (tgt := 2617) h dL_law_2585 (by decide) (fun c8 => ?_) (fun c8 => ?_)
  · have hF := ifn c8 hF
    refine L_iconst (pc := 2617) (v := 0) h (by decide) dL_law_2617 ?_
    cases hF
    exact L_zreturn (pc := 2618) h rfl zr0 rfl rfl dL_law_2618
  · have hF := itp c8 hF
    refine L_aload_n (pc := 2588) h 3 rfl rfl dL_law_2588 ?_
    obtain ⟨r10, hc9, hF⟩ := bd hF
    refine L_callV (pc := 2589) (st := []) h [] cvL_153 (c4_upper (ad := ad) (z := X.1) hc9) rfl rfl lc_28 (by decide) (by decide) (Nat.le_of_ble_eq_true rfl) dL_law_2589 (st1 := [.long r10]) rfl ?_
    refine L_iload (pc := 2592) h 10 rfl dL_law_2592 ?_
    refine L_iload (pc := 2594) h 12 rfl dL_law_2594 ?_
    refine L_icmp_lt (pc := 2596) (tgt := 2603) h dL_law_2596 (by decide) (fun c11 => ?_) (fun c11 => ?_)
    · have hF := itp c11 hF
      refine L_lconst (pc := 2603) (v := 0) h (by decide) dL_law_2603 ?_
      exact Lp_sub (nX := 0) (lv' := [(0, .ref (zB X.1)), (1, .ref (ad 28)), (5, .int x5), (7, .int x7), (8, .int x8), (9, .int x9), (10, .int x10), (11, .int x11), (15, .int x15), (22, .int x22), (23, .long r2), (25, .long r4), (27, .int x27)]) [2, 3, 4, 5, 6, 7, 8, 9, 10, 11, 1, 0, 12] rfl (w9_law_2604 h (hk2462 := hk2462) (hF := hF))
    · have hF := ifn c11 hF
      refine L_lconst (pc := 2599) (v := 1) h (by decide) dL_law_2599 ?_
      refine L_goto (pc := 2600) (tgt := 2604) h dL_law_2600 (by decide) ?_
      exact Lp_sub (nX := 0) (lv' := [(0, .ref (zB X.1)), (1, .ref (ad 28)), (5, .int x5), (7, .int x7), (8, .int x8), (9, .int x9), (10, .int x10), (11, .int x11), (15, .int x15), (22, .int x22), (23, .long r2), (25, .long r4), (27, .int x27)]) [2, 3, 4, 5, 6, 7, 8, 9, 10, 11, 1, 0, 12] rfl (w9_law_2604 h (hk2462 := hk2462) (hF := hF))
def f9_law_2547 (sL : Nat) (sx : Nat → Int32) (fu : Nat) (k2462 : Int32 → Int32 → Int32 → Int32 → Int32 → Int32 → Int32 → Int32 → Int64 → Int64 → Int32 → Mem → Option (Mem × Int32)) (x5 : Int32) (x7 : Int32) (x8 : Int32) (x9 : Int32) (x10 : Int32) (x11 : Int32) (x15 : Int32) (x22 : Int32) (x27 : Int32) (M : Mem) : Option (Mem × Int32) :=
    if x27 ≤ x15 then ((f9_law_2565 sL sx fu k2462 x5 x7 x8 x9 x10 x11 x15 x22 x27 M))
    else ((f4_upper M).bind fun r3 =>
    if (lg_cmp r3 (0 : Int64)) = 0 then ((f9_law_2565 sL sx fu k2462 x5 x7 x8 x9 x10 x11 x15 x22 x27 M))
    else ((some (M, (0 : Int32)))))
set_option maxHeartbeats 4000000 in
set_option maxRecDepth 10000 in
theorem w9_law_2547 {ad : Nat → Nat} {X : XX} {R : Mem × Int32} {fu : Nat} {k2462 : Int32 → Int32 → Int32 → Int32 → Int32 → Int32 → Int32 → Int32 → Int64 → Int64 → Int32 → Mem → Option (Mem × Int32)} (h : Lx layC ad X cL_law RL 30 9 (some .boolean) (R.1) (some (.int R.2))) (hk2462 : ∀ (x5 : Int32) (x7 : Int32) (x8 : Int32) (x9 : Int32) (x10 : Int32) (x11 : Int32) (x15 : Int32) (x22 : Int32) (x23 : Int64) (x25 : Int64) (x27 : Int32) (M : Mem), k2462 x5 x7 x8 x9 x10 x11 x15 x22 x23 x25 x27 M = some R → Lp layC ad X M 2462 [(0, .ref (zB X.1)), (1, .ref (ad 28)), (5, .int x5), (7, .int x7), (8, .int x8), (9, .int x9), (10, .int x10), (11, .int x11), (15, .int x15), (22, .int x22), (23, .long x23), (25, .long x25), (27, .int x27)] []) {x5 : Int32} {x7 : Int32} {x8 : Int32} {x9 : Int32} {x10 : Int32} {x11 : Int32} {x15 : Int32} {x22 : Int32} {x27 : Int32} {M : Mem} (hF : f9_law_2547 (zL X.1) (zX X.1) fu k2462 x5 x7 x8 x9 x10 x11 x15 x22 x27 M = some R) : Lp layC ad X M 2547 [(0, .ref (zB X.1)), (1, .ref (ad 28)), (5, .int x5), (7, .int x7), (8, .int x8), (9, .int x9), (10, .int x10), (11, .int x11), (15, .int x15), (22, .int x22), (27, .int x27)] [] := by
  unfold f9_law_2547 at hF
  refine L_iload (pc := 2547) h 10 rfl dL_law_2547 ?_
  refine L_iload (pc := 2549) h 8 rfl dL_law_2549 ?_
  refine L_icmp_le (pc := 2551) (tgt := 2565) h dL_law_2551 (by decide) (fun c1 => ?_) (fun c1 => ?_)
  · have hF := itp c1 hF
    exact Lp_sub (nX := 0) (lv' := [(0, .ref (zB X.1)), (1, .ref (ad 28)), (5, .int x5), (7, .int x7), (8, .int x8), (9, .int x9), (10, .int x10), (11, .int x11), (15, .int x15), (22, .int x22), (27, .int x27)]) [0, 1, 2, 3, 4, 5, 6, 7, 8, 9, 10] rfl (w9_law_2565 h (hk2462 := hk2462) (hF := hF))
  · have hF := ifn c1 hF
    refine L_aload_n (pc := 2554) h 1 rfl rfl dL_law_2554 ?_
    obtain ⟨r3, hc2, hF⟩ := bd hF
    refine L_callV (pc := 2555) (st := []) h [] cvL_153 (c4_upper (ad := ad) (z := X.1) hc2) rfl rfl lc_28 (by decide) (by decide) (Nat.le_of_ble_eq_true rfl) dL_law_2555 (st1 := [.long r3]) rfl ?_
    refine L_lconst (pc := 2558) (v := 0) h (by decide) dL_law_2558 ?_
    refine L_lcmp (pc := 2559) h dL_law_2559 ?_
    refine L_if_eq (pc := 2560) (tgt := 2565) h dL_law_2560 (by decide) (fun c4 => ?_) (fun c4 => ?_)
    · have hF := itp c4 hF
      exact Lp_sub (nX := 0) (lv' := [(0, .ref (zB X.1)), (1, .ref (ad 28)), (5, .int x5), (7, .int x7), (8, .int x8), (9, .int x9), (10, .int x10), (11, .int x11), (15, .int x15), (22, .int x22), (27, .int x27)]) [0, 1, 2, 3, 4, 5, 6, 7, 8, 9, 10] rfl (w9_law_2565 h (hk2462 := hk2462) (hF := hF))
    · have hF := ifn c4 hF
      refine L_iconst (pc := 2563) (v := 0) h (by decide) dL_law_2563 ?_
      cases hF
      exact L_zreturn (pc := 2564) h rfl zr0 rfl rfl dL_law_2564
def f9_law_2830 (sL : Nat) (sx : Nat → Int32) (fu : Nat) (x5 : Int32) (x7 : Int32) (x8 : Int32) (x9 : Int32) (x10 : Int32) (M : Mem) : Option (Mem × Int32) :=
    (f4_count M fu (1 : Int32)).bind fun r2 =>
    if r2 = x8 then ((f4_count M fu (3 : Int32)).bind fun r5 =>
    if r5 = x9 then ((f4_count M fu (4 : Int32)).bind fun r8 =>
    if r8 = x10 then ((f4_undo fu (0 : Int32) M).bind fun ⟨M11, r12⟩ =>
    if r12 = x7 then ((f4_on fu (0 : Int32) M11).bind fun ⟨M15, r16⟩ =>
    if r16 = 0 then ((f4_count M15 fu (1 : Int32)).bind fun r19 =>
    if r19 = 0 then ((f4_count M15 fu (3 : Int32)).bind fun r22 =>
    if r22 = 0 then ((f4_count M15 fu (4 : Int32)).bind fun r25 =>
    if r25 = x5 then ((f4_count M15 fu (5 : Int32)).bind fun r28 =>
    if r28 = 0 then ((f4_count M15 fu (8 : Int32)).bind fun r31 =>
    if r31 = (2 : Int32) then ((some (M15, (1 : Int32))))
    else ((some (M15, (0 : Int32)))))
    else ((some (M15, (0 : Int32)))))
    else ((some (M15, (0 : Int32)))))
    else ((some (M15, (0 : Int32)))))
    else ((some (M15, (0 : Int32)))))
    else ((some (M15, (0 : Int32)))))
    else ((some (M11, (0 : Int32)))))
    else ((some (M, (0 : Int32)))))
    else ((some (M, (0 : Int32)))))
    else ((some (M, (0 : Int32))))
set_option maxHeartbeats 4000000 in
set_option maxRecDepth 10000 in
theorem w9_law_2830 {ad : Nat → Nat} {X : XX} {R : Mem × Int32} {fu : Nat}  (h : Lx layC ad X cL_law RL 30 9 (some .boolean) (R.1) (some (.int R.2)))  {x5 : Int32} {x7 : Int32} {x8 : Int32} {x9 : Int32} {x10 : Int32} {M : Mem} (hF : f9_law_2830 (zL X.1) (zX X.1) fu x5 x7 x8 x9 x10 M = some R) : Lp layC ad X M 2830 [(1, .ref (ad 28)), (5, .int x5), (7, .int x7), (8, .int x8), (9, .int x9), (10, .int x10)] [] := by
  unfold f9_law_2830 at hF
  refine L_aload_n (pc := 2830) h 0 rfl rfl dL_law_2830 ?_
  refine L_iconst (pc := 2831) (v := 1) h (by decide) dL_law_2831 ?_
  obtain ⟨r2, hc1, hF⟩ := bd hF
  refine L_callV (pc := 2832) (st := []) h [.int (1 : Int32)] cvL_42 (c4_count (ad := ad) (z := X.1) hc1) rfl rfl lc_28 (by decide) (by decide) (Nat.le_of_ble_eq_true rfl) dL_law_2832 (st1 := [.int r2]) rfl ?_
  refine L_iload (pc := 2835) h 3 rfl dL_law_2835 ?_
  refine L_icmp_ne (pc := 2837) (tgt := 2926) h dL_law_2837 (by decide) (fun c3 => ?_) (fun c3 => ?_)
  · have hF := ifn c3 hF
    refine L_iconst (pc := 2926) (v := 0) h (by decide) dL_law_2926 ?_
    cases hF
    exact L_zreturn (pc := 2927) h rfl zr0 rfl rfl dL_law_2927
  · have hF := itp c3 hF
    refine L_aload_n (pc := 2840) h 0 rfl rfl dL_law_2840 ?_
    refine L_iconst (pc := 2841) (v := 3) h (by decide) dL_law_2841 ?_
    obtain ⟨r5, hc4, hF⟩ := bd hF
    refine L_callV (pc := 2842) (st := []) h [.int (3 : Int32)] cvL_42 (c4_count (ad := ad) (z := X.1) hc4) rfl rfl lc_28 (by decide) (by decide) (Nat.le_of_ble_eq_true rfl) dL_law_2842 (st1 := [.int r5]) rfl ?_
    refine L_iload (pc := 2845) h 4 rfl dL_law_2845 ?_
    refine L_icmp_ne (pc := 2847) (tgt := 2926) h dL_law_2847 (by decide) (fun c6 => ?_) (fun c6 => ?_)
    · have hF := ifn c6 hF
      refine L_iconst (pc := 2926) (v := 0) h (by decide) dL_law_2926 ?_
      cases hF
      exact L_zreturn (pc := 2927) h rfl zr0 rfl rfl dL_law_2927
    · have hF := itp c6 hF
      refine L_aload_n (pc := 2850) h 0 rfl rfl dL_law_2850 ?_
      refine L_iconst (pc := 2851) (v := 4) h (by decide) dL_law_2851 ?_
      obtain ⟨r8, hc7, hF⟩ := bd hF
      refine L_callV (pc := 2852) (st := []) h [.int (4 : Int32)] cvL_42 (c4_count (ad := ad) (z := X.1) hc7) rfl rfl lc_28 (by decide) (by decide) (Nat.le_of_ble_eq_true rfl) dL_law_2852 (st1 := [.int r8]) rfl ?_
      refine L_iload (pc := 2855) h 5 rfl dL_law_2855 ?_
      refine L_icmp_ne (pc := 2857) (tgt := 2926) h dL_law_2857 (by decide) (fun c9 => ?_) (fun c9 => ?_)
      · have hF := ifn c9 hF
        refine L_iconst (pc := 2926) (v := 0) h (by decide) dL_law_2926 ?_
        cases hF
        exact L_zreturn (pc := 2927) h rfl zr0 rfl rfl dL_law_2927
      · have hF := itp c9 hF
        refine L_aload_n (pc := 2860) h 0 rfl rfl dL_law_2860 ?_
        refine L_iconst (pc := 2861) (v := 0) h (by decide) dL_law_2861 ?_
        obtain ⟨⟨M11, r12⟩, hc10, hF⟩ := bd hF
        refine L_callV (pc := 2862) (st := []) h [.int (0 : Int32)] cvL_107 (c4_undo (ad := ad) (z := X.1) hc10) rfl rfl lc_28 (by decide) (by decide) (Nat.le_of_ble_eq_true rfl) dL_law_2862 (st1 := [.int r12]) rfl ?_
        refine L_iload (pc := 2865) h 2 rfl dL_law_2865 ?_
        refine L_icmp_ne (pc := 2867) (tgt := 2926) h dL_law_2867 (by decide) (fun c13 => ?_) (fun c13 => ?_)
        · have hF := ifn c13 hF
          refine L_iconst (pc := 2926) (v := 0) h (by decide) dL_law_2926 ?_
          cases hF
          exact L_zreturn (pc := 2927) h rfl zr0 rfl rfl dL_law_2927
        · have hF := itp c13 hF
          refine L_aload_n (pc := 2870) h 0 rfl rfl dL_law_2870 ?_
          refine L_iconst (pc := 2871) (v := 0) h (by decide) dL_law_2871 ?_
          obtain ⟨⟨M15, r16⟩, hc14, hF⟩ := bd hF
          refine L_callV (pc := 2872) (st := []) h [.int (0 : Int32)] cvL_113 (c4_on (ad := ad) (z := X.1) hc14) rfl rfl lc_28 (by decide) (by decide) (Nat.le_of_ble_eq_true rfl) dL_law_2872 (st1 := [.int r16]) rfl ?_
          refine L_if_ne (pc := 2875) (tgt := 2926) h dL_law_2875 (by decide) (fun c17 => ?_) (fun c17 => ?_)
          · have hF := ifn c17 hF
            refine L_iconst (pc := 2926) (v := 0) h (by decide) dL_law_2926 ?_
            cases hF
            exact L_zreturn (pc := 2927) h rfl zr0 rfl rfl dL_law_2927
          · have hF := itp c17 hF
            refine L_aload_n (pc := 2878) h 0 rfl rfl dL_law_2878 ?_
            refine L_iconst (pc := 2879) (v := 1) h (by decide) dL_law_2879 ?_
            obtain ⟨r19, hc18, hF⟩ := bd hF
            refine L_callV (pc := 2880) (st := []) h [.int (1 : Int32)] cvL_42 (c4_count (ad := ad) (z := X.1) hc18) rfl rfl lc_28 (by decide) (by decide) (Nat.le_of_ble_eq_true rfl) dL_law_2880 (st1 := [.int r19]) rfl ?_
            refine L_if_ne (pc := 2883) (tgt := 2926) h dL_law_2883 (by decide) (fun c20 => ?_) (fun c20 => ?_)
            · have hF := ifn c20 hF
              refine L_iconst (pc := 2926) (v := 0) h (by decide) dL_law_2926 ?_
              cases hF
              exact L_zreturn (pc := 2927) h rfl zr0 rfl rfl dL_law_2927
            · have hF := itp c20 hF
              refine L_aload_n (pc := 2886) h 0 rfl rfl dL_law_2886 ?_
              refine L_iconst (pc := 2887) (v := 3) h (by decide) dL_law_2887 ?_
              obtain ⟨r22, hc21, hF⟩ := bd hF
              refine L_callV (pc := 2888) (st := []) h [.int (3 : Int32)] cvL_42 (c4_count (ad := ad) (z := X.1) hc21) rfl rfl lc_28 (by decide) (by decide) (Nat.le_of_ble_eq_true rfl) dL_law_2888 (st1 := [.int r22]) rfl ?_
              refine L_if_ne (pc := 2891) (tgt := 2926) h dL_law_2891 (by decide) (fun c23 => ?_) (fun c23 => ?_)
              · have hF := ifn c23 hF
                refine L_iconst (pc := 2926) (v := 0) h (by decide) dL_law_2926 ?_
                cases hF
                exact L_zreturn (pc := 2927) h rfl zr0 rfl rfl dL_law_2927
              · have hF := itp c23 hF
                refine L_aload_n (pc := 2894) h 0 rfl rfl dL_law_2894 ?_
                refine L_iconst (pc := 2895) (v := 4) h (by decide) dL_law_2895 ?_
                obtain ⟨r25, hc24, hF⟩ := bd hF
                refine L_callV (pc := 2896) (st := []) h [.int (4 : Int32)] cvL_42 (c4_count (ad := ad) (z := X.1) hc24) rfl rfl lc_28 (by decide) (by decide) (Nat.le_of_ble_eq_true rfl) dL_law_2896 (st1 := [.int r25]) rfl ?_
                refine L_iload (pc := 2899) h 1 rfl dL_law_2899 ?_
                refine L_icmp_ne (pc := 2901) (tgt := 2926) h dL_law_2901 (by decide) (fun c26 => ?_) (fun c26 => ?_)
                · have hF := ifn c26 hF
                  refine L_iconst (pc := 2926) (v := 0) h (by decide) dL_law_2926 ?_
                  cases hF
                  exact L_zreturn (pc := 2927) h rfl zr0 rfl rfl dL_law_2927
                · have hF := itp c26 hF
                  refine L_aload_n (pc := 2904) h 0 rfl rfl dL_law_2904 ?_
                  refine L_iconst (pc := 2905) (v := 5) h (by decide) dL_law_2905 ?_
                  obtain ⟨r28, hc27, hF⟩ := bd hF
                  refine L_callV (pc := 2906) (st := []) h [.int (5 : Int32)] cvL_42 (c4_count (ad := ad) (z := X.1) hc27) rfl rfl lc_28 (by decide) (by decide) (Nat.le_of_ble_eq_true rfl) dL_law_2906 (st1 := [.int r28]) rfl ?_
                  refine L_if_ne (pc := 2909) (tgt := 2926) h dL_law_2909 (by decide) (fun c29 => ?_) (fun c29 => ?_)
                  · have hF := ifn c29 hF
                    refine L_iconst (pc := 2926) (v := 0) h (by decide) dL_law_2926 ?_
                    cases hF
                    exact L_zreturn (pc := 2927) h rfl zr0 rfl rfl dL_law_2927
                  · have hF := itp c29 hF
                    refine L_aload_n (pc := 2912) h 0 rfl rfl dL_law_2912 ?_
                    refine L_bipush (pc := 2913) (v := 8) h (by decide) dL_law_2913 ?_
                    obtain ⟨r31, hc30, hF⟩ := bd hF
                    refine L_callV (pc := 2915) (st := []) h [.int (8 : Int32)] cvL_42 (c4_count (ad := ad) (z := X.1) hc30) rfl rfl lc_28 (by decide) (by decide) (Nat.le_of_ble_eq_true rfl) dL_law_2915 (st1 := [.int r31]) rfl ?_
                    refine L_iconst (pc := 2918) (v := 2) h (by decide) dL_law_2918 ?_
                    refine L_icmp_ne (pc := 2919) (tgt := 2926) h dL_law_2919 (by decide) (fun c32 => ?_) (fun c32 => ?_)
                    · have hF := ifn c32 hF
                      refine L_iconst (pc := 2926) (v := 0) h (by decide) dL_law_2926 ?_
                      cases hF
                      exact L_zreturn (pc := 2927) h rfl zr0 rfl rfl dL_law_2927
                    · have hF := itp c32 hF
                      refine L_iconst (pc := 2922) (v := 1) h (by decide) dL_law_2922 ?_
                      refine L_goto (pc := 2923) (tgt := 2927) h dL_law_2923 (by decide) ?_
                      cases hF
                      exact L_zreturn (pc := 2927) h rfl zr1 rfl rfl dL_law_2927
def f9_law_2462 (sL : Nat) (sx : Nat → Int32) (fu : Nat) : Nat → Int32 → Int32 → Int32 → Int32 → Int32 → Int32 → Int32 → Int32 → Int64 → Int64 → Int32 → Mem → Option (Mem × Int32)
  | 0 => fun _ _ _ _ _ _ _ _ _ _ _ _ => none
  | f + 1 => fun x5 x7 x8 x9 x10 x11 x15 x22 x23 x25 x27 M =>
    if (201 : Int32) ≤ x27 then ((f4_mid fu (0 : Int32) M).bind fun ⟨M3, r4⟩ =>
    if r4 = (1 : Int32) then ((f4_upper M3).bind fun r7 =>
    if (lg_cmp r7 x15.toInt64) = 0 then ((f4_lower M3).bind fun r10 =>
    if (lg_cmp r10 (1 : Int64)) = 0 then ((f4_mid fu x22 M3).bind fun ⟨M13, r14⟩ =>
    if r14 = (1 : Int32) then ((f4_upper M13).bind fun r17 =>
    if (lg_cmp r17 (0 : Int64)) < 0 then ((some (M13, (0 : Int32))))
    else ((f4_upper M13).bind fun r20 =>
    (f4_lower M13).bind fun r22 =>
    if (lg_cmp r20 (x15.toInt64 * r22)) ≤ 0 then ((f9_cell_S sL sx M13 (44 : Int32)).bind fun r25 =>
    (f9_part r25 (18 : Int32)).bind fun r27 =>
    nm ((1 : Int32) + r27) fun v28 =>
    (f9_cell_S sL sx M13 (45 : Int32)).bind fun r30 =>
    (f9_part r30 (2147483646 : Int32)).bind fun r32 =>
    nm ((1 : Int32) + r32) fun v33 =>
    (f4_lots fu v28 v33 M13).bind fun ⟨M35, r36⟩ =>
    if (x7 + v28) ≤ (40 : Int32) then ((f4_count M35 fu (1 : Int32)).bind fun r39 =>
    if r36 = r39 then ((f4_count M35 fu (2 : Int32)).bind fun r42 =>
    if r42 = (x7 + v28) then ((f4_count M35 fu (5 : Int32)).bind fun r45 =>
    if r45 = x11 then ((f4_undo fu x7 M35).bind fun ⟨M48, r49⟩ =>
    if r49 = v28 then ((f4_count M48 fu (1 : Int32)).bind fun r52 =>
    if r52 = x8 then ((f4_lots fu v28 v33 M48).bind fun ⟨M55, r56⟩ =>
    if r56 = r36 then ((f4_on fu (1 : Int32) M55).bind fun ⟨M59, r60⟩ =>
    if r60 = x7 then ((f9_law_2830 sL sx fu x5 x7 x8 x9 x10 M59))
    else ((some (M59, (0 : Int32)))))
    else ((some (M55, (0 : Int32)))))
    else ((some (M48, (0 : Int32)))))
    else ((some (M48, (0 : Int32)))))
    else ((some (M35, (0 : Int32)))))
    else ((some (M35, (0 : Int32)))))
    else ((some (M35, (0 : Int32)))))
    else (if r36 = (-2 : Int32) then ((f9_law_2830 sL sx fu x5 x7 x8 x9 x10 M35))
    else ((some (M35, (0 : Int32))))))
    else ((some (M13, (0 : Int32))))))
    else ((some (M13, (0 : Int32)))))
    else ((some (M3, (0 : Int32)))))
    else ((some (M3, (0 : Int32)))))
    else ((some (M3, (0 : Int32)))))
    else ((f4_odds fu x27 x22 M).bind fun ⟨M64, r65⟩ =>
    if r65 = (1 : Int32) then ((f4_upper M64).bind fun r68 =>
    if (lg_cmp r68 (0 : Int64)) < 0 then ((some (M64, (0 : Int32))))
    else ((f4_lower M64).bind fun r71 =>
    if (lg_cmp r71 (1 : Int64)) < 0 then ((some (M64, (0 : Int32))))
    else ((f4_upper M64).bind fun r74 =>
    (f4_lower M64).bind fun r76 =>
    if 0 < (lg_cmp r74 r76) then ((some (M64, (0 : Int32))))
    else ((f4_upper M64).bind fun r79 =>
    (f4_lower M64).bind fun r81 =>
    if 0 < (lg_cmp (r79 * x25) (x23 * r81)) then ((some (M64, (0 : Int32))))
    else (if x27 = 0 then ((f4_upper M64).bind fun r85 =>
    (f4_lower M64).bind fun r87 =>
    if (lg_cmp r85 r87) = 0 then ((f9_law_2547 sL sx fu (f9_law_2462 sL sx fu f) x5 x7 x8 x9 x10 x11 x15 x22 x27 M64))
    else ((some (M64, (0 : Int32)))))
    else ((f9_law_2547 sL sx fu (f9_law_2462 sL sx fu f) x5 x7 x8 x9 x10 x11 x15 x22 x27 M64)))))))
    else ((some (M64, (0 : Int32)))))
set_option maxHeartbeats 4000000 in
set_option maxRecDepth 10000 in
theorem w9_lawi_2462 {ad : Nat → Nat} {X : XX} {R : Mem × Int32} {fu : Nat}  (h : Lx layC ad X cL_law RL 30 9 (some .boolean) (R.1) (some (.int R.2)))  : ∀ (f : Nat) (x5 : Int32) (x7 : Int32) (x8 : Int32) (x9 : Int32) (x10 : Int32) (x11 : Int32) (x15 : Int32) (x22 : Int32) (x23 : Int64) (x25 : Int64) (x27 : Int32) (M : Mem), f9_law_2462 (zL X.1) (zX X.1) fu f x5 x7 x8 x9 x10 x11 x15 x22 x23 x25 x27 M = some R → Lp layC ad X M 2462 [(0, .ref (zB X.1)), (1, .ref (ad 28)), (5, .int x5), (7, .int x7), (8, .int x8), (9, .int x9), (10, .int x10), (11, .int x11), (15, .int x15), (22, .int x22), (23, .long x23), (25, .long x25), (27, .int x27)] [] := by
  intro f
  induction f with
  | zero => intro x5 x7 x8 x9 x10 x11 x15 x22 x23 x25 x27 M hF; exact absurd hF (by simp [f9_law_2462])
  | succ f ih =>
    intro x5 x7 x8 x9 x10 x11 x15 x22 x23 x25 x27 M hF
    rw [f9_law_2462] at hF
    refine L_iload (pc := 2462) h 12 rfl dL_law_2462 ?_
    refine L_sipush (pc := 2464) (v := 201) h (by decide) dL_law_2464 ?_
    refine L_icmp_ge (pc := 2467) (tgt := 2625) h dL_law_2467 (by decide) (fun c1 => ?_) (fun c1 => ?_)
    · have hF := itp c1 hF
      refine L_aload_n (pc := 2625) h 1 rfl rfl dL_law_2625 ?_
      refine L_iconst (pc := 2626) (v := 0) h (by decide) dL_law_2626 ?_
      obtain ⟨⟨M3, r4⟩, hc2, hF⟩ := bd hF
      refine L_callV (pc := 2627) (st := []) h [.int (0 : Int32)] cvL_160 (c4_mid (ad := ad) (z := X.1) hc2) rfl rfl lc_28 (by decide) (by decide) (Nat.le_of_ble_eq_true rfl) dL_law_2627 (st1 := [.int r4]) rfl ?_
      refine L_iconst (pc := 2630) (v := 1) h (by decide) dL_law_2630 ?_
      refine L_icmp_ne (pc := 2631) (tgt := 2689) h dL_law_2631 (by decide) (fun c5 => ?_) (fun c5 => ?_)
      · have hF := ifn c5 hF
        refine L_iconst (pc := 2689) (v := 0) h (by decide) dL_law_2689 ?_
        cases hF
        exact L_zreturn (pc := 2690) h rfl zr0 rfl rfl dL_law_2690
      · have hF := itp c5 hF
        refine L_aload_n (pc := 2634) h 1 rfl rfl dL_law_2634 ?_
        obtain ⟨r7, hc6, hF⟩ := bd hF
        refine L_callV (pc := 2635) (st := []) h [] cvL_153 (c4_upper (ad := ad) (z := X.1) hc6) rfl rfl lc_28 (by decide) (by decide) (Nat.le_of_ble_eq_true rfl) dL_law_2635 (st1 := [.long r7]) rfl ?_
        refine L_iload (pc := 2638) h 8 rfl dL_law_2638 ?_
        refine L_i2l (pc := 2640) h dL_law_2640 ?_
        refine L_lcmp (pc := 2641) h dL_law_2641 ?_
        refine L_if_ne (pc := 2642) (tgt := 2689) h dL_law_2642 (by decide) (fun c8 => ?_) (fun c8 => ?_)
        · have hF := ifn c8 hF
          refine L_iconst (pc := 2689) (v := 0) h (by decide) dL_law_2689 ?_
          cases hF
          exact L_zreturn (pc := 2690) h rfl zr0 rfl rfl dL_law_2690
        · have hF := itp c8 hF
          refine L_aload_n (pc := 2645) h 1 rfl rfl dL_law_2645 ?_
          obtain ⟨r10, hc9, hF⟩ := bd hF
          refine L_callV (pc := 2646) (st := []) h [] cvL_157 (c4_lower (ad := ad) (z := X.1) hc9) rfl rfl lc_28 (by decide) (by decide) (Nat.le_of_ble_eq_true rfl) dL_law_2646 (st1 := [.long r10]) rfl ?_
          refine L_lconst (pc := 2649) (v := 1) h (by decide) dL_law_2649 ?_
          refine L_lcmp (pc := 2650) h dL_law_2650 ?_
          refine L_if_ne (pc := 2651) (tgt := 2689) h dL_law_2651 (by decide) (fun c11 => ?_) (fun c11 => ?_)
          · have hF := ifn c11 hF
            refine L_iconst (pc := 2689) (v := 0) h (by decide) dL_law_2689 ?_
            cases hF
            exact L_zreturn (pc := 2690) h rfl zr0 rfl rfl dL_law_2690
          · have hF := itp c11 hF
            refine L_aload_n (pc := 2654) h 1 rfl rfl dL_law_2654 ?_
            refine L_iload (pc := 2655) h 9 rfl dL_law_2655 ?_
            obtain ⟨⟨M13, r14⟩, hc12, hF⟩ := bd hF
            refine L_callV (pc := 2657) (st := []) h [.int x22] cvL_160 (c4_mid (ad := ad) (z := X.1) hc12) rfl rfl lc_28 (by decide) (by decide) (Nat.le_of_ble_eq_true rfl) dL_law_2657 (st1 := [.int r14]) rfl ?_
            refine L_iconst (pc := 2660) (v := 1) h (by decide) dL_law_2660 ?_
            refine L_icmp_ne (pc := 2661) (tgt := 2689) h dL_law_2661 (by decide) (fun c15 => ?_) (fun c15 => ?_)
            · have hF := ifn c15 hF
              refine L_iconst (pc := 2689) (v := 0) h (by decide) dL_law_2689 ?_
              cases hF
              exact L_zreturn (pc := 2690) h rfl zr0 rfl rfl dL_law_2690
            · have hF := itp c15 hF
              refine L_aload_n (pc := 2664) h 1 rfl rfl dL_law_2664 ?_
              obtain ⟨r17, hc16, hF⟩ := bd hF
              refine L_callV (pc := 2665) (st := []) h [] cvL_153 (c4_upper (ad := ad) (z := X.1) hc16) rfl rfl lc_28 (by decide) (by decide) (Nat.le_of_ble_eq_true rfl) dL_law_2665 (st1 := [.long r17]) rfl ?_
              refine L_lconst (pc := 2668) (v := 0) h (by decide) dL_law_2668 ?_
              refine L_lcmp (pc := 2669) h dL_law_2669 ?_
              refine L_if_lt (pc := 2670) (tgt := 2689) h dL_law_2670 (by decide) (fun c18 => ?_) (fun c18 => ?_)
              · have hF := itp c18 hF
                refine L_iconst (pc := 2689) (v := 0) h (by decide) dL_law_2689 ?_
                cases hF
                exact L_zreturn (pc := 2690) h rfl zr0 rfl rfl dL_law_2690
              · have hF := ifn c18 hF
                refine L_aload_n (pc := 2673) h 1 rfl rfl dL_law_2673 ?_
                obtain ⟨r20, hc19, hF⟩ := bd hF
                refine L_callV (pc := 2674) (st := []) h [] cvL_153 (c4_upper (ad := ad) (z := X.1) hc19) rfl rfl lc_28 (by decide) (by decide) (Nat.le_of_ble_eq_true rfl) dL_law_2674 (st1 := [.long r20]) rfl ?_
                refine L_iload (pc := 2677) h 8 rfl dL_law_2677 ?_
                refine L_i2l (pc := 2679) h dL_law_2679 ?_
                refine L_aload_n (pc := 2680) h 1 rfl rfl dL_law_2680 ?_
                obtain ⟨r22, hc21, hF⟩ := bd hF
                refine L_callV (pc := 2681) (st := [.long x15.toInt64, .long r20]) h [] cvL_157 (c4_lower (ad := ad) (z := X.1) hc21) rfl rfl lc_28 (by decide) (by decide) (Nat.le_of_ble_eq_true rfl) dL_law_2681 (st1 := [.long r22, .long x15.toInt64, .long r20]) rfl ?_
                refine L_lmul (pc := 2684) h dL_law_2684 ?_
                refine L_lcmp (pc := 2685) h dL_law_2685 ?_
                refine L_if_le (pc := 2686) (tgt := 2691) h dL_law_2686 (by decide) (fun c23 => ?_) (fun c23 => ?_)
                · have hF := itp c23 hF
                  refine L_iconst (pc := 2691) (v := 1) h (by decide) dL_law_2691 ?_
                  refine L_aload_n (pc := 2692) h 0 rfl rfl dL_law_2692 ?_
                  refine L_bipush (pc := 2693) (v := 44) h (by decide) dL_law_2693 ?_
                  obtain ⟨r25, hc24, hF⟩ := bd hF
                  refine L_callS (pc := 2695) (st := [.int (1 : Int32)]) h [.ref (zB X.1), .int (44 : Int32)] csL_15 (c9_cell_S (ad := ad) (z := X.1) hc24) rfl rfl (by decide) (by decide) (Nat.le_of_ble_eq_true rfl) dL_law_2695 (st1 := [.int r25, .int (1 : Int32)]) rfl ?_
                  refine L_bipush (pc := 2698) (v := 18) h (by decide) dL_law_2698 ?_
                  obtain ⟨r27, hc26, hF⟩ := bd hF
                  refine L_callS (pc := 2700) (st := [.int (1 : Int32)]) h [.int r25, .int (18 : Int32)] csL_21 (c9_part (ad := ad) (z := X.1) (M := M13) hc26) rfl rfl (by decide) (by decide) (Nat.le_of_ble_eq_true rfl) dL_law_2700 (st1 := [.int r27, .int (1 : Int32)]) rfl ?_
                  refine L_iadd (pc := 2703) h dL_law_2703 ?_
                  obtain ⟨v28, hv28, hF⟩ := nm_e2 hF
                  refine L_istore (pc := 2704) (lv' := [(27, .int v28), (0, .ref (zB X.1)), (1, .ref (ad 28)), (5, .int x5), (7, .int x7), (8, .int x8), (9, .int x9), (10, .int x10), (11, .int x11), (15, .int x15), (22, .int x22), (23, .long x23), (25, .long x25)]) h hv28 (by decide) rfl dL_law_2704 ?_
                  refine L_iconst (pc := 2706) (v := 1) h (by decide) dL_law_2706 ?_
                  refine L_aload_n (pc := 2707) h 1 rfl rfl dL_law_2707 ?_
                  refine L_bipush (pc := 2708) (v := 45) h (by decide) dL_law_2708 ?_
                  obtain ⟨r30, hc29, hF⟩ := bd hF
                  refine L_callS (pc := 2710) (st := [.int (1 : Int32)]) h [.ref (zB X.1), .int (45 : Int32)] csL_15 (c9_cell_S (ad := ad) (z := X.1) hc29) rfl rfl (by decide) (by decide) (Nat.le_of_ble_eq_true rfl) dL_law_2710 (st1 := [.int r30, .int (1 : Int32)]) rfl ?_
                  refine L_ldc (pc := 2713) h kiL_163 dL_law_2713 ?_
                  obtain ⟨r32, hc31, hF⟩ := bd hF
                  refine L_callS (pc := 2715) (st := [.int (1 : Int32)]) h [.int r30, .int (2147483646 : Int32)] csL_21 (c9_part (ad := ad) (z := X.1) (M := M13) hc31) rfl rfl (by decide) (by decide) (Nat.le_of_ble_eq_true rfl) dL_law_2715 (st1 := [.int r32, .int (1 : Int32)]) rfl ?_
                  refine L_iadd (pc := 2718) h dL_law_2718 ?_
                  obtain ⟨v33, hv33, hF⟩ := nm_e2 hF
                  refine L_istore (pc := 2719) (lv' := [(28, .int v33), (27, .int v28), (0, .ref (zB X.1)), (1, .ref (ad 28)), (5, .int x5), (7, .int x7), (8, .int x8), (9, .int x9), (10, .int x10), (11, .int x11), (15, .int x15), (22, .int x22), (23, .long x23), (25, .long x25)]) h hv33 (by decide) rfl dL_law_2719 ?_
                  refine L_aload_n (pc := 2721) h 3 rfl rfl dL_law_2721 ?_
                  refine L_iload (pc := 2722) h 1 rfl dL_law_2722 ?_
                  refine L_iload (pc := 2724) h 0 rfl dL_law_2724 ?_
                  obtain ⟨⟨M35, r36⟩, hc34, hF⟩ := bd hF
                  refine L_callV (pc := 2726) (st := []) h [.int v28, .int v33] cvL_164 (c4_lots (ad := ad) (z := X.1) hc34) rfl rfl lc_28 (by decide) (by decide) (Nat.le_of_ble_eq_true rfl) dL_law_2726 (st1 := [.int r36]) rfl ?_
                  refine L_istore (pc := 2729) (lv' := [(29, .int r36), (28, .int v33), (27, .int v28), (0, .ref (zB X.1)), (1, .ref (ad 28)), (5, .int x5), (7, .int x7), (8, .int x8), (9, .int x9), (10, .int x10), (11, .int x11), (15, .int x15), (22, .int x22), (23, .long x23), (25, .long x25)]) h rfl (by decide) rfl dL_law_2729 ?_
                  refine L_iload (pc := 2731) h 6 rfl dL_law_2731 ?_
                  refine L_iload (pc := 2733) h 2 rfl dL_law_2733 ?_
                  refine L_iadd (pc := 2735) h dL_law_2735 ?_
                  refine L_bipush (pc := 2736) (v := 40) h (by decide) dL_law_2736 ?_
                  refine L_icmp_le (pc := 2738) (tgt := 2751) h dL_law_2738 (by decide) (fun c37 => ?_) (fun c37 => ?_)
                  · have hF := itp c37 hF
                    refine L_iload (pc := 2751) h 0 rfl dL_law_2751 ?_
                    refine L_aload_n (pc := 2753) h 4 rfl rfl dL_law_2753 ?_
                    refine L_iconst (pc := 2754) (v := 1) h (by decide) dL_law_2754 ?_
                    obtain ⟨r39, hc38, hF⟩ := bd hF
                    refine L_callV (pc := 2755) (st := [.int r36]) h [.int (1 : Int32)] cvL_42 (c4_count (ad := ad) (z := X.1) hc38) rfl rfl lc_28 (by decide) (by decide) (Nat.le_of_ble_eq_true rfl) dL_law_2755 (st1 := [.int r39, .int r36]) rfl ?_
                    refine L_icmp_ne (pc := 2758) (tgt := 2828) h dL_law_2758 (by decide) (fun c40 => ?_) (fun c40 => ?_)
                    · have hF := ifn c40 hF
                      refine L_iconst (pc := 2828) (v := 0) h (by decide) dL_law_2828 ?_
                      cases hF
                      exact L_zreturn (pc := 2829) h rfl zr0 rfl rfl dL_law_2829
                    · have hF := itp c40 hF
                      refine L_aload_n (pc := 2761) h 4 rfl rfl dL_law_2761 ?_
                      refine L_iconst (pc := 2762) (v := 2) h (by decide) dL_law_2762 ?_
                      obtain ⟨r42, hc41, hF⟩ := bd hF
                      refine L_callV (pc := 2763) (st := []) h [.int (2 : Int32)] cvL_42 (c4_count (ad := ad) (z := X.1) hc41) rfl rfl lc_28 (by decide) (by decide) (Nat.le_of_ble_eq_true rfl) dL_law_2763 (st1 := [.int r42]) rfl ?_
                      refine L_iload (pc := 2766) h 6 rfl dL_law_2766 ?_
                      refine L_iload (pc := 2768) h 2 rfl dL_law_2768 ?_
                      refine L_iadd (pc := 2770) h dL_law_2770 ?_
                      refine L_icmp_ne (pc := 2771) (tgt := 2828) h dL_law_2771 (by decide) (fun c43 => ?_) (fun c43 => ?_)
                      · have hF := ifn c43 hF
                        refine L_iconst (pc := 2828) (v := 0) h (by decide) dL_law_2828 ?_
                        cases hF
                        exact L_zreturn (pc := 2829) h rfl zr0 rfl rfl dL_law_2829
                      · have hF := itp c43 hF
                        refine L_aload_n (pc := 2774) h 4 rfl rfl dL_law_2774 ?_
                        refine L_iconst (pc := 2775) (v := 5) h (by decide) dL_law_2775 ?_
                        obtain ⟨r45, hc44, hF⟩ := bd hF
                        refine L_callV (pc := 2776) (st := []) h [.int (5 : Int32)] cvL_42 (c4_count (ad := ad) (z := X.1) hc44) rfl rfl lc_28 (by decide) (by decide) (Nat.le_of_ble_eq_true rfl) dL_law_2776 (st1 := [.int r45]) rfl ?_
                        refine L_iload (pc := 2779) h 10 rfl dL_law_2779 ?_
                        refine L_icmp_ne (pc := 2781) (tgt := 2828) h dL_law_2781 (by decide) (fun c46 => ?_) (fun c46 => ?_)
                        · have hF := ifn c46 hF
                          refine L_iconst (pc := 2828) (v := 0) h (by decide) dL_law_2828 ?_
                          cases hF
                          exact L_zreturn (pc := 2829) h rfl zr0 rfl rfl dL_law_2829
                        · have hF := itp c46 hF
                          refine L_aload_n (pc := 2784) h 4 rfl rfl dL_law_2784 ?_
                          refine L_iload (pc := 2785) h 6 rfl dL_law_2785 ?_
                          obtain ⟨⟨M48, r49⟩, hc47, hF⟩ := bd hF
                          refine L_callV (pc := 2787) (st := []) h [.int x7] cvL_107 (c4_undo (ad := ad) (z := X.1) hc47) rfl rfl lc_28 (by decide) (by decide) (Nat.le_of_ble_eq_true rfl) dL_law_2787 (st1 := [.int r49]) rfl ?_
                          refine L_iload (pc := 2790) h 2 rfl dL_law_2790 ?_
                          refine L_icmp_ne (pc := 2792) (tgt := 2828) h dL_law_2792 (by decide) (fun c50 => ?_) (fun c50 => ?_)
                          · have hF := ifn c50 hF
                            refine L_iconst (pc := 2828) (v := 0) h (by decide) dL_law_2828 ?_
                            cases hF
                            exact L_zreturn (pc := 2829) h rfl zr0 rfl rfl dL_law_2829
                          · have hF := itp c50 hF
                            refine L_aload_n (pc := 2795) h 4 rfl rfl dL_law_2795 ?_
                            refine L_iconst (pc := 2796) (v := 1) h (by decide) dL_law_2796 ?_
                            obtain ⟨r52, hc51, hF⟩ := bd hF
                            refine L_callV (pc := 2797) (st := []) h [.int (1 : Int32)] cvL_42 (c4_count (ad := ad) (z := X.1) hc51) rfl rfl lc_28 (by decide) (by decide) (Nat.le_of_ble_eq_true rfl) dL_law_2797 (st1 := [.int r52]) rfl ?_
                            refine L_iload (pc := 2800) h 7 rfl dL_law_2800 ?_
                            refine L_icmp_ne (pc := 2802) (tgt := 2828) h dL_law_2802 (by decide) (fun c53 => ?_) (fun c53 => ?_)
                            · have hF := ifn c53 hF
                              refine L_iconst (pc := 2828) (v := 0) h (by decide) dL_law_2828 ?_
                              cases hF
                              exact L_zreturn (pc := 2829) h rfl zr0 rfl rfl dL_law_2829
                            · have hF := itp c53 hF
                              refine L_aload_n (pc := 2805) h 4 rfl rfl dL_law_2805 ?_
                              refine L_iload (pc := 2806) h 2 rfl dL_law_2806 ?_
                              refine L_iload (pc := 2808) h 1 rfl dL_law_2808 ?_
                              obtain ⟨⟨M55, r56⟩, hc54, hF⟩ := bd hF
                              refine L_callV (pc := 2810) (st := []) h [.int v28, .int v33] cvL_164 (c4_lots (ad := ad) (z := X.1) hc54) rfl rfl lc_28 (by decide) (by decide) (Nat.le_of_ble_eq_true rfl) dL_law_2810 (st1 := [.int r56]) rfl ?_
                              refine L_iload (pc := 2813) h 0 rfl dL_law_2813 ?_
                              refine L_icmp_ne (pc := 2815) (tgt := 2828) h dL_law_2815 (by decide) (fun c57 => ?_) (fun c57 => ?_)
                              · have hF := ifn c57 hF
                                refine L_iconst (pc := 2828) (v := 0) h (by decide) dL_law_2828 ?_
                                cases hF
                                exact L_zreturn (pc := 2829) h rfl zr0 rfl rfl dL_law_2829
                              · have hF := itp c57 hF
                                refine L_aload_n (pc := 2818) h 4 rfl rfl dL_law_2818 ?_
                                refine L_iconst (pc := 2819) (v := 1) h (by decide) dL_law_2819 ?_
                                obtain ⟨⟨M59, r60⟩, hc58, hF⟩ := bd hF
                                refine L_callV (pc := 2820) (st := []) h [.int (1 : Int32)] cvL_113 (c4_on (ad := ad) (z := X.1) hc58) rfl rfl lc_28 (by decide) (by decide) (Nat.le_of_ble_eq_true rfl) dL_law_2820 (st1 := [.int r60]) rfl ?_
                                refine L_iload (pc := 2823) h 6 rfl dL_law_2823 ?_
                                refine L_icmp_eq (pc := 2825) (tgt := 2830) h dL_law_2825 (by decide) (fun c61 => ?_) (fun c61 => ?_)
                                · have hF := itp c61 hF
                                  exact Lp_sub (nX := 0) (lv' := [(1, .ref (ad 28)), (5, .int x5), (7, .int x7), (8, .int x8), (9, .int x9), (10, .int x10)]) [4, 5, 6, 7, 8, 9] rfl (w9_law_2830 h  (hF := hF))
                                · have hF := ifn c61 hF
                                  refine L_iconst (pc := 2828) (v := 0) h (by decide) dL_law_2828 ?_
                                  cases hF
                                  exact L_zreturn (pc := 2829) h rfl zr0 rfl rfl dL_law_2829
                  · have hF := ifn c37 hF
                    refine L_iload (pc := 2741) h 0 rfl dL_law_2741 ?_
                    refine L_bipush (pc := 2743) (v := (-2)) h (by decide) dL_law_2743 ?_
                    refine L_icmp_eq (pc := 2745) (tgt := 2830) h dL_law_2745 (by decide) (fun c62 => ?_) (fun c62 => ?_)
                    · have hF := itp c62 hF
                      exact Lp_sub (nX := 0) (lv' := [(1, .ref (ad 28)), (5, .int x5), (7, .int x7), (8, .int x8), (9, .int x9), (10, .int x10)]) [4, 5, 6, 7, 8, 9] rfl (w9_law_2830 h  (hF := hF))
                    · have hF := ifn c62 hF
                      refine L_goto (pc := 2748) (tgt := 2828) h dL_law_2748 (by decide) ?_
                      refine L_iconst (pc := 2828) (v := 0) h (by decide) dL_law_2828 ?_
                      cases hF
                      exact L_zreturn (pc := 2829) h rfl zr0 rfl rfl dL_law_2829
                · have hF := ifn c23 hF
                  refine L_iconst (pc := 2689) (v := 0) h (by decide) dL_law_2689 ?_
                  cases hF
                  exact L_zreturn (pc := 2690) h rfl zr0 rfl rfl dL_law_2690
    · have hF := ifn c1 hF
      refine L_aload_n (pc := 2470) h 1 rfl rfl dL_law_2470 ?_
      refine L_iload (pc := 2471) h 12 rfl dL_law_2471 ?_
      refine L_iload (pc := 2473) h 9 rfl dL_law_2473 ?_
      obtain ⟨⟨M64, r65⟩, hc63, hF⟩ := bd hF
      refine L_callV (pc := 2475) (st := []) h [.int x27, .int x22] cvL_150 (c4_odds (ad := ad) (z := X.1) hc63) rfl rfl lc_28 (by decide) (by decide) (Nat.le_of_ble_eq_true rfl) dL_law_2475 (st1 := [.int r65]) rfl ?_
      refine L_iconst (pc := 2478) (v := 1) h (by decide) dL_law_2478 ?_
      refine L_icmp_ne (pc := 2479) (tgt := 2563) h dL_law_2479 (by decide) (fun c66 => ?_) (fun c66 => ?_)
      · have hF := ifn c66 hF
        refine L_iconst (pc := 2563) (v := 0) h (by decide) dL_law_2563 ?_
        cases hF
        exact L_zreturn (pc := 2564) h rfl zr0 rfl rfl dL_law_2564
      · have hF := itp c66 hF
        refine L_aload_n (pc := 2482) h 1 rfl rfl dL_law_2482 ?_
        obtain ⟨r68, hc67, hF⟩ := bd hF
        refine L_callV (pc := 2483) (st := []) h [] cvL_153 (c4_upper (ad := ad) (z := X.1) hc67) rfl rfl lc_28 (by decide) (by decide) (Nat.le_of_ble_eq_true rfl) dL_law_2483 (st1 := [.long r68]) rfl ?_
        refine L_lconst (pc := 2486) (v := 0) h (by decide) dL_law_2486 ?_
        refine L_lcmp (pc := 2487) h dL_law_2487 ?_
        refine L_if_lt (pc := 2488) (tgt := 2563) h dL_law_2488 (by decide) (fun c69 => ?_) (fun c69 => ?_)
        · have hF := itp c69 hF
          refine L_iconst (pc := 2563) (v := 0) h (by decide) dL_law_2563 ?_
          cases hF
          exact L_zreturn (pc := 2564) h rfl zr0 rfl rfl dL_law_2564
        · have hF := ifn c69 hF
          refine L_aload_n (pc := 2491) h 1 rfl rfl dL_law_2491 ?_
          obtain ⟨r71, hc70, hF⟩ := bd hF
          refine L_callV (pc := 2492) (st := []) h [] cvL_157 (c4_lower (ad := ad) (z := X.1) hc70) rfl rfl lc_28 (by decide) (by decide) (Nat.le_of_ble_eq_true rfl) dL_law_2492 (st1 := [.long r71]) rfl ?_
          refine L_lconst (pc := 2495) (v := 1) h (by decide) dL_law_2495 ?_
          refine L_lcmp (pc := 2496) h dL_law_2496 ?_
          refine L_if_lt (pc := 2497) (tgt := 2563) h dL_law_2497 (by decide) (fun c72 => ?_) (fun c72 => ?_)
          · have hF := itp c72 hF
            refine L_iconst (pc := 2563) (v := 0) h (by decide) dL_law_2563 ?_
            cases hF
            exact L_zreturn (pc := 2564) h rfl zr0 rfl rfl dL_law_2564
          · have hF := ifn c72 hF
            refine L_aload_n (pc := 2500) h 1 rfl rfl dL_law_2500 ?_
            obtain ⟨r74, hc73, hF⟩ := bd hF
            refine L_callV (pc := 2501) (st := []) h [] cvL_153 (c4_upper (ad := ad) (z := X.1) hc73) rfl rfl lc_28 (by decide) (by decide) (Nat.le_of_ble_eq_true rfl) dL_law_2501 (st1 := [.long r74]) rfl ?_
            refine L_aload_n (pc := 2504) h 1 rfl rfl dL_law_2504 ?_
            obtain ⟨r76, hc75, hF⟩ := bd hF
            refine L_callV (pc := 2505) (st := [.long r74]) h [] cvL_157 (c4_lower (ad := ad) (z := X.1) hc75) rfl rfl lc_28 (by decide) (by decide) (Nat.le_of_ble_eq_true rfl) dL_law_2505 (st1 := [.long r76, .long r74]) rfl ?_
            refine L_lcmp (pc := 2508) h dL_law_2508 ?_
            refine L_if_gt (pc := 2509) (tgt := 2563) h dL_law_2509 (by decide) (fun c77 => ?_) (fun c77 => ?_)
            · have hF := itp c77 hF
              refine L_iconst (pc := 2563) (v := 0) h (by decide) dL_law_2563 ?_
              cases hF
              exact L_zreturn (pc := 2564) h rfl zr0 rfl rfl dL_law_2564
            · have hF := ifn c77 hF
              refine L_aload_n (pc := 2512) h 1 rfl rfl dL_law_2512 ?_
              obtain ⟨r79, hc78, hF⟩ := bd hF
              refine L_callV (pc := 2513) (st := []) h [] cvL_153 (c4_upper (ad := ad) (z := X.1) hc78) rfl rfl lc_28 (by decide) (by decide) (Nat.le_of_ble_eq_true rfl) dL_law_2513 (st1 := [.long r79]) rfl ?_
              refine L_lload (pc := 2516) h 11 rfl dL_law_2516 ?_
              refine L_lmul (pc := 2518) h dL_law_2518 ?_
              refine L_lload (pc := 2519) h 10 rfl dL_law_2519 ?_
              refine L_aload_n (pc := 2521) h 1 rfl rfl dL_law_2521 ?_
              obtain ⟨r81, hc80, hF⟩ := bd hF
              refine L_callV (pc := 2522) (st := [.long x23, .long (r79 * x25)]) h [] cvL_157 (c4_lower (ad := ad) (z := X.1) hc80) rfl rfl lc_28 (by decide) (by decide) (Nat.le_of_ble_eq_true rfl) dL_law_2522 (st1 := [.long r81, .long x23, .long (r79 * x25)]) rfl ?_
              refine L_lmul (pc := 2525) h dL_law_2525 ?_
              refine L_lcmp (pc := 2526) h dL_law_2526 ?_
              refine L_if_gt (pc := 2527) (tgt := 2563) h dL_law_2527 (by decide) (fun c82 => ?_) (fun c82 => ?_)
              · have hF := itp c82 hF
                refine L_iconst (pc := 2563) (v := 0) h (by decide) dL_law_2563 ?_
                cases hF
                exact L_zreturn (pc := 2564) h rfl zr0 rfl rfl dL_law_2564
              · have hF := ifn c82 hF
                refine L_iload (pc := 2530) h 12 rfl dL_law_2530 ?_
                refine L_if_ne (pc := 2532) (tgt := 2547) h dL_law_2532 (by decide) (fun c83 => ?_) (fun c83 => ?_)
                · have hF := ifn c83 hF
                  exact Lp_sub (nX := 0) (lv' := [(0, .ref (zB X.1)), (1, .ref (ad 28)), (5, .int x5), (7, .int x7), (8, .int x8), (9, .int x9), (10, .int x10), (11, .int x11), (15, .int x15), (22, .int x22), (27, .int x27)]) [0, 1, 2, 3, 4, 5, 6, 7, 8, 9, 12] rfl (w9_law_2547 h (hk2462 := fun a0 a1 a2 a3 a4 a5 a6 a7 a8 a9 a10 a11 hF => ih a0 a1 a2 a3 a4 a5 a6 a7 a8 a9 a10 a11 hF) (hF := hF))
                · have hF := itp c83 hF
                  refine L_aload_n (pc := 2535) h 1 rfl rfl dL_law_2535 ?_
                  obtain ⟨r85, hc84, hF⟩ := bd hF
                  refine L_callV (pc := 2536) (st := []) h [] cvL_153 (c4_upper (ad := ad) (z := X.1) hc84) rfl rfl lc_28 (by decide) (by decide) (Nat.le_of_ble_eq_true rfl) dL_law_2536 (st1 := [.long r85]) rfl ?_
                  refine L_aload_n (pc := 2539) h 1 rfl rfl dL_law_2539 ?_
                  obtain ⟨r87, hc86, hF⟩ := bd hF
                  refine L_callV (pc := 2540) (st := [.long r85]) h [] cvL_157 (c4_lower (ad := ad) (z := X.1) hc86) rfl rfl lc_28 (by decide) (by decide) (Nat.le_of_ble_eq_true rfl) dL_law_2540 (st1 := [.long r87, .long r85]) rfl ?_
                  refine L_lcmp (pc := 2543) h dL_law_2543 ?_
                  refine L_if_ne (pc := 2544) (tgt := 2563) h dL_law_2544 (by decide) (fun c88 => ?_) (fun c88 => ?_)
                  · have hF := ifn c88 hF
                    refine L_iconst (pc := 2563) (v := 0) h (by decide) dL_law_2563 ?_
                    cases hF
                    exact L_zreturn (pc := 2564) h rfl zr0 rfl rfl dL_law_2564
                  · have hF := itp c88 hF
                    exact Lp_sub (nX := 0) (lv' := [(0, .ref (zB X.1)), (1, .ref (ad 28)), (5, .int x5), (7, .int x7), (8, .int x8), (9, .int x9), (10, .int x10), (11, .int x11), (15, .int x15), (22, .int x22), (27, .int x27)]) [0, 1, 2, 3, 4, 5, 6, 7, 8, 9, 12] rfl (w9_law_2547 h (hk2462 := fun a0 a1 a2 a3 a4 a5 a6 a7 a8 a9 a10 a11 hF => ih a0 a1 a2 a3 a4 a5 a6 a7 a8 a9 a10 a11 hF) (hF := hF))
theorem w9_law_2462 {ad : Nat → Nat} {X : XX} {R : Mem × Int32} {fu : Nat}  (h : Lx layC ad X cL_law RL 30 9 (some .boolean) (R.1) (some (.int R.2)))  {f : Nat} {x5 : Int32} {x7 : Int32} {x8 : Int32} {x9 : Int32} {x10 : Int32} {x11 : Int32} {x15 : Int32} {x22 : Int32} {x23 : Int64} {x25 : Int64} {x27 : Int32} {M : Mem} (hF : f9_law_2462 (zL X.1) (zX X.1) fu f x5 x7 x8 x9 x10 x11 x15 x22 x23 x25 x27 M = some R) : Lp layC ad X M 2462 [(0, .ref (zB X.1)), (1, .ref (ad 28)), (5, .int x5), (7, .int x7), (8, .int x8), (9, .int x9), (10, .int x10), (11, .int x11), (15, .int x15), (22, .int x22), (23, .long x23), (25, .long x25), (27, .int x27)] [] := w9_lawi_2462 h  f _ _ _ _ _ _ _ _ _ _ _ _ hF
def f9_law_2172 (sL : Nat) (sx : Nat → Int32) (fu : Nat) : Nat → Int32 → Int32 → Int32 → Int32 → Int32 → Int32 → Int32 → Int32 → Int32 → Mem → Option (Mem × Int32)
  | 0 => fun _ _ _ _ _ _ _ _ _ _ => none
  | f + 1 => fun x4 x5 x7 x8 x9 x10 x11 x15 x22 M =>
    if x4 ≤ x22 then ((f4_duel M fu (0 : Int32)).bind fun r3 =>
    if r3 = (500 : Int32) then ((f4_duel M fu (1 : Int32)).bind fun r6 =>
    if r6 < (500 : Int32) then ((some (M, (0 : Int32))))
    else ((f4_duel M fu (2 : Int32)).bind fun r9 =>
    (f4_duel M fu (1 : Int32)).bind fun r11 =>
    if r11 < r9 then ((some (M, (0 : Int32))))
    else ((f4_duel M fu (3 : Int32)).bind fun r14 =>
    (f4_duel M fu (2 : Int32)).bind fun r16 =>
    if r14 < r16 then ((some (M, (0 : Int32))))
    else ((f4_duel M fu (4 : Int32)).bind fun r19 =>
    (f4_duel M fu (3 : Int32)).bind fun r21 =>
    if r19 ≤ r21 then ((f9_cell_S sL sx M (43 : Int32)).bind fun r24 =>
    (f9_part r24 (13 : Int32)).bind fun r26 =>
    (f9_law_2462 sL sx fu fu x5 x7 x8 x9 x10 x11 x15 r26 (1 : Int64) (1 : Int64) (0 : Int32) M))
    else ((some (M, (0 : Int32))))))))
    else ((some (M, (0 : Int32)))))
    else ((rmI x22 (3 : Int32)).bind fun v27 =>
    (f9_cell_S sL sx M ((40 : Int32) + v27)).bind fun r29 =>
    (f9_part r29 (10 : Int32)).bind fun r31 =>
    (f4_worth x22 r31 M).bind fun ⟨M33, r34⟩ =>
    (f9_told_28 M33 r34).bind fun r36 =>
    (f4_row fu (3 : Int32) (2 : Int32) M33).bind fun ⟨M38, r39⟩ =>
    if r39 = (2 : Int32) then ((f4_lay (3 : Int32) (0 : Int32) r31 M38).bind fun ⟨M42, r43⟩ =>
    if r43 = (1 : Int32) then ((f4_lay (3 : Int32) (1 : Int32) r36 M42).bind fun ⟨M46, r47⟩ =>
    if r47 = (1 : Int32) then ((f4_kinds fu x22 (3 : Int32) M46).bind fun ⟨M50, r51⟩ =>
    (f4_test fu x22 (3 : Int32) M50).bind fun ⟨M53, r54⟩ =>
    (f4_asked M53).bind fun r56 =>
    (rd M53 47 33 ((1 : Int32) + x22)).bind fun v57 =>
    if ((r51 >>> (v57 &&& 31)) &&& (1 : Int32)) = (1 : Int32) then (if (63 : Int32) < r51 then ((some (M53, (0 : Int32))))
    else (if r54 < 0 then ((some (M53, (0 : Int32))))
    else (if (9 : Int32) < r54 then ((some (M53, (0 : Int32))))
    else (if r56 < (1 : Int32) then ((some (M53, (0 : Int32))))
    else ((f9_many fu r51).bind fun r64 =>
    if r64 < r56 then ((some (M53, (0 : Int32))))
    else ((f4_lucks M53 fu x22 r36).bind fun r67 =>
    if ((r67 >>> (r31 &&& 31)) &&& (1 : Int32)) = (1 : Int32) then ((rd M53 47 33 ((25 : Int32) + x22)).bind fun v69 =>
    (f4_worth x22 v69 M53).bind fun ⟨M71, r72⟩ =>
    (f9_told_28 M71 r72).bind fun r74 =>
    (f4_pin x22 (5 : Int32) M71).bind fun ⟨M76, r77⟩ =>
    (f9_told_28 M76 r77).bind fun r79 =>
    if r74 = r79 then (nm (x22 + (1 : Int32)) fun v81 =>
    ((f9_law_2172 sL sx fu f) x4 x5 x7 x8 x9 x10 x11 x15 v81 M76))
    else ((some (M76, (0 : Int32)))))
    else ((some (M53, (0 : Int32))))))))))
    else ((some (M53, (0 : Int32)))))
    else ((some (M46, (0 : Int32)))))
    else ((some (M42, (0 : Int32)))))
    else ((some (M38, (0 : Int32)))))
set_option maxHeartbeats 4000000 in
set_option maxRecDepth 10000 in
theorem w9_lawi_2172 {ad : Nat → Nat} {X : XX} {R : Mem × Int32} {fu : Nat}  (h : Lx layC ad X cL_law RL 30 9 (some .boolean) (R.1) (some (.int R.2)))  : ∀ (f : Nat) (x4 : Int32) (x5 : Int32) (x7 : Int32) (x8 : Int32) (x9 : Int32) (x10 : Int32) (x11 : Int32) (x15 : Int32) (x22 : Int32) (M : Mem), f9_law_2172 (zL X.1) (zX X.1) fu f x4 x5 x7 x8 x9 x10 x11 x15 x22 M = some R → Lp layC ad X M 2172 [(0, .ref (zB X.1)), (1, .ref (ad 28)), (2, .ref (ad 47)), (4, .int x4), (5, .int x5), (7, .int x7), (8, .int x8), (9, .int x9), (10, .int x10), (11, .int x11), (15, .int x15), (22, .int x22)] [] := by
  intro f
  induction f with
  | zero => intro x4 x5 x7 x8 x9 x10 x11 x15 x22 M hF; exact absurd hF (by simp [f9_law_2172])
  | succ f ih =>
    intro x4 x5 x7 x8 x9 x10 x11 x15 x22 M hF
    rw [f9_law_2172] at hF
    refine L_iload (pc := 2172) h 11 rfl dL_law_2172 ?_
    refine L_iload (pc := 2174) h 3 rfl dL_law_2174 ?_
    refine L_icmp_ge (pc := 2176) (tgt := 2377) h dL_law_2176 (by decide) (fun c1 => ?_) (fun c1 => ?_)
    · have hF := itp c1 hF
      refine L_aload_n (pc := 2377) h 1 rfl rfl dL_law_2377 ?_
      refine L_iconst (pc := 2378) (v := 0) h (by decide) dL_law_2378 ?_
      obtain ⟨r3, hc2, hF⟩ := bd hF
      refine L_callV (pc := 2379) (st := []) h [.int (0 : Int32)] cvL_147 (c4_duel (ad := ad) (z := X.1) hc2) rfl rfl lc_28 (by decide) (by decide) (Nat.le_of_ble_eq_true rfl) dL_law_2379 (st1 := [.int r3]) rfl ?_
      refine L_sipush (pc := 2382) (v := 500) h (by decide) dL_law_2382 ?_
      refine L_icmp_ne (pc := 2385) (tgt := 2438) h dL_law_2385 (by decide) (fun c4 => ?_) (fun c4 => ?_)
      · have hF := ifn c4 hF
        refine L_iconst (pc := 2438) (v := 0) h (by decide) dL_law_2438 ?_
        cases hF
        exact L_zreturn (pc := 2439) h rfl zr0 rfl rfl dL_law_2439
      · have hF := itp c4 hF
        refine L_aload_n (pc := 2388) h 1 rfl rfl dL_law_2388 ?_
        refine L_iconst (pc := 2389) (v := 1) h (by decide) dL_law_2389 ?_
        obtain ⟨r6, hc5, hF⟩ := bd hF
        refine L_callV (pc := 2390) (st := []) h [.int (1 : Int32)] cvL_147 (c4_duel (ad := ad) (z := X.1) hc5) rfl rfl lc_28 (by decide) (by decide) (Nat.le_of_ble_eq_true rfl) dL_law_2390 (st1 := [.int r6]) rfl ?_
        refine L_sipush (pc := 2393) (v := 500) h (by decide) dL_law_2393 ?_
        refine L_icmp_lt (pc := 2396) (tgt := 2438) h dL_law_2396 (by decide) (fun c7 => ?_) (fun c7 => ?_)
        · have hF := itp c7 hF
          refine L_iconst (pc := 2438) (v := 0) h (by decide) dL_law_2438 ?_
          cases hF
          exact L_zreturn (pc := 2439) h rfl zr0 rfl rfl dL_law_2439
        · have hF := ifn c7 hF
          refine L_aload_n (pc := 2399) h 1 rfl rfl dL_law_2399 ?_
          refine L_iconst (pc := 2400) (v := 2) h (by decide) dL_law_2400 ?_
          obtain ⟨r9, hc8, hF⟩ := bd hF
          refine L_callV (pc := 2401) (st := []) h [.int (2 : Int32)] cvL_147 (c4_duel (ad := ad) (z := X.1) hc8) rfl rfl lc_28 (by decide) (by decide) (Nat.le_of_ble_eq_true rfl) dL_law_2401 (st1 := [.int r9]) rfl ?_
          refine L_aload_n (pc := 2404) h 1 rfl rfl dL_law_2404 ?_
          refine L_iconst (pc := 2405) (v := 1) h (by decide) dL_law_2405 ?_
          obtain ⟨r11, hc10, hF⟩ := bd hF
          refine L_callV (pc := 2406) (st := [.int r9]) h [.int (1 : Int32)] cvL_147 (c4_duel (ad := ad) (z := X.1) hc10) rfl rfl lc_28 (by decide) (by decide) (Nat.le_of_ble_eq_true rfl) dL_law_2406 (st1 := [.int r11, .int r9]) rfl ?_
          refine L_icmp_gt (pc := 2409) (tgt := 2438) h dL_law_2409 (by decide) (fun c12 => ?_) (fun c12 => ?_)
          · have hF := itp c12 hF
            refine L_iconst (pc := 2438) (v := 0) h (by decide) dL_law_2438 ?_
            cases hF
            exact L_zreturn (pc := 2439) h rfl zr0 rfl rfl dL_law_2439
          · have hF := ifn c12 hF
            refine L_aload_n (pc := 2412) h 1 rfl rfl dL_law_2412 ?_
            refine L_iconst (pc := 2413) (v := 3) h (by decide) dL_law_2413 ?_
            obtain ⟨r14, hc13, hF⟩ := bd hF
            refine L_callV (pc := 2414) (st := []) h [.int (3 : Int32)] cvL_147 (c4_duel (ad := ad) (z := X.1) hc13) rfl rfl lc_28 (by decide) (by decide) (Nat.le_of_ble_eq_true rfl) dL_law_2414 (st1 := [.int r14]) rfl ?_
            refine L_aload_n (pc := 2417) h 1 rfl rfl dL_law_2417 ?_
            refine L_iconst (pc := 2418) (v := 2) h (by decide) dL_law_2418 ?_
            obtain ⟨r16, hc15, hF⟩ := bd hF
            refine L_callV (pc := 2419) (st := [.int r14]) h [.int (2 : Int32)] cvL_147 (c4_duel (ad := ad) (z := X.1) hc15) rfl rfl lc_28 (by decide) (by decide) (Nat.le_of_ble_eq_true rfl) dL_law_2419 (st1 := [.int r16, .int r14]) rfl ?_
            refine L_icmp_lt (pc := 2422) (tgt := 2438) h dL_law_2422 (by decide) (fun c17 => ?_) (fun c17 => ?_)
            · have hF := itp c17 hF
              refine L_iconst (pc := 2438) (v := 0) h (by decide) dL_law_2438 ?_
              cases hF
              exact L_zreturn (pc := 2439) h rfl zr0 rfl rfl dL_law_2439
            · have hF := ifn c17 hF
              refine L_aload_n (pc := 2425) h 1 rfl rfl dL_law_2425 ?_
              refine L_iconst (pc := 2426) (v := 4) h (by decide) dL_law_2426 ?_
              obtain ⟨r19, hc18, hF⟩ := bd hF
              refine L_callV (pc := 2427) (st := []) h [.int (4 : Int32)] cvL_147 (c4_duel (ad := ad) (z := X.1) hc18) rfl rfl lc_28 (by decide) (by decide) (Nat.le_of_ble_eq_true rfl) dL_law_2427 (st1 := [.int r19]) rfl ?_
              refine L_aload_n (pc := 2430) h 1 rfl rfl dL_law_2430 ?_
              refine L_iconst (pc := 2431) (v := 3) h (by decide) dL_law_2431 ?_
              obtain ⟨r21, hc20, hF⟩ := bd hF
              refine L_callV (pc := 2432) (st := [.int r19]) h [.int (3 : Int32)] cvL_147 (c4_duel (ad := ad) (z := X.1) hc20) rfl rfl lc_28 (by decide) (by decide) (Nat.le_of_ble_eq_true rfl) dL_law_2432 (st1 := [.int r21, .int r19]) rfl ?_
              refine L_icmp_le (pc := 2435) (tgt := 2440) h dL_law_2435 (by decide) (fun c22 => ?_) (fun c22 => ?_)
              · have hF := itp c22 hF
                refine L_aload_n (pc := 2440) h 0 rfl rfl dL_law_2440 ?_
                refine L_bipush (pc := 2441) (v := 43) h (by decide) dL_law_2441 ?_
                obtain ⟨r24, hc23, hF⟩ := bd hF
                refine L_callS (pc := 2443) (st := []) h [.ref (zB X.1), .int (43 : Int32)] csL_15 (c9_cell_S (ad := ad) (z := X.1) hc23) rfl rfl (by decide) (by decide) (Nat.le_of_ble_eq_true rfl) dL_law_2443 (st1 := [.int r24]) rfl ?_
                refine L_bipush (pc := 2446) (v := 13) h (by decide) dL_law_2446 ?_
                obtain ⟨r26, hc25, hF⟩ := bd hF
                refine L_callS (pc := 2448) (st := []) h [.int r24, .int (13 : Int32)] csL_21 (c9_part (ad := ad) (z := X.1) (M := M) hc25) rfl rfl (by decide) (by decide) (Nat.le_of_ble_eq_true rfl) dL_law_2448 (st1 := [.int r26]) rfl ?_
                refine L_istore (pc := 2451) (lv' := [(22, .int r26), (0, .ref (zB X.1)), (1, .ref (ad 28)), (2, .ref (ad 47)), (4, .int x4), (5, .int x5), (7, .int x7), (8, .int x8), (9, .int x9), (10, .int x10), (11, .int x11), (15, .int x15)]) h rfl (by decide) rfl dL_law_2451 ?_
                refine L_lconst (pc := 2453) (v := 1) h (by decide) dL_law_2453 ?_
                refine L_lstore (pc := 2454) (lv' := [(23, .long (1 : Int64)), (22, .int r26), (0, .ref (zB X.1)), (1, .ref (ad 28)), (2, .ref (ad 47)), (4, .int x4), (5, .int x5), (7, .int x7), (8, .int x8), (9, .int x9), (10, .int x10), (11, .int x11), (15, .int x15)]) h rfl (by decide) rfl dL_law_2454 ?_
                refine L_lconst (pc := 2456) (v := 1) h (by decide) dL_law_2456 ?_
                refine L_lstore (pc := 2457) (lv' := [(25, .long (1 : Int64)), (23, .long (1 : Int64)), (22, .int r26), (0, .ref (zB X.1)), (1, .ref (ad 28)), (2, .ref (ad 47)), (4, .int x4), (5, .int x5), (7, .int x7), (8, .int x8), (9, .int x9), (10, .int x10), (11, .int x11), (15, .int x15)]) h rfl (by decide) rfl dL_law_2457 ?_
                refine L_iconst (pc := 2459) (v := 0) h (by decide) dL_law_2459 ?_
                refine L_istore (pc := 2460) (lv' := [(27, .int (0 : Int32)), (25, .long (1 : Int64)), (23, .long (1 : Int64)), (22, .int r26), (0, .ref (zB X.1)), (1, .ref (ad 28)), (2, .ref (ad 47)), (4, .int x4), (5, .int x5), (7, .int x7), (8, .int x8), (9, .int x9), (10, .int x10), (11, .int x11), (15, .int x15)]) h rfl (by decide) rfl dL_law_2460 ?_
                exact Lp_sub (nX := 0) (lv' := [(0, .ref (zB X.1)), (1, .ref (ad 28)), (5, .int x5), (7, .int x7), (8, .int x8), (9, .int x9), (10, .int x10), (11, .int x11), (15, .int x15), (22, .int r26), (23, .long (1 : Int64)), (25, .long (1 : Int64)), (27, .int (0 : Int32))]) [4, 5, 8, 9, 10, 11, 12, 13, 14, 3, 2, 1, 0] rfl (w9_law_2462 h  (hF := hF))
              · have hF := ifn c22 hF
                refine L_iconst (pc := 2438) (v := 0) h (by decide) dL_law_2438 ?_
                cases hF
                exact L_zreturn (pc := 2439) h rfl zr0 rfl rfl dL_law_2439
    · have hF := ifn c1 hF
      refine L_aload_n (pc := 2179) h 0 rfl rfl dL_law_2179 ?_
      refine L_bipush (pc := 2180) (v := 40) h (by decide) dL_law_2180 ?_
      refine L_iload (pc := 2182) h 11 rfl dL_law_2182 ?_
      refine L_iconst (pc := 2184) (v := 3) h (by decide) dL_law_2184 ?_
      obtain ⟨v27, hv27, hF⟩ := bd hF
      refine L_irem (pc := 2185) h hv27 dL_law_2185 ?_
      refine L_iadd (pc := 2186) h dL_law_2186 ?_
      obtain ⟨r29, hc28, hF⟩ := bd hF
      refine L_callS (pc := 2187) (st := []) h [.ref (zB X.1), .int ((40 : Int32) + v27)] csL_15 (c9_cell_S (ad := ad) (z := X.1) hc28) rfl rfl (by decide) (by decide) (Nat.le_of_ble_eq_true rfl) dL_law_2187 (st1 := [.int r29]) rfl ?_
      refine L_bipush (pc := 2190) (v := 10) h (by decide) dL_law_2190 ?_
      obtain ⟨r31, hc30, hF⟩ := bd hF
      refine L_callS (pc := 2192) (st := []) h [.int r29, .int (10 : Int32)] csL_21 (c9_part (ad := ad) (z := X.1) (M := M) hc30) rfl rfl (by decide) (by decide) (Nat.le_of_ble_eq_true rfl) dL_law_2192 (st1 := [.int r31]) rfl ?_
      refine L_istore (pc := 2195) (lv' := [(23, .int r31), (0, .ref (zB X.1)), (1, .ref (ad 28)), (2, .ref (ad 47)), (4, .int x4), (5, .int x5), (7, .int x7), (8, .int x8), (9, .int x9), (10, .int x10), (11, .int x11), (15, .int x15), (22, .int x22)]) h rfl (by decide) rfl dL_law_2195 ?_
      refine L_aload_n (pc := 2197) h 2 rfl rfl dL_law_2197 ?_
      refine L_aload_n (pc := 2198) h 2 rfl rfl dL_law_2198 ?_
      refine L_iload (pc := 2199) h 12 rfl dL_law_2199 ?_
      refine L_iload (pc := 2201) h 0 rfl dL_law_2201 ?_
      obtain ⟨⟨M33, r34⟩, hc32, hF⟩ := bd hF
      refine L_callV (pc := 2203) (st := [.ref (ad 28)]) h [.int x22, .int r31] cvL_136 (c4_worth (ad := ad) (z := X.1) hc32) rfl rfl lc_28 (by decide) (by decide) (Nat.le_of_ble_eq_true rfl) dL_law_2203 (st1 := [.int r34, .ref (ad 28)]) rfl ?_
      obtain ⟨r36, hc35, hF⟩ := bd hF
      refine L_callS (pc := 2206) (st := []) h [.ref (ad 28), .int r34] csL_91 (c9_told_28 (ad := ad) (z := X.1) hc35) rfl rfl (by decide) (by decide) (Nat.le_of_ble_eq_true rfl) dL_law_2206 (st1 := [.int r36]) rfl ?_
      refine L_istore (pc := 2209) (lv' := [(24, .int r36), (23, .int r31), (0, .ref (zB X.1)), (1, .ref (ad 28)), (2, .ref (ad 47)), (4, .int x4), (5, .int x5), (7, .int x7), (8, .int x8), (9, .int x9), (10, .int x10), (11, .int x11), (15, .int x15), (22, .int x22)]) h rfl (by decide) rfl dL_law_2209 ?_
      refine L_aload_n (pc := 2211) h 3 rfl rfl dL_law_2211 ?_
      refine L_iconst (pc := 2212) (v := 3) h (by decide) dL_law_2212 ?_
      refine L_iconst (pc := 2213) (v := 2) h (by decide) dL_law_2213 ?_
      obtain ⟨⟨M38, r39⟩, hc37, hF⟩ := bd hF
      refine L_callV (pc := 2214) (st := []) h [.int (3 : Int32), .int (2 : Int32)] cvL_127 (c4_row (ad := ad) (z := X.1) hc37) rfl rfl lc_28 (by decide) (by decide) (Nat.le_of_ble_eq_true rfl) dL_law_2214 (st1 := [.int r39]) rfl ?_
      refine L_iconst (pc := 2217) (v := 2) h (by decide) dL_law_2217 ?_
      refine L_icmp_ne (pc := 2218) (tgt := 2245) h dL_law_2218 (by decide) (fun c40 => ?_) (fun c40 => ?_)
      · have hF := ifn c40 hF
        refine L_iconst (pc := 2245) (v := 0) h (by decide) dL_law_2245 ?_
        cases hF
        exact L_zreturn (pc := 2246) h rfl zr0 rfl rfl dL_law_2246
      · have hF := itp c40 hF
        refine L_aload_n (pc := 2221) h 3 rfl rfl dL_law_2221 ?_
        refine L_iconst (pc := 2222) (v := 3) h (by decide) dL_law_2222 ?_
        refine L_iconst (pc := 2223) (v := 0) h (by decide) dL_law_2223 ?_
        refine L_iload (pc := 2224) h 1 rfl dL_law_2224 ?_
        obtain ⟨⟨M42, r43⟩, hc41, hF⟩ := bd hF
        refine L_callV (pc := 2226) (st := []) h [.int (3 : Int32), .int (0 : Int32), .int r31] cvL_130 (c4_lay (ad := ad) (z := X.1) hc41) rfl rfl lc_28 (by decide) (by decide) (Nat.le_of_ble_eq_true rfl) dL_law_2226 (st1 := [.int r43]) rfl ?_
        refine L_iconst (pc := 2229) (v := 1) h (by decide) dL_law_2229 ?_
        refine L_icmp_ne (pc := 2230) (tgt := 2245) h dL_law_2230 (by decide) (fun c44 => ?_) (fun c44 => ?_)
        · have hF := ifn c44 hF
          refine L_iconst (pc := 2245) (v := 0) h (by decide) dL_law_2245 ?_
          cases hF
          exact L_zreturn (pc := 2246) h rfl zr0 rfl rfl dL_law_2246
        · have hF := itp c44 hF
          refine L_aload_n (pc := 2233) h 3 rfl rfl dL_law_2233 ?_
          refine L_iconst (pc := 2234) (v := 3) h (by decide) dL_law_2234 ?_
          refine L_iconst (pc := 2235) (v := 1) h (by decide) dL_law_2235 ?_
          refine L_iload (pc := 2236) h 0 rfl dL_law_2236 ?_
          obtain ⟨⟨M46, r47⟩, hc45, hF⟩ := bd hF
          refine L_callV (pc := 2238) (st := []) h [.int (3 : Int32), .int (1 : Int32), .int r36] cvL_130 (c4_lay (ad := ad) (z := X.1) hc45) rfl rfl lc_28 (by decide) (by decide) (Nat.le_of_ble_eq_true rfl) dL_law_2238 (st1 := [.int r47]) rfl ?_
          refine L_iconst (pc := 2241) (v := 1) h (by decide) dL_law_2241 ?_
          refine L_icmp_eq (pc := 2242) (tgt := 2247) h dL_law_2242 (by decide) (fun c48 => ?_) (fun c48 => ?_)
          · have hF := itp c48 hF
            refine L_aload_n (pc := 2247) h 3 rfl rfl dL_law_2247 ?_
            refine L_iload (pc := 2248) h 13 rfl dL_law_2248 ?_
            refine L_iconst (pc := 2250) (v := 3) h (by decide) dL_law_2250 ?_
            obtain ⟨⟨M50, r51⟩, hc49, hF⟩ := bd hF
            refine L_callV (pc := 2251) (st := []) h [.int x22, .int (3 : Int32)] cvL_138 (c4_kinds (ad := ad) (z := X.1) hc49) rfl rfl lc_28 (by decide) (by decide) (Nat.le_of_ble_eq_true rfl) dL_law_2251 (st1 := [.int r51]) rfl ?_
            refine L_istore (pc := 2254) (lv' := [(25, .int r51), (24, .int r36), (23, .int r31), (0, .ref (zB X.1)), (1, .ref (ad 28)), (2, .ref (ad 47)), (4, .int x4), (5, .int x5), (7, .int x7), (8, .int x8), (9, .int x9), (10, .int x10), (11, .int x11), (15, .int x15), (22, .int x22)]) h rfl (by decide) rfl dL_law_2254 ?_
            refine L_aload_n (pc := 2256) h 4 rfl rfl dL_law_2256 ?_
            refine L_iload (pc := 2257) h 14 rfl dL_law_2257 ?_
            refine L_iconst (pc := 2259) (v := 3) h (by decide) dL_law_2259 ?_
            obtain ⟨⟨M53, r54⟩, hc52, hF⟩ := bd hF
            refine L_callV (pc := 2260) (st := []) h [.int x22, .int (3 : Int32)] cvL_141 (c4_test (ad := ad) (z := X.1) hc52) rfl rfl lc_28 (by decide) (by decide) (Nat.le_of_ble_eq_true rfl) dL_law_2260 (st1 := [.int r54]) rfl ?_
            refine L_istore (pc := 2263) (lv' := [(26, .int r54), (25, .int r51), (24, .int r36), (23, .int r31), (0, .ref (zB X.1)), (1, .ref (ad 28)), (2, .ref (ad 47)), (4, .int x4), (5, .int x5), (7, .int x7), (8, .int x8), (9, .int x9), (10, .int x10), (11, .int x11), (15, .int x15), (22, .int x22)]) h rfl (by decide) rfl dL_law_2263 ?_
            refine L_aload_n (pc := 2265) h 5 rfl rfl dL_law_2265 ?_
            obtain ⟨r56, hc55, hF⟩ := bd hF
            refine L_callV (pc := 2266) (st := []) h [] cvL_101 (c4_asked (ad := ad) (z := X.1) hc55) rfl rfl lc_28 (by decide) (by decide) (Nat.le_of_ble_eq_true rfl) dL_law_2266 (st1 := [.int r56]) rfl ?_
            refine L_istore (pc := 2269) (lv' := [(27, .int r56), (26, .int r54), (25, .int r51), (24, .int r36), (23, .int r31), (0, .ref (zB X.1)), (1, .ref (ad 28)), (2, .ref (ad 47)), (4, .int x4), (5, .int x5), (7, .int x7), (8, .int x8), (9, .int x9), (10, .int x10), (11, .int x11), (15, .int x15), (22, .int x22)]) h rfl (by decide) rfl dL_law_2269 ?_
            refine L_iload (pc := 2271) h 2 rfl dL_law_2271 ?_
            refine L_aload_n (pc := 2273) h 7 rfl rfl dL_law_2273 ?_
            refine L_iconst (pc := 2274) (v := 1) h (by decide) dL_law_2274 ?_
            refine L_iload (pc := 2275) h 16 rfl dL_law_2275 ?_
            refine L_iadd (pc := 2277) h dL_law_2277 ?_
            obtain ⟨v57, hv57, hF⟩ := bd hF
            refine L_iald (pc := 2278) h hv57 lc_47 dL_law_2278 ?_
            refine L_ishr (pc := 2279) h dL_law_2279 ?_
            refine L_iconst (pc := 2280) (v := 1) h (by decide) dL_law_2280 ?_
            refine L_iand (pc := 2281) h dL_law_2281 ?_
            refine L_iconst (pc := 2282) (v := 1) h (by decide) dL_law_2282 ?_
            refine L_icmp_ne (pc := 2283) (tgt := 2369) h dL_law_2283 (by decide) (fun c58 => ?_) (fun c58 => ?_)
            · have hF := ifn c58 hF
              refine L_iconst (pc := 2369) (v := 0) h (by decide) dL_law_2369 ?_
              cases hF
              exact L_zreturn (pc := 2370) h rfl zr0 rfl rfl dL_law_2370
            · have hF := itp c58 hF
              refine L_iload (pc := 2286) h 2 rfl dL_law_2286 ?_
              refine L_bipush (pc := 2288) (v := 63) h (by decide) dL_law_2288 ?_
              refine L_icmp_gt (pc := 2290) (tgt := 2369) h dL_law_2290 (by decide) (fun c59 => ?_) (fun c59 => ?_)
              · have hF := itp c59 hF
                refine L_iconst (pc := 2369) (v := 0) h (by decide) dL_law_2369 ?_
                cases hF
                exact L_zreturn (pc := 2370) h rfl zr0 rfl rfl dL_law_2370
              · have hF := ifn c59 hF
                refine L_iload (pc := 2293) h 1 rfl dL_law_2293 ?_
                refine L_if_lt (pc := 2295) (tgt := 2369) h dL_law_2295 (by decide) (fun c60 => ?_) (fun c60 => ?_)
                · have hF := itp c60 hF
                  refine L_iconst (pc := 2369) (v := 0) h (by decide) dL_law_2369 ?_
                  cases hF
                  exact L_zreturn (pc := 2370) h rfl zr0 rfl rfl dL_law_2370
                · have hF := ifn c60 hF
                  refine L_iload (pc := 2298) h 1 rfl dL_law_2298 ?_
                  refine L_bipush (pc := 2300) (v := 9) h (by decide) dL_law_2300 ?_
                  refine L_icmp_gt (pc := 2302) (tgt := 2369) h dL_law_2302 (by decide) (fun c61 => ?_) (fun c61 => ?_)
                  · have hF := itp c61 hF
                    refine L_iconst (pc := 2369) (v := 0) h (by decide) dL_law_2369 ?_
                    cases hF
                    exact L_zreturn (pc := 2370) h rfl zr0 rfl rfl dL_law_2370
                  · have hF := ifn c61 hF
                    refine L_iload (pc := 2305) h 0 rfl dL_law_2305 ?_
                    refine L_iconst (pc := 2307) (v := 1) h (by decide) dL_law_2307 ?_
                    refine L_icmp_lt (pc := 2308) (tgt := 2369) h dL_law_2308 (by decide) (fun c62 => ?_) (fun c62 => ?_)
                    · have hF := itp c62 hF
                      refine L_iconst (pc := 2369) (v := 0) h (by decide) dL_law_2369 ?_
                      cases hF
                      exact L_zreturn (pc := 2370) h rfl zr0 rfl rfl dL_law_2370
                    · have hF := ifn c62 hF
                      refine L_iload (pc := 2311) h 0 rfl dL_law_2311 ?_
                      refine L_iload (pc := 2313) h 2 rfl dL_law_2313 ?_
                      obtain ⟨r64, hc63, hF⟩ := bd hF
                      refine L_callS (pc := 2315) (st := [.int r56]) h [.int r51] csL_66 (c9_many (ad := ad) (z := X.1) (M := M53) hc63) rfl rfl (by decide) (by decide) (Nat.le_of_ble_eq_true rfl) dL_law_2315 (st1 := [.int r64, .int r56]) rfl ?_
                      refine L_icmp_gt (pc := 2318) (tgt := 2369) h dL_law_2318 (by decide) (fun c65 => ?_) (fun c65 => ?_)
                      · have hF := itp c65 hF
                        refine L_iconst (pc := 2369) (v := 0) h (by decide) dL_law_2369 ?_
                        cases hF
                        exact L_zreturn (pc := 2370) h rfl zr0 rfl rfl dL_law_2370
                      · have hF := ifn c65 hF
                        refine L_aload_n (pc := 2321) h 6 rfl rfl dL_law_2321 ?_
                        refine L_iload (pc := 2322) h 16 rfl dL_law_2322 ?_
                        refine L_iload (pc := 2324) h 3 rfl dL_law_2324 ?_
                        obtain ⟨r67, hc66, hF⟩ := bd hF
                        refine L_callV (pc := 2326) (st := []) h [.int x22, .int r36] cvL_144 (c4_lucks (ad := ad) (z := X.1) hc66) rfl rfl lc_28 (by decide) (by decide) (Nat.le_of_ble_eq_true rfl) dL_law_2326 (st1 := [.int r67]) rfl ?_
                        refine L_iload (pc := 2329) h 4 rfl dL_law_2329 ?_
                        refine L_ishr (pc := 2331) h dL_law_2331 ?_
                        refine L_iconst (pc := 2332) (v := 1) h (by decide) dL_law_2332 ?_
                        refine L_iand (pc := 2333) h dL_law_2333 ?_
                        refine L_iconst (pc := 2334) (v := 1) h (by decide) dL_law_2334 ?_
                        refine L_icmp_ne (pc := 2335) (tgt := 2369) h dL_law_2335 (by decide) (fun c68 => ?_) (fun c68 => ?_)
                        · have hF := ifn c68 hF
                          refine L_iconst (pc := 2369) (v := 0) h (by decide) dL_law_2369 ?_
                          cases hF
                          exact L_zreturn (pc := 2370) h rfl zr0 rfl rfl dL_law_2370
                        · have hF := itp c68 hF
                          refine L_aload_n (pc := 2338) h 6 rfl rfl dL_law_2338 ?_
                          refine L_aload_n (pc := 2339) h 6 rfl rfl dL_law_2339 ?_
                          refine L_iload (pc := 2340) h 16 rfl dL_law_2340 ?_
                          refine L_aload_n (pc := 2342) h 7 rfl rfl dL_law_2342 ?_
                          refine L_bipush (pc := 2343) (v := 25) h (by decide) dL_law_2343 ?_
                          refine L_iload (pc := 2345) h 16 rfl dL_law_2345 ?_
                          refine L_iadd (pc := 2347) h dL_law_2347 ?_
                          obtain ⟨v69, hv69, hF⟩ := bd hF
                          refine L_iald (pc := 2348) h hv69 lc_47 dL_law_2348 ?_
                          obtain ⟨⟨M71, r72⟩, hc70, hF⟩ := bd hF
                          refine L_callV (pc := 2349) (st := [.ref (ad 28)]) h [.int x22, .int v69] cvL_136 (c4_worth (ad := ad) (z := X.1) hc70) rfl rfl lc_28 (by decide) (by decide) (Nat.le_of_ble_eq_true rfl) dL_law_2349 (st1 := [.int r72, .ref (ad 28)]) rfl ?_
                          obtain ⟨r74, hc73, hF⟩ := bd hF
                          refine L_callS (pc := 2352) (st := []) h [.ref (ad 28), .int r72] csL_91 (c9_told_28 (ad := ad) (z := X.1) hc73) rfl rfl (by decide) (by decide) (Nat.le_of_ble_eq_true rfl) dL_law_2352 (st1 := [.int r74]) rfl ?_
                          refine L_aload_n (pc := 2355) h 6 rfl rfl dL_law_2355 ?_
                          refine L_aload_n (pc := 2356) h 6 rfl rfl dL_law_2356 ?_
                          refine L_iload (pc := 2357) h 16 rfl dL_law_2357 ?_
                          refine L_iconst (pc := 2359) (v := 5) h (by decide) dL_law_2359 ?_
                          obtain ⟨⟨M76, r77⟩, hc75, hF⟩ := bd hF
                          refine L_callV (pc := 2360) (st := [.ref (ad 28), .int r74]) h [.int x22, .int (5 : Int32)] cvL_88 (c4_pin (ad := ad) (z := X.1) hc75) rfl rfl lc_28 (by decide) (by decide) (Nat.le_of_ble_eq_true rfl) dL_law_2360 (st1 := [.int r77, .ref (ad 28), .int r74]) rfl ?_
                          obtain ⟨r79, hc78, hF⟩ := bd hF
                          refine L_callS (pc := 2363) (st := [.int r74]) h [.ref (ad 28), .int r77] csL_91 (c9_told_28 (ad := ad) (z := X.1) hc78) rfl rfl (by decide) (by decide) (Nat.le_of_ble_eq_true rfl) dL_law_2363 (st1 := [.int r79, .int r74]) rfl ?_
                          refine L_icmp_eq (pc := 2366) (tgt := 2371) h dL_law_2366 (by decide) (fun c80 => ?_) (fun c80 => ?_)
                          · have hF := itp c80 hF
                            obtain ⟨v81, hv81, hF⟩ := nm_e2 hF
                            refine L_iinc (pc := 2371) (lv' := [(22, .int v81), (27, .int r56), (26, .int r54), (25, .int r51), (24, .int r36), (23, .int r31), (0, .ref (zB X.1)), (1, .ref (ad 28)), (2, .ref (ad 47)), (4, .int x4), (5, .int x5), (7, .int x7), (8, .int x8), (9, .int x9), (10, .int x10), (11, .int x11), (15, .int x15)]) h 16 rfl (by decide) hv81 (by decide) rfl dL_law_2371 ?_
                            refine L_goto (pc := 2374) (tgt := 2172) h dL_law_2374 (by decide) ?_
                            exact Lp_sub (nX := 0) (lv' := [(0, .ref (zB X.1)), (1, .ref (ad 28)), (2, .ref (ad 47)), (4, .int x4), (5, .int x5), (7, .int x7), (8, .int x8), (9, .int x9), (10, .int x10), (11, .int x11), (15, .int x15), (22, .int v81)]) [6, 7, 8, 9, 10, 11, 12, 13, 14, 15, 16, 0] rfl (ih _ _ _ _ _ _ _ _ _ _ hF)
                          · have hF := ifn c80 hF
                            refine L_iconst (pc := 2369) (v := 0) h (by decide) dL_law_2369 ?_
                            cases hF
                            exact L_zreturn (pc := 2370) h rfl zr0 rfl rfl dL_law_2370
          · have hF := ifn c48 hF
            refine L_iconst (pc := 2245) (v := 0) h (by decide) dL_law_2245 ?_
            cases hF
            exact L_zreturn (pc := 2246) h rfl zr0 rfl rfl dL_law_2246
theorem w9_law_2172 {ad : Nat → Nat} {X : XX} {R : Mem × Int32} {fu : Nat}  (h : Lx layC ad X cL_law RL 30 9 (some .boolean) (R.1) (some (.int R.2)))  {f : Nat} {x4 : Int32} {x5 : Int32} {x7 : Int32} {x8 : Int32} {x9 : Int32} {x10 : Int32} {x11 : Int32} {x15 : Int32} {x22 : Int32} {M : Mem} (hF : f9_law_2172 (zL X.1) (zX X.1) fu f x4 x5 x7 x8 x9 x10 x11 x15 x22 M = some R) : Lp layC ad X M 2172 [(0, .ref (zB X.1)), (1, .ref (ad 28)), (2, .ref (ad 47)), (4, .int x4), (5, .int x5), (7, .int x7), (8, .int x8), (9, .int x9), (10, .int x10), (11, .int x11), (15, .int x15), (22, .int x22)] [] := w9_lawi_2172 h  f _ _ _ _ _ _ _ _ _ _ hF
