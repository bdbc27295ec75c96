/-! 48: by turns: the class; what is played -/
theorem dvN {z n : Nat} (h : z < 2147483648) (hn : 0 < n) (hn2 : n < 2147483648) : dvI (nI z) (nI n) = some (nI (z / n)) := by
  have hb0 : ¬ nI n = 0 := by
    intro e
    have e2 : nI n = nI 0 := e
    rw [neq (by omega) (by omega)] at e2
    omega
  unfold dvI
  rw [if_neg hb0]
  congr 1
  apply Int32.toInt_inj.mp
  have hdl : z / n ≤ z := Nat.div_le_self z n
  rw [Int32.toInt_div, nI_toInt h, nI_toInt hn2, nI_toInt (by omega)]
  have : (z : Int).tdiv (n : Int) = ((z / n : Nat) : Int) := rfl
  rw [this]
  exact bm32 (Int.le_trans (by omega) (Int.natCast_nonneg _)) (Int.lt_of_le_of_lt (Int.ofNat_le.mpr hdl) (by omega))
theorem rmN {z n : Nat} (h : z < 2147483648) (hn : 0 < n) (hn2 : n < 2147483648) : rmI (nI z) (nI n) = some (nI (z % n)) := by
  have hb0 : ¬ nI n = 0 := by
    intro e
    have e2 : nI n = nI 0 := e
    rw [neq (by omega) (by omega)] at e2
    omega
  unfold rmI
  rw [if_neg hb0]
  congr 1
  apply Int32.toInt_inj.mp
  have hm : z % n < n := Nat.mod_lt _ hn
  have hd : z / n * n + z % n = z := by
    have := Nat.div_add_mod z n
    rw [Nat.mul_comm]; exact this
  have hdl : z / n ≤ z := Nat.div_le_self z n
  have e1 : (nI z / nI n).toInt = ((z / n : Nat) : Int) := by
    rw [Int32.toInt_div, nI_toInt h, nI_toInt hn2]
    have : (z : Int).tdiv (n : Int) = ((z / n : Nat) : Int) := rfl
    rw [this]
    exact bm32 (Int.le_trans (by omega) (Int.natCast_nonneg _)) (Int.lt_of_le_of_lt (Int.ofNat_le.mpr hdl) (by omega))
  have e2 : (nI z / nI n * nI n).toInt = ((z / n * n : Nat) : Int) := by
    rw [Int32.toInt_mul, e1, nI_toInt hn2]
    have : ((z / n : Nat) : Int) * (n : Int) = ((z / n * n : Nat) : Int) := by rw [Int.natCast_mul]
    rw [this]
    exact bm32 (by omega) (by omega)
  rw [Int32.toInt_sub, nI_toInt h, e2, nI_toInt (by omega)]
  rw [bm32 (by omega) (by omega)]
  omega
section GN
variable {P : PD} {MC MM : Mem} {fu : Nat}
theorem gain_c (hfu : 10000 ≤ fu) (hP : GP P MC MM) : ∀ (m d F a b : Nat), m ≤ 6 → m < d → F < 2 ^ P.1 → a < 8192 → b < 8192 → f4_gainByTurns_35 MC fu d (nI m) (nI F) (nI a) (nI b) = some (zI (gam P m F a b)) := by
  have h8 := hP.1
  have h256 := pow8 h8
  intro m
  induction m with
  | zero =>
    intro d F a b hm6 hd hF ha hb
    rcases d with _ | d
    · omega
    rw [f4_gainByTurns_35]
    unfold f4_gainByTurns_35_e
    simp (disch := omega) only [lit, nlt, nle, neq, nI_add, pk_mul, nm_u, bS, gd_d, oc_none, oc_some, rd_n, wr_n, if_pos, if_neg, ite_true, ite_false, not_true_eq_false, not_false_eq_true, g1, g2, g3, g4, h1, h2, h3, h4, ior, iand, shl_n, Nat.or_zero]
    rfl
  | succ m ih =>
    intro d F a b hm6 hd hF ha hb
    rcases d with _ | d
    · omega
    have hok : ∀ k, F.testBit k = true → okP P k := by
      intro k hk
      by_cases c : k < P.1
      · exact (hP.2.2.2.1 k c).1
      · rw [tb_ge hF (by omega)] at hk; cases hk
    have e1 : nI (m + 1) - nI 1 = nI m := by rw [pk_sub (by omega), Nat.add_sub_cancel]
    have r0 := ih d F b a (by omega) (by omega) hF hb ha
    have key : ∀ (e k f : Nat), k + e = P.1 → e < f → f4_gainByTurns_35_23 MC fu (f4_gainByTurns_35 MC fu d) f (nI (m + 1)) (nI F) (nI a) (nI b) (zI (gpre P m F a b k)) (nI k) = some (zI (gpre P m F a b P.1)) := by
      intro e
      induction e with
      | zero =>
        intro k f hk hf
        rcases f with _ | f
        · omega
        have : k = P.1 := by omega
        subst this
        rw [f4_gainByTurns_35_23]
        simp (disch := omega) only [lit, nlt, nle, neq, nI_add, pk_mul, nm_u, bS, gd_d, oc_none, oc_some, rd_n, wr_n, if_pos, if_neg, ite_true, ite_false, not_true_eq_false, not_false_eq_true, g1, g2, g3, g4, h1, h2, h3, h4, ior, iand, shl_n, Nat.or_zero, hP.2.1]
      | succ e ihe =>
        intro k f hk hf
        rcases f with _ | f
        · omega
        have hk1 : k < P.1 := by omega
        have lh2 := ihe (k + 1) f (by omega) (by omega)
        rw [gpre_s] at lh2
        obtain ⟨hokk, -, -, -, -, -, e5, e6, -⟩ := hP.2.2.2.1 k hk1
        have hlt : hm P k &&& a < 8192 := Nat.lt_of_le_of_lt Nat.and_le_right ha
        rw [f4_gainByTurns_35_23]
        unfold f4_gainByTurns_35_58
        cases c : F.testBit k
        · rw [c, Bool.false_and, if_neg (by decide)] at lh2
          simp (disch := omega) only [lit, nlt, nle, neq, nI_add, pk_mul, nm_u, bS, gd_d, oc_none, oc_some, rd_n, wr_n, if_pos, if_neg, ite_true, ite_false, not_true_eq_false, not_false_eq_true, g1, g2, g3, g4, h1, h2, h3, h4, ior, iand, shl_n, Nat.or_zero, hP.2.1, bit_f c (show k < 31 by omega) (show F < 2147483648 by omega)]
          exact lh2
        · by_cases z : hm P k &&& a = 0
          · rw [if_pos (by rw [c, z]; rfl)] at lh2
            have hor : a ||| hm P k < 8192 := Nat.or_lt_two_pow (n := 13) ha (hm_lt hokk)
            have r1 := ih d (F ^^^ (F &&& 2 ^ k)) b (a ||| hm P k) (by omega) (by omega) (xa_lt hF) hb hor
            have b1 := gam_bd m (F ^^^ (F &&& 2 ^ k)) b (a ||| hm P k) (rmv_ok hok)
            have b2 := gpre_bd (m := m) (a := a) (b := b) hok k
            have hw := wz_bd hokk
            simp (disch := omega) only [lit, nlt, nle, neq, nI_add, pk_mul, nm_u, bS, gd_d, oc_none, oc_some, rd_n, wr_n, if_pos, if_neg, ite_true, ite_false, not_true_eq_false, not_false_eq_true, g1, g2, g3, g4, h1, h2, h3, h4, ior, iand, shl_n, Nat.or_zero, hP.2.1, bit_t c (show k < 31 by omega) (show F < 2147483648 by omega), kq9, e5, z, andnot, e1, r1, e6, zsub, zlt]
            by_cases q : gpre P m F a b k < wz P k - gam P m (F ^^^ (F &&& 2 ^ k)) b (a ||| hm P k)
            · rw [if_pos q]
              rw [show max (gpre P m F a b k) (wz P k - gam P m (F ^^^ (F &&& 2 ^ k)) b (a ||| hm P k)) = wz P k - gam P m (F ^^^ (F &&& 2 ^ k)) b (a ||| hm P k) by omega] at lh2
              exact lh2
            · rw [if_neg q]
              rw [show max (gpre P m F a b k) (wz P k - gam P m (F ^^^ (F &&& 2 ^ k)) b (a ||| hm P k)) = gpre P m F a b k by omega] at lh2
              exact lh2
          · rw [if_neg (by simp [z])] at lh2
            simp (disch := omega) only [lit, nlt, nle, neq, nI_add, pk_mul, nm_u, bS, gd_d, oc_none, oc_some, rd_n, wr_n, if_pos, if_neg, ite_true, ite_false, not_true_eq_false, not_false_eq_true, g1, g2, g3, g4, h1, h2, h3, h4, ior, iand, shl_n, Nat.or_zero, hP.2.1, bit_t c (show k < 31 by omega) (show F < 2147483648 by omega), kq9, e5, z]
            exact lh2
    have e8 : gpre P m F a b 8 = gpre P m F a b P.1 := by
      refine fo_ext (fun k best hk => ?_) _ 8 h8
      show (if F.testBit k && (hm P k &&& a == 0) then _ else best) = best
      rw [tb_ge hF hk, Bool.false_and, if_neg (by decide)]
    rw [gam_s, e8, f4_gainByTurns_35]
    unfold f4_gainByTurns_35_e
    simp (disch := omega) only [lit, nlt, nle, neq, nI_add, pk_mul, nm_u, bS, gd_d, oc_none, oc_some, rd_n, wr_n, if_pos, if_neg, ite_true, ite_false, not_true_eq_false, not_false_eq_true, g1, g2, g3, g4, h1, h2, h3, h4, ior, iand, shl_n, Nat.or_zero, e1, r0, zneg]
    exact key P.1 0 fu (by omega) (by omega)
end GN
theorem free_or {L U d : Nat} : L ^^^ (L &&& (U ||| 2 ^ d)) = (L ^^^ (L &&& U)) ^^^ ((L ^^^ (L &&& U)) &&& 2 ^ d) := by
  apply Nat.eq_of_testBit_eq
  intro j
  simp only [Nat.testBit_xor, Nat.testBit_and, Nat.testBit_or, Nat.testBit_two_pow]
  cases L.testBit j <;> cases U.testBit j <;> cases decide (d = j) <;> rfl
theorem free_tb {L U d : Nat} : (L ^^^ (L &&& U)).testBit d = (L.testBit d && !(U.testBit d)) := by
  simp only [Nat.testBit_xor, Nat.testBit_and]
  cases L.testBit d <;> cases U.testBit d <;> rfl
section PL
variable {P : PD} {s : Nat → Int32} {MC MM : Mem} {fu : Nat}
theorem tP0 : nI 0 = (0 : Int32) := rfl
theorem tN0 : ¬ nI 1 = (0 : Int32) := by decide
theorem tP1 : nI 1 = (1 : Int32) := rfl
theorem tN1 : ¬ nI 0 = (1 : Int32) := by decide
theorem ad1 {t : Nat} : nI t + (1 : Int32) = nI (t + 1) := by
  show nI t + nI 1 = _
  rw [nI_add]
theorem sh1 {d : Nat} (hd : d < 31) : (1 : Int32) <<< (nI d &&& 31) = nI (2 ^ d) := by
  show nI 1 <<< (nI d &&& nI 31) = _
  rw [iand]
  exact shl_n hd
theorem p39_none {c n U y t d f : Nat} {x4 x5 acc : Int32} (hc : c < 2147483648) (hy : 0 < y) (hyb : y < 2147483648) (ht : t < n) (hn : n ≤ 4) (hd : c / y % 9 = d) (h8d : 8 ≤ d) : f5_played_39 MM fu (f + 1) (nI c) (nI n) (nI U) x4 x5 acc (nI y) (nI t) = f5_played_39 MM fu f (nI c) (nI n) (nI U) x4 x5 acc (nI (y / 9)) (nI (t + 1)) := by
  have q1 := dvN (z := c) (n := y) hc hy hyb
  have hdl : c / y ≤ c := Nat.div_le_self c _
  have q2 : rmI (nI (c / y)) (9 : Int32) = some (nI (c / y % 9)) := rmN (z := c / y) (n := 9) (by omega) (by omega) (by omega)
  have q3 : dvI (nI y) (9 : Int32) = some (nI (y / 9)) := dvN (z := y) (n := 9) (by omega) (by omega) (by omega)
  have hd9 : c / y % 9 < 9 := Nat.mod_lt _ (by omega)
  rw [hd] at q2
  have t1 : ¬ nI n ≤ nI t := by rw [nle (by omega) (by omega)]; omega
  have t2 : (8 : Int32) ≤ nI d := by
    show nI 8 ≤ nI d
    rw [nle (by omega) (by omega)]; exact h8d
  rw [f5_played_39]
  dsimp only
  rw [if_neg t1, q1, bS, q2, bS, q3, bS, if_pos t2, nm_u, ad1]
theorem p39_82 {c n U y t d f : Nat} {x4 x5 acc : Int32} (hc : c < 2147483648) (hy : 0 < y) (hyb : y < 2147483648) (ht : t < n) (hn : n ≤ 4) (hd : c / y % 9 = d) (h8d : ¬ 8 ≤ d) : f5_played_39 MM fu (f + 1) (nI c) (nI n) (nI U) x4 x5 acc (nI y) (nI t) = f5_played_82 MM fu (f5_played_39 MM fu f) (nI c) (nI n) (nI U) x4 x5 acc (nI (y / 9)) (nI t) (nI d) (if t % 2 = 0 then x4 else x5) := by
  have q1 := dvN (z := c) (n := y) hc hy hyb
  have hdl : c / y ≤ c := Nat.div_le_self c _
  have q2 : rmI (nI (c / y)) (9 : Int32) = some (nI (c / y % 9)) := rmN (z := c / y) (n := 9) (by omega) (by omega) (by omega)
  have q3 : dvI (nI y) (9 : Int32) = some (nI (y / 9)) := dvN (z := y) (n := 9) (by omega) (by omega) (by omega)
  have q4 : rmI (nI t) (2 : Int32) = some (nI (t % 2)) := rmN (z := t) (n := 2) (by omega) (by omega) (by omega)
  have hd9 : c / y % 9 < 9 := Nat.mod_lt _ (by omega)
  rw [hd] at q2
  have t1 : ¬ nI n ≤ nI t := by rw [nle (by omega) (by omega)]; omega
  have t2 : ¬ (8 : Int32) ≤ nI d := by
    show ¬ nI 8 ≤ nI d
    rw [nle (by omega) (by omega)]; exact h8d
  rw [f5_played_39]
  dsimp only
  rw [if_neg t1, q1, bS, q2, bS, q3, bS, if_neg t2, q4, bS]
  by_cases p : t % 2 = 0
  · rw [p, if_pos tP0, if_pos rfl]
  · have p1 : t % 2 = 1 := by omega
    rw [p1, if_neg tN0, if_neg (by decide)]
section P82
variable {k39 : Int32 → Int32 → Int32 → Int32 → Int32 → Int32 → Int32 → Int32 → Option Int32} {x1 x2 x4 x5 x6 x7 s0 : Int32} {U t d h : Nat}
theorem p82_a {x3 x8 : Int32} (hP : GP P MC MM) (hd : d < 8) (hd2 : ¬ d < P.1) : f5_played_82 MM fu k39 x1 x2 x3 x4 x5 x6 x7 x8 (nI d) s0 = some (-nI 1000000) := by
  have h8 := hP.1
  have t1 : nI P.1 ≤ nI d := by rw [nle (by omega) (by omega)]; omega
  unfold f5_played_82
  rw [hP.2.2.1, if_pos t1]
  rfl
theorem p82_b {x3 x8 : Int32} (hP : GP P MC MM) (hd : d < P.1) (hl : f5_lies MM (nI d) = some (nI 0)) : f5_played_82 MM fu k39 x1 x2 x3 x4 x5 x6 x7 x8 (nI d) s0 = some (-nI 1000000) := by
  have h8 := hP.1
  have t1 : ¬ nI P.1 ≤ nI d := by rw [nle (by omega) (by omega)]; omega
  unfold f5_played_82
  rw [hP.2.2.1, if_neg t1, hl, bS, if_pos tP0]
  rfl
theorem p82_c {x8 : Int32} (hP : GP P MC MM) (hd : d < P.1) (hU : U < 256) (hl : f5_lies MM (nI d) = some (nI 1)) (hb : U.testBit d = true) : f5_played_82 MM fu k39 x1 x2 (nI U) x4 x5 x6 x7 x8 (nI d) s0 = some (-nI 1000000) := by
  have h8 := hP.1
  have t1 : ¬ nI P.1 ≤ nI d := by rw [nle (by omega) (by omega)]; omega
  unfold f5_played_82
  rw [hP.2.2.1, if_neg t1, hl, bS, if_neg tN0, hs_t hb (by omega) (by omega), bS, if_neg tN0]
  rfl
theorem p82_d {x8 : Int32} (hP : GP P MC MM) (hd : d < P.1) (hU : U < 256) (hl : f5_lies MM (nI d) = some (nI 1)) (hb : U.testBit d = false) (hh : h < 8192) (hc : ¬ h &&& hm P d = 0) : f5_played_82 MM fu k39 x1 x2 (nI U) x4 x5 x6 x7 x8 (nI d) (nI h) = some (-nI 1000000) := by
  have h8 := hP.1
  have hlt : h &&& hm P d < 8192 := Nat.lt_of_le_of_lt Nat.and_le_left hh
  have t1 : ¬ nI P.1 ≤ nI d := by rw [nle (by omega) (by omega)]; omega
  have t2 : ¬ nI (h &&& hm P d) = (0 : Int32) := by
    show ¬ nI (h &&& hm P d) = nI 0
    rw [neq (by omega) (by omega)]; exact hc
  unfold f5_played_82
  rw [hP.2.2.1, if_neg t1, hl, bS, if_neg tN0, hs_f hb (by omega) (by omega), bS, if_pos tP0, hours_m hP hd, bS, iand, if_neg t2]
  rfl
theorem p175_e {acc : Int} {x3 x4 v : Int32} (hP : GP P MC MM) (hd : d < P.1) (ht : t < 8) (hp : t % 2 = 0) : f5_played_175 MM fu k39 x1 x2 x3 x4 (zI acc) x7 (nI t) (nI d) (0 : Int32) v = k39 x1 x2 x3 x4 v (zI (acc + wz P d)) x7 (nI (t + 1)) := by
  have q4 : rmI (nI t) (2 : Int32) = some (nI (t % 2)) := rmN (z := t) (n := 2) (by omega) (by omega) (by omega)
  rw [hp] at q4
  have o0 : v ||| (0 : Int32) = v := Int32.or_zero
  unfold f5_played_175
  rw [nm_u, q4, bS, if_pos tP0, worth_m hP hd, bS, nm_u, nm_u, zadd, ad1, o0]
theorem p175_o {acc : Int} {x3 x4 : Int32} {a b : Nat} (hP : GP P MC MM) (hd : d < P.1) (ht : t < 8) (hp : t % 2 = 1) : f5_played_175 MM fu k39 x1 x2 x3 x4 (zI acc) x7 (nI t) (nI d) (nI a) (nI b) = k39 x1 x2 x3 x4 (nI (b ||| a)) (zI (acc + -wz P d)) x7 (nI (t + 1)) := by
  have q4 : rmI (nI t) (2 : Int32) = some (nI (t % 2)) := rmN (z := t) (n := 2) (by omega) (by omega) (by omega)
  rw [hp] at q4
  unfold f5_played_175
  rw [nm_u, q4, bS, if_neg tN0, worth_m hP hd, bS, nm_u, nm_u, zneg, zadd, ad1, ior]
theorem p82_e {acc : Int} {u5 : Int32} (hP : GP P MC MM) (hd : d < P.1) (hU : U < 256) (ht : t < 8) (hp : t % 2 = 0) (hl : f5_lies MM (nI d) = some (nI 1)) (hb : U.testBit d = false) (hc : h &&& hm P d = 0) : f5_played_82 MM fu k39 x1 x2 (nI U) (nI h) u5 (zI acc) x7 (nI t) (nI d) (nI h) = k39 x1 x2 (nI (U ||| 2 ^ d)) (nI (h ||| hm P d)) u5 (zI (acc + wz P d)) x7 (nI (t + 1)) := by
  have h8 := hP.1
  have t1 : ¬ nI P.1 ≤ nI d := by rw [nle (by omega) (by omega)]; omega
  have q4 : rmI (nI t) (2 : Int32) = some (nI (t % 2)) := rmN (z := t) (n := 2) (by omega) (by omega) (by omega)
  rw [hp] at q4
  unfold f5_played_82 f5_played_152
  rw [hP.2.2.1, if_neg t1, hl, bS, if_neg tN0, hs_f hb (by omega) (by omega), bS, if_pos tP0, hours_m hP hd, bS, iand, hc, if_pos tP0, nm_u, q4, bS, if_pos tP0, bS, nm_u, bS, if_neg tN1, p175_e hP hd ht hp, sh1 (by omega), ior, ior]
theorem p82_o {acc : Int} {u4 : Int32} (hP : GP P MC MM) (hd : d < P.1) (hU : U < 256) (ht : t < 8) (hp : t % 2 = 1) (hl : f5_lies MM (nI d) = some (nI 1)) (hb : U.testBit d = false) (hc : h &&& hm P d = 0) : f5_played_82 MM fu k39 x1 x2 (nI U) u4 (nI h) (zI acc) x7 (nI t) (nI d) (nI h) = k39 x1 x2 (nI (U ||| 2 ^ d)) u4 (nI (h ||| hm P d)) (zI (acc + -wz P d)) x7 (nI (t + 1)) := by
  have h8 := hP.1
  have t1 : ¬ nI P.1 ≤ nI d := by rw [nle (by omega) (by omega)]; omega
  have q4 : rmI (nI t) (2 : Int32) = some (nI (t % 2)) := rmN (z := t) (n := 2) (by omega) (by omega) (by omega)
  rw [hp] at q4
  have o0 : u4 ||| (0 : Int32) = u4 := Int32.or_zero
  unfold f5_played_82 f5_played_152
  rw [hP.2.2.1, if_neg t1, hl, bS, if_neg tN0, hs_f hb (by omega) (by omega), bS, if_pos tP0, hours_m hP hd, bS, iand, hc, if_pos tP0, nm_u, q4, bS, if_neg tN0, nm_u, bS, if_pos tP1, bS, p175_o hP hd ht hp, sh1 (by omega), ior, o0]
end P82
theorem played_l (hfu : 10000 ≤ fu) (hP : GP P MC MM) (hg : gst P.1 s) (hs : ∀ j, j ≤ P.1 → MM.1 10 j = s j) {n c : Nat} (hn4 : n ≤ 4) (hc : c < 9 ^ n) : ∀ (m t U x4 x5 a b y f : Nat) (sg acc : Int), t + m = n → m < f → U < 256 → a < 8192 → b < 8192 → ((t % 2 = 0 ∧ sg = 1 ∧ a = x4 ∧ b = x5) ∨ (t % 2 = 1 ∧ sg = -1 ∧ a = x5 ∧ b = x4)) → (m = 0 ∨ y = 9 ^ m / 9) → f5_played_39 MM fu f (nI c) (nI n) (nI U) (nI x4) (nI x5) (zI acc) (nI y) (nI t) = some (zI (lef P m sg (msk P.1 (lyB s) ^^^ (msk P.1 (lyB s) &&& U)) a b acc (c % 9 ^ m))) := by
  have h8 := hP.1
  have h9n : 9 ^ n ≤ 6561 := Nat.pow_le_pow_right (n := 9) (by omega) hn4
  intro m
  induction m with
  | zero =>
    intro t U x4 x5 a b y f sg acc ht hf hU ha hb hpar hy
    rcases f with _ | f
    · omega
    have : t = n := by omega
    subst this
    have t1 : nI t ≤ nI t := Int32.le_refl _
    rw [f5_played_39]
    dsimp only
    rw [if_pos t1]
    rfl
  | succ m ih =>
    intro t U x4 x5 a b y f sg acc ht hf hU ha hb hpar hy
    rcases f with _ | f
    · omega
    have hp0 : 0 < 9 ^ m := Nat.pow_pos (by omega)
    have hp1 : 9 ^ m ≤ 6561 := Nat.le_trans (Nat.pow_le_pow_right (n := 9) (by omega) (show m ≤ n by omega)) h9n
    have hy2 : y = 9 ^ m := by
      rcases hy with q | q
      · omega
      · rw [q, Nat.pow_succ, Nat.mul_div_cancel _ (by omega)]
    subst hy2
    have dj : c % 9 ^ (m + 1) / 9 ^ m = c / 9 ^ m % 9 := by rw [Nat.pow_succ, Nat.mod_mul_right_div_self]
    have jj : c % 9 ^ (m + 1) % 9 ^ m = c % 9 ^ m := by rw [Nat.pow_succ, Nat.mod_mul_right_mod]
    rw [lef_s, dj, jj]
    have hd9 : c / 9 ^ m % 9 < 9 := Nat.mod_lt _ (by omega)
    have pn := fun h => p39_none (MM := MM) (fu := fu) (c := c) (n := n) (U := U) (y := 9 ^ m) (t := t) (d := c / 9 ^ m % 9) (f := f) (x4 := nI x4) (x5 := nI x5) (acc := zI acc) (by omega) hp0 (by omega) (by omega) hn4 rfl h
    have pp := fun h => p39_82 (MM := MM) (fu := fu) (c := c) (n := n) (U := U) (y := 9 ^ m) (t := t) (d := c / 9 ^ m % 9) (f := f) (x4 := nI x4) (x5 := nI x5) (acc := zI acc) (by omega) hp0 (by omega) (by omega) hn4 rfl h
    generalize c / 9 ^ m % 9 = d at hd9 pn pp
    have ng : -(-1 : Int) = 1 := by decide
    have hyy : m = 0 ∨ 9 ^ m / 9 = 9 ^ m / 9 := Or.inr rfl
    by_cases c8 : 8 ≤ d
    · rw [if_pos c8, pn c8]
      rcases hpar with ⟨p1, rfl, rfl, rfl⟩ | ⟨p1, rfl, rfl, rfl⟩
      · exact ih (t + 1) U a b b a (9 ^ m / 9) f (-1) acc (by omega) (by omega) hU hb ha (Or.inr ⟨by omega, rfl, rfl, rfl⟩) hyy
      · rw [ng]
        exact ih (t + 1) U b a b a (9 ^ m / 9) f 1 acc (by omega) (by omega) hU hb ha (Or.inl ⟨by omega, rfl, rfl, rfl⟩) hyy
    · rw [if_neg c8, pp c8, free_tb]
      have bad : some (-nI 1000000) = some (zI (-1000000)) := by decide
      have hme : (if t % 2 = 0 then nI x4 else nI x5) = nI a := by
        rcases hpar with ⟨p1, -, e1, -⟩ | ⟨p1, -, e1, -⟩
        · rw [if_pos p1, e1]
        · rw [if_neg (by omega), e1]
      rw [hme]
      by_cases c1 : d < P.1
      · have hok := (hP.2.2.2.1 d c1).1
        have hmd := hm_lt hok
        have l0 := lies_m h8 hg hs c1
        cases c2 : lyB s d
        · rw [msk_tbk c1, c2, Bool.false_and, Bool.false_and, if_neg (by decide)]
          rw [c2, if_neg (by decide)] at l0
          rw [p82_b hP c1 l0, bad]
        · rw [c2, if_pos rfl] at l0
          cases c3 : U.testBit d
          · by_cases c4 : hm P d &&& a = 0
            · rw [msk_tbk c1, c2, if_pos (by rw [c4]; rfl)]
              have c4' : a &&& hm P d = 0 := by rw [Nat.and_comm]; exact c4
              have hU2 : U ||| 2 ^ d < 2 ^ 8 := Nat.or_lt_two_pow hU (Nat.pow_lt_pow_right (by omega) (by omega))
              have hor : a ||| hm P d < 8192 := Nat.or_lt_two_pow (n := 13) ha hmd
              rw [← free_or]
              rcases hpar with ⟨p1, rfl, rfl, rfl⟩ | ⟨p1, rfl, rfl, rfl⟩
              · rw [p82_e hP c1 hU (by omega) p1 l0 c3 c4', Int.one_mul]
                exact ih (t + 1) (U ||| 2 ^ d) (a ||| hm P d) b b (a ||| hm P d) (9 ^ m / 9) f (-1) (acc + wz P d) (by omega) (by omega) hU2 hb hor (Or.inr ⟨by omega, rfl, rfl, rfl⟩) hyy
              · rw [p82_o hP c1 hU (by omega) p1 l0 c3 c4', ng, show (-1 : Int) * wz P d = -wz P d by omega]
                exact ih (t + 1) (U ||| 2 ^ d) b (a ||| hm P d) b (a ||| hm P d) (9 ^ m / 9) f 1 (acc + -wz P d) (by omega) (by omega) hU2 hb hor (Or.inl ⟨by omega, rfl, rfl, rfl⟩) hyy
            · rw [if_neg (by simp [c4])]
              rw [p82_d hP c1 hU l0 c3 ha (by rw [Nat.and_comm]; exact c4), bad]
          · rw [show (!true) = false from rfl, Bool.and_false, Bool.false_and, if_neg (by decide)]
            rw [p82_c hP c1 hU l0 c3, bad]
      · rw [msk_tb, show decide (d < P.1) = false by simp [c1], Bool.false_and, Bool.false_and, Bool.false_and, if_neg (by decide)]
        rw [p82_a hP (by omega) c1, bad]
theorem played_m (hfu : 10000 ≤ fu) (hP : GP P MC MM) (hg : gst P.1 s) (hs : ∀ j, j ≤ P.1 → MM.1 10 j = s j) {n c : Nat} (hn4 : n ≤ 4) (hc : c < 9 ^ n) : f5_played MM fu (nI c) (nI n) = some (zI (lef P n 1 (msk P.1 (lyB s)) 0 0 0 c)) := by
  have h9n : 9 ^ n ≤ 6561 := Nat.pow_le_pow_right (n := 9) (by omega) hn4
  have e0 : msk P.1 (lyB s) ^^^ (msk P.1 (lyB s) &&& 0) = msk P.1 (lyB s) := by rw [Nat.and_zero, Nat.xor_zero]
  have ec : c % 9 ^ n = c := Nat.mod_eq_of_lt hc
  have fin : ∀ y, (n = 0 ∨ y = 9 ^ n / 9) → f5_played_39 MM fu fu (nI c) (nI n) (nI 0) (nI 0) (nI 0) (nI 0) (nI y) (nI 0) = some (zI (lef P n 1 (msk P.1 (lyB s)) 0 0 0 c)) := by
    intro y hy
    have := played_l hfu hP hg hs hn4 hc n 0 0 0 0 0 0 y fu 1 0 (by omega) (by omega) (by omega) (by omega) (by omega) (Or.inl ⟨rfl, rfl, rfl, rfl⟩) hy
    rw [e0, ec] at this
    exact this
  have key : ∀ (e i f : Nat), i + e = n → 1 ≤ i → e < f → f5_played_17 MM fu f (nI c) (nI n) (nI 0) (nI 0) (nI 0) (nI 0) (nI (9 ^ (i - 1))) (nI i) = some (zI (lef P n 1 (msk P.1 (lyB s)) 0 0 0 c)) := by
    intro e
    induction e with
    | zero =>
      intro i f hi lh1 hf
      rcases f with _ | f
      · omega
      have : i = n := by omega
      subst this
      rw [f5_played_17]
      simp (disch := omega) only [lit, nlt, nle, neq, nI_add, pk_mul, nm_u, bS, gd_d, oc_none, oc_some, rd_n, wr_n, if_pos, if_neg, ite_true, ite_false, not_true_eq_false, not_false_eq_true, g1, g2, g3, g4, h1, h2, h3, h4, ior, iand, shl_n, Nat.or_zero]
      refine fin _ (Or.inr ?_)
      obtain ⟨k, rfl⟩ : ∃ k, i = k + 1 := ⟨i - 1, by omega⟩
      rw [Nat.add_sub_cancel, Nat.pow_succ, Nat.mul_div_cancel _ (by omega)]
    | succ e ih =>
      intro i f hi lh1 hf
      rcases f with _ | f
      · omega
      have lh2 := ih (i + 1) f (by omega) (by omega) (by omega)
      have e1 : 9 ^ (i + 1 - 1) = 9 ^ (i - 1) * 9 := by
        obtain ⟨k, rfl⟩ : ∃ k, i = k + 1 := ⟨i - 1, by omega⟩
        rw [Nat.add_sub_cancel, Nat.add_sub_cancel, Nat.pow_succ]
      rw [e1] at lh2
      rw [f5_played_17]
      simp (disch := omega) only [lit, nlt, nle, neq, nI_add, pk_mul, nm_u, bS, gd_d, oc_none, oc_some, rd_n, wr_n, if_pos, if_neg, ite_true, ite_false, not_true_eq_false, not_false_eq_true, g1, g2, g3, g4, h1, h2, h3, h4, ior, iand, shl_n, Nat.or_zero]
      exact lh2
  unfold f5_played
  by_cases z : n = 0
  · subst z
    obtain ⟨g, hgf⟩ : ∃ g, fu = g + 1 := ⟨fu - 1, by omega⟩
    have st : f5_played_17 MM fu (g + 1) (nI c) (nI 0) (nI 0) (nI 0) (nI 0) (nI 0) (nI 1) (nI 1) = f5_played_39 MM fu fu (nI c) (nI 0) (nI 0) (nI 0) (nI 0) (nI 0) (nI 1) (nI 0) := by
      rw [f5_played_17]
      simp (disch := omega) only [lit, nlt, nle, neq, nI_add, pk_mul, nm_u, bS, gd_d, oc_none, oc_some, rd_n, wr_n, if_pos, if_neg, ite_true, ite_false, not_true_eq_false, not_false_eq_true, g1, g2, g3, g4, h1, h2, h3, h4, ior, iand, shl_n, Nat.or_zero]
    rw [← hgf] at st
    rw [lit, lit]
    rw [st]
    exact fin 1 (Or.inl rfl)
  · have := key (n - 1) 1 fu (by omega) (by omega) (by omega)
    exact this
end PL
