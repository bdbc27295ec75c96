/-! out of 47.game -/
def gam (P : PD) : Nat → Nat → Nat → Nat → Int
  | 0, _, _, _ => 0
  | m + 1, F, a, b => fo (fun k best => if F.testBit k && (hm P k &&& a == 0) then max best (wz P k - gam P m (F ^^^ (F &&& 2 ^ k)) b (a ||| hm P k)) else best) 8 (-(gam P m F b a))
def gpre (P : PD) (m F a b k : Nat) : Int := fo (fun k best => if F.testBit k && (hm P k &&& a == 0) then max best (wz P k - gam P m (F ^^^ (F &&& 2 ^ k)) b (a ||| hm P k)) else best) k (-(gam P m F b a))
theorem gam_s (P : PD) (m F a b : Nat) : gam P (m + 1) F a b = gpre P m F a b 8 := rfl
theorem gpre_s (P : PD) (m F a b k : Nat) : gpre P m F a b (k + 1) = if F.testBit k && (hm P k &&& a == 0) then max (gpre P m F a b k) (wz P k - gam P m (F ^^^ (F &&& 2 ^ k)) b (a ||| hm P k)) else gpre P m F a b k := rfl
theorem rmv_tb {F k j : Nat} : (F ^^^ (F &&& 2 ^ k)).testBit j = (F.testBit j && !(decide (k = j))) := by
  rw [Nat.testBit_xor, Nat.testBit_and, Nat.testBit_two_pow]
  cases F.testBit j <;> cases decide (k = j) <;> rfl
theorem rmv_ok {P : PD} {F k : Nat} (h : ∀ j, F.testBit j = true → okP P j) : ∀ j, (F ^^^ (F &&& 2 ^ k)).testBit j = true → okP P j := by
  intro j hj
  rw [rmv_tb] at hj
  simp at hj
  exact h j hj.1
theorem gam_bd {P : PD} : ∀ (m F a b : Nat), (∀ k, F.testBit k = true → okP P k) → -60 * (m : Int) ≤ gam P m F a b ∧ gam P m F a b ≤ 60 * (m : Int) := by
  intro m
  induction m with
  | zero =>
    intro F a b _
    exact ⟨by show -60 * ((0 : Nat) : Int) ≤ 0; omega, by show (0 : Int) ≤ 60 * ((0 : Nat) : Int); omega⟩
  | succ m ih =>
    intro F a b hF
    have h0 := ih F b a hF
    have key : ∀ k, -60 * ((m : Int) + 1) ≤ gpre P m F a b k ∧ gpre P m F a b k ≤ 60 * ((m : Int) + 1) := by
      intro k
      induction k with
      | zero =>
        have : gpre P m F a b 0 = -(gam P m F b a) := rfl
        omega
      | succ k ihk =>
        rw [gpre_s]
        by_cases c : F.testBit k && (hm P k &&& a == 0)
        · rw [if_pos c]
          have hk : F.testBit k = true := by simp at c; exact c.1
          have hw := wz_bd (hF k hk)
          have lh1 := ih (F ^^^ (F &&& 2 ^ k)) b (a ||| hm P k) (rmv_ok hF)
          omega
        · rw [if_neg c]
          exact ihk
    rw [gam_s]
    have := key 8
    omega
theorem gpre_bd {P : PD} {m F a b : Nat} (hF : ∀ k, F.testBit k = true → okP P k) (k : Nat) : -60 * ((m : Int) + 1) ≤ gpre P m F a b k ∧ gpre P m F a b k ≤ 60 * ((m : Int) + 1) := by
  have h0 := gam_bd m F b a hF
  induction k with
  | zero =>
    have : gpre P m F a b 0 = -(gam P m F b a) := rfl
    omega
  | succ k ihk =>
    rw [gpre_s]
    by_cases c : F.testBit k && (hm P k &&& a == 0)
    · rw [if_pos c]
      have hk : F.testBit k = true := by simp at c; exact c.1
      have hw := wz_bd (hF k hk)
      have lh1 := gam_bd m (F ^^^ (F &&& 2 ^ k)) b (a ||| hm P k) (rmv_ok hF)
      omega
    · rw [if_neg c]
      exact ihk
/-! out of 48.gain -/
theorem dvN {z n : Nat} (h : z < 2147483648) (hn : 0 < n) (hn2 : n < 2147483648) : dvI (nI z) (nI n) = some (nI (z / n)) := by
  have hb0 : ¬ nI n = 0 := by
    intro e
    have e2 : nI n = nI 0 := e
    rw [neq (by omega) (by omega)] at e2
    omega
  unfold dvI
  rw [if_neg hb0]
  congr 1
  apply Int32.toInt_inj.mp
  have hdl : z / n ≤ z := Nat.div_le_self z n
  rw [Int32.toInt_div, nI_toInt h, nI_toInt hn2, nI_toInt (by omega)]
  have : (z : Int).tdiv (n : Int) = ((z / n : Nat) : Int) := rfl
  rw [this]
  exact bm32 (Int.le_trans (by omega) (Int.natCast_nonneg _)) (Int.lt_of_le_of_lt (Int.ofNat_le.mpr hdl) (by omega))
theorem rmN {z n : Nat} (h : z < 2147483648) (hn : 0 < n) (hn2 : n < 2147483648) : rmI (nI z) (nI n) = some (nI (z % n)) := by
  have hb0 : ¬ nI n = 0 := by
    intro e
    have e2 : nI n = nI 0 := e
    rw [neq (by omega) (by omega)] at e2
    omega
  unfold rmI
  rw [if_neg hb0]
  congr 1
  apply Int32.toInt_inj.mp
  have hm : z % n < n := Nat.mod_lt _ hn
  have hd : z / n * n + z % n = z := by
    have := Nat.div_add_mod z n
    rw [Nat.mul_comm]; exact this
  have hdl : z / n ≤ z := Nat.div_le_self z n
  have e1 : (nI z / nI n).toInt = ((z / n : Nat) : Int) := by
    rw [Int32.toInt_div, nI_toInt h, nI_toInt hn2]
    have : (z : Int).tdiv (n : Int) = ((z / n : Nat) : Int) := rfl
    rw [this]
    exact bm32 (Int.le_trans (by omega) (Int.natCast_nonneg _)) (Int.lt_of_le_of_lt (Int.ofNat_le.mpr hdl) (by omega))
  have e2 : (nI z / nI n * nI n).toInt = ((z / n * n : Nat) : Int) := by
    rw [Int32.toInt_mul, e1, nI_toInt hn2]
    have : ((z / n : Nat) : Int) * (n : Int) = ((z / n * n : Nat) : Int) := by rw [Int.natCast_mul]
    rw [this]
    exact bm32 (by omega) (by omega)
  rw [Int32.toInt_sub, nI_toInt h, e2, nI_toInt (by omega)]
  rw [bm32 (by omega) (by omega)]
  omega
section GN
variable {P : PD} {MC MM : Mem} {fu : Nat}
theorem gain_c (hfu : 10000 ≤ fu) (hP : GP P MC MM) : ∀ (m d F a b : Nat), m ≤ 6 → m < d → F < 2 ^ P.1 → a < 8192 → b < 8192 → f4_gainByTurns_35 MC fu d (nI m) (nI F) (nI a) (nI b) = some (zI (gam P m F a b)) := by
  have h8 := hP.1
  have h256 := pow8 h8
  intro m
  induction m with
  | zero =>
    intro d F a b hm6 hd hF ha hb
    rcases d with _ | d
    · omega
    rw [f4_gainByTurns_35]
    unfold f4_gainByTurns_35_e
    simp (disch := omega) only [lit, nlt, nle, neq, nI_add, pk_mul, nm_u, bS, gd_d, oc_none, oc_some, rd_n, wr_n, if_pos, if_neg, ite_true, ite_false, not_true_eq_false, not_false_eq_true, g1, g2, g3, g4, h1, h2, h3, h4, ior, iand, shl_n, Nat.or_zero]
    rfl
  | succ m ih =>
    intro d F a b hm6 hd hF ha hb
    rcases d with _ | d
    · omega
    have hok : ∀ k, F.testBit k = true → okP P k := by
      intro k hk
      by_cases c : k < P.1
      · exact (hP.2.2.2.1 k c).1
      · rw [tb_ge hF (by omega)] at hk; cases hk
    have e1 : nI (m + 1) - nI 1 = nI m := by rw [pk_sub (by omega), Nat.add_sub_cancel]
    have r0 := ih d F b a (by omega) (by omega) hF hb ha
    have key : ∀ (e k f : Nat), k + e = P.1 → e < f → f4_gainByTurns_35_23 MC fu (f4_gainByTurns_35 MC fu d) f (nI (m + 1)) (nI F) (nI a) (nI b) (zI (gpre P m F a b k)) (nI k) = some (zI (gpre P m F a b P.1)) := by
      intro e
      induction e with
      | zero =>
        intro k f hk hf
        rcases f with _ | f
        · omega
        have : k = P.1 := by omega
        subst this
        rw [f4_gainByTurns_35_23]
        simp (disch := omega) only [lit, nlt, nle, neq, nI_add, pk_mul, nm_u, bS, gd_d, oc_none, oc_some, rd_n, wr_n, if_pos, if_neg, ite_true, ite_false, not_true_eq_false, not_false_eq_true, g1, g2, g3, g4, h1, h2, h3, h4, ior, iand, shl_n, Nat.or_zero, hP.2.1]
      | succ e ihe =>
        intro k f hk hf
        rcases f with _ | f
        · omega
        have hk1 : k < P.1 := by omega
        have lh2 := ihe (k + 1) f (by omega) (by omega)
        rw [gpre_s] at lh2
        obtain ⟨hokk, -, -, -, -, -, e5, e6, -⟩ := hP.2.2.2.1 k hk1
        have hlt : hm P k &&& a < 8192 := Nat.lt_of_le_of_lt Nat.and_le_right ha
        rw [f4_gainByTurns_35_23]
        unfold f4_gainByTurns_35_58
        cases c : F.testBit k
        · rw [c, Bool.false_and, if_neg (by decide)] at lh2
          simp (disch := omega) only [lit, nlt, nle, neq, nI_add, pk_mul, nm_u, bS, gd_d, oc_none, oc_some, rd_n, wr_n, if_pos, if_neg, ite_true, ite_false, not_true_eq_false, not_false_eq_true, g1, g2, g3, g4, h1, h2, h3, h4, ior, iand, shl_n, Nat.or_zero, hP.2.1, bit_f c (show k < 31 by omega) (show F < 2147483648 by omega)]
          exact lh2
        · by_cases z : hm P k &&& a = 0
          · rw [if_pos (by rw [c, z]; rfl)] at lh2
            have hor : a ||| hm P k < 8192 := Nat.or_lt_two_pow (n := 13) ha (hm_lt hokk)
            have r1 := ih d (F ^^^ (F &&& 2 ^ k)) b (a ||| hm P k) (by omega) (by omega) (xa_lt hF) hb hor
            have b1 := gam_bd m (F ^^^ (F &&& 2 ^ k)) b (a ||| hm P k) (rmv_ok hok)
            have b2 := gpre_bd (m := m) (a := a) (b := b) hok k
            have hw := wz_bd hokk
            simp (disch := omega) only [lit, nlt, nle, neq, nI_add, pk_mul, nm_u, bS, gd_d, oc_none, oc_some, rd_n, wr_n, if_pos, if_neg, ite_true, ite_false, not_true_eq_false, not_false_eq_true, g1, g2, g3, g4, h1, h2, h3, h4, ior, iand, shl_n, Nat.or_zero, hP.2.1, bit_t c (show k < 31 by omega) (show F < 2147483648 by omega), kq9, e5, z, andnot, e1, r1, e6, zsub, zlt]
            by_cases q : gpre P m F a b k < wz P k - gam P m (F ^^^ (F &&& 2 ^ k)) b (a ||| hm P k)
            · rw [if_pos q]
              rw [show max (gpre P m F a b k) (wz P k - gam P m (F ^^^ (F &&& 2 ^ k)) b (a ||| hm P k)) = wz P k - gam P m (F ^^^ (F &&& 2 ^ k)) b (a ||| hm P k) by omega] at lh2
              exact lh2
            · rw [if_neg q]
              rw [show max (gpre P m F a b k) (wz P k - gam P m (F ^^^ (F &&& 2 ^ k)) b (a ||| hm P k)) = gpre P m F a b k by omega] at lh2
              exact lh2
          · rw [if_neg (by simp [z])] at lh2
            simp (disch := omega) only [lit, nlt, nle, neq, nI_add, pk_mul, nm_u, bS, gd_d, oc_none, oc_some, rd_n, wr_n, if_pos, if_neg, ite_true, ite_false, not_true_eq_false, not_false_eq_true, g1, g2, g3, g4, h1, h2, h3, h4, ior, iand, shl_n, Nat.or_zero, hP.2.1, bit_t c (show k < 31 by omega) (show F < 2147483648 by omega), kq9, e5, z]
            exact lh2
    have e8 : gpre P m F a b 8 = gpre P m F a b P.1 := by
      refine fo_ext (fun k best hk => ?_) _ 8 h8
      show (if F.testBit k && (hm P k &&& a == 0) then _ else best) = best
      rw [tb_ge hF hk, Bool.false_and, if_neg (by decide)]
    rw [gam_s, e8, f4_gainByTurns_35]
    unfold f4_gainByTurns_35_e
    simp (disch := omega) only [lit, nlt, nle, neq, nI_add, pk_mul, nm_u, bS, gd_d, oc_none, oc_some, rd_n, wr_n, if_pos, if_neg, ite_true, ite_false, not_true_eq_false, not_false_eq_true, g1, g2, g3, g4, h1, h2, h3, h4, ior, iand, shl_n, Nat.or_zero, e1, r0, zneg]
    exact key P.1 0 fu (by omega) (by omega)
end GN
section PL
variable {P : PD} {s : Nat → Int32} {MC MM : Mem} {fu : Nat}
theorem tP0 : nI 0 = (0 : Int32) := rfl
theorem tN0 : ¬ nI 1 = (0 : Int32) := by decide
theorem tP1 : nI 1 = (1 : Int32) := rfl
theorem tN1 : ¬ nI 0 = (1 : Int32) := by decide
theorem ad1 {t : Nat} : nI t + (1 : Int32) = nI (t + 1) := by
  show nI t + nI 1 = _
  rw [nI_add]
theorem sh1 {d : Nat} (hd : d < 31) : (1 : Int32) <<< (nI d &&& 31) = nI (2 ^ d) := by
  show nI 1 <<< (nI d &&& nI 31) = _
  rw [iand]
  exact shl_n hd
section P82
variable {k39 : Int32 → Int32 → Int32 → Int32 → Int32 → Int32 → Int32 → Int32 → Option Int32} {x1 x2 x4 x5 x6 x7 s0 : Int32} {U t d h : Nat}
end P82
end PL
/-! out of 50.bests -/
theorem mx_ub {P : PD} {S t : Nat} (hS : S < 256) (h : okS P S t = true) : sm P t ≤ mx P S := by
  obtain ⟨-, -, a3, a4, -⟩ := bst_inv P S 256
  rw [mx_mxn, ← a3]
  have := okS_le h
  exact a4 t (by omega) h
theorem mx_at {P : PD} (S : Nat) : ∃ t, okS P S t = true ∧ sm P t = mx P S := by
  obtain ⟨-, a2, a3, -, -⟩ := bst_inv P S 256
  exact ⟨_, a2, a3⟩
theorem mx_eq {P : PD} {S : Nat} {v : Int} (hS : S < 256) (lh1 : ∀ t, okS P S t = true → sm P t ≤ v) (lh2 : ∃ t, okS P S t = true ∧ sm P t = v) : v = mx P S := by
  obtain ⟨t, b1, b2⟩ := lh2
  obtain ⟨u, c1, c2⟩ := mx_at (P := P) S
  have := mx_ub hS b1
  have := lh1 u c1
  omega
theorem mx_ge {P : PD} {S : Nat} (hS : S < 256) : 0 ≤ mx P S := by
  have := mx_ub (P := P) hS okS_0
  rw [sm_0] at this
  exact this
theorem okS_of {P : PD} {S t : Nat} (lh1 : t &&& S = t) (lh2 : apt P t = true) : okS P S t = true := by
  unfold okS
  rw [lh1, lh2]
  simp
theorem zle0 {a : Int} (a1 : -2147483648 ≤ a) (a2 : a < 2147483648) : (zI a ≤ nI 0) = (a ≤ 0) := zle (b := 0) a1 a2 (by decide) (by decide)
section LB
variable {P : PD} {MC MM : Mem} {fu : Nat}
theorem mx_bd (hP : GP P MC MM) {S : Nat} (hS : S < 2 ^ P.1) : 0 ≤ mx P S ∧ mx P S ≤ 480 := by
  have h256 := pow8 hP.1
  obtain ⟨t, b1, b2⟩ := mx_at (P := P) S
  have := okS_le b1
  have lh1 := smb hP (T := t) (by omega)
  have lh2 := mx_ge (P := P) (S := S) (by omega)
  omega
end LB
/-! out of 51.ways -/
def pw (x : Int64) : Nat → Int64
  | 0 => 1
  | k + 1 => pw x k * x
theorem power_c {fu k : Nat} {x : Int64} (hfu : 10000 ≤ fu) (hk : k ≤ 8) : f4_power fu x (nI k) = some (pw x k) := by
  have key : ∀ (e i f : Nat), i + e = k → e < f → f4_power_5 fu f x (nI k) (pw x i) (nI i) = some (pw x k) := by
    intro e
    induction e with
    | zero =>
      intro i f hi hf
      rcases f with _ | f
      · omega
      have : i = k := by omega
      subst this
      rw [f4_power_5]
      simp (disch := omega) only [lit, nlt, nle, neq, nI_add, pk_mul, nm_u, bS, gd_d, oc_none, oc_some, rd_n, wr_n, if_pos, if_neg, ite_true, ite_false, not_true_eq_false, not_false_eq_true, g1, g2, g3, g4, h1, h2, h3, h4]
    | succ e ih =>
      intro i f hi hf
      rcases f with _ | f
      · omega
      have lh2 := ih (i + 1) f (by omega) (by omega)
      rw [f4_power_5]
      simp (disch := omega) only [lit, nlt, nle, neq, nI_add, pk_mul, nm_u, bS, gd_d, oc_none, oc_some, rd_n, wr_n, if_pos, if_neg, ite_true, ite_false, not_true_eq_false, not_false_eq_true, g1, g2, g3, g4, h1, h2, h3, h4]
      exact lh2
  exact key k 0 fu (by omega) (by omega)
/-- sums of longs -/
def sg64 (g : Nat → Int64) : Nat → Int64
  | 0 => 0
  | n + 1 => sg64 g n + g n
theorem sg_cg {g h : Nat → Int64} : ∀ n, (∀ k, k < n → g k = h k) → sg64 g n = sg64 h n := by
  intro n
  induction n with
  | zero => intro _; rfl
  | succ n ih =>
    intro q
    show sg64 g n + g n = sg64 h n + h n
    rw [ih (fun k hk => q k (by omega)), q n (by omega)]
theorem sg_front (g : Nat → Int64) : ∀ n, sg64 g (n + 1) = g 0 + sg64 (fun i => g (i + 1)) n := by
  intro n
  induction n with
  | zero =>
    show 0 + g 0 = g 0 + 0
    rw [Int64.zero_add, Int64.add_zero]
  | succ n ih =>
    show sg64 g (n + 1) + g (n + 1) = g 0 + (sg64 (fun i => g (i + 1)) n + g (n + 1))
    rw [ih, Int64.add_assoc]
theorem sg_rev (g : Nat → Int64) : ∀ n, sg64 g n = sg64 (fun i => g (n - 1 - i)) n := by
  intro n
  induction n with
  | zero => rfl
  | succ n ih =>
    rw [sg_front (fun i => g (n + 1 - 1 - i)) n]
    show sg64 g n + g n = g (n + 1 - 1 - 0) + _
    rw [ih, Int64.add_comm]
    congr 1
    · exact sg_cg n (fun k hk => by show g (n - 1 - k) = g (n + 1 - 1 - (k + 1)); congr 1; omega)
theorem sg_ext {g : Nat → Int64} {n : Nat} (h : ∀ k, n ≤ k → g k = 0) : ∀ m, n ≤ m → sg64 g m = sg64 g n := by
  intro m
  induction m with
  | zero => intro hm; rw [show n = 0 by omega]
  | succ m ih =>
    intro hm
    by_cases e : n = m + 1
    · rw [e]
    · show sg64 g m + g m = _
      rw [ih (by omega), h m (by omega), Int64.add_zero]
theorem sub_xor {L T : Nat} (hL : L < 256) (h : T &&& L = T) : L - T = L ^^^ T := by
  have key : ∀ L, L < 256 → ∀ T, T < 256 → T &&& L = T → L - T = L ^^^ T := by decide +kernel
  have := Nat.and_le_right (n := T) (m := L)
  exact key L hL T (by omega) h
theorem xor_sub {L T : Nat} (h : T &&& L = T) : (L ^^^ T) &&& L = L ^^^ T := by
  rw [and_sub]
  intro j hj
  rw [Nat.testBit_xor] at hj
  have := and_sub.mp h j
  revert hj this
  cases L.testBit j <;> cases T.testBit j <;> simp
theorem xor_xor {L T : Nat} : L ^^^ (L ^^^ T) = T := by rw [← Nat.xor_assoc, Nat.xor_self, Nat.zero_xor]
/-- over the parts of L one may go from either side -/
theorem sum_flip {L : Nat} (hL : L < 256) (f : Nat → Int64) : sg64 (fun T => if T &&& L = T then f T else 0) (L + 1) = sg64 (fun T => if T &&& L = T then f (L ^^^ T) else 0) (L + 1) := by
  rw [sg_rev]
  refine sg_cg (L + 1) (fun T hT => ?_)
  show (if (L + 1 - 1 - T) &&& L = L + 1 - 1 - T then f (L + 1 - 1 - T) else 0) = _
  rw [Nat.add_sub_cancel]
  by_cases c : T &&& L = T
  · rw [if_pos c, sub_xor hL c, if_pos (xor_sub c)]
  · rw [if_neg c, if_neg]
    intro q
    apply c
    have lh1 := sub_xor hL q
    rw [show L - (L - T) = T by omega] at lh1
    rw [lh1]
    exact xor_sub q
def fac (T L p k : Nat) : Nat := if L.testBit k then (if T.testBit k then p else 12 - p) else 1
def prN (T L p k : Nat) : Nat := fo (fun k x => x * fac T L p k) k 1
def fc64 (T L p k : Nat) : Int64 := if L.testBit k then (if T.testBit k then (nI p).toInt64 else (nI (12 - p)).toInt64) else 1
def pr64 (T L p k : Nat) : Int64 := fo (fun k x => x * fc64 T L p k) k 1
theorem pr64_s (T L p k : Nat) : pr64 T L p (k + 1) = pr64 T L p k * fc64 T L p k := rfl
theorem prN_s (T L p k : Nat) : prN T L p (k + 1) = prN T L p k * fac T L p k := rfl
theorem one64 : (1 : Int64).toInt = ((1 : Nat) : Int) := by decide
theorem fc_int {T L p k : Nat} (hp : p ≤ 12) : (fc64 T L p k).toInt = (fac T L p k : Nat) ∧ fac T L p k ≤ 12 := by
  unfold fc64 fac
  split
  · split
    · exact ⟨n64 (by omega), hp⟩
    · exact ⟨n64 (by omega), by omega⟩
  · exact ⟨one64, by omega⟩
theorem pr_int {T L p : Nat} (hp : p ≤ 12) : ∀ k, k ≤ 8 → (pr64 T L p k).toInt = (prN T L p k : Nat) ∧ prN T L p k ≤ 12 ^ k := by
  intro k
  induction k with
  | zero => intro _; exact ⟨one64, Nat.le_refl 1⟩
  | succ k ih =>
    intro hk
    obtain ⟨a1, a2⟩ := ih (by omega)
    obtain ⟨b1, b2⟩ := fc_int (T := T) (L := L) (k := k) hp
    have lh3 := Nat.mul_le_mul a2 b2
    have lh4 : 12 ^ k * 12 ≤ 429981696 := by
      have := Nat.pow_le_pow_right (n := 12) (by omega) hk
      rw [Nat.pow_succ] at this
      exact this
    rw [pr64_s, prN_s, Nat.pow_succ]
    refine ⟨?_, lh3⟩
    rw [Int64.toInt_mul, a1, b1, ← Int.natCast_mul]
    generalize prN T L p k * fac T L p k = z at lh3
    exact i64_bd (by omega) (by omega)
/-- the product, kind by kind -/
theorem pr_pw {T L p n : Nat} (hT : T &&& L = T) : pr64 T L p n = pw (nI (12 - p)).toInt64 (cnt n (fun k => (L ^^^ T).testBit k)) * pw (nI p).toInt64 (cnt n (fun k => T.testBit k)) := by
  induction n with
  | zero =>
    show (1 : Int64) = 1 * 1
    decide
  | succ n ih =>
    rw [pr64_s, ih, cnt_s, cnt_s]
    have hs := and_sub.mp hT n
    unfold fc64
    rw [Nat.testBit_xor]
    cases lh1 : L.testBit n
    · cases lh2 : T.testBit n
      · rw [if_neg (by decide), if_neg (by decide), if_neg (by decide), Int64.mul_one]
      · rw [lh2, lh1] at hs; exact absurd (hs rfl) (by decide)
    · cases lh2 : T.testBit n
      · rw [if_pos rfl, if_neg (by decide), if_pos (by decide), if_neg (by decide)]
        show _ = pw (nI (12 - p)).toInt64 (cnt n (fun k => (L ^^^ T).testBit k)) * (nI (12 - p)).toInt64 * _
        rw [Int64.mul_assoc, Int64.mul_assoc, Int64.mul_comm (nI (12 - p)).toInt64]
      · rw [if_pos rfl, if_pos rfl, if_neg (by decide), if_pos rfl]
        show _ = _ * (pw (nI p).toInt64 (cnt n (fun k => T.testBit k)) * (nI p).toInt64)
        rw [Int64.mul_assoc]
theorem cnt_pcn {S n : Nat} (hn : n ≤ 8) (hS : S < 2 ^ n) : cnt n (fun k => S.testBit k) = pcn S := by
  have e : msk n (fun k => S.testBit k) = S := by
    apply Nat.eq_of_testBit_eq
    intro i
    rw [msk_tb]
    by_cases c : i < n
    · simp [c]
    · rw [tb_ge hS (by omega)]; simp
  have lh1 := pcn_msk hn (fun k => S.testBit k)
  rw [e] at lh1
  exact lh1.symm
/-- what is asked of a set: what it is worth at most; or whether that is v or more -/
def vl (P : PD) (md : Option Nat) (S : Nat) : Int64 := match md with
  | none => (zI (mx P S)).toInt64
  | some v => if mx P S < (v : Int) then (nI 0).toInt64 else (nI 1).toInt64
def mdI (md : Option Nat) : Int32 := match md with
  | none => -nI 9
  | some v => nI v
theorem i0_64 : (nI 0).toInt64 = 0 := by decide
theorem i1_64 : (nI 1).toInt64 = 1 := by decide
/-- a term -/
def tm (P : PD) (md : Option Nat) (H L p n T : Nat) : Int64 := pr64 T L p n * vl P md (H ||| (L ^^^ T))
section WY
variable {P : PD} {MC MM : Mem} {fu H L p : Nat} {md : Option Nat} {g : Nat → Int32}
theorem tm_c {T : Nat} (hP : GP P MC MM) (hL : L < 2 ^ P.1) (hT : T &&& L = T) : tm P md H L p P.1 (L ^^^ T) = pw (nI (12 - p)).toInt64 (pcn T) * pw (nI p).toInt64 (pcn (L ^^^ (L &&& T))) * vl P md (H ||| T) := by
  have hTL : T ≤ L := by
    have := Nat.and_le_right (n := T) (m := L)
    omega
  have hLT : L ^^^ (L &&& T) = L ^^^ T := by rw [Nat.and_comm, hT]
  unfold tm
  rw [pr_pw (xor_sub hT), xor_xor, hLT, cnt_pcn hP.1 (show T < 2 ^ P.1 by omega), cnt_pcn hP.1 (Nat.xor_lt_two_pow hL (by omega))]
theorem weigh_c {T : Nat} (hfu : 10000 ≤ fu) (hP : GP P MC MM) (hp : p ≤ 12) (hL : L < 2 ^ P.1) (hT : T < 2 ^ P.1) : f4_weigh fu (nI T) (nI L) (nI p) = some (pw (nI (12 - p)).toInt64 (pcn T) * pw (nI p).toInt64 (pcn (L ^^^ (L &&& T)))) := by
  have h256 := pow8 hP.1
  have hx : L ^^^ (L &&& T) < 2 ^ P.1 := xa_lt hL
  have p1 := pcn_le (S := T) (by omega)
  have p2 := pcn_le (S := L ^^^ (L &&& T)) (by omega)
  unfold f4_weigh
  simp (disch := omega) only [lit, nlt, nle, neq, nI_add, pk_mul, nm_u, bS, gd_d, oc_none, oc_some, rd_n, wr_n, if_pos, if_neg, ite_true, ite_false, not_true_eq_false, not_false_eq_true, g1, g2, g3, g4, h1, h2, h3, h4, ior, iand, shl_n, Nat.or_zero, andnot, bitC, pk_sub, power_c hfu]
end WY
/-! out of 52.frac -/
theorem li_i {a : Int64} {z : Int} (h : a.toInt = z) : a = 0 ↔ z = 0 := by
  rw [← Int64.toInt_inj, h]
  have : (0 : Int64).toInt = 0 := by decide
  rw [this]
theorem rmL_n {a b : Int64} {x y : Nat} (ha : a.toInt = x) (hb : b.toInt = y) (hx : x < 4611686018427387904) (hy : y < 4611686018427387904) (hy0 : 0 < y) : ∃ r : Int64, rmLo a b = some r ∧ r.toInt = ((x % y : Nat) : Int) := by
  have hb0 : ¬ b = 0 := by
    rw [li_i hb]; omega
  have hm : x % y < y := Nat.mod_lt _ hy0
  have hd : x / y * y + x % y = x := by
    have := Nat.div_add_mod x y
    rw [Nat.mul_comm]; exact this
  have hdl : x / y ≤ x := Nat.div_le_self x y
  refine ⟨a - a / b * b, ?_, ?_⟩
  · unfold rmLo
    rw [if_neg hb0]
  · have e1 : (a / b).toInt = ((x / y : Nat) : Int) := by
      rw [Int64.toInt_div, ha, hb]
      have : (x : Int).tdiv (y : Int) = ((x / y : Nat) : Int) := rfl
      rw [this]
      exact i64_bd (Int.le_trans (by omega) (Int.natCast_nonneg _)) (Int.lt_of_le_of_lt (Int.ofNat_le.mpr hdl) (by omega))
    have e2 : (a / b * b).toInt = ((x / y * y : Nat) : Int) := by
      rw [Int64.toInt_mul, e1, hb]
      have : ((x / y : Nat) : Int) * (y : Int) = ((x / y * y : Nat) : Int) := by rw [Int.natCast_mul]
      rw [this]
      exact i64_bd (by omega) (by omega)
    rw [Int64.toInt_sub, ha, e2]
    rw [i64_bd (by omega) (by omega)]
    omega
theorem gcd_step {u v : Nat} : Nat.gcd v (u % v) = Nat.gcd u v := by
  rw [Nat.gcd_comm v, ← Nat.gcd_rec, Nat.gcd_comm]
theorem mod2 {v r : Nat} (hr : 0 < r) (h : r < v) : 2 * (v % r) < v := by
  have h1 : v % r < r := Nat.mod_lt _ hr
  have h2 := Nat.mod_add_div v r
  have h3 : 1 ≤ v / r := by
    rw [Nat.le_div_iff_mul_le hr]
    omega
  have h4 := Nat.mul_le_mul_left r h3
  omega
theorem fr_c {fu : Nat} {x1 x3 : Int64} {M : Mem} : ∀ (k u v f w : Nat) (x7 x5 : Int64), x7.toInt = (u : Int) → x5.toInt = (v : Int) → u < 4611686018427387904 → v < 4611686018427387904 → v < 2 ^ k → 2 * k < f → w + 2 * k < 1000 → ∃ G : Int64, G.toInt = ((Nat.gcd u v : Nat) : Int) ∧ f4_tellFraction_9 fu f x1 x3 x5 x7 (nI w) M = f4_tellFraction_45 fu x1 x3 G M := by
  intro k
  induction k with
  | zero =>
    intro u v f w x7 x5 hu hv lu lv hk hf hw
    rcases f with _ | f
    · omega
    have v0 : v = 0 := by
      have : (2 : Nat) ^ 0 = 1 := rfl
      omega
    subst v0
    have z : x5 = 0 := (li_i hv).mpr rfl
    have t1 : lg_cmp x5 (0 : Int64) = 0 := (lg_cmp_eq _ _).mpr z
    have t0 : ¬ (1000 : Int32) ≤ nI w := by
      show ¬ nI 1000 ≤ nI w
      rw [nle (by omega) (by omega)]; omega
    refine ⟨x7, by rw [hu, Nat.gcd_zero_right], ?_⟩
    rw [f4_tellFraction_9]
    dsimp only
    rw [if_neg t0, if_pos t1]
  | succ k ih =>
    intro u v f w x7 x5 hu hv lu lv hk hf hw
    rcases f with _ | f
    · omega
    have t0 : ¬ (1000 : Int32) ≤ nI w := by
      show ¬ nI 1000 ≤ nI w
      rw [nle (by omega) (by omega)]; omega
    by_cases v0 : v = 0
    · subst v0
      have z : x5 = 0 := (li_i hv).mpr rfl
      have t1 : lg_cmp x5 (0 : Int64) = 0 := (lg_cmp_eq _ _).mpr z
      refine ⟨x7, by rw [hu, Nat.gcd_zero_right], ?_⟩
      rw [f4_tellFraction_9]
      dsimp only
      rw [if_neg t0, if_pos t1]
    have n1 : ¬ lg_cmp x5 (0 : Int64) = 0 := by
      rw [lg_cmp_eq, li_i hv]; omega
    obtain ⟨r, r1, r2⟩ := rmL_n hu hv lu lv (by omega)
    have hm : u % v < v := Nat.mod_lt _ (by omega)
    have t0' : ¬ (1000 : Int32) ≤ nI (w + 1) := by
      show ¬ nI 1000 ≤ nI (w + 1)
      rw [nle (by omega) (by omega)]; omega
    rcases f with _ | f
    · omega
    by_cases r0 : u % v = 0
    · have z : r = 0 := (li_i r2).mpr (by omega)
      have t1 : lg_cmp r (0 : Int64) = 0 := (lg_cmp_eq _ _).mpr z
      refine ⟨x5, ?_, ?_⟩
      · rw [hv, ← gcd_step, r0, Nat.gcd_zero_right]
      · rw [f4_tellFraction_9]
        dsimp only
        rw [if_neg t0, if_neg n1, r1, bS, nm_u, ad1, f4_tellFraction_9]
        dsimp only
        rw [if_neg t0', if_pos t1]
    · have n2 : ¬ lg_cmp r (0 : Int64) = 0 := by
        rw [lg_cmp_eq, li_i r2]; omega
      obtain ⟨q, q1, q2⟩ := rmL_n hv r2 lv (by omega) (by omega)
      have h2 := mod2 (v := v) (r := u % v) (by omega) hm
      have hp : 2 ^ (k + 1) = 2 * 2 ^ k := by rw [Nat.pow_succ, Nat.mul_comm]
      obtain ⟨G, g5, g6⟩ := ih (u % v) (v % (u % v)) f (w + 1 + 1) r q r2 q2 (by omega) (by omega) (by omega) (by omega) (by omega)
      refine ⟨G, ?_, ?_⟩
      · rw [g5, gcd_step, gcd_step]
      · rw [f4_tellFraction_9]
        dsimp only
        rw [if_neg t0, if_neg n1, r1, bS, nm_u, ad1, f4_tellFraction_9]
        dsimp only
        rw [if_neg t0', if_neg n2, q1, bS, nm_u, ad1]
        exact g6
/-! out of 53.odds -/
theorem twelve : ∀ k, k ≤ 8 → (pw (12 : Int64) k).toInt = ((12 ^ k : Nat) : Int) := by
  intro k
  induction k with
  | zero => intro _; exact one64
  | succ k ih =>
    intro hk
    have h5 : 12 ^ k * 12 ≤ 429981696 := by
      have := Nat.pow_le_pow_right (n := 12) (by omega) hk
      rw [Nat.pow_succ] at this
      exact this
    rw [Nat.pow_succ]
    show (pw (12 : Int64) k * 12).toInt = _
    rw [Int64.toInt_mul, ih (by omega), show (12 : Int64).toInt = ((12 : Nat) : Int) by decide, ← Int.natCast_mul]
    generalize 12 ^ k * 12 = z at h5
    exact i64_bd (by omega) (by omega)
section OD
variable {P : PD} {s : Nat → Int32} {MC MM : Mem} {fu H L p : Nat} {md : Option Nat}
def cs64 (P : PD) (md : Option Nat) (H L p : Nat) (i : Nat) : Int64 := sg64 (fun T => if T &&& L = T then tm P md H L p P.1 (L ^^^ T) else 0) i
def ms64 (P : PD) (md : Option Nat) (H L p : Nat) (i : Nat) : Int64 := sg64 (fun T => if T &&& L = T then tm P md H L p P.1 T else 0) i
theorem cs_s (i : Nat) : cs64 P md H L p (i + 1) = cs64 P md H L p i + (if i &&& L = i then tm P md H L p P.1 (L ^^^ i) else 0) := rfl
theorem ms_s (i : Nat) : ms64 P md H L p (i + 1) = ms64 P md H L p i + (if i &&& L = i then tm P md H L p P.1 i else 0) := rfl
theorem ms_cs {n : Nat} (hn : n ≤ 8) (hL : L < 2 ^ n) : ms64 P md H L p (2 ^ n) = cs64 P md H L p (L + 1) := by
  have h256 := pow8 hn
  unfold ms64 cs64
  rw [← sum_flip (by omega)]
  refine sg_ext (fun k hk => ?_) (2 ^ n) (by omega)
  refine if_neg (fun q => ?_)
  have := Nat.and_le_right (n := k) (m := L)
  omega
theorem vl_int (hP : GP P MC MM) {S : Nat} (hS : S < 2 ^ P.1) : ∃ z : Nat, z ≤ 480 ∧ (vl P md S).toInt = (z : Int) := by
  have b1 := mx_bd hP hS
  rcases md with _ | v
  · refine ⟨(mx P S).toNat, by omega, ?_⟩
    show (zI (mx P S)).toInt64.toInt = _
    rw [Int32.toInt_toInt64, zI_toInt (by omega) (by omega)]
    omega
  · show ∃ z : Nat, z ≤ 480 ∧ (if mx P S < (v : Int) then (nI 0).toInt64 else (nI 1).toInt64).toInt = (z : Int)
    split
    · exact ⟨0, by omega, n64 (by omega)⟩
    · exact ⟨1, by omega, n64 (by omega)⟩
theorem tm_int (hP : GP P MC MM) (hp : p ≤ 12) (hH : H < 2 ^ P.1) (hL : L < 2 ^ P.1) {T : Nat} (hT : T &&& L = T) : ∃ z : Nat, z ≤ 206391214080 ∧ (tm P md H L p P.1 T).toInt = (z : Int) := by
  have hTL : T ≤ L := by
    have := Nat.and_le_right (n := T) (m := L)
    omega
  obtain ⟨z, z1, z2⟩ := vl_int (md := md) hP (S := H ||| (L ^^^ T)) (Nat.or_lt_two_pow hH (Nat.xor_lt_two_pow hL (by omega)))
  obtain ⟨q1, q2⟩ := pr_int (T := T) (L := L) hp P.1 hP.1
  have q3 : (12 : Nat) ^ P.1 ≤ 429981696 := Nat.pow_le_pow_right (n := 12) (by omega) hP.1
  have q4 := Nat.mul_le_mul (Nat.le_trans q2 q3) z1
  refine ⟨prN T L p P.1 * z, q4, ?_⟩
  unfold tm
  rw [Int64.toInt_mul, q1, z2, ← Int.natCast_mul]
  generalize prN T L p P.1 * z = y at q4
  exact i64_bd (by omega) (by omega)
theorem ms_int (hP : GP P MC MM) (hp : p ≤ 12) (hH : H < 2 ^ P.1) (hL : L < 2 ^ P.1) : ∀ i, i ≤ 256 → ∃ A : Nat, A ≤ i * 206391214080 ∧ (ms64 P md H L p i).toInt = (A : Int) := by
  intro i
  induction i with
  | zero => intro _; exact ⟨0, by omega, by show (0 : Int64).toInt = ((0 : Nat) : Int); decide⟩
  | succ i ih =>
    intro hi
    obtain ⟨A, a1, a2⟩ := ih (by omega)
    rw [ms_s]
    by_cases c : i &&& L = i
    · obtain ⟨z, z1, z2⟩ := tm_int (md := md) hP hp hH hL c
      refine ⟨A + z, by omega, ?_⟩
      rw [if_pos c, Int64.toInt_add, a2, z2, ← Int.natCast_add]
      exact i64_bd (by omega) (by omega)
    · refine ⟨A, Nat.le_trans a1 (Nat.mul_le_mul_right _ (Nat.le_succ i)), ?_⟩
      rw [if_neg c, Int64.add_zero, a2]
theorem odds_l {v : Nat} (hfu : 10000 ≤ fu) (hP : GP P MC MM) (hh : MC.1 33 3 = nI H) (hp : p ≤ 12) (hv : v ≤ 200) (hH : H < 2 ^ P.1) (hL : L < 2 ^ P.1) : ∀ (e i f : Nat), i + e = L + 1 → e < f → f4_odds_53 fu f (nI v) (nI p) (nI L) (cs64 P (some v) H L p i) (nI i) MC = (f4_tellFraction fu (cs64 P (some v) H L p (L + 1)) (pw 12 (pcn L)) MC).bind fun M7 => some (M7, (1 : Int32)) := by
  have h8 := hP.1
  have h256 := pow8 h8
  have pL := pcn_le (S := L) (by omega)
  intro e
  induction e with
  | zero =>
    intro i f hi hf
    rcases f with _ | f
    · omega
    have : i = L + 1 := by omega
    subst this
    have t1 : nI L < nI (L + 1) := by rw [nlt (by omega) (by omega)]; omega
    rw [f4_odds_53]
    dsimp only
    rw [if_pos t1, bitC (by omega), bS, power_c hfu pL, bS]
  | succ e ih =>
    intro i f hi hf
    rcases f with _ | f
    · omega
    have hI := ih (i + 1) f (by omega) (by omega)
    rw [cs_s] at hI
    have t1 : ¬ nI L < nI i := by rw [nlt (by omega) (by omega)]; omega
    rw [f4_odds_53]
    dsimp only
    rw [if_neg t1]
    by_cases c : i &&& L = i
    · rw [if_pos c, tm_c hP hL c] at hI
      have t2 : nI i &&& (nI L ^^^ (-1 : Int32)) = 0 := by
        show nI i &&& (nI L ^^^ -nI 1) = nI 0
        rw [andnot]
        exact of_eq_true (sub_t c)
      have hx : H ||| i < 2 ^ P.1 := Nat.or_lt_two_pow hH (by omega)
      have b1 := mx_bd hP hx
      have zl : (zI (mx P (H ||| i)) < nI v) = (mx P (H ||| i) < (v : Int)) := by
        rw [nI_z]
        exact zlt (by omega) (by omega) (by omega) (by omega)
      have v1 : vl P (some v) (H ||| i) = if mx P (H ||| i) < (v : Int) then (nI 0).toInt64 else (nI 1).toInt64 := rfl
      rw [v1] at hI
      rw [if_pos t2, hh, ior, most_c hP hx, bS]
      by_cases d : mx P (H ||| i) < (v : Int)
      · rw [if_pos d, i0_64, Int64.mul_zero, Int64.add_zero] at hI
        rw [if_pos (by rw [zl]; exact d), nm_u, ad1]
        exact hI
      · rw [if_neg d, i1_64, Int64.mul_one] at hI
        rw [if_neg (by rw [zl]; exact d), weigh_c hfu hP hp hL (by omega), bS, nm_u, nm_u, ad1]
        exact hI
    · rw [if_neg c, Int64.add_zero] at hI
      have t2 : ¬ nI i &&& (nI L ^^^ (-1 : Int32)) = 0 := by
        show ¬ nI i &&& (nI L ^^^ -nI 1) = nI 0
        rw [andnot]
        exact of_eq_false (sub_f (by omega) c)
      rw [if_neg t2, nm_u, ad1]
      exact hI
theorem mid_l (hfu : 10000 ≤ fu) (hP : GP P MC MM) (hh : MC.1 33 3 = nI H) (hp : p ≤ 12) (hH : H < 2 ^ P.1) (hL : L < 2 ^ P.1) : ∀ (e i f : Nat), i + e = L + 1 → e < f → f4_mid_41 fu f (nI p) (nI L) (cs64 P none H L p i) (nI i) MC = (f4_tellFraction fu (cs64 P none H L p (L + 1)) (pw 12 (pcn L)) MC).bind fun M7 => some (M7, (1 : Int32)) := by
  have h8 := hP.1
  have h256 := pow8 h8
  have pL := pcn_le (S := L) (by omega)
  intro e
  induction e with
  | zero =>
    intro i f hi hf
    rcases f with _ | f
    · omega
    have : i = L + 1 := by omega
    subst this
    have t1 : nI L < nI (L + 1) := by rw [nlt (by omega) (by omega)]; omega
    rw [f4_mid_41]
    dsimp only
    rw [if_pos t1, bitC (by omega), bS, power_c hfu pL, bS]
  | succ e ih =>
    intro i f hi hf
    rcases f with _ | f
    · omega
    have hI := ih (i + 1) f (by omega) (by omega)
    rw [cs_s] at hI
    have t1 : ¬ nI L < nI i := by rw [nlt (by omega) (by omega)]; omega
    rw [f4_mid_41]
    dsimp only
    rw [if_neg t1]
    by_cases c : i &&& L = i
    · rw [if_pos c, tm_c hP hL c] at hI
      have t2 : nI i &&& (nI L ^^^ (-1 : Int32)) = 0 := by
        show nI i &&& (nI L ^^^ -nI 1) = nI 0
        rw [andnot]
        exact of_eq_true (sub_t c)
      have hx : H ||| i < 2 ^ P.1 := Nat.or_lt_two_pow hH (by omega)
      have v1 : vl P none (H ||| i) = (zI (mx P (H ||| i))).toInt64 := rfl
      rw [v1] at hI
      rw [if_pos t2, weigh_c hfu hP hp hL (by omega), bS, hh, ior, most_c hP hx, bS, nm_u, nm_u, ad1]
      exact hI
    · rw [if_neg c, Int64.add_zero] at hI
      have t2 : ¬ nI i &&& (nI L ^^^ (-1 : Int32)) = 0 := by
        show ¬ nI i &&& (nI L ^^^ -nI 1) = nI 0
        rw [andnot]
        exact of_eq_false (sub_f (by omega) c)
      rw [if_neg t2, nm_u, ad1]
      exact hI
end OD
