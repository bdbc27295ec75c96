/-! out of 31.lots -/
theorem i64_bd {z : Int} (h1 : -9223372036854775808 ≤ z) (h2 : z < 9223372036854775808) : z.bmod (2 ^ 64) = z := bm64 h1 h2
theorem n64 {z : Nat} (h : z < 2147483648) : (nI z).toInt64.toInt = z := by
  rw [Int32.toInt_toInt64, nI_toInt h]
theorem lcg_mul {z : Nat} (h : z < 2147483648) : ((nI z).toInt64 * (48271 : Int64)).toInt = z * 48271 := by
  rw [Int64.toInt_mul, n64 h]
  exact i64_bd (by show (-9223372036854775808 : Int) ≤ z * 48271; omega) (by show (z : Int) * 48271 < 9223372036854775808; omega)
theorem rem64 {a b : Int64} {x y : Nat} (ha : a.toInt = x) (hb : b.toInt = y) (hx : x < 4611686018427387904) (hy : y < 2147483648) (hy0 : 0 < y) : rmLo a b = some (nI (x % y)).toInt64 := by
  have hb0 : ¬ b = 0 := by
    intro e
    subst e
    have : (0 : Int64).toInt = 0 := by decide
    omega
  unfold rmLo
  rw [if_neg hb0]
  congr 1
  apply Int64.toInt_inj.mp
  have hm : x % y < y := Nat.mod_lt _ hy0
  have hd : x / y * y + x % y = x := by
    have := Nat.div_add_mod x y
    rw [Nat.mul_comm]; exact this
  have hdl : x / y ≤ x := Nat.div_le_self x y
  have e1 : (a / b).toInt = ((x / y : Nat) : Int) := by
    rw [Int64.toInt_div, ha, hb]
    have : (x : Int).tdiv (y : Int) = ((x / y : Nat) : Int) := rfl
    rw [this]
    exact i64_bd (Int.le_trans (by omega) (Int.natCast_nonneg _)) (Int.lt_of_le_of_lt (Int.ofNat_le.mpr hdl) (by omega))
  have e2 : (a / b * b).toInt = ((x / y * y : Nat) : Int) := by
    rw [Int64.toInt_mul, e1, hb]
    have : ((x / y : Nat) : Int) * (y : Int) = ((x / y * y : Nat) : Int) := by rw [Int.natCast_mul]
    rw [this]
    exact i64_bd (by omega) (by omega)
  rw [Int64.toInt_sub, ha, e2, n64 (by omega)]
  rw [i64_bd (by omega) (by omega)]
  omega
theorem lcg {z : Nat} (h : z < 2147483648) : rmLo ((nI z).toInt64 * (48271 : Int64)) (2147483647 : Int64) = some (nI (z * 48271 % 2147483647)).toInt64 :=
  rem64 (x := z * 48271) (y := 2147483647) (by rw [lcg_mul h]; omega) (by decide) (by omega) (by omega) (by omega)
theorem two64 {z : Nat} (h : z < 2147483648) : rmLo (nI z).toInt64 (2 : Int64) = some (nI (z % 2)).toInt64 :=
  rem64 (x := z) (y := 2) (n64 h) (by decide) (by omega) (by omega) (by omega)
theorem dv64 {z : Nat} (h : z < 2147483648) : dvL (nI z).toInt64 (8 : Int64) = some (nI (z / 8)).toInt64 := by
  have hb0 : ¬ (8 : Int64) = 0 := by decide
  unfold dvL
  rw [if_neg hb0]
  congr 1
  apply Int64.toInt_inj.mp
  rw [Int64.toInt_div, n64 h, n64 (by omega)]
  have : (8 : Int64).toInt = ((8 : Nat) : Int) := by decide
  rw [this]
  have : (z : Int).tdiv ((8 : Nat) : Int) = ((z / 8 : Nat) : Int) := rfl
  rw [this]
  exact i64_bd (by omega) (by omega)
theorem rm64n {z n : Nat} (h : z < 2147483648) (hn : 0 < n) (hn8 : n ≤ 8) : rmLo (nI z).toInt64 (nI n).toInt64 = some (nI (z % n)).toInt64 :=
  rem64 (x := z) (y := n) (n64 h) (n64 (by omega)) (by omega) (by omega) hn
theorem back32 {z : Nat} (h : z < 2147483648) : (nI z).toInt64.toInt32 = nI z := by
  apply Int32.toInt_inj.mp
  rw [Int64.toInt_toInt32, n64 h, nI_toInt h]
  exact bm32 (by omega) (by omega)
/-! out of 32.lotsb -/
theorem ap_0 {s : Nat → Int32} {j : Nat} (hj : j ≤ 8) : ap (nI 0) s j = if j = 0 then s 0 + nI 1 else s j := by
  rcases j with _ | j
  · simp only [ap]
    simp (disch := omega) only [lit, nlt, nle, neq, nI_add, pk_mul, nm_u, bS, gd_d, oc_none, oc_some, rd_n, wr_n, if_pos, if_neg, ite_true, ite_false, not_true_eq_false, not_false_eq_true, g1, g2, g3, g4, h1, h2, h3, h4]
  · simp only [ap]
    simp (disch := omega) only [lit, nlt, nle, neq, nI_add, pk_mul, nm_u, bS, gd_d, oc_none, oc_some, rd_n, wr_n, if_pos, if_neg, ite_true, ite_false, not_true_eq_false, not_false_eq_true, g1, g2, g3, g4, h1, h2, h3, h4]
theorem ap_1 {s : Nat → Int32} {j : Nat} (hj : j ≤ 8) : ap (nI 1) s j = if j = 0 then s 0 - nI 1 else s j := by
  rcases j with _ | j
  · simp only [ap]
    simp (disch := omega) only [lit, nlt, nle, neq, nI_add, pk_mul, nm_u, bS, gd_d, oc_none, oc_some, rd_n, wr_n, if_pos, if_neg, ite_true, ite_false, not_true_eq_false, not_false_eq_true, g1, g2, g3, g4, h1, h2, h3, h4]
  · simp only [ap]
    simp (disch := omega) only [lit, nlt, nle, neq, nI_add, pk_mul, nm_u, bS, gd_d, oc_none, oc_some, rd_n, wr_n, if_pos, if_neg, ite_true, ite_false, not_true_eq_false, not_false_eq_true, g1, g2, g3, g4, h1, h2, h3, h4]
theorem ap_8 {k : Nat} {s : Nat → Int32} {j : Nat} (hj : j ≤ 8) (hk : k < 8) : ap (nI (8 + k)) s j = if j = 1 + k then -nI 1 else s j := by
  rcases j with _ | j
  · simp only [ap]
    simp (disch := omega) only [lit, nlt, nle, neq, nI_add, pk_mul, nm_u, bS, gd_d, oc_none, oc_some, rd_n, wr_n, if_pos, if_neg, ite_true, ite_false, not_true_eq_false, not_false_eq_true, g1, g2, g3, g4, h1, h2, h3, h4]
  · simp only [ap]
    by_cases q : j = k
    · subst q; simp (disch := omega) only [lit, nlt, nle, neq, nI_add, pk_mul, nm_u, bS, gd_d, oc_none, oc_some, rd_n, wr_n, if_pos, if_neg, ite_true, ite_false, not_true_eq_false, not_false_eq_true, g1, g2, g3, g4, h1, h2, h3, h4]
    · simp (disch := omega) only [lit, nlt, nle, neq, nI_add, pk_mul, nm_u, bS, gd_d, oc_none, oc_some, rd_n, wr_n, if_pos, if_neg, ite_true, ite_false, not_true_eq_false, not_false_eq_true, g1, g2, g3, g4, h1, h2, h3, h4]
theorem ap_16 {k : Nat} {s : Nat → Int32} {j : Nat} (hj : j ≤ 8) (hk : k < 8) : ap (nI (16 + k)) s j = if j = 1 + k then s 0 else s j := by
  rcases j with _ | j
  · simp only [ap]
    simp (disch := omega) only [lit, nlt, nle, neq, nI_add, pk_mul, nm_u, bS, gd_d, oc_none, oc_some, rd_n, wr_n, if_pos, if_neg, ite_true, ite_false, not_true_eq_false, not_false_eq_true, g1, g2, g3, g4, h1, h2, h3, h4]
  · simp only [ap]
    by_cases q : j = k
    · subst q; simp (disch := omega) only [lit, nlt, nle, neq, nI_add, pk_mul, nm_u, bS, gd_d, oc_none, oc_some, rd_n, wr_n, if_pos, if_neg, ite_true, ite_false, not_true_eq_false, not_false_eq_true, g1, g2, g3, g4, h1, h2, h3, h4]
    · simp (disch := omega) only [lit, nlt, nle, neq, nI_add, pk_mul, nm_u, bS, gd_d, oc_none, oc_some, rd_n, wr_n, if_pos, if_neg, ite_true, ite_false, not_true_eq_false, not_false_eq_true, g1, g2, g3, g4, h1, h2, h3, h4]
theorem lg_0 {z : Nat} (h : z < 2) : (lg_cmp (nI z).toInt64 (0 : Int64) = nI 0) = (z = 0) := by
  have : ∀ z, z < 2 → (lg_cmp (nI z).toInt64 (0 : Int64) = nI 0) = (z = 0) := by
    intro z h
    rcases (show z = 0 ∨ z = 1 by omega) with rfl | rfl
    · exact propext ⟨fun _ => rfl, fun _ => by decide⟩
    · exact propext ⟨fun q => absurd q (by decide), fun q => absurd q (by decide)⟩
  exact this z h
/-! out of 34.lotsd -/
theorem rng {x : Int32} {lo hi : Nat} (hh : hi < 2147483647) (hl : lo ≤ hi) (a : ¬ x < nI lo) (b : ¬ nI hi < x) : ∃ j, lo ≤ j ∧ j ≤ hi ∧ x = nI j := by
  rw [Int32.lt_iff_toInt_lt, nI_toInt (by omega)] at a b
  rcases tri x (hi + 1) (by omega) with (h | ⟨-, h⟩) | ⟨j, hj, rfl⟩
  · rw [Int32.lt_iff_toInt_lt, nI_toInt (by omega)] at h
    omega
  · rw [Int32.le_iff_toInt_le, nI_toInt (by omega)] at h
    omega
  · rw [nI_toInt (by omega)] at a
    exact ⟨j, by omega, by omega, rfl⟩
/-! out of 38.test -/
theorem np9 {F : Nat} (h : F < 256) : (nI F = -nI 9) = False := by
  have : ∀ F, F < 256 → ¬ nI F = -nI 9 := by decide +kernel
  exact eq_false (this F h)
/-! out of 39.clashes -/
theorem apartFrom_c {fu n b : Nat} {M : Mem} {h : Nat → Nat} (hfu : 10000 ≤ fu) (hn : n ≤ 8) (h35 : M.1 35 0 = nI n) (h41 : ∀ k, k < n → M.1 41 k = nI (h k)) (hb : b < 8192) : f2_apartFrom M fu (nI b) = some (nI (msk n (fun k => h k &&& b == 0))) := by
  have key : ∀ (e i f : Nat), i + e = n → e < f → f2_apartFrom_4 M fu f (nI b) (nI (msk i (fun k => h k &&& b == 0))) (nI i) = some (nI (msk n (fun k => h k &&& b == 0))) := by
    intro e
    induction e with
    | zero =>
      intro i f h0 hf
      rcases f with _ | f
      · omega
      have : i = n := by omega
      subst this
      rw [f2_apartFrom_4]
      simp (disch := omega) only [lit, nlt, nle, neq, nI_add, pk_mul, nm_u, bS, gd_d, oc_none, oc_some, rd_n, wr_n, if_pos, if_neg, ite_true, ite_false, not_true_eq_false, not_false_eq_true, g1, g2, g3, g4, h1, h2, h3, h4, h35]
    | succ e ih =>
      intro i f h0 hf
      rcases f with _ | f
      · omega
      have lh2 := ih (i + 1) f (by omega) (by omega)
      rw [msk_s] at lh2
      have hlt : h i &&& b < 8192 := Nat.lt_of_le_of_lt Nat.and_le_right hb
      rw [f2_apartFrom_4]
      by_cases c : h i &&& b = 0
      · rw [if_pos (by simp [c])] at lh2
        simp (disch := omega) only [lit, nlt, nle, neq, nI_add, pk_mul, nm_u, bS, gd_d, oc_none, oc_some, rd_n, wr_n, if_pos, if_neg, ite_true, ite_false, not_true_eq_false, not_false_eq_true, g1, g2, g3, g4, h1, h2, h3, h4, ior, iand, shl_n, Nat.or_zero, h35, h41 i (by omega), c]
        exact lh2
      · rw [if_neg (by simp [c])] at lh2
        simp (disch := omega) only [lit, nlt, nle, neq, nI_add, pk_mul, nm_u, bS, gd_d, oc_none, oc_some, rd_n, wr_n, if_pos, if_neg, ite_true, ite_false, not_true_eq_false, not_false_eq_true, g1, g2, g3, g4, h1, h2, h3, h4, ior, iand, shl_n, Nat.or_zero, h35, h41 i (by omega), c]
        exact lh2
  unfold f2_apartFrom
  exact key n 0 fu (by omega) (by omega)
def qc (P : PD) (S i j : Nat) : Bool := S.testBit j && !(hm P j &&& hm P i == 0)
def prs (P : PD) (S n : Nat) : Nat := fo (fun k a => if S.testBit k then a + cnt k (qc P S k) else a) n 0
theorem prs_s (P : PD) (S n : Nat) : prs P S (n + 1) = if S.testBit n then prs P S n + cnt n (qc P S n) else prs P S n := rfl
theorem qc_key {P : PD} {S i n : Nat} (hi : i ≤ n) : (S &&& (2 ^ i - 1)) ^^^ ((S &&& (2 ^ i - 1)) &&& msk n (fun k => hm P k &&& hm P i == 0)) = msk i (qc P S i) := by
  apply Nat.eq_of_testBit_eq
  intro j
  simp only [Nat.testBit_xor, Nat.testBit_and, Nat.testBit_two_pow_sub_one, msk_tb, qc]
  by_cases c : j < i
  · have c2 : j < n := by omega
    simp only [c, c2, decide_true, Bool.true_and, Bool.and_true]
    cases S.testBit j <;> cases (hm P j &&& hm P i == 0) <;> rfl
  · simp only [c, decide_false, Bool.false_and, Bool.and_false, Bool.xor_false]
theorem cls_c {fu S : Nat} {P : PD} {MC MM : Mem} (hfu : 10000 ≤ fu) (hP : GP P MC MM) (hh : MC.1 33 3 = nI S) (hS : S < 2 ^ P.1) : ∀ (e i f : Nat), i + e = P.1 → e < f → f4_clashes_12 fu f (nI (prs P S i)) (nI i) MC = some (sI MC 28 6 (zI (sm P S)), nI (prs P S P.1)) := by
  have h8 := hP.1
  have h256 := pow8 h8
  intro e
  induction e with
  | zero =>
    intro i f h hf
    rcases f with _ | f
    · omega
    have : i = P.1 := by omega
    subst this
    rw [f4_clashes_12]
    simp (disch := omega) only [lit, nlt, nle, neq, nI_add, pk_mul, nm_u, bS, gd_d, oc_none, oc_some, rd_n, wr_n, if_pos, if_neg, ite_true, ite_false, not_true_eq_false, not_false_eq_true, g1, g2, g3, g4, h1, h2, h3, h4, hP.2.1, hh, sum_c hP hS]
  | succ e ih =>
    intro i f h hf
    rcases f with _ | f
    · omega
    have hi : i < P.1 := by omega
    have lh2 := ih (i + 1) f (by omega) (by omega)
    rw [prs_s] at lh2
    rw [f4_clashes_12]
    cases c : S.testBit i
    · rw [if_neg (by rw [c]; decide)] at lh2
      simp (disch := omega) only [lit, nlt, nle, neq, nI_add, pk_mul, nm_u, bS, gd_d, oc_none, oc_some, rd_n, wr_n, if_pos, if_neg, ite_true, ite_false, not_true_eq_false, not_false_eq_true, g1, g2, g3, g4, h1, h2, h3, h4, ior, iand, shl_n, Nat.or_zero, hP.2.1, hh, bit_f c (show i < 31 by omega) (by omega)]
      exact lh2
    · rw [if_pos c] at lh2
      obtain ⟨hok, -, -, -, -, -, e5, -⟩ := hP.2.2.2.1 i hi
      have hap := apartFrom_c (fu := fu) (M := MC) (h := hm P) (b := hm P i) hfu h8 hP.2.1 (fun k hk => (hP.2.2.2.1 k hk).2.2.2.2.2.2.1) (hm_lt hok)
      have hlt := msk_lt i (qc P S i)
      have hpw := pow8 (show i ≤ 8 by omega)
      simp (disch := omega) only [lit, nlt, nle, neq, nI_add, pk_mul, nm_u, bS, gd_d, oc_none, oc_some, rd_n, wr_n, if_pos, if_neg, ite_true, ite_false, not_true_eq_false, not_false_eq_true, g1, g2, g3, g4, h1, h2, h3, h4, ior, iand, shl_n, Nat.or_zero, hP.2.1, hh, bit_t c (show i < 31 by omega) (by omega), kq9, all2, e5, hap, andnot, qc_key (show i ≤ P.1 by omega), bitC, pcn_msk]
      exact lh2
/-! out of 40.least -/
theorem sub_t {i S : Nat} (h : i &&& S = i) : (nI (i ^^^ (i &&& S)) = nI 0) = True := by
  rw [h, Nat.xor_self]
  exact eq_true rfl
theorem xa_lt {i S n : Nat} (hi : i < 2 ^ n) : i ^^^ (i &&& S) < 2 ^ n := Nat.xor_lt_two_pow hi (Nat.lt_of_le_of_lt Nat.and_le_left hi)
theorem sub_f {i S : Nat} (hi : i < 256) (h : ¬ i &&& S = i) : (nI (i ^^^ (i &&& S)) = nI 0) = False := by
  apply eq_false
  intro e
  have hx : i ^^^ (i &&& S) < 2 ^ 8 := xa_lt hi
  rw [neq (by omega) (by omega)] at e
  apply h
  apply Nat.eq_of_testBit_eq
  intro j
  have q := congrArg (fun x => x.testBit j) e
  simp only [Nat.testBit_xor, Nat.testBit_and, Nat.zero_testBit] at q ⊢
  revert q
  cases i.testBit j <;> cases S.testBit j <;> simp
theorem pcn_le {S : Nat} (h : S < 256) : pcn S ≤ 8 := by
  have : ∀ S, S < 256 → pcn S ≤ 8 := by decide +kernel
  exact this S h
theorem apt_0 {P : PD} : apt P 0 = true := by
  unfold apt
  rw [tw_n (n := 0) (by decide) (by decide)]
  rfl
section LS
variable {P : PD} {MC MM : Mem} {fu S : Nat}
end LS
/-! out of 41.best -/
theorem wz_bd {P : PD} {k : Nat} (h : okP P k) : -20 ≤ wz P k ∧ wz P k ≤ 60 := by
  obtain ⟨h0, -, -, lh3, lh4, h5⟩ := h
  unfold wz
  generalize kd P k = K at h0 ⊢
  rcases (show K = 0 ∨ K = 1 ∨ K = 2 ∨ K = 3 ∨ K = 4 ∨ K = 5 by omega) with rfl | rfl | rfl | rfl | rfl | rfl
  · simp only [wv]; omega
  · simp only [wv]; omega
  · simp only [wv]; split <;> omega
  · simp only [wv]
    rcases (show ln P k = 1 ∨ ln P k = 2 ∨ ln P k = 3 ∨ ln P k = 4 by omega) with e | e | e | e <;> rw [e] <;> omega
  · simp only [wv]; split <;> omega
  · simp only [wv]; omega
theorem sm_bd {P : PD} {S n : Nat} (hn : n ≤ 8) (hok : ∀ k, k < n → okP P k) (hS : S < 2 ^ n) : -160 ≤ sm P S ∧ sm P S ≤ 480 := by
  have key : ∀ m, m ≤ n → -20 * (m : Int) ≤ fo (stS P S) m 0 ∧ fo (stS P S) m 0 ≤ 60 * (m : Int) := by
    intro m
    induction m with
    | zero =>
      intro _
      have e0 : fo (stS P S) 0 0 = 0 := rfl
      rw [e0]
      omega
    | succ m ih =>
      intro hm
      obtain ⟨i1, i2⟩ := ih (by omega)
      have hw := wz_bd (hok m (by omega))
      rw [fo_s]
      generalize fo (stS P S) m 0 = a at i1 i2
      unfold stS
      split <;> omega
  rw [sm_n hS hn]
  have := key n (Nat.le_refl n)
  omega
theorem sm_0 {P : PD} : sm P 0 = 0 := by
  rw [sm_n (n := 0) (by decide) (by decide)]
  rfl
def okS (P : PD) (S t : Nat) : Bool := (t &&& S == t) && apt P t
def bst (P : PD) (S n : Nat) : Nat := fo (fun t b => if okS P S t && decide (sm P b < sm P t) then t else b) n 0
def mxn (P : PD) (S n : Nat) : Int := fo (fun t m => if okS P S t then max m (sm P t) else m) n 0
theorem bst_s (P : PD) (S n : Nat) : bst P S (n + 1) = if okS P S n && decide (sm P (bst P S n) < sm P n) then n else bst P S n := rfl
theorem mxn_s (P : PD) (S n : Nat) : mxn P S (n + 1) = if okS P S n then max (mxn P S n) (sm P n) else mxn P S n := rfl
theorem okS_0 {P : PD} {S : Nat} : okS P S 0 = true := by
  unfold okS
  rw [apt_0, Nat.zero_and]
  rfl
theorem bst_inv (P : PD) (S n : Nat) : (bst P S n = 0 ∨ bst P S n < n) ∧ okS P S (bst P S n) = true ∧ sm P (bst P S n) = mxn P S n ∧ (∀ t, t < n → okS P S t = true → sm P t ≤ sm P (bst P S n)) ∧ ∀ t, t < bst P S n → okS P S t = true → sm P t < sm P (bst P S n) := by
  induction n with
  | zero =>
    refine ⟨Or.inl rfl, okS_0, ?_, fun t ht => absurd ht (by omega), fun t ht => ?_⟩
    · show sm P 0 = 0
      exact sm_0
    · have : bst P S 0 = 0 := rfl
      omega
  | succ n ih =>
    obtain ⟨a1, a2, a3, a4, a5⟩ := ih
    rw [bst_s, mxn_s]
    by_cases c : okS P S n = true
    · by_cases d : sm P (bst P S n) < sm P n
      · rw [if_pos (by rw [c]; simp [d]), if_pos c]
        refine ⟨Or.inr (by omega), c, by omega, fun t ht ho => ?_, fun t ht ho => ?_⟩
        · by_cases e : t = n
          · subst e; omega
          · have := a4 t (by omega) ho
            omega
        · have := a4 t ht ho
          omega
      · rw [if_neg (by simp [d]), if_pos c]
        refine ⟨by omega, a2, by omega, fun t ht ho => ?_, a5⟩
        by_cases e : t = n
        · subst e; omega
        · exact a4 t (by omega) ho
    · have c' : okS P S n = false := by simpa using c
      rw [if_neg (by rw [c']; simp), if_neg c]
      refine ⟨by omega, a2, a3, fun t ht ho => ?_, a5⟩
      by_cases e : t = n
      · subst e; exact absurd ho c
      · exact a4 t (by omega) ho
theorem okS_ge {P : PD} {S t : Nat} (h : S < t) : okS P S t = false := by
  unfold okS
  have := Nat.and_le_right (n := t) (m := S)
  have : ¬ t &&& S = t := by omega
  simp [this]
theorem bst_256 {P : PD} {S n : Nat} (hn : n ≤ 8) (hS : S < 2 ^ n) : bst P S 256 = bst P S (2 ^ n) := by
  refine fo_ext (fun t b ht => ?_) 0 256 (pow8 hn)
  show (if okS P S t && decide (sm P b < sm P t) then t else b) = b
  rw [okS_ge (by omega)]
  rfl
theorem mx_mxn {P : PD} {S : Nat} : mx P S = mxn P S 256 := rfl
theorem okS_and {P : PD} {S t : Nat} (h : okS P S t = true) : t &&& S = t ∧ apt P t = true := by
  unfold okS at h
  simp at h
  exact h
theorem okS_le {P : PD} {S t : Nat} (h : okS P S t = true) : t ≤ S := by
  have := (okS_and h).1
  have lh2 := Nat.and_le_right (n := t) (m := S)
  omega
section BO
variable {P : PD} {MC MM : Mem} {fu S : Nat}
theorem smb (hP : GP P MC MM) {T : Nat} (hT : T < 2 ^ P.1) : -160 ≤ sm P T ∧ sm P T ≤ 480 := sm_bd hP.1 (fun k hk => (hP.2.2.2.1 k hk).1) hT
theorem leastOf_c (hfu : 10000 ≤ fu) (hP : GP P MC MM) (hS : S < 2 ^ P.1) : f2_leastOfMost MC fu (nI S) = some (nI (bst P S 256)) := by
  have h8 := hP.1
  have h256 := pow8 h8
  obtain ⟨-, a2, a3, -, a5⟩ := bst_inv P S 256
  have hBS := okS_le a2
  have hBs := okS_and a2
  rw [← mx_mxn] at a3
  generalize bst P S 256 = B at a2 a3 a5 hBS hBs
  have hB : B < 2 ^ P.1 := by omega
  have bB := smb hP hB
  have key : ∀ (e i f : Nat), i + e = B → e < f → f2_leastOfMost_2 MC fu f (nI S) (nI i) = some (nI B) := by
    intro e
    induction e with
    | zero =>
      intro i f h hf
      rcases f with _ | f
      · omega
      have : i = B := by omega
      subst this
      rw [f2_leastOfMost_2]
      simp (disch := omega) only [lit, nlt, nle, neq, nI_add, pk_mul, nm_u, bS, gd_d, oc_none, oc_some, rd_n, wr_n, if_pos, if_neg, ite_true, ite_false, not_true_eq_false, not_false_eq_true, g1, g2, g3, g4, h1, h2, h3, h4, ior, iand, shl_n, Nat.or_zero, andnot, sub_t hBs.1, apart_c hP hB, hBs.2, kq9, sum_c hP hB, most_c hP hS, a3]
    | succ e ih =>
      intro i f h hf
      rcases f with _ | f
      · omega
      have hi : i < 2 ^ P.1 := by omega
      have b1 := smb hP hi
      have lh2 := ih (i + 1) f (by omega) (by omega)
      rw [f2_leastOfMost_2]
      by_cases c : i &&& S = i
      · cases b : apt P i
        · simp (disch := omega) only [lit, nlt, nle, neq, nI_add, pk_mul, nm_u, bS, gd_d, oc_none, oc_some, rd_n, wr_n, if_pos, if_neg, ite_true, ite_false, not_true_eq_false, not_false_eq_true, g1, g2, g3, g4, h1, h2, h3, h4, ior, iand, shl_n, Nat.or_zero, andnot, sub_t c, apart_c hP hi, b, Bool.false_eq_true]
          exact lh2
        · have hlt := a5 i (by omega) (by unfold okS; rw [b, c]; simp)
          simp (disch := omega) only [lit, nlt, nle, neq, nI_add, pk_mul, nm_u, bS, gd_d, oc_none, oc_some, rd_n, wr_n, if_pos, if_neg, ite_true, ite_false, not_true_eq_false, not_false_eq_true, g1, g2, g3, g4, h1, h2, h3, h4, ior, iand, shl_n, Nat.or_zero, andnot, sub_t c, apart_c hP hi, b, kq9, sum_c hP hi, most_c hP hS, ← a3, zeq]
          exact lh2
      · simp (disch := omega) only [lit, nlt, nle, neq, nI_add, pk_mul, nm_u, bS, gd_d, oc_none, oc_some, rd_n, wr_n, if_pos, if_neg, ite_true, ite_false, not_true_eq_false, not_false_eq_true, g1, g2, g3, g4, h1, h2, h3, h4, ior, iand, shl_n, Nat.or_zero, andnot, sub_f (show i < 256 by omega) c]
        exact lh2
  unfold f2_leastOfMost
  exact key B 0 fu (by omega) (by omega)
end BO
/-! out of 42.bestrow -/
theorem cnt_le (n : Nat) (f : Nat → Bool) : cnt n f ≤ n := by
  induction n with
  | zero => exact Nat.le_refl 0
  | succ n ih => rw [cnt_s]; split <;> omega
theorem cnt_cg {n : Nat} {f g : Nat → Bool} (h : ∀ k, k < n → f k = g k) : cnt n f = cnt n g := by
  induction n with
  | zero => rfl
  | succ n ih => rw [cnt_s, cnt_s, ih (fun k hk => h k (by omega)), h n (by omega)]
theorem cnt_add {n : Nat} {f g o : Nat → Bool} (h : ∀ k, k < n → (o k = (f k || g k)) ∧ (f k && g k) = false) : cnt n o = cnt n f + cnt n g := by
  induction n with
  | zero => rfl
  | succ n ih =>
    have i := ih (fun k hk => h k (by omega))
    obtain ⟨lh1, lh2⟩ := h n (by omega)
    rw [cnt_s, cnt_s, cnt_s, lh1]
    cases hf : f n <;> cases hg : g n
    · simp; omega
    · simp; omega
    · simp; omega
    · rw [hf, hg] at lh2; cases lh2
def bh (P : PD) (B h j : Nat) : Bool := B.testBit j && (hr P j == h)
def bl (P : PD) (B h j : Nat) : Bool := B.testBit j && decide (hr P j < h)
theorem bl_s (P : PD) (B h n : Nat) : cnt n (bl P B (h + 1)) = cnt n (bl P B h) + cnt n (bh P B h) := by
  refine cnt_add (fun k _ => ?_)
  unfold bl bh
  cases B.testBit k
  · exact ⟨rfl, rfl⟩
  · rcases Nat.lt_trichotomy (hr P k) h with c | c | c
    · have lh1 : hr P k < h + 1 := by omega
      have lh2 : ¬ hr P k = h := by omega
      simp [c, lh1, lh2]
    · subst c; simp
    · have lh1 : ¬ hr P k < h + 1 := by omega
      have lh2 : ¬ hr P k = h := by omega
      have lh3 : ¬ hr P k < h := by omega
      simp [lh1, lh2, lh3]
theorem append_s {M : Mem} {r c : Nat} {v : Int32} (hr : r < 6) (hc : c < 60) (h : M.1 r 0 = nI c) : f0_append r v M = some (sI (sI M (r + 10) c v) r 0 (nI (c + 1))) := by
  have gk : gd (decide (r < 10)) = some () := by
    have : r < 10 := by omega
    simp [gd, this]
  unfold f0_append
  simp (disch := omega) only [lit, nlt, nle, neq, nI_add, pk_mul, nm_u, bS, gd_d, oc_none, oc_some, rd_n, wr_n, if_pos, if_neg, ite_true, ite_false, not_true_eq_false, not_false_eq_true, g1, g2, g3, g4, h1, h2, h3, h4, gk, h]
section ORD
variable {P : PD} {MC0 MM0 : Mem} {fu r B : Nat}
theorem ord_z {h : Nat} {MC : Mem} {kc : Nat → Int32 → Int32 → Mem → Option Mem} (hP : GP P MC0 MM0) (hr6 : r < 6) (hB : B < 256) (hh : 10 ≤ h) (hh2 : h < 13) (hC : ∀ q, q ≠ r → q ≠ r + 10 → MC.1 q = MC0.1 q) : ∀ (e k f1 : Nat), k + e = P.1 → e < f1 → f2_orderInto_17 fu kc f1 r (nI B) (nI h) (nI k) MC = kc r (nI B) (nI (h + 1)) MC := by
  have h8 := hP.1
  have c35 : MC.1 35 0 = nI P.1 := by rw [hC 35 (by omega) (by omega)]; exact hP.2.1
  intro e
  induction e with
  | zero =>
    intro k f1 h0 hf1
    rcases f1 with _ | f1
    · omega
    rw [f2_orderInto_17]
    simp (disch := omega) only [lit, nlt, nle, neq, nI_add, pk_mul, nm_u, bS, gd_d, oc_none, oc_some, rd_n, wr_n, if_pos, if_neg, ite_true, ite_false, not_true_eq_false, not_false_eq_true, g1, g2, g3, g4, h1, h2, h3, h4, c35]
  | succ e ih =>
    intro k f1 h0 hf1
    rcases f1 with _ | f1
    · omega
    have hk : k < P.1 := by omega
    obtain ⟨hok, -, -, e2, -⟩ := hP.2.2.2.1 k hk
    have c38 : MC.1 38 k = nI (hr P k) := by rw [hC 38 (by omega) (by omega)]; exact e2
    have hhr : hr P k < 10 := hok.2.2.1
    have ih2 := ih (k + 1) f1 (by omega) (by omega)
    rw [f2_orderInto_17]
    cases c : B.testBit k
    · simp (disch := omega) only [lit, nlt, nle, neq, nI_add, pk_mul, nm_u, bS, gd_d, oc_none, oc_some, rd_n, wr_n, if_pos, if_neg, ite_true, ite_false, not_true_eq_false, not_false_eq_true, g1, g2, g3, g4, h1, h2, h3, h4, ior, iand, shl_n, Nat.or_zero, c35, bit_f c (show k < 31 by omega) (show B < 2147483648 by omega)]
      exact ih2
    · simp (disch := omega) only [lit, nlt, nle, neq, nI_add, pk_mul, nm_u, bS, gd_d, oc_none, oc_some, rd_n, wr_n, if_pos, if_neg, ite_true, ite_false, not_true_eq_false, not_false_eq_true, g1, g2, g3, g4, h1, h2, h3, h4, ior, iand, shl_n, Nat.or_zero, c35, bit_t c (show k < 31 by omega) (show B < 2147483648 by omega), kq9, c38]
      exact ih2
end ORD
theorem bl_10 {P : PD} {MC MM : Mem} {B : Nat} (hP : GP P MC MM) (hB : B < 2 ^ P.1) : cnt P.1 (bl P B 10) = pcn B := by
  have e : msk P.1 (fun k => B.testBit k) = B := by
    apply Nat.eq_of_testBit_eq
    intro i
    rw [msk_tb]
    by_cases c : i < P.1
    · simp [c]
    · rw [tb_ge hB (by omega)]; simp
  have lh1 := pcn_msk hP.1 (fun k => B.testBit k)
  rw [e] at lh1
  rw [lh1]
  refine cnt_cg (fun k hk => ?_)
  have := (hP.2.2.2.1 k hk).1.2.2.1
  unfold bl
  simp [this]

/-! out of 43.bestsim -/
theorem begin0 {fu r : Nat} {M : Mem} (hfu : 10000 ≤ fu) (hr6 : r < 6) : ∃ M1, f0_begin fu r (nI 0) (nI 0) M = some M1 ∧ M1.1 r 0 = nI 0 ∧ (∀ q, q ≠ r → q ≠ r + 10 → M1.1 q = M.1 q) ∧ M1.2 = M.2 :=
  ⟨_, begin_s (by omega) (by omega) hfu, by rw [sF_q (by omega), g1], fun q a b => by rw [sF_q b, g2 a], rfl⟩
theorem sI_cg {M N : Mem} {p i q : Nat} {v : Int32} (h : M.1 q = N.1 q) : (sI M p i v).1 q = (sI N p i v).1 q := by
  by_cases e : q = p
  · subst e; unfold sI; simp [h]
  · rw [g2 e, g2 e, h]
theorem th_key {n : Nat} {s : Nat → Int32} : (2 ^ n - 1) ^^^ ((2 ^ n - 1) &&& msk n (fun k => s (k + 1) == -nI 2)) = msk n (fun k => !(s (k + 1) == -nI 2)) := by
  apply Nat.eq_of_testBit_eq
  intro i
  simp only [Nat.testBit_xor, Nat.testBit_and, Nat.testBit_two_pow_sub_one, msk_tb]
  cases decide (i < n) <;> cases (s (i + 1) == -nI 2) <;> rfl
theorem th_key2 {n : Nat} {s : Nat → Int32} : msk n (fun k => s (k + 1) == -nI 1) ||| msk n (lyB s) = msk n (fun k => !(s (k + 1) == -nI 2)) := by
  apply Nat.eq_of_testBit_eq
  intro i
  simp only [Nat.testBit_or, msk_tb, lyB]
  by_cases c : s (i + 1) = -nI 1
  · have e2 : (s (i + 1) == -nI 2) = false := by
      rw [c]; decide
    rw [e2, c]
    cases decide (i < n) <;> simp
  · have e1 : (s (i + 1) == -nI 1) = false := by simp [c]
    rw [e1]
    cases decide (i < n) <;> cases (s (i + 1) == -nI 2) <;> rfl
theorem bl_0 {P : PD} {B n : Nat} : cnt n (bl P B 0) = 0 := by
  induction n with
  | zero => rfl
  | succ n ih =>
    rw [cnt_s, ih]
    unfold bl
    simp
/-! out of 44.walk -/
def dst (a b : Nat) : Nat := if a ≤ b then b - a else a - b
theorem abs_n {a b : Nat} (ha : a < 10) (hb : b < 10) : (if nI 0 ≤ nI a - nI b then nI a - nI b else nI 0 - (nI a - nI b)) = nI (dst b a) := by
  have : ∀ a, a < 10 → ∀ b, b < 10 → (if nI 0 ≤ nI a - nI b then nI a - nI b else nI 0 - (nI a - nI b)) = nI (dst b a) := by decide +kernel
  exact this a ha b hb
theorem stepsBy_c {M : Mem} {h a b : Nat} (h0 : M.1 33 2 = nI h) (hh : h < 10) (ha : a < 10) (hb : b < 10) : f3_stepsBy M (nI a) (nI b) = some (nI (dst h a + dst a b)) := by
  unfold f3_stepsBy
  rw [h0, lit, abs_n ha hh, abs_n hb ha, nI_add]
theorem dst_lt {a b : Nat} (ha : a < 10) (hb : b < 10) : dst a b < 10 := by
  unfold dst; split <;> omega
theorem n10_le : ∀ p, p < 10 → ¬ nI 10 ≤ nI p := by decide +kernel
theorem m1_nle : ∀ p, p < 10 → ¬ nI p ≤ -nI 1 := by decide +kernel
section WK
variable {n T h fu : Nat} {s : Nat → Int32} {MC MM : Mem}
theorem dst_lh {lo hi : Nat} (lh1 : lo ≤ hi) : dst lo hi = hi - lo ∧ dst hi lo = hi - lo := by
  unfold dst
  constructor
  · rw [if_pos lh1]
  · split <;> omega
theorem min_n {A B : Nat} (hA : A < 2147483648) (hB : B < 2147483648) : (if nI B < nI A then nI B else nI A) = nI (if A < B then A else B) := by
  by_cases c : nI B < nI A
  · rw [if_pos c]
    rw [nlt hB hA] at c
    rw [if_neg (by omega)]
  · rw [if_neg c]
    rw [nlt hB hA] at c
    by_cases d : A < B
    · rw [if_pos d]
    · rw [if_neg d, show A = B by omega]
theorem stepsFor_c {lo hi : Nat} (hT : T < 256) (hT0 : T ≠ 0) (hlh : lo ≤ hi) (hh9 : hi < 10) (hh : h < 10) (h33 : MC.1 33 2 = nI h) (lh1 : f3_lowest MC fu (nI T) = some (nI lo)) (lh2 : f3_highest MC fu (nI T) = some (nI hi)) : f3_stepsFor MC fu (nI T) = some (nI (if dst h lo + (hi - lo) < dst h hi + (hi - lo) then dst h lo + (hi - lo) else dst h hi + (hi - lo))) := by
  have d1 := dst_lt (a := h) (b := lo) hh (by omega)
  have d2 := dst_lt (a := h) (b := hi) hh hh9
  have hT1 : ¬ nI T = nI 0 := by
    rw [neq (by omega) (by omega)]
    exact hT0
  have s1 := stepsBy_c h33 hh (show lo < 10 by omega) hh9
  have s2 := stepsBy_c h33 hh hh9 (show lo < 10 by omega)
  rw [(dst_lh hlh).1] at s1
  rw [(dst_lh hlh).2] at s2
  unfold f3_stepsFor
  rw [lit, if_neg hT1, lh1, bS, lh2, bS, s1, bS, s2, bS, min_n (by omega) (by omega)]
end WK
theorem lies_at {P : PD} {s : Nat → Int32} {MC : Mem} {T : Nat} (hg : gst P.1 s) (hp : pic P s (MC.1 33 2) (MC.1 33 3) (MC.1 33 4) (MC.1 34)) (hT : T &&& msk P.1 (lyB s) = T) : ∀ k, k < P.1 → T.testBit k = true → ∃ p, p < 10 ∧ s (k + 1) = nI p ∧ MC.1 34 k = nI p := by
  intro k hk c
  have c2 : lyB s k = true := by
    rw [← hT, Nat.testBit_and, msk_tb] at c
    simp at c
    exact c.2.2
  obtain ⟨n1, n2⟩ := lyB_ne c2
  rcases hg.2 k hk with e | e | ⟨p, hp9, e⟩
  · exact absurd e n1
  · exact absurd e n2
  · exact ⟨p, hp9, e, by rw [hp.2.2.2 k hk n1 n2, e]⟩
section WS
variable {P : PD} {s : Nat → Int32} {MC MM : Mem} {fu T h lo hi : Nat}
theorem walk0_c (hP : GP P MC MM) (hp : pic P s (MC.1 33 2) (MC.1 33 3) (MC.1 33 4) (MC.1 34)) : f4_walk fu (nI 0) MC = some (sI MC 28 6 (s 0), nI 0) := by
  have h8 := hP.1
  have h256 := pow8 h8
  unfold f4_walk f2_all
  simp (disch := omega) only [lit, nlt, nle, neq, nI_add, pk_mul, nm_u, bS, gd_d, oc_none, oc_some, rd_n, wr_n, if_pos, if_neg, ite_true, ite_false, not_true_eq_false, not_false_eq_true, g1, g2, g3, g4, h1, h2, h3, h4, ior, iand, shl_n, Nat.or_zero, hP.2.1, all2, lying_c hP hp, andnot, sub_t (Nat.zero_and (msk P.1 (lyB s))), hp.1]
theorem walkT_c (hP : GP P MC MM) (hp : pic P s (MC.1 33 2) (MC.1 33 3) (MC.1 33 4) (MC.1 34)) (hT : T < 2 ^ P.1) (hT0 : ¬ T = 0) (c : T &&& msk P.1 (lyB s) = T) (h33 : MC.1 33 2 = nI h) (hh : h < 10) (b1 : lo ≤ hi) (b2 : hi < 10) (b3 : f3_lowest MC fu (nI T) = some (nI lo)) (b4 : f3_highest MC fu (nI T) = some (nI hi)) (sf : ∀ v, f3_stepsFor (sI MC 28 6 v) fu (nI T) = some (nI (if dst h lo + (hi - lo) < dst h hi + (hi - lo) then dst h lo + (hi - lo) else dst h hi + (hi - lo)))) : f4_walk fu (nI T) MC = some (sI MC 28 6 (if dst h lo + (hi - lo) < dst h hi + (hi - lo) then nI hi else nI lo), nI (if dst h lo + (hi - lo) < dst h hi + (hi - lo) then dst h lo + (hi - lo) else dst h hi + (hi - lo))) := by
  have h8 := hP.1
  have h256 := pow8 h8
  have d1 := dst_lt (a := h) (b := lo) hh (by omega)
  have d2 := dst_lt (a := h) (b := hi) hh b2
  have s1 := stepsBy_c h33 hh (show lo < 10 by omega) b2
  have s2 := stepsBy_c h33 hh b2 (show lo < 10 by omega)
  rw [(dst_lh b1).1] at s1
  rw [(dst_lh b1).2] at s2
  unfold f4_walk f2_all f4_walk_98 f4_walk_111
  simp (disch := omega) only [lit, nlt, nle, neq, nI_add, pk_mul, nm_u, bS, gd_d, oc_none, oc_some, rd_n, wr_n, if_pos, if_neg, ite_true, ite_false, not_true_eq_false, not_false_eq_true, g1, g2, g3, g4, h1, h2, h3, h4, ior, iand, shl_n, Nat.or_zero, hP.2.1, all2, lying_c hP hp, andnot, sub_t c]
  rw [b3, bS, b4, bS, s2, bS, s1, bS]
  by_cases q : dst h lo + (hi - lo) < dst h hi + (hi - lo)
  · rw [if_pos q] at sf ⊢
    rw [if_pos q]
    rw [if_pos (by rw [nlt (by omega) (by omega)]; exact q)]
    rw [sf, bS]
  · rw [if_neg q] at sf ⊢
    rw [if_neg q]
    rw [if_neg (by rw [nlt (by omega) (by omega)]; exact q)]
    rw [sf, bS]
theorem walkN_c (hP : GP P MC MM) (hp : pic P s (MC.1 33 2) (MC.1 33 3) (MC.1 33 4) (MC.1 34)) (hT : T < 2 ^ P.1) (c : ¬ T &&& msk P.1 (lyB s) = T) : f4_walk fu (nI T) MC = some (MC, -nI 4) := by
  have h8 := hP.1
  have h256 := pow8 h8
  unfold f4_walk f2_all
  simp (disch := omega) only [lit, nlt, nle, neq, nI_add, pk_mul, nm_u, bS, gd_d, oc_none, oc_some, rd_n, wr_n, if_pos, if_neg, ite_true, ite_false, not_true_eq_false, not_false_eq_true, g1, g2, g3, g4, h1, h2, h3, h4, ior, iand, shl_n, Nat.or_zero, hP.2.1, all2, lying_c hP hp, andnot, sub_f (show T < 256 by omega) c]
end WS
/-! out of 45.within -/
theorem un_and {P : PD} {T H : Nat} : ∀ n, ((fo (stU P T) n 0) &&& H = 0 ↔ ∀ k, k < n → T.testBit k = true → hm P k &&& H = 0) := by
  intro n
  induction n with
  | zero =>
    refine ⟨fun _ k hk => absurd hk (by omega), fun _ => ?_⟩
    show (0 : Nat) &&& H = 0
    exact Nat.zero_and H
  | succ n ih =>
    rw [fo_s]
    unfold stU
    have ih' := ih
    unfold stU at ih'
    by_cases c : T.testBit n = true
    · rw [if_pos c, Nat.and_or_distrib_right]
      constructor
      · intro h k hk hb
        have lh2 := Nat.or_eq_zero_iff.mp h
        by_cases e : k = n
        · subst e; exact lh2.2
        · exact ih'.mp lh2.1 k (by omega) hb
      · intro h
        exact Nat.or_eq_zero_iff.mpr ⟨ih'.mpr (fun k hk hb => h k (by omega) hb), h n (by omega) c⟩
    · rw [if_neg c]
      constructor
      · intro h k hk hb
        by_cases e : k = n
        · subst e; exact absurd hb c
        · exact ih'.mp h k (by omega) hb
      · intro h
        exact ih'.mpr (fun k hk hb => h k (by omega) hb)
theorem tw_and {P : PD} {T H n : Nat} (hn : n ≤ 8) (hT : T < 2 ^ n) : (tw P T).2 &&& H = 0 ↔ ∀ k, k < n → T.testBit k = true → hm P k &&& H = 0 := by
  have e : fo (stU P T) 8 0 = fo (stU P T) n 0 := fo_ext (fun k a hk => by unfold stU; rw [tb_ge hT hk]; rfl) 0 8 hn
  rw [← un_tw, show un P T = fo (stU P T) 8 0 from rfl, e]
  exact un_and n
theorem and_sub {T L : Nat} : T &&& L = T ↔ ∀ k, T.testBit k = true → L.testBit k = true := by
  constructor
  · intro h k hk
    rw [← h, Nat.testBit_and] at hk
    simp at hk
    exact hk.2
  · intro h
    apply Nat.eq_of_testBit_eq
    intro k
    rw [Nat.testBit_and]
    cases c : T.testBit k
    · rfl
    · rw [h k c]; rfl
/-- a set of those that are free: of those that lie, with hours that are free -/
theorem free_iff {P : PD} {T H n : Nat} {q : Nat → Bool} (hn : n ≤ 8) (hT : T < 2 ^ n) : T &&& (msk n q &&& msk n (fun k => hm P k &&& H == 0)) = T ↔ (T &&& msk n q = T ∧ (tw P T).2 &&& H = 0) := by
  rw [tw_and hn hT, and_sub, and_sub]
  constructor
  · intro h
    refine ⟨fun k hk => ?_, fun k hk1 hk => ?_⟩
    · have := h k hk
      rw [Nat.testBit_and] at this
      simp at this
      exact this.1
    · have := h k hk
      rw [Nat.testBit_and, msk_tb (p := fun k => hm P k &&& H == 0)] at this
      simp at this
      exact this.2.2
  · intro h k hk
    have lh1 := h.1 k hk
    have hk1 : k < n := by
      rw [msk_tb] at lh1
      simp at lh1
      exact lh1.1
    rw [Nat.testBit_and, lh1, msk_tb]
    simp [hk1, h.2 k hk1 hk]
section WN
variable {P : PD} {s : Nat → Int32} {MC MM : Mem} {fu h H N : Nat}
end WN
/-! out of 46.whose -/
theorem places_c {fu r : Nat} {M : Mem} {v : Int32} (hfu : 10000 ≤ fu) (hr6 : r < 6) (h : M.1 r 0 = nI 13) : f0_placesOf M fu r v = some (nI (msk 13 (fun i => M.1 (r + 10) i == v))) := by
  have gk : gd (decide (r < 10)) = some () := by
    have : r < 10 := by omega
    simp [gd, this]
  have key : ∀ (e i f : Nat), i + e = 13 → e < f → f0_placesOf_4 M fu f r v (nI (msk i (fun i => M.1 (r + 10) i == v))) (nI i) = some (nI (msk 13 (fun i => M.1 (r + 10) i == v))) := by
    intro e
    induction e with
    | zero =>
      intro i f hi hf
      rcases f with _ | f
      · omega
      have : i = 13 := by omega
      subst this
      rw [f0_placesOf_4]
      simp (disch := omega) only [lit, nlt, nle, neq, nI_add, pk_mul, nm_u, bS, gd_d, oc_none, oc_some, rd_n, wr_n, if_pos, if_neg, ite_true, ite_false, not_true_eq_false, not_false_eq_true, g1, g2, g3, g4, h1, h2, h3, h4, gk, h]
    | succ e ih =>
      intro i f hi hf
      rcases f with _ | f
      · omega
      have lh2 := ih (i + 1) f (by omega) (by omega)
      rw [msk_s] at lh2
      rw [f0_placesOf_4]
      by_cases c : M.1 (r + 10) i = v
      · rw [if_pos (by simp [c])] at lh2
        simp (disch := omega) only [lit, nlt, nle, neq, nI_add, pk_mul, nm_u, bS, gd_d, oc_none, oc_some, rd_n, wr_n, if_pos, if_neg, ite_true, ite_false, not_true_eq_false, not_false_eq_true, g1, g2, g3, g4, h1, h2, h3, h4, ior, iand, shl_n, Nat.or_zero, gk, h, c]
        exact lh2
      · rw [if_neg (by simp [c])] at lh2
        simp (disch := omega) only [lit, nlt, nle, neq, nI_add, pk_mul, nm_u, bS, gd_d, oc_none, oc_some, rd_n, wr_n, if_pos, if_neg, ite_true, ite_false, not_true_eq_false, not_false_eq_true, g1, g2, g3, g4, h1, h2, h3, h4, ior, iand, shl_n, Nat.or_zero, gk, h, c]
        exact lh2
  unfold f0_placesOf
  rw [lit]
  exact key 13 0 fu (by omega) (by omega)
def okw (w : Int32) : Prop := w = nI 0 ∨ w = nI 1 ∨ w = -nI 9
theorem cover {w : Nat → Int32} : ((msk 13 (fun i => w i == nI 1) ||| msk 13 (fun i => w i == nI 0)) ||| msk 13 (fun i => w i == -nI 9) = 8191) ↔ ∀ j, j < 13 → okw (w j) := by
  have e : (8191 : Nat) = 2 ^ 13 - 1 := rfl
  rw [e]
  constructor
  · intro h j hj
    have q := congrArg (fun x => x.testBit j) h
    simp only [Nat.testBit_or, msk_tb, Nat.testBit_two_pow_sub_one, hj, decide_true, Bool.true_and] at q
    simp only [Bool.or_eq_true, beq_iff_eq] at q
    rcases q with (q | q) | q
    · exact Or.inr (Or.inl q)
    · exact Or.inl q
    · exact Or.inr (Or.inr q)
  · intro h
    apply Nat.eq_of_testBit_eq
    intro j
    simp only [Nat.testBit_or, msk_tb, Nat.testBit_two_pow_sub_one]
    by_cases c : j < 13
    · simp only [c, decide_true, Bool.true_and]
      simp only [Bool.or_eq_true, beq_iff_eq]
      rcases h j c with q | q | q
      · exact Or.inl (Or.inr q)
      · exact Or.inl (Or.inl q)
      · exact Or.inr q
    · simp [c]
theorem who_iff {U B Z : Nat} (h : B &&& Z = 0) : U &&& (B ||| Z) = B ↔ U &&& B = B ∧ U &&& Z = 0 := by
  have hb : ∀ j, (B.testBit j && Z.testBit j) = false := by
    intro j
    have := congrArg (fun x => x.testBit j) h
    simpa only [Nat.testBit_and, Nat.zero_testBit] using this
  constructor
  · intro q
    have qb : ∀ j, (U.testBit j && (B.testBit j || Z.testBit j)) = B.testBit j := by
      intro j
      have := congrArg (fun x => x.testBit j) q
      simpa only [Nat.testBit_and, Nat.testBit_or] using this
    constructor
    · apply Nat.eq_of_testBit_eq
      intro j
      rw [Nat.testBit_and]
      have a := hb j
      have b := qb j
      revert a b
      cases U.testBit j <;> cases B.testBit j <;> cases Z.testBit j <;> decide
    · apply Nat.eq_of_testBit_eq
      intro j
      rw [Nat.testBit_and, Nat.zero_testBit]
      have a := hb j
      have b := qb j
      revert a b
      cases U.testBit j <;> cases B.testBit j <;> cases Z.testBit j <;> decide
  · rintro ⟨q1, q2⟩
    apply Nat.eq_of_testBit_eq
    intro j
    rw [Nat.testBit_and, Nat.testBit_or]
    have a := congrArg (fun x => x.testBit j) q1
    have b := congrArg (fun x => x.testBit j) q2
    simp only [Nat.testBit_and, Nat.zero_testBit] at a b
    revert a b
    cases U.testBit j <;> cases B.testBit j <;> cases Z.testBit j <;> decide
