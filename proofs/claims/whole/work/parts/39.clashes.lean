/-! 39: clashes -/
theorem apartFrom_c {fu n b : Nat} {M : Mem} {h : Nat → Nat} (hfu : 10000 ≤ fu) (hn : n ≤ 8) (h35 : M.1 35 0 = nI n) (h41 : ∀ k, k < n → M.1 41 k = nI (h k)) (hb : b < 8192) : f2_apartFrom M fu (nI b) = some (nI (msk n (fun k => h k &&& b == 0))) := by
  have key : ∀ (e i f : Nat), i + e = n → e < f → f2_apartFrom_4 M fu f (nI b) (nI (msk i (fun k => h k &&& b == 0))) (nI i) = some (nI (msk n (fun k => h k &&& b == 0))) := by
    intro e
    induction e with
    | zero =>
      intro i f h0 hf
      rcases f with _ | f
      · omega
      have : i = n := by omega
      subst this
      rw [f2_apartFrom_4]
      simp (disch := omega) only [lit, nlt, nle, neq, nI_add, pk_mul, nm_u, bS, gd_d, oc_none, oc_some, rd_n, wr_n, if_pos, if_neg, ite_true, ite_false, not_true_eq_false, not_false_eq_true, g1, g2, g3, g4, h1, h2, h3, h4, h35]
    | succ e ih =>
      intro i f h0 hf
      rcases f with _ | f
      · omega
      have lh2 := ih (i + 1) f (by omega) (by omega)
      rw [msk_s] at lh2
      have hlt : h i &&& b < 8192 := Nat.lt_of_le_of_lt Nat.and_le_right hb
      rw [f2_apartFrom_4]
      by_cases c : h i &&& b = 0
      · rw [if_pos (by simp [c])] at lh2
        simp (disch := omega) only [lit, nlt, nle, neq, nI_add, pk_mul, nm_u, bS, gd_d, oc_none, oc_some, rd_n, wr_n, if_pos, if_neg, ite_true, ite_false, not_true_eq_false, not_false_eq_true, g1, g2, g3, g4, h1, h2, h3, h4, ior, iand, shl_n, Nat.or_zero, h35, h41 i (by omega), c]
        exact lh2
      · rw [if_neg (by simp [c])] at lh2
        simp (disch := omega) only [lit, nlt, nle, neq, nI_add, pk_mul, nm_u, bS, gd_d, oc_none, oc_some, rd_n, wr_n, if_pos, if_neg, ite_true, ite_false, not_true_eq_false, not_false_eq_true, g1, g2, g3, g4, h1, h2, h3, h4, ior, iand, shl_n, Nat.or_zero, h35, h41 i (by omega), c]
        exact lh2
  unfold f2_apartFrom
  exact key n 0 fu (by omega) (by omega)
def qc (P : PD) (S i j : Nat) : Bool := S.testBit j && !(hm P j &&& hm P i == 0)
def prs (P : PD) (S n : Nat) : Nat := fo (fun k a => if S.testBit k then a + cnt k (qc P S k) else a) n 0
theorem prs_s (P : PD) (S n : Nat) : prs P S (n + 1) = if S.testBit n then prs P S n + cnt n (qc P S n) else prs P S n := rfl
theorem qc_key {P : PD} {S i n : Nat} (hi : i ≤ n) : (S &&& (2 ^ i - 1)) ^^^ ((S &&& (2 ^ i - 1)) &&& msk n (fun k => hm P k &&& hm P i == 0)) = msk i (qc P S i) := by
  apply Nat.eq_of_testBit_eq
  intro j
  simp only [Nat.testBit_xor, Nat.testBit_and, Nat.testBit_two_pow_sub_one, msk_tb, qc]
  by_cases c : j < i
  · have c2 : j < n := by omega
    simp only [c, c2, decide_true, Bool.true_and, Bool.and_true]
    cases S.testBit j <;> cases (hm P j &&& hm P i == 0) <;> rfl
  · simp only [c, decide_false, Bool.false_and, Bool.and_false, Bool.xor_false]
theorem cls_c {fu S : Nat} {P : PD} {MC MM : Mem} (hfu : 10000 ≤ fu) (hP : GP P MC MM) (hh : MC.1 33 3 = nI S) (hS : S < 2 ^ P.1) : ∀ (e i f : Nat), i + e = P.1 → e < f → f4_clashes_12 fu f (nI (prs P S i)) (nI i) MC = some (sI MC 28 6 (zI (sm P S)), nI (prs P S P.1)) := by
  have h8 := hP.1
  have h256 := pow8 h8
  intro e
  induction e with
  | zero =>
    intro i f h hf
    rcases f with _ | f
    · omega
    have : i = P.1 := by omega
    subst this
    rw [f4_clashes_12]
    simp (disch := omega) only [lit, nlt, nle, neq, nI_add, pk_mul, nm_u, bS, gd_d, oc_none, oc_some, rd_n, wr_n, if_pos, if_neg, ite_true, ite_false, not_true_eq_false, not_false_eq_true, g1, g2, g3, g4, h1, h2, h3, h4, hP.2.1, hh, sum_c hP hS]
  | succ e ih =>
    intro i f h hf
    rcases f with _ | f
    · omega
    have hi : i < P.1 := by omega
    have lh2 := ih (i + 1) f (by omega) (by omega)
    rw [prs_s] at lh2
    rw [f4_clashes_12]
    cases c : S.testBit i
    · rw [if_neg (by rw [c]; decide)] at lh2
      simp (disch := omega) only [lit, nlt, nle, neq, nI_add, pk_mul, nm_u, bS, gd_d, oc_none, oc_some, rd_n, wr_n, if_pos, if_neg, ite_true, ite_false, not_true_eq_false, not_false_eq_true, g1, g2, g3, g4, h1, h2, h3, h4, ior, iand, shl_n, Nat.or_zero, hP.2.1, hh, bit_f c (show i < 31 by omega) (by omega)]
      exact lh2
    · rw [if_pos c] at lh2
      obtain ⟨hok, -, -, -, -, -, e5, -⟩ := hP.2.2.2.1 i hi
      have hap := apartFrom_c (fu := fu) (M := MC) (h := hm P) (b := hm P i) hfu h8 hP.2.1 (fun k hk => (hP.2.2.2.1 k hk).2.2.2.2.2.2.1) (hm_lt hok)
      have hlt := msk_lt i (qc P S i)
      have hpw := pow8 (show i ≤ 8 by omega)
      simp (disch := omega) only [lit, nlt, nle, neq, nI_add, pk_mul, nm_u, bS, gd_d, oc_none, oc_some, rd_n, wr_n, if_pos, if_neg, ite_true, ite_false, not_true_eq_false, not_false_eq_true, g1, g2, g3, g4, h1, h2, h3, h4, ior, iand, shl_n, Nat.or_zero, hP.2.1, hh, bit_t c (show i < 31 by omega) (by omega), kq9, all2, e5, hap, andnot, qc_key (show i ≤ P.1 by omega), bitC, pcn_msk]
      exact lh2
theorem cls_i {fu S i a : Nat} {P : PD} {MC MM : Mem} {k10 : Int32 → Int32 → Int32 → Mem → Option (Mem × Int32)} (hP : GP P MC MM) (hi : i < P.1) (hS : S < 256) : ∀ (e j f : Nat), j + e = i → e < f → f5_clashes_21 fu k10 f (nI S) (nI (if S.testBit i then a + cnt j (qc P S i) else a)) (nI i) (nI j) MM = k10 (nI S) (nI (if S.testBit i then a + cnt i (qc P S i) else a)) (nI (i + 1)) MM := by
  have h8 := hP.1
  intro e
  induction e with
  | zero =>
    intro j f h hf
    rcases f with _ | f
    · omega
    have : j = i := by omega
    subst this
    rw [f5_clashes_21]
    simp (disch := omega) only [lit, nlt, nle, neq, nI_add, pk_mul, nm_u, bS, gd_d, oc_none, oc_some, rd_n, wr_n, if_pos, if_neg, ite_true, ite_false, not_true_eq_false, not_false_eq_true, g1, g2, g3, g4, h1, h2, h3, h4]
  | succ e ih =>
    intro j f h hf
    rcases f with _ | f
    · omega
    have lh2 := ih (j + 1) f (by omega) (by omega)
    rw [cnt_s] at lh2
    rw [f5_clashes_21]
    cases c : S.testBit i
    · rw [if_neg (by rw [c]; decide), if_neg (by rw [c]; decide)] at lh2
      rw [if_neg (by decide), if_neg (by decide)]
      simp (disch := omega) only [lit, nlt, nle, neq, nI_add, pk_mul, nm_u, bS, gd_d, oc_none, oc_some, rd_n, wr_n, if_pos, if_neg, ite_true, ite_false, not_true_eq_false, not_false_eq_true, g1, g2, g3, g4, h1, h2, h3, h4, ior, iand, shl_n, Nat.or_zero, hs_f c (show i < 31 by omega) (show S < 2147483648 by omega), Nat.add_zero]
      exact lh2
    · rw [if_pos c, if_pos c] at lh2
      rw [if_pos rfl, if_pos rfl]
      cases c2 : S.testBit j
      · have q0 : qc P S i j = false := by unfold qc; rw [c2]; rfl
        rw [q0, if_neg (by decide)] at lh2
        simp (disch := omega) only [lit, nlt, nle, neq, nI_add, pk_mul, nm_u, bS, gd_d, oc_none, oc_some, rd_n, wr_n, if_pos, if_neg, ite_true, ite_false, not_true_eq_false, not_false_eq_true, g1, g2, g3, g4, h1, h2, h3, h4, ior, iand, shl_n, Nat.or_zero, hs_t c (show i < 31 by omega) (show S < 2147483648 by omega), hs_f c2 (show j < 31 by omega) (show S < 2147483648 by omega), kq9, Nat.add_zero]
        exact lh2
      · have hlt : hm P i &&& hm P j < 8192 := Nat.lt_of_le_of_lt Nat.and_le_left (hm_lt (hP.2.2.2.1 i hi).1)
        by_cases c3 : hm P i &&& hm P j = 0
        · have q0 : qc P S i j = false := by unfold qc; rw [c2, Nat.and_comm, c3]; rfl
          rw [q0, if_neg (by decide)] at lh2
          simp (disch := omega) only [lit, nlt, nle, neq, nI_add, pk_mul, nm_u, bS, gd_d, oc_none, oc_some, rd_n, wr_n, if_pos, if_neg, ite_true, ite_false, not_true_eq_false, not_false_eq_true, g1, g2, g3, g4, h1, h2, h3, h4, ior, iand, shl_n, Nat.or_zero, hs_t c (show i < 31 by omega) (show S < 2147483648 by omega), hs_t c2 (show j < 31 by omega) (show S < 2147483648 by omega), kq9, hours_m hP hi, hours_m hP (show j < P.1 by omega), c3, Nat.add_zero]
          exact lh2
        · have q0 : qc P S i j = true := by
            unfold qc; rw [c2, Nat.and_comm]; simp [c3]
          rw [q0, if_pos rfl] at lh2
          simp (disch := omega) only [lit, nlt, nle, neq, nI_add, pk_mul, nm_u, bS, gd_d, oc_none, oc_some, rd_n, wr_n, if_pos, if_neg, ite_true, ite_false, not_true_eq_false, not_false_eq_true, g1, g2, g3, g4, h1, h2, h3, h4, ior, iand, shl_n, Nat.or_zero, hs_t c (show i < 31 by omega) (show S < 2147483648 by omega), hs_t c2 (show j < 31 by omega) (show S < 2147483648 by omega), kq9, hours_m hP hi, hours_m hP (show j < P.1 by omega), c3, Nat.add_assoc]
          exact lh2
theorem cls_m {fu S : Nat} {P : PD} {MC MM : Mem} (hfu : 10000 ≤ fu) (hP : GP P MC MM) (hS : S < 2 ^ P.1) : ∀ (e i f : Nat), i + e = P.1 → e < f → f5_clashes_10 fu f (nI S) (nI (prs P S i)) (nI i) MM = some (sI MM 0 4 (zI (sm P S)), nI (prs P S P.1)) := by
  have h8 := hP.1
  have h256 := pow8 h8
  intro e
  induction e with
  | zero =>
    intro i f h hf
    rcases f with _ | f
    · omega
    have : i = P.1 := by omega
    subst this
    rw [f5_clashes_10]
    unfold f5_answer
    simp (disch := omega) only [lit, nlt, nle, neq, nI_add, pk_mul, nm_u, bS, gd_d, oc_none, oc_some, rd_n, wr_n, if_pos, if_neg, ite_true, ite_false, not_true_eq_false, not_false_eq_true, g1, g2, g3, g4, h1, h2, h3, h4, hP.2.2.1, worthAll_m hP hfu hS]
  | succ e ih =>
    intro i f h hf
    rcases f with _ | f
    · omega
    have hi : i < P.1 := by omega
    have lh2 := ih (i + 1) f (by omega) (by omega)
    rw [prs_s] at lh2
    have lh3 := cls_i (fu := fu) (S := S) (i := i) (a := prs P S i) (k10 := f5_clashes_10 fu f) hP hi (by omega) i 0 fu (by omega) (by omega)
    have e0 : (if S.testBit i = true then prs P S i + cnt 0 (qc P S i) else prs P S i) = prs P S i := by
      have : cnt 0 (qc P S i) = 0 := rfl
      rw [this]; split <;> rfl
    rw [e0] at lh3
    rw [f5_clashes_10]
    simp (disch := omega) only [lit, nlt, nle, neq, nI_add, pk_mul, nm_u, bS, gd_d, oc_none, oc_some, rd_n, wr_n, if_pos, if_neg, ite_true, ite_false, not_true_eq_false, not_false_eq_true, g1, g2, g3, g4, h1, h2, h3, h4, hP.2.2.1]
    rw [lh3]
    exact lh2
theorem s_clashes {fu : Nat} (hfu : 10000 ≤ fu) : Sim_clashes fu Rel := by
  intro MC MM hR
  obtain ⟨P, s, hP, hg, hs, hp⟩ := hR.nw
  have h8 := hP.1
  have hlt := msk_lt P.1 (fun k => s (k + 1) == -nI 1)
  have e := those_m (w := -nI 1) hfu h8 hP.2.2.1 hs (by decide)
  refine ⟨nI (prs P (msk P.1 (fun k => s (k + 1) == -nI 1)) P.1), _, _, ?_, ?_, hR.tell (zI (sm P (msk P.1 (fun k => s (k + 1) == -nI 1))))⟩
  · unfold f4_clashes
    exact cls_c hfu hP hp.2.1 hlt P.1 0 fu (by omega) (by omega)
  · unfold f5_clashes
    simp (disch := omega) only [lit, nlt, nle, neq, nI_add, pk_mul, nm_u, bS, gd_d, oc_none, oc_some, rd_n, wr_n, if_pos, if_neg, ite_true, ite_false, not_true_eq_false, not_false_eq_true, g1, g2, g3, g4, h1, h2, h3, h4, e]
    exact cls_m hfu hP hlt P.1 0 fu (by omega) (by omega)
