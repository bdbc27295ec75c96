/-! 38: the luck to ask -/
theorem hs_t {a k : Nat} (h : a.testBit k = true) (hk : k < 31) (ha : a < 2147483648) : f5_has (nI a) (nI k) = some (nI 1) := by
  rw [hs_b hk ha, if_pos h]
theorem hs_f {a k : Nat} (h : a.testBit k = false) (hk : k < 31) (ha : a < 2147483648) : f5_has (nI a) (nI k) = some (nI 0) := by
  rw [hs_b hk ha, if_neg (by rw [h]; decide)]
theorem np9 {F : Nat} (h : F < 256) : (nI F = -nI 9) = False := by
  have : ∀ F, F < 256 → ¬ nI F = -nI 9 := by decide +kernel
  exact eq_false (this F h)
theorem gpi_l {fu k l S w g : Nat} {P : PD} {MC MM : Mem} {kc1 : Int32 → Int32 → Int32 → Int32 → Int32 → Option Int32} {k48 : Int32 → Int32 → Int32 → Int32 → Int32 → Mem → Option (Mem × Int32)} {k66 : Int32 → Int32 → Int32 → Int32 → Int32 → Int32 → Int32 → Mem → Option (Mem × Int32)} {x5 x6 : Int32} (hP : GP P MC MM) (hk : k < P.1) (hw : w < 6) (hS : S < 64) (hg : g ≤ 6) : ∀ (e o p f1 f2 : Nat), o + e = 6 → e < f1 → e < f2 → p ≤ o → ∃ g', g' ≤ 6 ∧ f2_greatestPart_19 MC fu kc1 f1 (nI k) (nI S) (nI l) (nI g) (nI w) (nI p) (nI o) = kc1 (nI k) (nI S) (nI l) (nI g') (nI (w + 1)) ∧ f5_test_79 fu k48 k66 f2 (nI k) (nI S) x5 x6 (nI l) (nI g) (nI w) (nI p) (nI o) MM = k66 (nI k) (nI S) x5 x6 (nI l) (nI g') (nI (w + 1)) MM := by
  intro e
  induction e with
  | zero =>
    intro o p f1 f2 h hf1 hf2 hp
    rcases f1 with _ | f1
    · omega
    rcases f2 with _ | f2
    · omega
    have : o = 6 := by omega
    subst this
    by_cases c : g < p
    · refine ⟨p, by omega, ?_, ?_⟩
      · rw [f2_greatestPart_19]
        simp (disch := omega) only [lit, nlt, nle, neq, nI_add, pk_mul, nm_u, bS, gd_d, oc_none, oc_some, rd_n, wr_n, if_pos, if_neg, ite_true, ite_false, not_true_eq_false, not_false_eq_true, g1, g2, g3, g4, h1, h2, h3, h4]
      · rw [f5_test_79]
        simp (disch := omega) only [lit, nlt, nle, neq, nI_add, pk_mul, nm_u, bS, gd_d, oc_none, oc_some, rd_n, wr_n, if_pos, if_neg, ite_true, ite_false, not_true_eq_false, not_false_eq_true, g1, g2, g3, g4, h1, h2, h3, h4]
    · refine ⟨g, hg, ?_, ?_⟩
      · rw [f2_greatestPart_19]
        simp (disch := omega) only [lit, nlt, nle, neq, nI_add, pk_mul, nm_u, bS, gd_d, oc_none, oc_some, rd_n, wr_n, if_pos, if_neg, ite_true, ite_false, not_true_eq_false, not_false_eq_true, g1, g2, g3, g4, h1, h2, h3, h4]
      · rw [f5_test_79]
        simp (disch := omega) only [lit, nlt, nle, neq, nI_add, pk_mul, nm_u, bS, gd_d, oc_none, oc_some, rd_n, wr_n, if_pos, if_neg, ite_true, ite_false, not_true_eq_false, not_false_eq_true, g1, g2, g3, g4, h1, h2, h3, h4]
  | succ e ih =>
    intro o p f1 f2 h hf1 hf2 hp
    rcases f1 with _ | f1
    · omega
    rcases f2 with _ | f2
    · omega
    have z0 : (nI 0 = nI 0) = True := eq_true rfl
    cases b1 : S.testBit w
    · obtain ⟨g', a1, a2, a3⟩ := ih (o + 1) p f1 f2 (by omega) (by omega) (by omega) (by omega)
      refine ⟨g', a1, ?_, ?_⟩
      · rw [f2_greatestPart_19]
        unfold f2_greatestPart_49
        simp (disch := omega) only [lit, nlt, nle, neq, nI_add, pk_mul, nm_u, bS, gd_d, oc_none, oc_some, rd_n, wr_n, if_pos, if_neg, ite_true, ite_false, not_true_eq_false, not_false_eq_true, g1, g2, g3, g4, h1, h2, h3, h4, ior, iand, shl_n, Nat.or_zero, bit_f b1 (show w < 31 by omega) (show S < 2147483648 by omega), a2]
      · rw [f5_test_79]
        simp (disch := omega) only [lit, nlt, nle, neq, nI_add, pk_mul, nm_u, bS, gd_d, oc_none, oc_some, rd_n, wr_n, if_pos, if_neg, ite_true, ite_false, not_true_eq_false, not_false_eq_true, g1, g2, g3, g4, h1, h2, h3, h4, ior, iand, shl_n, Nat.or_zero, hs_f b1 (show w < 31 by omega) (show S < 2147483648 by omega), Nat.add_zero, a3]
    · cases b2 : S.testBit o
      · obtain ⟨g', a1, a2, a3⟩ := ih (o + 1) p f1 f2 (by omega) (by omega) (by omega) (by omega)
        refine ⟨g', a1, ?_, ?_⟩
        · rw [f2_greatestPart_19]
          unfold f2_greatestPart_49
          simp (disch := omega) only [lit, nlt, nle, neq, nI_add, pk_mul, nm_u, bS, gd_d, oc_none, oc_some, rd_n, wr_n, if_pos, if_neg, ite_true, ite_false, not_true_eq_false, not_false_eq_true, g1, g2, g3, g4, h1, h2, h3, h4, ior, iand, shl_n, Nat.or_zero, bit_t b1 (show w < 31 by omega) (show S < 2147483648 by omega), bit_f b2 (show o < 31 by omega) (show S < 2147483648 by omega), kq9, a2]
        · rw [f5_test_79]
          simp (disch := omega) only [lit, nlt, nle, neq, nI_add, pk_mul, nm_u, bS, gd_d, oc_none, oc_some, rd_n, wr_n, if_pos, if_neg, ite_true, ite_false, not_true_eq_false, not_false_eq_true, g1, g2, g3, g4, h1, h2, h3, h4, ior, iand, shl_n, Nat.or_zero, hs_t b1 (show w < 31 by omega) (show S < 2147483648 by omega), hs_f b2 (show o < 31 by omega) (show S < 2147483648 by omega), kq9, Nat.add_zero, a3]
      · by_cases v : wvI P (nI w) k (nI l) = wvI P (nI o) k (nI l)
        · obtain ⟨g', a1, a2, a3⟩ := ih (o + 1) (p + 1) f1 f2 (by omega) (by omega) (by omega) (by omega)
          refine ⟨g', a1, ?_, ?_⟩
          · rw [f2_greatestPart_19]
            unfold f2_greatestPart_49
            simp (disch := omega) only [lit, nlt, nle, neq, nI_add, pk_mul, nm_u, bS, gd_d, oc_none, oc_some, rd_n, wr_n, if_pos, if_neg, ite_true, ite_false, not_true_eq_false, not_false_eq_true, g1, g2, g3, g4, h1, h2, h3, h4, ior, iand, shl_n, Nat.or_zero, bit_t b1 (show w < 31 by omega) (show S < 2147483648 by omega), bit_t b2 (show o < 31 by omega) (show S < 2147483648 by omega), kq9, value_c hP hk, v, a2]
          · rw [f5_test_79]
            simp (disch := omega) only [lit, nlt, nle, neq, nI_add, pk_mul, nm_u, bS, gd_d, oc_none, oc_some, rd_n, wr_n, if_pos, if_neg, ite_true, ite_false, not_true_eq_false, not_false_eq_true, g1, g2, g3, g4, h1, h2, h3, h4, ior, iand, shl_n, Nat.or_zero, hs_t b1 (show w < 31 by omega) (show S < 2147483648 by omega), hs_t b2 (show o < 31 by omega) (show S < 2147483648 by omega), kq9, value_m hP hk, v, a3]
        · obtain ⟨g', a1, a2, a3⟩ := ih (o + 1) p f1 f2 (by omega) (by omega) (by omega) (by omega)
          refine ⟨g', a1, ?_, ?_⟩
          · rw [f2_greatestPart_19]
            unfold f2_greatestPart_49
            simp (disch := omega) only [lit, nlt, nle, neq, nI_add, pk_mul, nm_u, bS, gd_d, oc_none, oc_some, rd_n, wr_n, if_pos, if_neg, ite_true, ite_false, not_true_eq_false, not_false_eq_true, g1, g2, g3, g4, h1, h2, h3, h4, ior, iand, shl_n, Nat.or_zero, bit_t b1 (show w < 31 by omega) (show S < 2147483648 by omega), bit_t b2 (show o < 31 by omega) (show S < 2147483648 by omega), kq9, value_c hP hk, v, a2]
          · rw [f5_test_79]
            simp (disch := omega) only [lit, nlt, nle, neq, nI_add, pk_mul, nm_u, bS, gd_d, oc_none, oc_some, rd_n, wr_n, if_pos, if_neg, ite_true, ite_false, not_true_eq_false, not_false_eq_true, g1, g2, g3, g4, h1, h2, h3, h4, ior, iand, shl_n, Nat.or_zero, hs_t b1 (show w < 31 by omega) (show S < 2147483648 by omega), hs_t b2 (show o < 31 by omega) (show S < 2147483648 by omega), kq9, value_m hP hk, v, Nat.add_zero, a3]
theorem gp_l {fu k l S : Nat} {P : PD} {MC MM : Mem} {k48 : Int32 → Int32 → Int32 → Int32 → Int32 → Mem → Option (Mem × Int32)} {x5 x6 : Int32} (hfu : 10000 ≤ fu) (hP : GP P MC MM) (hk : k < P.1) (hS : S < 64) : ∀ (e w g f1 f2 : Nat), w + e = 6 → e < f1 → e < f2 → g ≤ 6 → ∃ g', g' ≤ 6 ∧ f2_greatestPart_6 MC fu f1 (nI k) (nI S) (nI l) (nI g) (nI w) = some (nI g') ∧ f5_test_66 fu k48 f2 (nI k) (nI S) x5 x6 (nI l) (nI g) (nI w) MM = (if x6 ≤ nI g' then f5_test_179 fu k48 (nI k) (nI S) x6 (nI l) (nI g') x5 MM else f5_test_179 fu k48 (nI k) (nI S) x6 (nI l) (nI g') (nI l) MM) := by
  intro e
  induction e with
  | zero =>
    intro w g f1 f2 h hf1 hf2 hg
    rcases f1 with _ | f1
    · omega
    rcases f2 with _ | f2
    · omega
    have : w = 6 := by omega
    subst this
    refine ⟨g, hg, ?_, ?_⟩
    · rw [f2_greatestPart_6]
      simp (disch := omega) only [lit, nlt, nle, neq, nI_add, pk_mul, nm_u, bS, gd_d, oc_none, oc_some, rd_n, wr_n, if_pos, if_neg, ite_true, ite_false, not_true_eq_false, not_false_eq_true, g1, g2, g3, g4, h1, h2, h3, h4]
    · rw [f5_test_66]
      simp (disch := omega) only [lit, nlt, nle, neq, nI_add, pk_mul, nm_u, bS, gd_d, oc_none, oc_some, rd_n, wr_n, if_pos, if_neg, ite_true, ite_false, not_true_eq_false, not_false_eq_true, g1, g2, g3, g4, h1, h2, h3, h4]
  | succ e ih =>
    intro w g f1 f2 h hf1 hf2 hg
    rcases f1 with _ | f1
    · omega
    rcases f2 with _ | f2
    · omega
    obtain ⟨gv, b1, b2, b3⟩ := gpi_l (fu := fu) (l := l) (kc1 := f2_greatestPart_6 MC fu f1) (k48 := k48) (k66 := f5_test_66 fu k48 f2) (x5 := x5) (x6 := x6) hP hk (show w < 6 by omega) hS hg 6 0 0 fu fu (by omega) (by omega) (by omega) (by omega)
    obtain ⟨g', a1, a2, a3⟩ := ih (w + 1) gv f1 f2 (by omega) (by omega) (by omega) b1
    refine ⟨g', a1, ?_, ?_⟩
    · rw [f2_greatestPart_6]
      simp (disch := omega) only [lit, nlt, nle, neq, nI_add, pk_mul, nm_u, bS, gd_d, oc_none, oc_some, rd_n, wr_n, if_pos, if_neg, ite_true, ite_false, not_true_eq_false, not_false_eq_true, g1, g2, g3, g4, h1, h2, h3, h4, b2, a2]
    · rw [f5_test_66]
      simp (disch := omega) only [lit, nlt, nle, neq, nI_add, pk_mul, nm_u, bS, gd_d, oc_none, oc_some, rd_n, wr_n, if_pos, if_neg, ite_true, ite_false, not_true_eq_false, not_false_eq_true, g1, g2, g3, g4, h1, h2, h3, h4, b3, a3]
theorem test_l {fu k S : Nat} {P : PD} {MC MM : Mem} (hfu : 10000 ≤ fu) (hP : GP P MC MM) (hk : k < P.1) (hS : S < 64) (hS0 : 0 < S) : ∀ (e l f1 f2 L F : Nat) (X : Int32), l + e = 10 → e < f1 → e < f2 → L ≤ 7 → F < 10 → ((X = nI F ∧ L ≤ 6) ∨ (X = -nI 9 ∧ L = 7 ∧ 0 < e)) → ∃ L' F', f4_test_43 fu f1 (nI k) (nI S) (nI L) (nI F) (nI l) MC = some (sI MC 28 6 (nI L'), nI F') ∧ f5_test_48 fu f2 (nI k) (nI S) X (nI L) (nI l) MM = some (sI MM 0 4 (nI L'), nI F') := by
  intro e
  induction e with
  | zero =>
    intro l f1 f2 L F X h hf1 hf2 hL hF hX
    rcases f1 with _ | f1
    · omega
    rcases f2 with _ | f2
    · omega
    have : l = 10 := by omega
    subst this
    rcases hX with ⟨rfl, -⟩ | ⟨-, -, q⟩
    · refine ⟨L, F, ?_, ?_⟩
      · rw [f4_test_43]
        simp (disch := omega) only [lit, nlt, nle, neq, nI_add, pk_mul, nm_u, bS, gd_d, oc_none, oc_some, rd_n, wr_n, if_pos, if_neg, ite_true, ite_false, not_true_eq_false, not_false_eq_true, g1, g2, g3, g4, h1, h2, h3, h4]
      · rw [f5_test_48]
        unfold f5_test_203 f5_answer
        simp (disch := omega) only [lit, nlt, nle, neq, nI_add, pk_mul, nm_u, bS, gd_d, oc_none, oc_some, rd_n, wr_n, if_pos, if_neg, ite_true, ite_false, not_true_eq_false, not_false_eq_true, g1, g2, g3, g4, h1, h2, h3, h4, np9 (F := F) (by omega)]
    · omega
  | succ e ih =>
    intro l f1 f2 L F X h hf1 hf2 hL hF hX
    rcases f1 with _ | f1
    · omega
    rcases f2 with _ | f2
    · omega
    obtain ⟨g, b1, b2, b3⟩ := gp_l (fu := fu) (l := l) (k48 := f5_test_48 fu f2) (x5 := X) (x6 := nI L) hfu hP hk hS 6 0 0 fu fu (by omega) (by omega) (by omega) (by omega)
    by_cases c : L ≤ g
    · have hX2 : X = nI F ∧ L ≤ 6 := by
        rcases hX with q | ⟨-, q, -⟩
        · exact q
        · omega
      obtain ⟨L', F', a1, a2⟩ := ih (l + 1) f1 f2 L F X (by omega) (by omega) (by omega) hL hF (Or.inl hX2)
      refine ⟨L', F', ?_, ?_⟩
      · rw [f4_test_43]
        unfold f2_greatestPart
        simp (disch := omega) only [lit, nlt, nle, neq, nI_add, pk_mul, nm_u, bS, gd_d, oc_none, oc_some, rd_n, wr_n, if_pos, if_neg, ite_true, ite_false, not_true_eq_false, not_false_eq_true, g1, g2, g3, g4, h1, h2, h3, h4, b2, a1]
      · rw [f5_test_48]
        simp (disch := omega) only [lit, nlt, nle, neq, nI_add, pk_mul, nm_u, bS, gd_d, oc_none, oc_some, rd_n, wr_n, if_pos, if_neg, ite_true, ite_false, not_true_eq_false, not_false_eq_true, g1, g2, g3, g4, h1, h2, h3, h4, b3]
        unfold f5_test_179
        simp (disch := omega) only [lit, nlt, nle, neq, nI_add, pk_mul, nm_u, bS, gd_d, oc_none, oc_some, rd_n, wr_n, if_pos, if_neg, ite_true, ite_false, not_true_eq_false, not_false_eq_true, g1, g2, g3, g4, h1, h2, h3, h4, a2]
    · obtain ⟨L', F', a1, a2⟩ := ih (l + 1) f1 f2 g l (nI l) (by omega) (by omega) (by omega) (by omega) (by omega) (Or.inl ⟨rfl, b1⟩)
      refine ⟨L', F', ?_, ?_⟩
      · rw [f4_test_43]
        unfold f2_greatestPart
        simp (disch := omega) only [lit, nlt, nle, neq, nI_add, pk_mul, nm_u, bS, gd_d, oc_none, oc_some, rd_n, wr_n, if_pos, if_neg, ite_true, ite_false, not_true_eq_false, not_false_eq_true, g1, g2, g3, g4, h1, h2, h3, h4, b2, a1]
      · rw [f5_test_48]
        simp (disch := omega) only [lit, nlt, nle, neq, nI_add, pk_mul, nm_u, bS, gd_d, oc_none, oc_some, rd_n, wr_n, if_pos, if_neg, ite_true, ite_false, not_true_eq_false, not_false_eq_true, g1, g2, g3, g4, h1, h2, h3, h4, b3]
        unfold f5_test_179
        simp (disch := omega) only [lit, nlt, nle, neq, nI_add, pk_mul, nm_u, bS, gd_d, oc_none, oc_some, rd_n, wr_n, if_pos, if_neg, ite_true, ite_false, not_true_eq_false, not_false_eq_true, g1, g2, g3, g4, h1, h2, h3, h4, a2]
theorem s_test {fu : Nat} (hfu : 10000 ≤ fu) : Sim_test fu Rel := by
  intro MC MM a0 a1 hR
  obtain ⟨P, hA, hR0, hT, hP, hD, hK⟩ := id hR
  have h8 := hP.1
  rcases tri a1 6 (by omega) with h | ⟨t, ht, rfl⟩
  · refine ⟨-1, MC, MM, ?_, ?_, hR⟩
    · unfold f4_test f4_refusePairs
      rw [rowAt_out h]
      simp (disch := omega) only [lit, nlt, nle, neq, nI_add, pk_mul, nm_u, bS, gd_d, oc_none, oc_some, rd_n, wr_n, if_pos, if_neg, ite_true, ite_false, not_true_eq_false, not_false_eq_true, g1, g2, g3, g4, h1, h2, h3, h4, m1_eq]
    · unfold f5_test
      rcases tri a0 P.1 (by omega) with h' | ⟨k, hk, rfl⟩
      · simp (disch := omega) only [lit, nlt, nle, neq, nI_add, pk_mul, nm_u, bS, gd_d, oc_none, oc_some, rd_n, wr_n, if_pos, if_neg, ite_true, ite_false, not_true_eq_false, not_false_eq_true, g1, g2, g3, g4, h1, h2, h3, h4, isPin_out hP h']
      · simp (disch := omega) only [lit, nlt, nle, neq, nI_add, pk_mul, nm_u, bS, gd_d, oc_none, oc_some, rd_n, wr_n, if_pos, if_neg, ite_true, ite_false, not_true_eq_false, not_false_eq_true, g1, g2, g3, g4, h1, h2, h3, h4, isPin_in hP hk, isRow_out h, kq9]
  rcases tri a0 P.1 (by omega) with h | ⟨k, hk, rfl⟩
  · refine ⟨-1, MC, MM, ?_, ?_, hR⟩
    · unfold f4_test f4_refusePairs
      rw [rowAt_in ht]
      simp (disch := omega) only [lit, nlt, nle, neq, nI_add, pk_mul, nm_u, bS, gd_d, oc_none, oc_some, rd_n, wr_n, if_pos, if_neg, ite_true, ite_false, not_true_eq_false, not_false_eq_true, g1, g2, g3, g4, h1, h2, h3, h4, has2_out hP h, m1_eq]
    · unfold f5_test
      simp (disch := omega) only [lit, nlt, nle, neq, nI_add, pk_mul, nm_u, bS, gd_d, oc_none, oc_some, rd_n, wr_n, if_pos, if_neg, ite_true, ite_false, not_true_eq_false, not_false_eq_true, g1, g2, g3, g4, h1, h2, h3, h4, isPin_out hP h]
  rcases pairs_cm hfu hR hP hk ht with ⟨MC', MM', a1, a2, a3⟩ | ⟨a1, a2, K, k1, k2, k3, k4, k5⟩
  · refine ⟨-3, MC', MM', ?_, ?_, a3⟩
    · unfold f4_test
      simp (disch := omega) only [lit, nlt, nle, neq, nI_add, pk_mul, nm_u, bS, gd_d, oc_none, oc_some, rd_n, wr_n, if_pos, if_neg, ite_true, ite_false, not_true_eq_false, not_false_eq_true, g1, g2, g3, g4, h1, h2, h3, h4, a1, m3_eq]
    · unfold f5_test
      simp (disch := omega) only [lit, nlt, nle, neq, nI_add, pk_mul, nm_u, bS, gd_d, oc_none, oc_some, rd_n, wr_n, if_pos, if_neg, ite_true, ite_false, not_true_eq_false, not_false_eq_true, g1, g2, g3, g4, h1, h2, h3, h4, isPin_in hP hk, isRow_in ht, kq9, a2, m3_eq]
  · obtain ⟨S, b1, b2, b3⟩ := kinds_cm hfu hP hk ht k1 k2 k3 k4 k5
    by_cases c : S = 0
    · subst c
      obtain ⟨fv, rfl⟩ : ∃ fv, fu = fv + 1 := ⟨fu - 1, by omega⟩
      refine ⟨-9, MC, MM, ?_, ?_, hR⟩
      · unfold f4_test
        simp (disch := omega) only [lit, nlt, nle, neq, nI_add, pk_mul, nm_u, bS, gd_d, oc_none, oc_some, rd_n, wr_n, if_pos, if_neg, ite_true, ite_false, not_true_eq_false, not_false_eq_true, g1, g2, g3, g4, h1, h2, h3, h4, a1, rowAt_in ht, b2]
      · unfold f5_test
        simp (disch := omega) only [lit, nlt, nle, neq, nI_add, pk_mul, nm_u, bS, gd_d, oc_none, oc_some, rd_n, wr_n, if_pos, if_neg, ite_true, ite_false, not_true_eq_false, not_false_eq_true, g1, g2, g3, g4, h1, h2, h3, h4, isPin_in hP hk, isRow_in ht, kq9, a2, b3]
        rw [f5_test_48]
        unfold f5_test_203
        simp (disch := omega) only [lit, nlt, nle, neq, nI_add, pk_mul, nm_u, bS, gd_d, oc_none, oc_some, rd_n, wr_n, if_pos, if_neg, ite_true, ite_false, not_true_eq_false, not_false_eq_true, g1, g2, g3, g4, h1, h2, h3, h4]
    · obtain ⟨L', F', c1, c2⟩ := test_l (fu := fu) hfu hP hk b1 (by omega) 10 0 fu fu 7 0 (-nI 9) (by omega) (by omega) (by omega) (by omega) (by omega) (Or.inr ⟨rfl, rfl, by omega⟩)
      refine ⟨nI F', _, _, ?_, ?_, hR.tell (nI L')⟩
      · unfold f4_test
        simp (disch := omega) only [lit, nlt, nle, neq, nI_add, pk_mul, nm_u, bS, gd_d, oc_none, oc_some, rd_n, wr_n, if_pos, if_neg, ite_true, ite_false, not_true_eq_false, not_false_eq_true, g1, g2, g3, g4, h1, h2, h3, h4, a1, rowAt_in ht, b2, c1]
      · unfold f5_test
        simp (disch := omega) only [lit, nlt, nle, neq, nI_add, pk_mul, nm_u, bS, gd_d, oc_none, oc_some, rd_n, wr_n, if_pos, if_neg, ite_true, ite_false, not_true_eq_false, not_false_eq_true, g1, g2, g3, g4, h1, h2, h3, h4, isPin_in hP hk, isRow_in ht, kq9, a2, b3, c2]
