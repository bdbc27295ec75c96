/-! 37: kinds -/
theorem kin_l {fu k t K S w : Nat} {P : PD} {MC MM : Mem} {kc : Int32 → Nat → Int32 → Int32 → Option Int32} {km : Int32 → Int32 → Int32 → Int32 → Option Int32} (hP : GP P MC MM) (hk : k < P.1) (ht : t < 6) (hK : K ≤ 40) (hc : MC.1 t 0 = nI K) (hm : MM.1 2 t = nI K) (he : ∀ i, i < K → MM.1 1 (40 * t + i) = MC.1 (t + 10) i) (hw : w < 6) : ∀ (e i f1 f2 b : Nat), 2 * i + 2 * e = K → e < f1 → e < f2 → b < 2 → ∃ S', (S' = S ∨ S' = S ||| 2 ^ w) ∧ (b = 0 → S' = S) ∧ f4_kindsBy_26 MC fu kc f1 (nI k) t (nI S) (nI w) (nI b) (nI (2 * i)) = kc (nI k) t (nI S') (nI (w + 1)) ∧ f5_kindsOf_18 MM fu km f2 (nI k) (nI t) (nI S) (nI w) (nI b) (nI (2 * i)) = km (nI k) (nI t) (nI S') (nI (w + 1)) := by
  intro e
  have gk : gd (decide (t < 10)) = some () := by
    have : t < 10 := by omega
    simp [gd, this]
  induction e with
  | zero =>
    intro i f1 f2 b h hf1 hf2 hb
    rcases f1 with _ | f1
    · omega
    rcases f2 with _ | f2
    · omega
    rcases (show b = 0 ∨ b = 1 by omega) with rfl | rfl
    · refine ⟨S, Or.inl rfl, fun _ => rfl, ?_, ?_⟩
      · rw [f4_kindsBy_26]
        unfold f4_kindsBy_83
        simp (disch := omega) only [lit, nlt, nle, neq, nI_add, pk_mul, nm_u, bS, gd_d, oc_none, oc_some, rd_n, wr_n, if_pos, if_neg, ite_true, ite_false, not_true_eq_false, not_false_eq_true, g1, g2, g3, g4, h1, h2, h3, h4, ior, iand, shl_n, Nat.or_zero]
      · rw [f5_kindsOf_18]
        simp (disch := omega) only [lit, nlt, nle, neq, nI_add, pk_mul, nm_u, bS, gd_d, oc_none, oc_some, rd_n, wr_n, if_pos, if_neg, ite_true, ite_false, not_true_eq_false, not_false_eq_true, g1, g2, g3, g4, h1, h2, h3, h4, ior, iand, shl_n, Nat.or_zero, hm]
    · refine ⟨S ||| 2 ^ w, Or.inr rfl, fun q => absurd q (by omega), ?_, ?_⟩
      · rw [f4_kindsBy_26]
        unfold f4_kindsBy_83
        simp (disch := omega) only [lit, nlt, nle, neq, nI_add, pk_mul, nm_u, bS, gd_d, oc_none, oc_some, rd_n, wr_n, if_pos, if_neg, ite_true, ite_false, not_true_eq_false, not_false_eq_true, g1, g2, g3, g4, h1, h2, h3, h4, ior, iand, shl_n, Nat.or_zero, gk, hc, kq9]
      · rw [f5_kindsOf_18]
        simp (disch := omega) only [lit, nlt, nle, neq, nI_add, pk_mul, nm_u, bS, gd_d, oc_none, oc_some, rd_n, wr_n, if_pos, if_neg, ite_true, ite_false, not_true_eq_false, not_false_eq_true, g1, g2, g3, g4, h1, h2, h3, h4, ior, iand, shl_n, Nat.or_zero, hm, kq9]
  | succ e ih =>
    intro i f1 f2 b h hf1 hf2 hb
    rcases f1 with _ | f1
    · omega
    rcases f2 with _ | f2
    · omega
    rcases (show b = 0 ∨ b = 1 by omega) with rfl | rfl
    · obtain ⟨S', a1, a2, a3, a4⟩ := ih (i + 1) (f1 + 1) f2 0 (by omega) (by omega) (by omega) (by omega)
      have e0 := a2 rfl
      subst e0
      refine ⟨S', Or.inl rfl, fun _ => rfl, ?_, ?_⟩
      · rw [f4_kindsBy_26]
        unfold f4_kindsBy_83
        simp (disch := omega) only [lit, nlt, nle, neq, nI_add, pk_mul, nm_u, bS, gd_d, oc_none, oc_some, rd_n, wr_n, if_pos, if_neg, ite_true, ite_false, not_true_eq_false, not_false_eq_true, g1, g2, g3, g4, h1, h2, h3, h4, ior, iand, shl_n, Nat.or_zero]
      · rw [show 2 * (i + 1) = 2 * i + 2 by omega] at a4
        rw [f5_kindsOf_18]
        simp (disch := omega) only [lit, nlt, nle, neq, nI_add, pk_mul, nm_u, bS, gd_d, oc_none, oc_some, rd_n, wr_n, if_pos, if_neg, ite_true, ite_false, not_true_eq_false, not_false_eq_true, g1, g2, g3, g4, h1, h2, h3, h4, ior, iand, shl_n, Nat.or_zero, hm, a4]
    · have c1 := cellAt_in (M := MC) (p := t) (i := 2 * i) (by omega) (by omega)
      have c2 := cellAt_in (M := MC) (p := t) (i := 2 * i + 1) (by omega) (by omega)
      have v1 := he (2 * i) (by omega)
      have v2 := he (2 * i + 1) (by omega)
      have v3 : MM.1 1 (40 * t + 2 * i + 1) = MC.1 (t + 10) (2 * i + 1) := by rw [← v2]; exact congrArg _ (by omega)
      by_cases c : wvI P (nI w) k (MC.1 (t + 10) (2 * i)) = MC.1 (t + 10) (2 * i + 1)
      · obtain ⟨S', a1, a2, a3, a4⟩ := ih (i + 1) f1 f2 1 (by omega) (by omega) (by omega) (by omega)
        rw [show 2 * (i + 1) = 2 * i + 2 by omega] at a3 a4
        refine ⟨S', a1, fun q => absurd q (by omega), ?_, ?_⟩
        · rw [f4_kindsBy_26]
          simp (disch := omega) only [lit, nlt, nle, neq, nI_add, pk_mul, nm_u, bS, gd_d, oc_none, oc_some, rd_n, wr_n, if_pos, if_neg, ite_true, ite_false, not_true_eq_false, not_false_eq_true, g1, g2, g3, g4, h1, h2, h3, h4, gk, hc, kq9, c1, c2, value_c hP hk, c, a3]
        · rw [f5_kindsOf_18]
          simp (disch := omega) only [lit, nlt, nle, neq, nI_add, pk_mul, nm_u, bS, gd_d, oc_none, oc_some, rd_n, wr_n, if_pos, if_neg, ite_true, ite_false, not_true_eq_false, not_false_eq_true, g1, g2, g3, g4, h1, h2, h3, h4, hm, kq9, v1, v3, value_m hP hk, c, a4]
      · obtain ⟨S', a1, a2, a3, a4⟩ := ih (i + 1) f1 f2 0 (by omega) (by omega) (by omega) (by omega)
        have e0 := a2 rfl
        subst e0
        rw [show 2 * (i + 1) = 2 * i + 2 by omega] at a3 a4
        refine ⟨S', Or.inl rfl, fun q => absurd q (by omega), ?_, ?_⟩
        · rw [f4_kindsBy_26]
          simp (disch := omega) only [lit, nlt, nle, neq, nI_add, pk_mul, nm_u, bS, gd_d, oc_none, oc_some, rd_n, wr_n, if_pos, if_neg, ite_true, ite_false, not_true_eq_false, not_false_eq_true, g1, g2, g3, g4, h1, h2, h3, h4, gk, hc, kq9, c1, c2, value_c hP hk, c, a3]
        · rw [f5_kindsOf_18]
          simp (disch := omega) only [lit, nlt, nle, neq, nI_add, pk_mul, nm_u, bS, gd_d, oc_none, oc_some, rd_n, wr_n, if_pos, if_neg, ite_true, ite_false, not_true_eq_false, not_false_eq_true, g1, g2, g3, g4, h1, h2, h3, h4, hm, kq9, v1, v3, value_m hP hk, c, a4]
theorem kin_o {fu k t K : Nat} {P : PD} {MC MM : Mem} (hfu : 10000 ≤ fu) (hP : GP P MC MM) (hk : k < P.1) (ht : t < 6) (hK : K ≤ 40) (h2 : K % 2 = 0) (hc : MC.1 t 0 = nI K) (hm : MM.1 2 t = nI K) (he : ∀ i, i < K → MM.1 1 (40 * t + i) = MC.1 (t + 10) i) : ∀ (e w f1 f2 S : Nat), w + e = 6 → e < f1 → e < f2 → S < 2 ^ w → ∃ S', S' < 64 ∧ f4_kindsBy_5 MC fu f1 (nI k) t (nI S) (nI w) = some (nI S') ∧ f5_kindsOf_5 MM fu f2 (nI k) (nI t) (nI S) (nI w) = some (nI S') := by
  intro e
  induction e with
  | zero =>
    intro w f1 f2 S h hf1 hf2 hS
    rcases f1 with _ | f1
    · omega
    rcases f2 with _ | f2
    · omega
    have : w = 6 := by omega
    subst this
    refine ⟨S, hS, ?_, ?_⟩
    · rw [f4_kindsBy_5]
      simp (disch := omega) only [lit, nlt, nle, neq, nI_add, pk_mul, nm_u, bS, gd_d, oc_none, oc_some, rd_n, wr_n, if_pos, if_neg, ite_true, ite_false, not_true_eq_false, not_false_eq_true, g1, g2, g3, g4, h1, h2, h3, h4]
    · rw [f5_kindsOf_5]
      simp (disch := omega) only [lit, nlt, nle, neq, nI_add, pk_mul, nm_u, bS, gd_d, oc_none, oc_some, rd_n, wr_n, if_pos, if_neg, ite_true, ite_false, not_true_eq_false, not_false_eq_true, g1, g2, g3, g4, h1, h2, h3, h4]
  | succ e ih =>
    intro w f1 f2 S h hf1 hf2 hS
    rcases f1 with _ | f1
    · omega
    rcases f2 with _ | f2
    · omega
    obtain ⟨S1, b1, -, b3, b4⟩ := kin_l (fu := fu) (S := S) (w := w) (kc := f4_kindsBy_5 MC fu f1) (km := f5_kindsOf_5 MM fu f2) hP hk ht hK hc hm he (by omega) (K / 2) 0 fu fu 1 (by omega) (by omega) (by omega) (by omega)
    have hS1 : S1 < 2 ^ (w + 1) := by
      have p1 : 2 ^ w < 2 ^ (w + 1) := Nat.pow_lt_pow_right (by omega) (by omega)
      rcases b1 with rfl | rfl
      · omega
      · exact Nat.or_lt_two_pow (by omega) p1
    obtain ⟨S', a1, a2, a3⟩ := ih (w + 1) f1 f2 S1 (by omega) (by omega) (by omega) hS1
    refine ⟨S', a1, ?_, ?_⟩
    · rw [f4_kindsBy_5]
      rw [Nat.mul_zero] at b3
      simp (disch := omega) only [lit, nlt, nle, neq, nI_add, pk_mul, nm_u, bS, gd_d, oc_none, oc_some, rd_n, wr_n, if_pos, if_neg, ite_true, ite_false, not_true_eq_false, not_false_eq_true, g1, g2, g3, g4, h1, h2, h3, h4, b3, a2]
    · rw [f5_kindsOf_5]
      rw [Nat.mul_zero] at b4
      simp (disch := omega) only [lit, nlt, nle, neq, nI_add, pk_mul, nm_u, bS, gd_d, oc_none, oc_some, rd_n, wr_n, if_pos, if_neg, ite_true, ite_false, not_true_eq_false, not_false_eq_true, g1, g2, g3, g4, h1, h2, h3, h4, b4, a3]
theorem kinds_cm {fu k t K : Nat} {P : PD} {MC MM : Mem} (hfu : 10000 ≤ fu) (hP : GP P MC MM) (hk : k < P.1) (ht : t < 6) (hK : K ≤ 40) (h2 : K % 2 = 0) (hc : MC.1 t 0 = nI K) (hm : MM.1 2 t = nI K) (he : ∀ i, i < K → MM.1 1 (40 * t + i) = MC.1 (t + 10) i) : ∃ S, S < 64 ∧ f4_kindsBy MC fu (nI k) t = some (nI S) ∧ f5_kindsOf MM fu (nI k) (nI t) = some (nI S) := by
  obtain ⟨S, a1, a2, a3⟩ := kin_o (fu := fu) hfu hP hk ht hK h2 hc hm he 6 0 fu fu 0 (by omega) (by omega) (by omega) (by omega)
  refine ⟨S, a1, ?_, ?_⟩
  · unfold f4_kindsBy
    simp (disch := omega) only [lit, nlt, nle, neq, nI_add, pk_mul, nm_u, bS, gd_d, oc_none, oc_some, rd_n, wr_n, if_pos, if_neg, ite_true, ite_false, not_true_eq_false, not_false_eq_true, g1, g2, g3, g4, h1, h2, h3, h4, a2]
  · unfold f5_kindsOf
    simp (disch := omega) only [lit, nlt, nle, neq, nI_add, pk_mul, nm_u, bS, gd_d, oc_none, oc_some, rd_n, wr_n, if_pos, if_neg, ite_true, ite_false, not_true_eq_false, not_false_eq_true, g1, g2, g3, g4, h1, h2, h3, h4, a3]
theorem s_kinds {fu : Nat} (hfu : 10000 ≤ fu) : Sim_kinds fu Rel := by
  intro MC MM a0 a1 hR
  obtain ⟨P, hA, hR0, hT, hP, hD, hK⟩ := id hR
  have h8 := hP.1
  rcases tri a1 6 (by omega) with h | ⟨t, ht, rfl⟩
  · refine ⟨-1, MC, MM, ?_, ?_, hR⟩
    · unfold f4_kinds f4_refusePairs
      rw [rowAt_out h]
      simp (disch := omega) only [lit, nlt, nle, neq, nI_add, pk_mul, nm_u, bS, gd_d, oc_none, oc_some, rd_n, wr_n, if_pos, if_neg, ite_true, ite_false, not_true_eq_false, not_false_eq_true, g1, g2, g3, g4, h1, h2, h3, h4, m1_eq]
    · unfold f5_kinds
      rcases tri a0 P.1 (by omega) with h' | ⟨k, hk, rfl⟩
      · simp (disch := omega) only [lit, nlt, nle, neq, nI_add, pk_mul, nm_u, bS, gd_d, oc_none, oc_some, rd_n, wr_n, if_pos, if_neg, ite_true, ite_false, not_true_eq_false, not_false_eq_true, g1, g2, g3, g4, h1, h2, h3, h4, isPin_out hP h']
      · simp (disch := omega) only [lit, nlt, nle, neq, nI_add, pk_mul, nm_u, bS, gd_d, oc_none, oc_some, rd_n, wr_n, if_pos, if_neg, ite_true, ite_false, not_true_eq_false, not_false_eq_true, g1, g2, g3, g4, h1, h2, h3, h4, isPin_in hP hk, isRow_out h, kq9]
  rcases tri a0 P.1 (by omega) with h | ⟨k, hk, rfl⟩
  · refine ⟨-1, MC, MM, ?_, ?_, hR⟩
    · unfold f4_kinds f4_refusePairs
      rw [rowAt_in ht]
      simp (disch := omega) only [lit, nlt, nle, neq, nI_add, pk_mul, nm_u, bS, gd_d, oc_none, oc_some, rd_n, wr_n, if_pos, if_neg, ite_true, ite_false, not_true_eq_false, not_false_eq_true, g1, g2, g3, g4, h1, h2, h3, h4, has2_out hP h, m1_eq]
    · unfold f5_kinds
      simp (disch := omega) only [lit, nlt, nle, neq, nI_add, pk_mul, nm_u, bS, gd_d, oc_none, oc_some, rd_n, wr_n, if_pos, if_neg, ite_true, ite_false, not_true_eq_false, not_false_eq_true, g1, g2, g3, g4, h1, h2, h3, h4, isPin_out hP h]
  rcases pairs_cm hfu hR hP hk ht with ⟨MC', MM', a1, a2, a3⟩ | ⟨a1, a2, K, k1, k2, k3, k4, k5⟩
  · refine ⟨-3, MC', MM', ?_, ?_, a3⟩
    · unfold f4_kinds
      simp (disch := omega) only [lit, nlt, nle, neq, nI_add, pk_mul, nm_u, bS, gd_d, oc_none, oc_some, rd_n, wr_n, if_pos, if_neg, ite_true, ite_false, not_true_eq_false, not_false_eq_true, g1, g2, g3, g4, h1, h2, h3, h4, a1, m3_eq]
    · unfold f5_kinds
      simp (disch := omega) only [lit, nlt, nle, neq, nI_add, pk_mul, nm_u, bS, gd_d, oc_none, oc_some, rd_n, wr_n, if_pos, if_neg, ite_true, ite_false, not_true_eq_false, not_false_eq_true, g1, g2, g3, g4, h1, h2, h3, h4, isPin_in hP hk, isRow_in ht, kq9, a2, m3_eq]
  · obtain ⟨S, b1, b2, b3⟩ := kinds_cm hfu hP hk ht k1 k2 k3 k4 k5
    refine ⟨nI S, MC, MM, ?_, ?_, hR⟩
    · unfold f4_kinds
      simp (disch := omega) only [lit, nlt, nle, neq, nI_add, pk_mul, nm_u, bS, gd_d, oc_none, oc_some, rd_n, wr_n, if_pos, if_neg, ite_true, ite_false, not_true_eq_false, not_false_eq_true, g1, g2, g3, g4, h1, h2, h3, h4, a1, rowAt_in ht, b2]
    · unfold f5_kinds
      simp (disch := omega) only [lit, nlt, nle, neq, nI_add, pk_mul, nm_u, bS, gd_d, oc_none, oc_some, rd_n, wr_n, if_pos, if_neg, ite_true, ite_false, not_true_eq_false, not_false_eq_true, g1, g2, g3, g4, h1, h2, h3, h4, isPin_in hP hk, isRow_in ht, kq9, a2, b3]
