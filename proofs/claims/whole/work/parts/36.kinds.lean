/-! 36: kinds -/
theorem pairs_cm {fu k t : Nat} {P : PD} {MC MM : Mem} (hfu : 10000 ≤ fu) (hR : Rel MC MM) (hP : GP P MC MM) (hk : k < P.1) (ht : t < 6) : (∃ MC' MM', f4_refusePairs fu (nI k) (nI t) MC = some (MC', -nI 3) ∧ f5_refusesPairs fu (nI t) MM = some (MM', -nI 3) ∧ Rel MC' MM') ∨ (f4_refusePairs fu (nI k) (nI t) MC = some (MC, nI 0) ∧ f5_refusesPairs fu (nI t) MM = some (MM, nI 0) ∧ ∃ K, K ≤ 40 ∧ K % 2 = 0 ∧ MC.1 t 0 = nI K ∧ MM.1 2 t = nI K ∧ ∀ i, i < K → MM.1 1 (40 * t + i) = MC.1 (t + 10) i) := by
  have gk : gd (decide (t < 10)) = some () := by
    have : t < 10 := by omega
    simp [gd, this]
  have hR2 := id hR
  obtain ⟨P', hA, hR0, -⟩ := hR2
  obtain ⟨r0, rr⟩ := hR0 t ht
  rcases rr with b | ⟨K, hK, b, eq⟩
  · rw [m1r] at b
    have b2 : MM.1 2 t = -nI 1 := by rw [← r0, b]
    refine Or.inl ⟨_, _, ?_, ?_, hR.find (f := 1) (by omega)⟩
    · unfold f4_refusePairs
      rw [rowAt_in ht]
      simp (disch := omega) only [lit, nlt, nle, neq, nI_add, pk_mul, nm_u, bS, gd_d, oc_none, oc_some, rd_n, wr_n, if_pos, if_neg, ite_true, ite_false, not_true_eq_false, not_false_eq_true, g1, g2, g3, g4, h1, h2, h3, h4, has2_in hP hk, gk, kq9, isM_m (M := MC) (p := t) (by omega) b, find_s]
    · unfold f5_refusesPairs
      simp (disch := omega) only [lit, nlt, nle, neq, nI_add, pk_mul, nm_u, bS, gd_d, oc_none, oc_some, rd_n, wr_n, if_pos, if_neg, ite_true, ite_false, not_true_eq_false, not_false_eq_true, g1, g2, g3, g4, h1, h2, h3, h4, b2, m1_le, found_s]
  · have b2 : MM.1 2 t = nI K := by rw [← r0, b]
    have hm := isM_k (M := MC) (p := t) (by omega) b (by omega)
    have h2 := rm32 (z := K) (n := 2) (by omega) (by omega) (by omega)
    by_cases ev : K % 2 = 0
    · have cells : ∀ i, i < K → MM.1 1 (40 * t + i) = MC.1 (t + 10) i := fun i hi => (eq i hi).symm
      have s1 : f4_refusePairs fu (nI k) (nI t) MC = f4_refusePairs_57 fu fu t (nI (2 * 0)) MC := by
        unfold f4_refusePairs
        rw [rowAt_in ht]
        simp (disch := omega) only [lit, nlt, nle, neq, nI_add, pk_mul, nm_u, bS, gd_d, oc_none, oc_some, rd_n, wr_n, if_pos, if_neg, ite_true, ite_false, not_true_eq_false, not_false_eq_true, g1, g2, g3, g4, h1, h2, h3, h4, has2_in hP hk, gk, kq9, hm, b, h2, ev]
      have s2 : f5_refusesPairs fu (nI t) MM = f5_refusesPairs_35 fu fu (nI t) (nI (2 * 0)) MM := by
        unfold f5_refusesPairs
        simp (disch := omega) only [lit, nlt, nle, neq, nI_add, pk_mul, nm_u, bS, gd_d, oc_none, oc_some, rd_n, wr_n, if_pos, if_neg, ite_true, ite_false, not_true_eq_false, not_false_eq_true, g1, g2, g3, g4, h1, h2, h3, h4, b2, h2, ev]
      rw [s1, s2]
      rcases pairs_l (fu := fu) ht hK ev b b2 cells hR (K / 2) 0 fu fu (by omega) (by omega) (by omega) with ⟨q1, q2⟩ | q
      · exact Or.inr ⟨q1, q2, K, hK, ev, b, b2, cells⟩
      · exact Or.inl q
    · have e1 : K % 2 = 1 := by omega
      refine Or.inl ⟨_, _, ?_, ?_, hR.find (f := 5) (by omega)⟩
      · unfold f4_refusePairs
        rw [rowAt_in ht]
        simp (disch := omega) only [lit, nlt, nle, neq, nI_add, pk_mul, nm_u, bS, gd_d, oc_none, oc_some, rd_n, wr_n, if_pos, if_neg, ite_true, ite_false, not_true_eq_false, not_false_eq_true, g1, g2, g3, g4, h1, h2, h3, h4, has2_in hP hk, gk, kq9, hm, b, h2, e1, find_s]
      · unfold f5_refusesPairs
        simp (disch := omega) only [lit, nlt, nle, neq, nI_add, pk_mul, nm_u, bS, gd_d, oc_none, oc_some, rd_n, wr_n, if_pos, if_neg, ite_true, ite_false, not_true_eq_false, not_false_eq_true, g1, g2, g3, g4, h1, h2, h3, h4, b2, h2, e1, found_s]
