/-! 35: rows of pairs -/
theorem luck_eq (x : Int32) : ∃ r : Nat, r < 2 ∧ f4_isLuck x = some (nI r) ∧ f5_in x.toInt64 (0 : Int64) (9 : Int64) = some (nI r) := by
  have l9 : (9 : Int64) = (nI 9).toInt64 := by decide
  rcases tri x 10 (by omega) with h | ⟨j, hj, rfl⟩
  · refine ⟨0, by omega, ?_, by rw [l9]; exact in_out (by omega) h⟩
    unfold f4_isLuck
    rcases h with h | ⟨h0, h⟩
    · simp (disch := omega) only [lit, nlt, nle, neq, nI_add, pk_mul, nm_u, bS, gd_d, oc_none, oc_some, rd_n, wr_n, if_pos, if_neg, ite_true, ite_false, not_true_eq_false, not_false_eq_true, g1, g2, g3, g4, h1, h2, h3, h4, h]
    · simp (disch := omega) only [lit, nlt, nle, neq, nI_add, pk_mul, nm_u, bS, gd_d, oc_none, oc_some, rd_n, wr_n, if_pos, if_neg, ite_true, ite_false, not_true_eq_false, not_false_eq_true, g1, g2, g3, g4, h1, h2, h3, h4, h0, h]
  · refine ⟨1, by omega, ?_, by rw [l9]; exact in_in (by omega) (by omega)⟩
    unfold f4_isLuck
    simp (disch := omega) only [lit, nlt, nle, neq, nI_add, pk_mul, nm_u, bS, gd_d, oc_none, oc_some, rd_n, wr_n, if_pos, if_neg, ite_true, ite_false, not_true_eq_false, not_false_eq_true, g1, g2, g3, g4, h1, h2, h3, h4]
theorem wor_eq (x : Int32) : ∃ r : Nat, r < 2 ∧ f4_isWorth x = some (nI r) ∧ f5_in x.toInt64 (-20 : Int64) (60 : Int64) = some (nI r) := by
  have l60 : (60 : Int64) = (nI 60).toInt64 := by decide
  have l20 : (-20 : Int64) = (-nI 20).toInt64 := by decide
  rw [l60, l20, in_i]
  by_cases a : x < -nI 20
  · refine ⟨0, by omega, ?_, by rw [if_neg (fun q => Int32.not_lt.mpr q.1 a)]; rfl⟩
    unfold f4_isWorth
    simp (disch := omega) only [lit, nlt, nle, neq, nI_add, pk_mul, nm_u, bS, gd_d, oc_none, oc_some, rd_n, wr_n, if_pos, if_neg, ite_true, ite_false, not_true_eq_false, not_false_eq_true, g1, g2, g3, g4, h1, h2, h3, h4, a]
  · by_cases b : nI 60 < x
    · refine ⟨0, by omega, ?_, by rw [if_neg (fun q => Int32.not_lt.mpr q.2 b)]; rfl⟩
      unfold f4_isWorth
      simp (disch := omega) only [lit, nlt, nle, neq, nI_add, pk_mul, nm_u, bS, gd_d, oc_none, oc_some, rd_n, wr_n, if_pos, if_neg, ite_true, ite_false, not_true_eq_false, not_false_eq_true, g1, g2, g3, g4, h1, h2, h3, h4, a, b]
    · refine ⟨1, by omega, ?_, by rw [if_pos ⟨Int32.not_lt.mp a, Int32.not_lt.mp b⟩]; rfl⟩
      unfold f4_isWorth
      simp (disch := omega) only [lit, nlt, nle, neq, nI_add, pk_mul, nm_u, bS, gd_d, oc_none, oc_some, rd_n, wr_n, if_pos, if_neg, ite_true, ite_false, not_true_eq_false, not_false_eq_true, g1, g2, g3, g4, h1, h2, h3, h4, a, b]
theorem pairs_l {fu t K : Nat} {MC MM : Mem} (ht : t < 6) (hK : K ≤ 40) (h2 : K % 2 = 0) (hc : MC.1 t 0 = nI K) (hm : MM.1 2 t = nI K) (he : ∀ i, i < K → MM.1 1 (40 * t + i) = MC.1 (t + 10) i) (hR : Rel MC MM) : ∀ (e i f1 f2 : Nat), 2 * i + 2 * e = K → e < f1 → e < f2 → (f4_refusePairs_57 fu f1 t (nI (2 * i)) MC = some (MC, nI 0) ∧ f5_refusesPairs_35 fu f2 (nI t) (nI (2 * i)) MM = some (MM, nI 0)) ∨ ∃ MC' MM', f4_refusePairs_57 fu f1 t (nI (2 * i)) MC = some (MC', -nI 3) ∧ f5_refusesPairs_35 fu f2 (nI t) (nI (2 * i)) MM = some (MM', -nI 3) ∧ Rel MC' MM' := by
  intro e
  have gk : gd (decide (t < 10)) = some () := by
    have : t < 10 := by omega
    simp [gd, this]
  induction e with
  | zero =>
    intro i f1 f2 h hf1 hf2
    rcases f1 with _ | f1
    · omega
    rcases f2 with _ | f2
    · omega
    refine Or.inl ⟨?_, ?_⟩
    · rw [f4_refusePairs_57]
      simp (disch := omega) only [lit, nlt, nle, neq, nI_add, pk_mul, nm_u, bS, gd_d, oc_none, oc_some, rd_n, wr_n, if_pos, if_neg, ite_true, ite_false, not_true_eq_false, not_false_eq_true, g1, g2, g3, g4, h1, h2, h3, h4, gk, hc]
    · rw [f5_refusesPairs_35]
      simp (disch := omega) only [lit, nlt, nle, neq, nI_add, pk_mul, nm_u, bS, gd_d, oc_none, oc_some, rd_n, wr_n, if_pos, if_neg, ite_true, ite_false, not_true_eq_false, not_false_eq_true, g1, g2, g3, g4, h1, h2, h3, h4, hm]
  | succ e ih =>
    intro i f1 f2 h hf1 hf2
    rcases f1 with _ | f1
    · omega
    rcases f2 with _ | f2
    · omega
    have c1 := cellAt_in (M := MC) (p := t) (i := 2 * i) (by omega) (by omega)
    have c2 := cellAt_in (M := MC) (p := t) (i := 2 * i + 1) (by omega) (by omega)
    have v1 := he (2 * i) (by omega)
    have v2 := he (2 * i + 1) (by omega)
    have v3 : MM.1 1 (40 * t + 2 * i + 1) = MC.1 (t + 10) (2 * i + 1) := by rw [← v2]; exact congrArg _ (by omega)
    obtain ⟨r, hr, l1, l2⟩ := luck_eq (MC.1 (t + 10) (2 * i))
    obtain ⟨w, hw, w1, w2⟩ := wor_eq (MC.1 (t + 10) (2 * i + 1))
    rcases (show r = 0 ∨ r = 1 by omega) with rfl | rfl
    · refine Or.inr ⟨_, _, ?_, ?_, hR.find (f := 3) (by omega)⟩
      · rw [f4_refusePairs_57]
        unfold f4_refusePairs_92
        simp (disch := omega) only [lit, nlt, nle, neq, nI_add, pk_mul, nm_u, bS, gd_d, oc_none, oc_some, rd_n, wr_n, if_pos, if_neg, ite_true, ite_false, not_true_eq_false, not_false_eq_true, g1, g2, g3, g4, h1, h2, h3, h4, gk, hc, c1, l1, find_s]
      · rw [f5_refusesPairs_35]
        unfold f5_refusesPairs_93
        simp (disch := omega) only [lit, nlt, nle, neq, nI_add, pk_mul, nm_u, bS, gd_d, oc_none, oc_some, rd_n, wr_n, if_pos, if_neg, ite_true, ite_false, not_true_eq_false, not_false_eq_true, g1, g2, g3, g4, h1, h2, h3, h4, hm, v1, l2, found_s]
    · rcases (show w = 0 ∨ w = 1 by omega) with rfl | rfl
      · refine Or.inr ⟨_, _, ?_, ?_, hR.find (f := 3) (by omega)⟩
        · rw [f4_refusePairs_57]
          unfold f4_refusePairs_92
          simp (disch := omega) only [lit, nlt, nle, neq, nI_add, pk_mul, nm_u, bS, gd_d, oc_none, oc_some, rd_n, wr_n, if_pos, if_neg, ite_true, ite_false, not_true_eq_false, not_false_eq_true, g1, g2, g3, g4, h1, h2, h3, h4, gk, hc, c1, l1, c2, w1, find_s]
        · rw [f5_refusesPairs_35]
          unfold f5_refusesPairs_93
          simp (disch := omega) only [lit, nlt, nle, neq, nI_add, pk_mul, nm_u, bS, gd_d, oc_none, oc_some, rd_n, wr_n, if_pos, if_neg, ite_true, ite_false, not_true_eq_false, not_false_eq_true, g1, g2, g3, g4, h1, h2, h3, h4, hm, v1, l2, v3, w2, found_s]
      · have q := ih (i + 1) f1 f2 (by omega) (by omega) (by omega)
        rw [show 2 * (i + 1) = 2 * i + 2 by omega] at q
        have s1 : f4_refusePairs_57 fu (f1 + 1) t (nI (2 * i)) MC = f4_refusePairs_57 fu f1 t (nI (2 * i + 2)) MC := by
          rw [f4_refusePairs_57]
          simp (disch := omega) only [lit, nlt, nle, neq, nI_add, pk_mul, nm_u, bS, gd_d, oc_none, oc_some, rd_n, wr_n, if_pos, if_neg, ite_true, ite_false, not_true_eq_false, not_false_eq_true, g1, g2, g3, g4, h1, h2, h3, h4, gk, hc, c1, l1, c2, w1]
        have s2 : f5_refusesPairs_35 fu (f2 + 1) (nI t) (nI (2 * i)) MM = f5_refusesPairs_35 fu f2 (nI t) (nI (2 * i + 2)) MM := by
          rw [f5_refusesPairs_35]
          simp (disch := omega) only [lit, nlt, nle, neq, nI_add, pk_mul, nm_u, bS, gd_d, oc_none, oc_some, rd_n, wr_n, if_pos, if_neg, ite_true, ite_false, not_true_eq_false, not_false_eq_true, g1, g2, g3, g4, h1, h2, h3, h4, hm, v1, l2, v3, w2]
        rw [s1, s2]
        exact q
