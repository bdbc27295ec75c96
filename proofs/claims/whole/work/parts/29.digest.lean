/-! 29: digest -/
theorem m1_le_n {i : Nat} (h : i < 100) : (-nI 1 ≤ nI i) = True := by
  have : ∀ i, i < 100 → -nI 1 ≤ nI i := by decide +kernel
  exact eq_true (this i h)
theorem dgR_l {fu t : Nat} {MC MM : Mem} {K : Int64 → Int32 → Option Int64} (ht : t < 6) (hR : RowR (MC.1 t 0) (MC.1 (t + 10)) (MM.1 2 t) (fun i => MM.1 1 (40 * t + i)) 40) : ∀ (e i f1 f2 : Nat) (x : Int64), i + e = 41 → e < f1 → e < f2 → ∃ r, f0_digestFrom_15 MC fu f1 t x (nI i) = some r ∧ f5_digest_239 MM fu K f2 x (nI t) (nI i) = K r (nI (t + 1)) := by
  intro e
  have gk : gd (decide (t < 10)) = some () := by
    have : t < 10 := by omega
    simp [gd, this]
  obtain ⟨c0, cR⟩ := hR
  induction e with
  | zero =>
    intro i f1 f2 x h hf1 hf2
    rcases f1 with _ | f1
    · omega
    rcases f2 with _ | f2
    · omega
    refine ⟨x, ?_, ?_⟩
    · rw [f0_digestFrom_15]
      rcases cR with b | ⟨k, hk, b, -⟩
      · rw [m1r] at b
        have q : (-nI 1 ≤ nI i) = True := m1_le_n (by omega)
        simp (disch := omega) only [lit, nlt, nle, neq, nI_add, pk_mul, nm_u, bS, gd_d, oc_none, oc_some, rd_n, wr_n, if_pos, if_neg, ite_true, ite_false, not_true_eq_false, not_false_eq_true, g1, g2, g3, g4, h1, h2, h3, h4, gk, b, q]
      · simp (disch := omega) only [lit, nlt, nle, neq, nI_add, pk_mul, nm_u, bS, gd_d, oc_none, oc_some, rd_n, wr_n, if_pos, if_neg, ite_true, ite_false, not_true_eq_false, not_false_eq_true, g1, g2, g3, g4, h1, h2, h3, h4, gk, b]
    · rw [f5_digest_239]
      rw [c0] at cR
      rcases cR with b | ⟨k, hk, b, -⟩
      · rw [m1r] at b
        have q : (-nI 1 ≤ nI i) = True := m1_le_n (by omega)
        simp (disch := omega) only [lit, nlt, nle, neq, nI_add, pk_mul, nm_u, bS, gd_d, oc_none, oc_some, rd_n, wr_n, if_pos, if_neg, ite_true, ite_false, not_true_eq_false, not_false_eq_true, g1, g2, g3, g4, h1, h2, h3, h4, b, q]
      · simp (disch := omega) only [lit, nlt, nle, neq, nI_add, pk_mul, nm_u, bS, gd_d, oc_none, oc_some, rd_n, wr_n, if_pos, if_neg, ite_true, ite_false, not_true_eq_false, not_false_eq_true, g1, g2, g3, g4, h1, h2, h3, h4, b]
  | succ e ih =>
    intro i f1 f2 x h hf1 hf2
    rcases f1 with _ | f1
    · omega
    rcases f2 with _ | f2
    · omega
    rcases cR with b | ⟨k, hk, b, eq⟩
    · have b2 : MM.1 2 t = -nI 1 := by rw [← c0, b, m1r]
      rw [m1r] at b
      have q : (-nI 1 ≤ nI i) = True := m1_le_n (by omega)
      refine ⟨x, ?_, ?_⟩
      · rw [f0_digestFrom_15]
        simp (disch := omega) only [lit, nlt, nle, neq, nI_add, pk_mul, nm_u, bS, gd_d, oc_none, oc_some, rd_n, wr_n, if_pos, if_neg, ite_true, ite_false, not_true_eq_false, not_false_eq_true, g1, g2, g3, g4, h1, h2, h3, h4, gk, b, q]
      · rw [f5_digest_239]
        simp (disch := omega) only [lit, nlt, nle, neq, nI_add, pk_mul, nm_u, bS, gd_d, oc_none, oc_some, rd_n, wr_n, if_pos, if_neg, ite_true, ite_false, not_true_eq_false, not_false_eq_true, g1, g2, g3, g4, h1, h2, h3, h4, b2, q]
    · have b2 : MM.1 2 t = nI k := by rw [← c0, b]
      by_cases c : k ≤ i
      · refine ⟨x, ?_, ?_⟩
        · rw [f0_digestFrom_15]
          simp (disch := omega) only [lit, nlt, nle, neq, nI_add, pk_mul, nm_u, bS, gd_d, oc_none, oc_some, rd_n, wr_n, if_pos, if_neg, ite_true, ite_false, not_true_eq_false, not_false_eq_true, g1, g2, g3, g4, h1, h2, h3, h4, gk, b]
        · rw [f5_digest_239]
          simp (disch := omega) only [lit, nlt, nle, neq, nI_add, pk_mul, nm_u, bS, gd_d, oc_none, oc_some, rd_n, wr_n, if_pos, if_neg, ite_true, ite_false, not_true_eq_false, not_false_eq_true, g1, g2, g3, g4, h1, h2, h3, h4, b2]
      · obtain ⟨r, a1, a2⟩ := ih (i + 1) f1 f2 (31 * x + (MC.1 (t + 10) i).toInt64) (by omega) (by omega) (by omega)
        have ev := eq i (by omega)
        have ev2 : MM.1 1 (40 * t + i) = MC.1 (t + 10) i := ev.symm
        refine ⟨r, ?_, ?_⟩
        · rw [f0_digestFrom_15]
          simp (disch := omega) only [lit, nlt, nle, neq, nI_add, pk_mul, nm_u, bS, gd_d, oc_none, oc_some, rd_n, wr_n, if_pos, if_neg, ite_true, ite_false, not_true_eq_false, not_false_eq_true, g1, g2, g3, g4, h1, h2, h3, h4, gk, b]
          exact a1
        · rw [f5_digest_239]
          simp (disch := omega) only [lit, nlt, nle, neq, nI_add, pk_mul, nm_u, bS, gd_d, oc_none, oc_some, rd_n, wr_n, if_pos, if_neg, ite_true, ite_false, not_true_eq_false, not_false_eq_true, g1, g2, g3, g4, h1, h2, h3, h4, b2, ev2]
          exact a2
theorem dgT_l {fu t : Nat} {MC MM : Mem} {K : Int64 → Int32 → Option Int64} (ht : t < 4) (hR : RowR (MC.1 (t + 6) 0) (MC.1 (t + 6 + 10)) (MM.1 4 t) (fun i => MM.1 3 (60 * t + i)) 60) : ∀ (e i f1 f2 : Nat) (x : Int64), i + e = 61 → e < f1 → e < f2 → ∃ r, f0_digestFrom_15 MC fu f1 (t + 6) x (nI i) = some r ∧ f5_digest_306 MM fu K f2 x (nI t) (nI i) = K r (nI (t + 1)) := by
  intro e
  have gk : gd (decide (t + 6 < 10)) = some () := by
    have : t + 6 < 10 := by omega
    simp [gd, this]
  obtain ⟨c0, cR⟩ := hR
  induction e with
  | zero =>
    intro i f1 f2 x h hf1 hf2
    rcases f1 with _ | f1
    · omega
    rcases f2 with _ | f2
    · omega
    refine ⟨x, ?_, ?_⟩
    · rw [f0_digestFrom_15]
      rcases cR with b | ⟨k, hk, b, -⟩
      · rw [m1r] at b
        have q : (-nI 1 ≤ nI i) = True := m1_le_n (by omega)
        simp (disch := omega) only [lit, nlt, nle, neq, nI_add, pk_mul, nm_u, bS, gd_d, oc_none, oc_some, rd_n, wr_n, if_pos, if_neg, ite_true, ite_false, not_true_eq_false, not_false_eq_true, g1, g2, g3, g4, h1, h2, h3, h4, gk, b, q]
      · simp (disch := omega) only [lit, nlt, nle, neq, nI_add, pk_mul, nm_u, bS, gd_d, oc_none, oc_some, rd_n, wr_n, if_pos, if_neg, ite_true, ite_false, not_true_eq_false, not_false_eq_true, g1, g2, g3, g4, h1, h2, h3, h4, gk, b]
    · rw [f5_digest_306]
      rw [c0] at cR
      rcases cR with b | ⟨k, hk, b, -⟩
      · rw [m1r] at b
        have q : (-nI 1 ≤ nI i) = True := m1_le_n (by omega)
        simp (disch := omega) only [lit, nlt, nle, neq, nI_add, pk_mul, nm_u, bS, gd_d, oc_none, oc_some, rd_n, wr_n, if_pos, if_neg, ite_true, ite_false, not_true_eq_false, not_false_eq_true, g1, g2, g3, g4, h1, h2, h3, h4, b, q]
      · simp (disch := omega) only [lit, nlt, nle, neq, nI_add, pk_mul, nm_u, bS, gd_d, oc_none, oc_some, rd_n, wr_n, if_pos, if_neg, ite_true, ite_false, not_true_eq_false, not_false_eq_true, g1, g2, g3, g4, h1, h2, h3, h4, b]
  | succ e ih =>
    intro i f1 f2 x h hf1 hf2
    rcases f1 with _ | f1
    · omega
    rcases f2 with _ | f2
    · omega
    rcases cR with b | ⟨k, hk, b, eq⟩
    · have b2 : MM.1 4 t = -nI 1 := by rw [← c0, b, m1r]
      rw [m1r] at b
      have q : (-nI 1 ≤ nI i) = True := m1_le_n (by omega)
      refine ⟨x, ?_, ?_⟩
      · rw [f0_digestFrom_15]
        simp (disch := omega) only [lit, nlt, nle, neq, nI_add, pk_mul, nm_u, bS, gd_d, oc_none, oc_some, rd_n, wr_n, if_pos, if_neg, ite_true, ite_false, not_true_eq_false, not_false_eq_true, g1, g2, g3, g4, h1, h2, h3, h4, gk, b, q]
      · rw [f5_digest_306]
        simp (disch := omega) only [lit, nlt, nle, neq, nI_add, pk_mul, nm_u, bS, gd_d, oc_none, oc_some, rd_n, wr_n, if_pos, if_neg, ite_true, ite_false, not_true_eq_false, not_false_eq_true, g1, g2, g3, g4, h1, h2, h3, h4, b2, q]
    · have b2 : MM.1 4 t = nI k := by rw [← c0, b]
      by_cases c : k ≤ i
      · refine ⟨x, ?_, ?_⟩
        · rw [f0_digestFrom_15]
          simp (disch := omega) only [lit, nlt, nle, neq, nI_add, pk_mul, nm_u, bS, gd_d, oc_none, oc_some, rd_n, wr_n, if_pos, if_neg, ite_true, ite_false, not_true_eq_false, not_false_eq_true, g1, g2, g3, g4, h1, h2, h3, h4, gk, b]
        · rw [f5_digest_306]
          simp (disch := omega) only [lit, nlt, nle, neq, nI_add, pk_mul, nm_u, bS, gd_d, oc_none, oc_some, rd_n, wr_n, if_pos, if_neg, ite_true, ite_false, not_true_eq_false, not_false_eq_true, g1, g2, g3, g4, h1, h2, h3, h4, b2]
      · obtain ⟨r, a1, a2⟩ := ih (i + 1) f1 f2 (31 * x + (MC.1 (t + 6 + 10) i).toInt64) (by omega) (by omega) (by omega)
        have ev := eq i (by omega)
        have ev2 : MM.1 3 (60 * t + i) = MC.1 (t + 6 + 10) i := ev.symm
        refine ⟨r, ?_, ?_⟩
        · rw [f0_digestFrom_15]
          simp (disch := omega) only [lit, nlt, nle, neq, nI_add, pk_mul, nm_u, bS, gd_d, oc_none, oc_some, rd_n, wr_n, if_pos, if_neg, ite_true, ite_false, not_true_eq_false, not_false_eq_true, g1, g2, g3, g4, h1, h2, h3, h4, gk, b]
          exact a1
        · rw [f5_digest_306]
          simp (disch := omega) only [lit, nlt, nle, neq, nI_add, pk_mul, nm_u, bS, gd_d, oc_none, oc_some, rd_n, wr_n, if_pos, if_neg, ite_true, ite_false, not_true_eq_false, not_false_eq_true, g1, g2, g3, g4, h1, h2, h3, h4, b2, ev2]
          exact a2
