/-! 34: lots -/
theorem rng {x : Int32} {lo hi : Nat} (hh : hi < 2147483647) (hl : lo ≤ hi) (a : ¬ x < nI lo) (b : ¬ nI hi < x) : ∃ j, lo ≤ j ∧ j ≤ hi ∧ x = nI j := by
  rw [Int32.lt_iff_toInt_lt, nI_toInt (by omega)] at a b
  rcases tri x (hi + 1) (by omega) with (h | ⟨-, h⟩) | ⟨j, hj, rfl⟩
  · rw [Int32.lt_iff_toInt_lt, nI_toInt (by omega)] at h
    omega
  · rw [Int32.le_iff_toInt_le, nI_toInt (by omega)] at h
    omega
  · rw [nI_toInt (by omega)] at a
    exact ⟨j, by omega, by omega, rfl⟩
theorem in_lo {x : Int32} {lo hi : Nat} (h : x < nI lo) : f5_in x.toInt64 (nI lo).toInt64 (nI hi).toInt64 = some (nI 0) := by
  rw [in_i, if_neg (fun q => Int32.not_lt.mpr q.1 h)]; rfl
theorem in_hi {x : Int32} {lo hi : Nat} (h : nI hi < x) : f5_in x.toInt64 (nI lo).toInt64 (nI hi).toInt64 = some (nI 0) := by
  rw [in_i, if_neg (fun q => Int32.not_lt.mpr q.2 h)]; rfl
theorem in_mid {j lo hi : Nat} (hh : hi < 2147483648) (a : lo ≤ j) (b : j ≤ hi) : f5_in (nI j).toInt64 (nI lo).toInt64 (nI hi).toInt64 = some (nI 1) := by
  rw [in_n (by omega) (by omega) hh, if_pos ⟨a, b⟩]; rfl
theorem s_lots {fu : Nat} (hfu : 10000 ≤ fu) : Sim_lots fu Rel := by
  intro MC MM a0 a1 hR
  obtain ⟨P, hA, hR0, hT, hP, ⟨d, st, hd, hc0, hm0, hH, hah, hnw, hp⟩, hK⟩ := id hR
  have h8 := hP.1
  have l1 : (1 : Int64) = (nI 1).toInt64 := by decide
  have l20 : (20 : Int64) = (nI 20).toInt64 := by decide
  have lm : (2147483646 : Int64) = (nI 2147483646).toInt64 := by decide
  by_cases A : a0 < nI 1
  · refine ⟨-1, MC, MM, ?_, ?_, hR⟩
    · unfold f4_lots
      simp (disch := omega) only [lit, nlt, nle, neq, nI_add, pk_mul, nm_u, bS, gd_d, oc_none, oc_some, rd_n, wr_n, if_pos, if_neg, ite_true, ite_false, not_true_eq_false, not_false_eq_true, g1, g2, g3, g4, h1, h2, h3, h4, A]
    · unfold f5_lots
      rw [l1, l20, in_lo A]
      simp (disch := omega) only [lit, nlt, nle, neq, nI_add, pk_mul, nm_u, bS, gd_d, oc_none, oc_some, rd_n, wr_n, if_pos, if_neg, ite_true, ite_false, not_true_eq_false, not_false_eq_true, g1, g2, g3, g4, h1, h2, h3, h4]
  by_cases B : nI 20 < a0
  · refine ⟨-1, MC, MM, ?_, ?_, hR⟩
    · unfold f4_lots
      simp (disch := omega) only [lit, nlt, nle, neq, nI_add, pk_mul, nm_u, bS, gd_d, oc_none, oc_some, rd_n, wr_n, if_pos, if_neg, ite_true, ite_false, not_true_eq_false, not_false_eq_true, g1, g2, g3, g4, h1, h2, h3, h4, A, B]
    · unfold f5_lots
      rw [l1, l20, in_hi B]
      simp (disch := omega) only [lit, nlt, nle, neq, nI_add, pk_mul, nm_u, bS, gd_d, oc_none, oc_some, rd_n, wr_n, if_pos, if_neg, ite_true, ite_false, not_true_eq_false, not_false_eq_true, g1, g2, g3, g4, h1, h2, h3, h4]
  obtain ⟨N, hN1, hN2, rfl⟩ := rng (by omega) (by omega) A B
  have r1 := in_mid (j := N) (lo := 1) (hi := 20) (by omega) hN1 hN2
  by_cases C : a1 < nI 1
  · refine ⟨-1, MC, MM, ?_, ?_, hR⟩
    · unfold f4_lots
      simp (disch := omega) only [lit, nlt, nle, neq, nI_add, pk_mul, nm_u, bS, gd_d, oc_none, oc_some, rd_n, wr_n, if_pos, if_neg, ite_true, ite_false, not_true_eq_false, not_false_eq_true, g1, g2, g3, g4, h1, h2, h3, h4, C]
    · unfold f5_lots
      rw [l1, l20, r1, lm, in_lo C]
      simp (disch := omega) only [lit, nlt, nle, neq, nI_add, pk_mul, nm_u, bS, gd_d, oc_none, oc_some, rd_n, wr_n, if_pos, if_neg, ite_true, ite_false, not_true_eq_false, not_false_eq_true, g1, g2, g3, g4, h1, h2, h3, h4, kq9]
  by_cases D : nI 2147483646 < a1
  · have D2 : ¬ a1 < nI 2147483647 := by
      rw [Int32.lt_iff_toInt_lt, nI_toInt (by omega)] at D ⊢
      omega
    refine ⟨-1, MC, MM, ?_, ?_, hR⟩
    · unfold f4_lots
      simp (disch := omega) only [lit, nlt, nle, neq, nI_add, pk_mul, nm_u, bS, gd_d, oc_none, oc_some, rd_n, wr_n, if_pos, if_neg, ite_true, ite_false, not_true_eq_false, not_false_eq_true, g1, g2, g3, g4, h1, h2, h3, h4, C, D2]
    · unfold f5_lots
      rw [l1, l20, r1, lm, in_hi D]
      simp (disch := omega) only [lit, nlt, nle, neq, nI_add, pk_mul, nm_u, bS, gd_d, oc_none, oc_some, rd_n, wr_n, if_pos, if_neg, ite_true, ite_false, not_true_eq_false, not_false_eq_true, g1, g2, g3, g4, h1, h2, h3, h4, kq9]
  obtain ⟨z, hz1, hz2, rfl⟩ := rng (by omega) (by omega) C D
  have r2 := in_mid (j := z) (lo := 1) (hi := 2147483646) (by omega) hz1 hz2
  by_cases hn : P.1 = 0
  · refine ⟨-4, MC, MM, ?_, ?_, hR⟩
    · unfold f4_lots
      simp (disch := omega) only [lit, nlt, nle, neq, nI_add, pk_mul, nm_u, bS, gd_d, oc_none, oc_some, rd_n, wr_n, if_pos, if_neg, ite_true, ite_false, not_true_eq_false, not_false_eq_true, g1, g2, g3, g4, h1, h2, h3, h4, hP.2.1]
    · unfold f5_lots f5_refuses
      rw [l1, l20, r1, lm, r2]
      simp (disch := omega) only [lit, nlt, nle, neq, nI_add, pk_mul, nm_u, bS, gd_d, oc_none, oc_some, rd_n, wr_n, if_pos, if_neg, ite_true, ite_false, not_true_eq_false, not_false_eq_true, g1, g2, g3, g4, h1, h2, h3, h4, kq9, hP.2.2.1, m4_eq]
  by_cases hf : d + N ≤ 40
  · obtain ⟨r, M1, M2, b1, b2, b3⟩ := lots_l (fu := fu) hfu hN2 N 0 fu fu z MC MM (by omega) (by omega) (by omega) hR (by rw [hP.2.1, neq (by omega) (by omega)]; exact hn) (fun d' hd' e' => by
      rw [hc0, neq (by omega) (by omega)] at e'
      omega) (by omega)
    refine ⟨r, M1, M2, ?_, ?_, b3⟩
    · unfold f4_lots f3_hasRoomFor
      simp (disch := omega) only [lit, nlt, nle, neq, nI_add, pk_mul, nm_u, bS, gd_d, oc_none, oc_some, rd_n, wr_n, if_pos, if_neg, ite_true, ite_false, not_true_eq_false, not_false_eq_true, g1, g2, g3, g4, h1, h2, h3, h4, hP.2.1, hc0, kq9, b1]
    · unfold f5_lots f5_refuses
      rw [l1, l20, r1, lm, r2]
      simp (disch := omega) only [lit, nlt, nle, neq, nI_add, pk_mul, nm_u, bS, gd_d, oc_none, oc_some, rd_n, wr_n, if_pos, if_neg, ite_true, ite_false, not_true_eq_false, not_false_eq_true, g1, g2, g3, g4, h1, h2, h3, h4, kq9, hP.2.2.1, hm0, b2]
  · refine ⟨-2, MC, MM, ?_, ?_, hR⟩
    · unfold f4_lots f3_hasRoomFor
      simp (disch := omega) only [lit, nlt, nle, neq, nI_add, pk_mul, nm_u, bS, gd_d, oc_none, oc_some, rd_n, wr_n, if_pos, if_neg, ite_true, ite_false, not_true_eq_false, not_false_eq_true, g1, g2, g3, g4, h1, h2, h3, h4, hP.2.1, hc0, kq9]
    · unfold f5_lots f5_refuses
      rw [l1, l20, r1, lm, r2]
      simp (disch := omega) only [lit, nlt, nle, neq, nI_add, pk_mul, nm_u, bS, gd_d, oc_none, oc_some, rd_n, wr_n, if_pos, if_neg, ite_true, ite_false, not_true_eq_false, not_false_eq_true, g1, g2, g3, g4, h1, h2, h3, h4, kq9, hP.2.2.1, hm0, m2_eq]
