/-! 22: step -/
theorem stepz_c {fu : Nat} {x : Int32} {MC : Mem} (h : MC.1 35 0 = nI 0) : f4_step_12 fu x MC = some (MC, -4) := by
  unfold f4_step_12
  simp (disch := omega) only [lit, nlt, nle, neq, nI_add, pk_mul, nm_u, bS, gd_d, oc_none, oc_some, rd_n, wr_n, if_pos, if_neg, ite_true, ite_false, not_true_eq_false, not_false_eq_true, g1, g2, g3, g4, h1, h2, h3, h4, h]
theorem stepz_m {fu : Nat} {x : Int32} {MM : Mem} (h : MM.1 0 9 = nI 0) : f5_step_12 fu x MM = some (MM, -4) := by
  unfold f5_step_12
  simp (disch := omega) only [lit, nlt, nle, neq, nI_add, pk_mul, nm_u, bS, gd_d, oc_none, oc_some, rd_n, wr_n, if_pos, if_neg, ite_true, ite_false, not_true_eq_false, not_false_eq_true, g1, g2, g3, g4, h1, h2, h3, h4, h]
theorem stepo_c {fu n : Nat} {x y : Int32} {MC : Mem} (h : MC.1 35 0 = nI n) (hn : 0 < n) (h8 : n ≤ 8) (h1 : MC.1 33 2 + x = y) (ho : outs y 10) : f4_step_12 fu x MC = some (MC, -4) := by
  unfold f4_step_12
  rcases ho with o | ⟨o1, o2⟩
  · simp (disch := omega) only [lit, nlt, nle, neq, nI_add, pk_mul, nm_u, bS, gd_d, oc_none, oc_some, rd_n, wr_n, if_pos, if_neg, ite_true, ite_false, not_true_eq_false, not_false_eq_true, g1, g2, g3, g4, h1, h2, h3, h4, h, h1, o]
  · have q := ge_nle (b := 9) (by omega) o2
    simp (disch := omega) only [lit, nlt, nle, neq, nI_add, pk_mul, nm_u, bS, gd_d, oc_none, oc_some, rd_n, wr_n, if_pos, if_neg, ite_true, ite_false, not_true_eq_false, not_false_eq_true, g1, g2, g3, g4, h1, h2, h3, h4, h, h1, o1, q]
theorem stepo_m {fu n : Nat} {x y : Int32} {MM : Mem} (h : MM.1 0 9 = nI n) (hn : 0 < n) (h8 : n ≤ 8) (h1 : MM.1 10 0 + x = y) (ho : outs y 10) : f5_step_12 fu x MM = some (MM, -4) := by
  have e9 : f5_in y.toInt64 (0 : Int64) (9 : Int64) = some (nI 0) := by
    rw [show (9 : Int64) = (nI 9).toInt64 by decide]
    exact in_out (by omega) ho
  unfold f5_step_12
  simp (disch := omega) only [lit, nlt, nle, neq, nI_add, pk_mul, nm_u, bS, gd_d, oc_none, oc_some, rd_n, wr_n, if_pos, if_neg, ite_true, ite_false, not_true_eq_false, not_false_eq_true, g1, g2, g3, g4, h1, h2, h3, h4, h, h1, e9]
theorem stepe_c {fu : Nat} {x : Int32} {MC : Mem} (c1 : ¬ x = (1 : Int32)) (c2 : ¬ x = (-1 : Int32)) : f4_step fu x MC = some (MC, -1) := by
  unfold f4_step
  rw [if_neg c1, if_neg c2]
theorem stepe_m {fu : Nat} {x : Int32} {MC : Mem} (c1 : ¬ x = (1 : Int32)) (c2 : ¬ x = (-1 : Int32)) : f5_step fu x MC = some (MC, -1) := by
  unfold f5_step
  rw [if_neg c1, if_neg c2]
theorem step_tail {fu : Nat} (hfu : 10000 ≤ fu) {MC MM : Mem} {x c : Int32} (hR : Rel MC MM) (hx : (x = nI 1 ∧ c = nI 0) ∨ (x = -nI 1 ∧ c = nI 1)) (hap0 : ∀ s : Nat → Int32, ap c s 0 = s 0 + x) (hapk : ∀ (s : Nat → Int32) k, k < 8 → ap c s (k + 1) = s (k + 1)) (hin : ∀ p, p < 10 → outs (nI p + x) 10 ∨ ∃ q, q < 10 ∧ nI p + x = nI q) : ∃ (r : Int32) (MC' MM' : Mem), f4_step_12 fu x MC = some (MC', r) ∧ f5_step_12 fu x MM = some (MM', r) ∧ Rel MC' MM' := by
  obtain ⟨P, hA, hR0, hT, hP, ⟨d, st, hd, hc0, hm0, hH, hah, hnw, hp⟩, hK⟩ := id hR
  have h8 := hP.1
  have hg := hH.2.2.2.1 d (Nat.le_refl d)
  have w0 := hnw 0 (by omega)
  obtain ⟨p, hp10, e0⟩ := hg.1
  by_cases hn : P.1 = 0
  · exact ⟨-4, MC, MM, stepz_c (by rw [hP.2.1, hn]), stepz_m (by rw [hP.2.2.1, hn]), hR⟩
  · rcases hin p hp10 with ho | ⟨q, hq, e1⟩
    · exact ⟨-4, MC, MM, stepo_c hP.2.1 (by omega) h8 (by rw [hp.1, e0]) ho, stepo_m hP.2.2.1 (by omega) h8 (by rw [w0, e0]) ho, hR⟩
    · exact step_go hfu hR hA hR0 hT hP hK hd hc0 hm0 hH hah hnw hp (by omega) hq (by rw [e0, e1]) hx (by rw [hap0, e0, e1]) (fun k => by
        by_cases hk : k < P.1
        · exact Or.inl (hapk _ k (by omega))
        · exact Or.inr (by omega))
theorem in1 : ∀ p, p < 10 → outs (nI p + nI 1) 10 ∨ ∃ q, q < 10 ∧ nI p + nI 1 = nI q := by
  intro p hp
  by_cases h : p + 1 < 10
  · exact Or.inr ⟨p + 1, h, by rw [nI_add]⟩
  · refine Or.inl (Or.inr ⟨?_, ?_⟩)
    · rw [nI_add]; simp (disch := omega) only [nlt]; omega
    · rw [nI_add]; simp (disch := omega) only [nle]; omega
theorem in2 : ∀ p, p < 10 → outs (nI p + -nI 1) 10 ∨ ∃ q, q < 10 ∧ nI p + -nI 1 = nI q := by
  intro p hp
  by_cases h : 0 < p
  · exact Or.inr ⟨p - 1, by omega, by rw [← Int32.sub_eq_add_neg, pk_sub (by omega)]⟩
  · have : p = 0 := by omega
    subst this
    exact Or.inl (Or.inl (by decide))
theorem s_step {fu : Nat} (hfu : 10000 ≤ fu) : Sim_step fu Rel := by
  intro MC MM a0 hR
  by_cases c1 : a0 = nI 1
  · subst c1
    rw [step_p, step_pm]
    refine step_tail (x := nI 1) (c := nI 0) hfu hR (Or.inl ⟨rfl, rfl⟩) (fun s => ?_) (fun s k hk => ?_) in1
    · simp only [ap]
      simp (disch := omega) only [lit, nlt, nle, neq, nI_add, pk_mul, nm_u, bS, gd_d, oc_none, oc_some, rd_n, wr_n, if_pos, if_neg, ite_true, ite_false, not_true_eq_false, not_false_eq_true, g1, g2, g3, g4, h1, h2, h3, h4]
    · simp only [ap]
      simp (disch := omega) only [lit, nlt, nle, neq, nI_add, pk_mul, nm_u, bS, gd_d, oc_none, oc_some, rd_n, wr_n, if_pos, if_neg, ite_true, ite_false, not_true_eq_false, not_false_eq_true, g1, g2, g3, g4, h1, h2, h3, h4]
  · by_cases c2 : a0 = -nI 1
    · subst c2
      rw [step_n, step_nm]
      refine step_tail (x := -nI 1) (c := nI 1) hfu hR (Or.inr ⟨rfl, rfl⟩) (fun s => ?_) (fun s k hk => ?_) in2
      · simp only [ap]
        simp (disch := omega) only [lit, nlt, nle, neq, nI_add, pk_mul, nm_u, bS, gd_d, oc_none, oc_some, rd_n, wr_n, if_pos, if_neg, ite_true, ite_false, not_true_eq_false, not_false_eq_true, g1, g2, g3, g4, h1, h2, h3, h4]
        rw [Int32.sub_eq_add_neg]
      · simp only [ap]
        simp (disch := omega) only [lit, nlt, nle, neq, nI_add, pk_mul, nm_u, bS, gd_d, oc_none, oc_some, rd_n, wr_n, if_pos, if_neg, ite_true, ite_false, not_true_eq_false, not_false_eq_true, g1, g2, g3, g4, h1, h2, h3, h4]
    · have d1 : ¬ a0 = (1 : Int32) := by rw [lit]; exact c1
      have d2 : ¬ a0 = (-1 : Int32) := by rw [lit]; exact c2
      exact ⟨-1, MC, MM, stepe_c d1 d2, stepe_m d1 d2, hR⟩
