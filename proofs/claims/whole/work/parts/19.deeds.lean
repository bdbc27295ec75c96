/-! 19: deeds -/
theorem np10 {p : Nat} (h : p < 10) : (nI p = -nI 1) = False ∧ (nI p = -nI 2) = False := by
  have : ∀ p, p < 10 → (nI p = -nI 1) = False ∧ (nI p = -nI 2) = False := by decide +kernel
  exact this p h
theorem m21 : (-nI 2 = -nI 1) = False := by decide
section LH
variable {P : PD} {MC MM : Mem} {fu : Nat} {s : Nat → Int32}
theorem lyingHere_c (hfu : 10000 ≤ fu) (hP : GP P MC MM) (hg : gst P.1 s) (hp : pic P s (MC.1 33 2) (MC.1 33 3) (MC.1 33 4) (MC.1 34)) : f3_lyingHere MC fu = some (nI (msk P.1 (fun k => s (k + 1) == s 0))) := by
  have h8 := hP.1
  have key : ∀ (d i f : Nat), i + d = P.1 → d < f → f3_lyingHere_4 MC fu f (nI (msk i (fun k => MC.1 34 k == s 0))) (nI i) = some (nI (msk P.1 (fun k => MC.1 34 k == s 0) &&& msk P.1 (lyB s))) := by
    intro d
    induction d with
    | zero =>
      intro i f h hf
      rcases f with _ | f
      · omega
      have : i = P.1 := by omega
      subst this
      rw [f3_lyingHere_4]
      simp (disch := omega) only [lit, nlt, nle, neq, nI_add, pk_mul, nm_u, bS, gd_d, oc_none, oc_some, rd_n, wr_n, if_pos, if_neg, ite_true, ite_false, not_true_eq_false, not_false_eq_true, g1, g2, g3, g4, h1, h2, h3, h4, ior, iand, shl_n, Nat.or_zero, hP.2.1, lying_c hP hp, iand]
    | succ d ih =>
      intro i f h hf
      rcases f with _ | f
      · omega
      rw [f3_lyingHere_4]
      have h2 := ih (i + 1) f (by omega) (by omega)
      rw [msk_s] at h2
      by_cases c : MC.1 34 i = s 0
      · rw [if_pos (by simp [c])] at h2
        simp (disch := omega) only [lit, nlt, nle, neq, nI_add, pk_mul, nm_u, bS, gd_d, oc_none, oc_some, rd_n, wr_n, if_pos, if_neg, ite_true, ite_false, not_true_eq_false, not_false_eq_true, g1, g2, g3, g4, h1, h2, h3, h4, ior, iand, shl_n, Nat.or_zero, hP.2.1, hp.1, c]
        try exact h2
      · rw [if_neg (by simp [c])] at h2
        simp (disch := omega) only [lit, nlt, nle, neq, nI_add, pk_mul, nm_u, bS, gd_d, oc_none, oc_some, rd_n, wr_n, if_pos, if_neg, ite_true, ite_false, not_true_eq_false, not_false_eq_true, g1, g2, g3, g4, h1, h2, h3, h4, ior, iand, shl_n, Nat.or_zero, hP.2.1, hp.1, c]
        try exact h2
  unfold f3_lyingHere
  have := key P.1 0 fu (by omega) (by omega)
  have e0 : msk 0 (fun k => MC.1 34 k == s 0) = 0 := rfl
  rw [e0] at this
  rw [lit, this]
  congr 2
  apply Nat.eq_of_testBit_eq
  intro i
  rw [Nat.testBit_and, msk_tb, msk_tb, msk_tb]
  by_cases hi : i < P.1
  · obtain ⟨⟨p0, hp0, e1⟩, hgk⟩ := hg
    rcases hgk i hi with e | e | ⟨p, hp9, e⟩
    · have a1 : lyB s i = false := by unfold lyB; rw [e]; rfl
      have a2 : (s (i + 1) == s 0) = false := by
        rw [e, e1]
        simp only [beq_eq_false_iff_ne, ne_eq]
        exact fun q => of_eq_false (np10 hp0).1 q.symm
      rw [a1, a2]; simp
    · have a1 : lyB s i = false := by unfold lyB; rw [e]; rfl
      have a2 : (s (i + 1) == s 0) = false := by
        rw [e, e1]
        simp only [beq_eq_false_iff_ne, ne_eq]
        exact fun q => of_eq_false (np10 hp0).2 q.symm
      rw [a1, a2]; simp
    · have a1 := lyB_nI e hp9
      have a2 := hp.2.2.2 i hi (lyB_ne a1).1 (lyB_ne a1).2
      rw [a1, a2]; simp [hi]
  · simp [hi]
/-- a deed that can be done, done on the class's picture -/
theorem change_c {c : Int32} (hfu : 10000 ≤ fu) (hP : GP P MC MM) (hg : gst P.1 s) (hp : pic P s (MC.1 33 2) (MC.1 33 3) (MC.1 33 4) (MC.1 34)) (hc : okc P.1 c s) : ∃ MC', f3_change fu c MC = some MC' ∧ pic P (ap c s) (MC'.1 33 2) (MC'.1 33 3) (MC'.1 33 4) (MC'.1 34) ∧ (∀ q, q ≠ 33 → q ≠ 34 → MC'.1 q = MC.1 q) ∧ MC'.2 = MC.2 := by
  have h8 := hP.1
  obtain ⟨p1, p2, p3, p4⟩ := hp
  rcases hc with rfl | rfl | rfl | ⟨k, hk, ⟨rfl, hs⟩ | ⟨rfl, hs⟩⟩
  · have ek : ∀ k, k < P.1 → ap (nI 0) s (k + 1) = s (k + 1) := by
      intro k hk
      unfold ap
      simp (disch := omega) only [lit, nlt, nle, neq, nI_add, pk_mul, nm_u, bS, gd_d, oc_none, oc_some, rd_n, wr_n, if_pos, if_neg, ite_true, ite_false, not_true_eq_false, not_false_eq_true, g1, g2, g3, g4, h1, h2, h3, h4]
    refine ⟨sI MC 33 2 (s 0 + nI 1), ?_, ⟨?_, ?_, ?_, ?_⟩, fun q h1 h2 => g2 h1, rfl⟩
    · unfold f3_change
      simp (disch := omega) only [lit, nlt, nle, neq, nI_add, pk_mul, nm_u, bS, gd_d, oc_none, oc_some, rd_n, wr_n, if_pos, if_neg, ite_true, ite_false, not_true_eq_false, not_false_eq_true, g1, g2, g3, g4, h1, h2, h3, h4, p1]
    · rw [g1]; unfold ap; simp (disch := omega) only [lit, nlt, nle, neq, nI_add, pk_mul, nm_u, bS, gd_d, oc_none, oc_some, rd_n, wr_n, if_pos, if_neg, ite_true, ite_false, not_true_eq_false, not_false_eq_true, g1, g2, g3, g4, h1, h2, h3, h4]
    · rw [g3 (by omega), p2]; exact congrArg nI (msk_cg (fun k hk => by rw [ek k hk]))
    · rw [g3 (by omega), p3]; exact congrArg nI (msk_cg (fun k hk => by rw [ek k hk]))
    · intro k hk
      rw [g2 (by omega), ek k hk]
      exact p4 k hk
  · have ek : ∀ k, k < P.1 → ap (nI 1) s (k + 1) = s (k + 1) := by
      intro k hk
      unfold ap
      simp (disch := omega) only [lit, nlt, nle, neq, nI_add, pk_mul, nm_u, bS, gd_d, oc_none, oc_some, rd_n, wr_n, if_pos, if_neg, ite_true, ite_false, not_true_eq_false, not_false_eq_true, g1, g2, g3, g4, h1, h2, h3, h4]
    refine ⟨sI MC 33 2 (s 0 - nI 1), ?_, ⟨?_, ?_, ?_, ?_⟩, fun q h1 h2 => g2 h1, rfl⟩
    · unfold f3_change
      simp (disch := omega) only [lit, nlt, nle, neq, nI_add, pk_mul, nm_u, bS, gd_d, oc_none, oc_some, rd_n, wr_n, if_pos, if_neg, ite_true, ite_false, not_true_eq_false, not_false_eq_true, g1, g2, g3, g4, h1, h2, h3, h4, p1]
    · rw [g1]; unfold ap; simp (disch := omega) only [lit, nlt, nle, neq, nI_add, pk_mul, nm_u, bS, gd_d, oc_none, oc_some, rd_n, wr_n, if_pos, if_neg, ite_true, ite_false, not_true_eq_false, not_false_eq_true, g1, g2, g3, g4, h1, h2, h3, h4]
    · rw [g3 (by omega), p2]; exact congrArg nI (msk_cg (fun k hk => by rw [ek k hk]))
    · rw [g3 (by omega), p3]; exact congrArg nI (msk_cg (fun k hk => by rw [ek k hk]))
    · intro k hk
      rw [g2 (by omega), ek k hk]
      exact p4 k hk
  · obtain ⟨p0, hp0, e0⟩ := hg.1
    have ek : ∀ k, ap (nI 2) s (k + 1) = if s (k + 1) = s 0 then -nI 2 else s (k + 1) := by
      intro k
      unfold ap
      simp (disch := omega) only [lit, nlt, nle, neq, nI_add, pk_mul, nm_u, bS, gd_d, oc_none, oc_some, rd_n, wr_n, if_pos, if_neg, ite_true, ite_false, not_true_eq_false, not_false_eq_true, g1, g2, g3, g4, h1, h2, h3, h4]
    have n1 : ¬ s 0 = -nI 1 := by rw [e0]; exact of_eq_false (np10 hp0).1
    have n2 : ¬ s 0 = -nI 2 := by rw [e0]; exact of_eq_false (np10 hp0).2
    refine ⟨sI MC 33 4 (nI (msk P.1 (fun k => ap (nI 2) s (k + 1) == -nI 2))), ?_, ⟨?_, ?_, ?_, ?_⟩, fun q h1 h2 => g2 h1, rfl⟩
    · have e5 : msk P.1 (fun k => s (k + 1) == -nI 2) ||| msk P.1 (fun k => s (k + 1) == s 0) = msk P.1 (fun k => ap (nI 2) s (k + 1) == -nI 2) := by
        apply Nat.eq_of_testBit_eq
        intro i
        rw [Nat.testBit_or, msk_tb, msk_tb, msk_tb, ek]
        by_cases q : s (i + 1) = s 0
        · simp [q]; exact fun h _ => h
        · simp [q]
      unfold f3_change
      simp (disch := omega) only [lit, nlt, nle, neq, nI_add, pk_mul, nm_u, bS, gd_d, oc_none, oc_some, rd_n, wr_n, if_pos, if_neg, ite_true, ite_false, not_true_eq_false, not_false_eq_true, g1, g2, g3, g4, h1, h2, h3, h4, ior, iand, shl_n, Nat.or_zero, lyingHere_c hfu hP hg ⟨p1, p2, p3, p4⟩, p3, e5]
    · rw [g3 (by omega), p1]; unfold ap; simp (disch := omega) only [lit, nlt, nle, neq, nI_add, pk_mul, nm_u, bS, gd_d, oc_none, oc_some, rd_n, wr_n, if_pos, if_neg, ite_true, ite_false, not_true_eq_false, not_false_eq_true, g1, g2, g3, g4, h1, h2, h3, h4]
    · rw [g3 (by omega), p2]
      refine congrArg nI (msk_cg (fun k hk => ?_))
      rw [ek]
      by_cases q : s (k + 1) = s 0
      · rw [if_pos q, q]
        have a1 : (s 0 == -nI 1) = false := by simp [n1]
        rw [a1]; rfl
      · rw [if_neg q]
    · rw [g1]
    · intro k hk
      rw [g2 (by omega), ek]
      by_cases q : s (k + 1) = s 0
      · rw [if_pos q]; intro _ h; exact absurd rfl h
      · rw [if_neg q]; exact p4 k hk
  · obtain ⟨p0, hp0, e0⟩ := hg.1
    have ek : ∀ j, j < P.1 → ap (nI (8 + k)) s (j + 1) = if j = k then -nI 1 else s (j + 1) := by
      intro j hj
      unfold ap
      by_cases q : j = k
      · subst q; simp (disch := omega) only [lit, nlt, nle, neq, nI_add, pk_mul, nm_u, bS, gd_d, oc_none, oc_some, rd_n, wr_n, if_pos, if_neg, ite_true, ite_false, not_true_eq_false, not_false_eq_true, g1, g2, g3, g4, h1, h2, h3, h4]
      · simp (disch := omega) only [lit, nlt, nle, neq, nI_add, pk_mul, nm_u, bS, gd_d, oc_none, oc_some, rd_n, wr_n, if_pos, if_neg, ite_true, ite_false, not_true_eq_false, not_false_eq_true, g1, g2, g3, g4, h1, h2, h3, h4]
    refine ⟨sI MC 33 3 (nI (msk P.1 (fun j => ap (nI (8 + k)) s (j + 1) == -nI 1))), ?_, ⟨?_, ?_, ?_, ?_⟩, fun q h1 h2 => g2 h1, rfl⟩
    · have e5 : msk P.1 (fun j => s (j + 1) == -nI 1) ||| 2 ^ k = msk P.1 (fun j => ap (nI (8 + k)) s (j + 1) == -nI 1) := by
        apply Nat.eq_of_testBit_eq
        intro i
        rw [Nat.testBit_or, msk_tb, msk_tb, Nat.testBit_two_pow]
        by_cases hi : i < P.1
        · rw [ek i hi]
          by_cases q : i = k
          · subst q; simp [hi]
          · have : ¬ k = i := fun e => q e.symm
            simp [q, this]
        · have : ¬ k = i := by omega
          simp [hi, this]
      unfold f3_change
      have e6 : nI (8 + k) - nI 8 = nI k := by rw [pk_sub (by omega)]; congr 1; omega
      simp (disch := omega) only [lit, nlt, nle, neq, nI_add, pk_mul, nm_u, bS, gd_d, oc_none, oc_some, rd_n, wr_n, if_pos, if_neg, ite_true, ite_false, not_true_eq_false, not_false_eq_true, g1, g2, g3, g4, h1, h2, h3, h4, ior, iand, shl_n, Nat.or_zero, e6, has2_in hP hk, p2, e5]
    · rw [g3 (by omega), p1]; unfold ap; simp (disch := omega) only [lit, nlt, nle, neq, nI_add, pk_mul, nm_u, bS, gd_d, oc_none, oc_some, rd_n, wr_n, if_pos, if_neg, ite_true, ite_false, not_true_eq_false, not_false_eq_true, g1, g2, g3, g4, h1, h2, h3, h4]
    · rw [g1]
    · rw [g3 (by omega), p3]
      refine congrArg nI (msk_cg (fun j hj => ?_))
      rw [ek j hj]
      by_cases q : j = k
      · subst q
        rw [if_pos rfl, hs, e0]
        have a1 : (nI p0 == -nI 2) = false := by simp [of_eq_false (np10 hp0).2]
        rw [a1]; rfl
      · rw [if_neg q]
    · intro j hj
      rw [g2 (by omega), ek j hj]
      by_cases q : j = k
      · rw [if_pos q]; intro h; exact absurd rfl h
      · rw [if_neg q]; exact p4 j hj
  · obtain ⟨p0, hp0, e0⟩ := hg.1
    have ek : ∀ j, j < P.1 → ap (nI (16 + k)) s (j + 1) = if j = k then s 0 else s (j + 1) := by
      intro j hj
      unfold ap
      by_cases q : j = k
      · subst q; simp (disch := omega) only [lit, nlt, nle, neq, nI_add, pk_mul, nm_u, bS, gd_d, oc_none, oc_some, rd_n, wr_n, if_pos, if_neg, ite_true, ite_false, not_true_eq_false, not_false_eq_true, g1, g2, g3, g4, h1, h2, h3, h4]
      · simp (disch := omega) only [lit, nlt, nle, neq, nI_add, pk_mul, nm_u, bS, gd_d, oc_none, oc_some, rd_n, wr_n, if_pos, if_neg, ite_true, ite_false, not_true_eq_false, not_false_eq_true, g1, g2, g3, g4, h1, h2, h3, h4]
    refine ⟨sI (sI MC 33 3 (nI (msk P.1 (fun j => ap (nI (16 + k)) s (j + 1) == -nI 1)))) 34 k (s 0), ?_, ⟨?_, ?_, ?_, ?_⟩, fun q h1 h2 => by rw [g2 h2, g2 h1], rfl⟩
    · have e5 : msk P.1 (fun j => s (j + 1) == -nI 1) ^^^ (msk P.1 (fun j => s (j + 1) == -nI 1) &&& 2 ^ k) = msk P.1 (fun j => ap (nI (16 + k)) s (j + 1) == -nI 1) := by
        apply Nat.eq_of_testBit_eq
        intro i
        rw [Nat.testBit_xor, Nat.testBit_and, msk_tb, msk_tb, Nat.testBit_two_pow]
        by_cases hi : i < P.1
        · rw [ek i hi]
          by_cases q : i = k
          · subst q
            have a1 : (s 0 == -nI 1) = false := by rw [e0]; simp [of_eq_false (np10 hp0).1]
            simp [hi, a1]
          · have : ¬ k = i := fun e => q e.symm
            simp [q, this]
        · simp [hi]
      unfold f3_change
      have e6 : nI (16 + k) - nI 8 = nI (8 + k) := by rw [pk_sub (by omega)]; congr 1; omega
      have e7 : nI (16 + k) - nI 16 = nI k := by rw [pk_sub (by omega)]; congr 1; omega
      have e8 : f2_has MC (nI (8 + k)) = some (nI 0) := has2_out hP (Or.inr ⟨by rw [nlt (by omega) (by omega)]; omega, by rw [nle (by omega) (by omega)]; omega⟩)
      simp (disch := omega) only [lit, nlt, nle, neq, nI_add, pk_mul, nm_u, bS, gd_d, oc_none, oc_some, rd_n, wr_n, if_pos, if_neg, ite_true, ite_false, not_true_eq_false, not_false_eq_true, g1, g2, g3, g4, h1, h2, h3, h4, ior, iand, shl_n, Nat.or_zero, e6, e7, e8, has2_in hP hk, p1, p2, m1r, andnot, e5]
    · rw [g2 (by omega), g3 (by omega), p1]; unfold ap; simp (disch := omega) only [lit, nlt, nle, neq, nI_add, pk_mul, nm_u, bS, gd_d, oc_none, oc_some, rd_n, wr_n, if_pos, if_neg, ite_true, ite_false, not_true_eq_false, not_false_eq_true, g1, g2, g3, g4, h1, h2, h3, h4]
    · rw [g2 (by omega), g1]
    · rw [g2 (by omega), g3 (by omega), p3]
      refine congrArg nI (msk_cg (fun j hj => ?_))
      rw [ek j hj]
      by_cases q : j = k
      · subst q
        rw [if_pos rfl, hs, e0]
        have a1 : (nI p0 == -nI 2) = false := by simp [of_eq_false (np10 hp0).2]
        rw [a1]; rfl
      · rw [if_neg q]
    · intro j hj
      rw [ek j hj]
      by_cases q : j = k
      · subst q
        rw [if_pos rfl, g1]
        intros; rfl
      · rw [if_neg q, g3 q, g2 (by omega)]
        exact p4 j hj
end LH
