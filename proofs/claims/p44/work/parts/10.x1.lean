/-! out of 19.deeds -/
theorem np10 {p : Nat} (h : p < 10) : (nI p = -nI 1) = False ∧ (nI p = -nI 2) = False := by
  have : ∀ p, p < 10 → (nI p = -nI 1) = False ∧ (nI p = -nI 2) = False := by decide +kernel
  exact this p h
theorem m21 : (-nI 2 = -nI 1) = False := by decide
section LH
variable {P : PD} {MC MM : Mem} {fu : Nat} {s : Nat → Int32}
theorem lyingHere_c (hfu : 10000 ≤ fu) (hP : GP P MC MM) (hg : gst P.1 s) (hp : pic P s (MC.1 33 2) (MC.1 33 3) (MC.1 33 4) (MC.1 34)) : f3_lyingHere MC fu = some (nI (msk P.1 (fun k => s (k + 1) == s 0))) := by
  have h8 := hP.1
  have key : ∀ (d i f : Nat), i + d = P.1 → d < f → f3_lyingHere_4 MC fu f (nI (msk i (fun k => MC.1 34 k == s 0))) (nI i) = some (nI (msk P.1 (fun k => MC.1 34 k == s 0) &&& msk P.1 (lyB s))) := by
    intro d
    induction d with
    | zero =>
      intro i f h hf
      rcases f with _ | f
      · omega
      have : i = P.1 := by omega
      subst this
      rw [f3_lyingHere_4]
      simp (disch := omega) only [lit, nlt, nle, neq, nI_add, pk_mul, nm_u, bS, gd_d, oc_none, oc_some, rd_n, wr_n, if_pos, if_neg, ite_true, ite_false, not_true_eq_false, not_false_eq_true, g1, g2, g3, g4, h1, h2, h3, h4, ior, iand, shl_n, Nat.or_zero, hP.2.1, lying_c hP hp, iand]
    | succ d ih =>
      intro i f h hf
      rcases f with _ | f
      · omega
      rw [f3_lyingHere_4]
      have h2 := ih (i + 1) f (by omega) (by omega)
      rw [msk_s] at h2
      by_cases c : MC.1 34 i = s 0
      · rw [if_pos (by simp [c])] at h2
        simp (disch := omega) only [lit, nlt, nle, neq, nI_add, pk_mul, nm_u, bS, gd_d, oc_none, oc_some, rd_n, wr_n, if_pos, if_neg, ite_true, ite_false, not_true_eq_false, not_false_eq_true, g1, g2, g3, g4, h1, h2, h3, h4, ior, iand, shl_n, Nat.or_zero, hP.2.1, hp.1, c]
        try exact h2
      · rw [if_neg (by simp [c])] at h2
        simp (disch := omega) only [lit, nlt, nle, neq, nI_add, pk_mul, nm_u, bS, gd_d, oc_none, oc_some, rd_n, wr_n, if_pos, if_neg, ite_true, ite_false, not_true_eq_false, not_false_eq_true, g1, g2, g3, g4, h1, h2, h3, h4, ior, iand, shl_n, Nat.or_zero, hP.2.1, hp.1, c]
        try exact h2
  unfold f3_lyingHere
  have := key P.1 0 fu (by omega) (by omega)
  have e0 : msk 0 (fun k => MC.1 34 k == s 0) = 0 := rfl
  rw [e0] at this
  rw [lit, this]
  congr 2
  apply Nat.eq_of_testBit_eq
  intro i
  rw [Nat.testBit_and, msk_tb, msk_tb, msk_tb]
  by_cases hi : i < P.1
  · obtain ⟨⟨p0, hp0, e1⟩, hgk⟩ := hg
    rcases hgk i hi with e | e | ⟨p, hp9, e⟩
    · have a1 : lyB s i = false := by unfold lyB; rw [e]; rfl
      have a2 : (s (i + 1) == s 0) = false := by
        rw [e, e1]
        simp only [beq_eq_false_iff_ne, ne_eq]
        exact fun q => of_eq_false (np10 hp0).1 q.symm
      rw [a1, a2]; simp
    · have a1 : lyB s i = false := by unfold lyB; rw [e]; rfl
      have a2 : (s (i + 1) == s 0) = false := by
        rw [e, e1]
        simp only [beq_eq_false_iff_ne, ne_eq]
        exact fun q => of_eq_false (np10 hp0).2 q.symm
      rw [a1, a2]; simp
    · have a1 := lyB_nI e hp9
      have a2 := hp.2.2.2 i hi (lyB_ne a1).1 (lyB_ne a1).2
      rw [a1, a2]; simp [hi]
  · simp [hi]
/-- a deed that can be done, done on the class's picture -/
theorem change_c {c : Int32} (hfu : 10000 ≤ fu) (hP : GP P MC MM) (hg : gst P.1 s) (hp : pic P s (MC.1 33 2) (MC.1 33 3) (MC.1 33 4) (MC.1 34)) (hc : okc P.1 c s) : ∃ MC', f3_change fu c MC = some MC' ∧ pic P (ap c s) (MC'.1 33 2) (MC'.1 33 3) (MC'.1 33 4) (MC'.1 34) ∧ (∀ q, q ≠ 33 → q ≠ 34 → MC'.1 q = MC.1 q) ∧ MC'.2 = MC.2 := by
  have h8 := hP.1
  obtain ⟨p1, p2, p3, p4⟩ := hp
  rcases hc with rfl | rfl | rfl | ⟨k, hk, ⟨rfl, hs⟩ | ⟨rfl, hs⟩⟩
  · have ek : ∀ k, k < P.1 → ap (nI 0) s (k + 1) = s (k + 1) := by
      intro k hk
      unfold ap
      simp (disch := omega) only [lit, nlt, nle, neq, nI_add, pk_mul, nm_u, bS, gd_d, oc_none, oc_some, rd_n, wr_n, if_pos, if_neg, ite_true, ite_false, not_true_eq_false, not_false_eq_true, g1, g2, g3, g4, h1, h2, h3, h4]
    refine ⟨sI MC 33 2 (s 0 + nI 1), ?_, ⟨?_, ?_, ?_, ?_⟩, fun q h1 h2 => g2 h1, rfl⟩
    · unfold f3_change
      simp (disch := omega) only [lit, nlt, nle, neq, nI_add, pk_mul, nm_u, bS, gd_d, oc_none, oc_some, rd_n, wr_n, if_pos, if_neg, ite_true, ite_false, not_true_eq_false, not_false_eq_true, g1, g2, g3, g4, h1, h2, h3, h4, p1]
    · rw [g1]; unfold ap; simp (disch := omega) only [lit, nlt, nle, neq, nI_add, pk_mul, nm_u, bS, gd_d, oc_none, oc_some, rd_n, wr_n, if_pos, if_neg, ite_true, ite_false, not_true_eq_false, not_false_eq_true, g1, g2, g3, g4, h1, h2, h3, h4]
    · rw [g3 (by omega), p2]; exact congrArg nI (msk_cg (fun k hk => by rw [ek k hk]))
    · rw [g3 (by omega), p3]; exact congrArg nI (msk_cg (fun k hk => by rw [ek k hk]))
    · intro k hk
      rw [g2 (by omega), ek k hk]
      exact p4 k hk
  · have ek : ∀ k, k < P.1 → ap (nI 1) s (k + 1) = s (k + 1) := by
      intro k hk
      unfold ap
      simp (disch := omega) only [lit, nlt, nle, neq, nI_add, pk_mul, nm_u, bS, gd_d, oc_none, oc_some, rd_n, wr_n, if_pos, if_neg, ite_true, ite_false, not_true_eq_false, not_false_eq_true, g1, g2, g3, g4, h1, h2, h3, h4]
    refine ⟨sI MC 33 2 (s 0 - nI 1), ?_, ⟨?_, ?_, ?_, ?_⟩, fun q h1 h2 => g2 h1, rfl⟩
    · unfold f3_change
      simp (disch := omega) only [lit, nlt, nle, neq, nI_add, pk_mul, nm_u, bS, gd_d, oc_none, oc_some, rd_n, wr_n, if_pos, if_neg, ite_true, ite_false, not_true_eq_false, not_false_eq_true, g1, g2, g3, g4, h1, h2, h3, h4, p1]
    · rw [g1]; unfold ap; simp (disch := omega) only [lit, nlt, nle, neq, nI_add, pk_mul, nm_u, bS, gd_d, oc_none, oc_some, rd_n, wr_n, if_pos, if_neg, ite_true, ite_false, not_true_eq_false, not_false_eq_true, g1, g2, g3, g4, h1, h2, h3, h4]
    · rw [g3 (by omega), p2]; exact congrArg nI (msk_cg (fun k hk => by rw [ek k hk]))
    · rw [g3 (by omega), p3]; exact congrArg nI (msk_cg (fun k hk => by rw [ek k hk]))
    · intro k hk
      rw [g2 (by omega), ek k hk]
      exact p4 k hk
  · obtain ⟨p0, hp0, e0⟩ := hg.1
    have ek : ∀ k, ap (nI 2) s (k + 1) = if s (k + 1) = s 0 then -nI 2 else s (k + 1) := by
      intro k
      unfold ap
      simp (disch := omega) only [lit, nlt, nle, neq, nI_add, pk_mul, nm_u, bS, gd_d, oc_none, oc_some, rd_n, wr_n, if_pos, if_neg, ite_true, ite_false, not_true_eq_false, not_false_eq_true, g1, g2, g3, g4, h1, h2, h3, h4]
    have n1 : ¬ s 0 = -nI 1 := by rw [e0]; exact of_eq_false (np10 hp0).1
    have n2 : ¬ s 0 = -nI 2 := by rw [e0]; exact of_eq_false (np10 hp0).2
    refine ⟨sI MC 33 4 (nI (msk P.1 (fun k => ap (nI 2) s (k + 1) == -nI 2))), ?_, ⟨?_, ?_, ?_, ?_⟩, fun q h1 h2 => g2 h1, rfl⟩
    · have e5 : msk P.1 (fun k => s (k + 1) == -nI 2) ||| msk P.1 (fun k => s (k + 1) == s 0) = msk P.1 (fun k => ap (nI 2) s (k + 1) == -nI 2) := by
        apply Nat.eq_of_testBit_eq
        intro i
        rw [Nat.testBit_or, msk_tb, msk_tb, msk_tb, ek]
        by_cases q : s (i + 1) = s 0
        · simp [q]; exact fun h _ => h
        · simp [q]
      unfold f3_change
      simp (disch := omega) only [lit, nlt, nle, neq, nI_add, pk_mul, nm_u, bS, gd_d, oc_none, oc_some, rd_n, wr_n, if_pos, if_neg, ite_true, ite_false, not_true_eq_false, not_false_eq_true, g1, g2, g3, g4, h1, h2, h3, h4, ior, iand, shl_n, Nat.or_zero, lyingHere_c hfu hP hg ⟨p1, p2, p3, p4⟩, p3, e5]
    · rw [g3 (by omega), p1]; unfold ap; simp (disch := omega) only [lit, nlt, nle, neq, nI_add, pk_mul, nm_u, bS, gd_d, oc_none, oc_some, rd_n, wr_n, if_pos, if_neg, ite_true, ite_false, not_true_eq_false, not_false_eq_true, g1, g2, g3, g4, h1, h2, h3, h4]
    · rw [g3 (by omega), p2]
      refine congrArg nI (msk_cg (fun k hk => ?_))
      rw [ek]
      by_cases q : s (k + 1) = s 0
      · rw [if_pos q, q]
        have a1 : (s 0 == -nI 1) = false := by simp [n1]
        rw [a1]; rfl
      · rw [if_neg q]
    · rw [g1]
    · intro k hk
      rw [g2 (by omega), ek]
      by_cases q : s (k + 1) = s 0
      · rw [if_pos q]; intro _ h; exact absurd rfl h
      · rw [if_neg q]; exact p4 k hk
  · obtain ⟨p0, hp0, e0⟩ := hg.1
    have ek : ∀ j, j < P.1 → ap (nI (8 + k)) s (j + 1) = if j = k then -nI 1 else s (j + 1) := by
      intro j hj
      unfold ap
      by_cases q : j = k
      · subst q; simp (disch := omega) only [lit, nlt, nle, neq, nI_add, pk_mul, nm_u, bS, gd_d, oc_none, oc_some, rd_n, wr_n, if_pos, if_neg, ite_true, ite_false, not_true_eq_false, not_false_eq_true, g1, g2, g3, g4, h1, h2, h3, h4]
      · simp (disch := omega) only [lit, nlt, nle, neq, nI_add, pk_mul, nm_u, bS, gd_d, oc_none, oc_some, rd_n, wr_n, if_pos, if_neg, ite_true, ite_false, not_true_eq_false, not_false_eq_true, g1, g2, g3, g4, h1, h2, h3, h4]
    refine ⟨sI MC 33 3 (nI (msk P.1 (fun j => ap (nI (8 + k)) s (j + 1) == -nI 1))), ?_, ⟨?_, ?_, ?_, ?_⟩, fun q h1 h2 => g2 h1, rfl⟩
    · have e5 : msk P.1 (fun j => s (j + 1) == -nI 1) ||| 2 ^ k = msk P.1 (fun j => ap (nI (8 + k)) s (j + 1) == -nI 1) := by
        apply Nat.eq_of_testBit_eq
        intro i
        rw [Nat.testBit_or, msk_tb, msk_tb, Nat.testBit_two_pow]
        by_cases hi : i < P.1
        · rw [ek i hi]
          by_cases q : i = k
          · subst q; simp [hi]
          · have : ¬ k = i := fun e => q e.symm
            simp [q, this]
        · have : ¬ k = i := by omega
          simp [hi, this]
      unfold f3_change
      have e6 : nI (8 + k) - nI 8 = nI k := by rw [pk_sub (by omega)]; congr 1; omega
      simp (disch := omega) only [lit, nlt, nle, neq, nI_add, pk_mul, nm_u, bS, gd_d, oc_none, oc_some, rd_n, wr_n, if_pos, if_neg, ite_true, ite_false, not_true_eq_false, not_false_eq_true, g1, g2, g3, g4, h1, h2, h3, h4, ior, iand, shl_n, Nat.or_zero, e6, has2_in hP hk, p2, e5]
    · rw [g3 (by omega), p1]; unfold ap; simp (disch := omega) only [lit, nlt, nle, neq, nI_add, pk_mul, nm_u, bS, gd_d, oc_none, oc_some, rd_n, wr_n, if_pos, if_neg, ite_true, ite_false, not_true_eq_false, not_false_eq_true, g1, g2, g3, g4, h1, h2, h3, h4]
    · rw [g1]
    · rw [g3 (by omega), p3]
      refine congrArg nI (msk_cg (fun j hj => ?_))
      rw [ek j hj]
      by_cases q : j = k
      · subst q
        rw [if_pos rfl, hs, e0]
        have a1 : (nI p0 == -nI 2) = false := by simp [of_eq_false (np10 hp0).2]
        rw [a1]; rfl
      · rw [if_neg q]
    · intro j hj
      rw [g2 (by omega), ek j hj]
      by_cases q : j = k
      · rw [if_pos q]; intro h; exact absurd rfl h
      · rw [if_neg q]; exact p4 j hj
  · obtain ⟨p0, hp0, e0⟩ := hg.1
    have ek : ∀ j, j < P.1 → ap (nI (16 + k)) s (j + 1) = if j = k then s 0 else s (j + 1) := by
      intro j hj
      unfold ap
      by_cases q : j = k
      · subst q; simp (disch := omega) only [lit, nlt, nle, neq, nI_add, pk_mul, nm_u, bS, gd_d, oc_none, oc_some, rd_n, wr_n, if_pos, if_neg, ite_true, ite_false, not_true_eq_false, not_false_eq_true, g1, g2, g3, g4, h1, h2, h3, h4]
      · simp (disch := omega) only [lit, nlt, nle, neq, nI_add, pk_mul, nm_u, bS, gd_d, oc_none, oc_some, rd_n, wr_n, if_pos, if_neg, ite_true, ite_false, not_true_eq_false, not_false_eq_true, g1, g2, g3, g4, h1, h2, h3, h4]
    refine ⟨sI (sI MC 33 3 (nI (msk P.1 (fun j => ap (nI (16 + k)) s (j + 1) == -nI 1)))) 34 k (s 0), ?_, ⟨?_, ?_, ?_, ?_⟩, fun q h1 h2 => by rw [g2 h2, g2 h1], rfl⟩
    · have e5 : msk P.1 (fun j => s (j + 1) == -nI 1) ^^^ (msk P.1 (fun j => s (j + 1) == -nI 1) &&& 2 ^ k) = msk P.1 (fun j => ap (nI (16 + k)) s (j + 1) == -nI 1) := by
        apply Nat.eq_of_testBit_eq
        intro i
        rw [Nat.testBit_xor, Nat.testBit_and, msk_tb, msk_tb, Nat.testBit_two_pow]
        by_cases hi : i < P.1
        · rw [ek i hi]
          by_cases q : i = k
          · subst q
            have a1 : (s 0 == -nI 1) = false := by rw [e0]; simp [of_eq_false (np10 hp0).1]
            simp [hi, a1]
          · have : ¬ k = i := fun e => q e.symm
            simp [q, this]
        · simp [hi]
      unfold f3_change
      have e6 : nI (16 + k) - nI 8 = nI (8 + k) := by rw [pk_sub (by omega)]; congr 1; omega
      have e7 : nI (16 + k) - nI 16 = nI k := by rw [pk_sub (by omega)]; congr 1; omega
      have e8 : f2_has MC (nI (8 + k)) = some (nI 0) := has2_out hP (Or.inr ⟨by rw [nlt (by omega) (by omega)]; omega, by rw [nle (by omega) (by omega)]; omega⟩)
      simp (disch := omega) only [lit, nlt, nle, neq, nI_add, pk_mul, nm_u, bS, gd_d, oc_none, oc_some, rd_n, wr_n, if_pos, if_neg, ite_true, ite_false, not_true_eq_false, not_false_eq_true, g1, g2, g3, g4, h1, h2, h3, h4, ior, iand, shl_n, Nat.or_zero, e6, e7, e8, has2_in hP hk, p1, p2, m1r, andnot, e5]
    · rw [g2 (by omega), g3 (by omega), p1]; unfold ap; simp (disch := omega) only [lit, nlt, nle, neq, nI_add, pk_mul, nm_u, bS, gd_d, oc_none, oc_some, rd_n, wr_n, if_pos, if_neg, ite_true, ite_false, not_true_eq_false, not_false_eq_true, g1, g2, g3, g4, h1, h2, h3, h4]
    · rw [g2 (by omega), g1]
    · rw [g2 (by omega), g3 (by omega), p3]
      refine congrArg nI (msk_cg (fun j hj => ?_))
      rw [ek j hj]
      by_cases q : j = k
      · subst q
        rw [if_pos rfl, hs, e0]
        have a1 : (nI p0 == -nI 2) = false := by simp [of_eq_false (np10 hp0).2]
        rw [a1]; rfl
      · rw [if_neg q]
    · intro j hj
      rw [ek j hj]
      by_cases q : j = k
      · subst q
        rw [if_pos rfl, g1]
        intros; rfl
      · rw [if_neg q, g3 q, g2 (by omega)]
        exact p4 j hj
end LH
/-! out of 20.deedsim -/
theorem ap_cg {n : Nat} {c : Int32} {s t : Nat → Int32} (h : ∀ j, j ≤ n → s j = t j) : ∀ j, j ≤ n → ap c s j = ap c t j := by
  intro j hj
  rcases j with _ | j
  · simp only [ap, h 0 (by omega)]
  · simp only [ap, h 0 (by omega), h (j + 1) hj]
section DD
variable {P : PD} {MC MM MC' MM' : Mem} {fu : Nat}
theorem enact_c {c : Int32} {d : Nat} {s : Nat → Int32} (hfu : 10000 ≤ fu) (hd : d < 40) (hdn : MC.1 23 0 = nI d) (hP : GP P MC MM) (hg : gst P.1 s) (hp : pic P s (MC.1 33 2) (MC.1 33 3) (MC.1 33 4) (MC.1 34)) (hc : okc P.1 c s) : ∃ MC', f3_enact fu c MC = some MC' ∧ pic P (ap c s) (MC'.1 33 2) (MC'.1 33 3) (MC'.1 33 4) (MC'.1 34) ∧ (∀ q, q ≠ 23 → q ≠ 27 → q ≠ 33 → q ≠ 34 → MC'.1 q = MC.1 q) ∧ MC'.1 23 0 = nI (d + 1) ∧ MC'.1 27 = upd (MC.1 27) d c ∧ MC'.2 = MC.2 := by
  have hP2 : GP P (sI (sI MC 27 d c) 23 0 (nI (d + 1))) MM := hP.cg (fun q hq => by rw [g2 (by omega), g2 (by omega)]) rfl (fun _ _ => rfl)
  obtain ⟨MC', h1, h2, h3, h4⟩ := change_c (MC := sI (sI MC 27 d c) 23 0 (nI (d + 1))) hfu hP2 hg (by rw [g2 (by omega), g2 (by omega), g2 (by omega), g2 (by omega)]; exact hp) hc
  refine ⟨MC', ?_, h2, fun q a b e f => by rw [h3 q e f, g2 a, g2 b], by rw [h3 23 (by omega) (by omega), g1], ?_, by rw [h4]; rfl⟩
  · unfold f3_enact
    simp (disch := omega) only [lit, nlt, nle, neq, nI_add, pk_mul, nm_u, bS, gd_d, oc_none, oc_some, rd_n, wr_n, if_pos, if_neg, ite_true, ite_false, not_true_eq_false, not_false_eq_true, g1, g2, g3, g4, h1, h2, h3, h4, hdn, h1]
  · rw [h3 27 (by omega) (by omega), g2 (by omega)]
    simp [sI]
end DD
/-! out of 21.step -/
theorem room_t {MC : Mem} {d : Nat} (hd : d < 40) (h : MC.1 23 0 = nI d) : f3_hasRoomFor MC (nI 1) = some (nI 1) := by
  unfold f3_hasRoomFor
  simp (disch := omega) only [lit, nlt, nle, neq, nI_add, pk_mul, nm_u, bS, gd_d, oc_none, oc_some, rd_n, wr_n, if_pos, if_neg, ite_true, ite_false, not_true_eq_false, not_false_eq_true, g1, g2, g3, g4, h1, h2, h3, h4, h]
theorem room_f {MC : Mem} (h : MC.1 23 0 = nI 40) : f3_hasRoomFor MC (nI 1) = some (nI 0) := by
  unfold f3_hasRoomFor
  simp (disch := omega) only [lit, nlt, nle, neq, nI_add, pk_mul, nm_u, bS, gd_d, oc_none, oc_some, rd_n, wr_n, if_pos, if_neg, ite_true, ite_false, not_true_eq_false, not_false_eq_true, g1, g2, g3, g4, h1, h2, h3, h4, h]
theorem ifp1 {α : Type} {a b : α} : (if nI 1 = (1 : Int32) then a else b) = a := by
  rw [if_pos (by decide)]
theorem ifm1 {α : Type} {a b c : α} : (if -nI 1 = (1 : Int32) then a else if -nI 1 = (-1 : Int32) then b else c) = b := by
  rw [if_neg (by decide), if_pos (by decide)]
theorem step_p {fu : Nat} (X : Mem) : f4_step fu (nI 1) X = f4_step_12 fu (nI 1) X := by
  unfold f4_step
  exact ifp1
theorem step_n {fu : Nat} (X : Mem) : f4_step fu (-nI 1) X = f4_step_12 fu (-nI 1) X := by
  unfold f4_step
  exact ifm1
/-! out of 22.stepb -/
theorem stepo_c {fu n : Nat} {x y : Int32} {MC : Mem} (h : MC.1 35 0 = nI n) (hn : 0 < n) (h8 : n ≤ 8) (h1 : MC.1 33 2 + x = y) (ho : outs y 10) : f4_step_12 fu x MC = some (MC, -4) := by
  unfold f4_step_12
  rcases ho with o | ⟨o1, o2⟩
  · simp (disch := omega) only [lit, nlt, nle, neq, nI_add, pk_mul, nm_u, bS, gd_d, oc_none, oc_some, rd_n, wr_n, if_pos, if_neg, ite_true, ite_false, not_true_eq_false, not_false_eq_true, g1, g2, g3, g4, h1, h2, h3, h4, h, h1, o]
  · have q := ge_nle (b := 9) (by omega) o2
    simp (disch := omega) only [lit, nlt, nle, neq, nI_add, pk_mul, nm_u, bS, gd_d, oc_none, oc_some, rd_n, wr_n, if_pos, if_neg, ite_true, ite_false, not_true_eq_false, not_false_eq_true, g1, g2, g3, g4, h1, h2, h3, h4, h, h1, o1, q]
theorem in1 : ∀ p, p < 10 → outs (nI p + nI 1) 10 ∨ ∃ q, q < 10 ∧ nI p + nI 1 = nI q := by
  intro p hp
  by_cases h : p + 1 < 10
  · exact Or.inr ⟨p + 1, h, by rw [nI_add]⟩
  · refine Or.inl (Or.inr ⟨?_, ?_⟩)
    · rw [nI_add]; simp (disch := omega) only [nlt]; omega
    · rw [nI_add]; simp (disch := omega) only [nle]; omega
theorem in2 : ∀ p, p < 10 → outs (nI p + -nI 1) 10 ∨ ∃ q, q < 10 ∧ nI p + -nI 1 = nI q := by
  intro p hp
  by_cases h : 0 < p
  · exact Or.inr ⟨p - 1, by omega, by rw [← Int32.sub_eq_add_neg, pk_sub (by omega)]⟩
  · have : p = 0 := by omega
    subst this
    exact Or.inl (Or.inl (by decide))
/-! out of 24.sweep -/
theorem m4_eq : (-nI 4 = nI 0) = False := by decide
theorem m2_eq : (-nI 2 = nI 0) = False := by decide
def cnt (n : Nat) (f : Nat → Bool) : Nat := fo (fun k a => if f k then a + 1 else a) n 0
theorem cnt_s (n : Nat) (f : Nat → Bool) : cnt (n + 1) f = if f n then cnt n f + 1 else cnt n f := rfl
theorem pcn_msk {n : Nat} (hn : n ≤ 8) (f : Nat → Bool) : pcn (msk n f) = cnt n f := by
  have h1 : ∀ m, m ≤ n → fo (fun k a => if (msk n f).testBit k then a + 1 else a) m 0 = cnt m f := by
    intro m
    induction m with
    | zero => intro _; rfl
    | succ m ih =>
      intro h
      show (if (msk n f).testBit m then fo (fun k a => if (msk n f).testBit k then a + 1 else a) m 0 + 1 else fo (fun k a => if (msk n f).testBit k then a + 1 else a) m 0) = _
      rw [ih (by omega), msk_tbk (by omega), cnt_s]
  have h2 : ∀ e, fo (fun k a => if (msk n f).testBit k then a + 1 else a) (n + e) 0 = cnt n f := by
    intro e
    induction e with
    | zero => exact h1 n (Nat.le_refl n)
    | succ e ih =>
      show (if (msk n f).testBit (n + e) then fo (fun k a => if (msk n f).testBit k then a + 1 else a) (n + e) 0 + 1 else fo (fun k a => if (msk n f).testBit k then a + 1 else a) (n + e) 0) = _
      rw [ih, msk_tb]
      simp
      intro h
      omega
  have h3 := h2 (8 - n)
  rw [show n + (8 - n) = 8 by omega] at h3
  exact h3
theorem ap2_0 {s : Nat → Int32} : ap (nI 2) s 0 = s 0 := by
  simp only [ap]
  simp (disch := omega) only [lit, nlt, nle, neq, nI_add, pk_mul, nm_u, bS, gd_d, oc_none, oc_some, rd_n, wr_n, if_pos, if_neg, ite_true, ite_false, not_true_eq_false, not_false_eq_true, g1, g2, g3, g4, h1, h2, h3, h4]
theorem ap2_k {n k : Nat} {s : Nat → Int32} : ap (nI 2) s (k + 1) = if s (k + 1) = s 0 then -nI 2 else s (k + 1) := by
  simp only [ap]
  rw [if_pos trivial]
/-! out of 25.back -/
theorem pic.cg {P : PD} {s t : Nat → Int32} {a b c : Int32} {l : Nat → Int32} (h : ∀ j, j ≤ P.1 → s j = t j) (hp : pic P s a b c l) : pic P t a b c l := by
  obtain ⟨p1, p2, p3, p4⟩ := hp
  refine ⟨p1.trans (h 0 (by omega)), p2.trans (congrArg nI (msk_cg (fun k hk => by rw [h (k + 1) (by omega)]))), p3.trans (congrArg nI (msk_cg (fun k hk => by rw [h (k + 1) (by omega)]))), fun k hk a b => ?_⟩
  rw [← h (k + 1) (by omega)] at a b ⊢
  exact p4 k hk a b
theorem msk_0 {n : Nat} {p : Nat → Bool} (h : ∀ k, k < n → p k = false) : msk n p = 0 := by
  apply Nat.eq_of_testBit_eq
  intro i
  rw [msk_tb, Nat.zero_testBit]
  by_cases c : i < n
  · rw [h i c]; simp
  · simp [c]
theorem pos_m1 : ∀ p, p < 10 → (nI p == -nI 1) = false := by decide
theorem pos_m2 : ∀ p, p < 10 → (nI p == -nI 2) = false := by decide
theorem back_l {fu x d : Nat} {P : PD} {MM : Mem} {cd : Nat → Int32} {st : Nat → Nat → Int32} (hfu : 10000 ≤ fu) (hd : d ≤ 40) (hx : x ≤ d) (hH : Hist P cd d st) : ∀ (e i f : Nat) (MC : Mem), i + e = x → e < f → GP P MC MM → MC.1 27 = cd → pic P (st i) (MC.1 33 2) (MC.1 33 3) (MC.1 33 4) (MC.1 34) → ∃ MC', f3_goBackTo_51 fu f (nI x) (nI i) MC = some MC' ∧ pic P (st x) (MC'.1 33 2) (MC'.1 33 3) (MC'.1 33 4) (MC'.1 34) ∧ (∀ q, q ≠ 23 → q ≠ 33 → q ≠ 34 → MC'.1 q = MC.1 q) ∧ MC'.1 23 0 = nI x ∧ MC'.2 = MC.2 := by
  intro e
  induction e with
  | zero =>
    intro i f MC h hf hP hc hp
    rcases f with _ | f
    · omega
    have : i = x := by omega
    subst this
    refine ⟨sI MC 23 0 (nI i), ?_, by rw [g2 (by omega), g2 (by omega)]; exact hp, fun q a b c => g2 a, g1, rfl⟩
    rw [f3_goBackTo_51]
    simp (disch := omega) only [lit, nlt, nle, neq, nI_add, pk_mul, nm_u, bS, gd_d, oc_none, oc_some, rd_n, wr_n, if_pos, if_neg, ite_true, ite_false, not_true_eq_false, not_false_eq_true, g1, g2, g3, g4, h1, h2, h3, h4]
  | succ e ih =>
    intro i f MC h hf hP hc hp
    rcases f with _ | f
    · omega
    obtain ⟨M1, a1, a2, a3, a4⟩ := change_c (fu := fu) hfu hP (hH.2.2.2.1 i (by omega)) hp (hH.2.2.2.2 i (by omega))
    have hP2 : GP P M1 MM := hP.cg (fun q hq => a3 q (by omega) (by omega)) rfl (fun _ _ => rfl)
    obtain ⟨M2, b1, b2, b3, b4, b5⟩ := ih (i + 1) f M1 (by omega) (by omega) hP2 (by rw [a3 27 (by omega) (by omega)]; exact hc) (pic.cg (fun j hj => (hH.2.2.1 i (by omega) j hj).symm) a2)
    refine ⟨M2, ?_, b2, fun q a b c => by rw [b3 q a b c, a3 q b c], b4, by rw [b5, a4]⟩
    rw [f3_goBackTo_51]
    have hc' : MC.1 27 i = cd i := by rw [hc]
    simp (disch := omega) only [lit, nlt, nle, neq, nI_add, pk_mul, nm_u, bS, gd_d, oc_none, oc_some, rd_n, wr_n, if_pos, if_neg, ite_true, ite_false, not_true_eq_false, not_false_eq_true, g1, g2, g3, g4, h1, h2, h3, h4, hc', a1]
    exact b1
theorem back0_l {fu : Nat} {x : Int32} {P : PD} {MM : Mem} : ∀ (e i f : Nat) (M : Mem), i + e = P.1 → e < f → GP P M MM → (∀ k, k < i → M.1 34 k = nI (pl P k)) → ∃ M', f3_goBackTo_17 fu f x (nI i) M = f3_goBackTo_51 fu fu x (nI 0) M' ∧ (∀ k, k < P.1 → M'.1 34 k = nI (pl P k)) ∧ (∀ q, q ≠ 34 → M'.1 q = M.1 q) ∧ M'.2 = M.2 := by
  intro e
  induction e with
  | zero =>
    intro i f M h hf hP hl
    rcases f with _ | f
    · omega
    have hi : i = P.1 := by omega
    have h8 := hP.1
    refine ⟨M, ?_, fun k hk => hl k (by omega), fun _ _ => rfl, rfl⟩
    rw [f3_goBackTo_17]
    simp (disch := omega) only [lit, nlt, nle, neq, nI_add, pk_mul, nm_u, bS, gd_d, oc_none, oc_some, rd_n, wr_n, if_pos, if_neg, ite_true, ite_false, not_true_eq_false, not_false_eq_true, g1, g2, g3, g4, h1, h2, h3, h4, hP.2.1]
  | succ e ih =>
    intro i f M h hf hP hl
    rcases f with _ | f
    · omega
    have h8 := hP.1
    have hpl := (hP.2.2.2.1 i (by omega)).2.2.1
    obtain ⟨M', a1, a2, a3, a4⟩ := ih (i + 1) f (sI M 34 i (nI (pl P i))) (by omega) (by omega) (hP.cg (fun q hq => g2 (by omega)) rfl (fun _ _ => rfl)) (fun k hk => by
      by_cases c : k = i
      · subst c; exact g1
      · rw [g3 c]; exact hl k (by omega))
    refine ⟨M', ?_, a2, fun q hq => by rw [a3 q hq, g2 hq], a4⟩
    rw [f3_goBackTo_17]
    simp (disch := omega) only [lit, nlt, nle, neq, nI_add, pk_mul, nm_u, bS, gd_d, oc_none, oc_some, rd_n, wr_n, if_pos, if_neg, ite_true, ite_false, not_true_eq_false, not_false_eq_true, g1, g2, g3, g4, h1, h2, h3, h4, hP.2.1, hpl]
    exact a1
theorem goBackTo_c {fu x d : Nat} {P : PD} {MC MM : Mem} {st : Nat → Nat → Int32} (hfu : 10000 ≤ fu) (hd : d ≤ 40) (hx : x ≤ d) (hP : GP P MC MM) (hH : Hist P (MC.1 27) d st) : ∃ MC', f3_goBackTo fu (nI x) MC = some MC' ∧ pic P (st x) (MC'.1 33 2) (MC'.1 33 3) (MC'.1 33 4) (MC'.1 34) ∧ (∀ q, q ≠ 23 → q ≠ 33 → q ≠ 34 → MC'.1 q = MC.1 q) ∧ MC'.1 23 0 = nI x ∧ MC'.2 = MC.2 := by
  have h8 := hP.1
  have hg := hH.2.2.2.1 0 (by omega)
  obtain ⟨M1, a1, a2, a3, a4⟩ := back0_l (fu := fu) (x := nI x) (P := P) (MM := MM) P.1 0 fu (sI (sI (sI MC 33 2 (nI 0)) 33 3 (nI 0)) 33 4 (nI 0)) (by omega) (by omega) (hP.cg (fun q hq => by rw [g2 (by omega), g2 (by omega), g2 (by omega)]) rfl (fun _ _ => rfl)) (fun k hk => by omega)
  have hP1 : GP P M1 MM := hP.cg (fun q hq => by rw [a3 q (by omega), g2 (by omega), g2 (by omega), g2 (by omega)]) rfl (fun _ _ => rfl)
  have hpl : ∀ k, k < P.1 → pl P k < 10 := fun k hk => (hP.2.2.2.1 k hk).1.2.1
  obtain ⟨M2, b1, b2, b3, b4, b5⟩ := back_l (fu := fu) (x := x) hfu hd hx hH x 0 fu M1 (by omega) (by omega) hP1 (by rw [a3 27 (by omega), g2 (by omega), g2 (by omega), g2 (by omega)]) (by
    refine ⟨?_, ?_, ?_, fun k hk _ _ => ?_⟩
    · rw [a3 33 (by omega), g3 (by omega), g3 (by omega), g1, hH.1]
    · rw [a3 33 (by omega), g3 (by omega), g1, msk_0 (fun k hk => by rw [hH.2.1 k hk]; exact pos_m1 _ (hpl k hk))]
    · rw [a3 33 (by omega), g1, msk_0 (fun k hk => by rw [hH.2.1 k hk]; exact pos_m2 _ (hpl k hk))]
    · rw [a2 k hk, hH.2.1 k hk])
  refine ⟨M2, ?_, b2, fun q a b c => by rw [b3 q a b c, a3 q c, g2 b, g2 b, g2 b], b4, by rw [b5, a4]; rfl⟩
  unfold f3_goBackTo
  simp (disch := omega) only [lit, nlt, nle, neq, nI_add, pk_mul, nm_u, bS, gd_d, oc_none, oc_some, rd_n, wr_n, if_pos, if_neg, ite_true, ite_false, not_true_eq_false, not_false_eq_true, g1, g2, g3, g4, h1, h2, h3, h4]
  rw [a1]
  exact b1
theorem Hist.le {P : PD} {cd : Nat → Int32} {d x : Nat} {st : Nat → Nat → Int32} (hx : x ≤ d) (h : Hist P cd d st) : Hist P cd x st :=
  ⟨h.1, h.2.1, fun i hi => h.2.2.1 i (by omega), fun i hi => h.2.2.2.1 i (by omega), fun i hi => h.2.2.2.2 i (by omega)⟩
/-! out of 26.keep -/
theorem kq9 : (nI 1 = nI 0) = False := by decide
theorem keptAt_in {j : Nat} (h : j < 3) : f4_keptAt (nI j) = some (some (20 + j)) := by
  unfold f4_keptAt
  have e : rdR [20, 21, 22] (nI j) = some (20 + j) := rdR_n (by
    rcases (show j = 0 ∨ j = 1 ∨ j = 2 by omega) with rfl | rfl | rfl <;> rfl) (by decide)
  rw [e]
  simp (disch := omega) only [lit, nlt, nle, neq, nI_add, pk_mul, nm_u, bS, gd_d, oc_none, oc_some, rd_n, wr_n, if_pos, if_neg, ite_true, ite_false, not_true_eq_false, not_false_eq_true, g1, g2, g3, g4, h1, h2, h3, h4]
theorem take_l {fu a b : Nat} {src : Nat → Int32} (ha : 20 ≤ a ∧ a < 24) (hb : 20 ≤ b ∧ b < 24) (hab : a ≠ b) : ∀ (e i f : Nat) (M : Mem), i + e = 40 → e < f → M.1 (b + 4) = src → f1_takeOver_10 fu f a b (nI i) M = some (sF M (a + 4) (fun x => if i ≤ x ∧ x < 40 then src x else M.1 (a + 4) x)) := by
  intro e
  induction e with
  | zero =>
    intro i f M h hf hs
    rcases f with _ | f
    · omega
    rw [f1_takeOver_10]
    simp (disch := omega) only [lit, nlt, nle, neq, nI_add, pk_mul, nm_u, bS, gd_d, oc_none, oc_some, rd_n, wr_n, if_pos, if_neg, ite_true, ite_false, not_true_eq_false, not_false_eq_true, g1, g2, g3, g4, h1, h2, h3, h4]
    rw [sF_id]
    intro j
    first | rfl | rw [if_neg (by omega)]
  | succ e ih =>
    intro i f M h hf hs
    rcases f with _ | f
    · omega
    rw [f1_takeOver_10]
    have g1d : gd (decide (20 ≤ a ∧ a < 24)) = some () := by simp [gd, ha]
    have g2d : gd (decide (20 ≤ b ∧ b < 24)) = some () := by simp [gd, hb]
    simp (disch := omega) only [lit, nlt, nle, neq, nI_add, pk_mul, nm_u, bS, gd_d, oc_none, oc_some, rd_n, wr_n, if_pos, if_neg, ite_true, ite_false, not_true_eq_false, not_false_eq_true, g1, g2, g3, g4, h1, h2, h3, h4, g1d, g2d]
    rw [ih (i + 1) f _ (by omega) (by omega) (by rw [g2 (by omega)]; exact hs), sF_sI]
    congr 1
    apply sF_cg
    intro j
    by_cases c : i + 1 ≤ j ∧ j < 40
    · rw [if_pos c, if_pos (by omega)]
    · rw [if_neg c]
      by_cases e0 : j = i
      · subst e0; rw [g1, if_pos (by omega), hs]
      · rw [g3 e0, if_neg (by omega)]
theorem take_c {fu a b : Nat} {M : Mem} (hfu : 10000 ≤ fu) (ha : 20 ≤ a ∧ a < 24) (hb : 20 ≤ b ∧ b < 24) (hab : a ≠ b) : f1_takeOver fu a b M = some (sF (sI M a 0 (M.1 b 0)) (a + 4) (fun x => if 0 ≤ x ∧ x < 40 then M.1 (b + 4) x else M.1 (a + 4) x)) := by
  unfold f1_takeOver
  have g1d : gd (decide (20 ≤ a ∧ a < 24)) = some () := by simp [gd, ha]
  have g2d : gd (decide (20 ≤ b ∧ b < 24)) = some () := by simp [gd, hb]
  have h := take_l (fu := fu) (src := M.1 (b + 4)) ha hb hab 40 0 fu (sI M a 0 (M.1 b 0)) (by omega) (by omega) (g2 (by omega))
  simp (disch := omega) only [lit, nlt, nle, neq, nI_add, pk_mul, nm_u, bS, gd_d, oc_none, oc_some, rd_n, wr_n, if_pos, if_neg, ite_true, ite_false, not_true_eq_false, not_false_eq_true, g1, g2, g3, g4, h1, h2, h3, h4, g1d, g2d]
  rw [h]
  congr 1
  apply sF_cg
  intro j
  rw [g2 (by omega)]
theorem Hist.cd {P : PD} {cd cd' : Nat → Int32} {d : Nat} {st : Nat → Nat → Int32} (h : Hist P cd d st) (e : ∀ i, i < d → cd' i = cd i) : Hist P cd' d st :=
  ⟨h.1, h.2.1, fun i hi j hj => by rw [e i hi]; exact h.2.2.1 i hi j hj, h.2.2.2.1, fun i hi => by rw [e i hi]; exact h.2.2.2.2 i hi⟩
/-! out of 28.count -/
theorem nI_nm1 {k : Nat} (h : k < 100) : nI k ≠ -nI 1 := by
  have : ∀ k, k < 100 → nI k ≠ -nI 1 := by decide +kernel
  exact this k h
theorem outs_ne {x : Int32} {n j : Nat} (hn : n < 2147483648) (h : outs x n) (hj : j < n) : ¬ x = nI j := by
  intro e
  subst e
  rcases h with h | ⟨-, h⟩
  · rw [nlt (by omega) (by omega)] at h; omega
  · rw [nle (by omega) (by omega)] at h; omega
theorem thK_c {fu : Nat} {MC : Mem} {g : Nat → Bool} (hg : ∀ r, r < 3 → (MC.1 (20 + r) 0 = -nI 1 ∧ g r = false) ∨ ∃ k, k ≤ 40 ∧ MC.1 (20 + r) 0 = nI k ∧ g r = true) : ∀ (e i f : Nat), i + e = 3 → e < f → f4_countKept_4 MC fu f (nI (cnt i g)) (nI i) = some (nI (cnt 3 g)) := by
  intro e
  induction e with
  | zero =>
    intro i f h hf
    rcases f with _ | f
    · omega
    have : i = 3 := by omega
    subst this
    rw [f4_countKept_4]
    simp (disch := omega) only [lit, nlt, nle, neq, nI_add, pk_mul, nm_u, bS, gd_d, oc_none, oc_some, rd_n, wr_n, if_pos, if_neg, ite_true, ite_false, not_true_eq_false, not_false_eq_true, g1, g2, g3, g4, h1, h2, h3, h4]
  | succ e ih =>
    intro i f h hf
    rcases f with _ | f
    · omega
    have hi : i < 3 := by omega
    have er : rdR [20, 21, 22] (nI i) = some (20 + i) := rdR_n (by
      rcases (show i = 0 ∨ i = 1 ∨ i = 2 by omega) with rfl | rfl | rfl <;> rfl) (by decide)
    have h1 := ih (i + 1) f (by omega) (by omega)
    rw [cnt_s] at h1
    have gk : gd (decide (20 ≤ 20 + i ∧ 20 + i < 24)) = some () := by
      have : 20 ≤ 20 + i ∧ 20 + i < 24 := by omega
      simp [gd, this]
    rw [f4_countKept_4]
    dsimp only
    rw [er]
    rcases hg i hi with ⟨a, b⟩ | ⟨k, hk, a, b⟩
    · rw [b, if_neg (by simp)] at h1
      simp (disch := omega) only [lit, nlt, nle, neq, nI_add, pk_mul, nm_u, bS, gd_d, oc_none, oc_some, rd_n, wr_n, if_pos, if_neg, ite_true, ite_false, not_true_eq_false, not_false_eq_true, g1, g2, g3, g4, h1, h2, h3, h4, gk, a, m1_lt]
      try exact h1
    · rw [b, if_pos rfl] at h1
      simp (disch := omega) only [lit, nlt, nle, neq, nI_add, pk_mul, nm_u, bS, gd_d, oc_none, oc_some, rd_n, wr_n, if_pos, if_neg, ite_true, ite_false, not_true_eq_false, not_false_eq_true, g1, g2, g3, g4, h1, h2, h3, h4, gk, a]
      try exact h1
