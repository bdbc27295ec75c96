/-! 46: whose -/
theorem places_c {fu r : Nat} {M : Mem} {v : Int32} (hfu : 10000 ≤ fu) (hr6 : r < 6) (h : M.1 r 0 = nI 13) : f0_placesOf M fu r v = some (nI (msk 13 (fun i => M.1 (r + 10) i == v))) := by
  have gk : gd (decide (r < 10)) = some () := by
    have : r < 10 := by omega
    simp [gd, this]
  have key : ∀ (e i f : Nat), i + e = 13 → e < f → f0_placesOf_4 M fu f r v (nI (msk i (fun i => M.1 (r + 10) i == v))) (nI i) = some (nI (msk 13 (fun i => M.1 (r + 10) i == v))) := by
    intro e
    induction e with
    | zero =>
      intro i f hi hf
      rcases f with _ | f
      · omega
      have : i = 13 := by omega
      subst this
      rw [f0_placesOf_4]
      simp (disch := omega) only [lit, nlt, nle, neq, nI_add, pk_mul, nm_u, bS, gd_d, oc_none, oc_some, rd_n, wr_n, if_pos, if_neg, ite_true, ite_false, not_true_eq_false, not_false_eq_true, g1, g2, g3, g4, h1, h2, h3, h4, gk, h]
    | succ e ih =>
      intro i f hi hf
      rcases f with _ | f
      · omega
      have lh2 := ih (i + 1) f (by omega) (by omega)
      rw [msk_s] at lh2
      rw [f0_placesOf_4]
      by_cases c : M.1 (r + 10) i = v
      · rw [if_pos (by simp [c])] at lh2
        simp (disch := omega) only [lit, nlt, nle, neq, nI_add, pk_mul, nm_u, bS, gd_d, oc_none, oc_some, rd_n, wr_n, if_pos, if_neg, ite_true, ite_false, not_true_eq_false, not_false_eq_true, g1, g2, g3, g4, h1, h2, h3, h4, ior, iand, shl_n, Nat.or_zero, gk, h, c]
        exact lh2
      · rw [if_neg (by simp [c])] at lh2
        simp (disch := omega) only [lit, nlt, nle, neq, nI_add, pk_mul, nm_u, bS, gd_d, oc_none, oc_some, rd_n, wr_n, if_pos, if_neg, ite_true, ite_false, not_true_eq_false, not_false_eq_true, g1, g2, g3, g4, h1, h2, h3, h4, ior, iand, shl_n, Nat.or_zero, gk, h, c]
        exact lh2
  unfold f0_placesOf
  rw [lit]
  exact key 13 0 fu (by omega) (by omega)
def okw (w : Int32) : Prop := w = nI 0 ∨ w = nI 1 ∨ w = -nI 9
theorem cover {w : Nat → Int32} : ((msk 13 (fun i => w i == nI 1) ||| msk 13 (fun i => w i == nI 0)) ||| msk 13 (fun i => w i == -nI 9) = 8191) ↔ ∀ j, j < 13 → okw (w j) := by
  have e : (8191 : Nat) = 2 ^ 13 - 1 := rfl
  rw [e]
  constructor
  · intro h j hj
    have q := congrArg (fun x => x.testBit j) h
    simp only [Nat.testBit_or, msk_tb, Nat.testBit_two_pow_sub_one, hj, decide_true, Bool.true_and] at q
    simp only [Bool.or_eq_true, beq_iff_eq] at q
    rcases q with (q | q) | q
    · exact Or.inr (Or.inl q)
    · exact Or.inl q
    · exact Or.inr (Or.inr q)
  · intro h
    apply Nat.eq_of_testBit_eq
    intro j
    simp only [Nat.testBit_or, msk_tb, Nat.testBit_two_pow_sub_one]
    by_cases c : j < 13
    · simp only [c, decide_true, Bool.true_and]
      simp only [Bool.or_eq_true, beq_iff_eq]
      rcases h j c with q | q | q
      · exact Or.inl (Or.inr q)
      · exact Or.inl (Or.inl q)
      · exact Or.inr q
    · simp [c]
theorem who_A {fu r : Nat} {MM : Mem} {w : Nat → Int32} {sw : Int32} (hr6 : r < 6) (hw : ∀ i, i < 13 → MM.1 1 (40 * r + i) = w i) (hok : ∀ j, j < 13 → okw (w j)) (hth : f5_those MM fu (-nI 2) = some sw) : ∀ (e i f : Nat), i + e = 13 → e < f → f5_whose_58 fu f (nI r) (nI (msk i (fun i => w i == nI 1))) (nI (msk i (fun i => w i == nI 0))) (nI i) MM = f5_whose_160 fu fu (nI (msk 13 (fun i => w i == nI 1))) (nI (msk 13 (fun i => w i == nI 0))) sw (nI 0) (-nI 9) (nI 0) MM := by
  have n1 : (-nI 9 = nI 0) = False := by decide
  have n2 : (-nI 9 = nI 1) = False := by decide
  have n3 : (nI 1 == nI 0) = false := by decide
  have n4 : (nI 0 == nI 1) = false := by decide
  have n5 : (-nI 9 == nI 1) = false := by decide
  have n6 : (-nI 9 == nI 0) = false := by decide
  have t1 : (-nI 9 = -nI 9) = True := eq_true rfl
  intro e
  induction e with
  | zero =>
    intro i f hi hf
    rcases f with _ | f
    · omega
    have : i = 13 := by omega
    subst this
    rw [f5_whose_58]
    simp (disch := omega) only [lit, nlt, nle, neq, nI_add, pk_mul, nm_u, bS, gd_d, oc_none, oc_some, rd_n, wr_n, if_pos, if_neg, ite_true, ite_false, not_true_eq_false, not_false_eq_true, g1, g2, g3, g4, h1, h2, h3, h4, ior, iand, shl_n, Nat.or_zero, hth]
  | succ e ih =>
    intro i f hi hf
    rcases f with _ | f
    · omega
    have lh2 := ih (i + 1) f (by omega) (by omega)
    rw [msk_s, msk_s] at lh2
    have r1 := hw i (by omega)
    rw [f5_whose_58]
    unfold f5_whose_103 f5_whose_118
    rcases hok i (by omega) with q | q | q
    · rw [q] at r1 lh2
      rw [n4, if_neg (by decide), if_pos (by decide)] at lh2
      simp (disch := omega) only [lit, nlt, nle, neq, nI_add, pk_mul, nm_u, bS, gd_d, oc_none, oc_some, rd_n, wr_n, if_pos, if_neg, ite_true, ite_false, not_true_eq_false, not_false_eq_true, g1, g2, g3, g4, h1, h2, h3, h4, ior, iand, shl_n, Nat.or_zero, r1]
      exact lh2
    · rw [q] at r1 lh2
      rw [n3, if_pos (by decide), if_neg (by decide)] at lh2
      simp (disch := omega) only [lit, nlt, nle, neq, nI_add, pk_mul, nm_u, bS, gd_d, oc_none, oc_some, rd_n, wr_n, if_pos, if_neg, ite_true, ite_false, not_true_eq_false, not_false_eq_true, g1, g2, g3, g4, h1, h2, h3, h4, ior, iand, shl_n, Nat.or_zero, r1]
      exact lh2
    · rw [q] at r1 lh2
      rw [n5, n6, if_neg (by decide), if_neg (by decide)] at lh2
      simp (disch := omega) only [lit, nlt, nle, neq, nI_add, pk_mul, nm_u, bS, gd_d, oc_none, oc_some, rd_n, wr_n, if_pos, if_neg, ite_true, ite_false, not_true_eq_false, not_false_eq_true, g1, g2, g3, g4, h1, h2, h3, h4, ior, iand, shl_n, Nat.or_zero, r1, n1, n2, t1]
      exact lh2
theorem who_B {fu r : Nat} {MM : Mem} {w : Nat → Int32} (hr6 : r < 6) (hw : ∀ i, i < 13 → MM.1 1 (40 * r + i) = w i) : ∀ (e i f : Nat) (x y : Int32), i + e = 13 → e < f → (∃ j, i ≤ j ∧ j < 13 ∧ ¬ okw (w j)) → f5_whose_58 fu f (nI r) x y (nI i) MM = some (sI (sI MM 0 7 (nI 3)) 5 3 (MM.1 5 3 + nI 1), -3) := by
  have n1 : (-nI 9 = nI 0) = False := by decide
  have n2 : (-nI 9 = nI 1) = False := by decide
  have t1 : (-nI 9 = -nI 9) = True := eq_true rfl
  intro e
  induction e with
  | zero =>
    intro i f x y hi hf hx
    obtain ⟨j, j1, j2, -⟩ := hx
    omega
  | succ e ih =>
    intro i f x y hi hf hx
    rcases f with _ | f
    · omega
    have r1 := hw i (by omega)
    have nx : okw (w i) → ∃ j, i + 1 ≤ j ∧ j < 13 ∧ ¬ okw (w j) := by
      intro q
      obtain ⟨j, j1, j2, j3⟩ := hx
      refine ⟨j, ?_, j2, j3⟩
      by_cases c : j = i
      · subst c; exact absurd q j3
      · omega
    rw [f5_whose_58]
    unfold f5_whose_103 f5_whose_118
    by_cases c1 : w i = nI 0
    · rw [c1] at r1
      have lh2 := fun x y => ih (i + 1) f x y (by omega) (by omega) (nx (Or.inl c1))
      simp (disch := omega) only [lit, nlt, nle, neq, nI_add, pk_mul, nm_u, bS, gd_d, oc_none, oc_some, rd_n, wr_n, if_pos, if_neg, ite_true, ite_false, not_true_eq_false, not_false_eq_true, g1, g2, g3, g4, h1, h2, h3, h4, ior, iand, shl_n, Nat.or_zero, r1, lh2]
    · by_cases c2 : w i = nI 1
      · rw [c2] at r1
        have lh2 := fun x y => ih (i + 1) f x y (by omega) (by omega) (nx (Or.inr (Or.inl c2)))
        simp (disch := omega) only [lit, nlt, nle, neq, nI_add, pk_mul, nm_u, bS, gd_d, oc_none, oc_some, rd_n, wr_n, if_pos, if_neg, ite_true, ite_false, not_true_eq_false, not_false_eq_true, g1, g2, g3, g4, h1, h2, h3, h4, ior, iand, shl_n, Nat.or_zero, r1, lh2]
      · by_cases c3 : w i = -nI 9
        · rw [c3] at r1
          have lh2 := fun x y => ih (i + 1) f x y (by omega) (by omega) (nx (Or.inr (Or.inr c3)))
          simp (disch := omega) only [lit, nlt, nle, neq, nI_add, pk_mul, nm_u, bS, gd_d, oc_none, oc_some, rd_n, wr_n, if_pos, if_neg, ite_true, ite_false, not_true_eq_false, not_false_eq_true, g1, g2, g3, g4, h1, h2, h3, h4, ior, iand, shl_n, Nat.or_zero, r1, n1, n2, t1, lh2]
        · simp (disch := omega) only [lit, nlt, nle, neq, nI_add, pk_mul, nm_u, bS, gd_d, oc_none, oc_some, rd_n, wr_n, if_pos, if_neg, ite_true, ite_false, not_true_eq_false, not_false_eq_true, g1, g2, g3, g4, h1, h2, h3, h4, ior, iand, shl_n, Nat.or_zero, r1, c1, c2, c3, found_s]
theorem who_iff {U B Z : Nat} (h : B &&& Z = 0) : U &&& (B ||| Z) = B ↔ U &&& B = B ∧ U &&& Z = 0 := by
  have hb : ∀ j, (B.testBit j && Z.testBit j) = false := by
    intro j
    have := congrArg (fun x => x.testBit j) h
    simpa only [Nat.testBit_and, Nat.zero_testBit] using this
  constructor
  · intro q
    have qb : ∀ j, (U.testBit j && (B.testBit j || Z.testBit j)) = B.testBit j := by
      intro j
      have := congrArg (fun x => x.testBit j) q
      simpa only [Nat.testBit_and, Nat.testBit_or] using this
    constructor
    · apply Nat.eq_of_testBit_eq
      intro j
      rw [Nat.testBit_and]
      have a := hb j
      have b := qb j
      revert a b
      cases U.testBit j <;> cases B.testBit j <;> cases Z.testBit j <;> decide
    · apply Nat.eq_of_testBit_eq
      intro j
      rw [Nat.testBit_and, Nat.zero_testBit]
      have a := hb j
      have b := qb j
      revert a b
      cases U.testBit j <;> cases B.testBit j <;> cases Z.testBit j <;> decide
  · rintro ⟨q1, q2⟩
    apply Nat.eq_of_testBit_eq
    intro j
    rw [Nat.testBit_and, Nat.testBit_or]
    have a := congrArg (fun x => x.testBit j) q1
    have b := congrArg (fun x => x.testBit j) q2
    simp only [Nat.testBit_and, Nat.zero_testBit] at a b
    revert a b
    cases U.testBit j <;> cases B.testBit j <;> cases Z.testBit j <;> decide
theorem who_l {fu B Z sw : Nat} {P : PD} {MC MM : Mem} (hfu : 10000 ≤ fu) (hP : GP P MC MM) (hsw : MC.1 33 4 = nI sw) (hs2 : sw < 256) (hBZ : B &&& Z = 0) (hB : B < 8192) (hZ : Z < 8192) : ∀ (e i f1 f2 c W : Nat) (X : Int32), i + e = 2 ^ P.1 → e < f1 → e < f2 → c ≤ i → W < 256 → ((c = 0 ∧ X = -nI 9) ∨ (0 < c ∧ X = nI W)) → (f4_countWhose_17 fu f1 (nI B) (nI (B ||| Z)) (nI c) (nI W) (nI i) MC = some (MC, -nI 9) ∧ f5_whose_160 fu f2 (nI B) (nI Z) (nI sw) (nI c) X (nI i) MM = some (MM, -nI 9)) ∨ ∃ V C, f4_countWhose_17 fu f1 (nI B) (nI (B ||| Z)) (nI c) (nI W) (nI i) MC = some (sI MC 28 6 (nI V), nI C) ∧ f5_whose_160 fu f2 (nI B) (nI Z) (nI sw) (nI c) X (nI i) MM = some (sI MM 0 4 (nI V), nI C) := by
  have h8 := hP.1
  have h256 := pow8 h8
  have hone : 1 ≤ 2 ^ P.1 := Nat.one_le_two_pow
  intro e
  induction e with
  | zero =>
    intro i f1 f2 c W X hi hf1 hf2 hc hW hX
    rcases f1 with _ | f1
    · omega
    rcases f2 with _ | f2
    · omega
    have : i = 2 ^ P.1 := by omega
    subst this
    rcases hX with ⟨rfl, rfl⟩ | ⟨hc0, rfl⟩
    · refine Or.inl ⟨?_, ?_⟩
      · rw [f4_countWhose_17]
        unfold f2_all
        simp (disch := omega) only [lit, nlt, nle, neq, nI_add, pk_mul, nm_u, bS, gd_d, oc_none, oc_some, rd_n, wr_n, if_pos, if_neg, ite_true, ite_false, not_true_eq_false, not_false_eq_true, g1, g2, g3, g4, h1, h2, h3, h4, ior, iand, shl_n, Nat.or_zero, hP.2.1, all2]
      · rw [f5_whose_160]
        simp (disch := omega) only [lit, nlt, nle, neq, nI_add, pk_mul, nm_u, bS, gd_d, oc_none, oc_some, rd_n, wr_n, if_pos, if_neg, ite_true, ite_false, not_true_eq_false, not_false_eq_true, g1, g2, g3, g4, h1, h2, h3, h4, ior, iand, shl_n, Nat.or_zero, hP.2.2.1]
    · refine Or.inr ⟨W, c, ?_, ?_⟩
      · rw [f4_countWhose_17]
        unfold f2_all
        simp (disch := omega) only [lit, nlt, nle, neq, nI_add, pk_mul, nm_u, bS, gd_d, oc_none, oc_some, rd_n, wr_n, if_pos, if_neg, ite_true, ite_false, not_true_eq_false, not_false_eq_true, g1, g2, g3, g4, h1, h2, h3, h4, ior, iand, shl_n, Nat.or_zero, hP.2.1, all2]
      · rw [f5_whose_160]
        unfold f5_answer
        simp (disch := omega) only [lit, nlt, nle, neq, nI_add, pk_mul, nm_u, bS, gd_d, oc_none, oc_some, rd_n, wr_n, if_pos, if_neg, ite_true, ite_false, not_true_eq_false, not_false_eq_true, g1, g2, g3, g4, h1, h2, h3, h4, ior, iand, shl_n, Nat.or_zero, hP.2.2.1]
  | succ e ih =>
    intro i f1 f2 c W X hi hf1 hf2 hc hW hX
    rcases f1 with _ | f1
    · omega
    rcases f2 with _ | f2
    · omega
    have hi2 : i < 2 ^ P.1 := by omega
    have hU := (tw_b hP hi2).2
    have l1 : i &&& sw < 256 := Nat.lt_of_le_of_lt Nat.and_le_left (by omega)
    have l2 : (tw P i).2 &&& (B ||| Z) < 8192 := Nat.lt_of_le_of_lt Nat.and_le_left hU
    have l3 : (tw P i).2 &&& B < 8192 := Nat.lt_of_le_of_lt Nat.and_le_left hU
    have l4 : (tw P i).2 &&& Z < 8192 := Nat.lt_of_le_of_lt Nat.and_le_left hU
    have wi := who_iff (U := (tw P i).2) hBZ
    have go := ih (i + 1) f1 f2 c W X (by omega) (by omega) (by omega) (by omega) hW hX
    by_cases c1 : i &&& sw = 0
    · by_cases c2 : (tw P i).2 &&& (B ||| Z) = B
      · obtain ⟨c3, c4⟩ := wi.mp c2
        have t2 : (nI ((tw P i).2 &&& (B ||| Z)) = nI B) = True := by rw [c2]; exact eq_true rfl
        have t3 : (nI ((tw P i).2 &&& B) = nI B) = True := by rw [c3]; exact eq_true rfl
        have t4 : (nI ((tw P i).2 &&& Z) = nI 0) = True := by rw [c4]; exact eq_true rfl
        have nm9 : (-nI 9 = -nI 9) = True := eq_true rfl
        rcases hX with ⟨rfl, rfl⟩ | ⟨hc0, rfl⟩
        · have go := ih (i + 1) f1 f2 1 i (nI i) (by omega) (by omega) (by omega) (by omega) (by omega) (Or.inr ⟨by omega, rfl⟩)
          have q1 : f4_countWhose_17 fu (f1 + 1) (nI B) (nI (B ||| Z)) (nI 0) (nI W) (nI i) MC = f4_countWhose_17 fu f1 (nI B) (nI (B ||| Z)) (nI 1) (nI i) (nI (i + 1)) MC := by
            rw [f4_countWhose_17]
            unfold f2_all
            simp (disch := omega) only [lit, nlt, nle, neq, nI_add, pk_mul, nm_u, bS, gd_d, oc_none, oc_some, rd_n, wr_n, if_pos, if_neg, ite_true, ite_false, not_true_eq_false, not_false_eq_true, g1, g2, g3, g4, h1, h2, h3, h4, ior, iand, shl_n, Nat.or_zero, hP.2.1, all2, hsw, c1, hours_c hP hi2, t2, Nat.zero_add]
          have q2 : f5_whose_160 fu (f2 + 1) (nI B) (nI Z) (nI sw) (nI 0) (-nI 9) (nI i) MM = f5_whose_160 fu f2 (nI B) (nI Z) (nI sw) (nI 1) (nI i) (nI (i + 1)) MM := by
            rw [f5_whose_160]
            simp (disch := omega) only [lit, nlt, nle, neq, nI_add, pk_mul, nm_u, bS, gd_d, oc_none, oc_some, rd_n, wr_n, if_pos, if_neg, ite_true, ite_false, not_true_eq_false, not_false_eq_true, g1, g2, g3, g4, h1, h2, h3, h4, ior, iand, shl_n, Nat.or_zero, hP.2.2.1, hoursAll_0 hP hfu hi2, c1, t3, t4, nm9, Nat.zero_add]
          rw [q1, q2]
          exact go
        · have go := ih (i + 1) f1 f2 (c + 1) W (nI W) (by omega) (by omega) (by omega) (by omega) hW (Or.inr ⟨by omega, rfl⟩)
          have q1 : f4_countWhose_17 fu (f1 + 1) (nI B) (nI (B ||| Z)) (nI c) (nI W) (nI i) MC = f4_countWhose_17 fu f1 (nI B) (nI (B ||| Z)) (nI (c + 1)) (nI W) (nI (i + 1)) MC := by
            rw [f4_countWhose_17]
            unfold f2_all
            simp (disch := omega) only [lit, nlt, nle, neq, nI_add, pk_mul, nm_u, bS, gd_d, oc_none, oc_some, rd_n, wr_n, if_pos, if_neg, ite_true, ite_false, not_true_eq_false, not_false_eq_true, g1, g2, g3, g4, h1, h2, h3, h4, ior, iand, shl_n, Nat.or_zero, hP.2.1, all2, hsw, c1, hours_c hP hi2, t2]
          have q2 : f5_whose_160 fu (f2 + 1) (nI B) (nI Z) (nI sw) (nI c) (nI W) (nI i) MM = f5_whose_160 fu f2 (nI B) (nI Z) (nI sw) (nI (c + 1)) (nI W) (nI (i + 1)) MM := by
            rw [f5_whose_160]
            simp (disch := omega) only [lit, nlt, nle, neq, nI_add, pk_mul, nm_u, bS, gd_d, oc_none, oc_some, rd_n, wr_n, if_pos, if_neg, ite_true, ite_false, not_true_eq_false, not_false_eq_true, g1, g2, g3, g4, h1, h2, h3, h4, ior, iand, shl_n, Nat.or_zero, hP.2.2.1, hoursAll_0 hP hfu hi2, c1, t3, t4, np9 hW]
          rw [q1, q2]
          exact go
      · have q1 : f4_countWhose_17 fu (f1 + 1) (nI B) (nI (B ||| Z)) (nI c) (nI W) (nI i) MC = f4_countWhose_17 fu f1 (nI B) (nI (B ||| Z)) (nI c) (nI W) (nI (i + 1)) MC := by
          rw [f4_countWhose_17]
          unfold f2_all
          simp (disch := omega) only [lit, nlt, nle, neq, nI_add, pk_mul, nm_u, bS, gd_d, oc_none, oc_some, rd_n, wr_n, if_pos, if_neg, ite_true, ite_false, not_true_eq_false, not_false_eq_true, g1, g2, g3, g4, h1, h2, h3, h4, ior, iand, shl_n, Nat.or_zero, hP.2.1, all2, hsw, c1, hours_c hP hi2, c2]
        have q2 : f5_whose_160 fu (f2 + 1) (nI B) (nI Z) (nI sw) (nI c) X (nI i) MM = f5_whose_160 fu f2 (nI B) (nI Z) (nI sw) (nI c) X (nI (i + 1)) MM := by
          rw [f5_whose_160]
          by_cases d1 : (tw P i).2 &&& B = B
          · have d2 : ¬ (tw P i).2 &&& Z = 0 := fun q => c2 (wi.mpr ⟨d1, q⟩)
            have t3 : (nI ((tw P i).2 &&& B) = nI B) = True := by rw [d1]; exact eq_true rfl
            simp (disch := omega) only [lit, nlt, nle, neq, nI_add, pk_mul, nm_u, bS, gd_d, oc_none, oc_some, rd_n, wr_n, if_pos, if_neg, ite_true, ite_false, not_true_eq_false, not_false_eq_true, g1, g2, g3, g4, h1, h2, h3, h4, ior, iand, shl_n, Nat.or_zero, hP.2.2.1, hoursAll_0 hP hfu hi2, c1, t3, d2]
          · simp (disch := omega) only [lit, nlt, nle, neq, nI_add, pk_mul, nm_u, bS, gd_d, oc_none, oc_some, rd_n, wr_n, if_pos, if_neg, ite_true, ite_false, not_true_eq_false, not_false_eq_true, g1, g2, g3, g4, h1, h2, h3, h4, ior, iand, shl_n, Nat.or_zero, hP.2.2.1, hoursAll_0 hP hfu hi2, c1, d1]
        rw [q1, q2]
        exact go
    · have q1 : f4_countWhose_17 fu (f1 + 1) (nI B) (nI (B ||| Z)) (nI c) (nI W) (nI i) MC = f4_countWhose_17 fu f1 (nI B) (nI (B ||| Z)) (nI c) (nI W) (nI (i + 1)) MC := by
        rw [f4_countWhose_17]
        unfold f2_all
        simp (disch := omega) only [lit, nlt, nle, neq, nI_add, pk_mul, nm_u, bS, gd_d, oc_none, oc_some, rd_n, wr_n, if_pos, if_neg, ite_true, ite_false, not_true_eq_false, not_false_eq_true, g1, g2, g3, g4, h1, h2, h3, h4, ior, iand, shl_n, Nat.or_zero, hP.2.1, all2, hsw, c1]
      have q2 : f5_whose_160 fu (f2 + 1) (nI B) (nI Z) (nI sw) (nI c) X (nI i) MM = f5_whose_160 fu f2 (nI B) (nI Z) (nI sw) (nI c) X (nI (i + 1)) MM := by
        rw [f5_whose_160]
        simp (disch := omega) only [lit, nlt, nle, neq, nI_add, pk_mul, nm_u, bS, gd_d, oc_none, oc_some, rd_n, wr_n, if_pos, if_neg, ite_true, ite_false, not_true_eq_false, not_false_eq_true, g1, g2, g3, g4, h1, h2, h3, h4, ior, iand, shl_n, Nat.or_zero, hP.2.2.1, hoursAll_0 hP hfu hi2, c1]
      rw [q1, q2]
      exact go
theorem s_whose {fu : Nat} (hfu : 10000 ≤ fu) : Sim_whose fu Rel := by
  intro MC MM a0 hR
  obtain ⟨P, s, hP, hg, hs, hp⟩ := hR.nw
  have h8 := hP.1
  have h256 := pow8 h8
  rcases tri a0 6 (by omega) with h | ⟨r, hr6, rfl⟩
  · refine ⟨-1, MC, MM, ?_, ?_, hR⟩
    · unfold f4_whose
      rw [rowAt_out h]
      rfl
    · unfold f5_whose
      rw [isRow_out h]
      simp (disch := omega) only [lit, nlt, nle, neq, nI_add, pk_mul, nm_u, bS, gd_d, oc_none, oc_some, rd_n, wr_n, if_pos, if_neg, ite_true, ite_false, not_true_eq_false, not_false_eq_true, g1, g2, g3, g4, h1, h2, h3, h4]
  have gk : gd (decide (r < 10)) = some () := by
    have : r < 10 := by omega
    simp [gd, this]
  by_cases hn : P.1 = 0
  · refine ⟨-4, MC, MM, ?_, ?_, hR⟩
    · unfold f4_whose
      rw [rowAt_in hr6]
      simp (disch := omega) only [lit, nlt, nle, neq, nI_add, pk_mul, nm_u, bS, gd_d, oc_none, oc_some, rd_n, wr_n, if_pos, if_neg, ite_true, ite_false, not_true_eq_false, not_false_eq_true, g1, g2, g3, g4, h1, h2, h3, h4, hP.2.1]
    · unfold f5_whose
      rw [isRow_in hr6]
      simp (disch := omega) only [lit, nlt, nle, neq, nI_add, pk_mul, nm_u, bS, gd_d, oc_none, oc_some, rd_n, wr_n, if_pos, if_neg, ite_true, ite_false, not_true_eq_false, not_false_eq_true, g1, g2, g3, g4, h1, h2, h3, h4, kq9, hP.2.2.1]
  rcases hR.rowc hr6 with ⟨e1, e2⟩ | ⟨K, hK, e1, e2, e3⟩
  · refine ⟨-3, _, _, ?_, ?_, hR.find (f := 1) (by omega)⟩
    · unfold f4_whose
      rw [rowAt_in hr6]
      simp (disch := omega) only [lit, nlt, nle, neq, nI_add, pk_mul, nm_u, bS, gd_d, oc_none, oc_some, rd_n, wr_n, if_pos, if_neg, ite_true, ite_false, not_true_eq_false, not_false_eq_true, g1, g2, g3, g4, h1, h2, h3, h4, hP.2.1, gk, isM_m (M := MC) (p := r) (by omega) e1, kq9, find_s]
    · unfold f5_whose
      rw [isRow_in hr6]
      simp (disch := omega) only [lit, nlt, nle, neq, nI_add, pk_mul, nm_u, bS, gd_d, oc_none, oc_some, rd_n, wr_n, if_pos, if_neg, ite_true, ite_false, not_true_eq_false, not_false_eq_true, g1, g2, g3, g4, h1, h2, h3, h4, kq9, hP.2.2.1, e2, m1_le, found_s]
  have hm := isM_k (M := MC) (p := r) (by omega) e1 (by omega)
  by_cases k13 : K = 13
  · subst k13
    have p1 := places_c (fu := fu) (v := nI 1) hfu hr6 e1
    have p0 := places_c (fu := fu) (v := nI 0) hfu hr6 e1
    have p9 := places_c (fu := fu) (v := -nI 9) hfu hr6 e1
    have cv := cover (w := fun i => MC.1 (r + 10) i)
    have hwm : ∀ i, i < 13 → MM.1 1 (40 * r + i) = MC.1 (r + 10) i := fun i hi => (e3 i hi).symm
    have b1 := msk_lt 13 (fun i => MC.1 (r + 10) i == nI 1)
    have b0 := msk_lt 13 (fun i => MC.1 (r + 10) i == nI 0)
    have b9 := msk_lt 13 (fun i => MC.1 (r + 10) i == -nI 9)
    have ball := Nat.or_lt_two_pow (Nat.or_lt_two_pow b1 b0) b9
    by_cases ok : ∀ j, j < 13 → okw (MC.1 (r + 10) j)
    · have c1 := cv.mpr ok
      have t8 : (nI ((msk 13 (fun i => MC.1 (r + 10) i == nI 1) ||| msk 13 (fun i => MC.1 (r + 10) i == nI 0)) ||| msk 13 (fun i => MC.1 (r + 10) i == -nI 9)) = nI 8191) = True := by rw [c1]; exact eq_true rfl
      have th2 := those_m (fu := fu) (w := -nI 2) hfu h8 hP.2.2.1 hs (by decide)
      have hA := who_A (fu := fu) (w := fun i => MC.1 (r + 10) i) hr6 hwm ok th2 13 0 fu (by omega) (by omega)
      have hBZ : msk 13 (fun i => MC.1 (r + 10) i == nI 1) &&& msk 13 (fun i => MC.1 (r + 10) i == nI 0) = 0 := by
        apply Nat.eq_of_testBit_eq
        intro j
        rw [Nat.testBit_and, msk_tb, msk_tb, Nat.zero_testBit]
        by_cases c : MC.1 (r + 10) j = nI 1
        · have : (MC.1 (r + 10) j == nI 0) = false := by rw [c]; decide
          rw [this]; simp
        · have : (MC.1 (r + 10) j == nI 1) = false := by simp [c]
          rw [this]; simp
      have L := who_l (fu := fu) hfu hP hp.2.2.1 (msk_256 h8 (fun k => s (k + 1) == -nI 2)) hBZ b1 b0 (2 ^ P.1) 0 fu fu 0 0 (-nI 9) (by omega) (by omega) (by omega) (by omega) (by omega) (Or.inl ⟨rfl, rfl⟩)
      have z1 : ∀ q : Nat → Bool, nI (msk 0 q) = nI 0 := fun q => rfl
      rw [z1, z1] at hA
      have cls : ∀ X, f4_countWhose_17 fu fu (nI (msk 13 (fun i => MC.1 (r + 10) i == nI 1))) (nI (msk 13 (fun i => MC.1 (r + 10) i == nI 1) ||| msk 13 (fun i => MC.1 (r + 10) i == nI 0))) (nI 0) (nI 0) (nI 0) MC = some X → f4_whose fu (nI r) MC = some X := by
        intro X hX
        unfold f4_whose f4_countWhose
        rw [rowAt_in hr6]
        simp (disch := omega) only [lit, nlt, nle, neq, nI_add, pk_mul, nm_u, bS, gd_d, oc_none, oc_some, rd_n, wr_n, if_pos, if_neg, ite_true, ite_false, not_true_eq_false, not_false_eq_true, g1, g2, g3, g4, h1, h2, h3, h4, ior, iand, shl_n, Nat.or_zero, hP.2.1, gk, hm, e1, p1, p0, p9, t8, hX]
      have mdl : ∀ X, f5_whose_160 fu fu (nI (msk 13 (fun i => MC.1 (r + 10) i == nI 1))) (nI (msk 13 (fun i => MC.1 (r + 10) i == nI 0))) (nI (msk P.1 (fun k => s (k + 1) == -nI 2))) (nI 0) (-nI 9) (nI 0) MM = some X → f5_whose fu (nI r) MM = some X := by
        intro X hX
        unfold f5_whose
        rw [isRow_in hr6]
        simp (disch := omega) only [lit, nlt, nle, neq, nI_add, pk_mul, nm_u, bS, gd_d, oc_none, oc_some, rd_n, wr_n, if_pos, if_neg, ite_true, ite_false, not_true_eq_false, not_false_eq_true, g1, g2, g3, g4, h1, h2, h3, h4, ior, iand, shl_n, Nat.or_zero, kq9, hP.2.2.1, e2]
        rw [hA]
        exact hX
      rcases L with ⟨L1, L2⟩ | ⟨V, C, L1, L2⟩
      · exact ⟨-nI 9, MC, MM, cls _ L1, mdl _ L2, hR⟩
      · exact ⟨nI C, _, _, cls _ L1, mdl _ L2, hR.tell (nI V)⟩
    · have c1 : ¬ ((msk 13 (fun i => MC.1 (r + 10) i == nI 1) ||| msk 13 (fun i => MC.1 (r + 10) i == nI 0)) ||| msk 13 (fun i => MC.1 (r + 10) i == -nI 9)) = 8191 := fun q => ok (cv.mp q)
      have hB := fun x y => who_B (fu := fu) (w := fun i => MC.1 (r + 10) i) hr6 hwm 13 0 fu x y (by omega) (by omega) (Classical.byContradiction (fun q => ok (fun j hj => Classical.byContradiction (fun q2 => q ⟨j, by omega, hj, q2⟩))))
      have t8 : (nI ((msk 13 (fun i => MC.1 (r + 10) i == nI 1) ||| msk 13 (fun i => MC.1 (r + 10) i == nI 0)) ||| msk 13 (fun i => MC.1 (r + 10) i == -nI 9)) = nI 8191) = False := by
        rw [neq (by omega) (by omega)]
        exact eq_false c1
      refine ⟨-3, _, _, ?_, ?_, hR.find (f := 3) (by omega)⟩
      · unfold f4_whose
        rw [rowAt_in hr6]
        simp (disch := omega) only [lit, nlt, nle, neq, nI_add, pk_mul, nm_u, bS, gd_d, oc_none, oc_some, rd_n, wr_n, if_pos, if_neg, ite_true, ite_false, not_true_eq_false, not_false_eq_true, g1, g2, g3, g4, h1, h2, h3, h4, ior, iand, shl_n, Nat.or_zero, hP.2.1, gk, hm, e1, p1, p0, p9, t8, find_s]
      · unfold f5_whose
        rw [isRow_in hr6]
        simp (disch := omega) only [lit, nlt, nle, neq, nI_add, pk_mul, nm_u, bS, gd_d, oc_none, oc_some, rd_n, wr_n, if_pos, if_neg, ite_true, ite_false, not_true_eq_false, not_false_eq_true, g1, g2, g3, g4, h1, h2, h3, h4, ior, iand, shl_n, Nat.or_zero, kq9, hP.2.2.1, e2, hB]
  · refine ⟨-3, _, _, ?_, ?_, hR.find (f := 5) (by omega)⟩
    · unfold f4_whose
      rw [rowAt_in hr6]
      simp (disch := omega) only [lit, nlt, nle, neq, nI_add, pk_mul, nm_u, bS, gd_d, oc_none, oc_some, rd_n, wr_n, if_pos, if_neg, ite_true, ite_false, not_true_eq_false, not_false_eq_true, g1, g2, g3, g4, h1, h2, h3, h4, hP.2.1, gk, hm, e1, find_s]
    · unfold f5_whose
      rw [isRow_in hr6]
      simp (disch := omega) only [lit, nlt, nle, neq, nI_add, pk_mul, nm_u, bS, gd_d, oc_none, oc_some, rd_n, wr_n, if_pos, if_neg, ite_true, ite_false, not_true_eq_false, not_false_eq_true, g1, g2, g3, g4, h1, h2, h3, h4, kq9, hP.2.2.1, e2, found_s]
