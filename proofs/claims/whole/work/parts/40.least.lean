/-! 40: least -/
theorem sub_t {i S : Nat} (h : i &&& S = i) : (nI (i ^^^ (i &&& S)) = nI 0) = True := by
  rw [h, Nat.xor_self]
  exact eq_true rfl
theorem xa_lt {i S n : Nat} (hi : i < 2 ^ n) : i ^^^ (i &&& S) < 2 ^ n := Nat.xor_lt_two_pow hi (Nat.lt_of_le_of_lt Nat.and_le_left hi)
theorem sub_f {i S : Nat} (hi : i < 256) (h : ¬ i &&& S = i) : (nI (i ^^^ (i &&& S)) = nI 0) = False := by
  apply eq_false
  intro e
  have hx : i ^^^ (i &&& S) < 2 ^ 8 := xa_lt hi
  rw [neq (by omega) (by omega)] at e
  apply h
  apply Nat.eq_of_testBit_eq
  intro j
  have q := congrArg (fun x => x.testBit j) e
  simp only [Nat.testBit_xor, Nat.testBit_and, Nat.zero_testBit] at q ⊢
  revert q
  cases i.testBit j <;> cases S.testBit j <;> simp
theorem pcn_le {S : Nat} (h : S < 256) : pcn S ≤ 8 := by
  have : ∀ S, S < 256 → pcn S ≤ 8 := by decide +kernel
  exact this S h
theorem apt_0 {P : PD} : apt P 0 = true := by
  unfold apt
  rw [tw_n (n := 0) (by decide) (by decide)]
  rfl
section LS
variable {P : PD} {MC MM : Mem} {fu S : Nat}
theorem lst_t (hfu : 10000 ≤ fu) (hP : GP P MC MM) (hS : S < 2 ^ P.1) : ∀ (e i f V : Nat), i + e = 2 ^ P.1 → e < f → S < i → V < 256 → f5_least_11 fu f (nI S) (nI V) (nI i) MM = some (sI MM 0 4 (nI V), nI (pcn V)) := by
  have h8 := hP.1
  have h256 := pow8 h8
  intro e
  induction e with
  | zero =>
    intro i f V h hf hi hV
    rcases f with _ | f
    · omega
    have : i = 2 ^ P.1 := by omega
    subst this
    rw [f5_least_11]
    unfold f5_answer
    simp (disch := omega) only [lit, nlt, nle, neq, nI_add, pk_mul, nm_u, bS, gd_d, oc_none, oc_some, rd_n, wr_n, if_pos, if_neg, ite_true, ite_false, not_true_eq_false, not_false_eq_true, g1, g2, g3, g4, h1, h2, h3, h4, ior, iand, shl_n, Nat.or_zero, hP.2.2.1, bits_m hfu]
  | succ e ih =>
    intro i f V h hf hi hV
    rcases f with _ | f
    · omega
    have ns : ¬ i &&& S = i := fun q => by
      have := Nat.and_le_right (n := i) (m := S)
      omega
    rw [f5_least_11]
    simp (disch := omega) only [lit, nlt, nle, neq, nI_add, pk_mul, nm_u, bS, gd_d, oc_none, oc_some, rd_n, wr_n, if_pos, if_neg, ite_true, ite_false, not_true_eq_false, not_false_eq_true, g1, g2, g3, g4, h1, h2, h3, h4, ior, iand, shl_n, Nat.or_zero, hP.2.2.1, andnot, sub_f (show i < 256 by omega) ns]
    exact ih (i + 1) f V (by omega) (by omega) (by omega) hV
theorem lst_l (hfu : 10000 ≤ fu) (hP : GP P MC MM) (hh : MC.1 33 3 = nI S) (hS : S < 2 ^ P.1) : ∀ (e i f1 f2 F W : Nat) (X : Int32), i + e = S + 1 → e < f1 → e + 257 < f2 → ((F = 9 ∧ W = 0 ∧ X = -nI 9 ∧ i ≤ S) ∨ (W < 256 ∧ F = pcn W ∧ X = nI W)) → ∃ V, V < 256 ∧ f4_least_16 fu f1 (nI F) (nI W) (nI i) MC = some (sI MC 28 6 (nI V), nI (pcn V)) ∧ f5_least_11 fu f2 (nI S) X (nI i) MM = some (sI MM 0 4 (nI V), nI (pcn V)) := by
  have h8 := hP.1
  have h256 := pow8 h8
  intro e
  induction e with
  | zero =>
    intro i f1 f2 F W X h hf1 hf2 hX
    rcases f1 with _ | f1
    · omega
    rcases hX with ⟨-, -, -, q⟩ | ⟨hW, rfl, rfl⟩
    · omega
    refine ⟨W, hW, ?_, lst_t hfu hP hS (2 ^ P.1 - i) i f2 W (by omega) (by omega) (by omega) hW⟩
    rw [f4_least_16]
    simp (disch := omega) only [lit, nlt, nle, neq, nI_add, pk_mul, nm_u, bS, gd_d, oc_none, oc_some, rd_n, wr_n, if_pos, if_neg, ite_true, ite_false, not_true_eq_false, not_false_eq_true, g1, g2, g3, g4, h1, h2, h3, h4, ior, iand, shl_n, Nat.or_zero, hh]
  | succ e ih =>
    intro i f1 f2 F W X h hf1 hf2 hX
    rcases f1 with _ | f1
    · omega
    rcases f2 with _ | f2
    · omega
    have hi : i < 256 := by omega
    have hpi := pcn_le hi
    by_cases c : i &&& S = i
    · have hT : S ^^^ (S &&& i) < 2 ^ P.1 := xa_lt hS
      cases b : apt P (S ^^^ (S &&& i))
      · have hX' : (F = 9 ∧ W = 0 ∧ X = -nI 9 ∧ i + 1 ≤ S) ∨ (W < 256 ∧ F = pcn W ∧ X = nI W) := by
          rcases hX with ⟨a1, a2, a3, a4⟩ | q
          · refine Or.inl ⟨a1, a2, a3, ?_⟩
            by_cases q : i = S
            · rw [q, Nat.and_self, Nat.xor_self, apt_0] at b
              cases b
            · omega
          · exact Or.inr q
        obtain ⟨V, v1, v2, v3⟩ := ih (i + 1) f1 f2 F W X (by omega) (by omega) (by omega) hX'
        have ap0 := apart_c hP hT
        have cl0 := clash_m hP hfu hT
        rw [b] at ap0 cl0
        rw [if_neg (by decide)] at ap0 cl0
        refine ⟨V, v1, ?_, ?_⟩
        · rw [f4_least_16]
          unfold f4_least_48
          simp (disch := omega) only [lit, nlt, nle, neq, nI_add, pk_mul, nm_u, bS, gd_d, oc_none, oc_some, rd_n, wr_n, if_pos, if_neg, ite_true, ite_false, not_true_eq_false, not_false_eq_true, g1, g2, g3, g4, h1, h2, h3, h4, ior, iand, shl_n, Nat.or_zero, hh, andnot, sub_t c, kq9, ap0]
          exact v2
        · rw [f5_least_11]
          unfold f5_least_46
          rcases hX with ⟨-, -, rfl, -⟩ | ⟨hW, -, rfl⟩
          · simp (disch := omega) only [lit, nlt, nle, neq, nI_add, pk_mul, nm_u, bS, gd_d, oc_none, oc_some, rd_n, wr_n, if_pos, if_neg, ite_true, ite_false, not_true_eq_false, not_false_eq_true, g1, g2, g3, g4, h1, h2, h3, h4, ior, iand, shl_n, Nat.or_zero, hP.2.2.1, andnot, sub_t c, cl0, kq9]
            exact v3
          · have hpW := pcn_le hW
            simp (disch := omega) only [lit, nlt, nle, neq, nI_add, pk_mul, nm_u, bS, gd_d, oc_none, oc_some, rd_n, wr_n, if_pos, if_neg, ite_true, ite_false, not_true_eq_false, not_false_eq_true, g1, g2, g3, g4, h1, h2, h3, h4, ior, iand, shl_n, Nat.or_zero, hP.2.2.1, andnot, sub_t c, np9 hW, bits_m hfu, cl0, kq9]
            split
            · exact v3
            · exact v3
      · have ap0 := apart_c hP hT
        have cl0 := clash_m hP hfu hT
        rw [b] at ap0 cl0
        rw [if_pos rfl] at ap0 cl0
        by_cases q : F ≤ pcn i
        · rcases hX with ⟨a1, a2, a3, a4⟩ | ⟨hW, rfl, rfl⟩
          · omega
          obtain ⟨V, v1, v2, v3⟩ := ih (i + 1) f1 f2 (pcn W) W (nI W) (by omega) (by omega) (by omega) (Or.inr ⟨hW, rfl, rfl⟩)
          have hpW := pcn_le hW
          refine ⟨V, v1, ?_, ?_⟩
          · rw [f4_least_16]
            unfold f4_least_48
            simp (disch := omega) only [lit, nlt, nle, neq, nI_add, pk_mul, nm_u, bS, gd_d, oc_none, oc_some, rd_n, wr_n, if_pos, if_neg, ite_true, ite_false, not_true_eq_false, not_false_eq_true, g1, g2, g3, g4, h1, h2, h3, h4, ior, iand, shl_n, Nat.or_zero, hh, andnot, sub_t c, kq9, ap0, bitC]
            exact v2
          · rw [f5_least_11]
            simp (disch := omega) only [lit, nlt, nle, neq, nI_add, pk_mul, nm_u, bS, gd_d, oc_none, oc_some, rd_n, wr_n, if_pos, if_neg, ite_true, ite_false, not_true_eq_false, not_false_eq_true, g1, g2, g3, g4, h1, h2, h3, h4, ior, iand, shl_n, Nat.or_zero, hP.2.2.1, andnot, sub_t c, np9 hW, bits_m hfu]
            exact v3
        · obtain ⟨V, v1, v2, v3⟩ := ih (i + 1) f1 f2 (pcn i) i (nI i) (by omega) (by omega) (by omega) (Or.inr ⟨hi, rfl, rfl⟩)
          refine ⟨V, v1, ?_, ?_⟩
          · have hF : F ≤ 9 := by
              rcases hX with ⟨a1, -⟩ | ⟨hW, a1, -⟩
              · omega
              · have := pcn_le hW
                omega
            rw [f4_least_16]
            unfold f4_least_48
            simp (disch := omega) only [lit, nlt, nle, neq, nI_add, pk_mul, nm_u, bS, gd_d, oc_none, oc_some, rd_n, wr_n, if_pos, if_neg, ite_true, ite_false, not_true_eq_false, not_false_eq_true, g1, g2, g3, g4, h1, h2, h3, h4, ior, iand, shl_n, Nat.or_zero, hh, andnot, sub_t c, kq9, ap0, bitC]
            exact v2
          · rw [f5_least_11]
            unfold f5_least_46
            rcases hX with ⟨-, -, rfl, -⟩ | ⟨hW, rfl, rfl⟩
            · simp (disch := omega) only [lit, nlt, nle, neq, nI_add, pk_mul, nm_u, bS, gd_d, oc_none, oc_some, rd_n, wr_n, if_pos, if_neg, ite_true, ite_false, not_true_eq_false, not_false_eq_true, g1, g2, g3, g4, h1, h2, h3, h4, ior, iand, shl_n, Nat.or_zero, hP.2.2.1, andnot, sub_t c, cl0]
              exact v3
            · have hpW := pcn_le hW
              simp (disch := omega) only [lit, nlt, nle, neq, nI_add, pk_mul, nm_u, bS, gd_d, oc_none, oc_some, rd_n, wr_n, if_pos, if_neg, ite_true, ite_false, not_true_eq_false, not_false_eq_true, g1, g2, g3, g4, h1, h2, h3, h4, ior, iand, shl_n, Nat.or_zero, hP.2.2.1, andnot, sub_t c, np9 hW, bits_m hfu, cl0]
              exact v3
    · have hX' : (F = 9 ∧ W = 0 ∧ X = -nI 9 ∧ i + 1 ≤ S) ∨ (W < 256 ∧ F = pcn W ∧ X = nI W) := by
        rcases hX with ⟨a1, a2, a3, a4⟩ | q
        · refine Or.inl ⟨a1, a2, a3, ?_⟩
          by_cases q : i = S
          · rw [q, Nat.and_self] at c
            exact absurd rfl c
          · omega
        · exact Or.inr q
      obtain ⟨V, v1, v2, v3⟩ := ih (i + 1) f1 f2 F W X (by omega) (by omega) (by omega) hX'
      refine ⟨V, v1, ?_, ?_⟩
      · rw [f4_least_16]
        unfold f4_least_48
        simp (disch := omega) only [lit, nlt, nle, neq, nI_add, pk_mul, nm_u, bS, gd_d, oc_none, oc_some, rd_n, wr_n, if_pos, if_neg, ite_true, ite_false, not_true_eq_false, not_false_eq_true, g1, g2, g3, g4, h1, h2, h3, h4, ior, iand, shl_n, Nat.or_zero, hh, andnot, sub_f hi c]
        exact v2
      · rw [f5_least_11]
        simp (disch := omega) only [lit, nlt, nle, neq, nI_add, pk_mul, nm_u, bS, gd_d, oc_none, oc_some, rd_n, wr_n, if_pos, if_neg, ite_true, ite_false, not_true_eq_false, not_false_eq_true, g1, g2, g3, g4, h1, h2, h3, h4, ior, iand, shl_n, Nat.or_zero, hP.2.2.1, andnot, sub_f hi c]
        exact v3
end LS
theorem s_least {fu : Nat} (hfu : 10000 ≤ fu) : Sim_least fu Rel := by
  intro MC MM hR
  obtain ⟨P, s, hP, hg, hs, hp⟩ := hR.nw
  have h8 := hP.1
  have h256 := pow8 h8
  have hlt := msk_lt P.1 (fun k => s (k + 1) == -nI 1)
  have e := those_m (w := -nI 1) hfu h8 hP.2.2.1 hs (by decide)
  obtain ⟨V, v1, v2, v3⟩ := lst_l (fu := fu) hfu hP hp.2.1 hlt (msk P.1 (fun k => s (k + 1) == -nI 1) + 1) 0 fu fu 9 0 (-nI 9) (by omega) (by omega) (by omega) (Or.inl ⟨rfl, rfl, rfl, by omega⟩)
  refine ⟨nI (pcn V), _, _, ?_, ?_, hR.tell (nI V)⟩
  · unfold f4_least
    exact v2
  · unfold f5_least
    simp (disch := omega) only [lit, nlt, nle, neq, nI_add, pk_mul, nm_u, bS, gd_d, oc_none, oc_some, rd_n, wr_n, if_pos, if_neg, ite_true, ite_false, not_true_eq_false, not_false_eq_true, g1, g2, g3, g4, h1, h2, h3, h4, e]
    exact v3
