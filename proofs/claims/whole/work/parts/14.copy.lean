/-! 14: copy -/
theorem bm32 {z : Int} (h1 : -2147483648 ≤ z) (h2 : z < 2147483648) : z.bmod 4294967296 = z := by
  rw [Int.bmod_def]
  split <;> omega
theorem run_c {I N k : Nat} (hI : I < 2147483648) (hN : N < 2147483648) (hk : k ≤ 60) : (nI k - nI N < nI I) = (k < I + N) := by
  apply propext
  rw [Int32.lt_iff_toInt_lt, Int32.toInt_sub, nI_toInt (by omega), nI_toInt (by omega), nI_toInt (by omega), bm32 (by omega) (by omega)]
  omega
theorem bm64 {z : Int} (h1 : -9223372036854775808 ≤ z) (h2 : z < 9223372036854775808) : z.bmod 18446744073709551616 = z := by
  rw [Int.bmod_def]
  split <;> omega
theorem add64 {I N : Nat} (hI : I < 2147483648) (hN : N < 2147483648) : ((nI I).toInt64 + (nI N).toInt64).toInt = (I : Int) + N := by
  rw [Int64.toInt_add, Int32.toInt_toInt64, Int32.toInt_toInt64, nI_toInt (by omega), nI_toInt (by omega), bm64 (by omega) (by omega)]
theorem run_m {I N k : Nat} (hI : I < 2147483648) (hN : N < 2147483648) (hk : k ≤ 60) : (nI 0 < lg_cmp ((nI I).toInt64 + (nI N).toInt64) (nI k).toInt64) = (k < I + N) := by
  apply propext
  rw [nI_0, lg_cmp_gt, Int64.lt_iff_toInt_lt, add64 hI hN, Int32.toInt_toInt64, nI_toInt (by omega)]
  omega
theorem run_m2 {I N k : Nat} (hI : I < 2147483648) (hN : N < 2147483648) (hk : k ≤ 60) : (lg_cmp ((nI I).toInt64 + (nI N).toInt64) (nI k).toInt64 ≤ nI 0) = (I + N ≤ k) := by
  apply propext
  rw [nI_0, lg_cmp_le, Int64.le_iff_toInt_le, add64 hI hN, Int32.toInt_toInt64, nI_toInt (by omega)]
  omega
theorem cpy_n {M : Mem} {p0 p1 I J N : Nat} (h1 : I + N ≤ 60) (h2 : J + N ≤ 60) : cpy M p0 60 (nI I) p1 60 (nI J) (nI N) = some (sF M p1 (va_cpy (M.1 p0) (M.1 p1) I J N)) := by
  have a1 := nI_clamp (n := I) (by omega)
  have a2 := nI_clamp (n := J) (by omega)
  have a3 := nI_clamp (n := N) (by omega)
  have b1 : ¬ nI I < 0 := nI_pos (by omega)
  have b2 : ¬ nI J < 0 := nI_pos (by omega)
  have b3 : ¬ nI N < 0 := nI_pos (by omega)
  unfold cpy
  rw [a1, a2, a3, if_neg]
  rintro (h | h | h | h | h)
  · exact b1 h
  · exact b2 h
  · exact b3 h
  · omega
  · omega
theorem sI_sF {M : Mem} {p i : Nat} {v : Int32} {f : Nat → Int32} : sI (sF M p f) p i v = sF M p (upd f i v) := by
  unfold sF sI
  congr 1
  funext q
  by_cases h : q = p
  · subst h; simp
  · simp [h]
/-- a row of numbers behind c steps of the copying -/
def cpst (g : Nat → Int32) (a b N I J c : Nat) : Nat → Int32 := fun x => if J ≤ I then (if b ≤ x ∧ x < b + c then g (a + (x - b)) else g x) else (if b + (N - c) ≤ x ∧ x < b + N then g (a + (x - b)) else g x)
theorem copy_l {fu r to I J N : Nat} {MM : Mem} (hr : r < 6) (ht : to < 6) (hI : I + N ≤ 40) (hJ : J + N ≤ 40) : ∀ (d c f : Nat), c + d = N → d < f → f5_copy_104 fu f (nI r) (nI I) (nI to) (nI J) (nI N) (nI c) (sF MM 1 (cpst (MM.1 1) (40 * r + I) (40 * to + J) N I J c)) = some (sF MM 1 (cpst (MM.1 1) (40 * r + I) (40 * to + J) N I J N), nI 1) := by
  intro d
  induction d with
  | zero =>
    intro c f h hf
    rcases f with _ | f
    · omega
    have : c = N := by omega
    subst this
    rw [f5_copy_104]
    simp (disch := omega) only [lit, nlt, nle, neq, nI_add, pk_mul, nm_u, bS, gd_d, oc_none, oc_some, rd_n, wr_n, if_pos, if_neg, ite_true, ite_false, not_true_eq_false, not_false_eq_true, g1, g2, g3, g4, h1, h2, h3, h4]
  | succ d ih =>
    intro c f h hf
    rcases f with _ | f
    · omega
    rw [f5_copy_104]
    by_cases hd : J ≤ I
    · simp (disch := omega) only [lit, nlt, nle, neq, nI_add, pk_mul, nm_u, bS, gd_d, oc_none, oc_some, rd_n, wr_n, if_pos, if_neg, ite_true, ite_false, not_true_eq_false, not_false_eq_true, g1, g2, g3, g4, h1, h2, h3, h4, f5_copy_129, hd, sF_1, sI_sF]
      rw [← ih (c + 1) f (by omega) (by omega)]
      congr 1
      apply sF_cg
      intro x
      unfold upd cpst
      rw [if_pos hd, if_pos hd, if_pos hd]
      by_cases e : x = 40 * to + J + c
      · subst e
        rw [if_pos rfl, if_neg (by omega), if_pos (by omega)]
        exact congrArg _ (by omega)
      · rw [if_neg e]
        by_cases q : 40 * to + J ≤ x ∧ x < 40 * to + J + c
        · rw [if_pos q, if_pos (by omega)]
        · rw [if_neg q, if_neg (by omega)]
    · have e0 : nI N - nI 1 - nI c = nI (N - 1 - c) := by rw [pk_sub (by omega), pk_sub (by omega)]
      simp (disch := omega) only [lit, nlt, nle, neq, nI_add, pk_mul, nm_u, bS, gd_d, oc_none, oc_some, rd_n, wr_n, if_pos, if_neg, ite_true, ite_false, not_true_eq_false, not_false_eq_true, g1, g2, g3, g4, h1, h2, h3, h4, f5_copy_129, hd, sF_1, sI_sF, e0]
      rw [← ih (c + 1) f (by omega) (by omega)]
      congr 1
      apply sF_cg
      intro x
      unfold upd cpst
      rw [if_neg hd, if_neg hd, if_neg hd]
      by_cases e : x = 40 * to + J + (N - 1 - c)
      · subst e
        rw [if_pos rfl, if_neg (by omega), if_pos (by omega)]
        exact congrArg _ (by omega)
      · rw [if_neg e]
        by_cases q : 40 * to + J + (N - c) ≤ x ∧ x < 40 * to + J + N
        · rw [if_pos q, if_pos (by omega)]
        · rw [if_neg q, if_neg (by omega)]
theorem neg_or {x : Int32} : x < nI 0 ∨ ∃ j : Nat, j < 2147483648 ∧ x = nI j := by
  by_cases h : x < nI 0
  · exact Or.inl h
  · obtain ⟨j, hj, e⟩ := nI_of h
    exact Or.inr ⟨j, by omega, e⟩
theorem isM_k {M : Mem} {p k : Nat} (hp : p < 10) (hs : M.1 p 0 = nI k) (hk : k ≤ 60) : f0_isMissing M p = some (nI 0) := by
  unfold f0_isMissing
  simp (disch := omega) only [lit, nlt, nle, neq, nI_add, pk_mul, nm_u, bS, gd_d, oc_none, oc_some, rd_n, wr_n, if_pos, if_neg, ite_true, ite_false, not_true_eq_false, not_false_eq_true, g1, g2, g3, g4, h1, h2, h3, h4, hs]
theorem isM_m {M : Mem} {p : Nat} (hp : p < 10) (hs : M.1 p 0 = -nI 1) : f0_isMissing M p = some (nI 1) := by
  unfold f0_isMissing
  simp (disch := omega) only [lit, nlt, nle, neq, nI_add, pk_mul, nm_u, bS, gd_d, oc_none, oc_some, rd_n, wr_n, if_pos, if_neg, ite_true, ite_false, not_true_eq_false, not_false_eq_true, g1, g2, g3, g4, h1, h2, h3, h4, hs, m1_le]
theorem run_neg {M : Mem} {p N : Nat} {x : Int32} (hp : p < 10) (h : x < nI 0) : f0_hasRun M p x (nI N) = some (nI 0) := by
  unfold f0_hasRun
  by_cases c : nI N < nI 0
  · simp (disch := omega) only [lit, nlt, nle, neq, nI_add, pk_mul, nm_u, bS, gd_d, oc_none, oc_some, rd_n, wr_n, if_pos, if_neg, ite_true, ite_false, not_true_eq_false, not_false_eq_true, g1, g2, g3, g4, h1, h2, h3, h4, c]
  · simp (disch := omega) only [lit, nlt, nle, neq, nI_add, pk_mul, nm_u, bS, gd_d, oc_none, oc_some, rd_n, wr_n, if_pos, if_neg, ite_true, ite_false, not_true_eq_false, not_false_eq_true, g1, g2, g3, g4, h1, h2, h3, h4, c, h]
theorem run_k {M : Mem} {p k I N : Nat} (hp : p < 10) (hs : M.1 p 0 = nI k) (hk : k ≤ 60) (hI : I < 2147483648) (hN : N < 2147483648) : f0_hasRun M p (nI I) (nI N) = some (if k < I + N then nI 0 else nI 1) := by
  unfold f0_hasRun
  simp (disch := omega) only [lit, nlt, nle, neq, nI_add, pk_mul, nm_u, bS, gd_d, oc_none, oc_some, rd_n, wr_n, if_pos, if_neg, ite_true, ite_false, not_true_eq_false, not_false_eq_true, g1, g2, g3, g4, h1, h2, h3, h4, hs, run_c hI hN hk]
  split <;> rfl
theorem s_copy {fu : Nat} (hfu : 10000 ≤ fu) : Sim_copy fu Rel := by
  intro MC MM a0 a1 a2 a3 a4 hR
  rcases tri a0 6 (by omega) with h | ⟨r, hr, rfl⟩
  · refine ⟨-1, MC, MM, ?_, ?_, hR⟩
    · unfold f4_copy
      rw [rowAt_out h]
      simp (disch := omega) only [lit, nlt, nle, neq, nI_add, pk_mul, nm_u, bS, gd_d, oc_none, oc_some, rd_n, wr_n, if_pos, if_neg, ite_true, ite_false, not_true_eq_false, not_false_eq_true, g1, g2, g3, g4, h1, h2, h3, h4]
      rcases tri a2 6 (by omega) with h | ⟨t, ht, rfl⟩
      · rw [rowAt_out h]; rfl
      · rw [rowAt_in ht]; rfl
    · unfold f5_copy
      rw [isRow_out h]
      simp (disch := omega) only [lit, nlt, nle, neq, nI_add, pk_mul, nm_u, bS, gd_d, oc_none, oc_some, rd_n, wr_n, if_pos, if_neg, ite_true, ite_false, not_true_eq_false, not_false_eq_true, g1, g2, g3, g4, h1, h2, h3, h4]
  rcases tri a2 6 (by omega) with h | ⟨t, ht, rfl⟩
  · refine ⟨-1, MC, MM, ?_, ?_, hR⟩
    · unfold f4_copy
      rw [rowAt_in hr]
      simp (disch := omega) only [lit, nlt, nle, neq, nI_add, pk_mul, nm_u, bS, gd_d, oc_none, oc_some, rd_n, wr_n, if_pos, if_neg, ite_true, ite_false, not_true_eq_false, not_false_eq_true, g1, g2, g3, g4, h1, h2, h3, h4]
      rw [rowAt_out h]; rfl
    · unfold f5_copy
      rw [isRow_in hr]
      simp (disch := omega) only [lit, nlt, nle, neq, nI_add, pk_mul, nm_u, bS, gd_d, oc_none, oc_some, rd_n, wr_n, if_pos, if_neg, ite_true, ite_false, not_true_eq_false, not_false_eq_true, g1, g2, g3, g4, h1, h2, h3, h4, isRow_out h]
  rcases neg_or (x := a4) with h | ⟨N, hN, rfl⟩
  · refine ⟨-3, _, _, ?_, ?_, hR.find (f := 5) (by omega)⟩
    · unfold f4_copy
      rw [rowAt_in hr]
      simp (disch := omega) only [lit, nlt, nle, neq, nI_add, pk_mul, nm_u, bS, gd_d, oc_none, oc_some, rd_n, wr_n, if_pos, if_neg, ite_true, ite_false, not_true_eq_false, not_false_eq_true, g1, g2, g3, g4, h1, h2, h3, h4, rowAt_in ht, lt0_nle h, find_s]
    · unfold f5_copy
      rw [isRow_in hr]
      simp (disch := omega) only [lit, nlt, nle, neq, nI_add, pk_mul, nm_u, bS, gd_d, oc_none, oc_some, rd_n, wr_n, if_pos, if_neg, ite_true, ite_false, not_true_eq_false, not_false_eq_true, g1, g2, g3, g4, h1, h2, h3, h4, isRow_in ht, lt0_nle h, found_s]
  rcases hR.rowc hr with ⟨e1, e2⟩ | ⟨k, hk, e1, e2, e3⟩
  · refine ⟨-3, _, _, ?_, ?_, hR.find (f := 1) (by omega)⟩
    · unfold f4_copy f4_copy_53
      rw [rowAt_in hr]
      simp (disch := omega) only [lit, nlt, nle, neq, nI_add, pk_mul, nm_u, bS, gd_d, oc_none, oc_some, rd_n, wr_n, if_pos, if_neg, ite_true, ite_false, not_true_eq_false, not_false_eq_true, g1, g2, g3, g4, h1, h2, h3, h4, rowAt_in ht, isM_m (by omega) e1, find_s]
    · unfold f5_copy f5_copy_45
      rw [isRow_in hr]
      simp (disch := omega) only [lit, nlt, nle, neq, nI_add, pk_mul, nm_u, bS, gd_d, oc_none, oc_some, rd_n, wr_n, if_pos, if_neg, ite_true, ite_false, not_true_eq_false, not_false_eq_true, g1, g2, g3, g4, h1, h2, h3, h4, isRow_in ht, e2, m1_lt, found_s]
  rcases hR.rowc ht with ⟨d1, d2⟩ | ⟨k2, hk2, d1, d2, d3⟩
  · refine ⟨-3, _, _, ?_, ?_, hR.find (f := 1) (by omega)⟩
    · unfold f4_copy f4_copy_53
      rw [rowAt_in hr]
      simp (disch := omega) only [lit, nlt, nle, neq, nI_add, pk_mul, nm_u, bS, gd_d, oc_none, oc_some, rd_n, wr_n, if_pos, if_neg, ite_true, ite_false, not_true_eq_false, not_false_eq_true, g1, g2, g3, g4, h1, h2, h3, h4, rowAt_in ht, isM_k (by omega) e1, isM_m (by omega) d1, find_s]
    · unfold f5_copy f5_copy_45
      rw [isRow_in hr]
      simp (disch := omega) only [lit, nlt, nle, neq, nI_add, pk_mul, nm_u, bS, gd_d, oc_none, oc_some, rd_n, wr_n, if_pos, if_neg, ite_true, ite_false, not_true_eq_false, not_false_eq_true, g1, g2, g3, g4, h1, h2, h3, h4, isRow_in ht, e2, d2, m1_le, found_s]
  have bad : ∀ (hc : f0_hasRun MC r a1 (nI N) = some (nI 0) ∨ (f0_hasRun MC r a1 (nI N) = some (nI 1) ∧ f0_hasRun MC t a3 (nI N) = some (nI 0))) (hm : f5_copy fu (nI r) a1 (nI t) a3 (nI N) MM = f5_copy_95 fu MM), ∃ (r_1 : Int32) (MC' MM' : Mem), f4_copy (nI r) a1 (nI t) a3 (nI N) MC = some (MC', r_1) ∧ f5_copy fu (nI r) a1 (nI t) a3 (nI N) MM = some (MM', r_1) ∧ Rel MC' MM' := by
    intro hc hm
    refine ⟨-3, _, _, ?_, ?_, hR.find (f := 2) (by omega)⟩
    · unfold f4_copy f4_copy_82
      rw [rowAt_in hr]
      rcases hc with hc | ⟨hc, hc2⟩
      · simp (disch := omega) only [lit, nlt, nle, neq, nI_add, pk_mul, nm_u, bS, gd_d, oc_none, oc_some, rd_n, wr_n, if_pos, if_neg, ite_true, ite_false, not_true_eq_false, not_false_eq_true, g1, g2, g3, g4, h1, h2, h3, h4, rowAt_in ht, isM_k (by omega) e1, isM_k (by omega) d1, hc, find_s]
      · simp (disch := omega) only [lit, nlt, nle, neq, nI_add, pk_mul, nm_u, bS, gd_d, oc_none, oc_some, rd_n, wr_n, if_pos, if_neg, ite_true, ite_false, not_true_eq_false, not_false_eq_true, g1, g2, g3, g4, h1, h2, h3, h4, rowAt_in ht, isM_k (by omega) e1, isM_k (by omega) d1, hc, hc2, find_s]
    · rw [hm]
      unfold f5_copy_95
      simp (disch := omega) only [lit, nlt, nle, neq, nI_add, pk_mul, nm_u, bS, gd_d, oc_none, oc_some, rd_n, wr_n, if_pos, if_neg, ite_true, ite_false, not_true_eq_false, not_false_eq_true, g1, g2, g3, g4, h1, h2, h3, h4, found_s]
  rcases neg_or (x := a1) with h | ⟨I, hI, rfl⟩
  · refine bad (Or.inl (run_neg (by omega) h)) ?_
    unfold f5_copy
    rw [isRow_in hr]
    simp (disch := omega) only [lit, nlt, nle, neq, nI_add, pk_mul, nm_u, bS, gd_d, oc_none, oc_some, rd_n, wr_n, if_pos, if_neg, ite_true, ite_false, not_true_eq_false, not_false_eq_true, g1, g2, g3, g4, h1, h2, h3, h4, isRow_in ht, e2, d2, h]
  rcases neg_or (x := a3) with h | ⟨J, hJ, rfl⟩
  · refine bad ?_ ?_
    · rw [run_k (by omega) e1 (by omega) hI hN, run_neg (by omega) h]
      by_cases c : k < I + N
      · rw [if_pos c]; exact Or.inl rfl
      · rw [if_neg c]; exact Or.inr ⟨rfl, rfl⟩
    · unfold f5_copy
      rw [isRow_in hr]
      simp (disch := omega) only [lit, nlt, nle, neq, nI_add, pk_mul, nm_u, bS, gd_d, oc_none, oc_some, rd_n, wr_n, if_pos, if_neg, ite_true, ite_false, not_true_eq_false, not_false_eq_true, g1, g2, g3, g4, h1, h2, h3, h4, isRow_in ht, e2, d2, h]
  by_cases c1 : k < I + N
  · refine bad (Or.inl (by rw [run_k (by omega) e1 (by omega) hI hN, if_pos c1])) ?_
    unfold f5_copy
    rw [isRow_in hr]
    simp (disch := omega) only [lit, nlt, nle, neq, nI_add, pk_mul, nm_u, bS, gd_d, oc_none, oc_some, rd_n, wr_n, if_pos, if_neg, ite_true, ite_false, not_true_eq_false, not_false_eq_true, g1, g2, g3, g4, h1, h2, h3, h4, isRow_in ht, e2, d2, run_m hI hN (k := k) (by omega)]
  by_cases c2 : k2 < J + N
  · refine bad (Or.inr ⟨by rw [run_k (by omega) e1 (by omega) hI hN, if_neg c1], by rw [run_k (by omega) d1 (by omega) hJ hN, if_pos c2]⟩) ?_
    unfold f5_copy
    rw [isRow_in hr]
    simp (disch := omega) only [lit, nlt, nle, neq, nI_add, pk_mul, nm_u, bS, gd_d, oc_none, oc_some, rd_n, wr_n, if_pos, if_neg, ite_true, ite_false, not_true_eq_false, not_false_eq_true, g1, g2, g3, g4, h1, h2, h3, h4, isRow_in ht, e2, d2, run_m hI hN (k := k) (by omega), run_m2 hJ hN (k := k2) (by omega)]
  refine ⟨1, sF MC (t + 10) (va_cpy (MC.1 (r + 10)) (MC.1 (t + 10)) I J N), sF MM 1 (cpst (MM.1 1) (40 * r + I) (40 * t + J) N I J N), ?_, ?_, ?_⟩
  · unfold f4_copy
    rw [rowAt_in hr]
    simp (disch := omega) only [lit, nlt, nle, neq, nI_add, pk_mul, nm_u, bS, gd_d, oc_none, oc_some, rd_n, wr_n, if_pos, if_neg, ite_true, ite_false, not_true_eq_false, not_false_eq_true, g1, g2, g3, g4, h1, h2, h3, h4, rowAt_in ht, isM_k (by omega) e1, isM_k (by omega) d1, run_k (M := MC) (p := r) (by omega) e1 (by omega) hI hN, run_k (M := MC) (p := t) (by omega) d1 (by omega) hJ hN, cpy_n]
  · unfold f5_copy
    rw [isRow_in hr]
    simp (disch := omega) only [lit, nlt, nle, neq, nI_add, pk_mul, nm_u, bS, gd_d, oc_none, oc_some, rd_n, wr_n, if_pos, if_neg, ite_true, ite_false, not_true_eq_false, not_false_eq_true, g1, g2, g3, g4, h1, h2, h3, h4, isRow_in ht, e2, d2, run_m hI hN (k := k) (by omega), run_m2 hJ hN (k := k2) (by omega)]
    have h0 : MM = sF MM 1 (cpst (MM.1 1) (40 * r + I) (40 * t + J) N I J 0) := by
      rw [sF_id]
      intro x
      unfold cpst
      by_cases q : J ≤ I
      · rw [if_pos q, if_neg (by omega)]
      · rw [if_neg q, if_neg (by omega)]
    have h1 := copy_l (fu := fu) (MM := MM) hr ht (by omega) (by omega) N 0 fu (by omega) (by omega) (I := I) (J := J) (N := N)
    rw [← h0] at h1
    exact h1
  · refine hR.row (fun q => ?_) rfl (fun q => ?_) rfl (fun hG => hG.upd ht (fun q _ h1 h2 => sF_q h2) (fun q h1 => by rw [sF_q (by omega)]) (fun q h1 => ?_) ?_)
    · by_cases c : q = t + 10
      · omega
      · exact Or.inr (Or.inr (sF_q c))
    · by_cases c : q = 1
      · exact Or.inl c
      · exact Or.inr (Or.inr (sF_q c))
    · rw [sF_1]
      unfold cpst
      by_cases q2 : J ≤ I
      · rw [if_pos q2, if_neg (by omega)]
      · rw [if_neg q2, if_neg (by omega)]
    · rw [sF_q (q := t) (by omega), sF_q (q := 2) (by omega)]
      refine ⟨by rw [d1, d2], Or.inr ⟨k2, hk2, d1, fun x hx => ?_⟩⟩
      show (sF MC (t + 10) _).1 (t + 10) x = (sF MM 1 _).1 1 (40 * t + x)
      rw [sF_1, sF_1]
      by_cases c : J ≤ x ∧ x < J + N
      · rw [pk_cpy_in c.1 c.2, e3 _ (by omega)]
        unfold cpst
        by_cases q2 : J ≤ I
        · rw [if_pos q2, if_pos (by omega)]; exact congrArg _ (by omega)
        · rw [if_neg q2, if_pos (by omega)]; exact congrArg _ (by omega)
      · rw [pk_cpy_out (by omega), d3 x hx]
        unfold cpst
        by_cases q2 : J ≤ I
        · rw [if_pos q2, if_neg (by omega)]
        · rw [if_neg q2, if_neg (by omega)]
