/-! 13: lay, at, tear, put, copy, mean, and what is told -/
theorem sI_comm {M : Mem} {p q i j : Nat} {v w : Int32} (h : p ≠ q) : sI (sI M p i v) q j w = sI (sI M q j w) p i v := by
  unfold sI
  congr 1
  funext x
  by_cases c : x = q
  · subst c
    have : x ≠ p := fun e => h e.symm
    simp [this]
  · by_cases d : x = p
    · subst d; simp [c]
    · simp [c, d]
theorem m1r : (-1 : Int32) = -nI 1 := rfl
theorem nz64 {k : Nat} (h : 0 < k) (hk : k < 2147483648) : ¬ (nI k).toInt64 = 0 := by
  intro e
  have := congrArg Int64.toInt e
  rw [Int32.toInt_toInt64, nI_toInt hk] at this
  have h0 : (0 : Int64).toInt = 0 := by decide
  omega
theorem dvL_n {x : Int64} {k : Nat} (h : 0 < k) (hk : k < 2147483648) : dvL x (nI k).toInt64 = some (x / (nI k).toInt64) := by
  unfold dvL
  rw [if_neg (nz64 h hk)]
section RF
variable {M : Mem} {p k : Nat}
theorem refM_m (hp : p < 10) (hs : M.1 p 0 = -nI 1) : f4_refuseMissing p M = some (sI (sI M 28 5 (nI 1)) 32 1 (M.1 32 1 + nI 1), -3) := by
  unfold f4_refuseMissing f0_isMissing
  simp (disch := omega) only [lit, nlt, nle, neq, nI_add, pk_mul, nm_u, bS, gd_d, oc_none, oc_some, rd_n, wr_n, if_pos, if_neg, ite_true, ite_false, not_true_eq_false, not_false_eq_true, g1, g2, g3, g4, h1, h2, h3, h4, hs, m1_le, find_s]
theorem refM_k (hp : p < 10) (hs : M.1 p 0 = nI k) (hk : k ≤ 60) : f4_refuseMissing p M = some (M, nI 0) := by
  unfold f4_refuseMissing f0_isMissing
  simp (disch := omega) only [lit, nlt, nle, neq, nI_add, pk_mul, nm_u, bS, gd_d, oc_none, oc_some, rd_n, wr_n, if_pos, if_neg, ite_true, ite_false, not_true_eq_false, not_false_eq_true, g1, g2, g3, g4, h1, h2, h3, h4, hs]
theorem hasCell_out {x : Int32} (hp : p < 10) (hs : M.1 p 0 = nI k) (h : outs x k) : f0_hasCell M p x = some (nI 0) := by
  unfold f0_hasCell
  rcases h with h | ⟨h0, h⟩
  · simp (disch := omega) only [lit, nlt, nle, neq, nI_add, pk_mul, nm_u, bS, gd_d, oc_none, oc_some, rd_n, wr_n, if_pos, if_neg, ite_true, ite_false, not_true_eq_false, not_false_eq_true, g1, g2, g3, g4, h1, h2, h3, h4, h]
  · simp (disch := omega) only [lit, nlt, nle, neq, nI_add, pk_mul, nm_u, bS, gd_d, oc_none, oc_some, rd_n, wr_n, if_pos, if_neg, ite_true, ite_false, not_true_eq_false, not_false_eq_true, g1, g2, g3, g4, h1, h2, h3, h4, hs, h0, h]
theorem hasCell_in {i : Nat} (hp : p < 10) (hs : M.1 p 0 = nI k) (hk : k ≤ 60) (hi : i < k) : f0_hasCell M p (nI i) = some (nI 1) := by
  unfold f0_hasCell
  simp (disch := omega) only [lit, nlt, nle, neq, nI_add, pk_mul, nm_u, bS, gd_d, oc_none, oc_some, rd_n, wr_n, if_pos, if_neg, ite_true, ite_false, not_true_eq_false, not_false_eq_true, g1, g2, g3, g4, h1, h2, h3, h4, hs]
theorem refP_m {x : Int32} (hp : p < 10) (hs : M.1 p 0 = -nI 1) : f4_refusePlace p x M = some (sI (sI M 28 5 (nI 1)) 32 1 (M.1 32 1 + nI 1), -3) := by
  unfold f4_refusePlace
  rw [refM_m hp hs]
  have : (-nI 3 = nI 0) = False := by decide
  simp (disch := omega) only [lit, nlt, nle, neq, nI_add, pk_mul, nm_u, bS, gd_d, oc_none, oc_some, rd_n, wr_n, if_pos, if_neg, ite_true, ite_false, not_true_eq_false, not_false_eq_true, g1, g2, g3, g4, h1, h2, h3, h4, this]
theorem refP_out {x : Int32} (hp : p < 10) (hs : M.1 p 0 = nI k) (hk : k ≤ 60) (h : outs x k) : f4_refusePlace p x M = some (sI (sI M 28 5 (nI 2)) 32 2 (M.1 32 2 + nI 1), -3) := by
  unfold f4_refusePlace
  rw [refM_k hp hs hk]
  simp (disch := omega) only [lit, nlt, nle, neq, nI_add, pk_mul, nm_u, bS, gd_d, oc_none, oc_some, rd_n, wr_n, if_pos, if_neg, ite_true, ite_false, not_true_eq_false, not_false_eq_true, g1, g2, g3, g4, h1, h2, h3, h4, hasCell_out hp hs h, find_s]
theorem refP_in {i : Nat} (hp : p < 10) (hs : M.1 p 0 = nI k) (hk : k ≤ 60) (hi : i < k) : f4_refusePlace p (nI i) M = some (M, nI 0) := by
  unfold f4_refusePlace
  rw [refM_k hp hs hk]
  simp (disch := omega) only [lit, nlt, nle, neq, nI_add, pk_mul, nm_u, bS, gd_d, oc_none, oc_some, rd_n, wr_n, if_pos, if_neg, ite_true, ite_false, not_true_eq_false, not_false_eq_true, g1, g2, g3, g4, h1, h2, h3, h4, hasCell_in hp hs hk hi]
theorem cellAt_in {i : Nat} (hp : p < 10) (hi : i < 60) : f0_cellAt M p (nI i) = some (M.1 (p + 10) i) := by
  unfold f0_cellAt
  simp (disch := omega) only [lit, nlt, nle, neq, nI_add, pk_mul, nm_u, bS, gd_d, oc_none, oc_some, rd_n, wr_n, if_pos, if_neg, ite_true, ite_false, not_true_eq_false, not_false_eq_true, g1, g2, g3, g4, h1, h2, h3, h4]
theorem setCell_in {i : Nat} {v : Int32} (hp : p < 10) (hi : i < 60) : f0_setCell p (nI i) v M = some (sI M (p + 10) i v) := by
  unfold f0_setCell
  simp (disch := omega) only [lit, nlt, nle, neq, nI_add, pk_mul, nm_u, bS, gd_d, oc_none, oc_some, rd_n, wr_n, if_pos, if_neg, ite_true, ite_false, not_true_eq_false, not_false_eq_true, g1, g2, g3, g4, h1, h2, h3, h4]
end RF
theorem m3_eq : (-nI 3 = nI 0) = False := by decide
section RR
variable {MC MM : Mem}
/-- a row: missing on both sides, or of one size -/
theorem Rel.rowc (h : Rel MC MM) {r : Nat} (hr : r < 6) : (MC.1 r 0 = -nI 1 ∧ MM.1 2 r = -nI 1) ∨ ∃ k : Nat, k ≤ 40 ∧ MC.1 r 0 = nI k ∧ MM.1 2 r = nI k ∧ ∀ i, i < k → MC.1 (r + 10) i = MM.1 1 (40 * r + i) := by
  obtain ⟨P, hA, hG, hT, hP, hD, hK⟩ := h
  obtain ⟨a, b⟩ := hG r hr
  rcases b with b | ⟨k, hk, b, c⟩
  · exact Or.inl ⟨b, by rw [← a]; exact b⟩
  · exact Or.inr ⟨k, hk, b, by rw [← a]; exact b, c⟩
theorem Rel.textc (h : Rel MC MM) {t : Nat} (ht : t < 4) : (MC.1 (t + 6) 0 = -nI 1 ∧ MM.1 4 t = -nI 1) ∨ ∃ k : Nat, k ≤ 60 ∧ MC.1 (t + 6) 0 = nI k ∧ MM.1 4 t = nI k ∧ ∀ i, i < k → MC.1 (t + 6 + 10) i = MM.1 3 (60 * t + i) := by
  obtain ⟨P, hA, hG, hT, hP, hD, hK⟩ := h
  obtain ⟨a, b⟩ := hT t ht
  rcases b with b | ⟨k, hk, b, c⟩
  · exact Or.inl ⟨b, by rw [← a]; exact b⟩
  · exact Or.inr ⟨k, hk, b, by rw [← a]; exact b, c⟩
theorem Rel.cell (h : Rel MC MM) {r i k : Nat} (v : Int32) (hr : r < 6) (hs : MC.1 r 0 = nI k) (hk : k ≤ 40) (hi : i < k) : Rel (sI MC (r + 10) i v) (sI MM 1 (40 * r + i) v) := by
  refine h.row (fun q => ?_) rfl (fun q => ?_) rfl (fun hG => hG.upd hr (fun q _ h1 h2 => g2 h2) (fun q h1 => by rw [g2 (by omega)]) (fun q h1 => g3 (by omega)) ?_)
  · by_cases c : q = r + 10
    · omega
    · exact Or.inr (Or.inr (g2 c))
  · by_cases c : q = 1
    · exact Or.inl c
    · exact Or.inr (Or.inr (g2 c))
  · obtain ⟨a, b⟩ := hG r hr
    rw [g2 (q := r) (by omega), g2 (q := 2) (by omega)]
    refine ⟨a, ?_⟩
    rcases b with b | ⟨k', hk', b1, b2⟩
    · exact Or.inl b
    · refine Or.inr ⟨k', hk', b1, fun j hj => ?_⟩
      show _ = (sI MM 1 (40 * r + i) v).1 1 (40 * r + j)
      by_cases e : j = i
      · subst e; rw [g1, g1]
      · rw [g3 e, g3 (by omega)]; exact b2 j hj
theorem Rel.tcell (h : Rel MC MM) {r i k : Nat} (v : Int32) (hr : r < 4) (hs : MC.1 (r + 6) 0 = nI k) (hk : k ≤ 60) (hi : i < k) : Rel (sI MC (r + 6 + 10) i v) (sI MM 3 (60 * r + i) v) := by
  refine h.text (fun q => ?_) rfl (fun q => ?_) rfl (fun hG => hG.upd hr (fun q _ h1 h2 => g2 h2) (fun q h1 => by rw [g2 (by omega)]) (fun q h1 => g3 (by omega)) ?_)
  · by_cases c : q = r + 6 + 10
    · omega
    · exact Or.inr (Or.inr (g2 c))
  · by_cases c : q = 3
    · exact Or.inl c
    · exact Or.inr (Or.inr (g2 c))
  · obtain ⟨a, b⟩ := hG r hr
    rw [g2 (q := r + 6) (by omega), g2 (q := 4) (by omega)]
    refine ⟨a, ?_⟩
    rcases b with b | ⟨k', hk', b1, b2⟩
    · exact Or.inl b
    · refine Or.inr ⟨k', hk', b1, fun j hj => ?_⟩
      show _ = (sI MM 3 (60 * r + i) v).1 3 (60 * r + j)
      by_cases e : j = i
      · subst e; rw [g1, g1]
      · rw [g3 e, g3 (by omega)]; exact b2 j hj
end RR
theorem s_lay {fu : Nat} : Sim_lay fu Rel := by
  intro MC MM a0 a1 a2 hR
  rcases tri a0 6 (by omega) with h | ⟨r, hr, rfl⟩
  · refine ⟨-1, MC, MM, ?_, ?_, hR⟩
    · unfold f4_lay
      rw [rowAt_out h]
      rfl
    · unfold f5_lay
      rw [isRow_out h]
      simp (disch := omega) only [lit, nlt, nle, neq, nI_add, pk_mul, nm_u, bS, gd_d, oc_none, oc_some, rd_n, wr_n, if_pos, if_neg, ite_true, ite_false, not_true_eq_false, not_false_eq_true, g1, g2, g3, g4, h1, h2, h3, h4]
  · rcases hR.rowc hr with ⟨e1, e2⟩ | ⟨k, hk, e1, e2, e3⟩
    · refine ⟨-3, _, _, ?_, ?_, hR.find (f := 1) (by omega)⟩
      · unfold f4_lay
        rw [rowAt_in hr]
        simp (disch := omega) only [lit, nlt, nle, neq, nI_add, pk_mul, nm_u, bS, gd_d, oc_none, oc_some, rd_n, wr_n, if_pos, if_neg, ite_true, ite_false, not_true_eq_false, not_false_eq_true, g1, g2, g3, g4, h1, h2, h3, h4, refP_m (by omega) e1, m3_eq]
      · unfold f5_lay
        rw [isRow_in hr]
        simp (disch := omega) only [lit, nlt, nle, neq, nI_add, pk_mul, nm_u, bS, gd_d, oc_none, oc_some, rd_n, wr_n, if_pos, if_neg, ite_true, ite_false, not_true_eq_false, not_false_eq_true, g1, g2, g3, g4, h1, h2, h3, h4, e2, m1_le, found_s]
    · rcases tri a1 k (by omega) with h | ⟨i, hi, rfl⟩
      · refine ⟨-3, _, _, ?_, ?_, hR.find (f := 2) (by omega)⟩
        · unfold f4_lay
          rw [rowAt_in hr]
          simp (disch := omega) only [lit, nlt, nle, neq, nI_add, pk_mul, nm_u, bS, gd_d, oc_none, oc_some, rd_n, wr_n, if_pos, if_neg, ite_true, ite_false, not_true_eq_false, not_false_eq_true, g1, g2, g3, g4, h1, h2, h3, h4, refP_out (by omega) e1 (by omega) h, m3_eq]
        · unfold f5_lay
          rw [isRow_in hr]
          simp (disch := omega) only [lit, nlt, nle, neq, nI_add, pk_mul, nm_u, bS, gd_d, oc_none, oc_some, rd_n, wr_n, if_pos, if_neg, ite_true, ite_false, not_true_eq_false, not_false_eq_true, g1, g2, g3, g4, h1, h2, h3, h4, e2, ix_out (by omega) h, found_s]
      · refine ⟨1, sI (sI MC 28 6 (MC.1 (r + 10) i)) (r + 10) i a2, sI (sI MM 0 4 (MC.1 (r + 10) i)) 1 (40 * r + i) a2, ?_, ?_, ?_⟩
        · unfold f4_lay
          rw [rowAt_in hr]
          simp (disch := omega) only [lit, nlt, nle, neq, nI_add, pk_mul, nm_u, bS, gd_d, oc_none, oc_some, rd_n, wr_n, if_pos, if_neg, ite_true, ite_false, not_true_eq_false, not_false_eq_true, g1, g2, g3, g4, h1, h2, h3, h4, refP_in (by omega) e1 (by omega) hi, cellAt_in, setCell_in]
        · unfold f5_lay f5_tell
          rw [isRow_in hr]
          simp (disch := omega) only [lit, nlt, nle, neq, nI_add, pk_mul, nm_u, bS, gd_d, oc_none, oc_some, rd_n, wr_n, if_pos, if_neg, ite_true, ite_false, not_true_eq_false, not_false_eq_true, g1, g2, g3, g4, h1, h2, h3, h4, e2, ix_in (by omega) hi, e3 i hi]
          rw [sI_comm (by omega)]
        · exact (hR.tell _).cell _ hr (by rw [g2 (by omega)]; exact e1) hk hi
theorem s_at {fu : Nat} : Sim_at fu Rel := by
  intro MC MM a0 a1 hR
  rcases tri a0 6 (by omega) with h | ⟨r, hr, rfl⟩
  · refine ⟨-1, MC, MM, ?_, ?_, hR⟩
    · unfold f4_at
      rw [rowAt_out h]
      rfl
    · unfold f5_at
      rw [isRow_out h]
      simp (disch := omega) only [lit, nlt, nle, neq, nI_add, pk_mul, nm_u, bS, gd_d, oc_none, oc_some, rd_n, wr_n, if_pos, if_neg, ite_true, ite_false, not_true_eq_false, not_false_eq_true, g1, g2, g3, g4, h1, h2, h3, h4]
  · rcases hR.rowc hr with ⟨e1, e2⟩ | ⟨k, hk, e1, e2, e3⟩
    · refine ⟨-3, _, _, ?_, ?_, hR.find (f := 1) (by omega)⟩
      · unfold f4_at
        rw [rowAt_in hr]
        simp (disch := omega) only [lit, nlt, nle, neq, nI_add, pk_mul, nm_u, bS, gd_d, oc_none, oc_some, rd_n, wr_n, if_pos, if_neg, ite_true, ite_false, not_true_eq_false, not_false_eq_true, g1, g2, g3, g4, h1, h2, h3, h4, refP_m (by omega) e1, m3_eq]
      · unfold f5_at
        rw [isRow_in hr]
        simp (disch := omega) only [lit, nlt, nle, neq, nI_add, pk_mul, nm_u, bS, gd_d, oc_none, oc_some, rd_n, wr_n, if_pos, if_neg, ite_true, ite_false, not_true_eq_false, not_false_eq_true, g1, g2, g3, g4, h1, h2, h3, h4, e2, m1_le, found_s]
    · rcases tri a1 k (by omega) with h | ⟨i, hi, rfl⟩
      · refine ⟨-3, _, _, ?_, ?_, hR.find (f := 2) (by omega)⟩
        · unfold f4_at
          rw [rowAt_in hr]
          simp (disch := omega) only [lit, nlt, nle, neq, nI_add, pk_mul, nm_u, bS, gd_d, oc_none, oc_some, rd_n, wr_n, if_pos, if_neg, ite_true, ite_false, not_true_eq_false, not_false_eq_true, g1, g2, g3, g4, h1, h2, h3, h4, refP_out (by omega) e1 (by omega) h, m3_eq]
        · unfold f5_at
          rw [isRow_in hr]
          simp (disch := omega) only [lit, nlt, nle, neq, nI_add, pk_mul, nm_u, bS, gd_d, oc_none, oc_some, rd_n, wr_n, if_pos, if_neg, ite_true, ite_false, not_true_eq_false, not_false_eq_true, g1, g2, g3, g4, h1, h2, h3, h4, e2, ix_out (by omega) h, found_s]
      · refine ⟨1, sI MC 28 6 (MC.1 (r + 10) i), sI MM 0 4 (MC.1 (r + 10) i), ?_, ?_, hR.tell _⟩
        · unfold f4_at
          rw [rowAt_in hr]
          simp (disch := omega) only [lit, nlt, nle, neq, nI_add, pk_mul, nm_u, bS, gd_d, oc_none, oc_some, rd_n, wr_n, if_pos, if_neg, ite_true, ite_false, not_true_eq_false, not_false_eq_true, g1, g2, g3, g4, h1, h2, h3, h4, refP_in (by omega) e1 (by omega) hi, cellAt_in]
        · unfold f5_at f5_tell
          rw [isRow_in hr]
          simp (disch := omega) only [lit, nlt, nle, neq, nI_add, pk_mul, nm_u, bS, gd_d, oc_none, oc_some, rd_n, wr_n, if_pos, if_neg, ite_true, ite_false, not_true_eq_false, not_false_eq_true, g1, g2, g3, g4, h1, h2, h3, h4, e2, ix_in (by omega) hi, e3 i hi]
theorem s_tear {fu : Nat} : Sim_tear fu Rel := by
  intro MC MM a0 hR
  rcases tri a0 6 (by omega) with h | ⟨r, hr, rfl⟩
  · refine ⟨-1, MC, MM, ?_, ?_, hR⟩
    · unfold f4_tear
      rw [rowAt_out h]
      rfl
    · unfold f5_tear
      rw [isRow_out h]
      simp (disch := omega) only [lit, nlt, nle, neq, nI_add, pk_mul, nm_u, bS, gd_d, oc_none, oc_some, rd_n, wr_n, if_pos, if_neg, ite_true, ite_false, not_true_eq_false, not_false_eq_true, g1, g2, g3, g4, h1, h2, h3, h4]
  · rcases hR.rowc hr with ⟨e1, e2⟩ | ⟨k, hk, e1, e2, e3⟩
    · refine ⟨-3, _, _, ?_, ?_, hR.find (f := 1) (by omega)⟩
      · unfold f4_tear
        rw [rowAt_in hr]
        simp (disch := omega) only [lit, nlt, nle, neq, nI_add, pk_mul, nm_u, bS, gd_d, oc_none, oc_some, rd_n, wr_n, if_pos, if_neg, ite_true, ite_false, not_true_eq_false, not_false_eq_true, g1, g2, g3, g4, h1, h2, h3, h4, refM_m (by omega) e1, m3_eq]
      · unfold f5_tear
        rw [isRow_in hr]
        simp (disch := omega) only [lit, nlt, nle, neq, nI_add, pk_mul, nm_u, bS, gd_d, oc_none, oc_some, rd_n, wr_n, if_pos, if_neg, ite_true, ite_false, not_true_eq_false, not_false_eq_true, g1, g2, g3, g4, h1, h2, h3, h4, e2, m1_le, found_s]
    · refine ⟨1, sI MC r 0 (-1), sI MM 2 r (-1), ?_, ?_, ?_⟩
      · unfold f4_tear
        rw [rowAt_in hr]
        simp (disch := omega) only [lit, nlt, nle, neq, nI_add, pk_mul, nm_u, bS, gd_d, oc_none, oc_some, rd_n, wr_n, if_pos, if_neg, ite_true, ite_false, not_true_eq_false, not_false_eq_true, g1, g2, g3, g4, h1, h2, h3, h4, refM_k (by omega) e1 (by omega)]
      · unfold f5_tear
        rw [isRow_in hr]
        simp (disch := omega) only [lit, nlt, nle, neq, nI_add, pk_mul, nm_u, bS, gd_d, oc_none, oc_some, rd_n, wr_n, if_pos, if_neg, ite_true, ite_false, not_true_eq_false, not_false_eq_true, g1, g2, g3, g4, h1, h2, h3, h4, e2]
      · refine hR.row (fun q => ?_) rfl (fun q => ?_) rfl (fun hG => hG.upd hr (fun q _ h1 h2 => g2 h1) (fun q h1 => g3 h1) (fun q h1 => by rw [g2 (by omega)]) ⟨by rw [g1, g1], Or.inl g1⟩)
        · by_cases c : q = r
          · omega
          · exact Or.inr (Or.inr (g2 c))
        · by_cases c : q = 2
          · exact Or.inr (Or.inl c)
          · exact Or.inr (Or.inr (g2 c))
theorem s_put {fu : Nat} : Sim_put fu Rel := by
  intro MC MM a0 a1 a2 hR
  rcases tri a0 4 (by omega) with h | ⟨r, hr, rfl⟩
  · refine ⟨-1, MC, MM, ?_, ?_, hR⟩
    · unfold f4_put
      rw [textAt_out h]
      rfl
    · unfold f5_put
      rw [isText_out h]
      simp (disch := omega) only [lit, nlt, nle, neq, nI_add, pk_mul, nm_u, bS, gd_d, oc_none, oc_some, rd_n, wr_n, if_pos, if_neg, ite_true, ite_false, not_true_eq_false, not_false_eq_true, g1, g2, g3, g4, h1, h2, h3, h4]
  · rcases hR.textc hr with ⟨e1, e2⟩ | ⟨k, hk, e1, e2, e3⟩
    · refine ⟨-3, _, _, ?_, ?_, hR.find (f := 1) (by omega)⟩
      · unfold f4_put
        rw [textAt_in hr]
        simp (disch := omega) only [lit, nlt, nle, neq, nI_add, pk_mul, nm_u, bS, gd_d, oc_none, oc_some, rd_n, wr_n, if_pos, if_neg, ite_true, ite_false, not_true_eq_false, not_false_eq_true, g1, g2, g3, g4, h1, h2, h3, h4, refP_m (by omega) e1, m3_eq]
      · unfold f5_put
        rw [isText_in hr]
        simp (disch := omega) only [lit, nlt, nle, neq, nI_add, pk_mul, nm_u, bS, gd_d, oc_none, oc_some, rd_n, wr_n, if_pos, if_neg, ite_true, ite_false, not_true_eq_false, not_false_eq_true, g1, g2, g3, g4, h1, h2, h3, h4, e2, m1_le, found_s]
    · rcases tri a1 k (by omega) with h | ⟨i, hi, rfl⟩
      · refine ⟨-3, _, _, ?_, ?_, hR.find (f := 2) (by omega)⟩
        · unfold f4_put
          rw [textAt_in hr]
          simp (disch := omega) only [lit, nlt, nle, neq, nI_add, pk_mul, nm_u, bS, gd_d, oc_none, oc_some, rd_n, wr_n, if_pos, if_neg, ite_true, ite_false, not_true_eq_false, not_false_eq_true, g1, g2, g3, g4, h1, h2, h3, h4, refP_out (by omega) e1 (by omega) h, m3_eq]
        · unfold f5_put
          rw [isText_in hr]
          simp (disch := omega) only [lit, nlt, nle, neq, nI_add, pk_mul, nm_u, bS, gd_d, oc_none, oc_some, rd_n, wr_n, if_pos, if_neg, ite_true, ite_false, not_true_eq_false, not_false_eq_true, g1, g2, g3, g4, h1, h2, h3, h4, e2, ix_out (by omega) h, found_s]
      · refine ⟨MC.1 (r + 6 + 10) i + nI 1000, _, _, ?_, ?_, hR.tcell a2.toInt8.toInt32 hr e1 hk hi⟩
        · unfold f4_put
          rw [textAt_in hr]
          simp (disch := omega) only [lit, nlt, nle, neq, nI_add, pk_mul, nm_u, bS, gd_d, oc_none, oc_some, rd_n, wr_n, if_pos, if_neg, ite_true, ite_false, not_true_eq_false, not_false_eq_true, g1, g2, g3, g4, h1, h2, h3, h4, refP_in (by omega) e1 (by omega) hi, cellAt_in, setCell_in]
        · unfold f5_put
          rw [isText_in hr]
          simp (disch := omega) only [lit, nlt, nle, neq, nI_add, pk_mul, nm_u, bS, gd_d, oc_none, oc_some, rd_n, wr_n, if_pos, if_neg, ite_true, ite_false, not_true_eq_false, not_false_eq_true, g1, g2, g3, g4, h1, h2, h3, h4, e2, ix_in (by omega) hi, e3 i hi]
theorem s_asked {fu : Nat} : Sim_asked fu Rel := by
  intro MC MM hR
  obtain ⟨P, hA, -⟩ := id hR
  exact ⟨_, rfl, by unfold f5_asked; rw [hA.1], hR⟩
theorem s_upper {fu : Nat} : Sim_upper fu Rel := by
  intro MC MM hR
  obtain ⟨P, hA, -⟩ := id hR
  exact ⟨_, rfl, by unfold f5_upper; rw [hA.2.2.1], hR⟩
theorem s_lower {fu : Nat} : Sim_lower fu Rel := by
  intro MC MM hR
  obtain ⟨P, hA, -⟩ := id hR
  exact ⟨_, rfl, by unfold f5_lower; rw [hA.2.2.2.1], hR⟩
theorem s_finding {fu : Nat} : Sim_finding fu Rel := by
  intro MC MM hR
  obtain ⟨P, hA, -⟩ := id hR
  exact ⟨_, rfl, by unfold f5_finding; rw [hA.2.1], hR⟩
theorem s_findings {fu : Nat} : Sim_findings fu Rel := by
  intro MC MM a0 hR
  obtain ⟨P, hA, -⟩ := id hR
  have o1 : (1 : Int64) = (nI 1).toInt64 := by decide
  have o5 : (5 : Int64) = (nI 5).toInt64 := by decide
  rcases tri a0 6 (by omega) with h | ⟨j, hj, rfl⟩
  · rcases h with h | ⟨h0, h⟩
    · refine ⟨-1, ?_, ?_, hR⟩
      · unfold f4_findings
        have : (a0 < nI 1) = True := eq_true (Int32.lt_trans h (by decide))
        simp (disch := omega) only [lit, nlt, nle, neq, nI_add, pk_mul, nm_u, bS, gd_d, oc_none, oc_some, rd_n, wr_n, if_pos, if_neg, ite_true, ite_false, not_true_eq_false, not_false_eq_true, g1, g2, g3, g4, h1, h2, h3, h4, this]
      · unfold f5_findings
        rw [o1, o5, in_i, if_neg (fun q => absurd (Int32.le_trans (show nI 0 ≤ nI 1 by decide) q.1) (of_eq_false (lt0_nle h)))]
        simp (disch := omega) only [lit, nlt, nle, neq, nI_add, pk_mul, nm_u, bS, gd_d, oc_none, oc_some, rd_n, wr_n, if_pos, if_neg, ite_true, ite_false, not_true_eq_false, not_false_eq_true, g1, g2, g3, g4, h1, h2, h3, h4]
    · refine ⟨-1, ?_, ?_, hR⟩
      · unfold f4_findings
        simp (disch := omega) only [lit, nlt, nle, neq, nI_add, pk_mul, nm_u, bS, gd_d, oc_none, oc_some, rd_n, wr_n, if_pos, if_neg, ite_true, ite_false, not_true_eq_false, not_false_eq_true, g1, g2, g3, g4, h1, h2, h3, h4, ge_nlt (b := 6) (a := 1) (by omega) (by omega) h, ge_nle (b := 5) (by omega) h]
      · unfold f5_findings
        rw [o1, o5, in_i, if_neg (fun q => of_eq_false (ge_nle (b := 5) (by omega) h) q.2)]
        simp (disch := omega) only [lit, nlt, nle, neq, nI_add, pk_mul, nm_u, bS, gd_d, oc_none, oc_some, rd_n, wr_n, if_pos, if_neg, ite_true, ite_false, not_true_eq_false, not_false_eq_true, g1, g2, g3, g4, h1, h2, h3, h4]
  · by_cases h1 : 1 ≤ j
    · refine ⟨MC.1 32 j, ?_, ?_, hR⟩
      · unfold f4_findings
        simp (disch := omega) only [lit, nlt, nle, neq, nI_add, pk_mul, nm_u, bS, gd_d, oc_none, oc_some, rd_n, wr_n, if_pos, if_neg, ite_true, ite_false, not_true_eq_false, not_false_eq_true, g1, g2, g3, g4, h1, h2, h3, h4]
      · unfold f5_findings
        rw [o1, o5, in_n (by omega) (by omega) (by omega), if_pos ⟨h1, by omega⟩]
        simp (disch := omega) only [lit, nlt, nle, neq, nI_add, pk_mul, nm_u, bS, gd_d, oc_none, oc_some, rd_n, wr_n, if_pos, if_neg, ite_true, ite_false, not_true_eq_false, not_false_eq_true, g1, g2, g3, g4, h1, h2, h3, h4, hA.2.2.2.2 j hj]
    · refine ⟨-1, ?_, ?_, hR⟩
      · unfold f4_findings
        simp (disch := omega) only [lit, nlt, nle, neq, nI_add, pk_mul, nm_u, bS, gd_d, oc_none, oc_some, rd_n, wr_n, if_pos, if_neg, ite_true, ite_false, not_true_eq_false, not_false_eq_true, g1, g2, g3, g4, h1, h2, h3, h4]
      · unfold f5_findings
        rw [o1, o5, in_n (by omega) (by omega) (by omega), if_neg (by omega)]
        simp (disch := omega) only [lit, nlt, nle, neq, nI_add, pk_mul, nm_u, bS, gd_d, oc_none, oc_some, rd_n, wr_n, if_pos, if_neg, ite_true, ite_false, not_true_eq_false, not_false_eq_true, g1, g2, g3, g4, h1, h2, h3, h4]
def sumL (g : Nat → Int32) (n : Nat) : Int64 := fo (fun k a => a + (g k).toInt64) n 0
theorem mean_c {fu r k : Nat} {MC : Mem} (hr : r < 10) (hk : k ≤ 60) (h0 : 0 < k) (hs : MC.1 r 0 = nI k) : ∀ (d i f : Nat), i + d = k → d < f → f4_mean_41 fu f r (sumL (MC.1 (r + 10)) i) (nI i) MC = some (sI MC 28 6 ((sumL (MC.1 (r + 10)) k / (nI k).toInt64).toInt32), 1) := by
  intro d
  induction d with
  | zero =>
    intro i f h hf
    rcases f with _ | f
    · omega
    have : i = k := by omega
    subst this
    rw [f4_mean_41]
    simp (disch := omega) only [lit, nlt, nle, neq, nI_add, pk_mul, nm_u, bS, gd_d, oc_none, oc_some, rd_n, wr_n, if_pos, if_neg, ite_true, ite_false, not_true_eq_false, not_false_eq_true, g1, g2, g3, g4, h1, h2, h3, h4, hs, dvL_n h0 (by omega)]
  | succ d ih =>
    intro i f h hf
    rcases f with _ | f
    · omega
    rw [f4_mean_41]
    simp (disch := omega) only [lit, nlt, nle, neq, nI_add, pk_mul, nm_u, bS, gd_d, oc_none, oc_some, rd_n, wr_n, if_pos, if_neg, ite_true, ite_false, not_true_eq_false, not_false_eq_true, g1, g2, g3, g4, h1, h2, h3, h4, hs, cellAt_in]
    exact ih (i + 1) f (by omega) (by omega)
theorem mean_m {fu r k : Nat} {MM : Mem} {g : Nat → Int32} (hr : r < 6) (hk : k ≤ 40) (h0 : 0 < k) (hs : MM.1 2 r = nI k) (hg : ∀ i, i < k → g i = MM.1 1 (40 * r + i)) : ∀ (d i f : Nat), i + d = k → d < f → f5_mean_44 fu f (nI r) (sumL g i) (nI i) MM = some (sI MM 0 4 ((sumL g k / (nI k).toInt64).toInt32), 1) := by
  intro d
  induction d with
  | zero =>
    intro i f h hf
    rcases f with _ | f
    · omega
    have : i = k := by omega
    subst this
    rw [f5_mean_44]
    simp (disch := omega) only [lit, nlt, nle, neq, nI_add, pk_mul, nm_u, bS, gd_d, oc_none, oc_some, rd_n, wr_n, if_pos, if_neg, ite_true, ite_false, not_true_eq_false, not_false_eq_true, g1, g2, g3, g4, h1, h2, h3, h4, hs, dvL_n h0 (by omega), f5_tell]
  | succ d ih =>
    intro i f h hf
    rcases f with _ | f
    · omega
    rw [f5_mean_44]
    simp (disch := omega) only [lit, nlt, nle, neq, nI_add, pk_mul, nm_u, bS, gd_d, oc_none, oc_some, rd_n, wr_n, if_pos, if_neg, ite_true, ite_false, not_true_eq_false, not_false_eq_true, g1, g2, g3, g4, h1, h2, h3, h4, hs]
    rw [← hg i (by omega)]
    exact ih (i + 1) f (by omega) (by omega)
theorem s_mean {fu : Nat} (hfu : 10000 ≤ fu) : Sim_mean fu Rel := by
  intro MC MM a0 hR
  rcases tri a0 6 (by omega) with h | ⟨r, hr, rfl⟩
  · refine ⟨-1, MC, MM, ?_, ?_, hR⟩
    · unfold f4_mean
      rw [rowAt_out h]
      rfl
    · unfold f5_mean
      rw [isRow_out h]
      simp (disch := omega) only [lit, nlt, nle, neq, nI_add, pk_mul, nm_u, bS, gd_d, oc_none, oc_some, rd_n, wr_n, if_pos, if_neg, ite_true, ite_false, not_true_eq_false, not_false_eq_true, g1, g2, g3, g4, h1, h2, h3, h4]
  · rcases hR.rowc hr with ⟨e1, e2⟩ | ⟨k, hk, e1, e2, e3⟩
    · refine ⟨-3, _, _, ?_, ?_, hR.find (f := 1) (by omega)⟩
      · unfold f4_mean
        rw [rowAt_in hr]
        simp (disch := omega) only [lit, nlt, nle, neq, nI_add, pk_mul, nm_u, bS, gd_d, oc_none, oc_some, rd_n, wr_n, if_pos, if_neg, ite_true, ite_false, not_true_eq_false, not_false_eq_true, g1, g2, g3, g4, h1, h2, h3, h4, refM_m (by omega) e1, m3_eq]
      · unfold f5_mean
        rw [isRow_in hr]
        simp (disch := omega) only [lit, nlt, nle, neq, nI_add, pk_mul, nm_u, bS, gd_d, oc_none, oc_some, rd_n, wr_n, if_pos, if_neg, ite_true, ite_false, not_true_eq_false, not_false_eq_true, g1, g2, g3, g4, h1, h2, h3, h4, e2, m1_le, found_s]
    · by_cases h0 : k = 0
      · subst h0
        refine ⟨-3, _, _, ?_, ?_, hR.find (f := 4) (by omega)⟩
        · unfold f4_mean
          rw [rowAt_in hr]
          simp (disch := omega) only [lit, nlt, nle, neq, nI_add, pk_mul, nm_u, bS, gd_d, oc_none, oc_some, rd_n, wr_n, if_pos, if_neg, ite_true, ite_false, not_true_eq_false, not_false_eq_true, g1, g2, g3, g4, h1, h2, h3, h4, refM_k (by omega) e1 (by omega), e1, find_s]
        · unfold f5_mean
          rw [isRow_in hr]
          simp (disch := omega) only [lit, nlt, nle, neq, nI_add, pk_mul, nm_u, bS, gd_d, oc_none, oc_some, rd_n, wr_n, if_pos, if_neg, ite_true, ite_false, not_true_eq_false, not_false_eq_true, g1, g2, g3, g4, h1, h2, h3, h4, e2, found_s]
      · refine ⟨1, _, _, ?_, ?_, hR.tell ((sumL (MC.1 (r + 10)) k / (nI k).toInt64).toInt32)⟩
        · unfold f4_mean
          rw [rowAt_in hr]
          simp (disch := omega) only [lit, nlt, nle, neq, nI_add, pk_mul, nm_u, bS, gd_d, oc_none, oc_some, rd_n, wr_n, if_pos, if_neg, ite_true, ite_false, not_true_eq_false, not_false_eq_true, g1, g2, g3, g4, h1, h2, h3, h4, refM_k (by omega) e1 (by omega), e1]
          exact mean_c (by omega) (by omega) (by omega) e1 k 0 fu (by omega) (by omega)
        · unfold f5_mean
          rw [isRow_in hr]
          simp (disch := omega) only [lit, nlt, nle, neq, nI_add, pk_mul, nm_u, bS, gd_d, oc_none, oc_some, rd_n, wr_n, if_pos, if_neg, ite_true, ite_false, not_true_eq_false, not_false_eq_true, g1, g2, g3, g4, h1, h2, h3, h4, e2]
          exact mean_m hr hk (by omega) e2 e3 k 0 fu (by omega) (by omega)
