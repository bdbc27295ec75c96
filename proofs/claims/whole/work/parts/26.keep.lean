/-! 26: keep, on -/
theorem kq9 : (nI 1 = nI 0) = False := by decide
theorem keptAt_out {x : Int32} (h : outs x 3) : f4_keptAt x = some none := by
  unfold f4_keptAt
  rcases h with h | ⟨h0, h⟩
  · simp (disch := omega) only [lit, nlt, nle, neq, nI_add, pk_mul, nm_u, bS, gd_d, oc_none, oc_some, rd_n, wr_n, if_pos, if_neg, ite_true, ite_false, not_true_eq_false, not_false_eq_true, g1, g2, g3, g4, h1, h2, h3, h4, h]
  · simp (disch := omega) only [lit, nlt, nle, neq, nI_add, pk_mul, nm_u, bS, gd_d, oc_none, oc_some, rd_n, wr_n, if_pos, if_neg, ite_true, ite_false, not_true_eq_false, not_false_eq_true, g1, g2, g3, g4, h1, h2, h3, h4, h0, h]
theorem keptAt_in {j : Nat} (h : j < 3) : f4_keptAt (nI j) = some (some (20 + j)) := by
  unfold f4_keptAt
  have e : rdR [20, 21, 22] (nI j) = some (20 + j) := rdR_n (by
    rcases (show j = 0 ∨ j = 1 ∨ j = 2 by omega) with rfl | rfl | rfl <;> rfl) (by decide)
  rw [e]
  simp (disch := omega) only [lit, nlt, nle, neq, nI_add, pk_mul, nm_u, bS, gd_d, oc_none, oc_some, rd_n, wr_n, if_pos, if_neg, ite_true, ite_false, not_true_eq_false, not_false_eq_true, g1, g2, g3, g4, h1, h2, h3, h4]
theorem take_l {fu a b : Nat} {src : Nat → Int32} (ha : 20 ≤ a ∧ a < 24) (hb : 20 ≤ b ∧ b < 24) (hab : a ≠ b) : ∀ (e i f : Nat) (M : Mem), i + e = 40 → e < f → M.1 (b + 4) = src → f1_takeOver_10 fu f a b (nI i) M = some (sF M (a + 4) (fun x => if i ≤ x ∧ x < 40 then src x else M.1 (a + 4) x)) := by
  intro e
  induction e with
  | zero =>
    intro i f M h hf hs
    rcases f with _ | f
    · omega
    rw [f1_takeOver_10]
    simp (disch := omega) only [lit, nlt, nle, neq, nI_add, pk_mul, nm_u, bS, gd_d, oc_none, oc_some, rd_n, wr_n, if_pos, if_neg, ite_true, ite_false, not_true_eq_false, not_false_eq_true, g1, g2, g3, g4, h1, h2, h3, h4]
    rw [sF_id]
    intro j
    first | rfl | rw [if_neg (by omega)]
  | succ e ih =>
    intro i f M h hf hs
    rcases f with _ | f
    · omega
    rw [f1_takeOver_10]
    have g1d : gd (decide (20 ≤ a ∧ a < 24)) = some () := by simp [gd, ha]
    have g2d : gd (decide (20 ≤ b ∧ b < 24)) = some () := by simp [gd, hb]
    simp (disch := omega) only [lit, nlt, nle, neq, nI_add, pk_mul, nm_u, bS, gd_d, oc_none, oc_some, rd_n, wr_n, if_pos, if_neg, ite_true, ite_false, not_true_eq_false, not_false_eq_true, g1, g2, g3, g4, h1, h2, h3, h4, g1d, g2d]
    rw [ih (i + 1) f _ (by omega) (by omega) (by rw [g2 (by omega)]; exact hs), sF_sI]
    congr 1
    apply sF_cg
    intro j
    by_cases c : i + 1 ≤ j ∧ j < 40
    · rw [if_pos c, if_pos (by omega)]
    · rw [if_neg c]
      by_cases e0 : j = i
      · subst e0; rw [g1, if_pos (by omega), hs]
      · rw [g3 e0, if_neg (by omega)]
theorem take_c {fu a b : Nat} {M : Mem} (hfu : 10000 ≤ fu) (ha : 20 ≤ a ∧ a < 24) (hb : 20 ≤ b ∧ b < 24) (hab : a ≠ b) : f1_takeOver fu a b M = some (sF (sI M a 0 (M.1 b 0)) (a + 4) (fun x => if 0 ≤ x ∧ x < 40 then M.1 (b + 4) x else M.1 (a + 4) x)) := by
  unfold f1_takeOver
  have g1d : gd (decide (20 ≤ a ∧ a < 24)) = some () := by simp [gd, ha]
  have g2d : gd (decide (20 ≤ b ∧ b < 24)) = some () := by simp [gd, hb]
  have h := take_l (fu := fu) (src := M.1 (b + 4)) ha hb hab 40 0 fu (sI M a 0 (M.1 b 0)) (by omega) (by omega) (g2 (by omega))
  simp (disch := omega) only [lit, nlt, nle, neq, nI_add, pk_mul, nm_u, bS, gd_d, oc_none, oc_some, rd_n, wr_n, if_pos, if_neg, ite_true, ite_false, not_true_eq_false, not_false_eq_true, g1, g2, g3, g4, h1, h2, h3, h4, g1d, g2d]
  rw [h]
  congr 1
  apply sF_cg
  intro j
  rw [g2 (by omega)]
theorem Rel.ks {P : PD} {MC MM MC' MM' : Mem} (hA : GA MC MM) (hR0 : GR MC MM) (hT : GT MC MM) (hP : GP P MC MM) (hD : GD P MC MM) (c1 : ∀ q, q < 20 ∨ q = 23 ∨ 27 ≤ q → MC'.1 q = MC.1 q) (c2 : MC'.2 = MC.2) (m1 : ∀ q, q ≠ 12 → MM'.1 q = MM.1 q) (m3 : MM'.2 = MM.2) (hK : GK P MC' MM') : Rel MC' MM' := by
  obtain ⟨d, st, a1, a2, a3, a4, a5, a6, a7⟩ := hD
  refine ⟨P, hA.cg (by rw [c1 28 (by omega)]) (by rw [c1 28 (by omega)]) c2 (c1 32 (by omega)) (by rw [m1 0 (by omega)]) (by rw [m1 0 (by omega)]) m3 (m1 5 (by omega)), hR0.cg (fun q hq => c1 q (by omega)) (m1 1 (by omega)) (m1 2 (by omega)), hT.cg (fun q hq => c1 q (by omega)) (m1 3 (by omega)) (m1 4 (by omega)), hP.cg (fun q hq => c1 q (by omega)) (by rw [m1 0 (by omega)]) (fun q hq => m1 q (by omega)), ⟨d, st, a1, by rw [c1 23 (by omega)]; exact a2, by rw [m1 0 (by omega)]; exact a3, by rw [c1 27 (by omega)]; exact a4, by rw [m1 11 (by omega)]; exact a5, by rw [m1 10 (by omega)]; exact a6, by rw [c1 33 (by omega), c1 34 (by omega)]; exact a7⟩, hK⟩
def kA (M : Mem) (k : Nat) : Mem := sF M 12 (fun x => if 370 * k + 1 + 0 ≤ x ∧ x < 370 * k + 1 + 9 then M.1 10 (0 + (x - (370 * k + 1))) else M.1 12 x)
def kB (M : Mem) (k : Nat) : Mem := sF M 12 (fun x => if 370 * k + 1 + 9 + 0 ≤ x ∧ x < 370 * k + 1 + 9 + 360 then M.1 11 (0 + (x - (370 * k + 1 + 9))) else M.1 12 x)
theorem kA_q {M : Mem} {k q : Nat} (h : q ≠ 12) : (kA M k).1 q = M.1 q := sF_q h
theorem kB_q {M : Mem} {k q : Nat} (h : q ≠ 12) : (kB M k).1 q = M.1 q := sF_q h
theorem kA_1 {M : Mem} {k x : Nat} : (kA M k).1 12 x = if 370 * k + 1 + 0 ≤ x ∧ x < 370 * k + 1 + 9 then M.1 10 (0 + (x - (370 * k + 1))) else M.1 12 x := by
  unfold kA; rw [sF_1]
theorem kB_1 {M : Mem} {k x : Nat} : (kB M k).1 12 x = if 370 * k + 1 + 9 + 0 ≤ x ∧ x < 370 * k + 1 + 9 + 360 then M.1 11 (0 + (x - (370 * k + 1 + 9))) else M.1 12 x := by
  unfold kB; rw [sF_1]
def oA (M : Mem) (k : Nat) : Mem := sF M 10 (fun x => if 0 + 0 ≤ x ∧ x < 0 + 9 then M.1 12 (370 * k + 1 + (x - 0)) else M.1 10 x)
def oB (M : Mem) (k : Nat) : Mem := sF M 11 (fun x => if 0 + 0 ≤ x ∧ x < 0 + 360 then M.1 12 (370 * k + 1 + 9 + (x - 0)) else M.1 11 x)
theorem oA_q {M : Mem} {k q : Nat} (h : q ≠ 10) : (oA M k).1 q = M.1 q := sF_q h
theorem oB_q {M : Mem} {k q : Nat} (h : q ≠ 11) : (oB M k).1 q = M.1 q := sF_q h
theorem oA_1 {M : Mem} {k x : Nat} : (oA M k).1 10 x = if 0 + 0 ≤ x ∧ x < 0 + 9 then M.1 12 (370 * k + 1 + (x - 0)) else M.1 10 x := by
  unfold oA; rw [sF_1]
theorem oB_1 {M : Mem} {k x : Nat} : (oB M k).1 11 x = if 0 + 0 ≤ x ∧ x < 0 + 360 then M.1 12 (370 * k + 1 + 9 + (x - 0)) else M.1 11 x := by
  unfold oB; rw [sF_1]
theorem Hist.cd {P : PD} {cd cd' : Nat → Int32} {d : Nat} {st : Nat → Nat → Int32} (h : Hist P cd d st) (e : ∀ i, i < d → cd' i = cd i) : Hist P cd' d st :=
  ⟨h.1, h.2.1, fun i hi j hj => by rw [e i hi]; exact h.2.2.1 i hi j hj, h.2.2.2.1, fun i hi => by rw [e i hi]; exact h.2.2.2.2 i hi⟩
theorem s_keep {fu : Nat} (hfu : 10000 ≤ fu) : Sim_keep fu Rel := by
  intro MC MM a0 hR
  obtain ⟨P, hA, hR0, hT, hP, ⟨d, st, hd, hc0, hm0, hH, hah, hnw, hp⟩, hK⟩ := id hR
  have h8 := hP.1
  rcases tri a0 3 (by omega) with h | ⟨k, hk, rfl⟩
  · refine ⟨-1, MC, MM, ?_, ?_, hR⟩
    · unfold f4_keep
      simp (disch := omega) only [lit, nlt, nle, neq, nI_add, pk_mul, nm_u, bS, gd_d, oc_none, oc_some, rd_n, wr_n, if_pos, if_neg, ite_true, ite_false, not_true_eq_false, not_false_eq_true, g1, g2, g3, g4, h1, h2, h3, h4, keptAt_out h]
    · unfold f5_keep
      rw [show (2 : Int64) = (nI 2).toInt64 by decide, in_out (by omega) h]
      simp (disch := omega) only [lit, nlt, nle, neq, nI_add, pk_mul, nm_u, bS, gd_d, oc_none, oc_some, rd_n, wr_n, if_pos, if_neg, ite_true, ite_false, not_true_eq_false, not_false_eq_true, g1, g2, g3, g4, h1, h2, h3, h4]
  by_cases hn : P.1 = 0
  · refine ⟨-4, MC, MM, ?_, ?_, hR⟩
    · unfold f4_keep
      simp (disch := omega) only [lit, nlt, nle, neq, nI_add, pk_mul, nm_u, bS, gd_d, oc_none, oc_some, rd_n, wr_n, if_pos, if_neg, ite_true, ite_false, not_true_eq_false, not_false_eq_true, g1, g2, g3, g4, h1, h2, h3, h4, keptAt_in hk, hP.2.1]
    · unfold f5_keep
      rw [show (2 : Int64) = (nI 2).toInt64 by decide, in_in (by omega) (by omega)]
      simp (disch := omega) only [lit, nlt, nle, neq, nI_add, pk_mul, nm_u, bS, gd_d, oc_none, oc_some, rd_n, wr_n, if_pos, if_neg, ite_true, ite_false, not_true_eq_false, not_false_eq_true, g1, g2, g3, g4, h1, h2, h3, h4, kq9, hP.2.2.1]
  have gk : gd (decide (20 ≤ 20 + k ∧ 20 + k < 24)) = some () := by
    have : 20 ≤ 20 + k ∧ 20 + k < 24 := by omega
    simp [gd, this]
  have t1 := take_c (fu := fu) (a := 20 + k) (b := 23) (M := MC) hfu (by omega) (by omega) (by omega)
  have t2 : f5_copies_10_12 fu (nI 0) (nI (370 * k + 1)) (nI 9) (sI MM 12 (370 * k) (nI d)) = some (kA (sI MM 12 (370 * k) (nI d)) k) := cm_10_12 hfu (by omega) (by omega)
  have t3 : f5_copies_11_12 fu (nI 0) (nI (370 * k + 1 + 9)) (nI 360) (kA (sI MM 12 (370 * k) (nI d)) k) = some (kB (kA (sI MM 12 (370 * k) (nI d)) k) k) := cm_11_12 hfu (by omega) (by omega)
  refine ⟨nI d, sF (sI MC (20 + k) 0 (MC.1 23 0)) (20 + k + 4) (fun x => if 0 ≤ x ∧ x < 40 then MC.1 (23 + 4) x else MC.1 (20 + k + 4) x), kB (kA (sI MM 12 (370 * k) (nI d)) k) k, ?_, ?_, ?_⟩
  · unfold f4_keep
    simp (disch := omega) only [lit, nlt, nle, neq, nI_add, pk_mul, nm_u, bS, gd_d, oc_none, oc_some, rd_n, wr_n, if_pos, if_neg, ite_true, ite_false, not_true_eq_false, not_false_eq_true, g1, g2, g3, g4, h1, h2, h3, h4, keptAt_in hk, hP.2.1, gk, t1, sF_q, hc0]
  · unfold f5_keep
    rw [show (2 : Int64) = (nI 2).toInt64 by decide, in_in (by omega) (by omega)]
    simp (disch := omega) only [lit, nlt, nle, neq, nI_add, pk_mul, nm_u, bS, gd_d, oc_none, oc_some, rd_n, wr_n, if_pos, if_neg, ite_true, ite_false, not_true_eq_false, not_false_eq_true, g1, g2, g3, g4, h1, h2, h3, h4, kq9, hP.2.2.1, hm0, t2, t3, kB_q, kA_q]
  · refine Rel.ks hA hR0 hT hP ⟨d, st, hd, hc0, hm0, hH, hah, hnw, hp⟩ (fun q hq => by rw [sF_q (by omega), g2 (by omega)]) rfl (fun q hq => by rw [kB_q hq, kA_q hq, g2 hq]) rfl (fun j hj => ?_)
    by_cases c : j = k
    · subst c
      refine ⟨?_, Or.inr ⟨d, st, hd, ?_, ?_, fun i hi r hr => ?_, fun r hr => ?_⟩⟩
      · show _ = (kB (kA (sI MM 12 (370 * j) (nI d)) j) j).1 12 (370 * j + 0)
        rw [show j + 20 = 20 + j by omega, sF_q (by omega), g1, hc0, kB_1, if_neg (by omega), kA_1, if_neg (by omega), Nat.add_zero, g1]
      · rw [show j + 20 = 20 + j by omega, sF_q (by omega), g1, hc0]
      · rw [show j + 20 + 4 = 20 + j + 4 by omega, sF_1]
        exact hH.cd (fun i hi => if_pos (by omega))
      · show (kB (kA (sI MM 12 (370 * j) (nI d)) j) j).1 12 (370 * j + (10 + (9 * i + r))) = _
        rw [kB_1, if_pos (by omega), kA_q (by omega), g2 (by omega)]
        exact (congrArg _ (by omega)).trans (hah i hi r hr)
      · show (kB (kA (sI MM 12 (370 * j) (nI d)) j) j).1 12 (370 * j + (1 + r)) = _
        rw [kB_1, if_neg (by omega), kA_1, if_pos (by omega), g2 (by omega)]
        exact (congrArg _ (by omega)).trans (hnw r hr)
    · have hk0 := hK j hj
      have e1 : (sF (sI MC (20 + k) 0 (MC.1 23 0)) (20 + k + 4) (fun x => if 0 ≤ x ∧ x < 40 then MC.1 (23 + 4) x else MC.1 (20 + k + 4) x)).1 (j + 20) = MC.1 (j + 20) := by rw [sF_q (by omega), g2 (by omega)]
      have e2 : (sF (sI MC (20 + k) 0 (MC.1 23 0)) (20 + k + 4) (fun x => if 0 ≤ x ∧ x < 40 then MC.1 (23 + 4) x else MC.1 (20 + k + 4) x)).1 (j + 20 + 4) = MC.1 (j + 20 + 4) := by rw [sF_q (by omega), g2 (by omega)]
      rw [e1, e2]
      obtain ⟨b1, b2⟩ := hk0
      have e3 : ∀ i, i < 370 → (kB (kA (sI MM 12 (370 * k) (nI d)) k) k).1 12 (370 * j + i) = MM.1 12 (370 * j + i) := by
        intro i hi
        rw [kB_1, if_neg (by omega), kA_1, if_neg (by omega), g3 (by omega)]
      refine ⟨b1.trans (e3 0 (by omega)).symm, ?_⟩
      rcases b2 with b | ⟨d', st', c1, c2, c3, c4, c5⟩
      · exact Or.inl b
      · exact Or.inr ⟨d', st', c1, c2, c3, fun i hi r hr => (e3 _ (by omega)).trans (c4 i hi r hr), fun r hr => (e3 _ (by omega)).trans (c5 r hr)⟩
theorem s_on {fu : Nat} (hfu : 10000 ≤ fu) : Sim_on fu Rel := by
  intro MC MM a0 hR
  obtain ⟨P, hA, hR0, hT, hP, hD, hK⟩ := id hR
  have h8 := hP.1
  rcases tri a0 3 (by omega) with h | ⟨k, hk, rfl⟩
  · refine ⟨-1, MC, MM, ?_, ?_, hR⟩
    · unfold f4_on
      simp (disch := omega) only [lit, nlt, nle, neq, nI_add, pk_mul, nm_u, bS, gd_d, oc_none, oc_some, rd_n, wr_n, if_pos, if_neg, ite_true, ite_false, not_true_eq_false, not_false_eq_true, g1, g2, g3, g4, h1, h2, h3, h4, keptAt_out h]
    · unfold f5_on
      rw [show (2 : Int64) = (nI 2).toInt64 by decide, in_out (by omega) h]
      simp (disch := omega) only [lit, nlt, nle, neq, nI_add, pk_mul, nm_u, bS, gd_d, oc_none, oc_some, rd_n, wr_n, if_pos, if_neg, ite_true, ite_false, not_true_eq_false, not_false_eq_true, g1, g2, g3, g4, h1, h2, h3, h4]
  have gk : gd (decide (20 ≤ 20 + k ∧ 20 + k < 24)) = some () := by
    have : 20 ≤ 20 + k ∧ 20 + k < 24 := by omega
    simp [gd, this]
  obtain ⟨b1, b2⟩ := hK k hk
  rw [show k + 20 = 20 + k by omega] at b1 b2
  have b3 : MM.1 12 (370 * k) = MC.1 (20 + k) 0 := b1.symm
  rcases b2 with b | ⟨d, st, hd, c2, c3, c4, c5⟩
  · rw [m1r] at b
    rw [b] at b3
    refine ⟨-3, _, _, ?_, ?_, hR.find (f := 1) (by omega)⟩
    · unfold f4_on
      simp (disch := omega) only [lit, nlt, nle, neq, nI_add, pk_mul, nm_u, bS, gd_d, oc_none, oc_some, rd_n, wr_n, if_pos, if_neg, ite_true, ite_false, not_true_eq_false, not_false_eq_true, g1, g2, g3, g4, h1, h2, h3, h4, keptAt_in hk, gk, b, m1_le, find_s]
    · unfold f5_on
      rw [show (2 : Int64) = (nI 2).toInt64 by decide, in_in (by omega) (by omega)]
      simp (disch := omega) only [lit, nlt, nle, neq, nI_add, pk_mul, nm_u, bS, gd_d, oc_none, oc_some, rd_n, wr_n, if_pos, if_neg, ite_true, ite_false, not_true_eq_false, not_false_eq_true, g1, g2, g3, g4, h1, h2, h3, h4, kq9, b3, m1_le, found_s]
  · rw [c2] at b3
    have t1 := take_c (fu := fu) (a := 23) (b := 20 + k) (M := MC) hfu (by omega) (by omega) (by omega)
    rw [c2] at t1
    have hP2 : GP P (sF (sI MC 23 0 (nI d)) (23 + 4) (fun x => if 0 ≤ x ∧ x < 40 then MC.1 (20 + k + 4) x else MC.1 (23 + 4) x)) MM := hP.cg (fun q hq => by rw [sF_q (by omega), g2 (by omega)]) rfl (fun _ _ => rfl)
    have hH2 : Hist P ((sF (sI MC 23 0 (nI d)) (23 + 4) (fun x => if 0 ≤ x ∧ x < 40 then MC.1 (20 + k + 4) x else MC.1 (23 + 4) x)).1 27) d st := by
      rw [sF_1]
      exact c3.cd (fun i hi => if_pos (by omega))
    obtain ⟨M1, a1, a2, a3, a4, a5⟩ := goBackTo_c (fu := fu) (x := d) hfu hd (by omega) hP2 hH2
    have t2 : f5_copies_12_10 fu (nI (370 * k + 1)) (nI 0) (nI 9) (sI MM 0 16 (nI d)) = some (oA (sI MM 0 16 (nI d)) k) := cm_12_10 hfu (by omega) (by omega)
    have t3 : f5_copies_12_11 fu (nI (370 * k + 1 + 9)) (nI 0) (nI 360) (oA (sI MM 0 16 (nI d)) k) = some (oB (oA (sI MM 0 16 (nI d)) k) k) := cm_12_11 hfu (by omega) (by omega)
    refine ⟨nI d, M1, oB (oA (sI MM 0 16 (nI d)) k) k, ?_, ?_, ?_⟩
    · unfold f4_on
      have e4 : M1.1 (20 + k) 0 = nI d := by rw [a3 _ (by omega) (by omega) (by omega), sF_q (by omega), g2 (by omega), c2]
      have e5 : (sF (sI MC 23 0 (nI d)) (23 + 4) (fun x => if 0 ≤ x ∧ x < 40 then MC.1 (20 + k + 4) x else MC.1 (23 + 4) x)).1 (20 + k) 0 = nI d := by rw [sF_q (by omega), g2 (by omega), c2]
      simp (disch := omega) only [lit, nlt, nle, neq, nI_add, pk_mul, nm_u, bS, gd_d, oc_none, oc_some, rd_n, wr_n, if_pos, if_neg, ite_true, ite_false, not_true_eq_false, not_false_eq_true, g1, g2, g3, g4, h1, h2, h3, h4, keptAt_in hk, gk, c2, t1, e5, a1, e4]
    · unfold f5_on
      rw [show (2 : Int64) = (nI 2).toInt64 by decide, in_in (by omega) (by omega)]
      simp (disch := omega) only [lit, nlt, nle, neq, nI_add, pk_mul, nm_u, bS, gd_d, oc_none, oc_some, rd_n, wr_n, if_pos, if_neg, ite_true, ite_false, not_true_eq_false, not_false_eq_true, g1, g2, g3, g4, h1, h2, h3, h4, kq9, b3, t2, t3, oB_q, oA_q]
    · refine Rel.gd hA hR0 hT hP hK (fun q a b c e => by rw [a3 q a c e, sF_q b, g2 a]) (by rw [a5]; rfl) (fun q a b c => by rw [oB_q c, oA_q b, g2 a]) (fun i hi => by rw [oB_q (by omega), oA_q (by omega), g3 hi]) rfl ⟨d, st, hd, a4, by rw [oB_q (by omega), oA_q (by omega), g1], ?_, ?_, ?_, a2⟩
      · rw [a3 27 (by omega) (by omega) (by omega)]; exact hH2
      · intro i hi j hj
        rw [oB_1, if_pos (by omega), oA_q (by omega), g2 (by omega)]
        exact (congrArg _ (by omega)).trans (c4 i hi j hj)
      · intro j hj
        rw [oB_q (by omega), oA_1, if_pos (by omega), g2 (by omega)]
        exact (congrArg _ (by omega)).trans (c5 j hj)
