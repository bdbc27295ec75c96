/-! 32: lots -/
def rmM (MM : Mem) (d : Nat) : Mem := sI (sF MM 11 (fun x => if 9 * d + 0 ≤ x ∧ x < 9 * d + 9 then MM.1 10 (x - 9 * d) else MM.1 11 x)) 0 16 (nI (d + 1))
theorem rmM_10 {MM : Mem} {d j : Nat} : (rmM MM d).1 10 j = MM.1 10 j := by
  unfold rmM; rw [g2 (by omega), sF_q (by omega)]
theorem rem_r {fu d : Nat} {MM : Mem} (hfu : 10000 ≤ fu) (hd : d < 40) (h : MM.1 0 16 = nI d) : f5_remember fu MM = some (rmM MM d) := rem_m hfu hd h
/-- a deed on both sides, that puts one cell of now -/
theorem deed_cm {fu d ix : Nat} {P : PD} {MC MM : Mem} {st : Nat → Nat → Int32} {c v : Int32} (hfu : 10000 ≤ fu) (hR : Rel MC MM) (hA : GA MC MM) (hR0 : GR MC MM) (hT : GT MC MM) (hP : GP P MC MM) (hK : GK P MC MM) (hd : d < 40) (hc0 : MC.1 23 0 = nI d) (hH : Hist P (MC.1 27) d st) (hah : ∀ i, i < d → ∀ j, j ≤ P.1 → MM.1 11 (9 * i + j) = st i j) (hnw : ∀ j, j ≤ P.1 → MM.1 10 j = st d j) (hp : pic P (st d) (MC.1 33 2) (MC.1 33 3) (MC.1 33 4) (MC.1 34)) (hok : okc P.1 c (st d)) (hgn : gst P.1 (ap c (st d))) (hv : ∀ j, j ≤ P.1 → ap c (st d) j = if j = ix then v else st d j) : ∃ MC', f3_enact fu c MC = some MC' ∧ Rel MC' (sI (rmM MM d) 10 ix v) ∧ MC'.1 23 0 = nI (d + 1) ∧ MC'.1 35 = MC.1 35 := by
  have hg := hH.2.2.2.1 d (Nat.le_refl d)
  obtain ⟨MC', b1, b2, b3, b4, b5, b6⟩ := enact_c (fu := fu) hfu hd hc0 hP hg hp hok
  refine ⟨MC', b1, ?_, b4, b3 35 (by omega) (by omega) (by omega) (by omega)⟩
  unfold rmM
  refine hR.deed hA hR0 hT hP hK hd hH hah hnw hok hgn b3 b6 b4 b5 b2 (fun q a b e => by rw [g2 b, g2 a, sF_q e]) (fun i hi => by rw [g2 (by omega), g3 hi, sF_q (by omega)]) rfl (by rw [g2 (by omega), g1]) (fun j hj => ?_) (fun y => by rw [g2 (by omega), g2 (by omega), sF_1, Nat.add_zero])
  rw [hv j hj]
  by_cases q : j = ix
  · subst q; rw [if_pos rfl, g1]
  · rw [if_neg q, g3 q, g2 (by omega), sF_q (by omega), hnw j hj]
theorem ap_0 {k : Nat} {s : Nat → Int32} {j : Nat} (hj : j ≤ 8) : ap (nI 0) s j = if j = 0 then s 0 + nI 1 else s j := by
  rcases j with _ | j
  · simp only [ap]
    simp (disch := omega) only [lit, nlt, nle, neq, nI_add, pk_mul, nm_u, bS, gd_d, oc_none, oc_some, rd_n, wr_n, if_pos, if_neg, ite_true, ite_false, not_true_eq_false, not_false_eq_true, g1, g2, g3, g4, h1, h2, h3, h4]
  · simp only [ap]
    simp (disch := omega) only [lit, nlt, nle, neq, nI_add, pk_mul, nm_u, bS, gd_d, oc_none, oc_some, rd_n, wr_n, if_pos, if_neg, ite_true, ite_false, not_true_eq_false, not_false_eq_true, g1, g2, g3, g4, h1, h2, h3, h4]
theorem ap_1 {k : Nat} {s : Nat → Int32} {j : Nat} (hj : j ≤ 8) : ap (nI 1) s j = if j = 0 then s 0 - nI 1 else s j := by
  rcases j with _ | j
  · simp only [ap]
    simp (disch := omega) only [lit, nlt, nle, neq, nI_add, pk_mul, nm_u, bS, gd_d, oc_none, oc_some, rd_n, wr_n, if_pos, if_neg, ite_true, ite_false, not_true_eq_false, not_false_eq_true, g1, g2, g3, g4, h1, h2, h3, h4]
  · simp only [ap]
    simp (disch := omega) only [lit, nlt, nle, neq, nI_add, pk_mul, nm_u, bS, gd_d, oc_none, oc_some, rd_n, wr_n, if_pos, if_neg, ite_true, ite_false, not_true_eq_false, not_false_eq_true, g1, g2, g3, g4, h1, h2, h3, h4]
theorem ap_8 {k : Nat} {s : Nat → Int32} {j : Nat} (hj : j ≤ 8) (hk : k < 8) : ap (nI (8 + k)) s j = if j = 1 + k then -nI 1 else s j := by
  rcases j with _ | j
  · simp only [ap]
    simp (disch := omega) only [lit, nlt, nle, neq, nI_add, pk_mul, nm_u, bS, gd_d, oc_none, oc_some, rd_n, wr_n, if_pos, if_neg, ite_true, ite_false, not_true_eq_false, not_false_eq_true, g1, g2, g3, g4, h1, h2, h3, h4]
  · simp only [ap]
    by_cases q : j = k
    · subst q; simp (disch := omega) only [lit, nlt, nle, neq, nI_add, pk_mul, nm_u, bS, gd_d, oc_none, oc_some, rd_n, wr_n, if_pos, if_neg, ite_true, ite_false, not_true_eq_false, not_false_eq_true, g1, g2, g3, g4, h1, h2, h3, h4]
    · simp (disch := omega) only [lit, nlt, nle, neq, nI_add, pk_mul, nm_u, bS, gd_d, oc_none, oc_some, rd_n, wr_n, if_pos, if_neg, ite_true, ite_false, not_true_eq_false, not_false_eq_true, g1, g2, g3, g4, h1, h2, h3, h4]
theorem ap_16 {k : Nat} {s : Nat → Int32} {j : Nat} (hj : j ≤ 8) (hk : k < 8) : ap (nI (16 + k)) s j = if j = 1 + k then s 0 else s j := by
  rcases j with _ | j
  · simp only [ap]
    simp (disch := omega) only [lit, nlt, nle, neq, nI_add, pk_mul, nm_u, bS, gd_d, oc_none, oc_some, rd_n, wr_n, if_pos, if_neg, ite_true, ite_false, not_true_eq_false, not_false_eq_true, g1, g2, g3, g4, h1, h2, h3, h4]
  · simp only [ap]
    by_cases q : j = k
    · subst q; simp (disch := omega) only [lit, nlt, nle, neq, nI_add, pk_mul, nm_u, bS, gd_d, oc_none, oc_some, rd_n, wr_n, if_pos, if_neg, ite_true, ite_false, not_true_eq_false, not_false_eq_true, g1, g2, g3, g4, h1, h2, h3, h4]
    · simp (disch := omega) only [lit, nlt, nle, neq, nI_add, pk_mul, nm_u, bS, gd_d, oc_none, oc_some, rd_n, wr_n, if_pos, if_neg, ite_true, ite_false, not_true_eq_false, not_false_eq_true, g1, g2, g3, g4, h1, h2, h3, h4]
