/-! 23: pick -/
theorem s_pick {fu : Nat} (hfu : 10000 ≤ fu) : Sim_pick fu Rel := by
  intro MC MM a0 hR
  obtain ⟨P, hA, hR0, hT, hP, ⟨d, st, hd, hc0, hm0, hH, hah, hnw, hp⟩, hK⟩ := id hR
  have h8 := hP.1
  have hg := hH.2.2.2.1 d (Nat.le_refl d)
  rcases tri a0 P.1 (by omega) with h | ⟨k, hk, rfl⟩
  · refine ⟨-1, MC, MM, ?_, ?_, hR⟩
    · unfold f4_pick
      simp (disch := omega) only [lit, nlt, nle, neq, nI_add, pk_mul, nm_u, bS, gd_d, oc_none, oc_some, rd_n, wr_n, if_pos, if_neg, ite_true, ite_false, not_true_eq_false, not_false_eq_true, g1, g2, g3, g4, h1, h2, h3, h4, has2_out hP h]
    · unfold f5_pick
      simp (disch := omega) only [lit, nlt, nle, neq, nI_add, pk_mul, nm_u, bS, gd_d, oc_none, oc_some, rd_n, wr_n, if_pos, if_neg, ite_true, ite_false, not_true_eq_false, not_false_eq_true, g1, g2, g3, g4, h1, h2, h3, h4, isPin_out hP h]
  have w0 := hnw 0 (by omega)
  have wk : MM.1 10 (1 + k) = st d (k + 1) := by rw [show 1 + k = k + 1 by omega, hnw (k + 1) (by omega)]
  have hl := msk_256 h8 (fun k => st d (k + 1) == st d 0)
  by_cases c : st d (k + 1) = st d 0
  · have hb := bit_t (a := msk P.1 (fun k => st d (k + 1) == st d 0)) (k := k) (by rw [msk_tbk hk]; simp [c]) (by omega) (by omega)
    by_cases hd4 : d = 40
    · subst hd4
      refine ⟨-2, MC, MM, ?_, ?_, hR⟩
      · unfold f4_pick
        simp (disch := omega) only [lit, nlt, nle, neq, nI_add, pk_mul, nm_u, bS, gd_d, oc_none, oc_some, rd_n, wr_n, if_pos, if_neg, ite_true, ite_false, not_true_eq_false, not_false_eq_true, g1, g2, g3, g4, h1, h2, h3, h4, ior, iand, shl_n, Nat.or_zero, has2_in hP hk, lyingHere_c hfu hP hg hp, hb, room_f hc0]
      · unfold f5_pick
        simp (disch := omega) only [lit, nlt, nle, neq, nI_add, pk_mul, nm_u, bS, gd_d, oc_none, oc_some, rd_n, wr_n, if_pos, if_neg, ite_true, ite_false, not_true_eq_false, not_false_eq_true, g1, g2, g3, g4, h1, h2, h3, h4, isPin_in hP hk, wk, w0, c, hm0]
    · have hok : okc P.1 (nI (8 + k)) (st d) := Or.inr (Or.inr (Or.inr ⟨k, hk, Or.inl ⟨rfl, c⟩⟩))
      have ek : ∀ j, j < P.1 → ap (nI (8 + k)) (st d) (j + 1) = if j = k then -nI 1 else st d (j + 1) := by
        intro j hj
        simp only [ap]
        by_cases q : j = k
        · subst q; simp (disch := omega) only [lit, nlt, nle, neq, nI_add, pk_mul, nm_u, bS, gd_d, oc_none, oc_some, rd_n, wr_n, if_pos, if_neg, ite_true, ite_false, not_true_eq_false, not_false_eq_true, g1, g2, g3, g4, h1, h2, h3, h4]
        · simp (disch := omega) only [lit, nlt, nle, neq, nI_add, pk_mul, nm_u, bS, gd_d, oc_none, oc_some, rd_n, wr_n, if_pos, if_neg, ite_true, ite_false, not_true_eq_false, not_false_eq_true, g1, g2, g3, g4, h1, h2, h3, h4]
      have ek0 : ap (nI (8 + k)) (st d) 0 = st d 0 := by
        simp only [ap]
        simp (disch := omega) only [lit, nlt, nle, neq, nI_add, pk_mul, nm_u, bS, gd_d, oc_none, oc_some, rd_n, wr_n, if_pos, if_neg, ite_true, ite_false, not_true_eq_false, not_false_eq_true, g1, g2, g3, g4, h1, h2, h3, h4]
      have hgn : gst P.1 (ap (nI (8 + k)) (st d)) := by
        refine ⟨by rw [ek0]; exact hg.1, fun j hj => ?_⟩
        rw [ek j hj]
        by_cases q : j = k
        · rw [if_pos q]; exact Or.inl rfl
        · rw [if_neg q]; exact hg.2 j hj
      obtain ⟨MC', b1, b2, b3, b4, b5, b6⟩ := enact_c (fu := fu) hfu (by omega) hc0 hP hg hp hok
      have hm5 : ∀ j, j ≤ P.1 → (sI (sI (sF MM 11 (fun x => if 9 * d + 0 ≤ x ∧ x < 9 * d + 9 then MM.1 10 (x - 9 * d) else MM.1 11 x)) 0 16 (nI (d + 1))) 10 (1 + k) (-nI 1)).1 10 j = ap (nI (8 + k)) (st d) j := by
        intro j hj
        rcases j with _ | j
        · rw [g3 (by omega), g2 (by omega), sF_q (by omega), ek0, w0]
        · rw [ek j (by omega)]
          by_cases q : j = k
          · subst q; rw [if_pos rfl, show 1 + j = j + 1 by omega, g1]
          · rw [if_neg q, g3 (by omega), g2 (by omega), sF_q (by omega), hnw (j + 1) hj]
      have hth := those_m (P := P) (w := -nI 1) (MM := sI (sI (sF MM 11 (fun x => if 9 * d + 0 ≤ x ∧ x < 9 * d + 9 then MM.1 10 (x - 9 * d) else MM.1 11 x)) 0 16 (nI (d + 1))) 10 (1 + k) (-nI 1)) (s := ap (nI (8 + k)) (st d)) hfu h8 (by rw [g2 (by omega), g3 (by omega), sF_q (by omega)]; exact hP.2.2.1) hm5 (by decide)
      have hl2 := msk_256 h8 (fun j => ap (nI (8 + k)) (st d) (j + 1) == -nI 1)
      refine ⟨nI (pcn (msk P.1 (fun j => ap (nI (8 + k)) (st d) (j + 1) == -nI 1))), MC', sI (sI (sF MM 11 (fun x => if 9 * d + 0 ≤ x ∧ x < 9 * d + 9 then MM.1 10 (x - 9 * d) else MM.1 11 x)) 0 16 (nI (d + 1))) 10 (1 + k) (-nI 1), ?_, ?_, ?_⟩
      · unfold f4_pick
        simp (disch := omega) only [lit, nlt, nle, neq, nI_add, pk_mul, nm_u, bS, gd_d, oc_none, oc_some, rd_n, wr_n, if_pos, if_neg, ite_true, ite_false, not_true_eq_false, not_false_eq_true, g1, g2, g3, g4, h1, h2, h3, h4, ior, iand, shl_n, Nat.or_zero, has2_in hP hk, lyingHere_c hfu hP hg hp, hb, room_t (d := d) (by omega) hc0, b1, b2.2.1, bitC]
      · unfold f5_pick
        simp (disch := omega) only [lit, nlt, nle, neq, nI_add, pk_mul, nm_u, bS, gd_d, oc_none, oc_some, rd_n, wr_n, if_pos, if_neg, ite_true, ite_false, not_true_eq_false, not_false_eq_true, g1, g2, g3, g4, h1, h2, h3, h4, isPin_in hP hk, wk, w0, c, hm0, rem_m (MM := MM) (d := d) hfu (by omega) hm0, hth, bits_m hfu]
      · exact hR.deed hA hR0 hT hP hK (by omega) hH hah hnw hok hgn b3 b6 b4 b5 b2 (fun q a b e => by rw [g2 b, g2 a, sF_q e]) (fun i hi => by rw [g2 (by omega), g3 hi, sF_q (by omega)]) rfl (by rw [g2 (by omega), g1]) hm5 (fun y => by rw [g2 (by omega), g2 (by omega), sF_1, Nat.add_zero])
  · have hb := bit_f (a := msk P.1 (fun k => st d (k + 1) == st d 0)) (k := k) (by rw [msk_tbk hk]; simp [c]) (by omega) (by omega)
    refine ⟨-4, MC, MM, ?_, ?_, hR⟩
    · unfold f4_pick
      simp (disch := omega) only [lit, nlt, nle, neq, nI_add, pk_mul, nm_u, bS, gd_d, oc_none, oc_some, rd_n, wr_n, if_pos, if_neg, ite_true, ite_false, not_true_eq_false, not_false_eq_true, g1, g2, g3, g4, h1, h2, h3, h4, ior, iand, shl_n, Nat.or_zero, has2_in hP hk, lyingHere_c hfu hP hg hp, hb]
    · unfold f5_pick
      simp (disch := omega) only [lit, nlt, nle, neq, nI_add, pk_mul, nm_u, bS, gd_d, oc_none, oc_some, rd_n, wr_n, if_pos, if_neg, ite_true, ite_false, not_true_eq_false, not_false_eq_true, g1, g2, g3, g4, h1, h2, h3, h4, isPin_in hP hk, wk, w0, c]
