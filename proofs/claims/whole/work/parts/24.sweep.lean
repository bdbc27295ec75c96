/-! 24: drop, sweep -/
theorem s_drop {fu : Nat} (hfu : 10000 ≤ fu) : Sim_drop fu Rel := by
  intro MC MM a0 hR
  obtain ⟨P, hA, hR0, hT, hP, ⟨d, st, hd, hc0, hm0, hH, hah, hnw, hp⟩, hK⟩ := id hR
  have h8 := hP.1
  have hg := hH.2.2.2.1 d (Nat.le_refl d)
  rcases tri a0 P.1 (by omega) with h | ⟨k, hk, rfl⟩
  · refine ⟨-1, MC, MM, ?_, ?_, hR⟩
    · unfold f4_drop
      simp (disch := omega) only [lit, nlt, nle, neq, nI_add, pk_mul, nm_u, bS, gd_d, oc_none, oc_some, rd_n, wr_n, if_pos, if_neg, ite_true, ite_false, not_true_eq_false, not_false_eq_true, g1, g2, g3, g4, h1, h2, h3, h4, has2_out hP h]
    · unfold f5_drop
      simp (disch := omega) only [lit, nlt, nle, neq, nI_add, pk_mul, nm_u, bS, gd_d, oc_none, oc_some, rd_n, wr_n, if_pos, if_neg, ite_true, ite_false, not_true_eq_false, not_false_eq_true, g1, g2, g3, g4, h1, h2, h3, h4, isPin_out hP h]
  have w0 := hnw 0 (by omega)
  have wk : MM.1 10 (1 + k) = st d (k + 1) := by rw [show 1 + k = k + 1 by omega, hnw (k + 1) (by omega)]
  have hl := msk_256 h8 (fun k => st d (k + 1) == -nI 1)
  by_cases c : st d (k + 1) = -nI 1
  · have hb := bit_t (a := msk P.1 (fun k => st d (k + 1) == -nI 1)) (k := k) (by rw [msk_tbk hk]; simp [c]) (by omega) (by omega)
    by_cases hd4 : d = 40
    · subst hd4
      refine ⟨-2, MC, MM, ?_, ?_, hR⟩
      · unfold f4_drop
        simp (disch := omega) only [lit, nlt, nle, neq, nI_add, pk_mul, nm_u, bS, gd_d, oc_none, oc_some, rd_n, wr_n, if_pos, if_neg, ite_true, ite_false, not_true_eq_false, not_false_eq_true, g1, g2, g3, g4, h1, h2, h3, h4, ior, iand, shl_n, Nat.or_zero, has2_in hP hk, hp.2.1, hb, room_f hc0]
      · unfold f5_drop
        simp (disch := omega) only [lit, nlt, nle, neq, nI_add, pk_mul, nm_u, bS, gd_d, oc_none, oc_some, rd_n, wr_n, if_pos, if_neg, ite_true, ite_false, not_true_eq_false, not_false_eq_true, g1, g2, g3, g4, h1, h2, h3, h4, isPin_in hP hk, wk, w0, c, hm0]
    · have hok : okc P.1 (nI (16 + k)) (st d) := Or.inr (Or.inr (Or.inr ⟨k, hk, Or.inr ⟨rfl, c⟩⟩))
      have ek : ∀ j, j < P.1 → ap (nI (16 + k)) (st d) (j + 1) = if j = k then st d 0 else st d (j + 1) := by
        intro j hj
        simp only [ap]
        by_cases q : j = k
        · subst q; simp (disch := omega) only [lit, nlt, nle, neq, nI_add, pk_mul, nm_u, bS, gd_d, oc_none, oc_some, rd_n, wr_n, if_pos, if_neg, ite_true, ite_false, not_true_eq_false, not_false_eq_true, g1, g2, g3, g4, h1, h2, h3, h4]
        · simp (disch := omega) only [lit, nlt, nle, neq, nI_add, pk_mul, nm_u, bS, gd_d, oc_none, oc_some, rd_n, wr_n, if_pos, if_neg, ite_true, ite_false, not_true_eq_false, not_false_eq_true, g1, g2, g3, g4, h1, h2, h3, h4]
      have ek0 : ap (nI (16 + k)) (st d) 0 = st d 0 := by
        simp only [ap]
        simp (disch := omega) only [lit, nlt, nle, neq, nI_add, pk_mul, nm_u, bS, gd_d, oc_none, oc_some, rd_n, wr_n, if_pos, if_neg, ite_true, ite_false, not_true_eq_false, not_false_eq_true, g1, g2, g3, g4, h1, h2, h3, h4]
      have hgn : gst P.1 (ap (nI (16 + k)) (st d)) := by
        refine ⟨by rw [ek0]; exact hg.1, fun j hj => ?_⟩
        rw [ek j hj]
        by_cases q : j = k
        · rw [if_pos q]; exact Or.inr (Or.inr hg.1)
        · rw [if_neg q]; exact hg.2 j hj
      obtain ⟨MC', b1, b2, b3, b4, b5, b6⟩ := enact_c (fu := fu) hfu (by omega) hc0 hP hg hp hok
      have hm5 : ∀ j, j ≤ P.1 → (sI (sI (sF MM 11 (fun x => if 9 * d + 0 ≤ x ∧ x < 9 * d + 9 then MM.1 10 (x - 9 * d) else MM.1 11 x)) 0 16 (nI (d + 1))) 10 (1 + k) (st d 0)).1 10 j = ap (nI (16 + k)) (st d) j := by
        intro j hj
        rcases j with _ | j
        · rw [g3 (by omega), g2 (by omega), sF_q (by omega), ek0, w0]
        · rw [ek j (by omega)]
          by_cases q : j = k
          · subst q; rw [if_pos rfl, show 1 + j = j + 1 by omega, g1]
          · rw [if_neg q, g3 (by omega), g2 (by omega), sF_q (by omega), hnw (j + 1) hj]
      have hth := those_m (P := P) (w := -nI 1) (MM := sI (sI (sF MM 11 (fun x => if 9 * d + 0 ≤ x ∧ x < 9 * d + 9 then MM.1 10 (x - 9 * d) else MM.1 11 x)) 0 16 (nI (d + 1))) 10 (1 + k) (st d 0)) (s := ap (nI (16 + k)) (st d)) hfu h8 (by rw [g2 (by omega), g3 (by omega), sF_q (by omega)]; exact hP.2.2.1) hm5 (by decide)
      have hl2 := msk_256 h8 (fun j => ap (nI (16 + k)) (st d) (j + 1) == -nI 1)
      refine ⟨nI (pcn (msk P.1 (fun j => ap (nI (16 + k)) (st d) (j + 1) == -nI 1))), MC', sI (sI (sF MM 11 (fun x => if 9 * d + 0 ≤ x ∧ x < 9 * d + 9 then MM.1 10 (x - 9 * d) else MM.1 11 x)) 0 16 (nI (d + 1))) 10 (1 + k) (st d 0), ?_, ?_, ?_⟩
      · unfold f4_drop
        simp (disch := omega) only [lit, nlt, nle, neq, nI_add, pk_mul, nm_u, bS, gd_d, oc_none, oc_some, rd_n, wr_n, if_pos, if_neg, ite_true, ite_false, not_true_eq_false, not_false_eq_true, g1, g2, g3, g4, h1, h2, h3, h4, ior, iand, shl_n, Nat.or_zero, has2_in hP hk, hp.2.1, hb, room_t (d := d) (by omega) hc0, b1, b2.2.1, bitC]
      · unfold f5_drop
        simp (disch := omega) only [lit, nlt, nle, neq, nI_add, pk_mul, nm_u, bS, gd_d, oc_none, oc_some, rd_n, wr_n, if_pos, if_neg, ite_true, ite_false, not_true_eq_false, not_false_eq_true, g1, g2, g3, g4, h1, h2, h3, h4, isPin_in hP hk, wk, w0, c, hm0, rem_m (MM := MM) (d := d) hfu (by omega) hm0, sF_q, hth, bits_m hfu]
      · exact hR.deed hA hR0 hT hP hK (by omega) hH hah hnw hok hgn b3 b6 b4 b5 b2 (fun q a b e => by rw [g2 b, g2 a, sF_q e]) (fun i hi => by rw [g2 (by omega), g3 hi, sF_q (by omega)]) rfl (by rw [g2 (by omega), g1]) hm5 (fun y => by rw [g2 (by omega), g2 (by omega), sF_1, Nat.add_zero])
  · have hb := bit_f (a := msk P.1 (fun k => st d (k + 1) == -nI 1)) (k := k) (by rw [msk_tbk hk]; simp [c]) (by omega) (by omega)
    refine ⟨-4, MC, MM, ?_, ?_, hR⟩
    · unfold f4_drop
      simp (disch := omega) only [lit, nlt, nle, neq, nI_add, pk_mul, nm_u, bS, gd_d, oc_none, oc_some, rd_n, wr_n, if_pos, if_neg, ite_true, ite_false, not_true_eq_false, not_false_eq_true, g1, g2, g3, g4, h1, h2, h3, h4, ior, iand, shl_n, Nat.or_zero, has2_in hP hk, hp.2.1, hb]
    · unfold f5_drop
      simp (disch := omega) only [lit, nlt, nle, neq, nI_add, pk_mul, nm_u, bS, gd_d, oc_none, oc_some, rd_n, wr_n, if_pos, if_neg, ite_true, ite_false, not_true_eq_false, not_false_eq_true, g1, g2, g3, g4, h1, h2, h3, h4, isPin_in hP hk, wk, w0, c]
theorem m4_eq : (-nI 4 = nI 0) = False := by decide
theorem m2_eq : (-nI 2 = nI 0) = False := by decide
def cnt (n : Nat) (f : Nat → Bool) : Nat := fo (fun k a => if f k then a + 1 else a) n 0
theorem cnt_s (n : Nat) (f : Nat → Bool) : cnt (n + 1) f = if f n then cnt n f + 1 else cnt n f := rfl
theorem pcn_msk {n : Nat} (hn : n ≤ 8) (f : Nat → Bool) : pcn (msk n f) = cnt n f := by
  have h1 : ∀ m, m ≤ n → fo (fun k a => if (msk n f).testBit k then a + 1 else a) m 0 = cnt m f := by
    intro m
    induction m with
    | zero => intro _; rfl
    | succ m ih =>
      intro h
      show (if (msk n f).testBit m then fo (fun k a => if (msk n f).testBit k then a + 1 else a) m 0 + 1 else fo (fun k a => if (msk n f).testBit k then a + 1 else a) m 0) = _
      rw [ih (by omega), msk_tbk (by omega), cnt_s]
  have h2 : ∀ e, fo (fun k a => if (msk n f).testBit k then a + 1 else a) (n + e) 0 = cnt n f := by
    intro e
    induction e with
    | zero => exact h1 n (Nat.le_refl n)
    | succ e ih =>
      show (if (msk n f).testBit (n + e) then fo (fun k a => if (msk n f).testBit k then a + 1 else a) (n + e) 0 + 1 else fo (fun k a => if (msk n f).testBit k then a + 1 else a) (n + e) 0) = _
      rw [ih, msk_tb]
      simp
      intro h
      omega
  have h3 := h2 (8 - n)
  rw [show n + (8 - n) = 8 by omega] at h3
  exact h3
theorem ap2_0 {s : Nat → Int32} : ap (nI 2) s 0 = s 0 := by
  simp only [ap]
  simp (disch := omega) only [lit, nlt, nle, neq, nI_add, pk_mul, nm_u, bS, gd_d, oc_none, oc_some, rd_n, wr_n, if_pos, if_neg, ite_true, ite_false, not_true_eq_false, not_false_eq_true, g1, g2, g3, g4, h1, h2, h3, h4]
theorem ap2_k {n k : Nat} {s : Nat → Int32} : ap (nI 2) s (k + 1) = if s (k + 1) = s 0 then -nI 2 else s (k + 1) := by
  simp only [ap]
  rw [if_pos trivial]
theorem sweep_l {fu n : Nat} {s : Nat → Int32} (hn : n ≤ 8) : ∀ (e i f : Nat) (M : Mem), i + e = n → e < f → M.1 0 9 = nI n → (∀ j, j ≤ n → M.1 10 j = if j ≤ i then ap (nI 2) s j else s j) → ∃ M', f5_sweep_20 fu f (nI (cnt i (fun k => s (k + 1) == s 0))) (nI i) M = some (M', nI (cnt n (fun k => s (k + 1) == s 0))) ∧ (∀ q, q ≠ 10 → M'.1 q = M.1 q) ∧ M'.2 = M.2 ∧ ∀ j, j ≤ n → M'.1 10 j = ap (nI 2) s j := by
  intro e
  induction e with
  | zero =>
    intro i f M h hf h9 h10
    rcases f with _ | f
    · omega
    have : i = n := by omega
    subst this
    refine ⟨M, ?_, fun _ _ => rfl, rfl, fun j hj => by rw [h10 j hj, if_pos hj]⟩
    rw [f5_sweep_20]
    simp (disch := omega) only [lit, nlt, nle, neq, nI_add, pk_mul, nm_u, bS, gd_d, oc_none, oc_some, rd_n, wr_n, if_pos, if_neg, ite_true, ite_false, not_true_eq_false, not_false_eq_true, g1, g2, g3, g4, h1, h2, h3, h4, h9]
  | succ e ih =>
    intro i f M h hf h9 h10
    rcases f with _ | f
    · omega
    have r0 : M.1 10 0 = s 0 := by rw [h10 0 (by omega), if_pos (by omega), ap2_0]
    have r1 : M.1 10 (1 + i) = s (i + 1) := by rw [show 1 + i = i + 1 by omega, h10 (i + 1) (by omega), if_neg (by omega)]
    by_cases c : s (i + 1) = s 0
    · have ec : cnt (i + 1) (fun k => s (k + 1) == s 0) = cnt i (fun k => s (k + 1) == s 0) + 1 := by
        rw [cnt_s]; simp [c]
      obtain ⟨M', a1, a2, a3, a4⟩ := ih (i + 1) f (sI M 10 (1 + i) (-nI 2)) (by omega) (by omega) (by rw [g2 (by omega)]; exact h9) (fun j hj => by
        by_cases q : j = i + 1
        · subst q; rw [if_pos (by omega), show 1 + i = i + 1 by omega, g1, ap2_k (n := 0), if_pos c]
        · rw [g3 (by omega), h10 j hj]
          by_cases q2 : j ≤ i
          · rw [if_pos q2, if_pos (by omega)]
          · rw [if_neg q2, if_neg (by omega)])
      refine ⟨M', ?_, fun q hq => by rw [a2 q hq, g2 hq], a3, a4⟩
      rw [ec] at a1
      rw [f5_sweep_20]
      simp (disch := omega) only [lit, nlt, nle, neq, nI_add, pk_mul, nm_u, bS, gd_d, oc_none, oc_some, rd_n, wr_n, if_pos, if_neg, ite_true, ite_false, not_true_eq_false, not_false_eq_true, g1, g2, g3, g4, h1, h2, h3, h4, h9, r0, r1, c]
      exact a1
    · have ec : cnt (i + 1) (fun k => s (k + 1) == s 0) = cnt i (fun k => s (k + 1) == s 0) := by
        rw [cnt_s]; simp [c]
      obtain ⟨M', a1, a2, a3, a4⟩ := ih (i + 1) f M (by omega) (by omega) h9 (fun j hj => by
        rw [h10 j hj]
        by_cases q : j = i + 1
        · subst q; rw [if_neg (by omega), if_pos (by omega), ap2_k (n := 0), if_neg c]
        · by_cases q2 : j ≤ i
          · rw [if_pos q2, if_pos (by omega)]
          · rw [if_neg q2, if_neg (by omega)])
      refine ⟨M', ?_, a2, a3, a4⟩
      rw [ec] at a1
      rw [f5_sweep_20]
      simp (disch := omega) only [lit, nlt, nle, neq, nI_add, pk_mul, nm_u, bS, gd_d, oc_none, oc_some, rd_n, wr_n, if_pos, if_neg, ite_true, ite_false, not_true_eq_false, not_false_eq_true, g1, g2, g3, g4, h1, h2, h3, h4, h9, r0, r1, c]
      exact a1
theorem s_sweep {fu : Nat} (hfu : 10000 ≤ fu) : Sim_sweep fu Rel := by
  intro MC MM hR
  obtain ⟨P, hA, hR0, hT, hP, ⟨d, st, hd, hc0, hm0, hH, hah, hnw, hp⟩, hK⟩ := id hR
  have h8 := hP.1
  have hg := hH.2.2.2.1 d (Nat.le_refl d)
  have hl := msk_256 h8 (fun k => st d (k + 1) == st d 0)
  by_cases hn : P.1 = 0
  · refine ⟨-4, MC, MM, ?_, ?_, hR⟩
    · unfold f4_sweep
      simp (disch := omega) only [lit, nlt, nle, neq, nI_add, pk_mul, nm_u, bS, gd_d, oc_none, oc_some, rd_n, wr_n, if_pos, if_neg, ite_true, ite_false, not_true_eq_false, not_false_eq_true, g1, g2, g3, g4, h1, h2, h3, h4, hP.2.1]
    · unfold f5_sweep f5_refuses
      simp (disch := omega) only [lit, nlt, nle, neq, nI_add, pk_mul, nm_u, bS, gd_d, oc_none, oc_some, rd_n, wr_n, if_pos, if_neg, ite_true, ite_false, not_true_eq_false, not_false_eq_true, g1, g2, g3, g4, h1, h2, h3, h4, hP.2.2.1, m4_eq]
  by_cases hd4 : d = 40
  · subst hd4
    refine ⟨-2, MC, MM, ?_, ?_, hR⟩
    · unfold f4_sweep
      simp (disch := omega) only [lit, nlt, nle, neq, nI_add, pk_mul, nm_u, bS, gd_d, oc_none, oc_some, rd_n, wr_n, if_pos, if_neg, ite_true, ite_false, not_true_eq_false, not_false_eq_true, g1, g2, g3, g4, h1, h2, h3, h4, hP.2.1, room_f hc0]
    · unfold f5_sweep f5_refuses
      simp (disch := omega) only [lit, nlt, nle, neq, nI_add, pk_mul, nm_u, bS, gd_d, oc_none, oc_some, rd_n, wr_n, if_pos, if_neg, ite_true, ite_false, not_true_eq_false, not_false_eq_true, g1, g2, g3, g4, h1, h2, h3, h4, hP.2.2.1, hm0, m2_eq]
  have hok : okc P.1 (nI 2) (st d) := Or.inr (Or.inr (Or.inl rfl))
  have hgn : gst P.1 (ap (nI 2) (st d)) := by
    refine ⟨by rw [ap2_0]; exact hg.1, fun j hj => ?_⟩
    rw [ap2_k (n := 0)]
    by_cases q : st d (j + 1) = st d 0
    · rw [if_pos q]; exact Or.inr (Or.inl rfl)
    · rw [if_neg q]; exact hg.2 j hj
  obtain ⟨MC', b1, b2, b3, b4, b5, b6⟩ := enact_c (fu := fu) hfu (by omega) hc0 hP hg hp hok
  obtain ⟨M', a1, a2, a3, a4⟩ := sweep_l (fu := fu) (n := P.1) (s := st d) h8 P.1 0 fu (sI (sF MM 11 (fun x => if 9 * d + 0 ≤ x ∧ x < 9 * d + 9 then MM.1 10 (x - 9 * d) else MM.1 11 x)) 0 16 (nI (d + 1))) (by omega) (by omega) (by rw [g3 (by omega), sF_q (by omega)]; exact hP.2.2.1) (fun j hj => by
    rw [g2 (by omega), sF_q (by omega), hnw j hj]
    by_cases q : j ≤ 0
    · have : j = 0 := by omega
      subst this
      rw [if_pos q, ap2_0]
    · rw [if_neg q])
  refine ⟨nI (cnt P.1 (fun k => st d (k + 1) == st d 0)), MC', M', ?_, ?_, ?_⟩
  · unfold f4_sweep
    simp (disch := omega) only [lit, nlt, nle, neq, nI_add, pk_mul, nm_u, bS, gd_d, oc_none, oc_some, rd_n, wr_n, if_pos, if_neg, ite_true, ite_false, not_true_eq_false, not_false_eq_true, g1, g2, g3, g4, h1, h2, h3, h4, hP.2.1, room_t (d := d) (by omega) hc0, lyingHere_c hfu hP hg hp, bitC, b1, pcn_msk h8]
  · unfold f5_sweep f5_refuses
    simp (disch := omega) only [lit, nlt, nle, neq, nI_add, pk_mul, nm_u, bS, gd_d, oc_none, oc_some, rd_n, wr_n, if_pos, if_neg, ite_true, ite_false, not_true_eq_false, not_false_eq_true, g1, g2, g3, g4, h1, h2, h3, h4, hP.2.2.1, hm0, rem_m (MM := MM) (d := d) hfu (by omega) hm0]
    exact a1
  · exact hR.deed hA hR0 hT hP hK (by omega) hH hah hnw hok hgn b3 b6 b4 b5 b2 (fun q a b e => by rw [a2 q b, g2 a, sF_q e]) (fun i hi => by rw [a2 0 (by omega), g3 hi, sF_q (by omega)]) (by rw [a3]; rfl) (by rw [a2 0 (by omega), g1]) a4 (fun y => by rw [a2 11 (by omega), g2 (by omega), sF_1, Nat.add_zero])
