/-! 21: step, pick, drop, sweep -/
theorem room_t {MC : Mem} {d : Nat} (hd : d < 40) (h : MC.1 23 0 = nI d) : f3_hasRoomFor MC (nI 1) = some (nI 1) := by
  unfold f3_hasRoomFor
  simp (disch := omega) only [lit, nlt, nle, neq, nI_add, pk_mul, nm_u, bS, gd_d, oc_none, oc_some, rd_n, wr_n, if_pos, if_neg, ite_true, ite_false, not_true_eq_false, not_false_eq_true, g1, g2, g3, g4, h1, h2, h3, h4, h]
theorem room_f {MC : Mem} (h : MC.1 23 0 = nI 40) : f3_hasRoomFor MC (nI 1) = some (nI 0) := by
  unfold f3_hasRoomFor
  simp (disch := omega) only [lit, nlt, nle, neq, nI_add, pk_mul, nm_u, bS, gd_d, oc_none, oc_some, rd_n, wr_n, if_pos, if_neg, ite_true, ite_false, not_true_eq_false, not_false_eq_true, g1, g2, g3, g4, h1, h2, h3, h4, h]
theorem in_9 {q : Nat} (h : q < 10) : f5_in (nI q).toInt64 (0 : Int64) (9 : Int64) = some (nI 1) := by
  rw [show (9 : Int64) = (nI 9).toInt64 by decide]
  exact in_in (by omega) (by omega)
theorem step_go {fu : Nat} (hfu : 10000 ≤ fu) {MC MM : Mem} (hR : Rel MC MM) {P : PD} {d : Nat} {st : Nat → Nat → Int32} {x c : Int32} {q : Nat} (hA : GA MC MM) (hR0 : GR MC MM) (hT : GT MC MM) (hP : GP P MC MM) (hK : GK P MC MM) (hd : d ≤ 40) (hc0 : MC.1 23 0 = nI d) (hm0 : MM.1 0 16 = nI d) (hH : Hist P (MC.1 27) d st) (hah : ∀ i, i < d → ∀ j, j ≤ P.1 → MM.1 11 (9 * i + j) = st i j) (hnw : ∀ j, j ≤ P.1 → MM.1 10 j = st d j) (hp : pic P (st d) (MC.1 33 2) (MC.1 33 3) (MC.1 33 4) (MC.1 34)) (hn : 0 < P.1) (hq : q < 10) (hx : st d 0 + x = nI q) (hxc : (x = nI 1 ∧ c = nI 0) ∨ (x = -nI 1 ∧ c = nI 1)) (hap : ap c (st d) 0 = nI q) (hapk : ∀ k, ap c (st d) (k + 1) = st d (k + 1) ∨ P.1 ≤ k) : ∃ (r : Int32) (MC' MM' : Mem), f4_step_12 fu x MC = some (MC', r) ∧ f5_step_12 fu x MM = some (MM', r) ∧ Rel MC' MM' := by
  have h8 := hP.1
  have hg := hH.2.2.2.1 d (Nat.le_refl d)
  have w0 := hnw 0 (by omega)
  by_cases hd4 : d = 40
  · subst hd4
    refine ⟨-2, MC, MM, ?_, ?_, hR⟩
    · unfold f4_step_12
      simp (disch := omega) only [lit, nlt, nle, neq, nI_add, pk_mul, nm_u, bS, gd_d, oc_none, oc_some, rd_n, wr_n, if_pos, if_neg, ite_true, ite_false, not_true_eq_false, not_false_eq_true, g1, g2, g3, g4, h1, h2, h3, h4, hp.1, hx, hP.2.1, room_f hc0]
    · unfold f5_step_12
      simp (disch := omega) only [lit, nlt, nle, neq, nI_add, pk_mul, nm_u, bS, gd_d, oc_none, oc_some, rd_n, wr_n, if_pos, if_neg, ite_true, ite_false, not_true_eq_false, not_false_eq_true, g1, g2, g3, g4, h1, h2, h3, h4, hP.2.2.1, w0, hx, in_9, hm0]
  · have hgn : gst P.1 (ap c (st d)) := by
      refine ⟨⟨q, hq, hap⟩, fun k hk => ?_⟩
      rcases hapk k with e | e
      · rw [e]; exact hg.2 k hk
      · omega
    have hok : okc P.1 c (st d) := by
      rcases hxc with ⟨-, e⟩ | ⟨-, e⟩
      · exact Or.inl e
      · exact Or.inr (Or.inl e)
    obtain ⟨MC', b1, b2, b3, b4, b5, b6⟩ := enact_c (fu := fu) hfu (by omega) hc0 hP hg hp hok
    refine ⟨nI q, MC', sI (sI (sF MM 11 (fun x => if 9 * d + 0 ≤ x ∧ x < 9 * d + 9 then MM.1 10 (x - 9 * d) else MM.1 11 x)) 0 16 (nI (d + 1))) 10 0 (nI q), ?_, ?_, ?_⟩
    · unfold f4_step_12
      have e9 : MC'.1 33 2 = nI q := by rw [b2.1, hap]
      rcases hxc with ⟨e1, e2⟩ | ⟨e1, e2⟩
      · subst e1; subst e2
        simp (disch := omega) only [lit, nlt, nle, neq, nI_add, pk_mul, nm_u, bS, gd_d, oc_none, oc_some, rd_n, wr_n, if_pos, if_neg, ite_true, ite_false, not_true_eq_false, not_false_eq_true, g1, g2, g3, g4, h1, h2, h3, h4, hp.1, hx, hP.2.1, room_t (d := d) (by omega) hc0, f4_step_76, b1, e9]
      · subst e1; subst e2
        have e3 : (-nI 1 = nI 1) = False := by decide
        simp (disch := omega) only [lit, nlt, nle, neq, nI_add, pk_mul, nm_u, bS, gd_d, oc_none, oc_some, rd_n, wr_n, if_pos, if_neg, ite_true, ite_false, not_true_eq_false, not_false_eq_true, g1, g2, g3, g4, h1, h2, h3, h4, hp.1, hx, hP.2.1, room_t (d := d) (by omega) hc0, f4_step_76, b1, e9, e3]
    · unfold f5_step_12
      simp (disch := omega) only [lit, nlt, nle, neq, nI_add, pk_mul, nm_u, bS, gd_d, oc_none, oc_some, rd_n, wr_n, if_pos, if_neg, ite_true, ite_false, not_true_eq_false, not_false_eq_true, g1, g2, g3, g4, h1, h2, h3, h4, hP.2.2.1, w0, hx, in_9, hm0, rem_m (MM := MM) (d := d) hfu (by omega) hm0, sF_q]
    · refine hR.deed hA hR0 hT hP hK (by omega) hH hah hnw hok hgn b3 b6 b4 b5 b2 (fun q a b e => by rw [g2 b, g2 a, sF_q e]) (fun i hi => by rw [g2 (by omega), g3 hi, sF_q (by omega)]) rfl (by rw [g2 (by omega), g1]) (fun j hj => ?_) (fun y => ?_)
      · rcases j with _ | j
        · rw [g1, hap]
        · rw [g3 (by omega), g2 (by omega), sF_q (by omega), hnw (j + 1) hj]
          rcases hapk j with e | e
          · exact e.symm
          · omega
      · rw [g2 (by omega), g2 (by omega), sF_1, Nat.add_zero]
theorem s_step {fu : Nat} (hfu : 10000 ≤ fu) : Sim_step fu Rel := by
  intro MC MM a0 hR
  obtain ⟨P, hA, hR0, hT, hP, ⟨d, st, hd, hc0, hm0, hH, hah, hnw, hp⟩, hK⟩ := id hR
  have h8 := hP.1
  have hg := hH.2.2.2.1 d (Nat.le_refl d)
  have w0 := hnw 0 (by omega)
  obtain ⟨p, hp10, e0⟩ := hg.1
  have e3 : (-nI 1 = nI 1) = False := by decide
  by_cases c1 : a0 = nI 1
  · subst c1
    have red : ∀ X Y, f4_step fu (nI 1) X = f4_step_12 fu (nI 1) X ∧ f5_step fu (nI 1) Y = f5_step_12 fu (nI 1) Y := by
      intro X Y
      unfold f4_step f5_step
      simp (disch := omega) only [lit, nlt, nle, neq, nI_add, pk_mul, nm_u, bS, gd_d, oc_none, oc_some, rd_n, wr_n, if_pos, if_neg, ite_true, ite_false, not_true_eq_false, not_false_eq_true, g1, g2, g3, g4, h1, h2, h3, h4]
      exact ⟨trivial, trivial⟩
    rw [(red MC MM).1, (red MC MM).2]
    by_cases hn : P.1 = 0
    · refine ⟨-4, MC, MM, ?_, ?_, hR⟩
      · unfold f4_step_12
        simp (disch := omega) only [lit, nlt, nle, neq, nI_add, pk_mul, nm_u, bS, gd_d, oc_none, oc_some, rd_n, wr_n, if_pos, if_neg, ite_true, ite_false, not_true_eq_false, not_false_eq_true, g1, g2, g3, g4, h1, h2, h3, h4, hP.2.1]
      · unfold f5_step_12
        simp (disch := omega) only [lit, nlt, nle, neq, nI_add, pk_mul, nm_u, bS, gd_d, oc_none, oc_some, rd_n, wr_n, if_pos, if_neg, ite_true, ite_false, not_true_eq_false, not_false_eq_true, g1, g2, g3, g4, h1, h2, h3, h4, hP.2.2.1]
    · by_cases hq : p + 1 < 10
      · refine step_go hfu hR (x := nI 1) (c := nI 0) (q := p + 1) hA hR0 hT hP hK hd hc0 hm0 hH hah hnw hp (by omega) hq (by rw [e0, nI_add]) (Or.inl ⟨rfl, rfl⟩) ?_ (fun k => ?_)
        · simp only [ap]
          simp (disch := omega) only [lit, nlt, nle, neq, nI_add, pk_mul, nm_u, bS, gd_d, oc_none, oc_some, rd_n, wr_n, if_pos, if_neg, ite_true, ite_false, not_true_eq_false, not_false_eq_true, g1, g2, g3, g4, h1, h2, h3, h4, e0]
        · by_cases hk : k < P.1
          · refine Or.inl ?_
            simp only [ap]
            simp (disch := omega) only [lit, nlt, nle, neq, nI_add, pk_mul, nm_u, bS, gd_d, oc_none, oc_some, rd_n, wr_n, if_pos, if_neg, ite_true, ite_false, not_true_eq_false, not_false_eq_true, g1, g2, g3, g4, h1, h2, h3, h4]
          · exact Or.inr (by omega)
      · refine ⟨-4, MC, MM, ?_, ?_, hR⟩
        · unfold f4_step_12
          simp (disch := omega) only [lit, nlt, nle, neq, nI_add, pk_mul, nm_u, bS, gd_d, oc_none, oc_some, rd_n, wr_n, if_pos, if_neg, ite_true, ite_false, not_true_eq_false, not_false_eq_true, g1, g2, g3, g4, h1, h2, h3, h4, hp.1, e0, hP.2.1]
        · unfold f5_step_12
          have e9 : f5_in (nI (p + 1)).toInt64 (0 : Int64) (9 : Int64) = some (nI 0) := by
            rw [show (9 : Int64) = (nI 9).toInt64 by decide]
            exact in_out (by omega) (Or.inr ⟨by rw [nlt (by omega) (by omega)]; omega, by rw [nle (by omega) (by omega)]; omega⟩)
          simp (disch := omega) only [lit, nlt, nle, neq, nI_add, pk_mul, nm_u, bS, gd_d, oc_none, oc_some, rd_n, wr_n, if_pos, if_neg, ite_true, ite_false, not_true_eq_false, not_false_eq_true, g1, g2, g3, g4, h1, h2, h3, h4, hP.2.2.1, w0, e0, e9]
  · by_cases c2 : a0 = -nI 1
    · subst c2
      have red : ∀ X Y, f4_step fu (-nI 1) X = f4_step_12 fu (-nI 1) X ∧ f5_step fu (-nI 1) Y = f5_step_12 fu (-nI 1) Y := by
        intro X Y
        unfold f4_step f5_step
        simp (disch := omega) only [lit, nlt, nle, neq, nI_add, pk_mul, nm_u, bS, gd_d, oc_none, oc_some, rd_n, wr_n, if_pos, if_neg, ite_true, ite_false, not_true_eq_false, not_false_eq_true, g1, g2, g3, g4, h1, h2, h3, h4, e3]
        exact ⟨trivial, trivial⟩
      rw [(red MC MM).1, (red MC MM).2]
      by_cases hn : P.1 = 0
      · refine ⟨-4, MC, MM, ?_, ?_, hR⟩
        · unfold f4_step_12
          simp (disch := omega) only [lit, nlt, nle, neq, nI_add, pk_mul, nm_u, bS, gd_d, oc_none, oc_some, rd_n, wr_n, if_pos, if_neg, ite_true, ite_false, not_true_eq_false, not_false_eq_true, g1, g2, g3, g4, h1, h2, h3, h4, hP.2.1]
        · unfold f5_step_12
          simp (disch := omega) only [lit, nlt, nle, neq, nI_add, pk_mul, nm_u, bS, gd_d, oc_none, oc_some, rd_n, wr_n, if_pos, if_neg, ite_true, ite_false, not_true_eq_false, not_false_eq_true, g1, g2, g3, g4, h1, h2, h3, h4, hP.2.2.1]
      · by_cases hq : 0 < p
        · have em : nI p + -nI 1 = nI (p - 1) := by
            rw [← Int32.sub_eq_add_neg, pk_sub (by omega)]
          refine step_go hfu hR (x := -nI 1) (c := nI 1) (q := p - 1) hA hR0 hT hP hK hd hc0 hm0 hH hah hnw hp (by omega) (by omega) (by rw [e0, em]) (Or.inr ⟨rfl, rfl⟩) ?_ (fun k => ?_)
          · simp only [ap]
            simp (disch := omega) only [lit, nlt, nle, neq, nI_add, pk_mul, nm_u, bS, gd_d, oc_none, oc_some, rd_n, wr_n, if_pos, if_neg, ite_true, ite_false, not_true_eq_false, not_false_eq_true, g1, g2, g3, g4, h1, h2, h3, h4, e0, pk_sub]
          · by_cases hk : k < P.1
            · refine Or.inl ?_
              simp only [ap]
              simp (disch := omega) only [lit, nlt, nle, neq, nI_add, pk_mul, nm_u, bS, gd_d, oc_none, oc_some, rd_n, wr_n, if_pos, if_neg, ite_true, ite_false, not_true_eq_false, not_false_eq_true, g1, g2, g3, g4, h1, h2, h3, h4]
            · exact Or.inr (by omega)
        · have hp0 : p = 0 := by omega
          subst hp0
          have em : nI 0 + -nI 1 = -nI 1 := by decide
          refine ⟨-4, MC, MM, ?_, ?_, hR⟩
          · unfold f4_step_12
            simp (disch := omega) only [lit, nlt, nle, neq, nI_add, pk_mul, nm_u, bS, gd_d, oc_none, oc_some, rd_n, wr_n, if_pos, if_neg, ite_true, ite_false, not_true_eq_false, not_false_eq_true, g1, g2, g3, g4, h1, h2, h3, h4, hp.1, e0, hP.2.1, em, m1_lt]
          · unfold f5_step_12
            have e9 : f5_in (-nI 1).toInt64 (0 : Int64) (9 : Int64) = some (nI 0) := by decide
            simp (disch := omega) only [lit, nlt, nle, neq, nI_add, pk_mul, nm_u, bS, gd_d, oc_none, oc_some, rd_n, wr_n, if_pos, if_neg, ite_true, ite_false, not_true_eq_false, not_false_eq_true, g1, g2, g3, g4, h1, h2, h3, h4, hP.2.2.1, w0, e0, em, e9]
    · refine ⟨-1, MC, MM, ?_, ?_, hR⟩
      · unfold f4_step
        simp (disch := omega) only [lit, nlt, nle, neq, nI_add, pk_mul, nm_u, bS, gd_d, oc_none, oc_some, rd_n, wr_n, if_pos, if_neg, ite_true, ite_false, not_true_eq_false, not_false_eq_true, g1, g2, g3, g4, h1, h2, h3, h4, c1, c2]
      · unfold f5_step
        simp (disch := omega) only [lit, nlt, nle, neq, nI_add, pk_mul, nm_u, bS, gd_d, oc_none, oc_some, rd_n, wr_n, if_pos, if_neg, ite_true, ite_false, not_true_eq_false, not_false_eq_true, g1, g2, g3, g4, h1, h2, h3, h4, c1, c2]
theorem s_pick {fu : Nat} (hfu : 10000 ≤ fu) : Sim_pick fu Rel := by
  intro MC MM a0 hR
  obtain ⟨P, hA, hR0, hT, hP, ⟨d, st, hd, hc0, hm0, hH, hah, hnw, hp⟩, hK⟩ := id hR
  have h8 := hP.1
  have hg := hH.2.2.2.1 d (Nat.le_refl d)
  rcases tri a0 P.1 (by omega) with h | ⟨k, hk, rfl⟩
  · refine ⟨-1, MC, MM, ?_, ?_, hR⟩
    · unfold f4_pick
      simp (disch := omega) only [lit, nlt, nle, neq, nI_add, pk_mul, nm_u, bS, gd_d, oc_none, oc_some, rd_n, wr_n, if_pos, if_neg, ite_true, ite_false, not_true_eq_false, not_false_eq_true, g1, g2, g3, g4, h1, h2, h3, h4, has2_out hP h]
    · unfold f5_pick
      simp (disch := omega) only [lit, nlt, nle, neq, nI_add, pk_mul, nm_u, bS, gd_d, oc_none, oc_some, rd_n, wr_n, if_pos, if_neg, ite_true, ite_false, not_true_eq_false, not_false_eq_true, g1, g2, g3, g4, h1, h2, h3, h4, isPin_out hP h]
  have w0 := hnw 0 (by omega)
  have wk : MM.1 10 (1 + k) = st d (k + 1) := by rw [show 1 + k = k + 1 by omega, hnw (k + 1) (by omega)]
  have hl := msk_256 h8 (fun k => st d (k + 1) == st d 0)
  by_cases c : st d (k + 1) = st d 0
  · have hb := bit_t (a := msk P.1 (fun k => st d (k + 1) == st d 0)) (k := k) (by rw [msk_tbk hk]; simp [c]) (by omega) (by omega)
    by_cases hd4 : d = 40
    · subst hd4
      refine ⟨-2, MC, MM, ?_, ?_, hR⟩
      · unfold f4_pick
        simp (disch := omega) only [lit, nlt, nle, neq, nI_add, pk_mul, nm_u, bS, gd_d, oc_none, oc_some, rd_n, wr_n, if_pos, if_neg, ite_true, ite_false, not_true_eq_false, not_false_eq_true, g1, g2, g3, g4, h1, h2, h3, h4, ior, iand, shl_n, Nat.or_zero, has2_in hP hk, lyingHere_c hfu hP hg hp, hb, room_f hc0]
      · unfold f5_pick
        simp (disch := omega) only [lit, nlt, nle, neq, nI_add, pk_mul, nm_u, bS, gd_d, oc_none, oc_some, rd_n, wr_n, if_pos, if_neg, ite_true, ite_false, not_true_eq_false, not_false_eq_true, g1, g2, g3, g4, h1, h2, h3, h4, isPin_in hP hk, wk, w0, c, hm0]
    · have hok : okc P.1 (nI (8 + k)) (st d) := Or.inr (Or.inr (Or.inr ⟨k, hk, Or.inl ⟨rfl, c⟩⟩))
      have ek : ∀ j, j < P.1 → ap (nI (8 + k)) (st d) (j + 1) = if j = k then -nI 1 else st d (j + 1) := by
        intro j hj
        simp only [ap]
        by_cases q : j = k
        · subst q; simp (disch := omega) only [lit, nlt, nle, neq, nI_add, pk_mul, nm_u, bS, gd_d, oc_none, oc_some, rd_n, wr_n, if_pos, if_neg, ite_true, ite_false, not_true_eq_false, not_false_eq_true, g1, g2, g3, g4, h1, h2, h3, h4]
        · simp (disch := omega) only [lit, nlt, nle, neq, nI_add, pk_mul, nm_u, bS, gd_d, oc_none, oc_some, rd_n, wr_n, if_pos, if_neg, ite_true, ite_false, not_true_eq_false, not_false_eq_true, g1, g2, g3, g4, h1, h2, h3, h4]
      have ek0 : ap (nI (8 + k)) (st d) 0 = st d 0 := by
        simp only [ap]
        simp (disch := omega) only [lit, nlt, nle, neq, nI_add, pk_mul, nm_u, bS, gd_d, oc_none, oc_some, rd_n, wr_n, if_pos, if_neg, ite_true, ite_false, not_true_eq_false, not_false_eq_true, g1, g2, g3, g4, h1, h2, h3, h4]
      have hgn : gst P.1 (ap (nI (8 + k)) (st d)) := by
        refine ⟨by rw [ek0]; exact hg.1, fun j hj => ?_⟩
        rw [ek j hj]
        by_cases q : j = k
        · rw [if_pos q]; exact Or.inl rfl
        · rw [if_neg q]; exact hg.2 j hj
      obtain ⟨MC', b1, b2, b3, b4, b5, b6⟩ := enact_c (fu := fu) hfu (by omega) hc0 hP hg hp hok
      have hm5 : ∀ j, j ≤ P.1 → (sI (sI (sF MM 11 (fun x => if 9 * d + 0 ≤ x ∧ x < 9 * d + 9 then MM.1 10 (x - 9 * d) else MM.1 11 x)) 0 16 (nI (d + 1))) 10 (1 + k) (-nI 1)).1 10 j = ap (nI (8 + k)) (st d) j := by
        intro j hj
        rcases j with _ | j
        · rw [g3 (by omega), g2 (by omega), sF_q (by omega), ek0, w0]
        · rw [ek j (by omega)]
          by_cases q : j = k
          · subst q; rw [if_pos rfl, show 1 + j = j + 1 by omega, g1]
          · rw [if_neg q, g3 (by omega), g2 (by omega), sF_q (by omega), hnw (j + 1) hj]
      have hth := those_m (P := P) (w := -nI 1) (MM := sI (sI (sF MM 11 (fun x => if 9 * d + 0 ≤ x ∧ x < 9 * d + 9 then MM.1 10 (x - 9 * d) else MM.1 11 x)) 0 16 (nI (d + 1))) 10 (1 + k) (-nI 1)) (s := ap (nI (8 + k)) (st d)) hfu h8 (by rw [g2 (by omega), g3 (by omega), sF_q (by omega)]; exact hP.2.2.1) hm5 (by decide)
      have hl2 := msk_256 h8 (fun j => ap (nI (8 + k)) (st d) (j + 1) == -nI 1)
      refine ⟨nI (pcn (msk P.1 (fun j => ap (nI (8 + k)) (st d) (j + 1) == -nI 1))), MC', sI (sI (sF MM 11 (fun x => if 9 * d + 0 ≤ x ∧ x < 9 * d + 9 then MM.1 10 (x - 9 * d) else MM.1 11 x)) 0 16 (nI (d + 1))) 10 (1 + k) (-nI 1), ?_, ?_, ?_⟩
      · unfold f4_pick
        simp (disch := omega) only [lit, nlt, nle, neq, nI_add, pk_mul, nm_u, bS, gd_d, oc_none, oc_some, rd_n, wr_n, if_pos, if_neg, ite_true, ite_false, not_true_eq_false, not_false_eq_true, g1, g2, g3, g4, h1, h2, h3, h4, ior, iand, shl_n, Nat.or_zero, has2_in hP hk, lyingHere_c hfu hP hg hp, hb, room_t (d := d) (by omega) hc0, b1, b2.2.1, bitC]
      · unfold f5_pick
        simp (disch := omega) only [lit, nlt, nle, neq, nI_add, pk_mul, nm_u, bS, gd_d, oc_none, oc_some, rd_n, wr_n, if_pos, if_neg, ite_true, ite_false, not_true_eq_false, not_false_eq_true, g1, g2, g3, g4, h1, h2, h3, h4, isPin_in hP hk, wk, w0, c, hm0, rem_m (MM := MM) (d := d) hfu (by omega) hm0, hth, bits_m hfu]
      · exact hR.deed hA hR0 hT hP hK (by omega) hH hah hnw hok hgn b3 b6 b4 b5 b2 (fun q a b e => by rw [g2 b, g2 a, sF_q e]) (fun i hi => by rw [g2 (by omega), g3 hi, sF_q (by omega)]) rfl (by rw [g2 (by omega), g1]) hm5 (fun y => by rw [g2 (by omega), g2 (by omega), sF_1, Nat.add_zero])
  · have hb := bit_f (a := msk P.1 (fun k => st d (k + 1) == st d 0)) (k := k) (by rw [msk_tbk hk]; simp [c]) (by omega) (by omega)
    refine ⟨-4, MC, MM, ?_, ?_, hR⟩
    · unfold f4_pick
      simp (disch := omega) only [lit, nlt, nle, neq, nI_add, pk_mul, nm_u, bS, gd_d, oc_none, oc_some, rd_n, wr_n, if_pos, if_neg, ite_true, ite_false, not_true_eq_false, not_false_eq_true, g1, g2, g3, g4, h1, h2, h3, h4, ior, iand, shl_n, Nat.or_zero, has2_in hP hk, lyingHere_c hfu hP hg hp, hb]
    · unfold f5_pick
      simp (disch := omega) only [lit, nlt, nle, neq, nI_add, pk_mul, nm_u, bS, gd_d, oc_none, oc_some, rd_n, wr_n, if_pos, if_neg, ite_true, ite_false, not_true_eq_false, not_false_eq_true, g1, g2, g3, g4, h1, h2, h3, h4, isPin_in hP hk, wk, w0, c]
