/-! 32: lots -/
def rmM (MM : Mem) (d : Nat) : Mem := sI (sF MM 11 (fun x => if 9 * d + 0 ≤ x ∧ x < 9 * d + 9 then MM.1 10 (x - 9 * d) else MM.1 11 x)) 0 16 (nI (d + 1))
theorem rmM_10 {MM : Mem} {d j : Nat} : (rmM MM d).1 10 j = MM.1 10 j := by
  unfold rmM; rw [g2 (by omega), sF_q (by omega)]
theorem rem_r {fu d : Nat} {MM : Mem} (hfu : 10000 ≤ fu) (hd : d < 40) (h : MM.1 0 16 = nI d) : f5_remember fu MM = some (rmM MM d) := rem_m hfu hd h
/-- a deed on both sides, that puts one cell of now -/
theorem deed_cm {fu d ix : Nat} {P : PD} {MC MM : Mem} {st : Nat → Nat → Int32} {c v : Int32} (hfu : 10000 ≤ fu) (hR : Rel MC MM) (hA : GA MC MM) (hR0 : GR MC MM) (hT : GT MC MM) (hP : GP P MC MM) (hK : GK P MC MM) (hd : d < 40) (hc0 : MC.1 23 0 = nI d) (hH : Hist P (MC.1 27) d st) (hah : ∀ i, i < d → ∀ j, j ≤ P.1 → MM.1 11 (9 * i + j) = st i j) (hnw : ∀ j, j ≤ P.1 → MM.1 10 j = st d j) (hp : pic P (st d) (MC.1 33 2) (MC.1 33 3) (MC.1 33 4) (MC.1 34)) (hok : okc P.1 c (st d)) (hgn : gst P.1 (ap c (st d))) (hv : ∀ j, j ≤ P.1 → ap c (st d) j = if j = ix then v else st d j) : ∃ MC', f3_enact fu c MC = some MC' ∧ Rel MC' (sI (rmM MM d) 10 ix v) ∧ MC'.1 23 0 = nI (d + 1) ∧ MC'.1 35 = MC.1 35 := by
  have hg := hH.2.2.2.1 d (Nat.le_refl d)
  obtain ⟨MC', b1, b2, b3, b4, b5, b6⟩ := enact_c (fu := fu) hfu hd hc0 hP hg hp hok
  refine ⟨MC', b1, ?_, b4, b3 35 (by omega) (by omega) (by omega) (by omega)⟩
  unfold rmM
  refine hR.deed hA hR0 hT hP hK hd hH hah hnw hok hgn b3 b6 b4 b5 b2 (fun q a b e => by rw [g2 b, g2 a, sF_q e]) (fun i hi => by rw [g2 (by omega), g3 hi, sF_q (by omega)]) rfl (by rw [g2 (by omega), g1]) (fun j hj => ?_) (fun y => by rw [g2 (by omega), g2 (by omega), sF_1, Nat.add_zero])
  rw [hv j hj]
  by_cases q : j = ix
  · subst q; rw [if_pos rfl, g1]
  · rw [if_neg q, g3 q, g2 (by omega), sF_q (by omega), hnw j hj]
theorem ap_0 {s : Nat → Int32} {j : Nat} (hj : j ≤ 8) : ap (nI 0) s j = if j = 0 then s 0 + nI 1 else s j := by
  rcases j with _ | j
  · simp only [ap]
    simp (disch := omega) only [lit, nlt, nle, neq, nI_add, pk_mul, nm_u, bS, gd_d, oc_none, oc_some, rd_n, wr_n, if_pos, if_neg, ite_true, ite_false, not_true_eq_false, not_false_eq_true, g1, g2, g3, g4, h1, h2, h3, h4]
  · simp only [ap]
    simp (disch := omega) only [lit, nlt, nle, neq, nI_add, pk_mul, nm_u, bS, gd_d, oc_none, oc_some, rd_n, wr_n, if_pos, if_neg, ite_true, ite_false, not_true_eq_false, not_false_eq_true, g1, g2, g3, g4, h1, h2, h3, h4]
theorem ap_1 {s : Nat → Int32} {j : Nat} (hj : j ≤ 8) : ap (nI 1) s j = if j = 0 then s 0 - nI 1 else s j := by
  rcases j with _ | j
  · simp only [ap]
    simp (disch := omega) only [lit, nlt, nle, neq, nI_add, pk_mul, nm_u, bS, gd_d, oc_none, oc_some, rd_n, wr_n, if_pos, if_neg, ite_true, ite_false, not_true_eq_false, not_false_eq_true, g1, g2, g3, g4, h1, h2, h3, h4]
  · simp only [ap]
    simp (disch := omega) only [lit, nlt, nle, neq, nI_add, pk_mul, nm_u, bS, gd_d, oc_none, oc_some, rd_n, wr_n, if_pos, if_neg, ite_true, ite_false, not_true_eq_false, not_false_eq_true, g1, g2, g3, g4, h1, h2, h3, h4]
theorem ap_8 {k : Nat} {s : Nat → Int32} {j : Nat} (hj : j ≤ 8) (hk : k < 8) : ap (nI (8 + k)) s j = if j = 1 + k then -nI 1 else s j := by
  rcases j with _ | j
  · simp only [ap]
    simp (disch := omega) only [lit, nlt, nle, neq, nI_add, pk_mul, nm_u, bS, gd_d, oc_none, oc_some, rd_n, wr_n, if_pos, if_neg, ite_true, ite_false, not_true_eq_false, not_false_eq_true, g1, g2, g3, g4, h1, h2, h3, h4]
  · simp only [ap]
    by_cases q : j = k
    · subst q; simp (disch := omega) only [lit, nlt, nle, neq, nI_add, pk_mul, nm_u, bS, gd_d, oc_none, oc_some, rd_n, wr_n, if_pos, if_neg, ite_true, ite_false, not_true_eq_false, not_false_eq_true, g1, g2, g3, g4, h1, h2, h3, h4]
    · simp (disch := omega) only [lit, nlt, nle, neq, nI_add, pk_mul, nm_u, bS, gd_d, oc_none, oc_some, rd_n, wr_n, if_pos, if_neg, ite_true, ite_false, not_true_eq_false, not_false_eq_true, g1, g2, g3, g4, h1, h2, h3, h4]
theorem ap_16 {k : Nat} {s : Nat → Int32} {j : Nat} (hj : j ≤ 8) (hk : k < 8) : ap (nI (16 + k)) s j = if j = 1 + k then s 0 else s j := by
  rcases j with _ | j
  · simp only [ap]
    simp (disch := omega) only [lit, nlt, nle, neq, nI_add, pk_mul, nm_u, bS, gd_d, oc_none, oc_some, rd_n, wr_n, if_pos, if_neg, ite_true, ite_false, not_true_eq_false, not_false_eq_true, g1, g2, g3, g4, h1, h2, h3, h4]
  · simp only [ap]
    by_cases q : j = k
    · subst q; simp (disch := omega) only [lit, nlt, nle, neq, nI_add, pk_mul, nm_u, bS, gd_d, oc_none, oc_some, rd_n, wr_n, if_pos, if_neg, ite_true, ite_false, not_true_eq_false, not_false_eq_true, g1, g2, g3, g4, h1, h2, h3, h4]
    · simp (disch := omega) only [lit, nlt, nle, neq, nI_add, pk_mul, nm_u, bS, gd_d, oc_none, oc_some, rd_n, wr_n, if_pos, if_neg, ite_true, ite_false, not_true_eq_false, not_false_eq_true, g1, g2, g3, g4, h1, h2, h3, h4]
theorem lg_0 {z : Nat} (h : z < 2) : (lg_cmp (nI z).toInt64 (0 : Int64) = nI 0) = (z = 0) := by
  have : ∀ z, z < 2 → (lg_cmp (nI z).toInt64 (0 : Int64) = nI 0) = (z = 0) := by
    intro z h
    rcases (show z = 0 ∨ z = 1 by omega) with rfl | rfl
    · exact propext ⟨fun _ => rfl, fun _ => by decide⟩
    · exact propext ⟨fun q => absurd q (by decide), fun q => absurd q (by decide)⟩
  exact this z h
theorem l83_in {fu p q : Nat} {x : Int32} {X : Mem} (h : X.1 10 0 = nI p) (e : nI p + x = nI q) (hq : q < 10) : f5_lot_83 fu x X = some (sI X 10 0 (nI q)) := by
  unfold f5_lot_83
  simp (disch := omega) only [lit, nlt, nle, neq, nI_add, pk_mul, nm_u, bS, gd_d, oc_none, oc_some, rd_n, wr_n, if_pos, if_neg, ite_true, ite_false, not_true_eq_false, not_false_eq_true, g1, g2, g3, g4, h1, h2, h3, h4, h, e, in_9 hq, kq9]
theorem l83_out {fu p : Nat} {x : Int32} {X : Mem} (h : X.1 10 0 = nI p) (ho : outs (nI p + x) 10) : f5_lot_83 fu x X = some (sI X 10 0 (nI p + -x)) := by
  have e9 : f5_in (nI p + x).toInt64 (0 : Int64) (9 : Int64) = some (nI 0) := by
    rw [show (9 : Int64) = (nI 9).toInt64 by decide]
    exact in_out (by omega) ho
  unfold f5_lot_83
  simp (disch := omega) only [lit, nlt, nle, neq, nI_add, pk_mul, nm_u, bS, gd_d, oc_none, oc_some, rd_n, wr_n, if_pos, if_neg, ite_true, ite_false, not_true_eq_false, not_false_eq_true, g1, g2, g3, g4, h1, h2, h3, h4, h, e9]
theorem lot_cm {fu d z : Nat} {P : PD} {MC MM : Mem} {st : Nat → Nat → Int32} (hfu : 10000 ≤ fu) (hR : Rel MC MM) (hA : GA MC MM) (hR0 : GR MC MM) (hT : GT MC MM) (hP : GP P MC MM) (hK : GK P MC MM) (hd : d < 40) (hc0 : MC.1 23 0 = nI d) (hm0 : MM.1 0 16 = nI d) (hH : Hist P (MC.1 27) d st) (hah : ∀ i, i < d → ∀ j, j ≤ P.1 → MM.1 11 (9 * i + j) = st i j) (hnw : ∀ j, j ≤ P.1 → MM.1 10 j = st d j) (hp : pic P (st d) (MC.1 33 2) (MC.1 33 3) (MC.1 33 4) (MC.1 34)) (hn : 0 < P.1) (hz : z < 2147483648) : ∃ c MC' MM', f3_deedByLot MC fu (nI z).toInt64 = some c ∧ f3_enact fu c MC = some MC' ∧ f5_lot fu (nI z) MM = some MM' ∧ Rel MC' MM' ∧ MC'.1 23 0 = nI (d + 1) ∧ MC'.1 35 = MC.1 35 := by
  have h8 := hP.1
  have hg := hH.2.2.2.1 d (Nat.le_refl d)
  have hk : z / 8 % P.1 < P.1 := Nat.mod_lt _ hn
  have e0 : f3_deedByLot MC fu (nI z).toInt64 = f3_deedByLot_29 MC fu (nI z).toInt64 (nI (z / 8 % P.1)) := by
    unfold f3_deedByLot
    simp (disch := omega) only [lit, nlt, nle, neq, nI_add, pk_mul, nm_u, bS, gd_d, oc_none, oc_some, rd_n, wr_n, if_pos, if_neg, ite_true, ite_false, not_true_eq_false, not_false_eq_true, g1, g2, g3, g4, h1, h2, h3, h4, hP.2.1, dv64, rm64n, back32]
  have e1 := dv32 hz
  have e2 := rm32 (z := z / 8) (n := P.1) (by omega) hn h8
  have e3 := rm32 (z := z) (n := 2) hz (by omega) (by omega)
  have e4 := two64 hz
  generalize z / 8 % P.1 = k at *
  rw [e0]
  have w0 := hnw 0 (by omega)
  have wk : MM.1 10 (1 + k) = st d (k + 1) := by rw [show 1 + k = k + 1 by omega, hnw (k + 1) (by omega)]
  have hl1 := msk_256 h8 (fun k => st d (k + 1) == -nI 1)
  have hl2 := msk_256 h8 (fun k => st d (k + 1) == st d 0)
  have go := fun (c v : Int32) (ix : Nat) => deed_cm (fu := fu) (d := d) (ix := ix) (c := c) (v := v) hfu hR hA hR0 hT hP hK hd hc0 hH hah hnw hp
  by_cases c1 : st d (k + 1) = -nI 1
  · have hb := bit_t (a := msk P.1 (fun k => st d (k + 1) == -nI 1)) (k := k) (by rw [msk_tbk hk]; simp [c1]) (by omega) (by omega)
    have hap : ∀ j, j ≤ P.1 → ap (nI (16 + k)) (st d) j = if j = 1 + k then st d 0 else st d j := fun j hj => ap_16 (by omega) (by omega)
    obtain ⟨MC', a1, a2, a3, a4⟩ := go (nI (16 + k)) (st d 0) (1 + k) (Or.inr (Or.inr (Or.inr ⟨k, hk, Or.inr ⟨rfl, c1⟩⟩))) ⟨by rw [hap 0 (by omega), if_neg (by omega)]; exact hg.1, fun j hj => by
      rw [hap (j + 1) (by omega)]
      by_cases q : j + 1 = 1 + k
      · rw [if_pos q]; exact Or.inr (Or.inr hg.1)
      · rw [if_neg q]; exact hg.2 j hj⟩ hap
    refine ⟨nI (16 + k), MC', _, ?_, a1, ?_, a2, a3, a4⟩
    · unfold f3_deedByLot_29
      simp (disch := omega) only [lit, nlt, nle, neq, nI_add, pk_mul, nm_u, bS, gd_d, oc_none, oc_some, rd_n, wr_n, if_pos, if_neg, ite_true, ite_false, not_true_eq_false, not_false_eq_true, g1, g2, g3, g4, h1, h2, h3, h4, ior, iand, shl_n, Nat.or_zero, hp.2.1, hb]
    · unfold f5_lot
      simp (disch := omega) only [lit, nlt, nle, neq, nI_add, pk_mul, nm_u, bS, gd_d, oc_none, oc_some, rd_n, wr_n, if_pos, if_neg, ite_true, ite_false, not_true_eq_false, not_false_eq_true, g1, g2, g3, g4, h1, h2, h3, h4, e1, hP.2.2.1, e2, rem_r hfu hd hm0, rmM_10, wk, w0, c1]
  · have hb := bit_f (a := msk P.1 (fun k => st d (k + 1) == -nI 1)) (k := k) (by rw [msk_tbk hk]; simp [c1]) (by omega) (by omega)
    by_cases c2 : st d (k + 1) = st d 0
    · have hb2 := bit_t (a := msk P.1 (fun k => st d (k + 1) == st d 0)) (k := k) (by rw [msk_tbk hk]; simp [c2]) (by omega) (by omega)
      have hap : ∀ j, j ≤ P.1 → ap (nI (8 + k)) (st d) j = if j = 1 + k then -nI 1 else st d j := fun j hj => ap_8 (by omega) (by omega)
      obtain ⟨MC', a1, a2, a3, a4⟩ := go (nI (8 + k)) (-nI 1) (1 + k) (Or.inr (Or.inr (Or.inr ⟨k, hk, Or.inl ⟨rfl, c2⟩⟩))) ⟨by rw [hap 0 (by omega), if_neg (by omega)]; exact hg.1, fun j hj => by
        rw [hap (j + 1) (by omega)]
        by_cases q : j + 1 = 1 + k
        · rw [if_pos q]; exact Or.inl rfl
        · rw [if_neg q]; exact hg.2 j hj⟩ hap
      have c3 : ¬ st d 0 = -nI 1 := by rw [← c2]; exact c1
      refine ⟨nI (8 + k), MC', _, ?_, a1, ?_, a2, a3, a4⟩
      · unfold f3_deedByLot_29
        simp (disch := omega) only [lit, nlt, nle, neq, nI_add, pk_mul, nm_u, bS, gd_d, oc_none, oc_some, rd_n, wr_n, if_pos, if_neg, ite_true, ite_false, not_true_eq_false, not_false_eq_true, g1, g2, g3, g4, h1, h2, h3, h4, ior, iand, shl_n, Nat.or_zero, hp.2.1, hb, lyingHere_c hfu hP hg hp, hb2]
      · unfold f5_lot
        simp (disch := omega) only [lit, nlt, nle, neq, nI_add, pk_mul, nm_u, bS, gd_d, oc_none, oc_some, rd_n, wr_n, if_pos, if_neg, ite_true, ite_false, not_true_eq_false, not_false_eq_true, g1, g2, g3, g4, h1, h2, h3, h4, e1, hP.2.2.1, e2, rem_r hfu hd hm0, rmM_10, wk, w0, c2, c3]
    · have hb2 := bit_f (a := msk P.1 (fun k => st d (k + 1) == st d 0)) (k := k) (by rw [msk_tbk hk]; simp [c2]) (by omega) (by omega)
      obtain ⟨p, hp10, ep⟩ := hg.1
      have up : p + 1 < 10 → ∃ MC', f3_enact fu (nI 0) MC = some MC' ∧ Rel MC' (sI (rmM MM d) 10 0 (nI (p + 1))) ∧ MC'.1 23 0 = nI (d + 1) ∧ MC'.1 35 = MC.1 35 := by
        intro h10
        refine go (nI 0) (nI (p + 1)) 0 (Or.inl rfl) ⟨⟨p + 1, h10, by rw [ap_0 (by omega), if_pos rfl, ep, nI_add]⟩, fun j hj => by rw [ap_0 (by omega), if_neg (by omega)]; exact hg.2 j hj⟩ (fun j hj => by rw [ap_0 (by omega), ep, nI_add])
      have dn : 0 < p → ∃ MC', f3_enact fu (nI 1) MC = some MC' ∧ Rel MC' (sI (rmM MM d) 10 0 (nI (p - 1))) ∧ MC'.1 23 0 = nI (d + 1) ∧ MC'.1 35 = MC.1 35 := by
        intro h10
        refine go (nI 1) (nI (p - 1)) 0 (Or.inr (Or.inl rfl)) ⟨⟨p - 1, by omega, by rw [ap_1 (by omega), if_pos rfl, ep, pk_sub (by omega)]⟩, fun j hj => by rw [ap_1 (by omega), if_neg (by omega)]; exact hg.2 j hj⟩ (fun j hj => by rw [ap_1 (by omega), ep, pk_sub (by omega)])
      have r0 : (rmM MM d).1 10 0 = nI p := by rw [rmM_10, w0, ep]
      have c4 : ¬ st d (k + 1) = nI p := by rw [← ep]; exact c2
      rw [ep] at hb2
      have redE : z % 2 = 0 → ∀ v, f5_lot_83 fu (nI 1) (rmM MM d) = v → f5_lot fu (nI z) MM = v := by
        intro ez v hv
        unfold f5_lot
        simp (disch := omega) only [lit, nlt, nle, neq, nI_add, pk_mul, nm_u, bS, gd_d, oc_none, oc_some, rd_n, wr_n, if_pos, if_neg, ite_true, ite_false, not_true_eq_false, not_false_eq_true, g1, g2, g3, g4, h1, h2, h3, h4, e1, hP.2.2.1, e2, rem_r hfu hd hm0, rmM_10, wk, w0, c1, c4, ep, e3]
        exact hv
      have redO : ¬ z % 2 = 0 → ∀ v, f5_lot_83 fu (-nI 1) (rmM MM d) = v → f5_lot fu (nI z) MM = v := by
        intro ez v hv
        unfold f5_lot
        simp (disch := omega) only [lit, nlt, nle, neq, nI_add, pk_mul, nm_u, bS, gd_d, oc_none, oc_some, rd_n, wr_n, if_pos, if_neg, ite_true, ite_false, not_true_eq_false, not_false_eq_true, g1, g2, g3, g4, h1, h2, h3, h4, e1, hP.2.2.1, e2, rem_r hfu hd hm0, rmM_10, wk, w0, c1, c4, ep, e3]
        exact hv
      by_cases ez : z % 2 = 0
      · by_cases h9 : p + 1 < 10
        · obtain ⟨MC', a1, a2, a3, a4⟩ := up h9
          refine ⟨nI 0, MC', _, ?_, a1, redE ez _ (l83_in r0 (nI_add _ _) h9), a2, a3, a4⟩
          unfold f3_deedByLot_29 f3_deedByLot_93
          by_cases p0 : p = 0
          · simp (disch := omega) only [lit, nlt, nle, neq, nI_add, pk_mul, nm_u, bS, gd_d, oc_none, oc_some, rd_n, wr_n, if_pos, if_neg, ite_true, ite_false, not_true_eq_false, not_false_eq_true, g1, g2, g3, g4, h1, h2, h3, h4, ior, iand, shl_n, Nat.or_zero, hp.2.1, hb, lyingHere_c hfu hP hg hp, hb2, hp.1, ep, e4, lg_0]
          · simp (disch := omega) only [lit, nlt, nle, neq, nI_add, pk_mul, nm_u, bS, gd_d, oc_none, oc_some, rd_n, wr_n, if_pos, if_neg, ite_true, ite_false, not_true_eq_false, not_false_eq_true, g1, g2, g3, g4, h1, h2, h3, h4, ior, iand, shl_n, Nat.or_zero, hp.2.1, hb, lyingHere_c hfu hP hg hp, hb2, hp.1, ep, e4, lg_0]
        · obtain ⟨MC', a1, a2, a3, a4⟩ := dn (by omega)
          have ho : outs (nI p + nI 1) 10 := by
            rcases in1 p hp10 with q | ⟨q, hq, e⟩
            · exact q
            · rw [nI_add] at e
              have : p = 9 := by omega
              subst this
              exact absurd e (by
                have : ∀ q, q < 10 → ¬ nI (9 + 1) = nI q := by decide
                exact this q hq)
          have em : nI p + -nI 1 = nI (p - 1) := by rw [← Int32.sub_eq_add_neg, pk_sub (by omega)]
          refine ⟨nI 1, MC', _, ?_, a1, redE ez _ (by rw [l83_out r0 ho, em]), a2, a3, a4⟩
          unfold f3_deedByLot_29 f3_deedByLot_93
          simp (disch := omega) only [lit, nlt, nle, neq, nI_add, pk_mul, nm_u, bS, gd_d, oc_none, oc_some, rd_n, wr_n, if_pos, if_neg, ite_true, ite_false, not_true_eq_false, not_false_eq_true, g1, g2, g3, g4, h1, h2, h3, h4, ior, iand, shl_n, Nat.or_zero, hp.2.1, hb, lyingHere_c hfu hP hg hp, hb2, hp.1, ep, e4, lg_0]
      · by_cases p0 : 0 < p
        · obtain ⟨MC', a1, a2, a3, a4⟩ := dn p0
          have em : nI p + -nI 1 = nI (p - 1) := by rw [← Int32.sub_eq_add_neg, pk_sub (by omega)]
          refine ⟨nI 1, MC', _, ?_, a1, redO ez _ (l83_in r0 em (by omega)), a2, a3, a4⟩
          unfold f3_deedByLot_29 f3_deedByLot_93
          simp (disch := omega) only [lit, nlt, nle, neq, nI_add, pk_mul, nm_u, bS, gd_d, oc_none, oc_some, rd_n, wr_n, if_pos, if_neg, ite_true, ite_false, not_true_eq_false, not_false_eq_true, g1, g2, g3, g4, h1, h2, h3, h4, ior, iand, shl_n, Nat.or_zero, hp.2.1, hb, lyingHere_c hfu hP hg hp, hb2, hp.1, ep, e4, lg_0]
        · have hp0 : p = 0 := by omega
          subst hp0
          obtain ⟨MC', a1, a2, a3, a4⟩ := up (by omega)
          have ho : outs (nI 0 + -nI 1) 10 := Or.inl (by decide)
          have em : nI 0 + - -nI 1 = nI (0 + 1) := by decide
          refine ⟨nI 0, MC', _, ?_, a1, redO ez _ (by rw [l83_out r0 ho, em]), a2, a3, a4⟩
          unfold f3_deedByLot_29 f3_deedByLot_93
          simp (disch := omega) only [lit, nlt, nle, neq, nI_add, pk_mul, nm_u, bS, gd_d, oc_none, oc_some, rd_n, wr_n, if_pos, if_neg, ite_true, ite_false, not_true_eq_false, not_false_eq_true, g1, g2, g3, g4, h1, h2, h3, h4, ior, iand, shl_n, Nat.or_zero, hp.2.1, hb, lyingHere_c hfu hP hg hp, hb2, hp.1, ep]
