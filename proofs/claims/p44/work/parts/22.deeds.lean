/-! 22: deeds, undone, kept -/
def stx (st : Nat → Nat → Int32) (d : Nat) (c : Int32) : Nat → Nat → Int32 := fun i => if i ≤ d then st i else ap c (st d)
theorem stx_le {st : Nat → Nat → Int32} {d i : Nat} {c : Int32} (h : i ≤ d) : stx st d c i = st i := if_pos h
theorem stx_n {st : Nat → Nat → Int32} {d : Nat} {c : Int32} : stx st d c (d + 1) = ap c (st d) := if_neg (by omega)
theorem Hist.add {P : PD} {cd : Nat → Int32} {d : Nat} {st : Nat → Nat → Int32} {c : Int32} (hH : Hist P cd d st) (hc : okc P.1 c (st d)) (hg : gst P.1 (ap c (st d))) : Hist P (upd cd d c) (d + 1) (stx st d c) := by
  obtain ⟨b1, b2, b3, b4, b5⟩ := hH
  refine ⟨by rw [stx_le (by omega)]; exact b1, fun k hk => by rw [stx_le (by omega)]; exact b2 k hk, fun i hi j hj => ?_, fun i hi => ?_, fun i hi => ?_⟩
  · by_cases e : i = d
    · subst e
      rw [stx_n, stx_le (by omega)]
      unfold upd
      rw [if_pos rfl]
    · rw [stx_le (by omega), stx_le (by omega)]
      unfold upd
      rw [if_neg e]
      exact b3 i (by omega) j hj
  · by_cases e : i = d + 1
    · subst e
      rw [stx_n]
      exact hg
    · rw [stx_le (by omega)]
      exact b4 i (by omega)
  · by_cases e : i = d
    · subst e
      rw [stx_le (by omega)]
      unfold upd
      rw [if_pos rfl]
      exact hc
    · rw [stx_le (by omega)]
      unfold upd
      rw [if_neg e]
      exact b5 i (by omega)
/-- what a deed leaves as it was -/
def FdM (M M' : Mem) : Prop := (∀ q, q ≠ 23 → q ≠ 27 → q ≠ 33 → q ≠ 34 → M'.1 q = M.1 q) ∧ M'.2 = M.2
theorem FdM.rf {M : Mem} : FdM M M := ⟨fun _ _ _ _ _ => rfl, rfl⟩
section DE
variable {P : PD} {d k : Nat} {st : Nat → Nat → Int32} {s : Nat → Int32} {M : Mem} {fu : Nat}
theorem gst_up {p : Nat} (hn : P.1 ≤ 8) (hg : gst P.1 s) (h0 : s 0 = nI p) (hp : p + 1 < 10) : gst P.1 (ap (nI 0) s) := by
  refine ⟨⟨p + 1, hp, by rw [ap_0 (by omega), if_pos rfl, h0, nI_add]⟩, fun k hk => ?_⟩
  rw [ap_0 (by omega), if_neg (by omega)]
  exact hg.2 k hk
theorem gst_dn {p : Nat} (hn : P.1 ≤ 8) (hg : gst P.1 s) (h0 : s 0 = nI p) (hp : 0 < p) (hp2 : p < 10) : gst P.1 (ap (nI 1) s) := by
  refine ⟨⟨p - 1, by omega, by rw [ap_1 (by omega), if_pos rfl, h0, pk_sub (by omega)]⟩, fun k hk => ?_⟩
  rw [ap_1 (by omega), if_neg (by omega)]
  exact hg.2 k hk
theorem gst_sw (hg : gst P.1 s) : gst P.1 (ap (nI 2) s) := by
  refine ⟨by rw [ap2_0]; exact hg.1, fun k hk => ?_⟩
  rw [ap2_k (n := 0)]
  by_cases c : s (k + 1) = s 0
  · rw [if_pos c]; exact Or.inr (Or.inl rfl)
  · rw [if_neg c]; exact hg.2 k hk
theorem gst_pk (hn : P.1 ≤ 8) (hk : k < P.1) (hg : gst P.1 s) : gst P.1 (ap (nI (8 + k)) s) := by
  refine ⟨by rw [ap_8 (by omega) (by omega), if_neg (by omega)]; exact hg.1, fun j hj => ?_⟩
  rw [ap_8 (by omega) (by omega)]
  by_cases c : j + 1 = 1 + k
  · rw [if_pos c]; exact Or.inl rfl
  · rw [if_neg c]; exact hg.2 j hj
theorem gst_dr (hn : P.1 ≤ 8) (hk : k < P.1) (hg : gst P.1 s) : gst P.1 (ap (nI (16 + k)) s) := by
  refine ⟨by rw [ap_16 (by omega) (by omega), if_neg (by omega)]; exact hg.1, fun j hj => ?_⟩
  rw [ap_16 (by omega) (by omega)]
  by_cases c : j + 1 = 1 + k
  · rw [if_pos c]; exact Or.inr (Or.inr hg.1)
  · rw [if_neg c]; exact hg.2 j hj
theorem enact_s {c : Int32} (hfu : 10000 ≤ fu) (h : Iv P d st M) (hd : d < 40) (hc : okc P.1 c (st d)) (hg : gst P.1 (ap c (st d))) : ∃ M', f3_enact fu c M = some M' ∧ Iv P (d + 1) (stx st d c) M' ∧ FdM M M' := by
  obtain ⟨⟨a1, a2, a3, a4⟩, b2, b3, b4⟩ := h
  obtain ⟨M', c1, c2, c3, c4, c5, c6⟩ := enact_c hfu hd b3 a1 a2 a3 hc
  refine ⟨M', c1, ⟨⟨a1.cg (fun q q1 q2 => c3 q (by omega) (by omega) (by omega) (by omega)), by rw [stx_n]; exact hg, by rw [stx_n]; exact c2, a4⟩, hd, c4, by rw [c5]; exact b4.add hc hg⟩, c3, c6⟩
theorem Iv.g (h : Iv P d st M) : gst P.1 (st d) := h.1.2.1
theorem ap_pic {c : Int32} (h : Iv P (d + 1) (stx st d c) M) : M.1 33 2 = ap c (st d) 0 ∧ M.1 33 3 = nI (hB P (ap c (st d))) := by
  have q := h.1.2.2.1
  rw [stx_n] at q
  exact ⟨q.1, q.2.1⟩
theorem step_up {p : Nat} (hfu : 10000 ≤ fu) (h : Iv P d st M) (hd : d < 40) (h0 : st d 0 = nI p) (hp : p + 1 < 10) : ∃ M', f4_step fu (nI 1) M = some (M', nI (p + 1)) ∧ Iv P (d + 1) (stx st d (nI 0)) M' ∧ FdM M M' := by
  have h8 := h.1.1.1
  have hn := h.1.2.2.2
  obtain ⟨M', c1, c2, c3⟩ := enact_s hfu h hd (c := nI 0) (Or.inl rfl) (gst_up h8 h.g h0 hp)
  refine ⟨M', ?_, c2, c3⟩
  have e9 : M'.1 33 2 = nI (p + 1) := by rw [(ap_pic c2).1, ap_0 (by omega), if_pos rfl, h0, nI_add]
  rw [step_p]
  unfold f4_step_12
  simp (disch := omega) only [lit, nlt, nle, neq, nI_add, pk_mul, nm_u, bS, gd_d, oc_none, oc_some, rd_n, wr_n, if_pos, if_neg, ite_true, ite_false, not_true_eq_false, not_false_eq_true, g1, g2, g3, g4, h1, h2, h3, h4, h.1.2.2.1.1, h0, h.1.1.2.1, room_t hd h.2.2.1, f4_step_76, c1, e9]
theorem step_dn {p : Nat} (hfu : 10000 ≤ fu) (h : Iv P d st M) (hd : d < 40) (h0 : st d 0 = nI p) (hp : 0 < p) (hp2 : p < 10) : ∃ M', f4_step fu (-nI 1) M = some (M', nI (p - 1)) ∧ Iv P (d + 1) (stx st d (nI 1)) M' ∧ FdM M M' := by
  have h8 := h.1.1.1
  have hn := h.1.2.2.2
  obtain ⟨M', c1, c2, c3⟩ := enact_s hfu h hd (c := nI 1) (Or.inr (Or.inl rfl)) (gst_dn h8 h.g h0 hp hp2)
  refine ⟨M', ?_, c2, c3⟩
  have e9 : M'.1 33 2 = nI (p - 1) := by rw [(ap_pic c2).1, ap_1 (by omega), if_pos rfl, h0, pk_sub (by omega)]
  have ex : nI p + -nI 1 = nI (p - 1) := by rw [← Int32.sub_eq_add_neg, pk_sub (by omega)]
  have e3 : (-nI 1 = nI 1) = False := by decide
  rw [step_n]
  unfold f4_step_12
  simp (disch := omega) only [lit, nlt, nle, neq, nI_add, pk_mul, nm_u, bS, gd_d, oc_none, oc_some, rd_n, wr_n, if_pos, if_neg, ite_true, ite_false, not_true_eq_false, not_false_eq_true, g1, g2, g3, g4, h1, h2, h3, h4, h.1.2.2.1.1, h0, ex, h.1.1.2.1, room_t hd h.2.2.1, f4_step_76, c1, e9, e3]
theorem step_up_no {p : Nat} (h : Iv P d st M) (h0 : st d 0 = nI p) (hp : p < 10) (hp2 : ¬ p + 1 < 10) : f4_step fu (nI 1) M = some (M, -nI 4) := by
  have hn := h.1.2.2.2
  rw [step_p]
  refine stepo_c (n := P.1) (y := nI (p + 1)) h.1.1.2.1 hn h.1.1.1 (by rw [h.1.2.2.1.1, h0, nI_add]) (Or.inr ⟨?_, ?_⟩)
  · simp (disch := omega) only [nlt]; omega
  · simp (disch := omega) only [nle]; omega
theorem step_dn_no (h : Iv P d st M) (h0 : st d 0 = nI 0) : f4_step fu (-nI 1) M = some (M, -nI 4) := by
  have hn := h.1.2.2.2
  rw [step_n]
  exact stepo_c (n := P.1) (y := nI 0 + -nI 1) h.1.1.2.1 hn h.1.1.1 (by rw [h.1.2.2.1.1, h0]) (Or.inl (by decide))
theorem pick_s (hfu : 10000 ≤ fu) (h : Iv P d st M) (hd : d < 40) (hk : k < P.1) (c : st d (k + 1) = st d 0) : ∃ M', f4_pick fu (nI k) M = some (M', nI (pcn (hB P (ap (nI (8 + k)) (st d))))) ∧ Iv P (d + 1) (stx st d (nI (8 + k))) M' ∧ FdM M M' := by
  have h8 := h.1.1.1
  have hl := msk_256 h8 (fun k => st d (k + 1) == st d 0)
  have hl2 := hB_lt (P := P) (s := ap (nI (8 + k)) (st d)) h8
  have hb := bit_t (a := msk P.1 (fun k => st d (k + 1) == st d 0)) (k := k) (by rw [msk_tbk hk]; simp [c]) (by omega) (by omega)
  obtain ⟨M', c1, c2, c3⟩ := enact_s hfu h hd (c := nI (8 + k)) (Or.inr (Or.inr (Or.inr ⟨k, hk, Or.inl ⟨rfl, c⟩⟩))) (gst_pk h8 hk h.g)
  refine ⟨M', ?_, c2, c3⟩
  unfold f4_pick
  simp (disch := omega) only [lit, nlt, nle, neq, nI_add, pk_mul, nm_u, bS, gd_d, oc_none, oc_some, rd_n, wr_n, if_pos, if_neg, ite_true, ite_false, not_true_eq_false, not_false_eq_true, g1, g2, g3, g4, h1, h2, h3, h4, ior, iand, shl_n, Nat.or_zero, has2_in h.1.1 hk, lyingHere_c hfu h.1.1 h.g h.1.2.2.1, hb, room_t hd h.2.2.1, c1, (ap_pic c2).2, bitC]
theorem pick_no (hfu : 10000 ≤ fu) (h : Iv P d st M) (hk : k < P.1) (c : ¬ st d (k + 1) = st d 0) : f4_pick fu (nI k) M = some (M, -nI 4) := by
  have h8 := h.1.1.1
  have hl := msk_256 h8 (fun k => st d (k + 1) == st d 0)
  have hb := bit_f (a := msk P.1 (fun k => st d (k + 1) == st d 0)) (k := k) (by rw [msk_tbk hk]; simp [c]) (by omega) (by omega)
  unfold f4_pick
  simp (disch := omega) only [lit, nlt, nle, neq, nI_add, pk_mul, nm_u, bS, gd_d, oc_none, oc_some, rd_n, wr_n, if_pos, if_neg, ite_true, ite_false, not_true_eq_false, not_false_eq_true, g1, g2, g3, g4, h1, h2, h3, h4, ior, iand, shl_n, Nat.or_zero, has2_in h.1.1 hk, lyingHere_c hfu h.1.1 h.g h.1.2.2.1, hb]
theorem drop_s (hfu : 10000 ≤ fu) (h : Iv P d st M) (hd : d < 40) (hk : k < P.1) (c : st d (k + 1) = -nI 1) : ∃ M', f4_drop fu (nI k) M = some (M', nI (pcn (hB P (ap (nI (16 + k)) (st d))))) ∧ Iv P (d + 1) (stx st d (nI (16 + k))) M' ∧ FdM M M' := by
  have h8 := h.1.1.1
  have hl := hB_lt (P := P) (s := st d) h8
  have hl2 := hB_lt (P := P) (s := ap (nI (16 + k)) (st d)) h8
  have hb := bit_t (a := hB P (st d)) (k := k) (by rw [msk_tbk hk]; simp [c]) (by omega) (by omega)
  obtain ⟨M', c1, c2, c3⟩ := enact_s hfu h hd (c := nI (16 + k)) (Or.inr (Or.inr (Or.inr ⟨k, hk, Or.inr ⟨rfl, c⟩⟩))) (gst_dr h8 hk h.g)
  refine ⟨M', ?_, c2, c3⟩
  unfold f4_drop
  simp (disch := omega) only [lit, nlt, nle, neq, nI_add, pk_mul, nm_u, bS, gd_d, oc_none, oc_some, rd_n, wr_n, if_pos, if_neg, ite_true, ite_false, not_true_eq_false, not_false_eq_true, g1, g2, g3, g4, h1, h2, h3, h4, ior, iand, shl_n, Nat.or_zero, has2_in h.1.1 hk, h.1.2.2.1.2.1, hb, room_t hd h.2.2.1, c1, (ap_pic c2).2, bitC]
theorem drop_no (h : Iv P d st M) (hk : k < P.1) (c : ¬ st d (k + 1) = -nI 1) : f4_drop fu (nI k) M = some (M, -nI 4) := by
  have h8 := h.1.1.1
  have hl := hB_lt (P := P) (s := st d) h8
  have hb := bit_f (a := hB P (st d)) (k := k) (by rw [msk_tbk hk]; simp [c]) (by omega) (by omega)
  unfold f4_drop
  simp (disch := omega) only [lit, nlt, nle, neq, nI_add, pk_mul, nm_u, bS, gd_d, oc_none, oc_some, rd_n, wr_n, if_pos, if_neg, ite_true, ite_false, not_true_eq_false, not_false_eq_true, g1, g2, g3, g4, h1, h2, h3, h4, ior, iand, shl_n, Nat.or_zero, has2_in h.1.1 hk, h.1.2.2.1.2.1, hb]
theorem sweep_s (hfu : 10000 ≤ fu) (h : Iv P d st M) (hd : d < 40) : ∃ M', f4_sweep fu M = some (M', nI (pcn (msk P.1 (fun k => st d (k + 1) == st d 0)))) ∧ Iv P (d + 1) (stx st d (nI 2)) M' ∧ FdM M M' := by
  have h8 := h.1.1.1
  have hn := h.1.2.2.2
  have hl := msk_256 h8 (fun k => st d (k + 1) == st d 0)
  obtain ⟨M', c1, c2, c3⟩ := enact_s hfu h hd (c := nI 2) (Or.inr (Or.inr (Or.inl rfl))) (gst_sw h.g)
  refine ⟨M', ?_, c2, c3⟩
  unfold f4_sweep
  simp (disch := omega) only [lit, nlt, nle, neq, nI_add, pk_mul, nm_u, bS, gd_d, oc_none, oc_some, rd_n, wr_n, if_pos, if_neg, ite_true, ite_false, not_true_eq_false, not_false_eq_true, g1, g2, g3, g4, h1, h2, h3, h4, ior, iand, shl_n, Nat.or_zero, h.1.1.2.1, room_t hd h.2.2.1, lyingHere_c hfu h.1.1 h.g h.1.2.2.1, bitC, c1]
theorem undo_s {x : Nat} (hfu : 10000 ≤ fu) (h : Iv P d st M) (hx : x ≤ d) : ∃ M', f4_undo fu (nI x) M = some (M', nI (d - x)) ∧ Iv P x st M' ∧ FdM M M' := by
  obtain ⟨⟨a1, a2, a3, a4⟩, b2, b3, b4⟩ := h
  obtain ⟨M1, c1, c2, c3, c4, c5⟩ := goBackTo_c (fu := fu) (x := x) hfu b2 hx a1 b4
  refine ⟨M1, ?_, ⟨⟨a1.cg (fun q q1 q2 => c3 q (by omega) (by omega) (by omega)), b4.2.2.2.1 x hx, c2, a4⟩, by omega, c4, by rw [c3 27 (by omega) (by omega) (by omega)]; exact b4.le hx⟩, fun q q1 q2 q3 q4 => c3 q q1 q3 q4, c5⟩
  unfold f4_undo
  simp (disch := omega) only [lit, nlt, nle, neq, nI_add, pk_mul, nm_u, bS, gd_d, oc_none, oc_some, rd_n, wr_n, if_pos, if_neg, ite_true, ite_false, not_true_eq_false, not_false_eq_true, g1, g2, g3, g4, h1, h2, h3, h4, b3, c1, pk_sub]
theorem keep_s {j : Nat} (hfu : 10000 ≤ fu) (h : Iv P d st M) (hj : j < 3) : ∃ M', f4_keep fu (nI j) M = some (M', nI d) ∧ M'.1 (20 + j) 0 = nI d ∧ Hist P (M'.1 (24 + j)) d st ∧ (∀ q, q ≠ 20 + j → q ≠ 24 + j → M'.1 q = M.1 q) ∧ M'.2 = M.2 := by
  obtain ⟨⟨a1, a2, a3, a4⟩, b2, b3, b4⟩ := h
  have gk : gd (decide (20 ≤ 20 + j ∧ 20 + j < 24)) = some () := by
    have : 20 ≤ 20 + j ∧ 20 + j < 24 := by omega
    simp [gd, this]
  have h8 := a1.1
  have t1 := take_c (fu := fu) (a := 20 + j) (b := 23) (M := M) hfu (by omega) (by omega) (by omega)
  refine ⟨sF (sI M (20 + j) 0 (M.1 23 0)) (20 + j + 4) (fun x => if 0 ≤ x ∧ x < 40 then M.1 (23 + 4) x else M.1 (20 + j + 4) x), ?_, ?_, ?_, fun q q1 q2 => ?_, rfl⟩
  · unfold f4_keep
    simp (disch := omega) only [lit, nlt, nle, neq, nI_add, pk_mul, nm_u, bS, gd_d, oc_none, oc_some, rd_n, wr_n, if_pos, if_neg, ite_true, ite_false, not_true_eq_false, not_false_eq_true, g1, g2, g3, g4, h1, h2, h3, h4, keptAt_in hj, a1.2.1, gk, t1, sF_q, b3]
  · rw [sF_q (by omega), g1, b3]
  · rw [show 24 + j = 20 + j + 4 by omega, sF_1]
    exact b4.cd (fun i hi => if_pos (by omega))
  · rw [sF_q (by omega), g2 (by omega)]
theorem on_s {j d' : Nat} {st' : Nat → Nat → Int32} (hfu : 10000 ≤ fu) (h : Iv P d st M) (hj : j < 3) (hd' : d' ≤ 40) (c2 : M.1 (20 + j) 0 = nI d') (c3 : Hist P (M.1 (24 + j)) d' st') : ∃ M', f4_on fu (nI j) M = some (M', nI d') ∧ Iv P d' st' M' ∧ FdM M M' := by
  obtain ⟨⟨a1, a2, a3, a4⟩, b2, b3, b4⟩ := h
  have gk : gd (decide (20 ≤ 20 + j ∧ 20 + j < 24)) = some () := by
    have : 20 ≤ 20 + j ∧ 20 + j < 24 := by omega
    simp [gd, this]
  have t1 := take_c (fu := fu) (a := 23) (b := 20 + j) (M := M) hfu (by omega) (by omega) (by omega)
  rw [c2] at t1
  have hP2 : GC P (sF (sI M 23 0 (nI d')) (23 + 4) (fun x => if 0 ≤ x ∧ x < 40 then M.1 (20 + j + 4) x else M.1 (23 + 4) x)) := a1.cg (fun q q1 q2 => by rw [sF_q (by omega), g2 (by omega)])
  have hH2 : Hist P ((sF (sI M 23 0 (nI d')) (23 + 4) (fun x => if 0 ≤ x ∧ x < 40 then M.1 (20 + j + 4) x else M.1 (23 + 4) x)).1 27) d' st' := by
    rw [sF_1, show 20 + j + 4 = 24 + j by omega]
    exact c3.cd (fun i hi => if_pos (by omega))
  obtain ⟨M1, e1, e2, e3, e4, e5⟩ := goBackTo_c (fu := fu) (x := d') hfu hd' (Nat.le_refl _) hP2 hH2
  refine ⟨M1, ?_, ⟨⟨hP2.cg (fun q q1 q2 => e3 q (by omega) (by omega) (by omega)), hH2.2.2.2.1 d' (Nat.le_refl _), e2, a4⟩, hd', e4, by rw [e3 27 (by omega) (by omega) (by omega)]; exact hH2⟩, fun q q1 q2 q3 q4 => by rw [e3 q q1 q3 q4, sF_q q2, g2 q1], by rw [e5]; rfl⟩
  unfold f4_on
  have e6 : M1.1 (20 + j) 0 = nI d' := by rw [e3 _ (by omega) (by omega) (by omega), sF_q (by omega), g2 (by omega), c2]
  have e7 : (sF (sI M 23 0 (nI d')) (23 + 4) (fun x => if 0 ≤ x ∧ x < 40 then M.1 (20 + j + 4) x else M.1 (23 + 4) x)).1 (20 + j) 0 = nI d' := by rw [sF_q (by omega), g2 (by omega), c2]
  simp (disch := omega) only [lit, nlt, nle, neq, nI_add, pk_mul, nm_u, bS, gd_d, oc_none, oc_some, rd_n, wr_n, if_pos, if_neg, ite_true, ite_false, not_true_eq_false, not_false_eq_true, g1, g2, g3, g4, h1, h2, h3, h4, keptAt_in hj, gk, c2, t1, e7, e1, e6]
end DE
