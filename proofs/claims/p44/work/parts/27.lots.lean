/-! 27: lots -/
/-- the deed that a number asks for -/
def lotc (P : PD) (s : Nat → Int32) (z : Nat) : Int32 := if s (z / 8 % P.1 + 1) = -nI 1 then nI (16 + z / 8 % P.1) else if s (z / 8 % P.1 + 1) = s 0 then nI (8 + z / 8 % P.1) else if s 0 = nI 0 ∨ (z % 2 = 0 ∧ ¬ s 0 = nI 9) then nI 0 else nI 1
def nxt (z : Nat) : Nat := z * 48271 % 2147483647
def lotS (P : PD) : Nat → (Nat → Int32) → Nat → Nat → Int32
  | 0, s, _ => s
  | n + 1, s, z => lotS P n (ap (lotc P s (nxt z)) s) (nxt z)
theorem lotS_s (P : PD) (n : Nat) (s : Nat → Int32) (z : Nat) : lotS P (n + 1) s z = lotS P n (ap (lotc P s (nxt z)) s) (nxt z) := rfl
section LO
variable {P : PD} {d : Nat} {st : Nat → Nat → Int32} {s : Nat → Int32} {M : Mem} {fu z : Nat}
theorem lotc_ok (h8 : P.1 ≤ 8) (hn : 0 < P.1) (hg : gst P.1 s) : okc P.1 (lotc P s z) s ∧ gst P.1 (ap (lotc P s z) s) := by
  have hk : z / 8 % P.1 < P.1 := Nat.mod_lt _ hn
  unfold lotc
  generalize z / 8 % P.1 = k at hk
  obtain ⟨p, hp, e⟩ := hg.1
  by_cases c1 : s (k + 1) = -nI 1
  · rw [if_pos c1]
    exact ⟨Or.inr (Or.inr (Or.inr ⟨k, hk, Or.inr ⟨rfl, c1⟩⟩)), gst_dr h8 hk hg⟩
  · rw [if_neg c1]
    by_cases c2 : s (k + 1) = s 0
    · rw [if_pos c2]
      exact ⟨Or.inr (Or.inr (Or.inr ⟨k, hk, Or.inl ⟨rfl, c2⟩⟩)), gst_pk h8 hk hg⟩
    · rw [if_neg c2]
      by_cases c3 : s 0 = nI 0 ∨ (z % 2 = 0 ∧ ¬ s 0 = nI 9)
      · rw [if_pos c3]
        refine ⟨Or.inl rfl, gst_up h8 hg e ?_⟩
        rw [e] at c3
        rcases c3 with q | ⟨-, q⟩
        · rw [neq (by omega) (by omega)] at q; omega
        · rw [neq (by omega) (by omega)] at q; omega
      · rw [if_neg c3]
        refine ⟨Or.inr (Or.inl rfl), gst_dn h8 hg e ?_ hp⟩
        refine Nat.pos_of_ne_zero (fun q => c3 (Or.inl ?_))
        rw [e, q]
theorem lotc_w (h8 : P.1 ≤ 8) (hn : 0 < P.1) (hg : gst P.1 s) : wB P (ap (lotc P s z) s) = wB P s := by
  have hk : z / 8 % P.1 < P.1 := Nat.mod_lt _ hn
  unfold lotc
  generalize z / 8 % P.1 = k at hk
  obtain ⟨p, hp, e⟩ := hg.1
  have n2 : ¬ s 0 = -nI 2 := by rw [e]; exact of_eq_false (np10 hp).2
  refine msk_cg (fun j hj => ?_)
  by_cases c1 : s (k + 1) = -nI 1
  · rw [if_pos c1, ap_16 (by omega) (by omega)]
    by_cases q : j + 1 = 1 + k
    · have : j = k := by omega
      subst this
      rw [if_pos q, c1]
      have : (s 0 == -nI 2) = false := by simp [n2]
      rw [this]; rfl
    · rw [if_neg q]
  · rw [if_neg c1]
    by_cases c2 : s (k + 1) = s 0
    · rw [if_pos c2, ap_8 (by omega) (by omega)]
      by_cases q : j + 1 = 1 + k
      · have : j = k := by omega
        subst this
        rw [if_pos q, c2]
        have : (s 0 == -nI 2) = false := by simp [n2]
        rw [this]; rfl
      · rw [if_neg q]
    · rw [if_neg c2]
      by_cases c3 : s 0 = nI 0 ∨ (z % 2 = 0 ∧ ¬ s 0 = nI 9)
      · rw [if_pos c3, ap_0 (by omega), if_neg (by omega)]
      · rw [if_neg c3, ap_1 (by omega), if_neg (by omega)]
theorem deedByLot_s (hfu : 10000 ≤ fu) (h : Iv P d st M) (hz : z < 2147483648) : f3_deedByLot M fu (nI z).toInt64 = some (lotc P (st d) z) := by
  have hP := h.1.1
  have h8 := hP.1
  have hn := h.1.2.2.2
  have hp := h.1.2.2.1
  have hg := h.g
  have hk : z / 8 % P.1 < P.1 := Nat.mod_lt _ hn
  have e0 : f3_deedByLot M fu (nI z).toInt64 = f3_deedByLot_29 M fu (nI z).toInt64 (nI (z / 8 % P.1)) := by
    unfold f3_deedByLot
    simp (disch := omega) only [lit, nlt, nle, neq, nI_add, pk_mul, nm_u, bS, gd_d, oc_none, oc_some, rd_n, wr_n, if_pos, if_neg, ite_true, ite_false, not_true_eq_false, not_false_eq_true, g1, g2, g3, g4, h1, h2, h3, h4, hP.2.1, dv64, rm64n, back32]
  have e4 := two64 hz
  rw [e0]
  unfold lotc
  generalize z / 8 % P.1 = k at *
  have hl1 := msk_256 h8 (fun k => st d (k + 1) == -nI 1)
  have hl2 := msk_256 h8 (fun k => st d (k + 1) == st d 0)
  by_cases c1 : st d (k + 1) = -nI 1
  · have hb := bit_t (a := msk P.1 (fun k => st d (k + 1) == -nI 1)) (k := k) (by rw [msk_tbk hk]; simp [c1]) (by omega) (by omega)
    rw [if_pos c1]
    unfold f3_deedByLot_29
    simp (disch := omega) only [lit, nlt, nle, neq, nI_add, pk_mul, nm_u, bS, gd_d, oc_none, oc_some, rd_n, wr_n, if_pos, if_neg, ite_true, ite_false, not_true_eq_false, not_false_eq_true, g1, g2, g3, g4, h1, h2, h3, h4, ior, iand, shl_n, Nat.or_zero, hp.2.1, hb, kq9]
  · have hb := bit_f (a := msk P.1 (fun k => st d (k + 1) == -nI 1)) (k := k) (by rw [msk_tbk hk]; simp [c1]) (by omega) (by omega)
    rw [if_neg c1]
    by_cases c2 : st d (k + 1) = st d 0
    · have hb2 := bit_t (a := msk P.1 (fun k => st d (k + 1) == st d 0)) (k := k) (by rw [msk_tbk hk]; simp [c2]) (by omega) (by omega)
      rw [if_pos c2]
      unfold f3_deedByLot_29
      simp (disch := omega) only [lit, nlt, nle, neq, nI_add, pk_mul, nm_u, bS, gd_d, oc_none, oc_some, rd_n, wr_n, if_pos, if_neg, ite_true, ite_false, not_true_eq_false, not_false_eq_true, g1, g2, g3, g4, h1, h2, h3, h4, ior, iand, shl_n, Nat.or_zero, hp.2.1, hb, lyingHere_c hfu hP hg hp, hb2, kq9]
    · have hb2 := bit_f (a := msk P.1 (fun k => st d (k + 1) == st d 0)) (k := k) (by rw [msk_tbk hk]; simp [c2]) (by omega) (by omega)
      rw [if_neg c2]
      obtain ⟨p, hp10, ep⟩ := hg.1
      rw [ep] at hb2 ⊢
      have hz2 : z % 2 < 2 := Nat.mod_lt _ (by omega)
      by_cases p0 : p = 0
      · subst p0
        rw [if_pos (Or.inl rfl)]
        unfold f3_deedByLot_29 f3_deedByLot_93
        simp (disch := omega) only [lit, nlt, nle, neq, nI_add, pk_mul, nm_u, bS, gd_d, oc_none, oc_some, rd_n, wr_n, if_pos, if_neg, ite_true, ite_false, not_true_eq_false, not_false_eq_true, g1, g2, g3, g4, h1, h2, h3, h4, ior, iand, shl_n, Nat.or_zero, hp.2.1, hb, lyingHere_c hfu hP hg hp, ep, hb2, hp.1, kq9]
      · by_cases ez : z % 2 = 0
        · by_cases p9 : p = 9
          · subst p9
            rw [if_neg (by
              rw [neq (by omega) (by omega)]
              rintro (q | ⟨-, q⟩)
              · omega
              · exact q rfl)]
            unfold f3_deedByLot_29 f3_deedByLot_93
            simp (disch := omega) only [lit, nlt, nle, neq, nI_add, pk_mul, nm_u, bS, gd_d, oc_none, oc_some, rd_n, wr_n, if_pos, if_neg, ite_true, ite_false, not_true_eq_false, not_false_eq_true, g1, g2, g3, g4, h1, h2, h3, h4, ior, iand, shl_n, Nat.or_zero, hp.2.1, hb, lyingHere_c hfu hP hg hp, ep, hb2, hp.1, e4, lg_0, kq9]
          · rw [if_pos (Or.inr ⟨ez, by rw [neq (by omega) (by omega)]; exact p9⟩)]
            unfold f3_deedByLot_29 f3_deedByLot_93
            simp (disch := omega) only [lit, nlt, nle, neq, nI_add, pk_mul, nm_u, bS, gd_d, oc_none, oc_some, rd_n, wr_n, if_pos, if_neg, ite_true, ite_false, not_true_eq_false, not_false_eq_true, g1, g2, g3, g4, h1, h2, h3, h4, ior, iand, shl_n, Nat.or_zero, hp.2.1, hb, lyingHere_c hfu hP hg hp, ep, hb2, hp.1, e4, lg_0, kq9]
        · rw [if_neg (by
            rw [neq (by omega) (by omega)]
            rintro (q | ⟨q, -⟩)
            · omega
            · exact ez q)]
          unfold f3_deedByLot_29 f3_deedByLot_93
          simp (disch := omega) only [lit, nlt, nle, neq, nI_add, pk_mul, nm_u, bS, gd_d, oc_none, oc_some, rd_n, wr_n, if_pos, if_neg, ite_true, ite_false, not_true_eq_false, not_false_eq_true, g1, g2, g3, g4, h1, h2, h3, h4, ior, iand, shl_n, Nat.or_zero, hp.2.1, hb, lyingHere_c hfu hP hg hp, ep, hb2, hp.1, e4, lg_0, kq9]
theorem nxt_lt : nxt z < 2147483648 := by
  have : nxt z < 2147483647 := Nat.mod_lt _ (by omega)
  omega
theorem lots_l {N : Nat} (hfu : 10000 ≤ fu) (hN : N ≤ 20) : ∀ (e i f z d : Nat) (st : Nat → Nat → Int32) (M : Mem), i + e = N → e < f → Iv P d st M → d + e ≤ 40 → z < 2147483648 → ∃ M' st', f4_lots_61 fu f (nI N) (nI z).toInt64 (nI i) M = some (M', lotS P e (st d) z 0) ∧ Iv P (d + e) st' M' ∧ FdM M M' ∧ st' (d + e) = lotS P e (st d) z ∧ (∀ j, j ≤ d → st' j = st j) ∧ wB P (lotS P e (st d) z) = wB P (st d) := by
  intro e
  induction e with
  | zero =>
    intro i f z d st M h hf hI hd hz
    rcases f with _ | f
    · omega
    refine ⟨M, st, ?_, hI, FdM.rf, rfl, fun _ _ => rfl, rfl⟩
    rw [f4_lots_61]
    simp (disch := omega) only [lit, nlt, nle, neq, nI_add, pk_mul, nm_u, bS, gd_d, oc_none, oc_some, rd_n, wr_n, if_pos, if_neg, ite_true, ite_false, not_true_eq_false, not_false_eq_true, g1, g2, g3, g4, h1, h2, h3, h4, hI.1.2.2.1.1]
    rfl
  | succ e ih =>
    intro i f z d st M h hf hI hd hz
    rcases f with _ | f
    · omega
    have h8 := hI.1.1.1
    have hn := hI.1.2.2.2
    obtain ⟨o1, o2⟩ := lotc_ok (z := nxt z) h8 hn hI.g
    obtain ⟨M1, c1, c2, c3⟩ := enact_s hfu hI (by omega) o1 o2
    obtain ⟨M2, st2, b1, b2, b3, b4, b5, b6⟩ := ih (i + 1) f (nxt z) (d + 1) (stx st d (lotc P (st d) (nxt z))) M1 (by omega) (by omega) c2 (by omega) nxt_lt
    rw [stx_n] at b1 b4 b6
    have el : rmLo ((nI z).toInt64 * (48271 : Int64)) (2147483647 : Int64) = some (nI (nxt z)).toInt64 := lcg hz
    have dl := deedByLot_s (fu := fu) (z := nxt z) hfu hI nxt_lt
    refine ⟨M2, st2, ?_, by rw [show d + (e + 1) = d + 1 + e by omega]; exact b2, ⟨fun q q1 q2 q3 q4 => by rw [b3.1 q q1 q2 q3 q4, c3.1 q q1 q2 q3 q4], by rw [b3.2, c3.2]⟩, ?_, fun j hj => by rw [b5 j (by omega), stx_le hj], ?_⟩
    · rw [f4_lots_61]
      simp (disch := omega) only [lit, nlt, nle, neq, nI_add, pk_mul, nm_u, bS, gd_d, oc_none, oc_some, rd_n, wr_n, if_pos, if_neg, ite_true, ite_false, not_true_eq_false, not_false_eq_true, g1, g2, g3, g4, h1, h2, h3, h4, el, dl, c1]
      exact b1
    · rw [show d + (e + 1) = d + 1 + e by omega, b4]
      rfl
    · rw [lotS_s, b6]
      exact lotc_w h8 hn hI.g
theorem lots_s {N : Nat} (hfu : 10000 ≤ fu) (hI : Iv P d st M) (h1 : 1 ≤ N) (hN : N ≤ 20) (hz1 : 1 ≤ z) (hz : z < 2147483647) (hd : d + N ≤ 40) : ∃ M' st', f4_lots fu (nI N) (nI z) M = some (M', lotS P N (st d) z 0) ∧ Iv P (d + N) st' M' ∧ FdM M M' ∧ st' (d + N) = lotS P N (st d) z ∧ (∀ j, j ≤ d → st' j = st j) ∧ wB P (lotS P N (st d) z) = wB P (st d) := by
  have hn := hI.1.2.2.2
  have h8 := hI.1.1.1
  obtain ⟨M', st', b1, b2⟩ := lots_l (P := P) (N := N) hfu hN N 0 fu z d st M (by omega) (by omega) hI hd (by omega)
  refine ⟨M', st', ?_, b2⟩
  have hr : f3_hasRoomFor M (nI N) = some (nI 1) := by
    unfold f3_hasRoomFor
    simp (disch := omega) only [lit, nlt, nle, neq, nI_add, pk_mul, nm_u, bS, gd_d, oc_none, oc_some, rd_n, wr_n, if_pos, if_neg, ite_true, ite_false, not_true_eq_false, not_false_eq_true, g1, g2, g3, g4, h1, h2, h3, h4, hI.2.2.1]
  unfold f4_lots
  simp (disch := omega) only [lit, nlt, nle, neq, nI_add, pk_mul, nm_u, bS, gd_d, oc_none, oc_some, rd_n, wr_n, if_pos, if_neg, ite_true, ite_false, not_true_eq_false, not_false_eq_true, g1, g2, g3, g4, h1, h2, h3, h4, hI.1.1.2.1, hr]
  exact b1
theorem lots_no {N : Nat} (hI : Iv P d st M) (h1 : 1 ≤ N) (hN : N ≤ 20) (hz1 : 1 ≤ z) (hz : z < 2147483647) (hd : ¬ d + N ≤ 40) : f4_lots fu (nI N) (nI z) M = some (M, -nI 2) := by
  have hn := hI.1.2.2.2
  have h8 := hI.1.1.1
  have hd4 := hI.2.1
  have hr : f3_hasRoomFor M (nI N) = some (nI 0) := by
    unfold f3_hasRoomFor
    simp (disch := omega) only [lit, nlt, nle, neq, nI_add, pk_mul, nm_u, bS, gd_d, oc_none, oc_some, rd_n, wr_n, if_pos, if_neg, ite_true, ite_false, not_true_eq_false, not_false_eq_true, g1, g2, g3, g4, h1, h2, h3, h4, hI.2.2.1]
  unfold f4_lots
  simp (disch := omega) only [lit, nlt, nle, neq, nI_add, pk_mul, nm_u, bS, gd_d, oc_none, oc_some, rd_n, wr_n, if_pos, if_neg, ite_true, ite_false, not_true_eq_false, not_false_eq_true, g1, g2, g3, g4, h1, h2, h3, h4, hI.1.1.2.1, hr]
end LO
