/-! 33: lots -/
theorem lots_l {fu N : Nat} (hfu : 10000 ≤ fu) (hN : N ≤ 20) : ∀ (e i f1 f2 z : Nat) (MC MM : Mem), i + e = N → e < f1 → e < f2 → Rel MC MM → ¬ MC.1 35 0 = nI 0 → (∀ d, d ≤ 40 → MC.1 23 0 = nI d → d + e ≤ 40) → z < 2147483648 → ∃ r MC' MM', f4_lots_61 fu f1 (nI N) (nI z).toInt64 (nI i) MC = some (MC', r) ∧ f5_lots_45 fu f2 (nI N) (nI z).toInt64 (nI i) MM = some (MM', r) ∧ Rel MC' MM' := by
  intro e
  induction e with
  | zero =>
    intro i f1 f2 z MC MM h hf1 hf2 hR h0 hdd hz
    rcases f1 with _ | f1
    · omega
    rcases f2 with _ | f2
    · omega
    obtain ⟨P, hA, hR0, hT, hP, ⟨d, st, hd, hc0, hm0, hH, hah, hnw, hp⟩, hK⟩ := id hR
    refine ⟨st d 0, MC, MM, ?_, ?_, hR⟩
    · rw [f4_lots_61]
      simp (disch := omega) only [lit, nlt, nle, neq, nI_add, pk_mul, nm_u, bS, gd_d, oc_none, oc_some, rd_n, wr_n, if_pos, if_neg, ite_true, ite_false, not_true_eq_false, not_false_eq_true, g1, g2, g3, g4, h1, h2, h3, h4, hp.1]
    · rw [f5_lots_45]
      simp (disch := omega) only [lit, nlt, nle, neq, nI_add, pk_mul, nm_u, bS, gd_d, oc_none, oc_some, rd_n, wr_n, if_pos, if_neg, ite_true, ite_false, not_true_eq_false, not_false_eq_true, g1, g2, g3, g4, h1, h2, h3, h4, hnw 0 (by omega)]
  | succ e ih =>
    intro i f1 f2 z MC MM h hf1 hf2 hR h0 hdd hz
    rcases f1 with _ | f1
    · omega
    rcases f2 with _ | f2
    · omega
    obtain ⟨P, hA, hR0, hT, hP, ⟨d, st, hd, hc0, hm0, hH, hah, hnw, hp⟩, hK⟩ := id hR
    have hd2 := hdd d hd hc0
    have hn : 0 < P.1 := by
      rcases Nat.eq_zero_or_pos P.1 with q | q
      · exact absurd (by rw [hP.2.1, q]) h0
      · exact q
    have hz2 : z * 48271 % 2147483647 < 2147483648 := by omega
    have el := lcg hz
    generalize z * 48271 % 2147483647 = z2 at *
    obtain ⟨c, MC', MM', a1, a2, a3, a4, a5, a6⟩ := lot_cm (fu := fu) (z := z2) hfu hR hA hR0 hT hP hK (by omega) hc0 hm0 hH hah hnw hp hn hz2
    obtain ⟨r, M1, M2, b1, b2, b3⟩ := ih (i + 1) f1 f2 z2 MC' MM' (by omega) (by omega) (by omega) a4 (by rw [a6]; exact h0) (fun d' hd' e' => by
      rw [a5, neq (by omega) (by omega)] at e'
      omega) hz2
    refine ⟨r, M1, M2, ?_, ?_, b3⟩
    · rw [f4_lots_61]
      simp (disch := omega) only [lit, nlt, nle, neq, nI_add, pk_mul, nm_u, bS, gd_d, oc_none, oc_some, rd_n, wr_n, if_pos, if_neg, ite_true, ite_false, not_true_eq_false, not_false_eq_true, g1, g2, g3, g4, h1, h2, h3, h4, el, a1, a2]
      exact b1
    · rw [f5_lots_45]
      simp (disch := omega) only [lit, nlt, nle, neq, nI_add, pk_mul, nm_u, bS, gd_d, oc_none, oc_some, rd_n, wr_n, if_pos, if_neg, ite_true, ite_false, not_true_eq_false, not_false_eq_true, g1, g2, g3, g4, h1, h2, h3, h4, el, back32, a3]
      exact b2
