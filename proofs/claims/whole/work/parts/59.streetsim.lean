/-! 59: street -/
theorem street_rel {fu t N n : Nat} {MC MM M' Mc' : Mem} (hfu : 10000 ≤ fu) (hR : Rel MC MM) (hn1 : 1 ≤ n) (hn : n ≤ 8) (hRS : RS t N N n MM M') (hPQ : PQ n 0 M' Mc') (hCS : CSr n MC Mc') : ∃ M1 M2 M3 M12, f2_read_75 fu fu (nI 0) Mc' = some M1 ∧ f3_goBackTo fu (nI 0) M1 = some M2 ∧ f4_street_56 fu fu (nI 0) M2 = some (M3, nI n) ∧ f5_street_47 fu fu (nI 0) (sI M' 0 9 (M'.1 0 22)) = some (M12, nI n) ∧ Rel M3 M12 := by
  obtain ⟨P0, hA, hR0, hT, hP0, -, -⟩ := hR
  obtain ⟨P, hPn, hD, h13⟩ := pins_of hCS.1 hPQ
  subst hPn
  obtain ⟨z1, z2, z3, z4⟩ := hP0.2.2.2.2 0 Nat.one_le_two_pow
  have m0 : ∀ P : PD, mx P 0 = 0 := by
    intro P
    obtain ⟨t, b1, b2⟩ := mx_at (P := P) 0
    have := okS_le b1
    have : t = 0 := by omega
    subst this
    rw [← b2, sm_0]
  have u0 : ∀ P : PD, un P 0 = 0 := by
    intro P
    rw [un_tw, tw_n (n := 0) (by decide) (by decide)]
    rfl
  rw [u0] at z1
  rw [sm_0] at z2
  rw [apt_0, if_pos rfl] at z3
  rw [m0] at z4
  have fc := hCS.2.1
  obtain ⟨M1, a1, a2, a3, a4, a5, a6⟩ := read_c (P := P) (fu := fu) (M := Mc') hfu hn hD (by
    rw [fc 43 (by omega), fc 44 (by omega), fc 45 (by omega), fc 46 (by omega)]
    exact ⟨z1, z2, z3, z4⟩)
  have f1 : ∀ q, q < 35 ∨ 46 < q → M1.1 q = MC.1 q := fun q hq => by rw [a5 q hq, fc q (by omega)]
  obtain ⟨r1, r2, r3, r4, r5, r6, r7⟩ := hRS
  obtain ⟨M10, hM10⟩ : ∃ x, x = sI M' 0 9 (M'.1 0 22) := ⟨_, rfl⟩
  have c9 : M10.1 0 9 = nI P.1 := by rw [hM10, g1, r4]
  obtain ⟨M11, b1, b2, b3, b4⟩ := lay_l (P := P) (fu := fu) hn P.1 0 fu M10 (by omega) (by omega) c9 (by rw [hM10, g2 (by omega)]; exact h13) (fun j hj => absurd hj (by omega))
  obtain ⟨M12, d1, d2, d3, d4, d5, d6⟩ := forgets_m (fu := fu) (M := M11) hfu
  have f10 : ∀ q, q ≠ 0 → q ≠ 13 → M10.1 q = MM.1 q := fun q x y => by rw [hM10, g2 x, r5 q x y]
  have k9 : M12.1 0 9 = nI P.1 := by
    rw [d3, b3 0 (by omega) (by omega) (by omega) (by omega) (by omega)]
    unfold upd
    rw [if_neg (by omega), c9]
  have hGP : GP P M1 M12 := by
    refine ⟨hn, a2.1, k9, fun k hk => ?_, a4⟩
    obtain ⟨o, e0, e1, e2, e3, e4⟩ := a2.2 k hk
    obtain ⟨e5, e6⟩ := a3 k hk
    obtain ⟨x0, x1, x2, x3, -⟩ := b2 k hk
    exact ⟨o, e0, e1, e2, e3, e4, e5, e6, by rw [d5 6 (by omega) (by omega) (by omega)]; exact x0, by rw [d5 7 (by omega) (by omega) (by omega)]; exact x1, by rw [d5 8 (by omega) (by omega) (by omega)]; exact x2, by rw [d5 9 (by omega) (by omega) (by omega)]; exact x3⟩
  obtain ⟨st, hst⟩ : ∃ st : Nat → Nat → Int32, st = fun _ j => match j with
    | 0 => nI 0
    | k + 1 => nI (pl P k) := ⟨_, rfl⟩
  have s0 : st 0 0 = nI 0 := by rw [hst]
  have sk : ∀ k, st 0 (k + 1) = nI (pl P k) := fun k => by rw [hst]
  have hgst : gst P.1 (st 0) := by
    refine ⟨⟨0, by omega, s0⟩, fun k hk => Or.inr (Or.inr ⟨pl P k, (a2.2 k hk).1.2.1, sk k⟩)⟩
  have hH : ∀ cd, Hist P cd 0 st := by
    intro cd
    refine ⟨s0, fun k _ => sk k, fun i hi => absurd hi (by omega), fun i hi => ?_, fun i hi => absurd hi (by omega)⟩
    have : i = 0 := by omega
    subst this
    exact hgst
  obtain ⟨M2, g5, g6, g7, g8, g9⟩ := goBackTo_c (fu := fu) (x := 0) (d := 0) (st := st) hfu (by omega) (by omega) hGP (hH _)
  obtain ⟨M3, k1, k2, k3, k4⟩ := kept_c (fu := fu) (M := M2) hfu
  have f3 : ∀ q, q < 20 ∨ (23 < q ∧ q < 33) ∨ 46 < q → M3.1 q = MC.1 q := fun q hq => by rw [k3 q (by omega), g7 q (by omega) (by omega) (by omega), f1 q (by omega)]
  have f12 : ∀ q, q ≠ 0 → q ≠ 6 → q ≠ 7 → q ≠ 8 → q ≠ 9 → q ≠ 10 → q ≠ 12 → q ≠ 13 → M12.1 q = MM.1 q := fun q x0 x6 x7 x8 x9 x10 x12 x13 => by rw [d5 q x0 x10 x12, b3 q x6 x7 x8 x9 x10, f10 q x0 x13]
  have f0 : ∀ j, j = 4 ∨ j = 7 → M12.1 0 j = MM.1 0 j := fun j hj => by
    rw [d3, b3 0 (by omega) (by omega) (by omega) (by omega) (by omega)]
    unfold upd
    rw [if_neg (by omega), hM10, g3 (by omega), r6 j (by omega)]
  refine ⟨M1, M2, M3, M12, a1, g5, ?_, ?_, P, ?_, ?_, ?_, ?_, ?_, ?_⟩
  · rw [k1, g7 35 (by omega) (by omega) (by omega), a2.1]
  · rw [← hM10, b1, d1, bS, k9]
  · exact hA.cg (by rw [f3 28 (by omega)]) (by rw [f3 28 (by omega)]) (by rw [k4, g9, a6, hCS.2.2]) (f3 32 (by omega)) (f0 4 (by omega)) (f0 7 (by omega)) (by rw [d6, b4, hM10, g4, r7]) (f12 5 (by omega) (by omega) (by omega) (by omega) (by omega) (by omega) (by omega) (by omega))
  · exact hR0.cg (fun q hq => f3 q (by omega)) (f12 1 (by omega) (by omega) (by omega) (by omega) (by omega) (by omega) (by omega) (by omega)) (f12 2 (by omega) (by omega) (by omega) (by omega) (by omega) (by omega) (by omega) (by omega))
  · exact hT.cg (fun q hq => f3 q (by omega)) (f12 3 (by omega) (by omega) (by omega) (by omega) (by omega) (by omega) (by omega) (by omega)) (f12 4 (by omega) (by omega) (by omega) (by omega) (by omega) (by omega) (by omega) (by omega))
  · exact hGP.cg (fun q hq => by rw [k3 q (by omega), g7 q (by omega) (by omega) (by omega)]) rfl (fun _ _ => rfl)
  · refine ⟨0, st, by omega, by rw [k3 23 (by omega), g8], ?_, hH _, fun i hi => absurd hi (by omega), fun j hj => ?_, by rw [k3 33 (by omega), k3 34 (by omega)]; exact g6⟩
    · rw [d3]
      unfold upd
      rw [if_pos rfl]
    · rw [d2]
      rcases j with _ | k
      · unfold upd
        rw [if_pos rfl, s0]
      · unfold upd
        rw [if_neg (by omega), sk, show k + 1 = 1 + k by omega]
        exact (b2 k (by omega)).2.2.2.2
  · intro j hj
    refine ⟨?_, Or.inl ?_⟩
    · rw [k2 j hj]
      exact (d4 j hj).symm
    · rw [k2 j hj]
      rfl
theorem s_street {fu : Nat} (hfu : 10000 ≤ fu) : Sim_street fu Rel := by
  intro MC MM a0 hR
  rcases tri a0 4 (by omega) with h | ⟨t, ht, rfl⟩
  · refine ⟨-1, MC, MM, ?_, ?_, hR⟩
    · unfold f4_street
      rw [textAt_out h]
      rfl
    · unfold f5_street
      rw [isText_out h]
      simp (disch := omega) only [lit, nlt, nle, neq, nI_add, pk_mul, nm_u, bS, gd_d, oc_none, oc_some, rd_n, wr_n, if_pos, if_neg, ite_true, ite_false, not_true_eq_false, not_false_eq_true, g1, g2, g3, g4, h1, h2, h3, h4]
  rcases hR.textc ht with ⟨e1, e2⟩ | ⟨N, hN, e1, e2, e3⟩
  · refine ⟨-3, _, _, ?_, ?_, hR.find (f := 1) (by omega)⟩
    · unfold f4_street
      rw [textAt_in ht]
      simp (disch := omega) only [lit, nlt, nle, neq, nI_add, pk_mul, nm_u, bS, gd_d, oc_none, oc_some, rd_n, wr_n, if_pos, if_neg, ite_true, ite_false, not_true_eq_false, not_false_eq_true, g1, g2, g3, g4, h1, h2, h3, h4, refM_m (M := MC) (p := t + 6) (by omega) e1, m3_eq]
    · unfold f5_street
      rw [isText_in ht]
      simp (disch := omega) only [lit, nlt, nle, neq, nI_add, pk_mul, nm_u, bS, gd_d, oc_none, oc_some, rd_n, wr_n, if_pos, if_neg, ite_true, ite_false, not_true_eq_false, not_false_eq_true, g1, g2, g3, g4, h1, h2, h3, h4, kq9, e2, m1_le, found_s]
  have rk := refM_k (M := MC) (p := t + 6) (by omega) e1 hN
  have r4 : rd MM 4 4 (nI t) = some (nI N) := by rw [rd_n (by omega) (by omega), e2]
  have t0 : (0 : Int32) ≤ nI N := by
    show nI 0 ≤ nI N
    rw [nle (by omega) (by omega)]; omega
  rcases text_cm (fu := fu) hfu ht hN e1 e2 e3 with ⟨j, q', M', a1, a2, a3, a4⟩ | ⟨n, M', Mc', a1, a2, a3, a4, a5, a6, a7, a8⟩
  · have n9 : ¬ nI j = (-9 : Int32) := of_eq_false (np9 (F := j) (by omega))
    refine ⟨-4, MC, M', ?_, ?_, a4.rel hR⟩
    · unfold f4_street
      rw [textAt_in ht, bS, oc_some, rk, bS]
      dsimp only
      rw [if_pos tP0, a2, bS, if_neg n9]
    · unfold f5_street
      rw [isText_in ht, bS, if_neg tN0, r4, bS, if_pos t0, a3, bS]
      dsimp only
      rw [if_neg n9]
  · obtain ⟨M1, M2, M3, M12, b1, b2, b3, b4, b5⟩ := street_rel (fu := fu) hfu hR a1 a2 a5 a6 a7
    have p9 : -nI 9 = (-9 : Int32) := rfl
    refine ⟨nI n, M3, M12, ?_, ?_, b5⟩
    · unfold f4_street
      rw [textAt_in ht, bS, oc_some, rk, bS]
      dsimp only
      rw [if_pos tP0, a3, bS, if_pos p9, a8, b1, bS, show (0 : Int32) = nI 0 from rfl, b2, bS, b3]
    · unfold f5_street
      rw [isText_in ht, bS, if_neg tN0, r4, bS, if_pos t0, a4, bS]
      dsimp only
      rw [if_pos p9, nm_u, show (0 : Int32) = nI 0 from rfl, b4]
