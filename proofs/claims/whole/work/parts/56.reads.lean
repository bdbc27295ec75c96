/-! 56: a text is read -/
theorem sign0_ok {M : Mem} {fu v : Nat} {c : Int32} (hv : v < 6) (h : f4_kindOfLetter M fu c = some (nI v)) : f4_isSign M fu (nI 0) c = some (nI 1) := by
  have t1 : ¬ nI v = (-9 : Int32) := of_eq_false (np9 (F := v) (by omega))
  unfold f4_isSign
  rw [if_pos tP0, h, bS, if_neg t1]
  rfl
theorem sign0_bad {M : Mem} {fu : Nat} {c : Int32} (h : f4_kindOfLetter M fu c = some (-nI 9)) : f4_isSign M fu (nI 0) c = some (nI 0) := by
  have t1 : -nI 9 = (-9 : Int32) := rfl
  unfold f4_isSign
  rw [if_pos tP0, h, bS, if_pos t1]
  rfl
section RT
variable {t N fu : Nat} {MC MM : Mem} {b : Nat → Int32}
theorem pin_l (hfu : 10000 ≤ fu) (ht : t < 4) (hN : N ≤ 60) (hsz : MC.1 (t + 6) 0 = nI N) (hb : ∀ i, i < N → MC.1 (t + 6 + 10) i = b i) (hm : ∀ i, i < N → MM.1 3 (60 * t + i) = b i) : ∀ (e sg i q f : Nat) (M Mc : Mem), sg + e = 4 → 1 ≤ sg → e + 1 < f → i ≤ N → q < 8 → RS t N i q MM M → PQ q sg M Mc → CSr q MC Mc → (∃ j M', j ≤ N ∧ f4_firstFault_6 MC fu (fu - i) (t + 6) (nI q) (nI sg) (nI i) = some (nI j) ∧ f5_readsPin_49 fu f (nI sg) M = some (M', nI 0) ∧ RS t N j q MM M') ∨ ∃ i' M' Mc', i < i' ∧ i' ≤ N ∧ f4_firstFault_6 MC fu (fu - i) (t + 6) (nI q) (nI sg) (nI i) = f4_firstFault_6 MC fu (fu - i') (t + 6) (nI (q + 1)) (nI 0) (nI i') ∧ f5_readsPin_49 fu f (nI sg) M = some (M', nI 1) ∧ RS t N i' (q + 1) MM M' ∧ PQ (q + 1) 0 M' Mc' ∧ CSr (q + 1) MC Mc' ∧ f2_read_9 fu (fu - i) (t + 6) (nI sg) (nI i) Mc = f2_read_9 fu (fu - i') (t + 6) (nI 0) (nI i') Mc' := by
  intro e
  induction e with
  | zero =>
    intro sg i q f M Mc hsg h1 hf hi hq hRS hPQ hCS
    have : sg = 4 := by omega
    subst this
    obtain ⟨f, rfl⟩ : ∃ x, f = x + 2 := ⟨f - 2, by omega⟩
    have ef : fu - i = (fu - (i + 1)) + 1 := by omega
    obtain ⟨hlh, hh9⟩ := loS_hi 4
    by_cases hiN : i = N
    · refine Or.inl ⟨N, M, Nat.le_refl N, ?_, ?_, by rw [hiN] at hRS; exact hRS⟩
      · rw [ef, hiN, ff_end ht hN hsz (by omega) (by omega), if_pos (by omega)]
      · rw [rp_s (by omega) (by omega)]
        exact rp_bad (fig_no ht hN hm hRS hh9 hlh (Or.inr hiN) (fun q => by omega))
    · have hi2 : i < N := by omega
      rcases fig_cm (b i) hlh hh9 with ⟨d, d1, d2, hd⟩ | ⟨bad, hin⟩
      · have so := sign_ok (M := MC) (fu := fu) (by omega) (by omega) d1 d2
        have fo := fig_ok ht hN hm hRS hi2 hh9 d1 d2 hd
        have hr : rg 4 d := by
          have : hiS 4 = 9 := rfl
          refine ⟨by omega, by omega, by omega⟩
        have nb : ¬ b i = nI 32 := by rw [hd, neq (by omega) (by omega)]; omega
        have hRS2 : RS t N (i + 1) q MM (sI (sI (sI M 0 21 (nI d)) 0 18 (nI (i + 1))) 13 (5 * q + 4) (nI d)) := (hRS.val.to).arr
        have hPQ2 : PQ q 5 (sI (sI (sI M 0 21 (nI d)) 0 18 (nI (i + 1))) 13 (5 * q + 4) (nI d)) (sI Mc (36 + 4) q (nI d)) := PQ.add (sg := 4) (PQ.cg hPQ (by rw [g2 (by omega), g2 (by omega)]) (fun _ _ => rfl)) (by omega) hr
        have hCS2 : CSr q MC (sI Mc (36 + 4) q (nI d)) := hCS.at (by omega) (by omega)
        refine Or.inr ⟨i + 1, _, sI (sI Mc (36 + 4) q (nI d)) 35 0 (nI (q + 1)), by omega, by omega, ?_, ?_, hRS2.pin, ?_, hCS2.pin, ?_⟩
        · rw [ef, ff_in ht hN hsz hb hi2 (by omega), if_pos (by omega), ff32_last hq (by rw [hd]; exact so)]
        · rw [rp_s (by omega) (by omega), rp_ok hq (by omega) hRS.2.2.2.1 fo]
          exact rp_e hRS2.2.2.2.1
        · refine PQ.cg (PQ.next hPQ2) (by rw [g2 (by omega)]) (fun f hf => by rw [g2 (by omega)])
        · rw [ef, rd_in ht hN hsz hb hCS hq hi2 nb, hd, take_fig hq (by omega) (by omega) hCS, bS, if_pos (show nI (4 + 1) = (5 : Int32) from rfl), hCS2.1, ad1]
          rfl
      · have sb := sign_bad (M := MC) (fu := fu) (sg := 4) (by omega) (by omega) bad
        refine Or.inl ⟨i, M, by omega, ?_, ?_, hRS⟩
        · rw [ef, ff_in ht hN hsz hb hi2 (by omega), if_pos (by omega), ff32_bad hq sb]
        · rw [rp_s (by omega) (by omega)]
          exact rp_bad (fig_no ht hN hm hRS hh9 hlh (Or.inl hi2) (fun _ => hin))
  | succ e ih =>
    intro sg i q f M Mc hsg h1 hf hi hq hRS hPQ hCS
    obtain ⟨f, rfl⟩ : ∃ x, f = x + 1 := ⟨f - 1, by omega⟩
    have ef : fu - i = (fu - (i + 1)) + 1 := by omega
    obtain ⟨hlh, hh9⟩ := loS_hi sg
    by_cases hiN : i = N
    · refine Or.inl ⟨N, M, Nat.le_refl N, ?_, ?_, by rw [hiN] at hRS; exact hRS⟩
      · rw [ef, hiN, ff_end ht hN hsz (by omega) (by omega), if_pos (by omega)]
      · rw [rp_s (by omega) (by omega)]
        exact rp_bad (fig_no ht hN hm hRS hh9 hlh (Or.inr hiN) (fun q => by omega))
    · have hi2 : i < N := by omega
      rcases fig_cm (b i) hlh hh9 with ⟨d, d1, d2, hd⟩ | ⟨bad, hin⟩
      · have so := sign_ok (M := MC) (fu := fu) (by omega) (by omega) d1 d2
        have fo := fig_ok ht hN hm hRS hi2 hh9 d1 d2 hd
        have hr : rg sg d := by
          refine ⟨by omega, by omega, fun e3 => ?_⟩
          have q1 : loS sg = 1 := if_pos e3
          have q2 : hiS sg = 4 := if_pos e3
          omega
        have nb : ¬ b i = nI 32 := by rw [hd, neq (by omega) (by omega)]; omega
        have hRS2 : RS t N (i + 1) q MM (sI (sI (sI M 0 21 (nI d)) 0 18 (nI (i + 1))) 13 (5 * q + sg) (nI d)) := (hRS.val.to).arr
        have hPQ2 : PQ q (sg + 1) (sI (sI (sI M 0 21 (nI d)) 0 18 (nI (i + 1))) 13 (5 * q + sg) (nI d)) (sI Mc (36 + sg) q (nI d)) := PQ.add (PQ.cg hPQ (by rw [g2 (by omega), g2 (by omega)]) (fun _ _ => rfl)) (by omega) hr
        have hCS2 : CSr q MC (sI Mc (36 + sg) q (nI d)) := hCS.at (by omega) (by omega)
        have n5 : ¬ nI (sg + 1) = (5 : Int32) := by
          show ¬ nI (sg + 1) = nI 5
          rw [neq (by omega) (by omega)]; omega
        have eff : f4_firstFault_6 MC fu (fu - i) (t + 6) (nI q) (nI sg) (nI i) = f4_firstFault_6 MC fu (fu - (i + 1)) (t + 6) (nI q) (nI (sg + 1)) (nI (i + 1)) := by
          rw [ef, ff_in ht hN hsz hb hi2 (by omega), if_pos (by omega), ff32_ok hq (by omega) (by rw [hd]; exact so)]
        have erd : f2_read_9 fu (fu - i) (t + 6) (nI sg) (nI i) Mc = f2_read_9 fu (fu - (i + 1)) (t + 6) (nI (sg + 1)) (nI (i + 1)) (sI Mc (36 + sg) q (nI d)) := by
          rw [ef, rd_in ht hN hsz hb hCS hq hi2 nb, hd, take_fig hq (by omega) (by omega) hCS, bS, if_neg n5]
        have erp : f5_readsPin_49 fu (f + 1) (nI sg) M = f5_readsPin_49 fu f (nI (sg + 1)) (sI (sI (sI M 0 21 (nI d)) 0 18 (nI (i + 1))) 13 (5 * q + sg) (nI d)) := by
          rw [rp_s (by omega) (by omega), rp_ok hq (by omega) hRS.2.2.2.1 fo]
        rw [eff, erd, erp]
        rcases ih (sg + 1) (i + 1) q f _ _ (by omega) (by omega) (by omega) (by omega) hq hRS2 hPQ2 hCS2 with hl | ⟨i', M', Mc', a1, a2, a3, a4, a5, a6, a7, a8⟩
        · exact Or.inl hl
        · exact Or.inr ⟨i', M', Mc', by omega, a2, a3, a4, a5, a6, a7, a8⟩
      · have sb := sign_bad (M := MC) (fu := fu) (sg := sg) (by omega) (by omega) bad
        refine Or.inl ⟨i, M, by omega, ?_, ?_, hRS⟩
        · rw [ef, ff_in ht hN hsz hb hi2 (by omega), if_pos (by omega), ff32_bad hq sb]
        · rw [rp_s (by omega) (by omega)]
          exact rp_bad (fig_no ht hN hm hRS hh9 hlh (Or.inl hi2) (fun _ => hin))
theorem skip_l (hfu : 10000 ≤ fu) (ht : t < 4) (hN : N ≤ 60) (hsz : MC.1 (t + 6) 0 = nI N) (hb : ∀ i, i < N → MC.1 (t + 6 + 10) i = b i) (hm : ∀ i, i < N → MM.1 3 (60 * t + i) = b i) {q : Nat} : ∀ (e i f : Nat) (M : Mem), i + e = N → e < f → RS t N i q MM M → ∃ i' M', i ≤ i' ∧ i' ≤ N ∧ (i' < N → ¬ b i' = nI 32) ∧ f4_firstFault_6 MC fu (fu - i) (t + 6) (nI q) (nI 0) (nI i) = f4_firstFault_6 MC fu (fu - i') (t + 6) (nI q) (nI 0) (nI i') ∧ f5_skips_0 fu f M = some M' ∧ RS t N i' q MM M' ∧ M'.1 13 = M.1 13 ∧ (q < 8 → ∀ Mc, CSr q MC Mc → f2_read_9 fu (fu - i) (t + 6) (nI 0) (nI i) Mc = f2_read_9 fu (fu - i') (t + 6) (nI 0) (nI i') Mc) := by
  intro e
  induction e with
  | zero =>
    intro i f M hi hf hRS
    rcases f with _ | f
    · omega
    have : i = N := by omega
    subst this
    have t1 : ¬ -nI 1 = (32 : Int32) := by decide
    refine ⟨i, M, by omega, by omega, fun q => by omega, rfl, ?_, hRS, rfl, fun _ _ _ => rfl⟩
    rw [f5_skips_0]
    dsimp only
    rw [here_out hN hRS, bS, if_neg t1]
  | succ e ih =>
    intro i f M hi hf hRS
    rcases f with _ | f
    · omega
    have hi2 : i < N := by omega
    have ef : fu - i = (fu - (i + 1)) + 1 := by omega
    have hr := here_in ht hN hm hRS hi2
    by_cases c : b i = nI 32
    · obtain ⟨i', M', a1, a2, a3, a4, a5, a6, a7, a8⟩ := ih (i + 1) f (sI M 0 18 (nI (i + 1))) (by omega) (by omega) hRS.to
      have c' : b i = (32 : Int32) := c
      refine ⟨i', M', by omega, a2, a3, ?_, ?_, a6, by rw [a7, g2 (by omega)], fun hq Mc hC => ?_⟩
      · rw [ef, ff_in ht hN hsz hb hi2 (by omega), if_neg (by omega), if_pos c]
        exact a4
      · rw [f5_skips_0]
        dsimp only
        rw [hr, bS, if_pos c', nm_u, hRS.1, ad1]
        exact a5
      · rw [ef, rd_blank ht hN hsz hb hC hq hi2 c]
        exact a8 hq Mc hC
    · have c' : ¬ b i = (32 : Int32) := c
      refine ⟨i, M, by omega, by omega, fun _ => c, rfl, ?_, hRS, rfl, fun _ _ _ => rfl⟩
      rw [f5_skips_0]
      dsimp only
      rw [hr, bS, if_neg c']
theorem r62_0 {i q : Nat} {M : Mem} (hRS : RS t N i q MM M) : f5_reads_62 fu (nI 0) M = some (M, nI i) := by
  unfold f5_reads_62
  rw [if_pos tP0, hRS.1]
theorem r31_0 {i q f : Nat} {M : Mem} (hRS : RS t N i q MM M) : f5_reads_31 fu (f + 1) (nI 0) M = some (M, nI i) := by
  rw [f5_reads_31]
  dsimp only
  by_cases c : M.1 0 19 ≤ M.1 0 18
  · rw [if_pos c, r62_0 hRS]
  · rw [if_neg c, if_pos tP0, r62_0 hRS]
theorem r31_end {q f : Nat} {M : Mem} (hq : q ≤ 8) (hRS : RS t N N q MM M) : f5_reads_31 fu (f + 1) (nI 1) M = some (M, if q = 0 then nI N else -nI 9) := by
  rw [f5_reads_31]
  dsimp only
  rw [hRS.1, hRS.2.1, if_pos (Int32.le_refl _)]
  unfold f5_reads_62
  rw [if_neg tN0, hRS.2.2.2.1, hRS.1]
  by_cases c : q = 0
  · subst c
    rw [if_pos (show nI 0 ≤ (0 : Int32) from Int32.le_refl _), if_pos rfl]
  · have t1 : ¬ nI q ≤ (0 : Int32) := by
      show ¬ nI q ≤ nI 0
      rw [nle (by omega) (by omega)]; omega
    rw [if_neg t1, if_neg c]
    rfl
theorem r31_in {i q f : Nat} {M : Mem} (hN : N ≤ 60) (hi : i < N) (hRS : RS t N i q MM M) : f5_reads_31 fu (f + 1) (nI 1) M = (f5_readsPin fu M).bind fun ⟨M4, r5⟩ => if r5 = (0 : Int32) then ((f5_reads_31 fu f) r5 M4) else (f5_skips fu M4).bind fun M8 => ((f5_reads_31 fu f) r5 M8) := by
  have t1 : ¬ nI N ≤ nI i := by rw [nle (by omega) (by omega)]; omega
  rw [f5_reads_31]
  dsimp only
  rw [hRS.1, hRS.2.1, if_neg t1, if_neg tN0]
theorem pin_no {i q : Nat} {M : Mem} (ht : t < 4) (hN : N ≤ 60) (hm : ∀ i, i < N → MM.1 3 (60 * t + i) = b i) (hi : i < N) (hRS : RS t N i q MM M) (hk : f5_kindOf (b i) = some (-nI 9)) : f5_readsPin fu M = some (M, nI 0) := by
  have t1 : -nI 9 = (-9 : Int32) := rfl
  unfold f5_readsPin
  rw [here_in ht hN hm hRS hi, bS, hk, bS, if_pos t1]
  rfl
theorem pin_full {i v : Nat} {M : Mem} (ht : t < 4) (hN : N ≤ 60) (hm : ∀ i, i < N → MM.1 3 (60 * t + i) = b i) (hi : i < N) (hRS : RS t N i 8 MM M) (hv : v < 6) (hk : f5_kindOf (b i) = some (nI v)) : f5_readsPin fu M = some (M, nI 0) := by
  have t1 : ¬ nI v = (-9 : Int32) := of_eq_false (np9 (F := v) (by omega))
  have t2 : nI 8 = (8 : Int32) := rfl
  unfold f5_readsPin
  rw [here_in ht hN hm hRS hi, bS, hk, bS, if_neg t1, hRS.2.2.2.1, if_pos t2]
  rfl
theorem pin_go {i q v : Nat} {M : Mem} (ht : t < 4) (hN : N ≤ 60) (hm : ∀ i, i < N → MM.1 3 (60 * t + i) = b i) (hi : i < N) (hq : q < 8) (hRS : RS t N i q MM M) (hv : v < 6) (hk : f5_kindOf (b i) = some (nI v)) : f5_readsPin fu M = f5_readsPin_49 fu fu (nI 1) (sI (sI M 0 18 (nI (i + 1))) 13 (5 * q) (nI v)) := by
  have t1 : ¬ nI v = (-9 : Int32) := of_eq_false (np9 (F := v) (by omega))
  have t2 : ¬ nI q = (8 : Int32) := by
    show ¬ nI q = nI 8
    rw [neq (by omega) (by omega)]; omega
  have v1 : (sI M 0 18 (nI (i + 1))).1 0 22 = nI q := by rw [g3 (by omega)]; exact hRS.2.2.2.1
  have w1 : wr (sI M 0 18 (nI (i + 1))) 13 40 ((5 : Int32) * nI q) (nI v) = some (sI (sI M 0 18 (nI (i + 1))) 13 (5 * q) (nI v)) := by
    show wr _ 13 40 (nI 5 * nI q) (nI v) = _
    rw [pk_mul, wr_n (by omega) (by omega)]
  unfold f5_readsPin
  rw [here_in ht hN hm hRS hi, bS, hk, bS, if_neg t1, hRS.2.2.2.1, if_neg t2, nm_u, hRS.1, ad1, v1, w1, bS]
  rfl
theorem reads_l (hfu : 10000 ≤ fu) (ht : t < 4) (hN : N ≤ 60) (hsz : MC.1 (t + 6) 0 = nI N) (hb : ∀ i, i < N → MC.1 (t + 6 + 10) i = b i) (hm : ∀ i, i < N → MM.1 3 (60 * t + i) = b i) : ∀ (e q i f : Nat) (M Mc : Mem), q + e = 8 → e + 1 < f → i ≤ N → (i < N → ¬ b i = nI 32) → RS t N i q MM M → PQ q 0 M Mc → CSr q MC Mc → (∃ j q' M', j ≤ N ∧ f4_firstFault_6 MC fu (fu - i) (t + 6) (nI q) (nI 0) (nI i) = some (nI j) ∧ f5_reads_31 fu f (nI 1) M = some (M', nI j) ∧ RS t N j q' MM M') ∨ ∃ n M' Mc', 1 ≤ n ∧ n ≤ 8 ∧ f4_firstFault_6 MC fu (fu - i) (t + 6) (nI q) (nI 0) (nI i) = some (-nI 9) ∧ f5_reads_31 fu f (nI 1) M = some (M', -nI 9) ∧ RS t N N n MM M' ∧ PQ n 0 M' Mc' ∧ CSr n MC Mc' ∧ f2_read_9 fu (fu - i) (t + 6) (nI 0) (nI i) Mc = f2_read_75 fu fu (nI 0) Mc' := by
  intro e
  induction e with
  | zero =>
    intro q i f M Mc hq hf hi hbl hRS hPQ hCS
    obtain ⟨f, rfl⟩ : ∃ x, f = x + 2 := ⟨f - 2, by omega⟩
    have : q = 8 := by omega
    subst this
    have ef : fu - i = (fu - (i + 1)) + 1 := by omega
    by_cases hiN : i = N
    · refine Or.inr ⟨8, M, Mc, by omega, by omega, ?_, ?_, by rw [hiN] at hRS; exact hRS, hPQ, hCS, ?_⟩
      · rw [ef, hiN, ff_end ht hN hsz (by omega) (by omega), if_neg (by omega), if_neg (by omega)]
      · rw [r31_end (q := 8) (by omega) (by rw [hiN] at hRS; exact hRS), if_neg (by omega)]
      · rw [ef, rd_full ht hCS]
    · have hi2 : i < N := by omega
      have hno : f5_readsPin fu M = some (M, nI 0) := by
        rcases kind_cm (M := MC) (fu := fu) (b i) hfu with ⟨v, v1, v2, v3⟩ | ⟨v2, v3⟩
        · exact pin_full ht hN hm hi2 hRS v1 v3
        · exact pin_no ht hN hm hi2 hRS v3
      refine Or.inl ⟨i, 8, M, by omega, ?_, ?_, hRS⟩
      · rw [ef, ff_in ht hN hsz hb hi2 (by omega), if_neg (by omega), if_neg (hbl hi2), ff32_full (by omega) (by omega)]
      · rw [r31_in hN hi2 hRS, hno, bS]
        dsimp only
        rw [if_pos tP0]
        exact r31_0 hRS
  | succ e ih =>
    intro q i f M Mc hq hf hi hbl hRS hPQ hCS
    obtain ⟨f, rfl⟩ : ∃ x, f = x + 1 := ⟨f - 1, by omega⟩
    have ef : fu - i = (fu - (i + 1)) + 1 := by omega
    by_cases hiN : i = N
    · by_cases hq0 : q = 0
      · refine Or.inl ⟨N, q, M, by omega, ?_, ?_, by rw [hiN] at hRS; exact hRS⟩
        · rw [ef, hiN, ff_end ht hN hsz (by omega) (by omega), if_neg (by omega), if_pos hq0]
        · rw [r31_end (q := q) (by omega) (by rw [hiN] at hRS; exact hRS), if_pos hq0]
      · refine Or.inr ⟨q, M, Mc, by omega, by omega, ?_, ?_, by rw [hiN] at hRS; exact hRS, hPQ, hCS, ?_⟩
        · rw [ef, hiN, ff_end ht hN hsz (by omega) (by omega), if_neg (by omega), if_neg hq0]
        · rw [r31_end (q := q) (by omega) (by rw [hiN] at hRS; exact hRS), if_neg hq0]
        · rw [ef, hiN, rd_end ht hsz hCS]
    · have hi2 : i < N := by omega
      have hq8 : q < 8 := by omega
      rcases kind_cm (M := MC) (fu := fu) (b i) hfu with ⟨v, v1, v2, v3⟩ | ⟨v2, v3⟩
      · have vc : f4_kindOfLetter Mc fu (b i) = some (nI v) := by rw [kl_a hfu] at v2 ⊢; exact v2
        have eff : f4_firstFault_6 MC fu (fu - i) (t + 6) (nI q) (nI 0) (nI i) = f4_firstFault_6 MC fu (fu - (i + 1)) (t + 6) (nI q) (nI 1) (nI (i + 1)) := by
          rw [ef, ff_in ht hN hsz hb hi2 (by omega), if_neg (by omega), if_neg (hbl hi2), ff32_ok hq8 (by omega) (sign0_ok v1 v2)]
        have erd : f2_read_9 fu (fu - i) (t + 6) (nI 0) (nI i) Mc = f2_read_9 fu (fu - (i + 1)) (t + 6) (nI 1) (nI (i + 1)) (sI Mc 36 q (nI v)) := by
          rw [ef, rd_in ht hN hsz hb hCS hq8 hi2 (hbl hi2), take_let hq8 vc hCS, bS, if_neg (show ¬ nI (0 + 1) = (5 : Int32) by decide)]
        have hRS2 : RS t N (i + 1) q MM (sI (sI M 0 18 (nI (i + 1))) 13 (5 * q) (nI v)) := (hRS.to).arr
        have hPQ2 : PQ q 1 (sI (sI M 0 18 (nI (i + 1))) 13 (5 * q) (nI v)) (sI Mc 36 q (nI v)) := PQ.add (sg := 0) (PQ.cg hPQ (by rw [g2 (by omega)]) (fun _ _ => rfl)) (by omega) ⟨by omega, fun _ => v1, fun h => by omega⟩
        have hCS2 : CSr q MC (sI Mc 36 q (nI v)) := hCS.at (by omega) (by omega)
        have go := pin_go (fu := fu) ht hN hm hi2 hq8 hRS v1 v3
        rw [eff, erd]
        rcases pin_l (fu := fu) hfu ht hN hsz hb hm 3 1 (i + 1) q fu _ _ (by omega) (by omega) (by omega) (by omega) hq8 hRS2 hPQ2 hCS2 with ⟨j, M', a1, a2, a3, a4⟩ | ⟨i', M', Mc', a1, a2, a3, a4, a5, a6, a7, a8⟩
        · refine Or.inl ⟨j, q, M', a1, a2, ?_, a4⟩
          obtain ⟨f', rfl⟩ : ∃ x, f = x + 1 := ⟨f - 1, by omega⟩
          rw [r31_in hN hi2 hRS, go, a3, bS]
          dsimp only
          rw [if_pos tP0]
          exact r31_0 a4
        · obtain ⟨i2, M2, b1, b2, b3, b4, b5, b6, b7, b8⟩ := skip_l (fu := fu) hfu ht hN hsz hb hm (N - i') i' fu M' (by omega) (by omega) a5
          have hPQ3 : PQ (q + 1) 0 M2 Mc' := PQ.cg a6 b7 (fun _ _ => rfl)
          have e31 : f5_reads_31 fu (f + 1) (nI 1) M = f5_reads_31 fu f (nI 1) M2 := by
            rw [r31_in hN hi2 hRS, go, a4, bS]
            dsimp only
            rw [if_neg tN0]
            unfold f5_skips
            rw [b5, bS]
          rw [a3, b4, a8, e31]
          rcases ih (q + 1) i2 f M2 Mc' (by omega) (by omega) b2 b3 b6 hPQ3 a7 with hl | ⟨n, M3, Mc3, c1, c2, c3, c4, c5, c6, c7, c8⟩
          · exact Or.inl hl
          · refine Or.inr ⟨n, M3, Mc3, c1, c2, c3, c4, c5, c6, c7, ?_⟩
            by_cases hq7 : q + 1 < 8
            · rw [b8 hq7 Mc' a7]
              exact c8
            · have q8 : q + 1 = 8 := by omega
              rw [q8] at a7
              rw [show fu - i2 = (fu - (i2 + 1)) + 1 by omega, rd_full ht a7] at c8
              rw [show fu - i' = (fu - (i' + 1)) + 1 by omega, rd_full ht a7]
              exact c8
      · have hno : f5_readsPin fu M = some (M, nI 0) := pin_no ht hN hm hi2 hRS v3
        refine Or.inl ⟨i, q, M, by omega, ?_, ?_, hRS⟩
        · rw [ef, ff_in ht hN hsz hb hi2 (by omega), if_neg (by omega), if_neg (hbl hi2), ff32_bad hq8 (sign0_bad v2)]
        · obtain ⟨f', rfl⟩ : ∃ x, f = x + 1 := ⟨f - 1, by omega⟩
          rw [r31_in hN hi2 hRS, hno, bS]
          dsimp only
          rw [if_pos tP0]
          exact r31_0 hRS
/-- a text, read by both -/
theorem text_cm (hfu : 10000 ≤ fu) (ht : t < 4) (hN : N ≤ 60) (hsz : MC.1 (t + 6) 0 = nI N) (hsm : MM.1 4 t = nI N) (hbm : ∀ i, i < N → MC.1 (t + 6 + 10) i = MM.1 3 (60 * t + i)) : (∃ j q' M', j ≤ N ∧ f4_firstFault MC fu (t + 6) = some (nI j) ∧ f5_reads fu (nI t) MM = some (M', nI j) ∧ RS t N j q' MM M') ∨ ∃ n M' Mc', 1 ≤ n ∧ n ≤ 8 ∧ f4_firstFault MC fu (t + 6) = some (-nI 9) ∧ f5_reads fu (nI t) MM = some (M', -nI 9) ∧ RS t N N n MM M' ∧ PQ n 0 M' Mc' ∧ CSr n MC Mc' ∧ f2_read fu (t + 6) MC = f2_read_75 fu fu (nI 0) Mc' := by
  have hRS : RS t N 0 0 MM (sI (sI (sI (sI MM 0 20 (nI t)) 0 19 (nI N)) 0 18 (nI 0)) 0 22 (nI 0)) := by
    refine ⟨by rw [g3 (by omega), g1], by rw [g3 (by omega), g3 (by omega), g1], by rw [g3 (by omega), g3 (by omega), g3 (by omega), g1], g1, fun p p0 _ => by rw [g2 p0, g2 p0, g2 p0, g2 p0], fun j hj => by rw [g3 (by omega), g3 (by omega), g3 (by omega), g3 (by omega)], rfl⟩
  have hCS : CSr 0 MC (sI MC 35 0 (nI 0)) := ⟨g1, fun p hp => g2 (by omega), rfl⟩
  have rd4 : rd (sI MM 0 20 (nI t)) 4 4 (nI t) = some (nI N) := by rw [rd_n (by omega) (by omega), g2 (by omega), hsm]
  obtain ⟨i2, M2, b1, b2, b3, b4, b5, b6, b7, b8⟩ := skip_l (fu := fu) (b := fun i => MM.1 3 (60 * t + i)) (q := 0) hfu ht hN hsz hbm (fun _ _ => rfl) N 0 fu _ (by omega) (by omega) hRS
  have hPQ : PQ 0 0 M2 (sI MC 35 0 (nI 0)) := fun k f _ hk => by omega
  have e1 : f5_reads fu (nI t) MM = f5_reads_31 fu fu (nI 1) M2 := by
    unfold f5_reads
    rw [nm_u, rd4, bS, nm_u, nm_u, nm_u]
    unfold f5_skips
    rw [show (0 : Int32) = nI 0 from rfl, b5, bS]
    rfl
  have e2 : f4_firstFault MC fu (t + 6) = f4_firstFault_6 MC fu (fu - i2) (t + 6) (nI 0) (nI 0) (nI i2) := by
    unfold f4_firstFault
    rw [← b4]
    rfl
  have e3 : f2_read fu (t + 6) MC = f2_read_9 fu (fu - i2) (t + 6) (nI 0) (nI i2) (sI MC 35 0 (nI 0)) := by
    unfold f2_read
    rw [nm_u, ← b8 (by omega) _ hCS]
    rfl
  rw [e1, e2, e3]
  exact reads_l (fu := fu) hfu ht hN hsz hbm (fun _ _ => rfl) 8 0 i2 fu M2 _ (by omega) (by omega) b2 b3 b6 hPQ hCS
end RT
theorem RS.rel {t N i q : Nat} {MC MM M : Mem} (hR : Rel MC MM) (h : RS t N i q MM M) : Rel MC M := by
  obtain ⟨a1, a2, a3, a4, a5, a6, a7⟩ := h
  exact hR.scr (fun p p0 p13 _ _ => a5 p p0 p13) a6 a7
theorem s_fault {fu : Nat} (hfu : 10000 ≤ fu) : Sim_fault fu Rel := by
  intro MC MM a0 hR
  rcases tri a0 4 (by omega) with h | ⟨t, ht, rfl⟩
  · refine ⟨-1, MC, MM, ?_, ?_, hR⟩
    · unfold f4_fault
      rw [textAt_out h]
      rfl
    · unfold f5_fault
      rw [isText_out h]
      simp (disch := omega) only [lit, nlt, nle, neq, nI_add, pk_mul, nm_u, bS, gd_d, oc_none, oc_some, rd_n, wr_n, if_pos, if_neg, ite_true, ite_false, not_true_eq_false, not_false_eq_true, g1, g2, g3, g4, h1, h2, h3, h4]
  rcases hR.textc ht with ⟨e1, e2⟩ | ⟨N, hN, e1, e2, e3⟩
  · refine ⟨-3, _, _, ?_, ?_, hR.find (f := 1) (by omega)⟩
    · unfold f4_fault
      rw [textAt_in ht]
      simp (disch := omega) only [lit, nlt, nle, neq, nI_add, pk_mul, nm_u, bS, gd_d, oc_none, oc_some, rd_n, wr_n, if_pos, if_neg, ite_true, ite_false, not_true_eq_false, not_false_eq_true, g1, g2, g3, g4, h1, h2, h3, h4, refM_m (M := MC) (p := t + 6) (by omega) e1, m3_eq]
    · unfold f5_fault
      rw [isText_in ht]
      simp (disch := omega) only [lit, nlt, nle, neq, nI_add, pk_mul, nm_u, bS, gd_d, oc_none, oc_some, rd_n, wr_n, if_pos, if_neg, ite_true, ite_false, not_true_eq_false, not_false_eq_true, g1, g2, g3, g4, h1, h2, h3, h4, kq9, e2, m1_le, found_s]
  have rk := refM_k (M := MC) (p := t + 6) (by omega) e1 hN
  have r4 : rd MM 4 4 (nI t) = some (nI N) := by rw [rd_n (by omega) (by omega), e2]
  have t0 : (0 : Int32) ≤ nI N := by
    show nI 0 ≤ nI N
    rw [nle (by omega) (by omega)]; omega
  have cls : ∀ x, f4_firstFault MC fu (t + 6) = some x → f4_fault fu (nI t) MC = some (MC, x) := by
    intro x hx
    unfold f4_fault
    rw [textAt_in ht, bS, oc_some, rk, bS]
    dsimp only
    rw [if_pos tP0, hx, bS]
  have mdl : ∀ M' x, f5_reads fu (nI t) MM = some (M', x) → f5_fault fu (nI t) MM = some (M', x) := by
    intro M' x hx
    unfold f5_fault
    rw [isText_in ht, bS, if_neg tN0, r4, bS, if_pos t0, hx, bS]
  rcases text_cm (fu := fu) hfu ht hN e1 e2 e3 with ⟨j, q', M', a1, a2, a3, a4⟩ | ⟨n, M', Mc', a1, a2, a3, a4, a5, -, -, -⟩
  · exact ⟨nI j, MC, M', cls _ a2, mdl _ _ a3, a4.rel hR⟩
  · exact ⟨-nI 9, MC, M', cls _ a3, mdl _ _ a4, a5.rel hR⟩
