/-! 43: best -/
theorem those_9 {P : PD} {MM : Mem} {fu : Nat} {s : Nat → Int32} (hfu : 10000 ≤ fu) (hn : P.1 ≤ 8) (hnm : MM.1 0 9 = nI P.1) (hg : gst P.1 s) (hs : ∀ j, j ≤ P.1 → MM.1 10 j = s j) : f5_those MM fu (-nI 9) = some (nI (msk P.1 (lyB s))) := those_l9 hfu hn hnm hg hs
theorem begin0 {fu r : Nat} {M : Mem} (hfu : 10000 ≤ fu) (hr6 : r < 6) : ∃ M1, f0_begin fu r (nI 0) (nI 0) M = some M1 ∧ M1.1 r 0 = nI 0 ∧ (∀ q, q ≠ r → q ≠ r + 10 → M1.1 q = M.1 q) ∧ M1.2 = M.2 :=
  ⟨_, begin_s (by omega) (by omega) hfu, by rw [sF_q (by omega), g1], fun q a b => by rw [sF_q b, g2 a], rfl⟩
theorem row_m {fu r n : Nat} {M : Mem} (hfu : 10000 ≤ fu) (hr6 : r < 6) (hn : n ≤ 40) : ∃ M1, f5_row fu (nI r) (nI n) M = some (M1, nI n) ∧ M1.1 2 r = nI n ∧ (∀ q, q ≠ r → M1.1 2 q = M.1 2 q) ∧ (∀ q, q ≠ 1 → q ≠ 2 → M1.1 q = M.1 q) ∧ (∀ x, x < 40 * r ∨ 40 * r + 40 ≤ x → M1.1 1 x = M.1 1 x) ∧ M1.2 = M.2 := by
  refine ⟨sF (sI M 2 r (nI n)) 1 (fun j => if 40 * r + 0 ≤ j ∧ j < 40 * r + 40 then nI 0 else (sI M 2 r (nI n)).1 1 j), ?_, by rw [sF_q (by omega), g1], fun q a => by rw [sF_q (by omega), g3 a], fun q a b => by rw [sF_q a, g2 b], fun x hx => by rw [sF_1, if_neg (by omega), g2 (by omega)], rfl⟩
  unfold f5_row
  rw [isRow_in hr6]
  simp (disch := omega) only [lit, nlt, nle, neq, nI_add, pk_mul, nm_u, bS, gd_d, oc_none, oc_some, rd_n, wr_n, if_pos, if_neg, ite_true, ite_false, not_true_eq_false, not_false_eq_true, g1, g2, g3, g4, h1, h2, h3, h4]
  exact row_l hr6 40 0 fu _ (by omega) (by omega)
theorem sI_cg {M N : Mem} {p i q : Nat} {v : Int32} (h : M.1 q = N.1 q) : (sI M p i v).1 q = (sI N p i v).1 q := by
  by_cases e : q = p
  · subst e; unfold sI; simp [h]
  · rw [g2 e, g2 e, h]
theorem th_key {n : Nat} {s : Nat → Int32} : (2 ^ n - 1) ^^^ ((2 ^ n - 1) &&& msk n (fun k => s (k + 1) == -nI 2)) = msk n (fun k => !(s (k + 1) == -nI 2)) := by
  apply Nat.eq_of_testBit_eq
  intro i
  simp only [Nat.testBit_xor, Nat.testBit_and, Nat.testBit_two_pow_sub_one, msk_tb]
  cases decide (i < n) <;> cases (s (i + 1) == -nI 2) <;> rfl
theorem th_key2 {n : Nat} {s : Nat → Int32} : msk n (fun k => s (k + 1) == -nI 1) ||| msk n (lyB s) = msk n (fun k => !(s (k + 1) == -nI 2)) := by
  apply Nat.eq_of_testBit_eq
  intro i
  simp only [Nat.testBit_or, msk_tb, lyB]
  by_cases c : s (i + 1) = -nI 1
  · have e2 : (s (i + 1) == -nI 2) = false := by
      rw [c]; decide
    rw [e2, c]
    cases decide (i < n) <;> simp
  · have e1 : (s (i + 1) == -nI 1) = false := by simp [c]
    rw [e1]
    cases decide (i < n) <;> cases (s (i + 1) == -nI 2) <;> rfl
theorem bl_0 {P : PD} {B n : Nat} : cnt n (bl P B 0) = 0 := by
  induction n with
  | zero => rfl
  | succ n ih =>
    rw [cnt_s, ih]
    unfold bl
    simp
theorem s_best {fu : Nat} (hfu : 10000 ≤ fu) : Sim_best fu Rel := by
  intro MC MM a0 hR
  obtain ⟨P, s, hP, hg, hs, hp⟩ := hR.nw
  have h8 := hP.1
  have h256 := pow8 h8
  rcases tri a0 6 (by omega) with h | ⟨r, hr6, rfl⟩
  · refine ⟨-1, MC, MM, ?_, ?_, hR⟩
    · unfold f4_best
      rw [rowAt_out h]
      rfl
    · unfold f5_best
      rw [isRow_out h]
      simp (disch := omega) only [lit, nlt, nle, neq, nI_add, pk_mul, nm_u, bS, gd_d, oc_none, oc_some, rd_n, wr_n, if_pos, if_neg, ite_true, ite_false, not_true_eq_false, not_false_eq_true, g1, g2, g3, g4, h1, h2, h3, h4]
  by_cases hn : P.1 = 0
  · refine ⟨-4, MC, MM, ?_, ?_, hR⟩
    · unfold f4_best
      rw [rowAt_in hr6]
      simp (disch := omega) only [lit, nlt, nle, neq, nI_add, pk_mul, nm_u, bS, gd_d, oc_none, oc_some, rd_n, wr_n, if_pos, if_neg, ite_true, ite_false, not_true_eq_false, not_false_eq_true, g1, g2, g3, g4, h1, h2, h3, h4, hP.2.1]
    · unfold f5_best
      rw [isRow_in hr6]
      simp (disch := omega) only [lit, nlt, nle, neq, nI_add, pk_mul, nm_u, bS, gd_d, oc_none, oc_some, rd_n, wr_n, if_pos, if_neg, ite_true, ite_false, not_true_eq_false, not_false_eq_true, g1, g2, g3, g4, h1, h2, h3, h4, kq9, hP.2.2.1]
  have gk : gd (decide (r < 10)) = some () := by
    have : r < 10 := by omega
    simp [gd, this]
  have t1 := those_m (w := -nI 1) hfu h8 hP.2.2.1 hs (by decide)
  have t9 := those_9 hfu h8 hP.2.2.1 hg hs
  have hS := msk_lt P.1 (fun k => !(s (k + 1) == -nI 2))
  have k1 := th_key (n := P.1) (s := s)
  have k2 := th_key2 (n := P.1) (s := s)
  generalize msk P.1 (fun k => !(s (k + 1) == -nI 2)) = S at hS k1 k2
  obtain ⟨-, i2, i3, -, -⟩ := bst_inv P S 256
  rw [← mx_mxn] at i3
  have hBS := okS_le i2
  have lc := leastOf_c hfu hP hS
  have bm := bestOf_m hfu hP hS
  generalize bst P S 256 = B at i2 i3 hBS lc bm
  have hB : B < 2 ^ P.1 := by omega
  have hpB := pcn_le (S := B) (by omega)
  obtain ⟨M1, c1, c2, c3, c4⟩ := begin0 (M := sI MC 28 6 (nI B)) hfu hr6
  obtain ⟨N1, d1, d2, d3, d4, d5, d6⟩ := row_m (n := pcn B) (M := MM) hfu hr6 (by omega)
  have hP1 : GP P (sI MC 28 6 (nI B)) N1 := hP.cg (fun q hq => g2 (by omega)) (by rw [d4 0 (by omega) (by omega)]) (fun q hq => d4 q (by omega) (by omega))
  obtain ⟨M2, N2, e1, e2, e3⟩ := ord_l (fu := fu) hfu hP1 hr6 hB 10 0 fu fu M1 N1 (by omega) (by omega) (by omega) (by rw [bl_0]; exact ⟨c2, c3, c4, fun _ _ => rfl, fun _ _ => rfl, rfl, fun i hi => absurd hi (by omega)⟩)
  rw [bl_0, Nat.add_zero] at e3
  rw [bl_10 hP1 hB] at e1
  obtain ⟨x1, x2, x3, x4, x5, x6, x7⟩ := e1
  have hP2 : GP P M2 N2 := hP1.cg (fun q hq => x2 q (by omega) (by omega)) (by rw [x4 0 (by omega)]) (fun q hq => x4 q (by omega))
  refine ⟨zI (mx P S), M2, sI N2 0 4 (nI B), ?_, ?_, ?_⟩
  · unfold f4_best f2_all f2_orderInto
    rw [rowAt_in hr6]
    simp (disch := omega) only [lit, nlt, nle, neq, nI_add, pk_mul, nm_u, bS, gd_d, oc_none, oc_some, rd_n, wr_n, if_pos, if_neg, ite_true, ite_false, not_true_eq_false, not_false_eq_true, g1, g2, g3, g4, h1, h2, h3, h4, ior, iand, shl_n, Nat.or_zero, hP.2.1, all2, hp.2.2.1, andnot, k1, lc, gk, c1, e2, most_c hP2 hS]
  · unfold f5_best
    rw [isRow_in hr6]
    simp (disch := omega) only [lit, nlt, nle, neq, nI_add, pk_mul, nm_u, bS, gd_d, oc_none, oc_some, rd_n, wr_n, if_pos, if_neg, ite_true, ite_false, not_true_eq_false, not_false_eq_true, g1, g2, g3, g4, h1, h2, h3, h4, ior, iand, shl_n, Nat.or_zero, kq9, hP.2.2.1, t1, t9, k2, bm, bits_m hfu, d1, e3, i3]
  · refine (hR.tell (nI B)).row (fun q => ?_) (by rw [x3]) (fun q => ?_) (by rw [g4, x6, d6]; rfl) (fun hG => hG.upd hr6 (fun q _ lh1 lh2 => x2 q lh1 lh2) (fun q lh1 => ?_) (fun q lh1 => ?_) ⟨?_, Or.inr ⟨pcn B, by omega, x1, fun i hi => ?_⟩⟩)
    · by_cases c : q < 6 ∨ (10 ≤ q ∧ q < 16)
      · omega
      · rw [x2 q (by omega) (by omega)]; simp
    · by_cases c : q = 1 ∨ q = 2
      · omega
      · rw [sI_cg (M := N2) (N := MM) (by rw [x4 q (by omega), d4 q (by omega) (by omega)])]; simp
    · rw [g2 (by omega), g2 (by omega), x4 2 (by omega), d3 q lh1]
    · rw [g2 (by omega), g2 (by omega), x5 q lh1, d5 q lh1]
    · rw [g2 (by omega), x1, x4 2 (by omega), d2]
    · show M2.1 (r + 10) i = (sI N2 0 4 (nI B)).1 1 (40 * r + i)
      rw [g2 (by omega), x7 i hi]
