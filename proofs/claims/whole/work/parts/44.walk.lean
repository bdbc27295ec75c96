/-! 44: ways -/
theorem Rel.scr {MC MM MM' : Mem} (h : Rel MC MM) (a : ∀ q, q ≠ 0 → q ≠ 13 → q ≠ 14 → q ≠ 15 → MM'.1 q = MM.1 q) (b : ∀ i, i = 4 ∨ i = 7 ∨ i = 9 ∨ i = 16 → MM'.1 0 i = MM.1 0 i) (c : MM'.2 = MM.2) : Rel MC MM' := by
  obtain ⟨P, hA, hR, hT, hP, hD, hK⟩ := h
  exact ⟨P, hA.cg rfl rfl rfl rfl (b 4 (by omega)) (b 7 (by omega)) c (a 5 (by omega) (by omega) (by omega) (by omega)), hR.cg (fun _ _ => rfl) (a 1 (by omega) (by omega) (by omega) (by omega)) (a 2 (by omega) (by omega) (by omega) (by omega)), hT.cg (fun _ _ => rfl) (a 3 (by omega) (by omega) (by omega) (by omega)) (a 4 (by omega) (by omega) (by omega) (by omega)), hP.cg (fun _ _ => rfl) (b 9 (by omega)) (fun q hq => a q (by omega) (by omega) (by omega) (by omega)), hD.cg (fun _ _ => rfl) (b 16 (by omega)) (a 10 (by omega) (by omega) (by omega) (by omega)) (a 11 (by omega) (by omega) (by omega) (by omega)), hK.cg (fun _ _ => rfl) (a 12 (by omega) (by omega) (by omega) (by omega))⟩
theorem Rel.s24 {MC MM : Mem} (h : Rel MC MM) (v : Int32) : Rel MC (sI MM 0 24 v) := h.scr (fun q a _ _ _ => g2 a) (fun i hi => g3 (by omega)) rfl
def dst (a b : Nat) : Nat := if a ≤ b then b - a else a - b
theorem far_n {a b : Nat} (ha : a < 2147483648) (hb : b < 2147483648) : f5_far (nI a) (nI b) = some (nI (dst a b)) := by
  unfold f5_far dst
  by_cases c : b ≤ a
  · simp (disch := omega) only [lit, nlt, nle, neq, nI_add, pk_mul, nm_u, bS, gd_d, oc_none, oc_some, rd_n, wr_n, if_pos, if_neg, ite_true, ite_false, not_true_eq_false, not_false_eq_true, g1, g2, g3, g4, h1, h2, h3, h4, pk_sub]
    by_cases d : a ≤ b
    · have : a = b := by omega
      subst this
      rw [if_pos d]
    · rw [if_neg d]
  · simp (disch := omega) only [lit, nlt, nle, neq, nI_add, pk_mul, nm_u, bS, gd_d, oc_none, oc_some, rd_n, wr_n, if_pos, if_neg, ite_true, ite_false, not_true_eq_false, not_false_eq_true, g1, g2, g3, g4, h1, h2, h3, h4, pk_sub]
theorem abs_n {a b : Nat} (ha : a < 10) (hb : b < 10) : (if nI 0 ≤ nI a - nI b then nI a - nI b else nI 0 - (nI a - nI b)) = nI (dst b a) := by
  have : ∀ a, a < 10 → ∀ b, b < 10 → (if nI 0 ≤ nI a - nI b then nI a - nI b else nI 0 - (nI a - nI b)) = nI (dst b a) := by decide +kernel
  exact this a ha b hb
theorem stepsBy_c {M : Mem} {h a b : Nat} (h0 : M.1 33 2 = nI h) (hh : h < 10) (ha : a < 10) (hb : b < 10) : f3_stepsBy M (nI a) (nI b) = some (nI (dst h a + dst a b)) := by
  unfold f3_stepsBy
  rw [h0, lit, abs_n ha hh, abs_n hb ha, nI_add]
theorem dst_lt {a b : Nat} (ha : a < 10) (hb : b < 10) : dst a b < 10 := by
  unfold dst; split <;> omega
theorem n10_le : ∀ p, p < 10 → ¬ nI 10 ≤ nI p := by decide +kernel
theorem m1_nle : ∀ p, p < 10 → ¬ nI p ≤ -nI 1 := by decide +kernel
section WK
variable {n T h fu : Nat} {s : Nat → Int32} {MC MM : Mem}
theorem lohi_l (hn : n ≤ 8) (hT : T < 2 ^ n) (hT0 : T ≠ 0) (h35 : MC.1 35 0 = nI n) (hl : ∀ k, k < n → T.testBit k = true → ∃ p, p < 10 ∧ s (k + 1) = nI p ∧ MC.1 34 k = nI p) (h9 : MM.1 0 9 = nI n) (hs : ∀ j, j ≤ n → MM.1 10 j = s j) (h0 : s 0 = nI h) (hh : h < 10) : ∀ (e k f1 f2 f3 lo hi : Nat) (X2 X3 : Int32), k + e = n → e < f1 → e < f2 → e < f3 → (((∀ p, p < 10 → (X2 ≤ nI p) = False) ∧ (∀ p, p < 10 → (nI p ≤ X3) = False) ∧ lo = 9 ∧ hi = 0 ∧ ∀ j, j < k → T.testBit j = false) ∨ (X2 = nI lo ∧ X3 = nI hi ∧ lo ≤ hi ∧ hi < 10)) → ∃ lo' hi', lo' ≤ hi' ∧ hi' < 10 ∧ f3_lowest_5 MC fu f1 (nI T) (nI lo) (nI k) = some (nI lo') ∧ f3_highest_4 MC fu f2 (nI T) (nI hi) (nI k) = some (nI hi') ∧ f5_steps_8 fu f3 (nI T) X2 X3 (nI k) MM = some (sI MM 0 24 (if dst h lo' + (hi' - lo') < dst h hi' + (hi' - lo') then nI hi' else nI lo'), nI (if dst h lo' + (hi' - lo') < dst h hi' + (hi' - lo') then dst h lo' + (hi' - lo') else dst h hi' + (hi' - lo'))) := by
  have h256 := pow8 hn
  intro e
  induction e with
  | zero =>
    intro k f1 f2 f3 lo hi X2 X3 hk hf1 hf2 hf3 hX
    rcases f1 with _ | f1
    · omega
    rcases f2 with _ | f2
    · omega
    rcases f3 with _ | f3
    · omega
    have : k = n := by omega
    subst this
    rcases hX with ⟨-, -, -, -, q⟩ | ⟨rfl, rfl, hlh, hi9⟩
    · refine absurd ?_ hT0
      apply Nat.eq_of_testBit_eq
      intro j
      rw [Nat.zero_testBit]
      by_cases c : j < k
      · exact q j c
      · exact tb_ge hT (by omega)
    have d1 := dst_lt (a := h) (b := lo) hh (by omega)
    have d2 := dst_lt (a := h) (b := hi) hh hi9
    refine ⟨lo, hi, hlh, hi9, ?_, ?_, ?_⟩
    · rw [f3_lowest_5]
      simp (disch := omega) only [lit, nlt, nle, neq, nI_add, pk_mul, nm_u, bS, gd_d, oc_none, oc_some, rd_n, wr_n, if_pos, if_neg, ite_true, ite_false, not_true_eq_false, not_false_eq_true, g1, g2, g3, g4, h1, h2, h3, h4, h35]
    · rw [f3_highest_4]
      simp (disch := omega) only [lit, nlt, nle, neq, nI_add, pk_mul, nm_u, bS, gd_d, oc_none, oc_some, rd_n, wr_n, if_pos, if_neg, ite_true, ite_false, not_true_eq_false, not_false_eq_true, g1, g2, g3, g4, h1, h2, h3, h4, h35]
    · have r0 : MM.1 10 0 = nI h := by rw [hs 0 (by omega), h0]
      have ea : dst h lo + hi - lo = dst h lo + (hi - lo) := by omega
      have eb : dst h hi + hi - lo = dst h hi + (hi - lo) := by omega
      rw [f5_steps_8]
      unfold f5_steps_147
      have hT1 : ¬ T = 0 := hT0
      by_cases c : dst h lo + (hi - lo) < dst h hi + (hi - lo)
      · simp (disch := omega) only [lit, nlt, nle, neq, nI_add, pk_mul, nm_u, bS, gd_d, oc_none, oc_some, rd_n, wr_n, if_pos, if_neg, ite_true, ite_false, not_true_eq_false, not_false_eq_true, g1, g2, g3, g4, h1, h2, h3, h4, ior, iand, shl_n, Nat.or_zero, h9, r0, far_n, pk_sub, ea, eb]
      · simp (disch := omega) only [lit, nlt, nle, neq, nI_add, pk_mul, nm_u, bS, gd_d, oc_none, oc_some, rd_n, wr_n, if_pos, if_neg, ite_true, ite_false, not_true_eq_false, not_false_eq_true, g1, g2, g3, g4, h1, h2, h3, h4, ior, iand, shl_n, Nat.or_zero, h9, r0, far_n, pk_sub, ea, eb]
  | succ e ih =>
    intro k f1 f2 f3 lo hi X2 X3 hk hf1 hf2 hf3 hX
    rcases f1 with _ | f1
    · omega
    rcases f2 with _ | f2
    · omega
    rcases f3 with _ | f3
    · omega
    cases c : T.testBit k
    · have hX' : ((∀ p, p < 10 → (X2 ≤ nI p) = False) ∧ (∀ p, p < 10 → (nI p ≤ X3) = False) ∧ lo = 9 ∧ hi = 0 ∧ ∀ j, j < k + 1 → T.testBit j = false) ∨ (X2 = nI lo ∧ X3 = nI hi ∧ lo ≤ hi ∧ hi < 10) := by
        rcases hX with ⟨a1, a2, a3, a4, a5⟩ | q
        · refine Or.inl ⟨a1, a2, a3, a4, fun j hj => ?_⟩
          by_cases d : j = k
          · subst d; exact c
          · exact a5 j (by omega)
        · exact Or.inr q
      obtain ⟨lo', hi', b1, b2, b3, b4, b5⟩ := ih (k + 1) f1 f2 f3 lo hi X2 X3 (by omega) (by omega) (by omega) (by omega) hX'
      refine ⟨lo', hi', b1, b2, ?_, ?_, ?_⟩
      · rw [f3_lowest_5]
        simp (disch := omega) only [lit, nlt, nle, neq, nI_add, pk_mul, nm_u, bS, gd_d, oc_none, oc_some, rd_n, wr_n, if_pos, if_neg, ite_true, ite_false, not_true_eq_false, not_false_eq_true, g1, g2, g3, g4, h1, h2, h3, h4, ior, iand, shl_n, Nat.or_zero, h35, bit_f c (show k < 31 by omega) (show T < 2147483648 by omega)]
        exact b3
      · rw [f3_highest_4]
        simp (disch := omega) only [lit, nlt, nle, neq, nI_add, pk_mul, nm_u, bS, gd_d, oc_none, oc_some, rd_n, wr_n, if_pos, if_neg, ite_true, ite_false, not_true_eq_false, not_false_eq_true, g1, g2, g3, g4, h1, h2, h3, h4, ior, iand, shl_n, Nat.or_zero, h35, bit_f c (show k < 31 by omega) (show T < 2147483648 by omega)]
        exact b4
      · rw [f5_steps_8]
        simp (disch := omega) only [lit, nlt, nle, neq, nI_add, pk_mul, nm_u, bS, gd_d, oc_none, oc_some, rd_n, wr_n, if_pos, if_neg, ite_true, ite_false, not_true_eq_false, not_false_eq_true, g1, g2, g3, g4, h1, h2, h3, h4, ior, iand, shl_n, Nat.or_zero, h9, hs_f c (show k < 31 by omega) (show T < 2147483648 by omega)]
        exact b5
    · obtain ⟨p, hp, p1, p2⟩ := hl k (by omega) c
      have hlh : (lo = 9 ∧ hi = 0) ∨ (lo ≤ hi ∧ hi < 10) := by
        rcases hX with ⟨-, -, a3, a4, -⟩ | ⟨-, -, a3, a4⟩
        · exact Or.inl ⟨a3, a4⟩
        · exact Or.inr ⟨a3, a4⟩
      obtain ⟨lo1, lh1⟩ : ∃ x, x = if p < lo then p else lo := ⟨_, rfl⟩
      obtain ⟨hi1, lh2⟩ : ∃ x, x = if hi < p then p else hi := ⟨_, rfl⟩
      have lh3 : lo1 ≤ hi1 ∧ hi1 < 10 := by
        rw [lh1, lh2]
        constructor
        · split <;> split <;> omega
        · split <;> omega
      obtain ⟨lo', hi', b1, b2, b3, b4, b5⟩ := ih (k + 1) f1 f2 f3 lo1 hi1 (nI lo1) (nI hi1) (by omega) (by omega) (by omega) (by omega) (Or.inr ⟨rfl, rfl, lh3.1, lh3.2⟩)
      refine ⟨lo', hi', b1, b2, ?_, ?_, ?_⟩
      · rw [f3_lowest_5]
        have e1 : (if nI p < nI lo then nI p else nI lo) = nI lo1 := by
          rw [lh1]
          simp only [nlt (show p < 2147483648 by omega) (show lo < 2147483648 by omega)]
          split <;> rfl
        simp (disch := omega) only [lit, nlt, nle, neq, nI_add, pk_mul, nm_u, bS, gd_d, oc_none, oc_some, rd_n, wr_n, if_pos, if_neg, ite_true, ite_false, not_true_eq_false, not_false_eq_true, g1, g2, g3, g4, h1, h2, h3, h4, ior, iand, shl_n, Nat.or_zero, h35, bit_t c (show k < 31 by omega) (show T < 2147483648 by omega), kq9, p2]
        first
          | (rw [e1]; exact b3)
          | (rw [lh1] at b3
             by_cases q : p < lo
             · rw [if_pos q] at b3
               rw [if_pos q]
               exact b3
             · rw [if_neg q] at b3
               rw [if_neg q]
               exact b3)
      · rw [f3_highest_4]
        have e1 : (if nI hi < nI p then nI p else nI hi) = nI hi1 := by
          rw [lh2]
          simp only [nlt (show hi < 2147483648 by omega) (show p < 2147483648 by omega)]
          split <;> rfl
        simp (disch := omega) only [lit, nlt, nle, neq, nI_add, pk_mul, nm_u, bS, gd_d, oc_none, oc_some, rd_n, wr_n, if_pos, if_neg, ite_true, ite_false, not_true_eq_false, not_false_eq_true, g1, g2, g3, g4, h1, h2, h3, h4, ior, iand, shl_n, Nat.or_zero, h35, bit_t c (show k < 31 by omega) (show T < 2147483648 by omega), kq9, p2]
        first
          | (rw [e1]; exact b4)
          | (rw [lh2] at b4
             by_cases q : hi < p
             · rw [if_pos q] at b4
               rw [if_pos q]
               exact b4
             · rw [if_neg q] at b4
               rw [if_neg q]
               exact b4)
      · have r1 : MM.1 10 (1 + k) = nI p := by rw [show 1 + k = k + 1 by omega, hs (k + 1) (by omega), p1]
        rw [f5_steps_8]
        unfold f5_steps_52
        rcases hX with ⟨xa, xb, xc, xd, -⟩ | ⟨rfl, rfl, a3, a4⟩
        · have q1 : lo1 = p := by rw [lh1]; split <;> omega
          have q2 : hi1 = p := by rw [lh2]; split <;> omega
          rw [q1, q2] at b5
          simp (disch := omega) only [lit, nlt, nle, neq, nI_add, pk_mul, nm_u, bS, gd_d, oc_none, oc_some, rd_n, wr_n, if_pos, if_neg, ite_true, ite_false, not_true_eq_false, not_false_eq_true, g1, g2, g3, g4, h1, h2, h3, h4, ior, iand, shl_n, Nat.or_zero, h9, hs_t c (show k < 31 by omega) (show T < 2147483648 by omega), kq9, r1, xa p hp, xb p hp]
          exact b5
        · by_cases u : p < lo
          · have q1 : lo1 = p := by rw [lh1, if_pos u]
            have q2 : hi1 = hi := by rw [lh2, if_neg (by omega)]
            rw [q1, q2] at b5
            simp (disch := omega) only [lit, nlt, nle, neq, nI_add, pk_mul, nm_u, bS, gd_d, oc_none, oc_some, rd_n, wr_n, if_pos, if_neg, ite_true, ite_false, not_true_eq_false, not_false_eq_true, g1, g2, g3, g4, h1, h2, h3, h4, ior, iand, shl_n, Nat.or_zero, h9, hs_t c (show k < 31 by omega) (show T < 2147483648 by omega), kq9, r1]
            exact b5
          · have q1 : lo1 = lo := by rw [lh1, if_neg u]
            by_cases w : hi < p
            · have q2 : hi1 = p := by rw [lh2, if_pos w]
              rw [q1, q2] at b5
              simp (disch := omega) only [lit, nlt, nle, neq, nI_add, pk_mul, nm_u, bS, gd_d, oc_none, oc_some, rd_n, wr_n, if_pos, if_neg, ite_true, ite_false, not_true_eq_false, not_false_eq_true, g1, g2, g3, g4, h1, h2, h3, h4, ior, iand, shl_n, Nat.or_zero, h9, hs_t c (show k < 31 by omega) (show T < 2147483648 by omega), kq9, r1]
              exact b5
            · have q2 : hi1 = hi := by rw [lh2, if_neg w]
              rw [q1, q2] at b5
              simp (disch := omega) only [lit, nlt, nle, neq, nI_add, pk_mul, nm_u, bS, gd_d, oc_none, oc_some, rd_n, wr_n, if_pos, if_neg, ite_true, ite_false, not_true_eq_false, not_false_eq_true, g1, g2, g3, g4, h1, h2, h3, h4, ior, iand, shl_n, Nat.or_zero, h9, hs_t c (show k < 31 by omega) (show T < 2147483648 by omega), kq9, r1]
              exact b5
theorem ways_cm (hfu : 10000 ≤ fu) (hn : n ≤ 8) (hT : T < 2 ^ n) (hT0 : T ≠ 0) (h35 : MC.1 35 0 = nI n) (hl : ∀ k, k < n → T.testBit k = true → ∃ p, p < 10 ∧ s (k + 1) = nI p ∧ MC.1 34 k = nI p) (h9 : MM.1 0 9 = nI n) (hs : ∀ j, j ≤ n → MM.1 10 j = s j) (h0 : s 0 = nI h) (hh : h < 10) : ∃ lo hi, lo ≤ hi ∧ hi < 10 ∧ f3_lowest MC fu (nI T) = some (nI lo) ∧ f3_highest MC fu (nI T) = some (nI hi) ∧ f5_steps fu (nI T) MM = some (sI MM 0 24 (if dst h lo + (hi - lo) < dst h hi + (hi - lo) then nI hi else nI lo), nI (if dst h lo + (hi - lo) < dst h hi + (hi - lo) then dst h lo + (hi - lo) else dst h hi + (hi - lo))) := by
  obtain ⟨lo, hi, b1, b2, b3, b4, b5⟩ := lohi_l (fu := fu) hn hT hT0 h35 hl h9 hs h0 hh n 0 fu fu fu 9 0 (nI 10) (-nI 1) (by omega) (by omega) (by omega) (by omega) (Or.inl ⟨fun p hp => eq_false (n10_le p hp), fun p hp => eq_false (m1_nle p hp), rfl, rfl, fun j hj => absurd hj (by omega)⟩)
  exact ⟨lo, hi, b1, b2, b3, b4, b5⟩
theorem dst_lh {lo hi : Nat} (lh1 : lo ≤ hi) : dst lo hi = hi - lo ∧ dst hi lo = hi - lo := by
  unfold dst
  constructor
  · rw [if_pos lh1]
  · split <;> omega
theorem min_n {A B : Nat} (hA : A < 2147483648) (hB : B < 2147483648) : (if nI B < nI A then nI B else nI A) = nI (if A < B then A else B) := by
  by_cases c : nI B < nI A
  · rw [if_pos c]
    rw [nlt hB hA] at c
    rw [if_neg (by omega)]
  · rw [if_neg c]
    rw [nlt hB hA] at c
    by_cases d : A < B
    · rw [if_pos d]
    · rw [if_neg d, show A = B by omega]
theorem stepsFor_c {lo hi : Nat} (hT : T < 256) (hT0 : T ≠ 0) (hlh : lo ≤ hi) (hh9 : hi < 10) (hh : h < 10) (h33 : MC.1 33 2 = nI h) (lh1 : f3_lowest MC fu (nI T) = some (nI lo)) (lh2 : f3_highest MC fu (nI T) = some (nI hi)) : f3_stepsFor MC fu (nI T) = some (nI (if dst h lo + (hi - lo) < dst h hi + (hi - lo) then dst h lo + (hi - lo) else dst h hi + (hi - lo))) := by
  have d1 := dst_lt (a := h) (b := lo) hh (by omega)
  have d2 := dst_lt (a := h) (b := hi) hh hh9
  have hT1 : ¬ nI T = nI 0 := by
    rw [neq (by omega) (by omega)]
    exact hT0
  have s1 := stepsBy_c h33 hh (show lo < 10 by omega) hh9
  have s2 := stepsBy_c h33 hh hh9 (show lo < 10 by omega)
  rw [(dst_lh hlh).1] at s1
  rw [(dst_lh hlh).2] at s2
  unfold f3_stepsFor
  rw [lit, if_neg hT1, lh1, bS, lh2, bS, s1, bS, s2, bS, min_n (by omega) (by omega)]
theorem steps_0 (hfu : 10000 ≤ fu) (hn : n ≤ 8) (h9 : MM.1 0 9 = nI n) : f5_steps fu (nI 0) MM = some (sI MM 0 24 (MM.1 10 0), nI 0) := by
  have key : ∀ (e k f : Nat) (X2 X3 : Int32), k + e = n → e < f → f5_steps_8 fu f (nI 0) X2 X3 (nI k) MM = some (sI MM 0 24 (MM.1 10 0), nI 0) := by
    intro e
    induction e with
    | zero =>
      intro k f X2 X3 hk hf
      rcases f with _ | f
      · omega
      have : k = n := by omega
      subst this
      rw [f5_steps_8]
      simp (disch := omega) only [lit, nlt, nle, neq, nI_add, pk_mul, nm_u, bS, gd_d, oc_none, oc_some, rd_n, wr_n, if_pos, if_neg, ite_true, ite_false, not_true_eq_false, not_false_eq_true, g1, g2, g3, g4, h1, h2, h3, h4, h9]
    | succ e ih =>
      intro k f X2 X3 hk hf
      rcases f with _ | f
      · omega
      rw [f5_steps_8]
      simp (disch := omega) only [lit, nlt, nle, neq, nI_add, pk_mul, nm_u, bS, gd_d, oc_none, oc_some, rd_n, wr_n, if_pos, if_neg, ite_true, ite_false, not_true_eq_false, not_false_eq_true, g1, g2, g3, g4, h1, h2, h3, h4, ior, iand, shl_n, Nat.or_zero, h9, hs_f (Nat.zero_testBit k) (show k < 31 by omega) (show 0 < 2147483648 by omega)]
      exact ih (k + 1) f X2 X3 (by omega) (by omega)
  unfold f5_steps
  exact key n 0 fu _ _ (by omega) (by omega)
end WK
theorem lies_at {P : PD} {s : Nat → Int32} {MC : Mem} {T : Nat} (hg : gst P.1 s) (hp : pic P s (MC.1 33 2) (MC.1 33 3) (MC.1 33 4) (MC.1 34)) (hT : T &&& msk P.1 (lyB s) = T) : ∀ k, k < P.1 → T.testBit k = true → ∃ p, p < 10 ∧ s (k + 1) = nI p ∧ MC.1 34 k = nI p := by
  intro k hk c
  have c2 : lyB s k = true := by
    rw [← hT, Nat.testBit_and, msk_tb] at c
    simp at c
    exact c.2.2
  obtain ⟨n1, n2⟩ := lyB_ne c2
  rcases hg.2 k hk with e | e | ⟨p, hp9, e⟩
  · exact absurd e n1
  · exact absurd e n2
  · exact ⟨p, hp9, e, by rw [hp.2.2.2 k hk n1 n2, e]⟩
section WS
variable {P : PD} {s : Nat → Int32} {MC MM : Mem} {fu T h lo hi : Nat}
theorem walk0_c (hP : GP P MC MM) (hp : pic P s (MC.1 33 2) (MC.1 33 3) (MC.1 33 4) (MC.1 34)) : f4_walk fu (nI 0) MC = some (sI MC 28 6 (s 0), nI 0) := by
  have h8 := hP.1
  have h256 := pow8 h8
  unfold f4_walk f2_all
  simp (disch := omega) only [lit, nlt, nle, neq, nI_add, pk_mul, nm_u, bS, gd_d, oc_none, oc_some, rd_n, wr_n, if_pos, if_neg, ite_true, ite_false, not_true_eq_false, not_false_eq_true, g1, g2, g3, g4, h1, h2, h3, h4, ior, iand, shl_n, Nat.or_zero, hP.2.1, all2, lying_c hP hp, andnot, sub_t (Nat.zero_and (msk P.1 (lyB s))), hp.1]
theorem walk0_m (hfu : 10000 ≤ fu) (hP : GP P MC MM) (hg : gst P.1 s) (hs : ∀ j, j ≤ P.1 → MM.1 10 j = s j) : f5_walk fu (nI 0) MM = some (sI (sI MM 0 24 (s 0)) 0 4 (s 0), nI 0) := by
  have h8 := hP.1
  have h256 := pow8 h8
  have hone : 0 < 2 ^ P.1 := Nat.one_le_two_pow
  have hin : f5_in (nI 0).toInt64 (0 : Int64) (nI (2 ^ P.1) - nI 1).toInt64 = some (nI 1) := ix_in (by omega) hone
  have t9 := those_9 hfu h8 hP.2.2.1 hg hs
  unfold f5_walk f5_answer
  simp (disch := omega) only [lit, nlt, nle, neq, nI_add, pk_mul, nm_u, bS, gd_d, oc_none, oc_some, rd_n, wr_n, if_pos, if_neg, ite_true, ite_false, not_true_eq_false, not_false_eq_true, g1, g2, g3, g4, h1, h2, h3, h4, ior, iand, shl_n, Nat.or_zero, hP.2.2.1, hin, kq9, t9, andnot, sub_t (Nat.zero_and (msk P.1 (lyB s))), steps_0 hfu h8 hP.2.2.1, hs 0 (Nat.zero_le _)]
theorem walkT_c (hP : GP P MC MM) (hp : pic P s (MC.1 33 2) (MC.1 33 3) (MC.1 33 4) (MC.1 34)) (hT : T < 2 ^ P.1) (hT0 : ¬ T = 0) (c : T &&& msk P.1 (lyB s) = T) (h33 : MC.1 33 2 = nI h) (hh : h < 10) (b1 : lo ≤ hi) (b2 : hi < 10) (b3 : f3_lowest MC fu (nI T) = some (nI lo)) (b4 : f3_highest MC fu (nI T) = some (nI hi)) (sf : ∀ v, f3_stepsFor (sI MC 28 6 v) fu (nI T) = some (nI (if dst h lo + (hi - lo) < dst h hi + (hi - lo) then dst h lo + (hi - lo) else dst h hi + (hi - lo)))) : f4_walk fu (nI T) MC = some (sI MC 28 6 (if dst h lo + (hi - lo) < dst h hi + (hi - lo) then nI hi else nI lo), nI (if dst h lo + (hi - lo) < dst h hi + (hi - lo) then dst h lo + (hi - lo) else dst h hi + (hi - lo))) := by
  have h8 := hP.1
  have h256 := pow8 h8
  have d1 := dst_lt (a := h) (b := lo) hh (by omega)
  have d2 := dst_lt (a := h) (b := hi) hh b2
  have s1 := stepsBy_c h33 hh (show lo < 10 by omega) b2
  have s2 := stepsBy_c h33 hh b2 (show lo < 10 by omega)
  rw [(dst_lh b1).1] at s1
  rw [(dst_lh b1).2] at s2
  unfold f4_walk f2_all f4_walk_98 f4_walk_111
  simp (disch := omega) only [lit, nlt, nle, neq, nI_add, pk_mul, nm_u, bS, gd_d, oc_none, oc_some, rd_n, wr_n, if_pos, if_neg, ite_true, ite_false, not_true_eq_false, not_false_eq_true, g1, g2, g3, g4, h1, h2, h3, h4, ior, iand, shl_n, Nat.or_zero, hP.2.1, all2, lying_c hP hp, andnot, sub_t c]
  rw [b3, bS, b4, bS, s2, bS, s1, bS]
  by_cases q : dst h lo + (hi - lo) < dst h hi + (hi - lo)
  · rw [if_pos q] at sf ⊢
    rw [if_pos q]
    rw [if_pos (by rw [nlt (by omega) (by omega)]; exact q)]
    rw [sf, bS]
  · rw [if_neg q] at sf ⊢
    rw [if_neg q]
    rw [if_neg (by rw [nlt (by omega) (by omega)]; exact q)]
    rw [sf, bS]
theorem walkT_m {V : Int32} {D : Nat} (hfu : 10000 ≤ fu) (hP : GP P MC MM) (hg : gst P.1 s) (hs : ∀ j, j ≤ P.1 → MM.1 10 j = s j) (hT : T < 2 ^ P.1) (c : T &&& msk P.1 (lyB s) = T) (b5 : f5_steps fu (nI T) MM = some (sI MM 0 24 V, nI D)) : f5_walk fu (nI T) MM = some (sI (sI MM 0 24 V) 0 4 V, nI D) := by
  have h8 := hP.1
  have h256 := pow8 h8
  have hin : f5_in (nI T).toInt64 (0 : Int64) (nI (2 ^ P.1) - nI 1).toInt64 = some (nI 1) := ix_in (by omega) hT
  have t9 := those_9 hfu h8 hP.2.2.1 hg hs
  unfold f5_walk f5_answer
  simp (disch := omega) only [lit, nlt, nle, neq, nI_add, pk_mul, nm_u, bS, gd_d, oc_none, oc_some, rd_n, wr_n, if_pos, if_neg, ite_true, ite_false, not_true_eq_false, not_false_eq_true, g1, g2, g3, g4, h1, h2, h3, h4, ior, iand, shl_n, Nat.or_zero, hP.2.2.1, hin, kq9, t9, andnot, sub_t c, b5]
theorem walkN_c (hP : GP P MC MM) (hp : pic P s (MC.1 33 2) (MC.1 33 3) (MC.1 33 4) (MC.1 34)) (hT : T < 2 ^ P.1) (c : ¬ T &&& msk P.1 (lyB s) = T) : f4_walk fu (nI T) MC = some (MC, -nI 4) := by
  have h8 := hP.1
  have h256 := pow8 h8
  unfold f4_walk f2_all
  simp (disch := omega) only [lit, nlt, nle, neq, nI_add, pk_mul, nm_u, bS, gd_d, oc_none, oc_some, rd_n, wr_n, if_pos, if_neg, ite_true, ite_false, not_true_eq_false, not_false_eq_true, g1, g2, g3, g4, h1, h2, h3, h4, ior, iand, shl_n, Nat.or_zero, hP.2.1, all2, lying_c hP hp, andnot, sub_f (show T < 256 by omega) c]
theorem walkN_m (hfu : 10000 ≤ fu) (hP : GP P MC MM) (hg : gst P.1 s) (hs : ∀ j, j ≤ P.1 → MM.1 10 j = s j) (hT : T < 2 ^ P.1) (c : ¬ T &&& msk P.1 (lyB s) = T) : f5_walk fu (nI T) MM = some (MM, -nI 4) := by
  have h8 := hP.1
  have h256 := pow8 h8
  have hin : f5_in (nI T).toInt64 (0 : Int64) (nI (2 ^ P.1) - nI 1).toInt64 = some (nI 1) := ix_in (by omega) hT
  have t9 := those_9 hfu h8 hP.2.2.1 hg hs
  unfold f5_walk
  simp (disch := omega) only [lit, nlt, nle, neq, nI_add, pk_mul, nm_u, bS, gd_d, oc_none, oc_some, rd_n, wr_n, if_pos, if_neg, ite_true, ite_false, not_true_eq_false, not_false_eq_true, g1, g2, g3, g4, h1, h2, h3, h4, ior, iand, shl_n, Nat.or_zero, hP.2.2.1, hin, kq9, t9, andnot, sub_f (show T < 256 by omega) c]
theorem walkO_c {x : Int32} (hP : GP P MC MM) (h : outs x (2 ^ P.1)) : f4_walk fu x MC = some (MC, -nI 1) := by
  have h8 := hP.1
  have h256 := pow8 h8
  have hone : 1 ≤ 2 ^ P.1 := Nat.one_le_two_pow
  unfold f4_walk f2_all
  rcases h with h | ⟨h0, h⟩
  · simp (disch := omega) only [lit, nlt, nle, neq, nI_add, pk_mul, nm_u, bS, gd_d, oc_none, oc_some, rd_n, wr_n, if_pos, if_neg, ite_true, ite_false, not_true_eq_false, not_false_eq_true, g1, g2, g3, g4, h1, h2, h3, h4, ior, iand, shl_n, Nat.or_zero, h]
  · have : (x ≤ nI (2 ^ P.1 - 1)) = False := by
      apply ge_nle (by omega)
      rw [show 2 ^ P.1 - 1 + 1 = 2 ^ P.1 by omega]
      exact h
    simp (disch := omega) only [lit, nlt, nle, neq, nI_add, pk_mul, nm_u, bS, gd_d, oc_none, oc_some, rd_n, wr_n, if_pos, if_neg, ite_true, ite_false, not_true_eq_false, not_false_eq_true, g1, g2, g3, g4, h1, h2, h3, h4, ior, iand, shl_n, Nat.or_zero, h0, hP.2.1, all2, this]
theorem walkO_m {x : Int32} (hP : GP P MC MM) (h : outs x (2 ^ P.1)) : f5_walk fu x MM = some (MM, -nI 1) := by
  have h8 := hP.1
  have h256 := pow8 h8
  have : f5_in x.toInt64 (0 : Int64) (nI (2 ^ P.1) - nI 1).toInt64 = some (nI 0) := ix_out (by omega) h
  unfold f5_walk
  simp (disch := omega) only [lit, nlt, nle, neq, nI_add, pk_mul, nm_u, bS, gd_d, oc_none, oc_some, rd_n, wr_n, if_pos, if_neg, ite_true, ite_false, not_true_eq_false, not_false_eq_true, g1, g2, g3, g4, h1, h2, h3, h4, ior, iand, shl_n, Nat.or_zero, hP.2.2.1, this]
end WS
theorem s_walk {fu : Nat} (hfu : 10000 ≤ fu) : Sim_walk fu Rel := by
  intro MC MM a0 hR
  obtain ⟨P, s, hP, hg, hs, hp⟩ := hR.nw
  have h8 := hP.1
  have h256 := pow8 h8
  rcases tri a0 (2 ^ P.1) (by omega) with h | ⟨T, hT, rfl⟩
  · exact ⟨_, MC, MM, walkO_c hP h, walkO_m hP h, hR⟩
  by_cases c : T &&& msk P.1 (lyB s) = T
  · obtain ⟨h, hh, h0⟩ := hg.1
    by_cases z : T = 0
    · subst z
      exact ⟨_, _, _, walk0_c hP hp, walk0_m hfu hP hg hs, (hR.s24 _).tell _⟩
    · obtain ⟨lo, hi, b1, b2, b3, b4, b5⟩ := ways_cm (fu := fu) hfu h8 hT z hP.2.1 (lies_at hg hp c) hP.2.2.1 hs h0 hh
      have h33 : MC.1 33 2 = nI h := by rw [hp.1, h0]
      have sf : ∀ v, f3_stepsFor (sI MC 28 6 v) fu (nI T) = some (nI (if dst h lo + (hi - lo) < dst h hi + (hi - lo) then dst h lo + (hi - lo) else dst h hi + (hi - lo))) := by
        intro v
        obtain ⟨lo2, hi2, e1, e2, e3, e4, e5⟩ := ways_cm (fu := fu) (MC := sI MC 28 6 v) hfu h8 hT z (by rw [g2 (by omega)]; exact hP.2.1) (by rw [g2 (by omega)]; exact lies_at hg hp c) hP.2.2.1 hs h0 hh
        have r := stepsFor_c (fu := fu) (MC := sI MC 28 6 v) (by omega) z e1 e2 hh (by rw [g2 (by omega)]; exact h33) e3 e4
        rw [r]
        rw [b5] at e5
        have e6 := congrArg (fun o => o.map Prod.snd) e5
        simp only [Option.map_some] at e6
        exact e6.symm
      exact ⟨_, _, _, walkT_c hP hp hT z c h33 hh b1 b2 b3 b4 sf, walkT_m hfu hP hg hs hT c b5, (hR.s24 _).tell _⟩
  · exact ⟨_, MC, MM, walkN_c hP hp hT c, walkN_m hfu hP hg hs hT c, hR⟩
