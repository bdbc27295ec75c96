/-! 50: what every set is worth at most, laid by the reference -/
theorem mx_ub {P : PD} {S t : Nat} (hS : S < 256) (h : okS P S t = true) : sm P t ≤ mx P S := by
  obtain ⟨-, -, a3, a4, -⟩ := bst_inv P S 256
  rw [mx_mxn, ← a3]
  have := okS_le h
  exact a4 t (by omega) h
theorem mx_at {P : PD} (S : Nat) : ∃ t, okS P S t = true ∧ sm P t = mx P S := by
  obtain ⟨-, a2, a3, -, -⟩ := bst_inv P S 256
  exact ⟨_, a2, a3⟩
theorem mx_eq {P : PD} {S : Nat} {v : Int} (hS : S < 256) (lh1 : ∀ t, okS P S t = true → sm P t ≤ v) (lh2 : ∃ t, okS P S t = true ∧ sm P t = v) : v = mx P S := by
  obtain ⟨t, b1, b2⟩ := lh2
  obtain ⟨u, c1, c2⟩ := mx_at (P := P) S
  have := mx_ub hS b1
  have := lh1 u c1
  omega
theorem mx_ge {P : PD} {S : Nat} (hS : S < 256) : 0 ≤ mx P S := by
  have := mx_ub (P := P) hS okS_0
  rw [sm_0] at this
  exact this
theorem okS_of {P : PD} {S t : Nat} (lh1 : t &&& S = t) (lh2 : apt P t = true) : okS P S t = true := by
  unfold okS
  rw [lh1, lh2]
  simp
theorem tog_sub {S k : Nat} (h : S.testBit k = true) : (S ^^^ 2 ^ k) &&& S = S ^^^ 2 ^ k := by
  rw [and_sub]
  intro j hj
  rw [Nat.testBit_xor, Nat.testBit_two_pow] at hj
  by_cases e : k = j
  · subst e; exact h
  · rw [show decide (k = j) = false by simp [e], Bool.xor_false] at hj
    exact hj
theorem tog_lt {S k : Nat} (h : S.testBit k = true) : S ^^^ 2 ^ k < S := by
  have lh1 := tog_sub h
  have lh2 := Nat.and_le_right (n := S ^^^ 2 ^ k) (m := S)
  have lh3 : ¬ S ^^^ 2 ^ k = S := by
    intro e
    have := congrArg (fun x => x.testBit k) e
    simp only [Nat.testBit_xor, Nat.testBit_two_pow, h, decide_true, Bool.xor_self] at this
    cases this
  omega
def bbase (P : PD) (S : Nat) : Int := if apt P S = true then (if sm P S ≤ 0 then 0 else sm P S) else 0
def bpre (P : PD) (S k : Nat) : Int := fo (fun k m => if S.testBit k then (if mx P (S ^^^ 2 ^ k) ≤ m then m else mx P (S ^^^ 2 ^ k)) else m) k (bbase P S)
theorem bpre_s (P : PD) (S k : Nat) : bpre P S (k + 1) = if S.testBit k then (if mx P (S ^^^ 2 ^ k) ≤ bpre P S k then bpre P S k else mx P (S ^^^ 2 ^ k)) else bpre P S k := rfl
theorem bpre_inv {P : PD} {S : Nat} (hS : S < 256) (k : Nat) : bbase P S ≤ bpre P S k ∧ (∀ j, j < k → S.testBit j = true → mx P (S ^^^ 2 ^ j) ≤ bpre P S k) ∧ ∃ t, okS P S t = true ∧ sm P t = bpre P S k := by
  induction k with
  | zero =>
    refine ⟨Int.le_refl _, fun j hj => absurd hj (by omega), ?_⟩
    show ∃ t, okS P S t = true ∧ sm P t = bbase P S
    unfold bbase
    by_cases c : apt P S = true
    · rw [if_pos c]
      by_cases d : sm P S ≤ 0
      · rw [if_pos d]; exact ⟨0, okS_0, sm_0⟩
      · rw [if_neg d]; exact ⟨S, okS_of (Nat.and_self S) c, rfl⟩
    · rw [if_neg c]; exact ⟨0, okS_0, sm_0⟩
  | succ k ih =>
    obtain ⟨a1, a2, a3⟩ := ih
    rw [bpre_s]
    by_cases c : S.testBit k = true
    · rw [if_pos c]
      by_cases d : mx P (S ^^^ 2 ^ k) ≤ bpre P S k
      · rw [if_pos d]
        refine ⟨a1, fun j hj hb => ?_, a3⟩
        by_cases e : j = k
        · subst e; exact d
        · exact a2 j (by omega) hb
      · rw [if_neg d]
        refine ⟨by omega, fun j hj hb => ?_, ?_⟩
        · by_cases e : j = k
          · subst e; exact Int.le_refl _
          · have := a2 j (by omega) hb
            omega
        · obtain ⟨t, b1, b2⟩ := mx_at (P := P) (S ^^^ 2 ^ k)
          obtain ⟨c1, c2⟩ := okS_and b1
          refine ⟨t, okS_of ?_ c2, b2⟩
          rw [and_sub] at c1 ⊢
          intro j hj
          have lh1 := c1 j hj
          exact and_sub.mp (tog_sub c) j lh1
    · rw [if_neg c]
      refine ⟨a1, fun j hj hb => ?_, a3⟩
      by_cases e : j = k
      · subst e; exact absurd hb c
      · exact a2 j (by omega) hb
theorem bpre_mx {P : PD} {S n : Nat} (hn : n ≤ 8) (hS : S < 2 ^ n) : bpre P S n = mx P S := by
  have h256 := pow8 hn
  obtain ⟨a1, a2, a3⟩ := bpre_inv (P := P) (S := S) (by omega) n
  refine mx_eq (by omega) (fun t ht => ?_) a3
  obtain ⟨c1, c2⟩ := okS_and ht
  by_cases e : t = S
  · subst e
    have : sm P t ≤ bbase P t := by
      unfold bbase
      rw [if_pos c2]
      split <;> omega
    omega
  · have hk : ∃ k, S.testBit k = true ∧ t.testBit k = false := by
      apply Classical.byContradiction
      intro q
      apply e
      apply Nat.eq_of_testBit_eq
      intro j
      cases lh1 : t.testBit j
      · cases lh2 : S.testBit j
        · rfl
        · exact absurd ⟨j, lh2, lh1⟩ q
      · rw [and_sub.mp c1 j lh1]
    obtain ⟨k, k1, k2⟩ := hk
    have hkn : k < n := by
      apply Classical.byContradiction
      intro q
      rw [tb_ge hS (by omega)] at k1
      cases k1
    have hsub : t &&& (S ^^^ 2 ^ k) = t := by
      rw [and_sub]
      intro j hj
      have lh1 := and_sub.mp c1 j hj
      rw [Nat.testBit_xor, lh1, Nat.testBit_two_pow]
      by_cases e2 : k = j
      · subst e2; rw [k2] at hj; cases hj
      · simp [e2]
    have lh1 := mx_ub (P := P) (S := S ^^^ 2 ^ k) (t := t) (by have := tog_lt k1; omega) (okS_of hsub c2)
    have lh2 := a2 k hkn k1
    omega
theorem zle0 {a : Int} (a1 : -2147483648 ≤ a) (a2 : a < 2147483648) : (zI a ≤ nI 0) = (a ≤ 0) := zle (b := 0) a1 a2 (by decide) (by decide)
section LB
variable {P : PD} {MC MM : Mem} {fu : Nat}
theorem mx_bd (hP : GP P MC MM) {S : Nat} (hS : S < 2 ^ P.1) : 0 ≤ mx P S ∧ mx P S ≤ 480 := by
  have h256 := pow8 hP.1
  obtain ⟨t, b1, b2⟩ := mx_at (P := P) S
  have := okS_le b1
  have lh1 := smb hP (T := t) (by omega)
  have lh2 := mx_ge (P := P) (S := S) (by omega)
  omega
theorem lays_i {S : Nat} {g : Nat → Int32} {k2 : Int32 → Mem → Option Mem} (hP : GP P MC MM) (hS : S < 2 ^ P.1) (hg : ∀ x, x < S → g x = zI (mx P x)) : ∀ (e k f : Nat), k + e = P.1 → e < f → f5_laysBests_42 fu k2 f (nI S) (zI (bpre P S k)) (nI k) (sF MM 15 g) = k2 (nI (S + 1)) (sF MM 15 (upd g S (zI (mx P S)))) := by
  have h8 := hP.1
  have h256 := pow8 h8
  have m9 : (sF MM 15 g).1 0 9 = nI P.1 := by rw [sF_q (by omega)]; exact hP.2.2.1
  intro e
  induction e with
  | zero =>
    intro k f hk hf
    rcases f with _ | f
    · omega
    have : k = P.1 := by omega
    subst this
    rw [f5_laysBests_42, bpre_mx h8 hS]
    simp (disch := omega) only [lit, nlt, nle, neq, nI_add, pk_mul, nm_u, bS, gd_d, oc_none, oc_some, rd_n, wr_n, if_pos, if_neg, ite_true, ite_false, not_true_eq_false, not_false_eq_true, g1, g2, g3, g4, h1, h2, h3, h4, ior, iand, shl_n, Nat.or_zero, m9, sI_sF]
  | succ e ih =>
    intro k f hk hf
    rcases f with _ | f
    · omega
    have lh2 := ih (k + 1) f (by omega) (by omega)
    rw [bpre_s] at lh2
    rw [f5_laysBests_42]
    cases c : S.testBit k
    · rw [c, if_neg (by decide)] at lh2
      simp (disch := omega) only [lit, nlt, nle, neq, nI_add, pk_mul, nm_u, bS, gd_d, oc_none, oc_some, rd_n, wr_n, if_pos, if_neg, ite_true, ite_false, not_true_eq_false, not_false_eq_true, g1, g2, g3, g4, h1, h2, h3, h4, ior, iand, shl_n, Nat.or_zero, m9, hs_f c (show k < 31 by omega) (show S < 2147483648 by omega)]
      exact lh2
    · rw [if_pos c] at lh2
      have tl := tog_lt c
      have r1 := hg (S ^^^ 2 ^ k) tl
      have b1 := mx_bd hP (S := S ^^^ 2 ^ k) (by omega)
      have b2 : 0 ≤ bpre P S k ∧ bpre P S k ≤ 480 := by
        obtain ⟨a1, -, t, a3, a4⟩ := bpre_inv (P := P) (S := S) (by omega) k
        have := okS_le a3
        have lh1 := smb hP (T := t) (by omega)
        have h0 : 0 ≤ bbase P S := by
          unfold bbase
          split
          · split <;> omega
          · omega
        omega
      by_cases d : mx P (S ^^^ 2 ^ k) ≤ bpre P S k
      · rw [if_pos d] at lh2
        simp (disch := omega) only [lit, nlt, nle, neq, nI_add, pk_mul, nm_u, bS, gd_d, oc_none, oc_some, rd_n, wr_n, if_pos, if_neg, ite_true, ite_false, not_true_eq_false, not_false_eq_true, g1, g2, g3, g4, h1, h2, h3, h4, ior, iand, shl_n, Nat.or_zero, m9, hs_t c (show k < 31 by omega) (show S < 2147483648 by omega), kq9, ixor, sF_1, r1, zle]
        exact lh2
      · rw [if_neg d] at lh2
        simp (disch := omega) only [lit, nlt, nle, neq, nI_add, pk_mul, nm_u, bS, gd_d, oc_none, oc_some, rd_n, wr_n, if_pos, if_neg, ite_true, ite_false, not_true_eq_false, not_false_eq_true, g1, g2, g3, g4, h1, h2, h3, h4, ior, iand, shl_n, Nat.or_zero, m9, hs_t c (show k < 31 by omega) (show S < 2147483648 by omega), kq9, ixor, sF_1, r1, zle]
        exact lh2
theorem lays_l (hfu : 10000 ≤ fu) (hP : GP P MC MM) : ∀ (e S f : Nat) (g : Nat → Int32), S + e = 2 ^ P.1 → e < f → (∀ x, x < S → g x = zI (mx P x)) → ∃ g', (∀ x, x < 2 ^ P.1 → g' x = zI (mx P x)) ∧ f5_laysBests_2 fu f (nI S) (sF MM 15 g) = some (sF MM 15 g') := by
  have h8 := hP.1
  have h256 := pow8 h8
  intro e
  induction e with
  | zero =>
    intro S f g hS hf hg
    rcases f with _ | f
    · omega
    have : S = 2 ^ P.1 := by omega
    refine ⟨g, fun x hx => hg x (by omega), ?_⟩
    have m9 : (sF MM 15 g).1 0 9 = nI P.1 := by rw [sF_q (by omega)]; exact hP.2.2.1
    rw [this, f5_laysBests_2]
    simp (disch := omega) only [lit, nlt, nle, neq, nI_add, pk_mul, nm_u, bS, gd_d, oc_none, oc_some, rd_n, wr_n, if_pos, if_neg, ite_true, ite_false, not_true_eq_false, not_false_eq_true, g1, g2, g3, g4, h1, h2, h3, h4, ior, iand, shl_n, Nat.or_zero, m9]
  | succ e ih =>
    intro S f g hS hf hg
    rcases f with _ | f
    · omega
    have hS2 : S < 2 ^ P.1 := by omega
    obtain ⟨g', a1, a2⟩ := ih (S + 1) f (upd g S (zI (mx P S))) (by omega) (by omega) (fun x hx => by
      unfold upd
      by_cases c : x = S
      · subst c; rw [if_pos rfl]
      · rw [if_neg c]; exact hg x (by omega))
    refine ⟨g', a1, ?_⟩
    have m9 : (sF MM 15 g).1 0 9 = nI P.1 := by rw [sF_q (by omega)]; exact hP.2.2.1
    have hP2 : GP P MC (sF MM 15 g) := hP.cg (fun _ _ => rfl) (by rw [sF_q (by omega)]) (fun q hq => sF_q (by omega))
    have li := lays_i (fu := fu) (k2 := f5_laysBests_2 fu f) hP hS2 hg P.1 0 fu (by omega) (by omega)
    have e0 : bpre P S 0 = bbase P S := rfl
    rw [e0] at li
    unfold bbase at li
    have b1 := smb hP hS2
    have z0 : zI 0 = nI 0 := rfl
    rw [f5_laysBests_2]
    unfold f5_laysBests_29
    cases c : apt P S
    · rw [c, if_neg (by decide), z0] at li
      simp (disch := omega) only [lit, nlt, nle, neq, nI_add, pk_mul, nm_u, bS, gd_d, oc_none, oc_some, rd_n, wr_n, if_pos, if_neg, ite_true, ite_false, not_true_eq_false, not_false_eq_true, g1, g2, g3, g4, h1, h2, h3, h4, ior, iand, shl_n, Nat.or_zero, m9, clash_m hP2 hfu hS2, c, Bool.false_eq_true, kq9]
      rw [li]
      exact a2
    · rw [if_pos c] at li
      by_cases d : sm P S ≤ 0
      · rw [if_pos d, z0] at li
        simp (disch := omega) only [lit, nlt, nle, neq, nI_add, pk_mul, nm_u, bS, gd_d, oc_none, oc_some, rd_n, wr_n, if_pos, if_neg, ite_true, ite_false, not_true_eq_false, not_false_eq_true, g1, g2, g3, g4, h1, h2, h3, h4, ior, iand, shl_n, Nat.or_zero, m9, clash_m hP2 hfu hS2, c, worthAll_m hP2 hfu hS2, zle0]
        rw [li]
        exact a2
      · rw [if_neg d] at li
        simp (disch := omega) only [lit, nlt, nle, neq, nI_add, pk_mul, nm_u, bS, gd_d, oc_none, oc_some, rd_n, wr_n, if_pos, if_neg, ite_true, ite_false, not_true_eq_false, not_false_eq_true, g1, g2, g3, g4, h1, h2, h3, h4, ior, iand, shl_n, Nat.or_zero, m9, clash_m hP2 hfu hS2, c, worthAll_m hP2 hfu hS2, zle0]
        rw [li]
        exact a2
theorem lays_m (hfu : 10000 ≤ fu) (hP : GP P MC MM) : ∃ g', (∀ x, x < 2 ^ P.1 → g' x = zI (mx P x)) ∧ f5_laysBests fu MM = some (sF MM 15 g') := by
  have h256 := pow8 hP.1
  obtain ⟨g', a1, a2⟩ := lays_l hfu hP (2 ^ P.1) 0 fu (MM.1 15) (by omega) (by omega) (fun x hx => absurd hx (by omega))
  rw [sF_self] at a2
  exact ⟨g', a1, a2⟩
end LB
