/-! 58: street -/
section VR
variable {P : PD} {n k fu : Nat}
theorem value_r {M : Mem} {kind luck : Int32} (hn : n ≤ 8) (hk : k < n) (h35 : M.1 35 0 = nI n) (h41 : M.1 41 k = nI (hm P k)) (h39 : M.1 39 k = nI (ln P k)) (hl : hm P k < 8192) : f2_valueAs M (nI k) kind luck = some (wvI P kind k luck) := by
  have hh : f2_has M (nI k) = some (nI 1) := by
    unfold f2_has
    simp (disch := omega) only [lit, nlt, nle, neq, nI_add, pk_mul, nm_u, bS, gd_d, oc_none, oc_some, rd_n, wr_n, if_pos, if_neg, ite_true, ite_false, not_true_eq_false, not_false_eq_true, g1, g2, g3, g4, h1, h2, h3, h4, h35]
  have key : f2_valueAs M (nI k) kind luck = f2_valueAs_30 M (nI k) kind luck (if (hm P k).testBit 5 then luck + nI 3 else luck) := by
    unfold f2_valueAs
    rw [hh]
    cases hb : (hm P k).testBit 5
    · simp (disch := omega) only [lit, nlt, nle, neq, nI_add, pk_mul, nm_u, bS, gd_d, oc_none, oc_some, rd_n, wr_n, if_pos, if_neg, ite_true, ite_false, not_true_eq_false, not_false_eq_true, g1, g2, g3, g4, h1, h2, h3, h4, ior, iand, shl_n, Nat.or_zero, h41, bit_f hb (by omega) (by omega)]
      try simp
    · simp (disch := omega) only [lit, nlt, nle, neq, nI_add, pk_mul, nm_u, bS, gd_d, oc_none, oc_some, rd_n, wr_n, if_pos, if_neg, ite_true, ite_false, not_true_eq_false, not_false_eq_true, g1, g2, g3, g4, h1, h2, h3, h4, ior, iand, shl_n, Nat.or_zero, h41, bit_t hb (by omega) (by omega)]
      try simp
  rw [key]
  unfold f2_valueAs_30 wvI
  generalize (if (hm P k).testBit 5 then luck + nI 3 else luck) = s0
  by_cases c1 : kind = nI 1
  · simp (disch := omega) only [lit, nlt, nle, neq, nI_add, pk_mul, nm_u, bS, gd_d, oc_none, oc_some, rd_n, wr_n, if_pos, if_neg, ite_true, ite_false, not_true_eq_false, not_false_eq_true, g1, g2, g3, g4, h1, h2, h3, h4, c1]
  by_cases c2 : kind = nI 2
  · simp (disch := omega) only [lit, nlt, nle, neq, nI_add, pk_mul, nm_u, bS, gd_d, oc_none, oc_some, rd_n, wr_n, if_pos, if_neg, ite_true, ite_false, not_true_eq_false, not_false_eq_true, g1, g2, g3, g4, h1, h2, h3, h4, c2]
  by_cases c3 : kind = nI 3
  · simp (disch := omega) only [lit, nlt, nle, neq, nI_add, pk_mul, nm_u, bS, gd_d, oc_none, oc_some, rd_n, wr_n, if_pos, if_neg, ite_true, ite_false, not_true_eq_false, not_false_eq_true, g1, g2, g3, g4, h1, h2, h3, h4, c3, h39]
  by_cases c4 : kind = nI 4
  · simp (disch := omega) only [lit, nlt, nle, neq, nI_add, pk_mul, nm_u, bS, gd_d, oc_none, oc_some, rd_n, wr_n, if_pos, if_neg, ite_true, ite_false, not_true_eq_false, not_false_eq_true, g1, g2, g3, g4, h1, h2, h3, h4, c4]
  by_cases c5 : kind = nI 5
  · simp (disch := omega) only [lit, nlt, nle, neq, nI_add, pk_mul, nm_u, bS, gd_d, oc_none, oc_some, rd_n, wr_n, if_pos, if_neg, ite_true, ite_false, not_true_eq_false, not_false_eq_true, g1, g2, g3, g4, h1, h2, h3, h4, c5, h39]
  simp (disch := omega) only [lit, nlt, nle, neq, nI_add, pk_mul, nm_u, bS, gd_d, oc_none, oc_some, rd_n, wr_n, if_pos, if_neg, ite_true, ite_false, not_true_eq_false, not_false_eq_true, g1, g2, g3, g4, h1, h2, h3, h4, c1, c2, c3, c4, c5]
/-- what has been read of the pins -/
def DR (P : PD) (n : Nat) (M : Mem) : Prop := M.1 35 0 = nI n ∧ ∀ k, k < n → okP P k ∧ M.1 36 k = nI (kd P k) ∧ M.1 37 k = nI (pl P k) ∧ M.1 38 k = nI (hr P k) ∧ M.1 39 k = nI (ln P k) ∧ M.1 40 k = nI (lk P k)
theorem DR.cg {M M' : Mem} (h : DR P n M) (a : ∀ q, 35 ≤ q → q ≤ 40 → M'.1 q = M.1 q) : DR P n M' := by
  unfold DR at *
  rw [a 35 (by omega) (by omega), a 36 (by omega) (by omega), a 37 (by omega) (by omega), a 38 (by omega) (by omega), a 39 (by omega) (by omega), a 40 (by omega) (by omega)]
  exact h
theorem hour_sh (hok : okP P k) : (((1 : Int32) <<< (nI (ln P k) &&& 31)) - (1 : Int32)) <<< (nI (hr P k) &&& 31) = nI (hm P k) := by
  have hl := hm_lt hok
  obtain ⟨-, -, o1, o2, o3, -⟩ := hok
  rw [sh1 (by omega)]
  have e1 : nI (2 ^ ln P k) - (1 : Int32) = nI (2 ^ ln P k - 1) := pk_sub Nat.one_le_two_pow
  rw [e1]
  show nI (2 ^ ln P k - 1) <<< (nI (hr P k) &&& nI 31) = _
  rw [iand, shlg (by omega) (by unfold hm at hl; omega)]
  rfl
theorem val_l (hn : n ≤ 8) : ∀ (e k f : Nat) (M : Mem), k + e = n → e < f → DR P n M → (∀ j, j < k → M.1 41 j = nI (hm P j) ∧ M.1 42 j = zI (wz P j)) → ∃ M', f2_read_75 fu f (nI k) M = f2_read_137 fu fu (nI 0) M' ∧ (∀ j, j < n → M'.1 41 j = nI (hm P j) ∧ M'.1 42 j = zI (wz P j)) ∧ (∀ q, q ≠ 41 → q ≠ 42 → M'.1 q = M.1 q) ∧ M'.2 = M.2 := by
  intro e
  induction e with
  | zero =>
    intro k f M hk hf hD hv
    rcases f with _ | f
    · omega
    have : k = n := by omega
    subst this
    refine ⟨M, ?_, hv, fun _ _ _ => rfl, rfl⟩
    rw [f2_read_75]
    dsimp only
    rw [hD.1, if_pos (Int32.le_refl _)]
    rfl
  | succ e ih =>
    intro k f M hk hf hD hv
    rcases f with _ | f
    · omega
    have hk2 : k < n := by omega
    obtain ⟨hok, d0, d1, d2, d3, d4⟩ := hD.2 k hk2
    have hl := hm_lt hok
    have t1 : ¬ nI n ≤ nI k := by rw [nle (by omega) (by omega)]; omega
    obtain ⟨M1, hM1⟩ : ∃ x, x = sI M 41 k (nI (hm P k)) := ⟨_, rfl⟩
    obtain ⟨M2, hM2⟩ : ∃ x, x = sI M1 42 k (zI (wz P k)) := ⟨_, rfl⟩
    have f1 : ∀ q, q ≠ 41 → M1.1 q = M.1 q := fun q a => by rw [hM1, g2 a]
    have f2 : ∀ q, q ≠ 41 → q ≠ 42 → M2.1 q = M.1 q := fun q a b => by rw [hM2, g2 b, f1 q a]
    have r1 : rd M 39 8 (nI k) = some (nI (ln P k)) := by rw [rd_n (by omega) (by omega), d3]
    have r2 : rd M 38 8 (nI k) = some (nI (hr P k)) := by rw [rd_n (by omega) (by omega), d2]
    have w1 : wr M 41 8 (nI k) (nI (hm P k)) = some M1 := by rw [wr_n (by omega) (by omega), hM1]
    have r3 : rd M1 36 8 (nI k) = some (nI (kd P k)) := by rw [rd_n (by omega) (by omega), f1 36 (by omega), d0]
    have r4 : rd M1 40 8 (nI k) = some (nI (lk P k)) := by rw [rd_n (by omega) (by omega), f1 40 (by omega), d4]
    have v1 := value_r (P := P) (M := M1) (kind := nI (kd P k)) (luck := nI (lk P k)) hn hk2 (by rw [f1 35 (by omega)]; exact hD.1) (by rw [hM1, g1]) (by rw [f1 39 (by omega)]; exact d3) hl
    rw [wvI_z hok.1 _ _ hok.1] at v1
    have w2 : wr M1 42 8 (nI k) (zI (wz P k)) = some M2 := by rw [wr_n (by omega) (by omega), hM2]
    obtain ⟨M3, a1, a2, a3, a4⟩ := ih (k + 1) f M2 (by omega) (by omega) (hD.cg (fun q q1 q2 => f2 q (by omega) (by omega))) (fun j hj => by
      by_cases e : j = k
      · subst e
        exact ⟨by rw [hM2, g2 (by omega), hM1, g1], by rw [hM2, g1]⟩
      · obtain ⟨y1, y2⟩ := hv j (by omega)
        exact ⟨by rw [hM2, g2 (by omega), hM1, g3 e, y1], by rw [hM2, g3 e, hM1, g2 (by omega), y2]⟩)
    refine ⟨M3, ?_, a2, fun q b c => by rw [a3 q b c, f2 q b c], by rw [a4, hM2, g4, hM1, g4]⟩
    rw [f2_read_75]
    dsimp only
    rw [hD.1, if_neg t1, r1, bS, r2, bS, hour_sh hok, w1, bS, r3, bS, r4, bS, v1, bS]
    have w2' : wr M1 42 8 (nI k) (zI (wv P (kd P k) k (lk P k))) = some M2 := w2
    rw [w2', bS, nm_u, ad1]
    exact a1
/-- what all sets come to -/
theorem read_c {M : Mem} (hfu : 10000 ≤ fu) (hn : n ≤ 8) (hD : DR P n M) (h0 : M.1 43 0 = nI 0 ∧ M.1 44 0 = nI 0 ∧ M.1 45 0 = 1 ∧ M.1 46 0 = nI 0) : ∃ M', f2_read_75 fu fu (nI 0) M = some M' ∧ DR P n M' ∧ (∀ j, j < n → M'.1 41 j = nI (hm P j) ∧ M'.1 42 j = zI (wz P j)) ∧ TB P (2 ^ n) M' ∧ (∀ q, q < 35 ∨ 46 < q → M'.1 q = M.1 q) ∧ M'.2 = M.2 := by
  obtain ⟨M1, a1, a2, a3, a4⟩ := val_l (P := P) (fu := fu) hn n 0 fu M (by omega) (by omega) hD (fun j hj => absurd hj (by omega))
  have m0 : mx P 0 = 0 := by
    obtain ⟨t, b1, b2⟩ := mx_at (P := P) 0
    have := okS_le b1
    have : t = 0 := by omega
    subst this
    rw [← b2, sm_0]
  have u0 : un P 0 = 0 := by
    rw [un_tw, tw_n (n := 0) (by decide) (by decide)]
    rfl
  obtain ⟨M2, b1, b2, b3, b4⟩ := rek_a (P := P) (fu := fu) hfu hn (fun k hk => (hD.2 k hk).1) n 0 fu M1 (by omega) (by omega) (by rw [a3 35 (by omega) (by omega)]; exact hD.1) a2 (fun S hS => by
    have : S = 0 := by
      have : (2 : Nat) ^ 0 = 1 := rfl
      omega
    subst this
    rw [a3 43 (by omega) (by omega), a3 44 (by omega) (by omega), a3 45 (by omega) (by omega), a3 46 (by omega) (by omega), u0, sm_0, m0, apt_0]
    exact h0)
  refine ⟨M2, by rw [a1]; exact b1, hD.cg (fun q q1 q2 => by rw [b3 q (by omega), a3 q (by omega) (by omega)]), fun j hj => by rw [b3 41 (by omega), b3 42 (by omega)]; exact a2 j hj, b2, fun q hq => by rw [b3 q (by omega), a3 q (by omega) (by omega)], by rw [b4, a4]⟩
/-- the reference lays the pins -/
def LM (P : PD) (k : Nat) (M : Mem) : Prop := ∀ j, j < k → M.1 6 j = nI (kd P j) ∧ M.1 7 j = nI (hr P j) ∧ M.1 8 j = nI (ln P j) ∧ M.1 9 j = nI (lk P j) ∧ M.1 10 (1 + j) = nI (pl P j)
theorem lay_l (hn : n ≤ 8) : ∀ (e k f : Nat) (M : Mem), k + e = n → e < f → M.1 0 9 = nI n → (∀ j, j < n → M.1 13 (5 * j) = nI (kd P j) ∧ M.1 13 (5 * j + 1) = nI (pl P j) ∧ M.1 13 (5 * j + 2) = nI (hr P j) ∧ M.1 13 (5 * j + 3) = nI (ln P j) ∧ M.1 13 (5 * j + 4) = nI (lk P j)) → LM P k M → ∃ M', f5_street_47 fu f (nI k) M = (f5_forgets fu M').bind (fun M3 => some (M3, M3.1 0 9)) ∧ LM P n M' ∧ (∀ q, q ≠ 6 → q ≠ 7 → q ≠ 8 → q ≠ 9 → q ≠ 10 → M'.1 q = M.1 q) ∧ M'.2 = M.2 := by
  intro e
  induction e with
  | zero =>
    intro k f M hk hf h9 hd hL
    rcases f with _ | f
    · omega
    have : k = n := by omega
    subst this
    refine ⟨M, ?_, hL, fun _ _ _ _ _ _ => rfl, rfl⟩
    rw [f5_street_47]
    dsimp only
    rw [h9, if_pos (Int32.le_refl _)]
  | succ e ih =>
    intro k f M hk hf h9 hd hL
    rcases f with _ | f
    · omega
    have hk2 : k < n := by omega
    obtain ⟨d0, d1, d2, d3, d4⟩ := hd k hk2
    have t1 : ¬ nI n ≤ nI k := by rw [nle (by omega) (by omega)]; omega
    obtain ⟨M1, hM1⟩ : ∃ x, x = sI M 6 k (nI (kd P k)) := ⟨_, rfl⟩
    obtain ⟨M2, hM2⟩ : ∃ x, x = sI M1 10 (1 + k) (nI (pl P k)) := ⟨_, rfl⟩
    obtain ⟨M3, hM3⟩ : ∃ x, x = sI M2 7 k (nI (hr P k)) := ⟨_, rfl⟩
    obtain ⟨M4, hM4⟩ : ∃ x, x = sI M3 8 k (nI (ln P k)) := ⟨_, rfl⟩
    obtain ⟨M5, hM5⟩ : ∃ x, x = sI M4 9 k (nI (lk P k)) := ⟨_, rfl⟩
    have y1 : M1.1 13 = M.1 13 := by rw [hM1, g2 (by omega)]
    have y2 : M2.1 13 = M.1 13 := by rw [hM2, g2 (by omega), y1]
    have y3 : M3.1 13 = M.1 13 := by rw [hM3, g2 (by omega), y2]
    have y4 : M4.1 13 = M.1 13 := by rw [hM4, g2 (by omega), y3]
    have c5 : (5 : Int32) * nI k = nI (5 * k) := by
      show nI 5 * nI k = _
      rw [pk_mul]
    have ca : ∀ a : Nat, nI (5 * k) + nI a = nI (5 * k + a) := fun a => by rw [nI_add]
    have r0 : rd M 13 40 (nI (5 * k)) = some (nI (kd P k)) := by rw [rd_n (by omega) (by omega), d0]
    have w0 : wr M 6 8 (nI k) (nI (kd P k)) = some M1 := by rw [wr_n (by omega) (by omega), hM1]
    have r1 : rd M1 13 40 (nI (5 * k) + (1 : Int32)) = some (nI (pl P k)) := by
      show rd M1 13 40 (nI (5 * k) + nI 1) = _
      rw [ca, rd_n (by omega) (by omega), y1, d1]
    have w1 : wr M1 10 9 ((1 : Int32) + nI k) (nI (pl P k)) = some M2 := by
      show wr M1 10 9 (nI 1 + nI k) (nI (pl P k)) = some M2
      rw [nI_add, wr_n (by omega) (by omega), hM2]
    have r2 : rd M2 13 40 (nI (5 * k) + (2 : Int32)) = some (nI (hr P k)) := by
      show rd M2 13 40 (nI (5 * k) + nI 2) = _
      rw [ca, rd_n (by omega) (by omega), y2, d2]
    have w2 : wr M2 7 8 (nI k) (nI (hr P k)) = some M3 := by rw [wr_n (by omega) (by omega), hM3]
    have r3 : rd M3 13 40 (nI (5 * k) + (3 : Int32)) = some (nI (ln P k)) := by
      show rd M3 13 40 (nI (5 * k) + nI 3) = _
      rw [ca, rd_n (by omega) (by omega), y3, d3]
    have w3 : wr M3 8 8 (nI k) (nI (ln P k)) = some M4 := by rw [wr_n (by omega) (by omega), hM4]
    have r4 : rd M4 13 40 (nI (5 * k) + (4 : Int32)) = some (nI (lk P k)) := by
      show rd M4 13 40 (nI (5 * k) + nI 4) = _
      rw [ca, rd_n (by omega) (by omega), y4, d4]
    have w4 : wr M4 9 8 (nI k) (nI (lk P k)) = some M5 := by rw [wr_n (by omega) (by omega), hM5]
    have fr : ∀ q, q ≠ 6 → q ≠ 7 → q ≠ 8 → q ≠ 9 → q ≠ 10 → M5.1 q = M.1 q := fun q a b c d x => by rw [hM5, g2 d, hM4, g2 c, hM3, g2 b, hM2, g2 x, hM1, g2 a]
    obtain ⟨M6, a1, a2, a3, a4⟩ := ih (k + 1) f M5 (by omega) (by omega) (by rw [fr 0 (by omega) (by omega) (by omega) (by omega) (by omega)]; exact h9) (by rw [fr 13 (by omega) (by omega) (by omega) (by omega) (by omega)]; exact hd) (fun j hj => by
      by_cases e : j = k
      · subst e
        exact ⟨by rw [hM5, g2 (by omega), hM4, g2 (by omega), hM3, g2 (by omega), hM2, g2 (by omega), hM1, g1], by rw [hM5, g2 (by omega), hM4, g2 (by omega), hM3, g1], by rw [hM5, g2 (by omega), hM4, g1], by rw [hM5, g1], by rw [hM5, g2 (by omega), hM4, g2 (by omega), hM3, g2 (by omega), hM2, g1]⟩
      · obtain ⟨z1, z2, z3, z4, z5⟩ := hL j (by omega)
        exact ⟨by rw [hM5, g2 (by omega), hM4, g2 (by omega), hM3, g2 (by omega), hM2, g2 (by omega), hM1, g3 e, z1], by rw [hM5, g2 (by omega), hM4, g2 (by omega), hM3, g3 e, hM2, g2 (by omega), hM1, g2 (by omega), z2], by rw [hM5, g2 (by omega), hM4, g3 e, hM3, g2 (by omega), hM2, g2 (by omega), hM1, g2 (by omega), z3], by rw [hM5, g3 e, hM4, g2 (by omega), hM3, g2 (by omega), hM2, g2 (by omega), hM1, g2 (by omega), z4], by rw [hM5, g2 (by omega), hM4, g2 (by omega), hM3, g2 (by omega), hM2, g3 (by omega), hM1, g2 (by omega), z5]⟩)
    refine ⟨M6, ?_, a2, fun q a b c d x => by rw [a3 q a b c d x, fr q a b c d x], by rw [a4, hM5, g4, hM4, g4, hM3, g4, hM2, g4, hM1, g4]⟩
    rw [f5_street_47]
    dsimp only
    rw [h9, if_neg t1, c5, r0, bS, w0, bS, r1, bS, w1, bS, r2, bS, w2, bS, r3, bS, w3, bS, r4, bS, w4, bS, nm_u, ad1]
    exact a1
end VR
/-- nothing is kept, nothing done -/
theorem forgets_m {fu : Nat} {M : Mem} (hfu : 10000 ≤ fu) : ∃ M', f5_forgets fu M = some M' ∧ M'.1 10 = upd (M.1 10) 0 (nI 0) ∧ M'.1 0 = upd (M.1 0) 16 (nI 0) ∧ (∀ j, j < 3 → M'.1 12 (370 * j) = -nI 1) ∧ (∀ q, q ≠ 0 → q ≠ 10 → q ≠ 12 → M'.1 q = M.1 q) ∧ M'.2 = M.2 := by
  obtain ⟨f, rfl⟩ : ∃ f, fu = f + 4 := ⟨fu - 4, by omega⟩
  have st : ∀ (j x : Nat) (X : Mem), j < 3 → f5_forgets_14 (f + 4) (x + 1) (nI j) X = f5_forgets_14 (f + 4) x (nI (j + 1)) (sI X 12 (370 * j) (-nI 1)) := by
    intro j x X hj
    have t1 : ¬ (3 : Int32) ≤ nI j := by
      show ¬ nI 3 ≤ nI j
      rw [nle (by omega) (by omega)]; omega
    have w1 : wr X 12 1110 ((370 : Int32) * nI j) (-1 : Int32) = some (sI X 12 (370 * j) (-nI 1)) := by
      show wr X 12 1110 (nI 370 * nI j) (-nI 1) = _
      rw [pk_mul, wr_n (by omega) (by omega)]
    rw [f5_forgets_14]
    dsimp only
    rw [if_neg t1, w1, bS, nm_u, ad1]
  have en : ∀ (x : Nat) (X : Mem), f5_forgets_14 (f + 4) (x + 1) (nI 3) X = some X := by
    intro x X
    have t1 : (3 : Int32) ≤ nI 3 := Int32.le_refl _
    rw [f5_forgets_14]
    dsimp only
    rw [if_pos t1]
  have w0 : wr M 10 9 (0 : Int32) (0 : Int32) = some (sI M 10 0 (nI 0)) := by
    show wr M 10 9 (nI 0) (nI 0) = _
    rw [wr_n (by omega) (by omega)]
  refine ⟨sI (sI (sI (sI (sI M 10 0 (nI 0)) 0 16 (nI 0)) 12 (370 * 0) (-nI 1)) 12 (370 * 1) (-nI 1)) 12 (370 * 2) (-nI 1), ?_, ?_, ?_, ?_, fun q a b c => by rw [g2 c, g2 c, g2 c, g2 a, g2 b], rfl⟩
  · unfold f5_forgets
    rw [w0, bS, nm_u, show (0 : Int32) = nI 0 from rfl, st 0 _ _ (by omega), st 1 _ _ (by omega), st 2 _ _ (by omega), en]
  · rw [g2 (by omega), g2 (by omega), g2 (by omega), g2 (by omega)]
    simp [sI]
  · rw [g2 (by omega), g2 (by omega), g2 (by omega)]
    simp [sI]
  · intro j hj
    rcases (show j = 0 ∨ j = 1 ∨ j = 2 by omega) with rfl | rfl | rfl
    · rw [g3 (by omega), g3 (by omega), g1]
    · rw [g3 (by omega), g1]
    · rw [g1]
theorem kept_c {fu : Nat} {M : Mem} (hfu : 10000 ≤ fu) : ∃ M', f4_street_56 fu fu (nI 0) M = some (M', M.1 35 0) ∧ (∀ j, j < 3 → M'.1 (j + 20) 0 = -nI 1) ∧ (∀ q, q < 20 ∨ 22 < q → M'.1 q = M.1 q) ∧ M'.2 = M.2 := by
  obtain ⟨f, rfl⟩ : ∃ f, fu = f + 4 := ⟨fu - 4, by omega⟩
  have st : ∀ (j x : Nat) (X : Mem), j < 3 → f4_street_56 (f + 4) (x + 1) (nI j) X = f4_street_56 (f + 4) x (nI (j + 1)) (sI X (j + 20) 0 (-nI 1)) := by
    intro j x X hj
    have t1 : ¬ (3 : Int32) ≤ nI j := by
      show ¬ nI 3 ≤ nI j
      rw [nle (by omega) (by omega)]; omega
    have e : rdR [20, 21, 22] (nI j) = some (j + 20) := rdR_n (by
      rcases (show j = 0 ∨ j = 1 ∨ j = 2 by omega) with rfl | rfl | rfl <;> rfl) (by decide)
    have gk : gd (decide (20 ≤ j + 20 ∧ j + 20 < 24)) = some () := by
      have : 20 ≤ j + 20 ∧ j + 20 < 24 := by omega
      simp [gd, this]
    rw [f4_street_56]
    dsimp only
    rw [if_neg t1, e, bS, gk, bS, nm_u, nm_u, ad1]
    rfl
  have en : ∀ (x : Nat) (X : Mem), f4_street_56 (f + 4) (x + 1) (nI 3) X = some (X, X.1 35 0) := by
    intro x X
    have t1 : (3 : Int32) ≤ nI 3 := Int32.le_refl _
    rw [f4_street_56]
    dsimp only
    rw [if_pos t1]
  refine ⟨sI (sI (sI M (0 + 20) 0 (-nI 1)) (1 + 20) 0 (-nI 1)) (2 + 20) 0 (-nI 1), ?_, ?_, fun q hq => by rw [g2 (by omega), g2 (by omega), g2 (by omega)], rfl⟩
  · rw [st 0 _ _ (by omega), st 1 _ _ (by omega), st 2 _ _ (by omega), en, g2 (by omega), g2 (by omega), g2 (by omega)]
  · intro j hj
    rcases (show j = 0 ∨ j = 1 ∨ j = 2 by omega) with rfl | rfl | rfl
    · rw [g2 (by omega), g2 (by omega), g1]
    · rw [g2 (by omega), g1]
    · rw [g1]
theorem nI_toNat {v : Nat} (h : v < 2147483648) : (nI v).toInt.toNat = v := by
  rw [nI_toInt h]
  omega
/-- the pins, as they have been read -/
theorem pins_of {n : Nat} {M MC : Mem} (h35 : MC.1 35 0 = nI n) (h : PQ n 0 M MC) : ∃ P : PD, P.1 = n ∧ DR P n MC ∧ ∀ j, j < n → M.1 13 (5 * j) = nI (kd P j) ∧ M.1 13 (5 * j + 1) = nI (pl P j) ∧ M.1 13 (5 * j + 2) = nI (hr P j) ∧ M.1 13 (5 * j + 3) = nI (ln P j) ∧ M.1 13 (5 * j + 4) = nI (lk P j) := by
  have hz := h.zero
  refine ⟨(n, fun k => (MC.1 36 k).toInt.toNat, fun k => (MC.1 37 k).toInt.toNat, fun k => (MC.1 38 k).toInt.toNat, fun k => (MC.1 39 k).toInt.toNat, fun k => (MC.1 40 k).toInt.toNat), rfl, ⟨h35, fun k hk => ?_⟩, fun k hk => ?_⟩
  · obtain ⟨v0, a0, b0, c0⟩ := hz k 0 (by omega) hk
    obtain ⟨v1, a1, b1, c1⟩ := hz k 1 (by omega) hk
    obtain ⟨v2, a2, b2, c2⟩ := hz k 2 (by omega) hk
    obtain ⟨v3, a3, b3, c3⟩ := hz k 3 (by omega) hk
    obtain ⟨v4, a4, b4, c4⟩ := hz k 4 (by omega) hk
    obtain ⟨x0, y0, z0⟩ := a0
    obtain ⟨x1, -, -⟩ := a1
    obtain ⟨x2, -, -⟩ := a2
    obtain ⟨x3, -, z3⟩ := a3
    obtain ⟨x4, -, -⟩ := a4
    have e0 : MC.1 36 k = nI v0 := c0
    have e1 : MC.1 37 k = nI v1 := c1
    have e2 : MC.1 38 k = nI v2 := c2
    have e3 : MC.1 39 k = nI v3 := c3
    have e4 : MC.1 40 k = nI v4 := c4
    have y00 := y0 rfl
    have z33 := z3 rfl
    unfold okP
    simp only [kd, pl, hr, ln, lk]
    rw [e0, e1, e2, e3, e4, nI_toNat (by omega), nI_toNat (by omega), nI_toNat (by omega), nI_toNat (by omega), nI_toNat (by omega)]
    exact ⟨⟨y00, x1, x2, z33.1, z33.2, x4⟩, rfl, rfl, rfl, rfl, rfl⟩
  · obtain ⟨v0, a0, b0, c0⟩ := hz k 0 (by omega) hk
    obtain ⟨v1, a1, b1, c1⟩ := hz k 1 (by omega) hk
    obtain ⟨v2, a2, b2, c2⟩ := hz k 2 (by omega) hk
    obtain ⟨v3, a3, b3, c3⟩ := hz k 3 (by omega) hk
    obtain ⟨v4, a4, b4, c4⟩ := hz k 4 (by omega) hk
    have e0 : MC.1 36 k = nI v0 := c0
    have e1 : MC.1 37 k = nI v1 := c1
    have e2 : MC.1 38 k = nI v2 := c2
    have e3 : MC.1 39 k = nI v3 := c3
    have e4 : MC.1 40 k = nI v4 := c4
    have x0 := a0.1
    have x1 := a1.1
    have x2 := a2.1
    have x3 := a3.1
    have x4 := a4.1
    rw [Nat.add_zero] at b0
    simp only [kd, pl, hr, ln, lk]
    rw [e0, e1, e2, e3, e4, nI_toNat (by omega), nI_toNat (by omega), nI_toNat (by omega), nI_toNat (by omega), nI_toNat (by omega)]
    exact ⟨b0, b1, b2, b3, b4⟩
