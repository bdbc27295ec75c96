/-! 17: pin, worth, mark, lucks -/
def tv (P : PD) (s : Nat → Int32) (k w : Nat) : Int32 := match w with
  | 0 => nI (kd P k)
  | 1 => if lyB s k then s (k + 1) else -nI 9
  | 2 => nI (hm P k)
  | 3 => nI (ln P k)
  | 4 => nI (lk P k)
  | 5 => zI (wz P k)
  | 6 => if s (k + 1) == -nI 1 then nI 1 else nI 0
  | _ => if s (k + 1) == -nI 2 then nI 1 else nI 0
theorem lyB_ne {s : Nat → Int32} {k : Nat} (h : lyB s k = true) : s (k + 1) ≠ -nI 1 ∧ s (k + 1) ≠ -nI 2 := by
  unfold lyB at h
  simp at h
  exact h
section TC
variable {P : PD} {MC MM : Mem} {k : Nat} {s : Nat → Int32}
theorem msk_tbk {n : Nat} {p : Nat → Bool} (hk : k < n) : (msk n p).testBit k = p k := by
  rw [msk_tb]; simp [hk]
theorem msk_256 {n : Nat} (hn : n ≤ 8) (p : Nat → Bool) : msk n p < 256 := Nat.lt_of_lt_of_le (msk_lt n p) (pow8 hn)
theorem ite_b {b : Bool} : nI (if b = true then 1 else 0) = if b = true then nI 1 else nI 0 := by cases b <;> rfl
theorem tell_c {w : Nat} (hP : GP P MC MM) (hp : pic P s (MC.1 33 2) (MC.1 33 3) (MC.1 33 4) (MC.1 34)) (hk : k < P.1) (hw : w < 8) : f3_tellPin MC (nI k) (nI w) = some (tv P s k w) := by
  have h8 := hP.1
  obtain ⟨hok, e0, e1, e2, e3, e4, e5, e6, -⟩ := hP.2.2.2.1 k hk
  have b0 := msk_256 h8 (lyB s)
  have b1 := msk_256 h8 (fun k => s (k + 1) == -nI 1)
  have b2 := msk_256 h8 (fun k => s (k + 1) == -nI 2)
  unfold f3_tellPin
  rw [has2_in hP hk]
  rcases (show w = 0 ∨ w = 1 ∨ w = 2 ∨ w = 3 ∨ w = 4 ∨ w = 5 ∨ w = 6 ∨ w = 7 by omega) with rfl | rfl | rfl | rfl | rfl | rfl | rfl | rfl
  · simp (disch := omega) only [lit, nlt, nle, neq, nI_add, pk_mul, nm_u, bS, gd_d, oc_none, oc_some, rd_n, wr_n, if_pos, if_neg, ite_true, ite_false, not_true_eq_false, not_false_eq_true, g1, g2, g3, g4, h1, h2, h3, h4, e0]; rfl
  · cases c : lyB s k
    · have hb := bit_f (a := msk P.1 (lyB s)) (k := k) (by rw [msk_tbk hk, c]) (by omega) (by omega)
      simp (disch := omega) only [lit, nlt, nle, neq, nI_add, pk_mul, nm_u, bS, gd_d, oc_none, oc_some, rd_n, wr_n, if_pos, if_neg, ite_true, ite_false, not_true_eq_false, not_false_eq_true, g1, g2, g3, g4, h1, h2, h3, h4, ior, iand, shl_n, Nat.or_zero, lying_c hP hp, hb]
      simp [tv, c]
    · have hb := bit_t (a := msk P.1 (lyB s)) (k := k) (by rw [msk_tbk hk, c]) (by omega) (by omega)
      have hl := hp.2.2.2 k hk (lyB_ne c).1 (lyB_ne c).2
      simp (disch := omega) only [lit, nlt, nle, neq, nI_add, pk_mul, nm_u, bS, gd_d, oc_none, oc_some, rd_n, wr_n, if_pos, if_neg, ite_true, ite_false, not_true_eq_false, not_false_eq_true, g1, g2, g3, g4, h1, h2, h3, h4, ior, iand, shl_n, Nat.or_zero, lying_c hP hp, hb, hl]
      simp [tv, c]
  · simp (disch := omega) only [lit, nlt, nle, neq, nI_add, pk_mul, nm_u, bS, gd_d, oc_none, oc_some, rd_n, wr_n, if_pos, if_neg, ite_true, ite_false, not_true_eq_false, not_false_eq_true, g1, g2, g3, g4, h1, h2, h3, h4, e5]; rfl
  · simp (disch := omega) only [lit, nlt, nle, neq, nI_add, pk_mul, nm_u, bS, gd_d, oc_none, oc_some, rd_n, wr_n, if_pos, if_neg, ite_true, ite_false, not_true_eq_false, not_false_eq_true, g1, g2, g3, g4, h1, h2, h3, h4, e3]; rfl
  · simp (disch := omega) only [lit, nlt, nle, neq, nI_add, pk_mul, nm_u, bS, gd_d, oc_none, oc_some, rd_n, wr_n, if_pos, if_neg, ite_true, ite_false, not_true_eq_false, not_false_eq_true, g1, g2, g3, g4, h1, h2, h3, h4, e4]; rfl
  · simp (disch := omega) only [lit, nlt, nle, neq, nI_add, pk_mul, nm_u, bS, gd_d, oc_none, oc_some, rd_n, wr_n, if_pos, if_neg, ite_true, ite_false, not_true_eq_false, not_false_eq_true, g1, g2, g3, g4, h1, h2, h3, h4, e6]; rfl
  · have hb := bit_b (a := msk P.1 (fun k => s (k + 1) == -nI 1)) (k := k) (by omega) (by omega)
    rw [msk_tbk hk, ite_b] at hb
    simp (disch := omega) only [lit, nlt, nle, neq, nI_add, pk_mul, nm_u, bS, gd_d, oc_none, oc_some, rd_n, wr_n, if_pos, if_neg, ite_true, ite_false, not_true_eq_false, not_false_eq_true, g1, g2, g3, g4, h1, h2, h3, h4, ior, iand, shl_n, Nat.or_zero, hp.2.1, hb]
    rfl
  · have hb := bit_b (a := msk P.1 (fun k => s (k + 1) == -nI 2)) (k := k) (by omega) (by omega)
    rw [msk_tbk hk, ite_b] at hb
    simp (disch := omega) only [lit, nlt, nle, neq, nI_add, pk_mul, nm_u, bS, gd_d, oc_none, oc_some, rd_n, wr_n, if_pos, if_neg, ite_true, ite_false, not_true_eq_false, not_false_eq_true, g1, g2, g3, g4, h1, h2, h3, h4, ior, iand, shl_n, Nat.or_zero, hp.2.2.1, hb]
    rfl
end TC
theorem s_pin {fu : Nat} : Sim_pin fu Rel := by
  intro MC MM a0 a1 hR
  obtain ⟨P, s, hP, hg, hs, hp⟩ := hR.nw
  have h8 := hP.1
  rcases tri a0 P.1 (by omega) with h | ⟨k, hk, rfl⟩
  · refine ⟨-1, MC, MM, ?_, ?_, hR⟩
    · unfold f4_pin
      simp (disch := omega) only [lit, nlt, nle, neq, nI_add, pk_mul, nm_u, bS, gd_d, oc_none, oc_some, rd_n, wr_n, if_pos, if_neg, ite_true, ite_false, not_true_eq_false, not_false_eq_true, g1, g2, g3, g4, h1, h2, h3, h4, has2_out hP h]
    · unfold f5_pin
      simp (disch := omega) only [lit, nlt, nle, neq, nI_add, pk_mul, nm_u, bS, gd_d, oc_none, oc_some, rd_n, wr_n, if_pos, if_neg, ite_true, ite_false, not_true_eq_false, not_false_eq_true, g1, g2, g3, g4, h1, h2, h3, h4, isPin_out hP h]
  have o7 : (7 : Int64) = (nI 7).toInt64 := by decide
  rcases tri a1 8 (by omega) with h | ⟨w, hw, rfl⟩
  · refine ⟨-1, MC, MM, ?_, ?_, hR⟩
    · unfold f4_pin
      rcases h with h | ⟨h0, h⟩
      · simp (disch := omega) only [lit, nlt, nle, neq, nI_add, pk_mul, nm_u, bS, gd_d, oc_none, oc_some, rd_n, wr_n, if_pos, if_neg, ite_true, ite_false, not_true_eq_false, not_false_eq_true, g1, g2, g3, g4, h1, h2, h3, h4, has2_in hP hk, h]
      · simp (disch := omega) only [lit, nlt, nle, neq, nI_add, pk_mul, nm_u, bS, gd_d, oc_none, oc_some, rd_n, wr_n, if_pos, if_neg, ite_true, ite_false, not_true_eq_false, not_false_eq_true, g1, g2, g3, g4, h1, h2, h3, h4, has2_in hP hk, h0, ge_nle (b := 7) (by omega) h]
    · unfold f5_pin
      simp (disch := omega) only [lit, nlt, nle, neq, nI_add, pk_mul, nm_u, bS, gd_d, oc_none, oc_some, rd_n, wr_n, if_pos, if_neg, ite_true, ite_false, not_true_eq_false, not_false_eq_true, g1, g2, g3, g4, h1, h2, h3, h4, isPin_in hP hk, o7, in_out (n := 7) (by omega) h]
  refine ⟨1, sI MC 28 6 (tv P s k w), sI MM 0 4 (tv P s k w), ?_, ?_, hR.tell _⟩
  · unfold f4_pin
    simp (disch := omega) only [lit, nlt, nle, neq, nI_add, pk_mul, nm_u, bS, gd_d, oc_none, oc_some, rd_n, wr_n, if_pos, if_neg, ite_true, ite_false, not_true_eq_false, not_false_eq_true, g1, g2, g3, g4, h1, h2, h3, h4, has2_in hP hk, tell_c hP hp hk hw]
  · obtain ⟨hok, e0, e1, e2, e3, e4, e5, e6, d0, d1, d2, d3⟩ := hP.2.2.2.1 k hk
    unfold f5_pin f5_tell
    rcases (show w = 0 ∨ w = 1 ∨ w = 2 ∨ w = 3 ∨ w = 4 ∨ w = 5 ∨ w = 6 ∨ w = 7 by omega) with rfl | rfl | rfl | rfl | rfl | rfl | rfl | rfl
    · simp (disch := omega) only [lit, nlt, nle, neq, nI_add, pk_mul, nm_u, bS, gd_d, oc_none, oc_some, rd_n, wr_n, if_pos, if_neg, ite_true, ite_false, not_true_eq_false, not_false_eq_true, g1, g2, g3, g4, h1, h2, h3, h4, isPin_in hP hk, o7, in_in (n := 7), d0]; rfl
    · simp (disch := omega) only [lit, nlt, nle, neq, nI_add, pk_mul, nm_u, bS, gd_d, oc_none, oc_some, rd_n, wr_n, if_pos, if_neg, ite_true, ite_false, not_true_eq_false, not_false_eq_true, g1, g2, g3, g4, h1, h2, h3, h4, isPin_in hP hk, o7, in_in (n := 7), lies_m h8 hg hs hk]
      have e9 : (nI 1 = nI 0) = False := by decide
      have e8 : (nI 0 = nI 0) = True := eq_true rfl
      cases c : lyB s k
      · simp (disch := omega) only [lit, nlt, nle, neq, nI_add, pk_mul, nm_u, bS, gd_d, oc_none, oc_some, rd_n, wr_n, if_pos, if_neg, ite_true, ite_false, not_true_eq_false, not_false_eq_true, g1, g2, g3, g4, h1, h2, h3, h4, e8, Bool.false_eq_true]
        simp [tv, c]
      · simp (disch := omega) only [lit, nlt, nle, neq, nI_add, pk_mul, nm_u, bS, gd_d, oc_none, oc_some, rd_n, wr_n, if_pos, if_neg, ite_true, ite_false, not_true_eq_false, not_false_eq_true, g1, g2, g3, g4, h1, h2, h3, h4, e9]
        rw [show 1 + k = k + 1 by omega, hs (k + 1) (by omega)]
        simp [tv, c]
    · simp (disch := omega) only [lit, nlt, nle, neq, nI_add, pk_mul, nm_u, bS, gd_d, oc_none, oc_some, rd_n, wr_n, if_pos, if_neg, ite_true, ite_false, not_true_eq_false, not_false_eq_true, g1, g2, g3, g4, h1, h2, h3, h4, isPin_in hP hk, o7, in_in (n := 7), hours_m hP hk]; rfl
    · simp (disch := omega) only [lit, nlt, nle, neq, nI_add, pk_mul, nm_u, bS, gd_d, oc_none, oc_some, rd_n, wr_n, if_pos, if_neg, ite_true, ite_false, not_true_eq_false, not_false_eq_true, g1, g2, g3, g4, h1, h2, h3, h4, isPin_in hP hk, o7, in_in (n := 7), d2]; rfl
    · simp (disch := omega) only [lit, nlt, nle, neq, nI_add, pk_mul, nm_u, bS, gd_d, oc_none, oc_some, rd_n, wr_n, if_pos, if_neg, ite_true, ite_false, not_true_eq_false, not_false_eq_true, g1, g2, g3, g4, h1, h2, h3, h4, isPin_in hP hk, o7, in_in (n := 7), d3]; rfl
    · simp (disch := omega) only [lit, nlt, nle, neq, nI_add, pk_mul, nm_u, bS, gd_d, oc_none, oc_some, rd_n, wr_n, if_pos, if_neg, ite_true, ite_false, not_true_eq_false, not_false_eq_true, g1, g2, g3, g4, h1, h2, h3, h4, isPin_in hP hk, o7, in_in (n := 7), worth_m hP hk]; rfl
    · have e9 : MM.1 10 (1 + k) = s (k + 1) := by rw [show 1 + k = k + 1 by omega, hs (k + 1) (by omega)]
      by_cases c : s (k + 1) = -nI 1
      · simp (disch := omega) only [lit, nlt, nle, neq, nI_add, pk_mul, nm_u, bS, gd_d, oc_none, oc_some, rd_n, wr_n, if_pos, if_neg, ite_true, ite_false, not_true_eq_false, not_false_eq_true, g1, g2, g3, g4, h1, h2, h3, h4, isPin_in hP hk, o7, in_in (n := 7), e9, c]
        simp [tv, c]
      · simp (disch := omega) only [lit, nlt, nle, neq, nI_add, pk_mul, nm_u, bS, gd_d, oc_none, oc_some, rd_n, wr_n, if_pos, if_neg, ite_true, ite_false, not_true_eq_false, not_false_eq_true, g1, g2, g3, g4, h1, h2, h3, h4, isPin_in hP hk, o7, in_in (n := 7), e9, c]
        simp [tv, c]
    · have e9 : MM.1 10 (1 + k) = s (k + 1) := by rw [show 1 + k = k + 1 by omega, hs (k + 1) (by omega)]
      by_cases c : s (k + 1) = -nI 2
      · simp (disch := omega) only [lit, nlt, nle, neq, nI_add, pk_mul, nm_u, bS, gd_d, oc_none, oc_some, rd_n, wr_n, if_pos, if_neg, ite_true, ite_false, not_true_eq_false, not_false_eq_true, g1, g2, g3, g4, h1, h2, h3, h4, isPin_in hP hk, o7, in_in (n := 7), e9, c]
        simp [tv, c]
      · simp (disch := omega) only [lit, nlt, nle, neq, nI_add, pk_mul, nm_u, bS, gd_d, oc_none, oc_some, rd_n, wr_n, if_pos, if_neg, ite_true, ite_false, not_true_eq_false, not_false_eq_true, g1, g2, g3, g4, h1, h2, h3, h4, isPin_in hP hk, o7, in_in (n := 7), e9, c]
        simp [tv, c]
theorem s_worth {fu : Nat} : Sim_worth fu Rel := by
  intro MC MM a0 a1 hR
  obtain ⟨P, s, hP, hg, hs, hp⟩ := hR.nw
  have h8 := hP.1
  rcases tri a0 P.1 (by omega) with h | ⟨k, hk, rfl⟩
  · refine ⟨-1, MC, MM, ?_, ?_, hR⟩
    · unfold f4_worth
      simp (disch := omega) only [lit, nlt, nle, neq, nI_add, pk_mul, nm_u, bS, gd_d, oc_none, oc_some, rd_n, wr_n, if_pos, if_neg, ite_true, ite_false, not_true_eq_false, not_false_eq_true, g1, g2, g3, g4, h1, h2, h3, h4, has2_out hP h]
    · unfold f5_worth
      simp (disch := omega) only [lit, nlt, nle, neq, nI_add, pk_mul, nm_u, bS, gd_d, oc_none, oc_some, rd_n, wr_n, if_pos, if_neg, ite_true, ite_false, not_true_eq_false, not_false_eq_true, g1, g2, g3, g4, h1, h2, h3, h4, isPin_out hP h]
  have o9 : (9 : Int64) = (nI 9).toInt64 := by decide
  rcases tri a1 10 (by omega) with h | ⟨w, hw, rfl⟩
  · refine ⟨-1, MC, MM, ?_, ?_, hR⟩
    · unfold f4_worth f4_isLuck
      rcases h with h | ⟨h0, h⟩
      · simp (disch := omega) only [lit, nlt, nle, neq, nI_add, pk_mul, nm_u, bS, gd_d, oc_none, oc_some, rd_n, wr_n, if_pos, if_neg, ite_true, ite_false, not_true_eq_false, not_false_eq_true, g1, g2, g3, g4, h1, h2, h3, h4, has2_in hP hk, h]
      · simp (disch := omega) only [lit, nlt, nle, neq, nI_add, pk_mul, nm_u, bS, gd_d, oc_none, oc_some, rd_n, wr_n, if_pos, if_neg, ite_true, ite_false, not_true_eq_false, not_false_eq_true, g1, g2, g3, g4, h1, h2, h3, h4, has2_in hP hk, h0, h]
    · unfold f5_worth
      simp (disch := omega) only [lit, nlt, nle, neq, nI_add, pk_mul, nm_u, bS, gd_d, oc_none, oc_some, rd_n, wr_n, if_pos, if_neg, ite_true, ite_false, not_true_eq_false, not_false_eq_true, g1, g2, g3, g4, h1, h2, h3, h4, isPin_in hP hk, o9, in_out (n := 9) (by omega) h]
  obtain ⟨hok, e0, -, -, -, -, -, -, d0, -⟩ := hP.2.2.2.1 k hk
  refine ⟨1, sI MC 28 6 (wvI P (nI (kd P k)) k (nI w)), sI MM 0 4 (wvI P (nI (kd P k)) k (nI w)), ?_, ?_, hR.tell _⟩
  · unfold f4_worth f4_isLuck
    simp (disch := omega) only [lit, nlt, nle, neq, nI_add, pk_mul, nm_u, bS, gd_d, oc_none, oc_some, rd_n, wr_n, if_pos, if_neg, ite_true, ite_false, not_true_eq_false, not_false_eq_true, g1, g2, g3, g4, h1, h2, h3, h4, has2_in hP hk, e0, value_c hP hk]
  · unfold f5_worth f5_tell
    simp (disch := omega) only [lit, nlt, nle, neq, nI_add, pk_mul, nm_u, bS, gd_d, oc_none, oc_some, rd_n, wr_n, if_pos, if_neg, ite_true, ite_false, not_true_eq_false, not_false_eq_true, g1, g2, g3, g4, h1, h2, h3, h4, isPin_in hP hk, o9, in_in (n := 9), d0, value_m hP hk]
theorem isOf_eq {a b : Nat} (ha : a < 6) (hb : b < 6) (h1 : 1 ≤ b) : f4_isOf (nI a) (nI b) = f5_isOf (nI a) (nI b) := by
  have : ∀ a, a < 6 → ∀ b, b < 6 → 1 ≤ b → f4_isOf (nI a) (nI b) = f5_isOf (nI a) (nI b) := by decide +kernel
  exact this a ha b hb h1
theorem isOf_two {a b : Nat} (ha : a < 6) (hb : b < 6) : f5_isOf (nI a) (nI b) = some (nI 0) ∨ f5_isOf (nI a) (nI b) = some (nI 1) := by
  have : ∀ a, a < 6 → ∀ b, b < 6 → f5_isOf (nI a) (nI b) = some (nI 0) ∨ f5_isOf (nI a) (nI b) = some (nI 1) := by decide +kernel
  exact this a ha b hb
theorem s_mark {fu : Nat} : Sim_mark fu Rel := by
  intro MC MM a0 a1 hR
  obtain ⟨P, s, hP, hg, hs, hp⟩ := hR.nw
  have h8 := hP.1
  rcases tri a0 P.1 (by omega) with h | ⟨k, hk, rfl⟩
  · refine ⟨-1, MC, MM, ?_, ?_, hR⟩
    · unfold f4_mark
      simp (disch := omega) only [lit, nlt, nle, neq, nI_add, pk_mul, nm_u, bS, gd_d, oc_none, oc_some, rd_n, wr_n, if_pos, if_neg, ite_true, ite_false, not_true_eq_false, not_false_eq_true, g1, g2, g3, g4, h1, h2, h3, h4, has2_out hP h]
    · unfold f5_mark
      simp (disch := omega) only [lit, nlt, nle, neq, nI_add, pk_mul, nm_u, bS, gd_d, oc_none, oc_some, rd_n, wr_n, if_pos, if_neg, ite_true, ite_false, not_true_eq_false, not_false_eq_true, g1, g2, g3, g4, h1, h2, h3, h4, isPin_out hP h]
  have o5 : (5 : Int64) = (nI 5).toInt64 := by decide
  have o1 : (1 : Int64) = (nI 1).toInt64 := by decide
  rcases tri a1 6 (by omega) with h | ⟨w, hw, rfl⟩
  · refine ⟨-1, MC, MM, ?_, ?_, hR⟩
    · unfold f4_mark
      rcases h with h | ⟨h0, h⟩
      · simp (disch := omega) only [lit, nlt, nle, neq, nI_add, pk_mul, nm_u, bS, gd_d, oc_none, oc_some, rd_n, wr_n, if_pos, if_neg, ite_true, ite_false, not_true_eq_false, not_false_eq_true, g1, g2, g3, g4, h1, h2, h3, h4, has2_in hP hk, lt0_le h]
      · simp (disch := omega) only [lit, nlt, nle, neq, nI_add, pk_mul, nm_u, bS, gd_d, oc_none, oc_some, rd_n, wr_n, if_pos, if_neg, ite_true, ite_false, not_true_eq_false, not_false_eq_true, g1, g2, g3, g4, h1, h2, h3, h4, has2_in hP hk, ge_nle (b := 0) (by omega) (of_eq_true (ge_le (a := 1) (b := 6) (by omega) (by omega) h)), ge_nlt (b := 6) (a := 6) (by omega) (by omega) h]
    · unfold f5_mark
      have : f5_in a1.toInt64 (1 : Int64) (5 : Int64) = some (nI 0) := by
        rw [o1, o5, in_i, if_neg]; rfl
        rintro ⟨q1, q2⟩
        rcases h with h | ⟨h0, h⟩
        · exact absurd (Int32.le_trans (show nI 0 ≤ nI 1 by decide) q1) (of_eq_false (lt0_nle h))
        · exact of_eq_false (ge_nle (b := 5) (by omega) h) q2
      simp (disch := omega) only [lit, nlt, nle, neq, nI_add, pk_mul, nm_u, bS, gd_d, oc_none, oc_some, rd_n, wr_n, if_pos, if_neg, ite_true, ite_false, not_true_eq_false, not_false_eq_true, g1, g2, g3, g4, h1, h2, h3, h4, isPin_in hP hk, this]
  by_cases h0 : w = 0
  · subst h0
    refine ⟨-1, MC, MM, ?_, ?_, hR⟩
    · unfold f4_mark
      simp (disch := omega) only [lit, nlt, nle, neq, nI_add, pk_mul, nm_u, bS, gd_d, oc_none, oc_some, rd_n, wr_n, if_pos, if_neg, ite_true, ite_false, not_true_eq_false, not_false_eq_true, g1, g2, g3, g4, h1, h2, h3, h4, has2_in hP hk]
    · unfold f5_mark
      have : f5_in (nI 0).toInt64 (1 : Int64) (5 : Int64) = some (nI 0) := by decide
      simp (disch := omega) only [lit, nlt, nle, neq, nI_add, pk_mul, nm_u, bS, gd_d, oc_none, oc_some, rd_n, wr_n, if_pos, if_neg, ite_true, ite_false, not_true_eq_false, not_false_eq_true, g1, g2, g3, g4, h1, h2, h3, h4, isPin_in hP hk, this]
  have hin : f5_in (nI w).toInt64 (1 : Int64) (5 : Int64) = some (nI 1) := by
    rw [o1, o5, in_n (by omega) (by omega) (by omega), if_pos ⟨by omega, by omega⟩]; rfl
  obtain ⟨hok, e0, -, -, -, e4, -, e6, d0, -, -, d3⟩ := hP.2.2.2.1 k hk
  rcases isOf_two hok.1 hw with c | c
  · refine ⟨-3, _, _, ?_, ?_, hR.find (f := 3) (by omega)⟩
    · unfold f4_mark
      simp (disch := omega) only [lit, nlt, nle, neq, nI_add, pk_mul, nm_u, bS, gd_d, oc_none, oc_some, rd_n, wr_n, if_pos, if_neg, ite_true, ite_false, not_true_eq_false, not_false_eq_true, g1, g2, g3, g4, h1, h2, h3, h4, has2_in hP hk, e0, isOf_eq hok.1 hw (by omega), c, find_s]
    · unfold f5_mark
      simp (disch := omega) only [lit, nlt, nle, neq, nI_add, pk_mul, nm_u, bS, gd_d, oc_none, oc_some, rd_n, wr_n, if_pos, if_neg, ite_true, ite_false, not_true_eq_false, not_false_eq_true, g1, g2, g3, g4, h1, h2, h3, h4, isPin_in hP hk, hin, d0, c, found_s]
  · rcases (show w = 1 ∨ w = 2 ∨ w = 3 ∨ w = 4 ∨ w = 5 by omega) with rfl | rfl | rfl | rfl | rfl
    · refine ⟨nI 100 + zI (wz P k) - nI 0, MC, MM, ?_, ?_, hR⟩
      · unfold f4_mark
        simp (disch := omega) only [lit, nlt, nle, neq, nI_add, pk_mul, nm_u, bS, gd_d, oc_none, oc_some, rd_n, wr_n, if_pos, if_neg, ite_true, ite_false, not_true_eq_false, not_false_eq_true, g1, g2, g3, g4, h1, h2, h3, h4, has2_in hP hk, e0, isOf_eq hok.1 hw (by omega), c, e6]
        rw [show nI 100 + zI (wz P k) - nI 0 = nI 100 + zI (wz P k) from Int32.sub_zero _]
      · unfold f5_mark f5_mark_80
        simp (disch := omega) only [lit, nlt, nle, neq, nI_add, pk_mul, nm_u, bS, gd_d, oc_none, oc_some, rd_n, wr_n, if_pos, if_neg, ite_true, ite_false, not_true_eq_false, not_false_eq_true, g1, g2, g3, g4, h1, h2, h3, h4, isPin_in hP hk, hin, d0, c, worth_m hP hk]
    · refine ⟨nI 100 + zI (wz P k) - wvI P (nI 0) k (nI (lk P k)), MC, MM, ?_, ?_, hR⟩
      · unfold f4_mark
        simp (disch := omega) only [lit, nlt, nle, neq, nI_add, pk_mul, nm_u, bS, gd_d, oc_none, oc_some, rd_n, wr_n, if_pos, if_neg, ite_true, ite_false, not_true_eq_false, not_false_eq_true, g1, g2, g3, g4, h1, h2, h3, h4, has2_in hP hk, e0, isOf_eq hok.1 hw (by omega), c, e6, e4, value_c hP hk]
      · unfold f5_mark f5_mark_70 f5_mark_80
        simp (disch := omega) only [lit, nlt, nle, neq, nI_add, pk_mul, nm_u, bS, gd_d, oc_none, oc_some, rd_n, wr_n, if_pos, if_neg, ite_true, ite_false, not_true_eq_false, not_false_eq_true, g1, g2, g3, g4, h1, h2, h3, h4, isPin_in hP hk, hin, d0, c, worth_m hP hk, d3, value_m hP hk]
    · refine ⟨nI 100 + zI (wz P k) - wvI P (nI 0) k (nI (lk P k)), MC, MM, ?_, ?_, hR⟩
      · unfold f4_mark
        simp (disch := omega) only [lit, nlt, nle, neq, nI_add, pk_mul, nm_u, bS, gd_d, oc_none, oc_some, rd_n, wr_n, if_pos, if_neg, ite_true, ite_false, not_true_eq_false, not_false_eq_true, g1, g2, g3, g4, h1, h2, h3, h4, has2_in hP hk, e0, isOf_eq hok.1 hw (by omega), c, e6, e4, value_c hP hk]
      · unfold f5_mark f5_mark_70 f5_mark_80
        simp (disch := omega) only [lit, nlt, nle, neq, nI_add, pk_mul, nm_u, bS, gd_d, oc_none, oc_some, rd_n, wr_n, if_pos, if_neg, ite_true, ite_false, not_true_eq_false, not_false_eq_true, g1, g2, g3, g4, h1, h2, h3, h4, isPin_in hP hk, hin, d0, c, worth_m hP hk, d3, value_m hP hk]
    · refine ⟨nI 100 + zI (wz P k) - wvI P (nI 2) k (nI (lk P k)), MC, MM, ?_, ?_, hR⟩
      · unfold f4_mark
        simp (disch := omega) only [lit, nlt, nle, neq, nI_add, pk_mul, nm_u, bS, gd_d, oc_none, oc_some, rd_n, wr_n, if_pos, if_neg, ite_true, ite_false, not_true_eq_false, not_false_eq_true, g1, g2, g3, g4, h1, h2, h3, h4, has2_in hP hk, e0, isOf_eq hok.1 hw (by omega), c, e6, e4, value_c hP hk]
      · unfold f5_mark f5_mark_70 f5_mark_80
        simp (disch := omega) only [lit, nlt, nle, neq, nI_add, pk_mul, nm_u, bS, gd_d, oc_none, oc_some, rd_n, wr_n, if_pos, if_neg, ite_true, ite_false, not_true_eq_false, not_false_eq_true, g1, g2, g3, g4, h1, h2, h3, h4, isPin_in hP hk, hin, d0, c, worth_m hP hk, d3, value_m hP hk]
    · refine ⟨nI 100 + zI (wz P k) - wvI P (nI 1) k (nI (lk P k)), MC, MM, ?_, ?_, hR⟩
      · unfold f4_mark
        simp (disch := omega) only [lit, nlt, nle, neq, nI_add, pk_mul, nm_u, bS, gd_d, oc_none, oc_some, rd_n, wr_n, if_pos, if_neg, ite_true, ite_false, not_true_eq_false, not_false_eq_true, g1, g2, g3, g4, h1, h2, h3, h4, has2_in hP hk, e0, isOf_eq hok.1 hw (by omega), c, e6, e4, value_c hP hk]
      · unfold f5_mark f5_mark_70 f5_mark_80
        simp (disch := omega) only [lit, nlt, nle, neq, nI_add, pk_mul, nm_u, bS, gd_d, oc_none, oc_some, rd_n, wr_n, if_pos, if_neg, ite_true, ite_false, not_true_eq_false, not_false_eq_true, g1, g2, g3, g4, h1, h2, h3, h4, isPin_in hP hk, hin, d0, c, worth_m hP hk, d3, value_m hP hk]
theorem s_lucks {fu : Nat} (hfu : 10000 ≤ fu) : Sim_lucks fu Rel := by
  intro MC MM a0 a1 hR
  obtain ⟨P, s, hP, hg, hs, hp⟩ := hR.nw
  have h8 := hP.1
  rcases tri a0 P.1 (by omega) with h | ⟨k, hk, rfl⟩
  · refine ⟨-1, ?_, ?_, hR⟩
    · unfold f4_lucks
      simp (disch := omega) only [lit, nlt, nle, neq, nI_add, pk_mul, nm_u, bS, gd_d, oc_none, oc_some, rd_n, wr_n, if_pos, if_neg, ite_true, ite_false, not_true_eq_false, not_false_eq_true, g1, g2, g3, g4, h1, h2, h3, h4, has2_out hP h]
    · unfold f5_lucks
      simp (disch := omega) only [lit, nlt, nle, neq, nI_add, pk_mul, nm_u, bS, gd_d, oc_none, oc_some, rd_n, wr_n, if_pos, if_neg, ite_true, ite_false, not_true_eq_false, not_false_eq_true, g1, g2, g3, g4, h1, h2, h3, h4, isPin_out hP h]
  obtain ⟨hok, e0, -, -, -, -, -, -, d0, -⟩ := hP.2.2.2.1 k hk
  have hin : f5_in a1.toInt64 (-20 : Int64) (60 : Int64) = some (if -nI 20 ≤ a1 ∧ a1 ≤ nI 60 then nI 1 else nI 0) := by
    rw [show (-20 : Int64) = (-nI 20).toInt64 by decide, show (60 : Int64) = (nI 60).toInt64 by decide, in_i]; rfl
  have key : ∀ (d i f acc : Nat), i + d = 10 → d < f → f4_lucks_31 MC fu f (nI k) a1 (nI acc) (nI i) = f5_lucks_29 MM fu f (nI k) a1 (nI acc) (nI i) ∧ ∃ r, f5_lucks_29 MM fu f (nI k) a1 (nI acc) (nI i) = some r := by
    intro d
    induction d with
    | zero =>
      intro i f acc h hf
      rcases f with _ | f
      · omega
      rw [f4_lucks_31, f5_lucks_29]
      simp (disch := omega) only [lit, nlt, nle, neq, nI_add, pk_mul, nm_u, bS, gd_d, oc_none, oc_some, rd_n, wr_n, if_pos, if_neg, ite_true, ite_false, not_true_eq_false, not_false_eq_true, g1, g2, g3, g4, h1, h2, h3, h4]
      exact ⟨trivial, _, rfl⟩
    | succ d ih =>
      intro i f acc h hf
      rcases f with _ | f
      · omega
      rw [f4_lucks_31, f5_lucks_29]
      simp (disch := omega) only [lit, nlt, nle, neq, nI_add, pk_mul, nm_u, bS, gd_d, oc_none, oc_some, rd_n, wr_n, if_pos, if_neg, ite_true, ite_false, not_true_eq_false, not_false_eq_true, g1, g2, g3, g4, h1, h2, h3, h4, ior, iand, shl_n, Nat.or_zero, e0, d0, value_c hP hk, value_m hP hk]
      split
      · exact ih (i + 1) f _ (by omega) (by omega)
      · exact ih (i + 1) f _ (by omega) (by omega)
  by_cases c : -nI 20 ≤ a1 ∧ a1 ≤ nI 60
  · obtain ⟨q1, r, q2⟩ := key 10 0 fu 0 (by omega) (by omega)
    refine ⟨r, ?_, ?_, hR⟩
    · unfold f4_lucks f4_isWorth
      have c1 : (a1 < -nI 20) = False := eq_false (Int32.not_lt.mpr c.1)
      have c2 : (nI 60 < a1) = False := eq_false (Int32.not_lt.mpr c.2)
      simp (disch := omega) only [lit, nlt, nle, neq, nI_add, pk_mul, nm_u, bS, gd_d, oc_none, oc_some, rd_n, wr_n, if_pos, if_neg, ite_true, ite_false, not_true_eq_false, not_false_eq_true, g1, g2, g3, g4, h1, h2, h3, h4, has2_in hP hk, c1, c2]
      rw [q1]; exact q2
    · unfold f5_lucks
      simp (disch := omega) only [lit, nlt, nle, neq, nI_add, pk_mul, nm_u, bS, gd_d, oc_none, oc_some, rd_n, wr_n, if_pos, if_neg, ite_true, ite_false, not_true_eq_false, not_false_eq_true, g1, g2, g3, g4, h1, h2, h3, h4, isPin_in hP hk, hin, c, and_self]
      exact q2
  · refine ⟨-1, ?_, ?_, hR⟩
    · unfold f4_lucks f4_isWorth
      by_cases c1 : a1 < -nI 20
      · simp (disch := omega) only [lit, nlt, nle, neq, nI_add, pk_mul, nm_u, bS, gd_d, oc_none, oc_some, rd_n, wr_n, if_pos, if_neg, ite_true, ite_false, not_true_eq_false, not_false_eq_true, g1, g2, g3, g4, h1, h2, h3, h4, has2_in hP hk, c1]
      · have c2 : nI 60 < a1 := Int32.not_le.mp (fun q => c ⟨Int32.not_lt.mp c1, q⟩)
        simp (disch := omega) only [lit, nlt, nle, neq, nI_add, pk_mul, nm_u, bS, gd_d, oc_none, oc_some, rd_n, wr_n, if_pos, if_neg, ite_true, ite_false, not_true_eq_false, not_false_eq_true, g1, g2, g3, g4, h1, h2, h3, h4, has2_in hP hk, c1, c2]
    · unfold f5_lucks
      simp (disch := omega) only [lit, nlt, nle, neq, nI_add, pk_mul, nm_u, bS, gd_d, oc_none, oc_some, rd_n, wr_n, if_pos, if_neg, ite_true, ite_false, not_true_eq_false, not_false_eq_true, g1, g2, g3, g4, h1, h2, h3, h4, isPin_in hP hk, hin, c]
