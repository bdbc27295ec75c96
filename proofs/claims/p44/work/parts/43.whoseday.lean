/-! 43: whose day it was -/
section WD43
variable {P : PD} {s : Nat → Int32} {M : Mem} {fu k d c N V T E D p U : Nat} {st : Nat → Nat → Int32}
variable {L e f : Nat} {xs : Nat → Int32} {x5 x6 x7 x8 x9 x10 x11 x12 x13 x14 x15 x17 : Int32}
theorem st_fv {M' : Mem} (h : St P s M) (a : FV M M') : St P s M' := h.cg (fun q q1 q2 => a q (by omega))
theorem fv_lay (i : Nat) (v w : Int32) {r : Nat} (hr : r < 6) : FV M (sI (sI M 28 6 w) (r + 10) i v) := fun q hq => by rw [g2 (by omega), g2 (by omega)]
theorem l2055_loop (hU : U < 8192) : ∀ (e i f : Nat) (M : Mem), i + e = 13 → e < f → M.1 2 0 = nI 13 → (∀ j, j < i → M.1 12 j = nI (if U.testBit j then 1 else 0)) → ∃ M' g, f9_law_2055 L xs fu f (nI P.1) x5 x7 x8 x9 x10 x11 x15 (nI U) (nI i) M = f9_law_2055 L xs fu (g + 1) (nI P.1) x5 x7 x8 x9 x10 x11 x15 (nI U) (nI 13) M' ∧ FV M M' ∧ M'.1 2 0 = nI 13 ∧ ∀ j, j < 13 → M'.1 12 j = nI (if U.testBit j then 1 else 0) := by
  intro e
  induction e with
  | zero =>
    intro i f M hi hf h0 hj
    rcases f with _ | f
    · omega
    have : i = 13 := by omega
    subst this
    exact ⟨M, f, rfl, FV.rf, h0, hj⟩
  | succ e ih =>
    intro i f M hi hf h0 hj
    rcases f with _ | f
    · omega
    have la : f4_lay (2 : Int32) (nI i) (nI (if U.testBit i then 1 else 0)) M = some (sI (sI M 28 6 (M.1 12 i)) 12 i (nI (if U.testBit i then 1 else 0)), nI 1) := lay_s (r := 2) (by omega) h0 (by omega) (by omega)
    obtain ⟨M', g, a1, a2, a3, a4⟩ := ih (i + 1) f (sI (sI M 28 6 (M.1 12 i)) 12 i (nI (if U.testBit i then 1 else 0))) (by omega) (by omega) (by rw [g2 (by omega), g2 (by omega)]; exact h0) (fun j hj1 => by
      by_cases c : j = i
      · rw [c, g1]
      · rw [g3 c, g2 (by omega)]
        exact hj j (by omega))
    refine ⟨M', g, ?_, (fv_lay (r := 2) i _ _ (by omega)).tr a2, a3, a4⟩
    rw [f9_law_2055]
    dsimp only
    rw [if_neg (show ¬ (13 : Int32) ≤ nI i from le_f (a := 13) (by omega) (by omega) (by omega)), bitI (by omega) (by omega), la, bS]
    dsimp only
    rw [if_pos (show nI 1 = (1 : Int32) from rfl), nm_u, ad1]
    exact a1
theorem hw_dis (s : Nat → Int32) : hB P s &&& wB P s = 0 := by
  rw [msk_and]
  refine msk_0 (fun k hk => ?_)
  by_cases c : s (k + 1) = -nI 1
  · rw [c]; decide
  · simp [c]
theorem whg_H {w : Nat → Int32} (hU : (tw P (hB P s)).2 < 8192) (hw : ∀ j, j < 13 → w j = nI (if (tw P (hB P s)).2.testBit j then 1 else 0)) : whg P (wB P s) w (hB P s) = true := by
  unfold whg
  rw [hw_dis]
  have e1 : msk 13 (fun i => w i == nI 1) = (tw P (hB P s)).2 := by
    apply Nat.eq_of_testBit_eq
    intro z
    by_cases cz : z < 13
    · rw [msk_tbk cz, hw z cz]
      cases (tw P (hB P s)).2.testBit z <;> decide
    · rw [tb_ge (msk_lt _ _) (show 13 ≤ z by omega), tb_ge (show (tw P (hB P s)).2 < 2 ^ 13 by omega) (show 13 ≤ z by omega)]
  rw [e1]
  have e2 : (tw P (hB P s)).2 &&& ((tw P (hB P s)).2 ||| msk 13 (fun i => w i == nI 0)) = (tw P (hB P s)).2 := tb_sub (fun z hz => by rw [Nat.testBit_or, hz]; rfl)
  rw [e2]
  simp
theorem whg_less {W i : Nat} {w w' : Nat → Int32} (hi : w' i = -nI 9) (ho : ∀ j, j ≠ i → w' j = w j) (T : Nat) (h : whg P W w T = true) : whg P W w' T = true := by
  unfold whg at *
  obtain ⟨h1, h2⟩ := Bool.and_eq_true_iff.mp h
  have h3 := beq_iff_eq.mp h2
  refine Bool.and_eq_true_iff.mpr ⟨h1, beq_iff_eq.mpr ?_⟩
  apply Nat.eq_of_testBit_eq
  intro z
  by_cases cz : z < 13
  · rw [Nat.testBit_and, Nat.testBit_or, msk_tbk cz, msk_tbk cz]
    by_cases c : z = i
    · rw [c, hi]
      rw [show (-nI 9 == nI 1) = false by decide, show (-nI 9 == nI 0) = false by decide]
      simp
    · rw [ho z c]
      have := congrArg (fun y => Nat.testBit y z) h3
      rw [Nat.testBit_and, Nat.testBit_or, msk_tbk cz, msk_tbk cz] at this
      exact this
  · rw [Nat.testBit_and, Nat.testBit_or, tb_ge (msk_lt _ _) (show 13 ≤ z by omega), tb_ge (msk_lt _ _) (show 13 ≤ z by omega)]
    simp
theorem l2124 (hfu : 10000 ≤ fu) : ∀ (e i f C : Nat) (M : Mem), i + 3 * e = 15 → e < f → St P s M → M.1 2 0 = nI 13 → (∀ j, j < 13 → okw (M.1 12 j)) → C = cnt (2 ^ P.1) (whg P (wB P s) (M.1 12)) → 0 < C → ∃ M', f9_law_2124 L xs fu f (nI P.1) x5 x7 x8 x9 x10 x11 x15 (nI C) (nI i) M = f9_law_2172 L xs fu fu (nI P.1) x5 x7 x8 x9 x10 x11 x15 (0 : Int32) M' ∧ FV M M' := by
  intro e
  induction e with
  | zero =>
    intro i f C M hi hf h h0 ok hC hp
    rcases f with _ | f
    · omega
    have : i = 15 := by omega
    subst this
    refine ⟨M, ?_, FV.rf⟩
    rw [f9_law_2124]
    dsimp only
    rw [if_pos (show (13 : Int32) ≤ nI 15 by decide)]
  | succ e ih =>
    intro i f C M hi hf h h0 ok hC hp
    rcases f with _ | f
    · omega
    have h8 := h.1.1
    have h256 := pow8 h8
    have la : f4_lay (2 : Int32) (nI i) (-9 : Int32) M = some (sI (sI M 28 6 (M.1 12 i)) 12 i (-nI 9), nI 1) := lay_s (r := 2) (by omega) h0 (by omega) (by omega)
    have F1 : FV M (sI (sI M 28 6 (M.1 12 i)) 12 i (-nI 9)) := fv_lay (r := 2) i _ _ (by omega)
    have e1 : (sI (sI M 28 6 (M.1 12 i)) 12 i (-nI 9)).1 12 i = -nI 9 := g1
    have e2 : ∀ j, j ≠ i → (sI (sI M 28 6 (M.1 12 i)) 12 i (-nI 9)).1 12 j = M.1 12 j := fun j c => by rw [g3 c, g2 (by omega)]
    have e3 : (sI (sI M 28 6 (M.1 12 i)) 12 i (-nI 9)).1 2 0 = nI 13 := by rw [g2 (by omega), g2 (by omega)]; exact h0
    generalize sI (sI M 28 6 (M.1 12 i)) 12 i (-nI 9) = M1 at *
    have h1 := st_fv h F1
    have ok1 : ∀ j, j < 13 → okw (M1.1 12 j) := fun j hj => by
      by_cases c : j = i
      · rw [c, e1]; exact Or.inr (Or.inr rfl)
      · rw [e2 j c]; exact ok j hj
    have le : C ≤ cnt (2 ^ P.1) (whg P (wB P s) (M1.1 12)) := by
      rw [hC]
      exact cnt_imp (fun T _ hT => whg_less e1 e2 T hT)
    have bc := cnt_le (2 ^ P.1) (whg P (wB P s) (M1.1 12))
    obtain ⟨V, -, -, w⟩ := whose_s hfu h1 e3 rfl ok1 (by omega)
    have e4 : (sI M1 28 6 (nI V)).1 12 = M1.1 12 := g2 (by omega)
    obtain ⟨V2, -, -, w2⟩ := whose_s (w := M1.1 12) hfu (h1.s28 6 (nI V)) (by rw [g2 (by omega)]; exact e3) e4 ok1 (by omega)
    rw [s28_28] at w2
    have e5 : (sI M1 28 6 (nI V2)).1 12 = M1.1 12 := g2 (by omega)
    obtain ⟨M', a1, a2⟩ := ih (i + 3) f (cnt (2 ^ P.1) (whg P (wB P s) (M1.1 12))) (sI M1 28 6 (nI V2)) (by omega) (by omega) (h1.s28 6 _) (by rw [g2 (by omega)]; exact e3) (fun j hj => by rw [e5]; exact ok1 j hj) (by rw [e5]) (by omega)
    refine ⟨M', ?_, F1.tr ((FV.s28 6 _).tr a2)⟩
    have w' : f4_whose fu (2 : Int32) M1 = _ := w
    have w2' : f4_whose fu (2 : Int32) (sI M1 28 6 (nI V)) = _ := w2
    have e6 : nI i + (3 : Int32) = nI (i + 3) := nI_add i 3
    rw [f9_law_2124]
    dsimp only
    rw [if_neg (show ¬ (13 : Int32) ≤ nI i from le_f (a := 13) (by omega) (by omega) (by omega)), la, bS]
    dsimp only
    rw [if_pos (show nI 1 = (1 : Int32) from rfl), w', bS]
    dsimp only
    rw [if_pos (le_t (by omega) (by omega) le), w2', bS]
    dsimp only
    rw [nm_u, e6]
    exact a1
theorem l1824_all (hL : L ≤ 260) (hfu : 10000 ≤ fu) (hV : KV P d st M) : ∃ M', f9_law_1824 L xs fu fu (nI P.1) (nI (2 ^ P.1 - 1)) x7 (st d 0) (nI (hB P (st d))) (nI (lB P (st d))) x11 x15 (0 : Int32) M = f9_law_2172 L xs fu fu (nI P.1) (nI (2 ^ P.1 - 1)) x7 (st d 0) (nI (hB P (st d))) (nI (lB P (st d))) x11 x15 (0 : Int32) M' ∧ KV P d st M' := by
  have h := hV.1.1
  have hP := h.1
  have h8 := hP.1
  have h256 := pow8 h8
  have hpos := Nat.two_pow_pos P.1
  have bH := hB_lt (P := P) (s := st d) h8
  have hlt : hB P (st d) < 2 ^ P.1 := msk_lt _ _
  have bT := (tw_b hP hlt).2
  obtain ⟨v1, a1⟩ := l1824 (L := L) (xs := xs) (x7 := x7) (x9 := nI (hB P (st d))) (x11 := x11) (x15 := x15) hL hfu h 5 0 fu (M.1 28 6) (by omega) (by omega)
  rw [s28_id] at a1
  have bz := busyE hfu h v1
  have V1 := hV.s28 6 (nI (tw P (hB P (st d))).1)
  have ro := row_s (r := 2) (n := 13) (M := sI M 28 6 (nI (tw P (hB P (st d))).1)) hfu (by omega) (by omega)
  have e0 : (sF (sI (sI M 28 6 (nI (tw P (hB P (st d))).1)) 2 0 (nI 13)) 12 (fun j => if j < 13 then nI 0 else (sI M 28 6 (nI (tw P (hB P (st d))).1)).1 12 j)).1 2 0 = nI 13 := by rw [sF_q (by omega), g1]
  have V2 : KV P d st (sF (sI (sI M 28 6 (nI (tw P (hB P (st d))).1)) 2 0 (nI 13)) 12 (fun j => if j < 13 then nI 0 else (sI M 28 6 (nI (tw P (hB P (st d))).1)).1 12 j)) := V1.fv (fun q hq => by rw [sF_q (by omega), g2 (by omega)])
  have ro' : f4_row fu (2 : Int32) (13 : Int32) (sI M 28 6 (nI (tw P (hB P (st d))).1)) = _ := ro
  generalize sF (sI (sI M 28 6 (nI (tw P (hB P (st d))).1)) 2 0 (nI 13)) 12 (fun j => if j < 13 then nI 0 else (sI M 28 6 (nI (tw P (hB P (st d))).1)).1 12 j) = M2 at *
  obtain ⟨M3, g, b1, b2, b3, b4⟩ := l2055_loop (P := P) (L := L) (xs := xs) (fu := fu) (x5 := nI (2 ^ P.1 - 1)) (x7 := x7) (x8 := st d 0) (x9 := nI (hB P (st d))) (x10 := nI (lB P (st d))) (x11 := x11) (x15 := x15) bT 13 0 fu M2 (by omega) (by omega) e0 (fun j hj => absurd hj (by omega))
  have V3 := V2.fv b2
  have wH := whg_H bT b4
  have cp : 0 < cnt (2 ^ P.1) (whg P (wB P (st d)) (M3.1 12)) := cnt_pos hlt wH
  have bc := cnt_le (2 ^ P.1) (whg P (wB P (st d)) (M3.1 12))
  have ok3 : ∀ j, j < 13 → okw (M3.1 12 j) := fun j hj => by
    rw [b4 j hj]
    cases (tw P (hB P (st d))).2.testBit j
    · exact Or.inl rfl
    · exact Or.inr (Or.inl rfl)
  obtain ⟨V, c1, c2, w⟩ := whose_s hfu V3.1.1 b3 rfl ok3 cp
  have w' : f4_whose fu (2 : Int32) M3 = _ := w
  have e4 : (sI M3 28 6 (nI V)).1 12 = M3.1 12 := g2 (by omega)
  obtain ⟨M4, d1, d2⟩ := l2124 (L := L) (xs := xs) (x5 := nI (2 ^ P.1 - 1)) (x7 := x7) (x8 := st d 0) (x9 := nI (hB P (st d))) (x10 := nI (lB P (st d))) (x11 := x11) (x15 := x15) hfu 5 0 fu (cnt (2 ^ P.1) (whg P (wB P (st d)) (M3.1 12))) (sI M3 28 6 (nI V)) (by omega) (by omega) (V3.1.1.s28 6 _) (by rw [g2 (by omega)]; exact b3) (fun j hj => by rw [e4]; exact ok3 j hj) (by rw [e4]) cp
  refine ⟨M4, ?_, (V3.s28 6 _).fv d2⟩
  have VH := c2 (hB P (st d)) wH
  have eb : nI (2 ^ P.1 - 1) + (1 : Int32) = nI (2 ^ P.1) := by
    rw [ad1]
    congr 1
    omega
  refine (show _ = _ from a1).trans ?_
  rw [bz, bS]
  dsimp only
  rw [ro', bS]
  dsimp only
  rw [if_pos (show nI 13 = (13 : Int32) from rfl)]
  refine (show _ = _ from b1).trans ?_
  rw [f9_law_2055]
  dsimp only
  rw [if_pos (show (13 : Int32) ≤ nI 13 from Int32.le_refl _), w', bS]
  dsimp only
  rw [if_neg (show ¬ nI (cnt (2 ^ P.1) (whg P (wB P (st d)) (M3.1 12))) < (1 : Int32) from lt_f (b := 1) (by omega) (by omega) (by omega)), eb, if_neg (lt_f (by omega) (by omega) (by omega)), asked1, bS, if_pos (le_t (by omega) (by omega) VH)]
  exact d1
end WD43
