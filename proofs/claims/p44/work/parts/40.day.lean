/-! 40: the best day -/
section DA40
variable {P : PD} {s : Nat → Int32} {M : Mem} {fu k d c : Nat} {st : Nat → Nat → Int32}
variable {L e f : Nat} {xs : Nat → Int32} {x5 x6 x7 x8 x9 x10 x11 x12 x13 x14 x15 x17 : Int32}
theorem getD_at {l1 l2 : List Nat} {q : Nat} : (l1 ++ q :: l2).getD l1.length 0 = q := by simp
theorem tB_or {s : Nat → Int32} (hg : gst P.1 s) : hB P s ||| lB P s = tB P s := by
  apply Nat.eq_of_testBit_eq
  intro z
  by_cases cz : z < P.1
  · rw [Nat.testBit_or, msk_tbk cz, msk_tbk cz, msk_tbk cz]
    rcases gst_3 hg cz with ⟨e, a⟩ | ⟨e, a⟩ | ⟨p, hp, e, a⟩
    · rw [e, a]; rfl
    · rw [e, a]; rfl
    · rw [e, a]
      have : ¬ nI p = -nI 2 := of_eq_false (np10 hp).2
      simp [this]
  · rw [tb_ge (Nat.or_lt_two_pow (msk_lt _ _) (msk_lt _ _)) (show P.1 ≤ z by omega), tb_ge (msk_lt _ _) (show P.1 ≤ z by omega)]
theorem l1377 {B : Nat} (hfu : 10000 ≤ fu) (h : St P s M) (hD : bD P (tB P s) B) (hR : RwL 5 (oL P B 13) M) : ∀ (l2 l1 : List Nat) (f : Nat) (v : Int32), oL P B 13 = l1 ++ l2 → l2.length < f → ∃ v', f9_law_1377 L xs fu f (nI P.1) x5 x7 x8 x9 x10 x11 (zI (mx P (tB P s))) (nI B) (zI (zN P l1)) (nI (uN P l1)) (nI l1.length) (sI M 28 6 v) = f9_law_1500 L xs fu fu (nI P.1) x5 x7 x8 x9 x10 x11 (zI (mx P (tB P s))) (nI B) (nI (uN P (oL P B 13))) (0 : Int32) (sI M 28 6 v') := by
  have hP := h.1
  have h8 := hP.1
  have h256 := pow8 h8
  have hok : ∀ k, k < P.1 → okP P k := fun k hk => (hP.2.2.2.1 k hk).1
  have hT : tB P s < 2 ^ P.1 := msk_lt _ _
  have hBl : B < 2 ^ P.1 := sub_lt hT hD.1
  have hlen := oL_n h8 hok hBl
  have hp8 := pcn_le (S := B) (by omega)
  have mB := many_s (fu := fu) (S := B) hfu (by omega)
  intro l2
  induction l2 with
  | nil =>
    intro l1 f v hl hf
    rcases f with _ | f
    · simp at hf
    rw [List.append_nil] at hl
    rw [← hl, oL_sum h8 hok hBl, hD.2.2.1, hlen]
    refine ⟨v, ?_⟩
    rw [f9_law_1377]
    dsimp only
    rw [mB, bS, if_pos (Int32.le_refl _), if_pos rfl]
  | cons q l2 ih =>
    intro l1 f v hl hf
    rcases f with _ | f
    · simp at hf
    have hlt : l1.length < (oL P B 13).length := by rw [hl]; simp
    have hq : q ∈ oL P B 13 := by rw [hl]; simp
    obtain ⟨q1, q2, q3⟩ := (oL_mem P B 13 q).mp hq
    have pw := oL_pw P B 13
    rw [hl, List.pairwise_append] at pw
    have dis : ∀ a, a ∈ l1 → hm P a < 2 ^ hr P q := fun a ha => by
      have am : a ∈ oL P B 13 := by rw [hl]; simp [ha]
      obtain ⟨a1, a2, a3⟩ := (oL_mem P B 13 a).mp am
      obtain ⟨c1, c2⟩ := pw.2.2 a ha q (by simp)
      have := hm_dis (hok a a1) (hok q q1) (apt_pair h8 hBl hD.2.1 a2 q2 c2) c1
      exact Nat.lt_of_lt_of_le hm_top (pow_le this)
    have hU := uN_lt (P := P) dis
    have hb := hm_bot (hok q q1)
    have hl8 := hm_lt (hok q q1)
    have and0 : hm P q &&& uN P l1 = 0 := by
      apply Nat.eq_of_testBit_eq
      intro z
      rw [Nat.testBit_and, hm_tb, Nat.zero_testBit]
      by_cases c : hr P q ≤ z
      · rw [tb_ge hU c, Bool.and_false]
      · simp [c]
    have hA : ∀ v, f4_at (5 : Int32) (nI l1.length) (sI M 28 6 v) = some (sI M 28 6 (nI q), nI 1) := fun v => by
      have := at_s (M := sI M 28 6 v) (r := 5) (i := l1.length) (k := (oL P B 13).length) (by omega) (by rw [g2 (by omega)]; exact hR.1) (by omega) hlt
      rw [s28_28, g2 (by omega), hR.2 _ hlt, hl, getD_at] at this
      exact this
    have p2 : ∀ v, f4_pin (nI q) (2 : Int32) (sI M 28 6 v) = some (sI M 28 6 (nI (hm P q)), nI 1) := pinE h q1 (w := 2) (by omega) rfl
    have p5 : ∀ v, f4_pin (nI q) (5 : Int32) (sI M 28 6 v) = some (sI M 28 6 (zI (wz P q)), nI 1) := pinE h q1 (w := 5) (by omega) rfl
    have hq31 : q < 31 := by omega
    obtain ⟨v', r⟩ := ih (l1 ++ [q]) f (zI (wz P q)) (by rw [hl]; simp) (by simp at hf; omega)
    refine ⟨v', ?_⟩
    rw [f9_law_1377]
    dsimp only
    rw [mB, bS, if_neg (le_f (by omega) (by omega) (by omega)), hA, bS]
    dsimp only
    rw [if_pos (show nI 1 = (1 : Int32) from rfl), asked1, bS, p2, bS]
    dsimp only
    rw [told1, bS, if_neg (show ¬ nI q < (0 : Int32) from lt_f (b := 0) (by omega) (by omega) (by omega)), if_neg (le_f (by omega) (by omega) (by omega)), if_pos (bT1 q2 hq31 (by omega)), if_neg (le_f (by omega) (by omega) (by omega)), iand, and0, if_pos (show nI 0 = (0 : Int32) from rfl), nm_u, p5, bS]
    dsimp only
    rw [told1, bS, nm_u, nm_u, zadd, ior, ad1]
    rw [uN_app, zN_app, List.length_append] at r
    exact r
theorem l1500 {B : Nat} (h : St P s M) (hD : bD P (tB P s) B) : ∀ (e i f : Nat) (v : Int32), i + e = P.1 → e < f → ∃ v', f9_law_1500 L xs fu f (nI P.1) x5 x7 x8 (nI (hB P s)) (nI (lB P s)) x11 (zI (mx P (tB P s))) (nI B) (nI (uN P (oL P B 13))) (nI i) (sI M 28 6 v) = f9_law_1630 L xs fu fu (nI P.1) x5 x7 x8 (nI (hB P s)) (nI (lB P s)) x11 (zI (mx P (tB P s))) (-1 : Int32) (0 : Int32) (sI M 28 6 v') := by
  have hP := h.1
  have h8 := hP.1
  have h256 := pow8 h8
  have hok : ∀ k, k < P.1 → okP P k := fun k hk => (hP.2.2.2.1 k hk).1
  have hT : tB P s < 2 ^ P.1 := msk_lt _ _
  have hBl : B < 2 ^ P.1 := sub_lt hT hD.1
  have bH := hB_lt (P := P) (s := s) h8
  have bL := lB_lt (P := P) (s := s) h8
  have bM := mx_bdr h8 hok hT
  intro e
  induction e with
  | zero =>
    intro i f v hi hf
    rcases f with _ | f
    · omega
    have : i = P.1 := by omega
    subst this
    refine ⟨v, ?_⟩
    rw [f9_law_1500]
    dsimp only
    rw [if_pos (Int32.le_refl _)]
  | succ e ih =>
    intro i f v hi hf
    rcases f with _ | f
    · omega
    have hi1 : i < P.1 := by omega
    have p2 : ∀ v, f4_pin (nI i) (2 : Int32) (sI M 28 6 v) = some (sI M 28 6 (nI (hm P i)), nI 1) := pinE h hi1 (w := 2) (by omega) rfl
    have p5 : ∀ v, f4_pin (nI i) (5 : Int32) (sI M 28 6 v) = some (sI M 28 6 (zI (wz P i)), nI 1) := pinE h hi1 (w := 5) (by omega) rfl
    have bw : -160 ≤ wz P i ∧ wz P i ≤ 480 := by
      have := sm_bd h8 hok (p2_lt hi1)
      rw [sm_one h8 hi1] at this
      exact this
    obtain ⟨v', r⟩ := ih (i + 1) f (zI (wz P i)) (by omega) (by omega)
    refine ⟨v', ?_⟩
    have l1599 : f9_law_1599 L xs fu (f9_law_1500 L xs fu f) (nI P.1) x5 x7 x8 (nI (hB P s)) (nI (lB P s)) x11 (zI (mx P (tB P s))) (nI B) (nI (uN P (oL P B 13))) (nI i) (zI (wz P i)) (sI M 28 6 (zI (wz P i))) = f9_law_1630 L xs fu fu (nI P.1) x5 x7 x8 (nI (hB P s)) (nI (lB P s)) x11 (zI (mx P (tB P s))) (-1 : Int32) (0 : Int32) (sI M 28 6 v') := by
      unfold f9_law_1599
      cases b : B.testBit i
      · rw [if_neg (bF1 b (by omega) (by omega)), nm_u, ad1]
        exact r
      · have w1 := bD_3 h8 hT hD b
        rw [if_pos (bT1 b (by omega) (by omega)), if_pos (show (1 : Int32) ≤ zI (wz P i) by
          show zI 1 ≤ zI (wz P i)
          rw [zle (by omega) (by omega) (by omega) (by omega)]; exact w1), nm_u, ad1]
        exact r
    have l1534 : ∀ b : Int32, (¬ b = 0 → (tB P s).testBit i = true) → f9_law_1534 L xs fu (f9_law_1500 L xs fu f) (nI P.1) x5 x7 x8 (nI (hB P s)) (nI (lB P s)) x11 (zI (mx P (tB P s))) (nI B) (nI (uN P (oL P B 13))) (nI i) b (sI M 28 6 v) = f9_law_1630 L xs fu fu (nI P.1) x5 x7 x8 (nI (hB P s)) (nI (lB P s)) x11 (zI (mx P (tB P s))) (-1 : Int32) (0 : Int32) (sI M 28 6 v') := by
      intro b hb
      unfold f9_law_1534
      rw [p2, bS]
      dsimp only
      rw [told1, bS, p5, bS]
      dsimp only
      rw [told1, bS]
      by_cases b0 : b = 0
      · rw [if_pos b0]
        exact l1599
      · have tb := hb b0
        have w1 := bD_1 (P := P) h8 hT tb hi1
        rw [if_neg b0, if_neg (show ¬ zI (mx P (tB P s)) < zI (wz P i) by
          rw [zlt (by omega) (by omega) (by omega) (by omega)]; omega)]
        cases bb : B.testBit i
        · rw [if_pos (bF0 bb (by omega) (by omega)), iand]
          by_cases a0 : hm P i &&& uN P (oL P B 13) = 0
          · have w2 := bD_2 h8 hT hD tb hi1 bb (fun j hj => by
              have jm : j < P.1 := by
                apply Decidable.byContradiction
                intro q
                rw [tb_ge hBl (by omega)] at hj
                cases hj
              have := (hok j jm).2.2.1
              have := uN_in (P := P) ((oL_mem P B 13 j).mpr ⟨jm, hj, by omega⟩)
              rw [← this, Nat.and_assoc, Nat.and_comm (uN P _) (hm P i), a0, Nat.and_zero])
            rw [a0, if_pos (show nI 0 = (0 : Int32) from rfl), if_pos (show zI (wz P i) ≤ (0 : Int32) by
              show zI (wz P i) ≤ nI 0
              rw [zle0 (by omega) (by omega)]; exact w2)]
            exact l1599
          · rw [if_neg (ne_0 (Nat.lt_of_le_of_lt Nat.and_le_left (Nat.lt_trans (hm_lt (hok i hi1)) (by decide))) a0)]
            exact l1599
        · rw [if_neg (bT0 bb (by omega) (by omega))]
          exact l1599
    rw [f9_law_1500]
    dsimp only
    rw [if_neg (le_f (by omega) (by omega) (by omega))]
    have tS : (tB P s).testBit i = ((hB P s).testBit i || (lB P s).testBit i) := by rw [← tB_or h.2.1, Nat.testBit_or]
    cases bh : (hB P s).testBit i
    · rw [if_neg (bF1 bh (by omega) (by omega))]
      cases bl : (lB P s).testBit i
      · rw [if_neg (bF1 bl (by omega) (by omega))]
        exact l1534 0 (fun q => absurd rfl q)
      · rw [if_pos (bT1 bl (by omega) (by omega))]
        exact l1534 1 (fun _ => by rw [tS, bl]; simp)
    · rw [if_pos (bT1 bh (by omega) (by omega))]
      exact l1534 1 (fun _ => by rw [tS, bh]; rfl)
theorem l1320 (hfu : 10000 ≤ fu) (hV : KV P d st M) : ∃ M', f9_law_1320 L xs fu (nI P.1) x5 x7 x8 (nI (hB P (st d))) (nI (lB P (st d))) x11 M = f9_law_1630 L xs fu fu (nI P.1) x5 x7 x8 (nI (hB P (st d))) (nI (lB P (st d))) x11 (zI (mx P (tB P (st d)))) (-1 : Int32) (0 : Int32) M' ∧ KV P d st M' := by
  have h := hV.1.1
  have hP := h.1
  have h8 := hP.1
  have h256 := pow8 h8
  have hok : ∀ k, k < P.1 → okP P k := fun k hk => (hP.2.2.2.1 k hk).1
  have hT : tB P (st d) < 2 ^ P.1 := msk_lt _ _
  have bM := mx_bdr h8 hok hT
  obtain ⟨M1, a1, a2, a3, a4, -⟩ := best_s hfu h
  have a1' : f4_best fu (5 : Int32) M = some (M1, zI (mx P (tB P (st d)))) := a1
  have hD := bst_bD (P := P) (T := tB P (st d))
  generalize bst P (tB P (st d)) 256 = B at *
  have hBl : B < 2 ^ P.1 := sub_lt hT hD.1
  have hlen := oL_n h8 hok hBl
  have hp8 := pcn_le (S := B) (by omega)
  have V1 : KV P d st M1 := hV.fv (fun q hq => a4 q (by omega) (by omega) (by omega))
  have mB := many_s (fu := fu) (S := B) hfu (by omega)
  have as : f4_asked M1 = some (nI B) := by
    unfold f4_asked
    rw [a2]
  have an : (nI B &&& ((nI (hB P (st d)) ||| nI (lB P (st d))) ^^^ (-1 : Int32))) = (0 : Int32) := by
    rw [ior, tB_or h.2.1]
    show nI B &&& (nI (tB P (st d)) ^^^ -nI 1) = nI 0
    rw [andnot, hD.1, Nat.xor_self]
  have ao : f4_at (5 : Int32) (nI (pcn B)) M1 = some (sI (sI M1 28 5 (nI 2)) 32 2 (M1.1 32 2 + nI 1), -nI 3) := at_out (r := 5) (by omega) a3.1 (by omega) (by omega) (by omega)
  have V2 : KV P d st (sI (sI M1 28 5 (nI 2)) 32 2 (M1.1 32 2 + nI 1)) := V1.fv (fun q hq => by rw [g2 (by omega), g2 (by omega)])
  have R2 : RwL 5 (oL P B 13) (sI (sI M1 28 5 (nI 2)) 32 2 (M1.1 32 2 + nI 1)) := by
    obtain ⟨r1, r2⟩ := a3
    exact ⟨by rw [g2 (by omega), g2 (by omega)]; exact r1, fun i hi => by rw [g2 (by omega), g2 (by omega)]; exact r2 i hi⟩
  generalize sI (sI M1 28 5 (nI 2)) 32 2 (M1.1 32 2 + nI 1) = M2 at *
  obtain ⟨v1, b1⟩ := l1377 (L := L) (xs := xs) (x5 := x5) (x7 := x7) (x8 := x8) (x9 := nI (hB P (st d))) (x10 := nI (lB P (st d))) (x11 := x11) hfu V2.1.1 hD R2 (oL P B 13) [] fu (M2.1 28 6) rfl (by omega)
  rw [s28_id] at b1
  obtain ⟨v2, b2⟩ := l1500 (L := L) (xs := xs) (fu := fu) (x5 := x5) (x7 := x7) (x8 := x8) (x11 := x11) V2.1.1 hD P.1 0 fu v1 (by omega) (by omega)
  refine ⟨sI M2 28 6 v2, ?_, V2.s28 6 v2⟩
  unfold f9_law_1320
  rw [a1', bS]
  dsimp only
  rw [as, bS, if_neg (show ¬ zI (mx P (tB P (st d))) < (0 : Int32) by
    show ¬ zI (mx P (tB P (st d))) < zI 0
    rw [zlt (by omega) (by omega) (by omega) (by omega)]; omega), if_pos an, mB, bS, ao, bS]
  dsimp only
  rw [if_pos (show -nI 3 = (-3 : Int32) from rfl)]
  exact b1.trans b2
end DA40
