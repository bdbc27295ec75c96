/-! 38: behind the turns: kept, the clashes, the fewest to drop -/
def KV (P : PD) (d : Nat) (st : Nat → Nat → Int32) (M : Mem) : Prop := Iv P d st M ∧ d ≤ 23 ∧ M.1 20 0 = nI 0 ∧ Hist P (M.1 24) 0 (fun _ => s0P P) ∧ M.1 21 0 = nI d ∧ Hist P (M.1 25) d st ∧ M.1 22 0 = -nI 1 ∧ Zf P M
def FV (M M' : Mem) : Prop := ∀ q, (20 ≤ q ∧ q ≤ 27) ∨ (33 ≤ q ∧ q ≤ 47) → M'.1 q = M.1 q
theorem FV.rf {M : Mem} : FV M M := fun _ _ => rfl
theorem FV.tr {M M1 M2 : Mem} (a : FV M M1) (b : FV M1 M2) : FV M M2 := fun q hq => by rw [b q hq, a q hq]
theorem FV.s28 {M : Mem} (i : Nat) (v : Int32) : FV M (sI M 28 i v) := fun q hq => g2 (by omega)
section DR38
variable {P : PD} {s : Nat → Int32} {M : Mem} {fu k d c : Nat} {st : Nat → Nat → Int32}
variable {L e f : Nat} {xs : Nat → Int32} {x5 x6 x7 x8 x9 x10 x11 x12 x13 x14 x15 x17 : Int32}
theorem KV.fv {M' : Mem} (h : KV P d st M) (a : FV M M') : KV P d st M' := by
  obtain ⟨b1, b0, b2, b3, b4, b5, b6, b7⟩ := h
  exact ⟨b1.cg (fun q hq => a q (by omega)), b0, by rw [a 20 (by omega)]; exact b2, by rw [a 24 (by omega)]; exact b3, by rw [a 21 (by omega)]; exact b4, by rw [a 25 (by omega)]; exact b5, by rw [a 22 (by omega)]; exact b6, b7.cg (a 47 (by omega))⟩
theorem KV.s28 (h : KV P d st M) (i : Nat) (v : Int32) : KV P d st (sI M 28 i v) := h.fv (FV.s28 i v)
theorem drops {V H d0 : Nat} {M0 : Mem} (hfu : 10000 ≤ fu) (h8 : P.1 ≤ 8) (hV : V < 2 ^ P.1) (hVH : V &&& H = V) (hd0 : d0 ≤ 23) : ∀ (e i f d' : Nat) (st' : Nat → Nat → Int32) (M : Mem), i + e = P.1 → e < f → Iv P d' st' M → d' ≤ d0 + i → (∀ k, k < P.1 → (st' d' (k + 1) = -nI 1 ↔ (H.testBit k = true ∧ ¬ (k < i ∧ V.testBit k = true)))) → KF M0 M → ∃ M' d'' st'' g, f9_law_1259 L xs fu f (nI P.1) x5 x7 x8 x9 x10 x11 (nI V) (nI i) M = f9_law_1259 L xs fu (g + 1) (nI P.1) x5 x7 x8 x9 x10 x11 (nI V) (nI P.1) M' ∧ Iv P d'' st'' M' ∧ (∀ k, k < P.1 → (st'' d'' (k + 1) = -nI 1 ↔ (H.testBit k = true ∧ ¬ V.testBit k = true))) ∧ KF M0 M' := by
  have h256 := pow8 h8
  intro e
  induction e with
  | zero =>
    intro i f d' st' M hi hf hI hd hS hF
    rcases f with _ | f
    · omega
    have : i = P.1 := by omega
    subst this
    refine ⟨M, d', st', f, rfl, hI, fun k hk => ?_, hF⟩
    rw [hS k hk]
    exact ⟨fun q => ⟨q.1, fun r => q.2 ⟨hk, r⟩⟩, fun q => ⟨q.1, fun r => q.2 r.2⟩⟩
  | succ e ih =>
    intro i f d' st' M hi hf hI hd hS hF
    rcases f with _ | f
    · omega
    rw [f9_law_1259]
    dsimp only
    rw [if_neg (le_f (by omega) (by omega) (by omega))]
    cases b : V.testBit i
    · obtain ⟨M', d'', st'', g, a1, a2, a3, a4⟩ := ih (i + 1) f d' st' M (by omega) (by omega) hI (by omega) (fun k hk => by
        rw [hS k hk]
        constructor
        · rintro ⟨q1, q2⟩
          refine ⟨q1, fun r => ?_⟩
          by_cases c : k = i
          · rw [c, b] at r; cases r.2
          · exact q2 ⟨by omega, r.2⟩
        · rintro ⟨q1, q2⟩
          exact ⟨q1, fun r => q2 ⟨by omega, r.2⟩⟩) hF
      refine ⟨M', d'', st'', g, ?_, a2, a3, a4⟩
      rw [if_neg (bF1 b (by omega) (by omega)), nm_u, ad1]
      exact a1
    · have hb := sub_tb hVH b
      have e1 : st' d' (i + 1) = -nI 1 := (hS i (by omega)).mpr ⟨hb, fun r => by omega⟩
      obtain ⟨M1, s1, s2, s3⟩ := drop_s hfu hI (by omega) (show i < P.1 by omega) e1
      obtain ⟨p, hp, e0, -⟩ := hI.1.h0
      have bH := hB_lt (P := P) (s := ap (nI (16 + i)) (st' d')) h8
      have hp8 := pcn_le bH
      obtain ⟨M', d'', st'', g, a1, a2, a3, a4⟩ := ih (i + 1) f (d' + 1) (stx st' d' (nI (16 + i))) M1 (by omega) (by omega) s2 (by omega) (fun k hk => by
        rw [stx_n, ap_16 (by omega) (by omega)]
        by_cases c : k = i
        · subst c
          rw [if_pos (by omega), e0]
          exact ⟨fun q => absurd q (nI_nm1 (by omega)), fun q => absurd ⟨by omega, b⟩ q.2⟩
        · rw [if_neg (by omega), hS k hk]
          constructor
          · rintro ⟨q1, q2⟩
            exact ⟨q1, fun r => q2 ⟨by omega, r.2⟩⟩
          · rintro ⟨q1, q2⟩
            exact ⟨q1, fun r => q2 ⟨by omega, r.2⟩⟩) (hF.tr (KF.fd s3))
      refine ⟨M', d'', st'', g, ?_, a2, a3, a4⟩
      rw [if_pos (bT1 b (by omega) (by omega)), s1, bS]
      dsimp only
      rw [if_pos (show (0 : Int32) ≤ nI (pcn (hB P (ap (nI (16 + i)) (st' d')))) from le_t (a := 0) (by omega) (by omega) (by omega)), nm_u, ad1]
      exact a1
theorem l69_end {N g : Nat} (hfu : 10000 ≤ fu) (hd : d ≤ 23) (hJ : JV P d st M) : ∃ M', f9_law_69 L xs fu (g + 1) (nI P.1) x5 (nI N) (nI N) M = f9_law_1320 L xs fu (nI P.1) x5 (nI d) (st d 0) (nI (hB P (st d))) (nI (lB P (st d))) (nI (wB P (st d))) M' ∧ KV P d st M' := by
  obtain ⟨hI, j2, j3, j4, j5, j6⟩ := hJ
  have h8 := hI.1.1.1
  have h256 := pow8 h8
  have hn := hI.1.2.2.2
  have bH := hB_lt (P := P) (s := st d) h8
  have hlt : hB P (st d) < 2 ^ P.1 := msk_lt _ _
  have c1 : f4_count M fu (1 : Int32) = some (st d 0) := ct1 hI.1
  have c2 : f4_count M fu (2 : Int32) = some (nI d) := by
    have := ct2 (M := M) (fu := fu)
    rw [hI.2.2.1] at this
    exact this
  have c3 : f4_count M fu (3 : Int32) = some (nI (hB P (st d))) := ct3 hI.1
  have c4 : f4_count M fu (4 : Int32) = some (nI (lB P (st d))) := ct4 hI.1
  have c5 : f4_count M fu (5 : Int32) = some (nI (wB P (st d))) := ct5 hI.1
  obtain ⟨M1, k1, k2, k3, k4, -⟩ := keep_s (j := 1) hfu hI (by omega)
  have k1' : f4_keep fu (1 : Int32) M = some (M1, nI d) := k1
  have V1 : KV P d st M1 := ⟨hI.cg (fun q hq => k4 q (by omega) (by omega)), hd, by rw [k4 20 (by omega) (by omega)]; exact j2, by rw [k4 24 (by omega) (by omega)]; exact j3, k2, k3, by rw [k4 22 (by omega) (by omega)]; exact j5, j6.cg (k4 47 (by omega) (by omega))⟩
  have cl := clashes_s hfu V1.1.1
  have V2 := V1.s28 6 (zI (sm P (hB P (st d))))
  obtain ⟨V, v1, ls⟩ := least_s hfu V2.1.1
  rw [s28_28] at ls
  have V3 := V1.s28 6 (nI V)
  have hV : V < 2 ^ P.1 := sub_lt hlt v1.1
  have hpv := pcn_le (S := V) (by omega)
  have mV := many_s (fu := fu) (S := V) hfu (by omega)
  have hle := ls_le h8 hlt v1
  have h0 := ls_0 h8 hlt v1
  have bp := prs_le P (hB P (st d)) P.1 h8
  have an : (nI V &&& (nI (hB P (st d)) ^^^ (-1 : Int32))) = (0 : Int32) := by
    show nI V &&& (nI (hB P (st d)) ^^^ -nI 1) = nI 0
    rw [andnot, v1.1, Nat.xor_self]
  obtain ⟨M4, d4, st4, g4, q1, q2, q3, q4⟩ := drops (L := L) (xs := xs) (x5 := x5) (x7 := nI d) (x8 := st d 0) (x9 := nI (hB P (st d))) (x10 := nI (lB P (st d))) (x11 := nI (wB P (st d))) (M0 := sI M1 28 6 (nI V)) hfu h8 hV v1.1 hd P.1 0 fu d st (sI M1 28 6 (nI V)) (by omega) (by omega) V3.1 (by omega) (fun k hk => by
    rw [msk_tbk hk]
    simp) KF.rf
  have hB4 : hB P (st4 d4) = hB P (st d) ^^^ (hB P (st d) &&& V) := by
    apply Nat.eq_of_testBit_eq
    intro z
    by_cases cz : z < P.1
    · rw [msk_tbk cz, xa_tb]
      have := q3 z cz
      cases bz : V.testBit z
      · rw [bz] at this
        cases by' : (hB P (st d)).testBit z
        · rw [by'] at this; simp at this; simp [this]
        · rw [by'] at this; simp at this; simp [this]
      · rw [bz] at this; simp at this; simp [this]
    · rw [tb_ge (msk_lt _ _) (by omega), tb_ge (xa_lt hlt) (by omega)]
  have ap4 : apt P (hB P (st4 d4)) = true := by rw [hB4]; exact v1.2.1
  have lt4 : hB P (st4 d4) < 2 ^ P.1 := msk_lt _ _
  have cl4 := clashes_s hfu q2.1
  rw [(apt_prs h8 lt4).mp ap4] at cl4
  obtain ⟨V5, w1, ls5⟩ := least_s hfu (q2.s28 6 (zI (sm P (hB P (st4 d4))))).1
  rw [s28_28, ls_apt lt4 h8 ap4 w1] at ls5
  have I5 := q2.s28 6 (nI V5)
  have K5 : KF (sI M1 28 6 (nI V)) (sI M4 28 6 (nI V5)) := q4.tr (KF.s28 6 _)
  obtain ⟨M6, o1, o2, o3, -⟩ := on_s (j := 1) (d' := d) (st' := st) hfu I5 (by omega) hI.2.1 (by rw [K5 _ (by omega)]; exact V3.2.2.2.2.1) (by rw [K5 _ (by omega)]; exact V3.2.2.2.2.2.1)
  have o1' : f4_on fu (1 : Int32) (sI M4 28 6 (nI V5)) = some (M6, nI d) := o1
  have K6 : KF (sI M1 28 6 (nI V)) M6 := K5.tr (fun q hq => o3 q (by omega) (by omega) (by omega) (by omega))
  have V6 : KV P d st M6 := ⟨o2, hd, by rw [K6 _ (by omega)]; exact V3.2.2.1, by rw [K6 _ (by omega)]; exact V3.2.2.2.1, by rw [K6 _ (by omega)]; exact V3.2.2.2.2.1, by rw [K6 _ (by omega)]; exact V3.2.2.2.2.2.1, by rw [K6 _ (by omega)]; exact V3.2.2.2.2.2.2.1, V3.2.2.2.2.2.2.2.cg (K6 _ (by omega))⟩
  refine ⟨M6, ?_, V6⟩
  have l1259 : f9_law_1259 L xs fu fu (nI P.1) x5 (nI d) (st d 0) (nI (hB P (st d))) (nI (lB P (st d))) (nI (wB P (st d))) (nI V) (0 : Int32) (sI M1 28 6 (nI V)) = f9_law_1320 L xs fu (nI P.1) x5 (nI d) (st d 0) (nI (hB P (st d))) (nI (lB P (st d))) (nI (wB P (st d))) M6 := by
    refine (show _ = _ from q1).trans ?_
    rw [f9_law_1259]
    dsimp only
    rw [if_pos (Int32.le_refl _), cl4, bS]
    dsimp only
    rw [if_pos (show nI 0 = (0 : Int32) from rfl), ls5, bS]
    dsimp only
    rw [if_pos (show nI 0 = (0 : Int32) from rfl), o1', bS]
    dsimp only
    rw [if_pos rfl]
  have l1234 : ∀ b : Int32, f9_law_1234 L xs fu (nI P.1) x5 (nI d) (st d 0) (nI (hB P (st d))) (nI (lB P (st d))) (nI (wB P (st d))) (nI (prs P (hB P (st d)) P.1)) (nI (pcn V)) (nI V) b b (sI M1 28 6 (nI V)) = f9_law_1320 L xs fu (nI P.1) x5 (nI d) (st d 0) (nI (hB P (st d))) (nI (lB P (st d))) (nI (wB P (st d))) M6 := by
    intro b
    unfold f9_law_1234
    rw [if_pos rfl, if_pos (le_t (by omega) (by omega) hle), nI_add, if_neg (show ¬ (41 : Int32) ≤ nI (d + pcn V) from le_f (a := 41) (by omega) (by omega) (by omega))]
    exact l1259
  rw [f9_law_69]
  dsimp only
  rw [if_pos (Int32.le_refl _), c2, bS, c1, bS, c3, bS, c4, bS, c5, bS, k1', bS]
  dsimp only
  rw [if_pos rfl, cl, bS]
  dsimp only
  rw [ls, bS]
  dsimp only
  rw [asked1, bS, if_neg (show ¬ nI (pcn V) < (0 : Int32) from lt_f (b := 0) (by omega) (by omega) (by omega)), mV, bS, if_pos rfl, if_pos an]
  by_cases z : pcn V = 0
  · have z2 := h0.mp z
    rw [if_pos (show nI (pcn V) = (0 : Int32) by rw [z]; rfl), if_pos (show nI (prs P (hB P (st d)) P.1) = (0 : Int32) by rw [z2]; rfl)]
    exact l1234 1
  · have z2 : prs P (hB P (st d)) P.1 ≠ 0 := fun q => z (h0.mpr q)
    rw [if_neg (ne_0 (by omega) z), if_neg (ne_0 (by omega) z2)]
    exact l1234 0
end DR38
