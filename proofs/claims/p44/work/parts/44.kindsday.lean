/-! 44: what it could have been; two who pick by turns -/
section KD44
variable {P : PD} {s : Nat → Int32} {M : Mem} {fu k d c N V T E D p U : Nat} {st : Nat → Nat → Int32}
variable {L e f : Nat} {xs : Nat → Int32} {x5 x6 x7 x8 x9 x10 x11 x12 x13 x14 x15 x17 : Int32}
theorem l2172_loop (hL : L ≤ 260) (hfu : 10000 ≤ fu) : ∀ (e i f : Nat) (M : Mem), i + e = P.1 → e < f → KV P d st M → ∃ M' g, f9_law_2172 L xs fu f (nI P.1) x5 x7 x8 x9 x10 x11 x15 (nI i) M = f9_law_2172 L xs fu (g + 1) (nI P.1) x5 x7 x8 x9 x10 x11 x15 (nI P.1) M' ∧ KV P d st M' := by
  intro e
  induction e with
  | zero =>
    intro i f M hi hf hV
    rcases f with _ | f
    · omega
    have : i = P.1 := by omega
    subst this
    exact ⟨M, f, rfl, hV⟩
  | succ e ih =>
    intro i f M hi hf hV
    rcases f with _ | f
    · omega
    have h := hV.1.1
    have hP := h.1
    have h8 := hP.1
    have hi1 : i < P.1 := by omega
    have hok := (hP.2.2.2.1 i hi1).1
    have hkd : kd P i < 6 := hok.1
    obtain ⟨x, hx⟩ := cell_s (xs := xs) hL (k := 40 + i % 3) (by omega)
    have ea : (40 : Int32) + nI (i % 3) = nI (40 + i % 3) := nI_add 40 (i % 3)
    have rm : rmI (nI i) (3 : Int32) = some (nI (i % 3)) := rmN (n := 3) (by omega) (by omega) (by omega)
    obtain ⟨l, hl, pl⟩ := part_s x (n := 10) (by omega) (by omega)
    have pl' : f9_part x (10 : Int32) = some (nI l) := pl
    have wo := worth_s h hi1 hl
    obtain ⟨z1, z2⟩ := wv_bd hok hl hkd
    have kbit : (kdS P i l (wv P (kd P i) i l)).testBit (kd P i) = true := by
      unfold kdS
      rw [msk_tbk hkd, wvI_z hkd l (kd P i) hkd]
      simp
    generalize hz : wv P (kd P i) i l = z at *
    have V1 := hV.s28 6 (zI z)
    have ro : f4_row fu (3 : Int32) (2 : Int32) (sI M 28 6 (zI z)) = _ := row_s (r := 3) (n := 2) hfu (by omega) (by omega)
    have V2 : KV P d st (sF (sI (sI M 28 6 (zI z)) 3 0 (nI 2)) (3 + 10) (fun j => if j < 2 then nI 0 else (sI M 28 6 (zI z)).1 (3 + 10) j)) := V1.fv (fun q hq => by rw [sF_q (by omega), g2 (by omega)])
    have r0 : (sF (sI (sI M 28 6 (zI z)) 3 0 (nI 2)) (3 + 10) (fun j => if j < 2 then nI 0 else (sI M 28 6 (zI z)).1 (3 + 10) j)).1 3 0 = nI 2 := by rw [sF_q (by omega), g1]
    generalize sF (sI (sI M 28 6 (zI z)) 3 0 (nI 2)) (3 + 10) (fun j => if j < 2 then nI 0 else (sI M 28 6 (zI z)).1 (3 + 10) j) = M2 at *
    have la0 : f4_lay (3 : Int32) (0 : Int32) (nI l) M2 = _ := lay_s (r := 3) (i := 0) (by omega) r0 (by omega) (by omega)
    have V3 : KV P d st (sI (sI M2 28 6 (M2.1 (3 + 10) 0)) (3 + 10) 0 (nI l)) := V2.fv (fv_lay 0 _ _ (by omega))
    have r3 : (sI (sI M2 28 6 (M2.1 (3 + 10) 0)) (3 + 10) 0 (nI l)).1 3 0 = nI 2 := by rw [g2 (by omega), g2 (by omega)]; exact r0
    have r30 : (sI (sI M2 28 6 (M2.1 (3 + 10) 0)) (3 + 10) 0 (nI l)).1 13 0 = nI l := g1
    generalize sI (sI M2 28 6 (M2.1 (3 + 10) 0)) (3 + 10) 0 (nI l) = M3 at *
    have la1 : f4_lay (3 : Int32) (1 : Int32) (zI z) M3 = _ := lay_s (r := 3) (i := 1) (by omega) r3 (by omega) (by omega)
    have V4 : KV P d st (sI (sI M3 28 6 (M3.1 (3 + 10) 1)) (3 + 10) 1 (zI z)) := V3.fv (fv_lay 1 _ _ (by omega))
    have pr : pr1 l z (sI (sI M3 28 6 (M3.1 (3 + 10) 1)) (3 + 10) 1 (zI z)) := ⟨by rw [g2 (by omega), g2 (by omega)]; exact r3, by rw [g3 (by omega), g2 (by omega)]; exact r30, g1⟩
    generalize sI (sI M3 28 6 (M3.1 (3 + 10) 1)) (3 + 10) 1 (zI z) = M4 at *
    have h4 := V4.1.1
    have kn : f4_kinds fu (nI i) (3 : Int32) M4 = _ := kinds_s hfu h4 hi1 hl z1 z2 pr
    obtain ⟨L', F', t1, t2, t3, te⟩ := test_s hfu h4 hi1 hl z1 z2 pr ⟨kd P i, hkd, kbit⟩
    have te' : f4_test fu (nI i) (3 : Int32) M4 = _ := te
    have k64 := kdS_lt (P := P) (k := i) (l := l) (z := z)
    have V5 := V4.s28 6 (nI L')
    have mS := many_s (fu := fu) (S := kdS P i l z) hfu (by omega)
    have p8 := pcn_le (S := kdS P i l z) (by omega)
    obtain ⟨S, s1, s2, lu⟩ := lucks_s hfu V5.1.1 hi1 hl
    rw [hz] at lu
    have rda : rd (sI M4 28 6 (nI L')) 47 33 ((1 : Int32) + nI i) = some (nI (kd P i)) := by
      rw [show (1 : Int32) + nI i = nI (1 + i) from nI_add 1 i, rd_n (by omega) (by omega), (V5.2.2.2.2.2.2.2.2 i hi1).1]
    have rdb : rd (sI M4 28 6 (nI L')) 47 33 ((25 : Int32) + nI i) = some (nI (lk P i)) := by
      rw [show (25 : Int32) + nI i = nI (25 + i) from nI_add 25 i, rd_n (by omega) (by omega), (V5.2.2.2.2.2.2.2.2 i hi1).2]
    have w2 := worth_s V5.1.1 hi1 hok.2.2.2.2.2
    rw [s28_28] at w2
    have w2' : f4_worth (nI i) (nI (lk P i)) (sI M4 28 6 (nI L')) = some (sI M4 28 6 (zI (wz P i)), nI 1) := w2
    have p5 : ∀ v, f4_pin (nI i) (5 : Int32) (sI M4 28 6 v) = some (sI M4 28 6 (zI (wz P i)), nI 1) := pinE h4 hi1 (w := 5) (by omega) rfl
    obtain ⟨M', g, a1, a2⟩ := ih (i + 1) f (sI M4 28 6 (zI (wz P i))) (by omega) (by omega) (V4.s28 6 _)
    refine ⟨M', g, ?_, a2⟩
    rw [f9_law_2172]
    dsimp only
    rw [if_neg (le_f (by omega) (by omega) (by omega)), rm, bS, ea, hx, bS, pl', bS, wo, bS]
    dsimp only
    rw [told1, bS, ro, bS]
    dsimp only
    rw [if_pos (show nI 2 = (2 : Int32) from rfl), la0, bS]
    dsimp only
    rw [if_pos (show nI 1 = (1 : Int32) from rfl), la1, bS]
    dsimp only
    rw [if_pos (show nI 1 = (1 : Int32) from rfl), kn, bS]
    dsimp only
    rw [te', bS]
    dsimp only
    rw [asked1, bS, rda, bS, if_pos (bT1 kbit (by omega) (by omega)), if_neg (show ¬ (63 : Int32) < nI (kdS P i l z) from lt_f (a := 63) (by omega) (by omega) (by omega)), if_neg (show ¬ nI F' < (0 : Int32) from lt_f (b := 0) (by omega) (by omega) (by omega)), if_neg (show ¬ (9 : Int32) < nI F' from lt_f (a := 9) (by omega) (by omega) (by omega)), if_neg (show ¬ nI L' < (1 : Int32) from lt_f (b := 1) (by omega) (by omega) (by omega)), mS, bS, if_neg (lt_f (by omega) (by omega) (by omega)), lu, bS, if_pos (bT1 s2 (by omega) (by omega)), rdb, bS, w2', bS]
    dsimp only
    rw [told1, bS, p5, bS]
    dsimp only
    rw [told1, bS, if_pos rfl, nm_u, ad1]
    exact a1
theorem gm_0 : gm P s 0 = 500 := by
  unfold gm
  show 500 + (0 : Int) = 500
  rfl
theorem gm_d (h : St P s M) : gm P s 1 ≥ 500 ∧ gm P s 2 ≤ gm P s 1 ∧ gm P s 2 ≤ gm P s 3 ∧ gm P s 4 ≤ gm P s 3 := by
  have a := gam_01 (P := P) (lB P s) 0 0
  have b := gam_21 (P := P) (lB P s) 0 0
  have c := gam_23 (P := P) (lB P s) 0 0
  have d := gam_43 (P := P) (lB P s) 0 0
  have z : gam P 0 (lB P s) 0 0 = 0 := rfl
  unfold gm
  omega
theorem l2172_end {g : Nat} (hL : L ≤ 260) (hfu : 10000 ≤ fu) (hV : KV P d st M) : ∃ p, p ≤ 12 ∧ f9_law_2172 L xs fu (g + 1) (nI P.1) x5 x7 x8 x9 x10 x11 x15 (nI P.1) M = f9_law_2462 L xs fu fu x5 x7 x8 x9 x10 x11 x15 (nI p) (1 : Int64) (1 : Int64) (0 : Int32) M := by
  have h := hV.1.1
  obtain ⟨d1, d2, d3, d4⟩ := gm_d h
  have b1 := gm_bd h (m := 1) (by omega)
  have b2 := gm_bd h (m := 2) (by omega)
  have b3 := gm_bd h (m := 3) (by omega)
  have b4 := gm_bd h (m := 4) (by omega)
  have e0 : f4_duel M fu (0 : Int32) = some (zI (gm P (st d) 0)) := duel_s (m := 0) hfu h (by omega)
  rw [gm_0] at e0
  have e1 : f4_duel M fu (1 : Int32) = some (zI (gm P (st d) 1)) := duel_s (m := 1) hfu h (by omega)
  have e2 : f4_duel M fu (2 : Int32) = some (zI (gm P (st d) 2)) := duel_s (m := 2) hfu h (by omega)
  have e3 : f4_duel M fu (3 : Int32) = some (zI (gm P (st d) 3)) := duel_s (m := 3) hfu h (by omega)
  have e4 : f4_duel M fu (4 : Int32) = some (zI (gm P (st d) 4)) := duel_s (m := 4) hfu h (by omega)
  obtain ⟨x, hx⟩ := cell_s (xs := xs) hL (k := 43) (by omega)
  have hx' : ∀ M, f9_cell_S L xs M (43 : Int32) = some x := hx
  obtain ⟨p, hp, pp⟩ := part_s x (n := 13) (by omega) (by omega)
  have pp' : f9_part x (13 : Int32) = some (nI p) := pp
  refine ⟨p, by omega, ?_⟩
  rw [f9_law_2172]
  dsimp only
  rw [if_pos (Int32.le_refl _), e0, bS, if_pos (show zI 500 = (500 : Int32) by decide), e1, bS, if_neg (show ¬ zI (gm P (st d) 1) < (500 : Int32) by
    show ¬ zI (gm P (st d) 1) < zI 500
    rw [zlt (by omega) (by omega) (by omega) (by omega)]; omega), e2, bS, bS, if_neg (show ¬ zI (gm P (st d) 1) < zI (gm P (st d) 2) by
    rw [zlt (by omega) (by omega) (by omega) (by omega)]; omega), e3, bS, bS, if_neg (show ¬ zI (gm P (st d) 3) < zI (gm P (st d) 2) by
    rw [zlt (by omega) (by omega) (by omega) (by omega)]; omega), e4, bS, bS, if_pos (show zI (gm P (st d) 4) ≤ zI (gm P (st d) 3) by
    rw [zle (by omega) (by omega) (by omega) (by omega)]; omega), hx', bS, pp', bS]
end KD44
