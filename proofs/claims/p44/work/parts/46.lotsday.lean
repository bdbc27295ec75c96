/-! 46: means, lots, the end -/
section EN46
variable {P : PD} {s : Nat → Int32} {M : Mem} {fu k d c N V T E D p U v : Nat} {st : Nat → Nat → Int32}
variable {L e f : Nat} {xs : Nat → Int32} {x5 x6 x7 x8 x9 x10 x11 x12 x13 x14 x15 x17 : Int32}
theorem KV.dee {st' : Nat → Nat → Int32} {M' : Mem} (h : KV P d st M) (hF : FdM M M') (hI : Iv P d st' M') (he : ∀ j, j ≤ d → st' j = st j) : Iv P d st' M' ∧ M'.1 20 0 = nI 0 ∧ Hist P (M'.1 24) 0 (fun _ => s0P P) ∧ M'.1 21 0 = nI d ∧ Hist P (M'.1 25) d st ∧ M'.1 22 0 = -nI 1 := by
  obtain ⟨b1, b0, b2, b3, b4, b5, b6, b7⟩ := h
  have K := KF.fd hF
  exact ⟨hI, by rw [K 20 (by omega)]; exact b2, by rw [K 24 (by omega)]; exact b3, by rw [K 21 (by omega)]; exact b4, by rw [K 25 (by omega)]; exact b5, by rw [K 22 (by omega)]; exact b6⟩
theorem l2830 (hfu : 10000 ≤ fu) (hI : Iv P d st M) (k0 : M.1 20 0 = nI 0) (k1 : Hist P (M.1 24) 0 (fun _ => s0P P)) (k2 : M.1 21 0 = nI d) (k3 : M.1 22 0 = -nI 1) : ∃ R, f9_law_2830 L xs fu (nI (2 ^ P.1 - 1)) (nI d) (st d 0) (nI (hB P (st d))) (nI (lB P (st d))) M = some (R, 1) := by
  have h := hI.1
  have h8 := h.1.1
  have hn := h.2.2.2
  have h256 := pow8 h8
  have bH := hB_lt (P := P) (s := st d) h8
  have c1 : f4_count M fu (1 : Int32) = some (st d 0) := ct1 h
  have c3 : f4_count M fu (3 : Int32) = some (nI (hB P (st d))) := ct3 h
  have c4 : f4_count M fu (4 : Int32) = some (nI (lB P (st d))) := ct4 h
  obtain ⟨M1, u1, u2, u3⟩ := undo_s (x := 0) hfu hI (by omega)
  have u1' : f4_undo fu (0 : Int32) M = some (M1, nI (d - 0)) := u1
  have K1 := KF.fd u3
  obtain ⟨M2, o1, o2, o3, -⟩ := on_s (j := 0) (d' := 0) (st' := fun _ => s0P P) hfu u2 (by omega) (by omega) (by rw [K1 _ (by omega)]; exact k0) (by rw [K1 _ (by omega)]; exact k1)
  have o1' : f4_on fu (0 : Int32) M1 = some (M2, nI 0) := o1
  have q20 : M2.1 20 0 = nI 0 := by rw [o3 20 (by omega) (by omega) (by omega) (by omega), K1 20 (by omega)]; exact k0
  have q21 : M2.1 21 0 = nI d := by rw [o3 21 (by omega) (by omega) (by omega) (by omega), K1 21 (by omega)]; exact k2
  have q22 : M2.1 22 0 = -nI 1 := by rw [o3 22 (by omega) (by omega) (by omega) (by omega), K1 22 (by omega)]; exact k3
  have s2 : St P (s0P P) M2 := o2.1
  have hok : ∀ k, k < P.1 → okP P k := fun k hk => (h.1.2.2.2.1 k hk).1
  have w1 : f4_count M2 fu (1 : Int32) = some (nI 0) := ct1 (s := s0P P) s2
  have w3 : f4_count M2 fu (3 : Int32) = some (nI 0) := by
    have := ct3 (fu := fu) s2
    rw [s0_hB hok] at this
    exact this
  have w4 : f4_count M2 fu (4 : Int32) = some (nI (2 ^ P.1 - 1)) := by
    have := ct4 (fu := fu) s2
    rw [s0_lB hok] at this
    exact this
  have w5 : f4_count M2 fu (5 : Int32) = some (nI 0) := by
    have := ct5 (fu := fu) s2
    rw [s0_wB hok] at this
    exact this
  have w8 : f4_count M2 fu (8 : Int32) = some (nI 2) := by
    have := ct8 (M := M2) (fu := fu) (g := fun r => decide (r < 2)) hfu (fun r hr => by
      have : r = 0 ∨ r = 1 ∨ r = 2 := by omega
      rcases this with rfl | rfl | rfl
      · exact Or.inr ⟨0, by omega, q20, rfl⟩
      · exact Or.inr ⟨d, hI.2.1, q21, rfl⟩
      · exact Or.inl ⟨q22, rfl⟩)
    exact this
  refine ⟨M2, ?_⟩
  unfold f9_law_2830
  rw [c1, bS, if_pos rfl, c3, bS, if_pos rfl, c4, bS, if_pos rfl, u1', bS]
  dsimp only
  rw [if_pos (show nI (d - 0) = nI d by rw [Nat.sub_zero]), o1', bS]
  dsimp only
  rw [if_pos (show nI 0 = (0 : Int32) from rfl), w1, bS, if_pos (show nI 0 = (0 : Int32) from rfl), w3, bS, if_pos (show nI 0 = (0 : Int32) from rfl), w4, bS, if_pos rfl, w5, bS, if_pos (show nI 0 = (0 : Int32) from rfl), w8, bS, if_pos (show nI 2 = (2 : Int32) from rfl)]
theorem l2462_end {g : Nat} {u l : Int64} (hL : L ≤ 260) (hfu : 10000 ≤ fu) (hp : p ≤ 12) (hV : KV P d st M) : ∃ R, f9_law_2462 L xs fu (g + 1) (nI (2 ^ P.1 - 1)) (nI d) (st d 0) (nI (hB P (st d))) (nI (lB P (st d))) (nI (wB P (st d))) (zI (mx P (tB P (st d)))) (nI p) u l (nI 204) M = some (R, 1) := by
  have h := hV.1.1
  have hP := h.1
  have h8 := hP.1
  have h256 := pow8 h8
  have hok : ∀ k, k < P.1 → okP P k := fun k hk => (hP.2.2.2.1 k hk).1
  have hT : tB P (st d) < 2 ^ P.1 := msk_lt _ _
  have bM := mx_bdr h8 hok hT
  have hd23 := hV.2.1
  have em : (zI (mx P (tB P (st d)))).toInt64.toInt = (((mx P (tB P (st d))).toNat : Nat) : Int) := by
    rw [Int32.toInt_toInt64, zI_toInt (by omega) (by omega)]
    omega
  have em4 : (mx P (tB P (st d))).toNat ≤ 480 := by omega
  obtain ⟨x, y, o, hf1⟩ := mid_s (p := 0) hfu h (by omega)
  have o' : f4_mid fu (0 : Int32) M = _ := o
  have fc := frc_c (C := (mx P (tB P (st d))).toNat) hP hf1 (by rw [ms_p0, tB_or h.2.1]; rfl)
  have V1 : KV P d st (sL (sL M 28 7 x) 28 8 y) := hV.fv (fv_sL 7 8 x y)
  have up1 : f4_upper (sL (sL M 28 7 x) 28 8 y) = some x := by
    rw [upper_s]
    rfl
  have lo1 : f4_lower (sL (sL M 28 7 x) 28 8 y) = some y := by
    rw [lower_s, h2]
  generalize sL (sL M 28 7 x) 28 8 y = M1 at *
  obtain ⟨x', y', o2, hf2⟩ := mid_s (p := p) hfu V1.1.1 hp
  obtain ⟨X, Y, G, e1, e2, g0, y0, yb, eA, eB⟩ := frc_n hP hf2
  have V2 : KV P d st (sL (sL M1 28 7 x') 28 8 y') := V1.fv (fv_sL 7 8 x' y')
  have up2 : f4_upper (sL (sL M1 28 7 x') 28 8 y') = some x' := by
    rw [upper_s]
    rfl
  have lo2 : f4_lower (sL (sL M1 28 7 x') 28 8 y') = some y' := by
    rw [lower_s, h2]
  generalize sL (sL M1 28 7 x') 28 8 y' = M2 at *
  have xle : X ≤ (mx P (tB P (st d))).toNat * Y := by
    have := ms_le (P := P) (md := none) (H := hB P (st d)) (L := lB P (st d)) (c := (mx P (tB P (st d))).toNat) hp (fun S hS => by
      rw [tB_or h.2.1] at hS
      have := mx_mono (P := P) (S := S) (U := tB P (st d)) (by omega) hS
      show (mx P S).toNat ≤ _
      omega)
    rw [eA, eB, Nat.mul_right_comm] at this
    have := Nat.le_of_mul_le_mul_right this g0
    rw [Nat.mul_comm]
    exact this
  have bmY : (mx P (tB P (st d))).toNat * Y ≤ 480 * 429981696 := Nat.mul_le_mul em4 yb
  have emY := mul64 em e2 (by omega)
  obtain ⟨ca, hca⟩ := cell_s (xs := xs) hL (k := 44) (by omega)
  have hca' : f9_cell_S L xs M2 (44 : Int32) = some ca := hca M2
  obtain ⟨N0, hN0, pN⟩ := part_s ca (n := 18) (by omega) (by omega)
  have pN' : f9_part ca (18 : Int32) = some (nI N0) := pN
  obtain ⟨cb, hcb⟩ := cell_s (xs := xs) hL (k := 45) (by omega)
  have hcb' : f9_cell_S L xs M2 (45 : Int32) = some cb := hcb M2
  obtain ⟨z0, hz0, pz⟩ := part_s cb (n := 2147483646) (by omega) (by omega)
  have pz' : f9_part cb (2147483646 : Int32) = some (nI z0) := pz
  have eN : (1 : Int32) + nI N0 = nI (1 + N0) := nI_add 1 N0
  have ez : (1 : Int32) + nI z0 = nI (1 + z0) := nI_add 1 z0
  have fin : ∀ M3, Iv P d st M3 ∧ M3.1 20 0 = nI 0 ∧ Hist P (M3.1 24) 0 (fun _ => s0P P) ∧ M3.1 21 0 = nI d ∧ Hist P (M3.1 25) d st ∧ M3.1 22 0 = -nI 1 → ∃ R, f9_law_2830 L xs fu (nI (2 ^ P.1 - 1)) (nI d) (st d 0) (nI (hB P (st d))) (nI (lB P (st d))) M3 = some (R, 1) := fun M3 q => l2830 hfu q.1 q.2.1 q.2.2.1 q.2.2.2.1 q.2.2.2.2.2
  have head : ∀ R, ((f4_lots fu (nI (1 + N0)) (nI (1 + z0)) M2).bind fun ⟨M35, r36⟩ =>
    if (nI d + nI (1 + N0)) ≤ (40 : Int32) then ((f4_count M35 fu (1 : Int32)).bind fun r39 =>
    if r36 = r39 then ((f4_count M35 fu (2 : Int32)).bind fun r42 =>
    if r42 = (nI d + nI (1 + N0)) then ((f4_count M35 fu (5 : Int32)).bind fun r45 =>
    if r45 = nI (wB P (st d)) then ((f4_undo fu (nI d) M35).bind fun ⟨M48, r49⟩ =>
    if r49 = nI (1 + N0) then ((f4_count M48 fu (1 : Int32)).bind fun r52 =>
    if r52 = st d 0 then ((f4_lots fu (nI (1 + N0)) (nI (1 + z0)) M48).bind fun ⟨M55, r56⟩ =>
    if r56 = r36 then ((f4_on fu (1 : Int32) M55).bind fun ⟨M59, r60⟩ =>
    if r60 = nI d then ((f9_law_2830 L xs fu (nI (2 ^ P.1 - 1)) (nI d) (st d 0) (nI (hB P (st d))) (nI (lB P (st d))) M59))
    else ((some (M59, (0 : Int32)))))
    else ((some (M55, (0 : Int32)))))
    else ((some (M48, (0 : Int32)))))
    else ((some (M48, (0 : Int32)))))
    else ((some (M35, (0 : Int32)))))
    else ((some (M35, (0 : Int32)))))
    else ((some (M35, (0 : Int32)))))
    else (if r36 = (-2 : Int32) then ((f9_law_2830 L xs fu (nI (2 ^ P.1 - 1)) (nI d) (st d 0) (nI (hB P (st d))) (nI (lB P (st d))) M35))
    else ((some (M35, (0 : Int32)))))) = R → f9_law_2462 L xs fu (g + 1) (nI (2 ^ P.1 - 1)) (nI d) (st d 0) (nI (hB P (st d))) (nI (lB P (st d))) (nI (wB P (st d))) (zI (mx P (tB P (st d)))) (nI p) u l (nI 204) M = R := by
    intro R hR
    rw [f9_law_2462]
    dsimp only
    rw [if_pos (show (201 : Int32) ≤ nI 204 by decide), o', bS]
    dsimp only
    rw [if_pos (show nI 1 = (1 : Int32) from rfl), up1, bS, if_pos (y_eq0 fc.1 em rfl), lo1, bS, if_pos (y_eq0 fc.2 o1 rfl), o2, bS]
    dsimp only
    rw [if_pos (show nI 1 = (1 : Int32) from rfl), up2, bS, if_neg (n_lt0 e1 o0 (by omega)), bS, lo2, bS, if_pos (y_le0 e1 emY xle), hca', bS, pN', bS, nm_u, eN, hcb', bS, pz', bS, nm_u, ez]
    exact hR
  by_cases c40 : d + (1 + N0) ≤ 40
  · obtain ⟨M3, st3, l1, l2, l3, l4, l5, l6⟩ := lots_s (N := 1 + N0) (z := 1 + z0) hfu V2.1 (by omega) (by omega) (by omega) (by omega) c40
    have c1 : f4_count M3 fu (1 : Int32) = some (lotS P (1 + N0) (st d) (1 + z0) 0) := by
      have := ct1 (fu := fu) l2.1
      rw [l4] at this
      exact this
    have c2 : f4_count M3 fu (2 : Int32) = some (nI (d + (1 + N0))) := by
      have := ct2 (M := M3) (fu := fu)
      rw [l2.2.2.1] at this
      exact this
    have c5 : f4_count M3 fu (5 : Int32) = some (nI (wB P (st d))) := by
      have := ct5 (fu := fu) l2.1
      rw [l4, l6] at this
      exact this
    obtain ⟨M4, u1, u2, u3⟩ := undo_s (x := d) hfu l2 (by omega)
    have e5 := l5 d (Nat.le_refl d)
    have w1 : f4_count M4 fu (1 : Int32) = some (st d 0) := by
      have := ct1 (fu := fu) u2.1
      rw [e5] at this
      exact this
    obtain ⟨M5, st5, m1, m2, m3, m4, m5, m6⟩ := lots_s (N := 1 + N0) (z := 1 + z0) hfu u2 (by omega) (by omega) (by omega) (by omega) c40
    rw [e5] at m1
    have K5 : KF M2 M5 := (KF.fd l3).tr ((KF.fd u3).tr (KF.fd m3))
    obtain ⟨M6, n1, n2, n3, -⟩ := on_s (j := 1) (d' := d) (st' := st) hfu m2 (by omega) V2.1.2.1 (by rw [K5 _ (by omega)]; exact V2.2.2.2.2.1) (by rw [K5 _ (by omega)]; exact V2.2.2.2.2.2.1)
    have n1' : f4_on fu (1 : Int32) M5 = some (M6, nI d) := n1
    have K6 : KF M2 M6 := K5.tr (fun q hq => n3 q (by omega) (by omega) (by omega) (by omega))
    obtain ⟨R, hR⟩ := fin M6 ⟨n2, by rw [K6 _ (by omega)]; exact V2.2.2.1, by rw [K6 _ (by omega)]; exact V2.2.2.2.1, by rw [K6 _ (by omega)]; exact V2.2.2.2.2.1, by rw [K6 _ (by omega)]; exact V2.2.2.2.2.2.1, by rw [K6 _ (by omega)]; exact V2.2.2.2.2.2.2.1⟩
    refine ⟨R, head _ ?_⟩
    rw [l1, bS]
    dsimp only
    rw [nI_add, if_pos (show nI (d + (1 + N0)) ≤ (40 : Int32) from le_t (b := 40) (by omega) (by omega) c40), c1, bS, if_pos rfl, c2, bS, if_pos rfl, c5, bS, if_pos rfl, u1, bS]
    dsimp only
    rw [if_pos (show nI (d + (1 + N0) - d) = nI (1 + N0) by rw [Nat.add_sub_cancel_left]), w1, bS, if_pos rfl, m1, bS]
    dsimp only
    rw [if_pos rfl, n1', bS]
    dsimp only
    rw [if_pos rfl]
    exact hR
  · have l1 := lots_no (fu := fu) (N := 1 + N0) (z := 1 + z0) V2.1 (by omega) (by omega) (by omega) (by omega) c40
    obtain ⟨R, hR⟩ := fin M2 ⟨V2.1, V2.2.2.1, V2.2.2.2.1, V2.2.2.2.2.1, V2.2.2.2.2.2.1, V2.2.2.2.2.2.2.1⟩
    refine ⟨R, head _ ?_⟩
    rw [l1, bS]
    dsimp only
    rw [nI_add, if_neg (show ¬ nI (d + (1 + N0)) ≤ (40 : Int32) from le_f (b := 40) (by omega) (by omega) c40), if_pos (show -nI 2 = (-2 : Int32) from rfl)]
    exact hR
end EN46
