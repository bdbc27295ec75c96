/-! 47: the law holds -/
theorem law_true {L : Nat} (hL : L ≤ 260) (xs : Nat → Int32) : ∃ R, f9_law L xs 10000 mc0 = some (R, 1) := by
  have hfu : 10000 ≤ 10000 := Nat.le_refl _
  obtain ⟨M1, a1, a2, a3, a4⟩ := tells_s (fu := 10000) (xs := xs) hfu hL
  generalize tlP L xs = P at *
  have h := a2.1
  have h8 := h.1.1
  have hn := h.2.2.2
  have h256 := pow8 h8
  have hpos := Nat.two_pow_pos P.1
  obtain ⟨M2, b1, b2, b3, b4, -⟩ := keep_s (j := 0) hfu a2 (by omega)
  have b1' : f4_keep 10000 (0 : Int32) M1 = some (M2, nI 0) := b1
  have J2 : JV P 0 (fun _ => s0P P) M2 := ⟨a2.cg (fun q hq => b4 q (by omega) (by omega)), b2, b3, by rw [b4 21 (by omega) (by omega)]; exact a3 1 (by omega), by rw [b4 22 (by omega) (by omega)]; exact a3 2 (by omega), a4.cg (b4 47 (by omega) (by omega))⟩
  have rdn : rd M2 47 33 (0 : Int32) = some (nI P.1) := by
    rw [show (0 : Int32) = nI 0 from rfl, rd_n (by omega) (by omega), J2.2.2.2.2.2.1]
  have es : ((1 : Int32) <<< (nI P.1 &&& 31)) - (1 : Int32) = nI (2 ^ P.1 - 1) := by
    rw [sh1 (by omega), show (1 : Int32) = nI 1 from rfl, pk_sub (by omega)]
  obtain ⟨x, hx⟩ := cell_s (xs := xs) hL (k := 10) (by omega)
  have hx' : f9_cell_S L xs M2 (10 : Int32) = some x := hx M2
  obtain ⟨N, hN, pN⟩ := part_s x (n := 24) (by omega) (by omega)
  have pN' : f9_part x (24 : Int32) = some (nI N) := pN
  obtain ⟨d, st, M3, g, c1, c2, c3⟩ := l69_loop (L := L) (xs := xs) (fu := 10000) (N := N) hL hfu (by omega) N 0 10000 0 _ M2 (by omega) (by omega) (by omega) J2
  obtain ⟨M4, e1, V4⟩ := l69_end (L := L) (xs := xs) (fu := 10000) (g := g) (N := N) (x5 := nI (2 ^ P.1 - 1)) hfu (show d ≤ 23 by omega) c3
  obtain ⟨M5, e2, V5⟩ := l1320 (L := L) (xs := xs) (fu := 10000) (x5 := nI (2 ^ P.1 - 1)) (x7 := nI d) (x8 := st d 0) (x11 := nI (wB P (st d))) hfu V4
  obtain ⟨M6, e3, V6⟩ := l1630_all (L := L) (xs := xs) (fu := 10000) (x5 := nI (2 ^ P.1 - 1)) (x7 := nI d) (x8 := st d 0) (x11 := nI (wB P (st d))) hfu V5
  obtain ⟨M7, e4, V7⟩ := l1824_all (L := L) (xs := xs) (fu := 10000) (x7 := nI d) (x11 := nI (wB P (st d))) (x15 := zI (mx P (tB P (st d)))) hL hfu V6
  obtain ⟨M8, g8, e5, V8⟩ := l2172_loop (L := L) (xs := xs) (fu := 10000) (x5 := nI (2 ^ P.1 - 1)) (x7 := nI d) (x8 := st d 0) (x9 := nI (hB P (st d))) (x10 := nI (lB P (st d))) (x11 := nI (wB P (st d))) (x15 := zI (mx P (tB P (st d)))) hL hfu P.1 0 10000 M7 (by omega) (by omega) V7
  obtain ⟨p, hp, e6⟩ := l2172_end (L := L) (xs := xs) (fu := 10000) (g := g8) (x5 := nI (2 ^ P.1 - 1)) (x7 := nI d) (x8 := st d 0) (x9 := nI (hB P (st d))) (x10 := nI (lB P (st d))) (x11 := nI (wB P (st d))) (x15 := zI (mx P (tB P (st d)))) hL hfu V8
  obtain ⟨M9, u9, l9, g9, e7, V9⟩ := l2462_loop (L := L) (xs := xs) (fu := 10000) (x5 := nI (2 ^ P.1 - 1)) (x7 := nI d) (x8 := st d 0) (x9 := nI (hB P (st d))) (x10 := nI (lB P (st d))) (x11 := nI (wB P (st d))) hfu hp 51 0 10000 (1 : Int64) (1 : Int64) M8 (by omega) (by omega) V8 (PI_0 hp)
  obtain ⟨R, e8⟩ := l2462_end (L := L) (xs := xs) (fu := 10000) (g := g9) (u := u9) (l := l9) hL hfu hp V9
  refine ⟨R, ?_⟩
  unfold f9_law
  rw [a1, bS]
  dsimp only
  rw [if_neg (show ¬ nI 1 = (0 : Int32) by decide), b1', bS]
  dsimp only
  rw [if_pos (show nI 0 = (0 : Int32) from rfl), rdn, bS, nm_u, es, hx', bS, pN', bS]
  refine (show _ = _ from c1).trans ?_
  refine e1.trans ?_
  refine e2.trans ?_
  refine e3.trans ?_
  refine e4.trans ?_
  refine (show _ = _ from e5).trans ?_
  refine e6.trans ?_
  refine (show _ = _ from e7).trans ?_
  exact e8
