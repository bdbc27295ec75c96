/-! 34: behind a deed: looked at, perhaps undone -/
/-- what is kept, and what the law's own rows hold, stays -/
def KF (M M' : Mem) : Prop := ∀ q, (20 ≤ q ∧ q ≤ 22) ∨ (24 ≤ q ∧ q ≤ 26) ∨ q = 47 → M'.1 q = M.1 q
theorem KF.rf {M : Mem} : KF M M := fun _ _ => rfl
theorem KF.tr {M M1 M2 : Mem} (a : KF M M1) (b : KF M1 M2) : KF M M2 := fun q hq => by rw [b q hq, a q hq]
theorem KF.s28 {M : Mem} (i : Nat) (v : Int32) : KF M (sI M 28 i v) := fun q hq => g2 (by omega)
theorem KF.fd {M M' : Mem} (h : FdM M M') : KF M M' := fun q hq => h.1 q (by omega) (by omega) (by omega) (by omega)
section LO34
variable {P : PD} {s : Nat → Int32} {M : Mem} {fu k : Nat}
variable {L e f : Nat} {xs : Nat → Int32} {k69 : Int32 → Int32 → Int32 → Int32 → Mem → Option (Mem × Int32)} {x5 x6 x7 x8 x9 x10 x11 x12 x13 x14 x15 x17 : Int32}
theorem l629 {d d' did W : Nat} (hfu : 10000 ≤ fu) (h : St P s M) (hd : M.1 23 0 = nI d') (hdd : d' = d + did) (hdid : did = 0 ∨ did = 1) (hd4 : d' ≤ 40) (hW : wB P s &&& W = W) (v : Int32) : ∃ v' g, f9_law_629 L xs fu k69 (nI P.1) (nI (2 ^ P.1 - 1)) x6 x7 x8 (nI d) x10 x11 x12 (nI W) x14 x15 (nI did) (sI M 28 6 v) = f9_law_736 L xs fu k69 (g + 1) (nI P.1) (nI (2 ^ P.1 - 1)) x6 x7 x8 (nI d) x10 x11 x12 (nI W) x14 x15 (nI did) (nI (tw P (hB P s)).2) (zI (sm P (hB P s))) (nI P.1) (sI M 28 6 v') := by
  have h8 := h.1.1
  have h256 := pow8 h8
  have bH := hB_lt (P := P) (s := s) h8
  have bL := lB_lt (P := P) (s := s) h8
  have bW := wB_lt (P := P) (s := s) h8
  have hWl : W < 256 := Nat.lt_of_le_of_lt (by rw [← hW]; exact Nat.and_le_left) bW
  obtain ⟨p, hp, e0, -⟩ := h.h0
  have c1 := ct1E (fu := fu) h
  rw [e0] at c1
  have c2 := ct2E (fu := fu) hd
  have c3 := ct3E (fu := fu) h
  have c4 := ct4E (fu := fu) h
  have c5 := ct5E (fu := fu) h
  have o3 := three_or h.2.1
  have s3 := three_sum h.2.1
  obtain ⟨v', g, q⟩ := l736_loop (L := L) (xs := xs) (k69 := k69) (x5 := nI (2 ^ P.1 - 1)) (x6 := x6) (x7 := x7) (x8 := x8) (x9 := nI d) (x10 := x10) (x11 := x11) (x12 := x12) (x13 := nI W) (x14 := x14) (x15 := x15) (x17 := nI did) hfu h P.1 0 fu v (by omega) (by omega)
  refine ⟨v', g, ?_⟩
  rw [← q]
  subst hdd
  rcases hdid with rfl | rfl
  · unfold f9_law_629 f9_law_646
    simp (disch := omega) only [lit, nlt, nle, neq, nI_add, pk_mul, nm_u, bS, gd_d, oc_none, oc_some, rd_n, wr_n, if_pos, if_neg, ite_true, ite_false, not_true_eq_false, not_false_eq_true, g1, g2, g3, g4, h1, h2, h3, h4, ior, iand, shl_n, Nat.or_zero, c1, c2, c3, c4, c5, hW, o3, s3]
    rfl
  · unfold f9_law_629 f9_law_646
    simp (disch := omega) only [lit, nlt, nle, neq, nI_add, pk_mul, nm_u, bS, gd_d, oc_none, oc_some, rd_n, wr_n, if_pos, if_neg, ite_true, ite_false, not_true_eq_false, not_false_eq_true, g1, g2, g3, g4, h1, h2, h3, h4, ior, iand, shl_n, Nat.or_zero, c1, c2, c3, c4, c5, hW, o3, s3]
    rfl
theorem l736_end {d d' did c : Nat} {st : Nat → Nat → Int32} (hfu : 10000 ≤ fu) (hI : Iv P d' st M) (hdd : d' = d + did) (hdid : did = 0 ∨ did = 1) (hc : c < 1000) (hk : k < P.1) (v : Int32) : ∃ M' d'', f9_law_736 L xs fu k69 (f + 1) (nI P.1) x5 x6 (nI c) x8 (nI d) (st d 0) (nI (hB P (st d))) (nI (lB P (st d))) (nI (wB P (st d))) (nI k) (tv P (st d) k 1) (nI did) (nI (tw P (hB P (st d'))).2) (zI (sm P (hB P (st d')))) (nI P.1) (sI M 28 6 v) = k69 (nI P.1) x5 x6 (nI (c + 1)) M' ∧ Iv P d'' st M' ∧ d'' ≤ d' ∧ KF M M' := by
  have h := hI.1
  have h8 := h.1.1
  have h256 := pow8 h8
  have hlt : hB P (st d') < 2 ^ P.1 := msk_lt _ _
  have bT := tw_b h.1 hlt
  have bp := prs_le P (hB P (st d')) P.1 h8
  have sb := smb h.1 hlt
  have b1 := busyE hfu h
  have b2 := clashE hfu h
  have t0 : nI P.1 ≤ nI P.1 := Int32.le_refl _
  have hs := tw_sub P (hB P (st d'))
  have t1 : (nI (tw P (hB P (st d'))).1 &&& (nI (tw P (hB P (st d'))).2 ^^^ (-1 : Int32))) = (0 : Int32) := by
    show nI (tw P (hB P (st d'))).1 &&& (nI (tw P (hB P (st d'))).2 ^^^ -nI 1) = nI 0
    rw [andnot, hs, Nat.xor_self]
  have t2 : ¬ nI (prs P (hB P (st d')) P.1) < (0 : Int32) := by
    show ¬ nI (prs P (hB P (st d')) P.1) < nI 0
    rw [nlt (by omega) (by omega)]; omega
  have head : ∀ R, (if nI did = (0 : Int32) then k69 (nI P.1) x5 x6 (nI (c + 1)) (sI M 28 6 (zI (sm P (hB P (st d'))))) else ((f9_part (x8 >>> ((20 : Int32) &&& 31)) (4 : Int32)).bind fun r19 => if r19 ≤ 0 then ((f4_undo fu (nI d) (sI M 28 6 (zI (sm P (hB P (st d')))))).bind fun ⟨M22, r23⟩ => if r23 = (1 : Int32) then ((f4_count M22 fu (2 : Int32)).bind fun r26 => if r26 = nI d then ((f4_count M22 fu (1 : Int32)).bind fun r29 => if r29 = st d 0 then ((f4_count M22 fu (3 : Int32)).bind fun r32 => if r32 = nI (hB P (st d)) then ((f4_count M22 fu (4 : Int32)).bind fun r35 => if r35 = nI (lB P (st d)) then ((f4_count M22 fu (5 : Int32)).bind fun r38 => if r38 = nI (wB P (st d)) then ((f4_pin (nI k) (1 : Int32) M22).bind fun ⟨M41, r42⟩ => (f9_told_28 M41 r42).bind fun r44 => if r44 = tv P (st d) k 1 then k69 (nI P.1) x5 x6 (nI (c + 1)) M41 else some (M41, (0 : Int32))) else some (M22, (0 : Int32))) else some (M22, (0 : Int32))) else some (M22, (0 : Int32))) else some (M22, (0 : Int32))) else some (M22, (0 : Int32))) else some (M22, (0 : Int32))) else k69 (nI P.1) x5 x6 (nI (c + 1)) (sI M 28 6 (zI (sm P (hB P (st d'))))))) = R → f9_law_736 L xs fu k69 (f + 1) (nI P.1) x5 x6 (nI c) x8 (nI d) (st d 0) (nI (hB P (st d))) (nI (lB P (st d))) (nI (wB P (st d))) (nI k) (tv P (st d) k 1) (nI did) (nI (tw P (hB P (st d'))).2) (zI (sm P (hB P (st d')))) (nI P.1) (sI M 28 6 v) = R := by
    intro R hR
    rw [f9_law_736]
    dsimp only
    rw [if_pos t0, b1, bS]
    dsimp only
    rw [if_pos rfl, asked1, bS, if_pos t1, b2, bS]
    dsimp only
    rw [if_neg t2, asked1, bS, if_pos rfl]
    simp only [nm_u, ad1]
    exact hR
  have done0 : ∃ M' d'', k69 (nI P.1) x5 x6 (nI (c + 1)) (sI M 28 6 (zI (sm P (hB P (st d'))))) = k69 (nI P.1) x5 x6 (nI (c + 1)) M' ∧ Iv P d'' st M' ∧ d'' ≤ d' ∧ KF M M' := ⟨_, d', rfl, hI.s28 _ _, Nat.le_refl _, KF.s28 _ _⟩
  obtain ⟨M0, d0, q0, q1, q2, q3⟩ := done0
  rcases hdid with rfl | rfl
  · refine ⟨M0, d0, head _ ?_, q1, q2, q3⟩
    rw [if_pos (show nI 0 = (0 : Int32) from rfl)]
    exact q0
  · obtain ⟨j, hj, pj⟩ := part_s (x8 >>> ((20 : Int32) &&& 31)) (n := 4) (by omega) (by omega)
    have pj' : f9_part (x8 >>> ((20 : Int32) &&& 31)) (4 : Int32) = some (nI j) := pj
    by_cases j0 : j = 0
    · subst j0
      obtain ⟨M1, a1, a2, a3⟩ := undo_s (x := d) hfu (hI.s28 6 (zI (sm P (hB P (st d'))))) (by omega)
      have e1 : nI (d' - d) = (1 : Int32) := by rw [show d' - d = 1 by omega]; rfl
      have w2 : f4_count M1 fu (2 : Int32) = some (nI d) := by
        have := ct2 (M := M1) (fu := fu)
        rw [a2.2.2.1] at this
        exact this
      have w1 : f4_count M1 fu (1 : Int32) = some (st d 0) := ct1 a2.1
      have w3 : f4_count M1 fu (3 : Int32) = some (nI (hB P (st d))) := ct3 a2.1
      have w4 : f4_count M1 fu (4 : Int32) = some (nI (lB P (st d))) := ct4 a2.1
      have w5 : f4_count M1 fu (5 : Int32) = some (nI (wB P (st d))) := ct5 a2.1
      have w6 : f4_pin (nI k) (1 : Int32) M1 = some (sI M1 28 6 (tv P (st d) k 1), nI 1) := pin_s (w := 1) a2.1 hk (by omega)
      refine ⟨sI M1 28 6 (tv P (st d) k 1), d, head _ ?_, a2.s28 _ _, by omega, ((KF.s28 6 _).tr (KF.fd a3)).tr (KF.s28 6 _)⟩
      rw [if_neg tN0, pj', bS, if_pos (show nI 0 ≤ (0 : Int32) from Int32.le_refl _), a1, bS]
      dsimp only
      rw [if_pos e1, w2, bS, if_pos rfl, w1, bS, if_pos rfl, w3, bS, if_pos rfl, w4, bS, if_pos rfl, w5, bS, if_pos rfl, w6, bS]
      dsimp only
      rw [told1, bS, if_pos rfl]
    · refine ⟨M0, d0, head _ ?_, q1, q2, q3⟩
      have tj : ¬ nI j ≤ (0 : Int32) := by
        show ¬ nI j ≤ nI 0
        rw [nle (by omega) (by omega)]; omega
      rw [if_neg tN0, pj', bS, if_neg tj]
      exact q0
end LO34
