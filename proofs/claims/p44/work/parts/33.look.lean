/-! 33: what the law looks at behind each deed -/
theorem m99 : (-nI 9 = -nI 9) = True := eq_true rfl
theorem m9lt : (nI 9 < -nI 9) = False := by decide
theorem z_0 {a : Int} : zI a + nI 0 = zI a := by
  rw [nI_z, zadd]
  congr 1
  omega
theorem bitI {a k : Nat} (hk : k < 31) (ha : a < 2147483648) : (nI a >>> (nI k &&& (31 : Int32))) &&& (1 : Int32) = nI (if a.testBit k then 1 else 0) := by
  show (nI a >>> (nI k &&& nI 31)) &&& nI 1 = _
  rw [iand, bit_b hk ha]
theorem bT1 {a k : Nat} (h : a.testBit k = true) (hk : k < 31) (ha : a < 2147483648) : (nI a >>> (nI k &&& (31 : Int32))) &&& (1 : Int32) = (1 : Int32) := by
  rw [bitI hk ha, h]; rfl
theorem bT0 {a k : Nat} (h : a.testBit k = true) (hk : k < 31) (ha : a < 2147483648) : ¬ (nI a >>> (nI k &&& (31 : Int32))) &&& (1 : Int32) = (0 : Int32) := by
  rw [bitI hk ha, h]; decide
theorem bF0 {a k : Nat} (h : a.testBit k = false) (hk : k < 31) (ha : a < 2147483648) : (nI a >>> (nI k &&& (31 : Int32))) &&& (1 : Int32) = (0 : Int32) := by
  rw [bitI hk ha, h]; rfl
theorem bF1 {a k : Nat} (h : a.testBit k = false) (hk : k < 31) (ha : a < 2147483648) : ¬ (nI a >>> (nI k &&& (31 : Int32))) &&& (1 : Int32) = (1 : Int32) := by
  rw [bitI hk ha, h]; decide
section LK
variable {P : PD} {s : Nat → Int32} {M : Mem} {fu k : Nat}
theorem pinE {w : Nat} (h : St P s M) (hk : k < P.1) (hw : w < 8) {x : Int32} (hx : tv P s k w = x) (v : Int32) : f4_pin (nI k) (nI w) (sI M 28 6 v) = some (sI M 28 6 x, nI 1) := by
  rw [pin_s (h.s28 6 v) hk hw, s28_28, hx]
theorem ct1E (h : St P s M) (v : Int32) : f4_count (sI M 28 6 v) fu (nI 1) = some (s 0) := ct1 (h.s28 6 v)
theorem ct2E {d : Nat} (h : M.1 23 0 = nI d) (v : Int32) : f4_count (sI M 28 6 v) fu (nI 2) = some (nI d) := by
  rw [ct2, g2 (by omega), h]
theorem ct3E (h : St P s M) (v : Int32) : f4_count (sI M 28 6 v) fu (nI 3) = some (nI (hB P s)) := ct3 (h.s28 6 v)
theorem ct4E (h : St P s M) (v : Int32) : f4_count (sI M 28 6 v) fu (nI 4) = some (nI (lB P s)) := ct4 (h.s28 6 v)
theorem ct5E (h : St P s M) (v : Int32) : f4_count (sI M 28 6 v) fu (nI 5) = some (nI (wB P s)) := ct5 (h.s28 6 v)
theorem busyE (hfu : 10000 ≤ fu) (h : St P s M) (v : Int32) : f4_busy fu (sI M 28 6 v) = some (sI M 28 6 (nI (tw P (hB P s)).1), nI (tw P (hB P s)).2) := by
  rw [busy_s hfu (h.s28 6 v), s28_28]
theorem clashE (hfu : 10000 ≤ fu) (h : St P s M) (v : Int32) : f4_clashes fu (sI M 28 6 v) = some (sI M 28 6 (zI (sm P (hB P s))), nI (prs P (hB P s) P.1)) := by
  rw [clashes_s hfu (h.s28 6 v), s28_28]
variable {L e f : Nat} {xs : Nat → Int32} {k69 : Int32 → Int32 → Int32 → Int32 → Mem → Option (Mem × Int32)} {x5 x6 x7 x8 x9 x10 x11 x12 x13 x14 x15 x17 : Int32}
set_option maxHeartbeats 2000000 in
theorem l736_step (hfu : 10000 ≤ fu) (h : St P s M) (he : e < P.1) (v : Int32) : ∃ v', f9_law_736 L xs fu k69 (f + 1) (nI P.1) x5 x6 x7 x8 x9 x10 x11 x12 x13 x14 x15 x17 (nI (fo (stU P (hB P s)) e 0)) (zI (fo (stS P (hB P s)) e 0)) (nI e) (sI M 28 6 v) = f9_law_736 L xs fu k69 f (nI P.1) x5 x6 x7 x8 x9 x10 x11 x12 x13 x14 x15 x17 (nI (fo (stU P (hB P s)) (e + 1) 0)) (zI (fo (stS P (hB P s)) (e + 1) 0)) (nI (e + 1)) (sI M 28 6 v') := by
  have hP := h.1
  have h8 := hP.1
  have hok := (hP.2.2.2.1 e he).1
  have hl := hm_lt hok
  have hp := hm_pos hok
  have hlb := hok.2.2.2.1
  have hlb2 := hok.2.2.2.2.1
  have bH := hB_lt (P := P) (s := s) h8
  have bL := lB_lt (P := P) (s := s) h8
  have bW := wB_lt (P := P) (s := s) h8
  have mm := many13_s (fu := fu) hfu hl
  rw [pc13_hm hok] at mm
  have t0 : ¬ nI P.1 ≤ nI e := by rw [nle (by omega) (by omega)]; omega
  have p2 : ∀ v, f4_pin (nI e) (2 : Int32) (sI M 28 6 v) = some (sI M 28 6 (nI (hm P e)), nI 1) := pinE h he (w := 2) (by omega) rfl
  have p3 : ∀ v, f4_pin (nI e) (3 : Int32) (sI M 28 6 v) = some (sI M 28 6 (nI (ln P e)), nI 1) := pinE h he (w := 3) (by omega) rfl
  have p5 : ∀ v, f4_pin (nI e) (5 : Int32) (sI M 28 6 v) = some (sI M 28 6 (zI (wz P e)), nI 1) := pinE h he (w := 5) (by omega) rfl
  have c3 : ∀ v, f4_count (sI M 28 6 v) fu (3 : Int32) = some (nI (hB P s)) := ct3E h
  have c4 : ∀ v, f4_count (sI M 28 6 v) fu (4 : Int32) = some (nI (lB P s)) := ct4E h
  have c5 : ∀ v, f4_count (sI M 28 6 v) fu (5 : Int32) = some (nI (wB P s)) := ct5E h
  have tH : (hB P s).testBit e = (s (e + 1) == -nI 1) := msk_tbk he
  have tL : (lB P s).testBit e = lyB s e := msk_tbk he
  have tW : (wB P s).testBit e = (s (e + 1) == -nI 2) := msk_tbk he
  have g1x : ¬ nI (hm P e) < (1 : Int32) := by
    show ¬ nI (hm P e) < nI 1
    rw [nlt (by omega) (by omega)]; omega
  have g2x : nI (hm P e) ≤ (8191 : Int32) := by
    show nI (hm P e) ≤ nI 8191
    rw [nle (by omega) (by omega)]; omega
  have o0 : nI (fo (stU P (hB P s)) e 0) ||| (0 : Int32) = nI (fo (stU P (hB P s)) e 0) := by
    show nI (fo (stU P (hB P s)) e 0) ||| nI 0 = _
    rw [ior, Nat.or_zero]
  have z_0' : zI (fo (stS P (hB P s)) e 0) + (0 : Int32) = zI (fo (stS P (hB P s)) e 0) := z_0
  rcases gst_3 h.2.1 he with ⟨es, a⟩ | ⟨es, a⟩ | ⟨p, hp10, es, a⟩
  · rw [es] at tH tW
    rw [a] at tL
    have p1 : ∀ v, f4_pin (nI e) (1 : Int32) (sI M 28 6 v) = some (sI M 28 6 (-nI 9), nI 1) := pinE h he (w := 1) (by omega) (by simp [tv, a])
    have p6 : ∀ v, f4_pin (nI e) (6 : Int32) (sI M 28 6 v) = some (sI M 28 6 (nI 1), nI 1) := pinE h he (w := 6) (by omega) (by simp [tv, es])
    have p7 : ∀ v, f4_pin (nI e) (7 : Int32) (sI M 28 6 v) = some (sI M 28 6 (nI 0), nI 1) := pinE h he (w := 7) (by omega) (by simp only [tv, es]; rfl)
    have u1 : fo (stU P (hB P s)) (e + 1) 0 = fo (stU P (hB P s)) e 0 ||| hm P e := by
      rw [fo_s]; unfold stU; rw [if_pos (by rw [tH]; rfl)]
    have w1 : fo (stS P (hB P s)) (e + 1) 0 = fo (stS P (hB P s)) e 0 + wz P e := by
      rw [fo_s]; unfold stS; rw [if_pos (by rw [tH]; rfl)]
    refine ⟨zI (wz P e), ?_⟩
    rw [u1, w1, f9_law_736]
    dsimp only
    rw [if_neg t0, p1, bS]
    dsimp only
    rw [told1, bS, p2, bS]
    dsimp only
    rw [told1, bS, c3, bS, if_pos (bT1 (a := hB P s) (k := e) (by rw [tH] <;> rfl) (by omega) (by omega))]
    unfold f9_law_788
    rw [p6, bS]
    dsimp only
    rw [told1, bS, if_pos tP1]
    unfold f9_law_813
    rw [if_pos rfl, p7, bS]
    dsimp only
    rw [told1, bS, if_neg tN1]
    unfold f9_law_837
    rw [c5, bS, if_neg (bF1 (a := wB P s) (k := e) (by rw [tW] <;> rfl) (by omega) (by omega))]
    unfold f9_law_856
    rw [if_pos rfl, if_pos (show -nI 9 = (-9 : Int32) from rfl)]
    unfold f9_law_871
    rw [c4, bS, if_pos (bF0 (a := lB P s) (k := e) (by rw [tL] <;> rfl) (by omega) (by omega))]
    unfold f9_law_889
    rw [if_pos rfl, if_neg (show ¬ (9 : Int32) < -nI 9 by decide), mm, bS, p3, bS]
    dsimp only
    rw [told1, bS, if_pos rfl, if_neg g1x, if_pos g2x, if_neg (show ¬ (1 : Int32) = 0 by decide)]
    unfold f9_law_947
    rw [nm_u, if_neg (show ¬ (1 : Int32) = 0 by decide), p5, bS]
    dsimp only
    rw [told1, bS, nm_u, nm_u, ior, zadd, ad1]
  · rw [es] at tH tW
    rw [a] at tL
    have p1 : ∀ v, f4_pin (nI e) (1 : Int32) (sI M 28 6 v) = some (sI M 28 6 (-nI 9), nI 1) := pinE h he (w := 1) (by omega) (by simp [tv, a])
    have p6 : ∀ v, f4_pin (nI e) (6 : Int32) (sI M 28 6 v) = some (sI M 28 6 (nI 0), nI 1) := pinE h he (w := 6) (by omega) (by simp only [tv, es]; rfl)
    have p7 : ∀ v, f4_pin (nI e) (7 : Int32) (sI M 28 6 v) = some (sI M 28 6 (nI 1), nI 1) := pinE h he (w := 7) (by omega) (by simp only [tv, es]; rfl)
    have u1 : fo (stU P (hB P s)) (e + 1) 0 = fo (stU P (hB P s)) e 0 := by
      rw [fo_s]; unfold stU; rw [if_neg (by rw [tH]; decide)]
    have w1 : fo (stS P (hB P s)) (e + 1) 0 = fo (stS P (hB P s)) e 0 := by
      rw [fo_s]; unfold stS; rw [if_neg (by rw [tH]; decide)]
    refine ⟨nI (ln P e), ?_⟩
    rw [u1, w1, f9_law_736]
    dsimp only
    rw [if_neg t0, p1, bS]
    dsimp only
    rw [told1, bS, p2, bS]
    dsimp only
    rw [told1, bS, c3, bS, if_neg (bF1 (a := hB P s) (k := e) (by rw [tH] <;> rfl) (by omega) (by omega))]
    unfold f9_law_788
    rw [p6, bS]
    dsimp only
    rw [told1, bS, if_neg tN1]
    unfold f9_law_813
    rw [if_pos rfl, p7, bS]
    dsimp only
    rw [told1, bS, if_pos tP1]
    unfold f9_law_837
    rw [c5, bS, if_pos (bT1 (a := wB P s) (k := e) (by rw [tW] <;> rfl) (by omega) (by omega))]
    unfold f9_law_856
    rw [if_pos rfl, if_pos (show -nI 9 = (-9 : Int32) from rfl)]
    unfold f9_law_871
    rw [c4, bS, if_pos (bF0 (a := lB P s) (k := e) (by rw [tL] <;> rfl) (by omega) (by omega))]
    unfold f9_law_889
    rw [if_pos rfl, if_neg (show ¬ (9 : Int32) < -nI 9 by decide), mm, bS, p3, bS]
    dsimp only
    rw [told1, bS, if_pos rfl, if_neg g1x, if_pos g2x, if_pos (show (0 : Int32) = 0 from rfl)]
    unfold f9_law_947
    rw [nm_u, if_pos (show (0 : Int32) = 0 from rfl), nm_u, nm_u, o0, z_0', ad1]
  · rw [es, pos_m1 p hp10] at tH
    rw [es, pos_m2 p hp10] at tW
    rw [a] at tL
    have p1 : ∀ v, f4_pin (nI e) (1 : Int32) (sI M 28 6 v) = some (sI M 28 6 (nI p), nI 1) := pinE h he (w := 1) (by omega) (by simp only [tv, a]; exact es)
    have p6 : ∀ v, f4_pin (nI e) (6 : Int32) (sI M 28 6 v) = some (sI M 28 6 (nI 0), nI 1) := pinE h he (w := 6) (by omega) (by simp only [tv, es, pos_m1 p hp10]; rfl)
    have p7 : ∀ v, f4_pin (nI e) (7 : Int32) (sI M 28 6 v) = some (sI M 28 6 (nI 0), nI 1) := pinE h he (w := 7) (by omega) (by simp only [tv, es, pos_m2 p hp10]; rfl)
    have u1 : fo (stU P (hB P s)) (e + 1) 0 = fo (stU P (hB P s)) e 0 := by
      rw [fo_s]; unfold stU; rw [if_neg (by rw [tH]; decide)]
    have w1 : fo (stS P (hB P s)) (e + 1) 0 = fo (stS P (hB P s)) e 0 := by
      rw [fo_s]; unfold stS; rw [if_neg (by rw [tH]; decide)]
    refine ⟨nI (ln P e), ?_⟩
    rw [u1, w1, f9_law_736]
    dsimp only
    rw [if_neg t0, p1, bS]
    dsimp only
    rw [told1, bS, p2, bS]
    dsimp only
    rw [told1, bS, c3, bS, if_neg (bF1 (a := hB P s) (k := e) (by rw [tH] <;> rfl) (by omega) (by omega))]
    unfold f9_law_788
    rw [p6, bS]
    dsimp only
    rw [told1, bS, if_neg tN1]
    unfold f9_law_813
    rw [if_pos rfl, p7, bS]
    dsimp only
    rw [told1, bS, if_neg tN1]
    unfold f9_law_837
    rw [c5, bS, if_neg (bF1 (a := wB P s) (k := e) (by rw [tW] <;> rfl) (by omega) (by omega))]
    unfold f9_law_856
    rw [if_pos rfl, if_neg (show ¬ nI p = (-9 : Int32) from of_eq_false (np9 (F := p) (by omega)))]
    unfold f9_law_871
    rw [c4, bS, if_neg (bT0 (a := lB P s) (k := e) (by rw [tL] <;> rfl) (by omega) (by omega))]
    unfold f9_law_889
    rw [if_pos rfl, if_neg (show ¬ (9 : Int32) < nI p by show ¬ nI 9 < nI p; rw [nlt (by omega) (by omega)]; omega), mm, bS, p3, bS]
    dsimp only
    rw [told1, bS, if_pos rfl, if_neg g1x, if_pos g2x, if_pos (show (0 : Int32) = 0 from rfl)]
    unfold f9_law_947
    rw [nm_u, if_pos (show (0 : Int32) = 0 from rfl), nm_u, nm_u, o0, z_0', ad1]
theorem l736_loop (hfu : 10000 ≤ fu) (h : St P s M) : ∀ (d e f : Nat) (v : Int32), e + d = P.1 → d < f → ∃ v' g, f9_law_736 L xs fu k69 f (nI P.1) x5 x6 x7 x8 x9 x10 x11 x12 x13 x14 x15 x17 (nI (fo (stU P (hB P s)) e 0)) (zI (fo (stS P (hB P s)) e 0)) (nI e) (sI M 28 6 v) = f9_law_736 L xs fu k69 (g + 1) (nI P.1) x5 x6 x7 x8 x9 x10 x11 x12 x13 x14 x15 x17 (nI (tw P (hB P s)).2) (zI (sm P (hB P s))) (nI P.1) (sI M 28 6 v') := by
  have h8 := h.1.1
  intro d
  induction d with
  | zero =>
    intro e f v he hf
    rcases f with _ | f
    · omega
    have : e = P.1 := by omega
    subst this
    refine ⟨v, f, ?_⟩
    rw [un_n (msk_lt _ _) h8, sm_n (msk_lt _ _) h8]
  | succ d ih =>
    intro e f v he hf
    rcases f with _ | f
    · omega
    obtain ⟨v1, a1⟩ := l736_step (L := L) (xs := xs) (k69 := k69) (f := f) (x5 := x5) (x6 := x6) (x7 := x7) (x8 := x8) (x9 := x9) (x10 := x10) (x11 := x11) (x12 := x12) (x13 := x13) (x14 := x14) (x15 := x15) (x17 := x17) hfu h (show e < P.1 by omega) v
    obtain ⟨v2, g, a2⟩ := ih (e + 1) f v1 (by omega) (by omega)
    exact ⟨v2, g, a1.trans a2⟩
end LK
