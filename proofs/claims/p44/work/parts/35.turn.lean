/-! 35: a turn of the law: a deed, looked at -/
section TU
variable {P : PD} {s : Nat → Int32} {M : Mem} {fu k d c : Nat} {st : Nat → Nat → Int32}
variable {L e f : Nat} {xs : Nat → Int32} {k69 : Int32 → Int32 → Int32 → Int32 → Mem → Option (Mem × Int32)} {x5 x6 x7 x8 x9 x10 x11 x12 x13 x14 x15 x17 : Int32}
theorem tail629 {d' did : Nat} {s0 : Nat → Int32} (hfu : 10000 ≤ fu) (hI : Iv P d' st M) (hs0 : st d = s0) (hdd : d' = d + did) (hdid : did = 0 ∨ did = 1) (hW : wB P (st d') &&& wB P s0 = wB P s0) (hc : c < 1000) (hk : k < P.1) (v : Int32) : ∃ M1 d'', f9_law_629 L xs fu k69 (nI P.1) (nI (2 ^ P.1 - 1)) x6 (nI c) x8 (nI d) (s0 0) (nI (hB P s0)) (nI (lB P s0)) (nI (wB P s0)) (nI k) (tv P s0 k 1) (nI did) (sI M 28 6 v) = k69 (nI P.1) (nI (2 ^ P.1 - 1)) x6 (nI (c + 1)) M1 ∧ Iv P d'' st M1 ∧ d'' ≤ d' ∧ KF M M1 := by
  subst hs0
  obtain ⟨v', g, q1⟩ := l629 (L := L) (xs := xs) (k69 := k69) (x6 := x6) (x7 := nI c) (x8 := x8) (x10 := st d 0) (x11 := nI (hB P (st d))) (x12 := nI (lB P (st d))) (x14 := nI k) (x15 := tv P (st d) k 1) hfu hI.1 hI.2.2.1 hdd hdid hI.2.1 hW v
  obtain ⟨M1, d'', q2, q3, q4, q5⟩ := l736_end (L := L) (xs := xs) (k69 := k69) (x5 := nI (2 ^ P.1 - 1)) (x6 := x6) (x8 := x8) (f := g) hfu hI hdd hdid hc hk v'
  exact ⟨M1, d'', q1.trans q2, q3, q4, q5⟩
theorem tail629' {d' did : Nat} {s0 : Nat → Int32} (hfu : 10000 ≤ fu) (hI : Iv P d' st M) (hs0 : st d = s0) (hdd : d' = d + did) (hdid : did = 0 ∨ did = 1) (hW : wB P (st d') &&& wB P s0 = wB P s0) (hc : c < 1000) (hk : k < P.1) : ∃ M1 d'', f9_law_629 L xs fu k69 (nI P.1) (nI (2 ^ P.1 - 1)) x6 (nI c) x8 (nI d) (s0 0) (nI (hB P s0)) (nI (lB P s0)) (nI (wB P s0)) (nI k) (tv P s0 k 1) (nI did) M = k69 (nI P.1) (nI (2 ^ P.1 - 1)) x6 (nI (c + 1)) M1 ∧ Iv P d'' st M1 ∧ d'' ≤ d' ∧ KF M M1 := by
  have := tail629 (L := L) (xs := xs) (k69 := k69) (x6 := x6) (x8 := x8) hfu hI hs0 hdd hdid hW hc hk (M.1 28 6)
  rw [s28_id] at this
  exact this
theorem tv1_iff (hg : gst P.1 s) (hk : k < P.1) : tv P s k 1 = s 0 ↔ s (k + 1) = s 0 := by
  obtain ⟨p0, hp0, e0⟩ := hg.1
  rcases gst_3 hg hk with ⟨e, a⟩ | ⟨e, a⟩ | ⟨p, hp, e, a⟩
  · have t : tv P s k 1 = -nI 9 := by simp [tv, a]
    rw [t, e, e0]
    exact ⟨fun q => absurd q.symm (of_eq_false (np9 (F := p0) (by omega))), fun q => absurd q.symm (of_eq_false (np10 hp0).1)⟩
  · have t : tv P s k 1 = -nI 9 := by simp [tv, a]
    rw [t, e, e0]
    exact ⟨fun q => absurd q.symm (of_eq_false (np9 (F := p0) (by omega))), fun q => absurd q.symm (of_eq_false (np10 hp0).2)⟩
  · have t : tv P s k 1 = s (k + 1) := by simp [tv, a]
    rw [t]
/-- the result of a turn -/
def TR (P : PD) (k69 : Int32 → Int32 → Int32 → Int32 → Mem → Option (Mem × Int32)) (x6 : Int32) (c d : Nat) (M : Mem) (R : Option (Mem × Int32)) : Prop := ∃ M1 d'' st', R = k69 (nI P.1) (nI (2 ^ P.1 - 1)) x6 (nI (c + 1)) M1 ∧ Iv P d'' st' M1 ∧ d'' ≤ d + 1 ∧ KF M M1
theorem TR.s28 {v : Int32} {R : Option (Mem × Int32)} (h : TR P k69 x6 c d (sI M 28 6 v) R) : TR P k69 x6 c d M R := by
  obtain ⟨M1, d'', st', a1, a2, a3, a4⟩ := h
  exact ⟨M1, d'', st', a1, a2, a3, (KF.s28 6 v).tr a4⟩
/-- nothing was done -/
theorem turn0 (hfu : 10000 ≤ fu) (hI : Iv P d st M) (hc : c < 1000) (hk : k < P.1) : TR P k69 x6 c d M (f9_law_629 L xs fu k69 (nI P.1) (nI (2 ^ P.1 - 1)) x6 (nI c) x8 (nI d) (st d 0) (nI (hB P (st d))) (nI (lB P (st d))) (nI (wB P (st d))) (nI k) (tv P (st d) k 1) (0 : Int32) M) := by
  obtain ⟨M1, d'', q1, q2, q3, q4⟩ := tail629' (L := L) (xs := xs) (k69 := k69) (x6 := x6) (x8 := x8) (did := 0) hfu hI rfl rfl (Or.inl rfl) (Nat.and_self _) hc hk
  exact ⟨M1, d'', st, q1, q2, by omega, q4⟩
/-- a deed was done -/
theorem turn1 {c0 : Int32} {M' : Mem} (hfu : 10000 ≤ fu) (hI : Iv P (d + 1) (stx st d c0) M') (hF : KF M M') (hW : wB P (ap c0 (st d)) &&& wB P (st d) = wB P (st d)) (hc : c < 1000) (hk : k < P.1) : TR P k69 x6 c d M (f9_law_629 L xs fu k69 (nI P.1) (nI (2 ^ P.1 - 1)) x6 (nI c) x8 (nI d) (st d 0) (nI (hB P (st d))) (nI (lB P (st d))) (nI (wB P (st d))) (nI k) (tv P (st d) k 1) (1 : Int32) M') := by
  obtain ⟨M1, d'', q1, q2, q3, q4⟩ := tail629' (L := L) (xs := xs) (k69 := k69) (x6 := x6) (x8 := x8) (did := 1) (d := d) (s0 := st d) hfu hI (stx_le (Nat.le_refl d)) rfl (Or.inr rfl) (by rw [stx_n]; exact hW) hc hk
  exact ⟨M1, d'', _, q1, q2, by omega, hF.tr q4⟩
theorem t_step (hfu : 10000 ≤ fu) (hI : Iv P d st M) (hd : d < 40) (hc : c < 1000) (hk : k < P.1) (b : Int32) (hb : b = nI 1 ∨ b = -nI 1) : TR P k69 x6 c d M (f9_law_234 L xs fu k69 (nI P.1) (nI (2 ^ P.1 - 1)) x6 (nI c) x8 (nI d) (st d 0) (nI (hB P (st d))) (nI (lB P (st d))) (nI (wB P (st d))) (nI k) (tv P (st d) k 1) b M) := by
  have h8 := hI.1.1.1
  obtain ⟨p, hp, e0, -⟩ := hI.1.h0
  have no : f4_step fu b M = some (M, -nI 4) → TR P k69 x6 c d M (f9_law_259 L xs fu k69 (nI P.1) (nI (2 ^ P.1 - 1)) x6 (nI c) x8 (nI d) (st d 0) (nI (hB P (st d))) (nI (lB P (st d))) (nI (wB P (st d))) (nI k) (tv P (st d) k 1) b (0 : Int32) M) := by
    intro hs
    have w1 : f4_count M fu (1 : Int32) = some (st d 0) := ct1 hI.1
    have w3 : f4_count M fu (3 : Int32) = some (nI (hB P (st d))) := ct3 hI.1
    have w4 : f4_count M fu (4 : Int32) = some (nI (lB P (st d))) := ct4 hI.1
    unfold f9_law_259
    rw [hs, bS]
    dsimp only
    rw [if_pos (show (0 : Int32) = 0 from rfl)]
    unfold f9_law_282
    rw [if_pos (show -nI 4 = (-4 : Int32) from rfl), w1, bS, if_pos (show (0 : Int32) = 0 from rfl)]
    unfold f9_law_305
    rw [if_pos rfl, w3, bS, if_pos rfl, w4, bS, if_pos rfl]
    exact turn0 hfu hI hc hk
  have yes : ∀ (q : Nat) (c0 : Int32) (M' : Mem), f4_step fu b M = some (M', nI q) → st d 0 + b = nI q → Iv P (d + 1) (stx st d c0) M' → FdM M M' → ap c0 (st d) 0 = nI q → (∀ j, j < P.1 → ap c0 (st d) (j + 1) = st d (j + 1)) → TR P k69 x6 c d M (f9_law_259 L xs fu k69 (nI P.1) (nI (2 ^ P.1 - 1)) x6 (nI c) x8 (nI d) (st d 0) (nI (hB P (st d))) (nI (lB P (st d))) (nI (wB P (st d))) (nI k) (tv P (st d) k 1) b (1 : Int32) M) := by
    intro q c0 M' hs hb1 hI' hF h0 hk'
    have a1 := hI'.1
    rw [stx_n] at a1
    have w1 : f4_count M' fu (1 : Int32) = some (nI q) := by
      have := ct1 (fu := fu) a1
      rw [h0] at this
      exact this
    have w3 : f4_count M' fu (3 : Int32) = some (nI (hB P (st d))) := by
      have := ct3 (fu := fu) a1
      rw [hB_cg hk'] at this
      exact this
    have w4 : f4_count M' fu (4 : Int32) = some (nI (lB P (st d))) := by
      have := ct4 (fu := fu) a1
      rw [lB_cg hk'] at this
      exact this
    unfold f9_law_259
    rw [hs, bS]
    dsimp only
    rw [if_neg (show ¬ (1 : Int32) = 0 by decide), hb1]
    unfold f9_law_282
    rw [if_pos rfl, w1, bS, if_neg (show ¬ (1 : Int32) = 0 by decide), hb1]
    unfold f9_law_305
    rw [if_pos rfl, w3, bS, if_pos rfl, w4, bS, if_pos rfl]
    exact turn1 hfu hI' (KF.fd hF) (by rw [wB_cg hk', Nat.and_self]) hc hk
  unfold f9_law_234
  rcases hb with rfl | rfl
  · have eb : st d 0 + nI 1 = nI (p + 1) := by rw [e0, nI_add]
    have t0 : ¬ nI (p + 1) < (0 : Int32) := by
      show ¬ nI (p + 1) < nI 0
      rw [nlt (by omega) (by omega)]; omega
    rw [eb, if_neg t0]
    by_cases h10 : p + 1 < 10
    · rw [if_neg (show ¬ (10 : Int32) ≤ nI (p + 1) by
        show ¬ nI 10 ≤ nI (p + 1)
        rw [nle (by omega) (by omega)]; omega)]
      obtain ⟨M', s1, s2, s3⟩ := step_up hfu hI hd e0 h10
      exact yes (p + 1) (nI 0) M' s1 eb s2 s3 (by rw [ap_0 (by omega), if_pos rfl, e0, nI_add]) (up_k h8)
    · rw [if_pos (show (10 : Int32) ≤ nI (p + 1) by
        show nI 10 ≤ nI (p + 1)
        rw [nle (by omega) (by omega)]; omega)]
      exact no (step_up_no hI e0 hp h10)
  · by_cases h0 : p = 0
    · subst h0
      rw [if_pos (show st d 0 + -nI 1 < (0 : Int32) by rw [e0]; decide)]
      exact no (step_dn_no hI e0)
    · have eb : st d 0 + -nI 1 = nI (p - 1) := by rw [e0, ← Int32.sub_eq_add_neg, pk_sub (by omega)]
      have t0 : ¬ nI (p - 1) < (0 : Int32) := by
        show ¬ nI (p - 1) < nI 0
        rw [nlt (by omega) (by omega)]; omega
      rw [eb, if_neg t0, if_neg (show ¬ (10 : Int32) ≤ nI (p - 1) by
        show ¬ nI 10 ≤ nI (p - 1)
        rw [nle (by omega) (by omega)]; omega)]
      obtain ⟨M', s1, s2, s3⟩ := step_dn hfu hI hd e0 (by omega) hp
      exact yes (p - 1) (nI 1) M' s1 eb s2 s3 (by rw [ap_1 (by omega), if_pos rfl, e0, pk_sub (by omega)]) (dn_k h8)
theorem t_pick (hfu : 10000 ≤ fu) (hI : Iv P d st M) (hd : d < 40) (hc : c < 1000) (hk : k < P.1) : TR P k69 x6 c d M ((f4_pick fu (nI k) M).bind fun ⟨M18, r19⟩ => if tv P (st d) k 1 = st d 0 then f9_law_360 L xs fu k69 (nI P.1) (nI (2 ^ P.1 - 1)) x6 (nI c) x8 (nI d) (st d 0) (nI (hB P (st d))) (nI (lB P (st d))) (nI (wB P (st d))) (nI k) (tv P (st d) k 1) r19 (1 : Int32) M18 else f9_law_360 L xs fu k69 (nI P.1) (nI (2 ^ P.1 - 1)) x6 (nI c) x8 (nI d) (st d 0) (nI (hB P (st d))) (nI (lB P (st d))) (nI (wB P (st d))) (nI k) (tv P (st d) k 1) r19 (0 : Int32) M18) := by
  have h8 := hI.1.1.1
  have bH := hB_lt (P := P) (s := st d) h8
  have iff := tv1_iff hI.g hk
  by_cases q : st d (k + 1) = st d 0
  · obtain ⟨M', s1, s2, s3⟩ := pick_s hfu hI hd hk q
    obtain ⟨m1, m2, m3, m4⟩ := pk_h h8 hk hI.g q
    have a1 := s2.1
    rw [stx_n] at a1
    rw [m2] at s1
    have mm : f9_many fu (nI (hB P (st d))) = some (nI (pcn (hB P (st d)))) := many_s hfu bH
    have w3 : f4_count M' fu (3 : Int32) = some (nI (hB P (st d) ||| 2 ^ k)) := by
      have := ct3 (fu := fu) a1
      rw [m1] at this
      exact this
    have w4 : f4_count M' fu (4 : Int32) = some (nI (lB P (st d) - 2 ^ k)) := by
      have := ct4 (fu := fu) a1
      rw [show lB P (ap (nI (8 + k)) (st d)) = lB P (st d) - 2 ^ k by omega] at this
      exact this
    have e1 : (1 : Int32) <<< (nI k &&& 31) = nI (2 ^ k) := sh1 (by omega)
    rw [s1, bS]
    dsimp only
    rw [if_pos (iff.mpr q)]
    unfold f9_law_360
    rw [if_neg (show ¬ (1 : Int32) = 0 by decide), mm, bS]
    unfold f9_law_381
    rw [if_pos (show nI (pcn (hB P (st d)) + 1) = nI (pcn (hB P (st d))) + (1 : Int32) from (nI_add _ 1).symm), if_neg (show ¬ (1 : Int32) = 0 by decide), w3, bS, e1, ior, if_pos rfl, w4, bS, pk_sub (show 2 ^ k ≤ lB P (st d) by omega), if_pos rfl]
    exact turn1 hfu s2 (KF.fd s3) (by rw [m4, Nat.and_self]) hc hk
  · rw [pick_no hfu hI hk q, bS]
    dsimp only
    rw [if_neg (fun e => q (iff.mp e))]
    unfold f9_law_360
    rw [if_pos (show (0 : Int32) = 0 from rfl)]
    unfold f9_law_381
    rw [if_pos (show -nI 4 = (-4 : Int32) from rfl), if_pos (show (0 : Int32) = 0 from rfl)]
    exact turn0 hfu hI hc hk
theorem t_drop {j : Nat} (hfu : 10000 ≤ fu) (hI : Iv P d st M) (hd : d < 40) (hc : c < 1000) (hk : k < P.1) (hj : j < P.1) : TR P k69 x6 c d M ((f4_drop fu (nI j) M).bind fun ⟨M14, r15⟩ => if ((nI (hB P (st d)) >>> (nI j &&& 31)) &&& (1 : Int32)) = (1 : Int32) then f9_law_466 L xs fu k69 (nI P.1) (nI (2 ^ P.1 - 1)) x6 (nI c) x8 (nI d) (st d 0) (nI (hB P (st d))) (nI (lB P (st d))) (nI (wB P (st d))) (nI k) (tv P (st d) k 1) (nI j) r15 (1 : Int32) M14 else f9_law_466 L xs fu k69 (nI P.1) (nI (2 ^ P.1 - 1)) x6 (nI c) x8 (nI d) (st d 0) (nI (hB P (st d))) (nI (lB P (st d))) (nI (wB P (st d))) (nI k) (tv P (st d) k 1) (nI j) r15 (0 : Int32) M14) := by
  have h8 := hI.1.1.1
  have bH := hB_lt (P := P) (s := st d) h8
  have tb : (hB P (st d)).testBit j = (st d (j + 1) == -nI 1) := msk_tbk hj
  by_cases q : st d (j + 1) = -nI 1
  · obtain ⟨M', s1, s2, s3⟩ := drop_s hfu hI hd hj q
    obtain ⟨m1, m2, m3, m4, m5⟩ := dr_h h8 hj hI.g q
    have a1 := s2.1
    rw [stx_n] at a1
    have mm : f9_many fu (nI (hB P (st d))) = some (nI (pcn (hB P (st d)))) := many_s hfu bH
    have w3 : f4_count M' fu (3 : Int32) = some (nI (hB P (st d) - 2 ^ j)) := by
      have := ct3 (fu := fu) a1
      rw [show hB P (ap (nI (16 + j)) (st d)) = hB P (st d) - 2 ^ j by omega] at this
      exact this
    have e1 : (1 : Int32) <<< (nI j &&& 31) = nI (2 ^ j) := sh1 (by omega)
    have tvj : tv P (ap (nI (16 + j)) (st d)) j 1 = st d 0 := by
      have := (tv1_iff a1.2.1 hj).mpr (by rw [m4, m5])
      rw [this, m5]
    have w6 : f4_pin (nI j) (1 : Int32) M' = some (sI M' 28 6 (st d 0), nI 1) := by
      have := pin_s (w := 1) a1 hj (by omega)
      rw [tvj] at this
      exact this
    rw [s1, bS]
    dsimp only
    rw [if_pos (bT1 (a := hB P (st d)) (k := j) (by rw [tb, q]; rfl) (by omega) (by omega))]
    unfold f9_law_466
    rw [if_neg (show ¬ (1 : Int32) = 0 by decide), mm, bS]
    unfold f9_law_487
    rw [if_pos (show nI (pcn (hB P (ap (nI (16 + j)) (st d)))) = nI (pcn (hB P (st d))) - (1 : Int32) by
      rw [show (1 : Int32) = nI 1 from rfl, pk_sub (by omega)]
      congr 1
      omega), if_neg (show ¬ (1 : Int32) = 0 by decide), w3, bS, e1, pk_sub (show 2 ^ j ≤ hB P (st d) by omega), if_pos rfl, w6, bS]
    dsimp only
    rw [told1, bS, if_pos rfl]
    exact turn1 hfu (s2.s28 6 _) ((KF.fd s3).tr (KF.s28 6 _)) (by rw [m3, Nat.and_self]) hc hk
  · rw [drop_no hI hj q, bS]
    dsimp only
    rw [if_neg (bF1 (a := hB P (st d)) (k := j) (by rw [tb]; simp [q]) (by omega) (by omega))]
    unfold f9_law_466
    rw [if_pos (show (0 : Int32) = 0 from rfl)]
    unfold f9_law_487
    rw [if_pos (show -nI 4 = (-4 : Int32) from rfl), if_pos (show (0 : Int32) = 0 from rfl)]
    exact turn0 hfu hI hc hk
theorem t_sweep (hfu : 10000 ≤ fu) (hI : Iv P d st M) (hd : d < 40) (hc : c < 1000) (hk : k < P.1) : ∀ (e i f : Nat) (v : Int32), i + e = P.1 → e < f → TR P k69 x6 c d M (f9_law_537 L xs fu k69 f (nI P.1) (nI (2 ^ P.1 - 1)) x6 (nI c) x8 (nI d) (st d 0) (nI (hB P (st d))) (nI (lB P (st d))) (nI (wB P (st d))) (nI k) (tv P (st d) k 1) (1 : Int32) (nI (msk i (fun j => st d (j + 1) == st d 0))) (nI i) (sI M 28 6 v)) := by
  have h8 := hI.1.1.1
  intro e
  induction e with
  | zero =>
    intro i f v hi hf
    rcases f with _ | f
    · omega
    have : i = P.1 := by omega
    subst this
    obtain ⟨M', s1, s2, s3⟩ := sweep_s hfu (hI.s28 6 v) hd
    obtain ⟨m1, m2, m3⟩ := sw_h h8 hI.g
    have a1 := s2.1
    rw [stx_n] at a1
    have bm := msk_256 h8 (fun j => st d (j + 1) == st d 0)
    have mm := many_s hfu bm
    have w5 : f4_count M' fu (5 : Int32) = some (nI (wB P (st d) ||| msk P.1 (fun j => st d (j + 1) == st d 0))) := by
      have := ct5 (fu := fu) a1
      rw [m2] at this
      exact this
    have w4 : f4_count M' fu (4 : Int32) = some (nI (lB P (st d) - msk P.1 (fun j => st d (j + 1) == st d 0))) := by
      have := ct4 (fu := fu) a1
      rw [show lB P (ap (nI 2) (st d)) = lB P (st d) - msk P.1 (fun j => st d (j + 1) == st d 0) by omega] at this
      exact this
    have w3 : f4_count M' fu (3 : Int32) = some (nI (hB P (st d))) := by
      have := ct3 (fu := fu) a1
      rw [m1] at this
      exact this
    have t0 : nI P.1 ≤ nI P.1 := Int32.le_refl _
    rw [f9_law_537]
    dsimp only
    rw [if_pos t0, s1, bS]
    dsimp only
    rw [mm, bS, if_pos rfl, w5, bS, ior, if_pos rfl, w4, bS, pk_sub (show msk P.1 (fun j => st d (j + 1) == st d 0) ≤ lB P (st d) by omega), if_pos rfl, w3, bS, if_pos rfl]
    refine turn1 hfu s2 ((KF.s28 6 v).tr (KF.fd s3)) ?_ hc hk
    rw [m2]
    apply Nat.eq_of_testBit_eq
    intro z
    rw [Nat.testBit_and, Nat.testBit_or]
    cases (wB P (st d)).testBit z <;> simp
  | succ e ih =>
    intro i f v hi hf
    rcases f with _ | f
    · omega
    have hi1 : i < P.1 := by omega
    have t0 : ¬ nI P.1 ≤ nI i := by rw [nle (by omega) (by omega)]; omega
    have p1 : ∀ v, f4_pin (nI i) (1 : Int32) (sI M 28 6 v) = some (sI M 28 6 (tv P (st d) i 1), nI 1) := pinE hI.1 hi1 (w := 1) (by omega) rfl
    have iff := tv1_iff hI.g hi1
    have e1 : (1 : Int32) <<< (nI i &&& 31) = nI (2 ^ i) := sh1 (by omega)
    have h2 := ih (i + 1) f (tv P (st d) i 1) (by omega) (by omega)
    rw [msk_s] at h2
    rw [f9_law_537]
    dsimp only
    rw [if_neg t0, p1, bS]
    dsimp only
    rw [told1, bS]
    by_cases q : st d (i + 1) = st d 0
    · rw [if_pos (by simp [q])] at h2
      rw [if_pos (iff.mpr q), nm_u, nm_u, e1, ior, ad1]
      exact h2
    · rw [if_neg (by simp [q])] at h2
      rw [if_neg (fun x => q (iff.mp x)), nm_u, nm_u, show (0 : Int32) = nI 0 from rfl, ior, Nat.or_zero, ad1]
      exact h2
end TU
