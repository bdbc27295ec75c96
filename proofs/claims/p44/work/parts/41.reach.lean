/-! 41: within so many steps -/
section RE41
variable {P : PD} {s : Nat → Int32} {M : Mem} {fu k d c N V : Nat} {st : Nat → Nat → Int32}
variable {L e f : Nat} {xs : Nat → Int32} {x5 x6 x7 x8 x9 x10 x11 x12 x13 x14 x15 x17 : Int32}
variable {k1630 : Int32 → Int32 → Int32 → Int32 → Int32 → Int32 → Int32 → Int32 → Int32 → Int32 → Mem → Option (Mem × Int32)}
theorem lt_of_tb {T n k : Nat} (hT : T < 2 ^ n) (hk : T.testBit k = true) : k < n := by
  apply Decidable.byContradiction
  intro q
  rw [tb_ge hT (by omega)] at hk
  cases hk
theorem frT_l {T : Nat} (h : T &&& frT P s = T) : T &&& lB P s = T := tb_sub (fun k hk => by
  have := sub_tb h hk
  unfold frT at this
  rw [Nat.testBit_and] at this
  simp only [Bool.and_eq_true] at this
  exact this.1)
theorem frT_h {T : Nat} (hT : T < 2 ^ P.1) (h : T &&& frT P s = T) {k : Nat} (hk : T.testBit k = true) : hm P k &&& (tw P (hB P s)).2 = 0 := by
  have := sub_tb h hk
  unfold frT at this
  rw [Nat.testBit_and] at this
  have q := (Bool.and_eq_true_iff.mp this).2
  rw [msk_tbk (lt_of_tb hT hk)] at q
  exact beq_iff_eq.mp q
theorem l1730 (h : St P s M) (hV2 : V < 2 ^ P.1) (hV : V &&& frT P s = V) (ha : apt P V = true) (hN : N ≤ 20) : ∀ (e i f : Nat) (v : Int32), i + e = P.1 → e < f → ∃ v', f9_law_1730 L xs fu k1630 f (nI P.1) x5 x7 x8 x9 x10 x11 x15 (nI N) (zI (sm P V)) (nI V) (zI (fo (stS P V) i 0)) (nI ((tw P (hB P s)).2 ||| fo (stU P V) i 0)) (nI i) (sI M 28 6 v) = k1630 (nI P.1) x5 x7 x8 x9 x10 x11 x15 (zI (sm P V)) (nI (N + 1)) (sI M 28 6 v') := by
  have hP := h.1
  have h8 := hP.1
  have h256 := pow8 h8
  intro e
  induction e with
  | zero =>
    intro i f v hi hf
    rcases f with _ | f
    · omega
    have : i = P.1 := by omega
    subst this
    refine ⟨v, ?_⟩
    rw [f9_law_1730]
    dsimp only
    rw [if_pos (Int32.le_refl _), ← sm_n hV2 h8, if_pos rfl, nm_u, ad1]
  | succ e ih =>
    intro i f v hi hf
    rcases f with _ | f
    · omega
    have hi1 : i < P.1 := by omega
    rw [f9_law_1730]
    dsimp only
    rw [if_neg (le_f (by omega) (by omega) (by omega))]
    cases b : V.testBit i
    · obtain ⟨v', r⟩ := ih (i + 1) f v (by omega) (by omega)
      have eU : fo (stU P V) (i + 1) 0 = fo (stU P V) i 0 := by rw [fo_s]; unfold stU; rw [b]; rfl
      have eS : fo (stS P V) (i + 1) 0 = fo (stS P V) i 0 := by rw [fo_s]; unfold stS; rw [b]; rfl
      rw [eU, eS] at r
      refine ⟨v', ?_⟩
      rw [if_pos (bF0 b (by omega) (by omega)), nm_u, ad1]
      exact r
    · obtain ⟨v', r⟩ := ih (i + 1) f (zI (wz P i)) (by omega) (by omega)
      have eU : fo (stU P V) (i + 1) 0 = fo (stU P V) i 0 ||| hm P i := by rw [fo_s]; unfold stU; rw [if_pos b]
      have eS : fo (stS P V) (i + 1) 0 = fo (stS P V) i 0 + wz P i := by rw [fo_s]; unfold stS; rw [if_pos b]
      rw [eU, eS, ← Nat.or_assoc] at r
      have p2 : ∀ v, f4_pin (nI i) (2 : Int32) (sI M 28 6 v) = some (sI M 28 6 (nI (hm P i)), nI 1) := pinE h hi1 (w := 2) (by omega) rfl
      have p5 : ∀ v, f4_pin (nI i) (5 : Int32) (sI M 28 6 v) = some (sI M 28 6 (zI (wz P i)), nI 1) := pinE h hi1 (w := 5) (by omega) rfl
      have a0 : hm P i &&& ((tw P (hB P s)).2 ||| fo (stU P V) i 0) = 0 := by
        rw [Nat.and_or_distrib_left, frT_h hV2 hV b, Nat.zero_or, Nat.and_comm, un_and]
        intro j hj hb
        exact apt_pair h8 hV2 ha hb b (by omega)
      refine ⟨v', ?_⟩
      rw [if_neg (bT0 b (by omega) (by omega)), p2, bS]
      dsimp only
      rw [told1, bS, iand, a0, if_pos (show nI 0 = (0 : Int32) from rfl), nm_u, p5, bS]
      dsimp only
      rw [told1, bS, nm_u, nm_u, zadd, ior, ad1]
      exact r
theorem l1630 (hfu : 10000 ≤ fu) (h : St P s M) : ∀ (e N f : Nat) (v : Int32) (z : Int), N + e = 21 → e < f → -1000 ≤ z → z ≤ 1000 → (∀ V, wnV P s (frT P s) N V → z ≤ sm P V) → ∃ v', f9_law_1630 L xs fu f (nI P.1) x5 x7 x8 (nI (hB P s)) (nI (lB P s)) x11 (zI (mx P (tB P s))) (zI z) (nI N) (sI M 28 6 v) = f9_law_1824 L xs fu fu (nI P.1) x5 x7 x8 (nI (hB P s)) (nI (lB P s)) x11 (zI (mx P (tB P s))) (0 : Int32) (sI M 28 6 v') := by
  have hP := h.1
  have h8 := hP.1
  have h256 := pow8 h8
  have hok : ∀ k, k < P.1 → okP P k := fun k hk => (hP.2.2.2.1 k hk).1
  have hT : tB P s < 2 ^ P.1 := msk_lt _ _
  have hL : lB P s < 2 ^ P.1 := msk_lt _ _
  have bH := hB_lt (P := P) (s := s) h8
  have bM := mx_bdr h8 hok hT
  intro e
  induction e with
  | zero =>
    intro N f v z hN hf z1 z2 hz
    rcases f with _ | f
    · omega
    have : N = 21 := by omega
    subst this
    refine ⟨v, ?_⟩
    rw [f9_law_1630]
    dsimp only
    rw [if_pos (show (21 : Int32) ≤ nI 21 from Int32.le_refl _)]
  | succ e ih =>
    intro N f v z hN hf z1 z2 hz
    rcases f with _ | f
    · omega
    obtain ⟨V, w, wn⟩ := within_s (N := N) hfu (h.s28 6 v) (by omega)
    rw [s28_28] at wn
    have hVL := frT_l w.1
    have hV2 : V < 2 ^ P.1 := sub_lt hL hVL
    obtain ⟨E, D, wk, wl⟩ := walk_s hfu (h.s28 6 (nI V)) hV2 hVL
    rw [s28_28] at wl
    obtain ⟨k1, k2, k3, -, -, -⟩ := wk
    have bV := sm_bd h8 hok hV2
    have zV := hz V w
    have hDN : D ≤ N := by rw [k1]; exact w.2.2.1
    obtain ⟨v', r⟩ := ih (N + 1) f (nI 0) (sm P V) (by omega) (by omega) (by omega) (by omega) (fun V' w' => w'.2.2.2 V w.1 w.2.1 (by have := w.2.2.1; omega))
    have an : (nI V &&& (nI (lB P s) ^^^ (-1 : Int32))) = (0 : Int32) := by
      show nI V &&& (nI (lB P s) ^^^ -nI 1) = nI 0
      rw [andnot, hVL, Nat.xor_self]
    have bz := busyE hfu h (nI E)
    obtain ⟨v2, r2⟩ := l1730 (L := L) (xs := xs) (fu := fu) (k1630 := f9_law_1630 L xs fu f) (x5 := x5) (x7 := x7) (x8 := x8) (x9 := nI (hB P s)) (x10 := nI (lB P s)) (x11 := x11) (x15 := zI (mx P (tB P s))) h hV2 w.1 w.2.1 (show N ≤ 20 by omega) P.1 0 fu (nI (tw P (hB P s)).1) (by omega) (by omega)
    have r2' : f9_law_1721 L xs fu (f9_law_1630 L xs fu f) (nI P.1) x5 x7 x8 (nI (hB P s)) (nI (lB P s)) x11 (zI (mx P (tB P s))) (nI N) (zI (sm P V)) (nI V) (0 : Int32) (sI M 28 6 (nI E)) = f9_law_1630 L xs fu f (nI P.1) x5 x7 x8 (nI (hB P s)) (nI (lB P s)) x11 (zI (mx P (tB P s))) (zI (sm P V)) (nI (N + 1)) (sI M 28 6 v2) := by
      unfold f9_law_1721
      rw [show (tw P (hB P s)).2 ||| fo (stU P V) 0 0 = (tw P (hB P s)).2 from Nat.or_zero _] at r2
      rw [bz, bS]
      exact r2
    obtain ⟨v3, r3⟩ := ih (N + 1) f v2 (sm P V) (by omega) (by omega) (by omega) (by omega) (fun V' w' => w'.2.2.2 V w.1 w.2.1 (by have := w.2.2.1; omega))
    refine ⟨v3, ?_⟩
    rw [f9_law_1630]
    dsimp only
    rw [if_neg (show ¬ (21 : Int32) ≤ nI N from le_f (a := 21) (by omega) (by omega) (by omega)), wn, bS]
    dsimp only
    rw [asked1, bS, wl, bS]
    dsimp only
    rw [if_neg (show ¬ nI D < (0 : Int32) from lt_f (b := 0) (by omega) (by omega) (by omega)), if_neg (lt_f (by omega) (by omega) (by omega)), asked1, bS, if_neg (show ¬ nI E < (0 : Int32) from lt_f (b := 0) (by omega) (by omega) (by omega)), bS, if_neg (show ¬ (9 : Int32) < nI E from lt_f (a := 9) (by omega) (by omega) (by omega)), if_pos an, if_neg (show ¬ zI (sm P V) < zI z by
      rw [zlt (by omega) (by omega) (by omega) (by omega)]; omega)]
    by_cases c : sm P V ≤ mx P (tB P s)
    · rw [if_pos (show zI (sm P V) ≤ zI (mx P (tB P s)) by rw [zle (by omega) (by omega) (by omega) (by omega)]; exact c)]
      exact r2'.trans r3
    · have h0 : hB P s ≠ 0 := fun q => c (by
        refine mx_ub (by omega) (okS_of (tb_sub (fun j hj => ?_)) w.2.1)
        rw [← tB_or h.2.1, Nat.testBit_or, sub_tb hVL hj, Bool.or_true])
      rw [if_neg (show ¬ zI (sm P V) ≤ zI (mx P (tB P s)) by rw [zle (by omega) (by omega) (by omega) (by omega)]; exact c), if_neg (ne_0 (by omega) h0)]
      exact r2'.trans r3
theorem l1630_all (hfu : 10000 ≤ fu) (hV : KV P d st M) : ∃ M', f9_law_1630 L xs fu fu (nI P.1) x5 x7 x8 (nI (hB P (st d))) (nI (lB P (st d))) x11 (zI (mx P (tB P (st d)))) (-1 : Int32) (0 : Int32) M = f9_law_1824 L xs fu fu (nI P.1) x5 x7 x8 (nI (hB P (st d))) (nI (lB P (st d))) x11 (zI (mx P (tB P (st d)))) (0 : Int32) M' ∧ KV P d st M' := by
  obtain ⟨v', r⟩ := l1630 (L := L) (xs := xs) (x5 := x5) (x7 := x7) (x8 := x8) (x11 := x11) hfu hV.1.1 21 0 fu (M.1 28 6) (-1) (by omega) (by omega) (by omega) (by omega) (fun V w => by
    have := w.2.2.2 0 (Nat.zero_and _) apt_0 (by unfold spT; rw [if_pos rfl]; omega)
    rw [sm_0] at this
    omega)
  rw [s28_id] at r
  exact ⟨_, r, hV.s28 6 v'⟩
end RE41
