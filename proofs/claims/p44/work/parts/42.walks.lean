/-! 42: walks -/
section WA42
variable {P : PD} {s : Nat → Int32} {M : Mem} {fu k d c N V T E D p : Nat} {st : Nat → Nat → Int32}
variable {L e f : Nat} {xs : Nat → Int32} {x5 x6 x7 x8 x9 x10 x11 x12 x13 x14 x15 x17 : Int32}
variable {k1824 : Int32 → Int32 → Int32 → Int32 → Int32 → Int32 → Int32 → Int32 → Int32 → Mem → Option (Mem × Int32)}
theorem l1903 {j : Nat} (hfu : 10000 ≤ fu) (h : St P s M) (hT2 : T < 2 ^ P.1) (hT : T &&& lB P s = T) (wk : wkD P s T E D) (hj : j ≤ 4) (hp : p < 10) (e0 : s 0 = nI p) (eh : hpl s = p) : ∀ (e i f b : Nat) (v : Int32), i + e = P.1 → e < f → b ≤ 1 → (b = 0 → T ≠ 0 ∧ ∀ k, k < i → T.testBit k = true → E ≠ ps s k) → ∃ v', f9_law_1903 L xs fu k1824 f (nI P.1) x5 x7 (s 0) x9 x10 x11 x15 (nI j) (nI T) (nI D) (nI E) (nI b) (nI i) (sI M 28 6 v) = k1824 (nI P.1) x5 x7 (s 0) x9 x10 x11 x15 (nI (j + 1)) (sI M 28 6 v') := by
  have hP := h.1
  have h8 := hP.1
  have h256 := pow8 h8
  obtain ⟨w1, w2, w3, w4, w5, w6⟩ := wk
  intro e
  induction e with
  | zero =>
    intro i f b v hi hf hb hb0
    rcases f with _ | f
    · omega
    have : i = P.1 := by omega
    subst this
    have b1 : b ≠ 0 := fun q => by
      obtain ⟨t0, tk⟩ := hb0 q
      obtain ⟨k, k1, k2, k3⟩ := w5 t0
      exact tk k k1 k2 k3
    refine ⟨v, ?_⟩
    rw [f9_law_1903]
    dsimp only
    rw [if_pos (Int32.le_refl _), if_neg (ne_0 (by omega) b1), if_pos (show nI D ≤ (18 : Int32) from le_t (b := 18) (by omega) (by omega) w3), nm_u, ad1]
  | succ e ih =>
    intro i f b v hi hf hb hb0
    rcases f with _ | f
    · omega
    have hi1 : i < P.1 := by omega
    have p1 : ∀ v, f4_pin (nI i) (1 : Int32) (sI M 28 6 v) = some (sI M 28 6 (tv P s i 1), nI 1) := pinE h hi1 (w := 1) (by omega) rfl
    rw [f9_law_1903]
    dsimp only
    rw [if_neg (le_f (by omega) (by omega) (by omega)), p1, bS]
    dsimp only
    rw [told1, bS]
    cases bt : T.testBit i
    · obtain ⟨v', r⟩ := ih (i + 1) f b (tv P s i 1) (by omega) (by omega) hb (fun q => by
        obtain ⟨t0, tk⟩ := hb0 q
        refine ⟨t0, fun k k1 k2 => ?_⟩
        by_cases c : k = i
        · rw [c, bt] at k2; cases k2
        · exact tk k (by omega) k2)
      refine ⟨v', ?_⟩
      rw [if_pos (bF0 bt (by omega) (by omega)), nm_u, ad1]
      exact r
    · obtain ⟨q1, q2, q3⟩ := w6 i hi1 bt
      have ly := sub_tb hT bt
      rw [msk_tbk hi1] at ly
      have tv1 : tv P s i 1 = nI (ps s i) := by
        rw [← q2]
        simp [tv, ly]
      have l1 : (2 ^ i) &&& lB P s = 2 ^ i := tb_sub (fun z hz => by
        rw [p2_tb] at hz
        simp at hz
        rw [← hz]
        exact sub_tb hT bt)
      have wl := walk_1 hfu (h.s28 6 (nI (ps s i))) hi1 l1
      rw [s28_28] at wl
      have dl : dst (hpl s) (ps s i) ≤ 18 := by omega
      have e1 : (1 : Int32) <<< (nI i &&& 31) = nI (2 ^ i) := sh1 (by omega)
      have l1973 : ∀ b' : Nat, b' ≤ 1 → (b' = 0 → T ≠ 0 ∧ ∀ k, k < i + 1 → T.testBit k = true → E ≠ ps s k) → ∃ v', f9_law_1973 L xs fu k1824 (f9_law_1903 L xs fu k1824 f) (nI P.1) x5 x7 (s 0) x9 x10 x11 x15 (nI j) (nI T) (nI D) (nI E) (nI b') (nI i) (nI (ps s i)) (nI (dst (hpl s) (ps s i))) (sI M 28 6 (nI (ps s i))) = k1824 (nI P.1) x5 x7 (s 0) x9 x10 x11 x15 (nI (j + 1)) (sI M 28 6 v') := by
        intro b' hb' hb0'
        obtain ⟨v', r⟩ := ih (i + 1) f b' (nI (ps s i)) (by omega) (by omega) hb' hb0'
        refine ⟨v', ?_⟩
        unfold f9_law_1973
        rw [if_neg (lt_f (by omega) (by omega) (by omega)), e1, wl, bS]
        dsimp only
        rw [if_pos rfl, asked1, bS, if_pos rfl, nm_u, ad1]
        exact r
      have l1950 : ∀ a : Nat, a ≤ 1 → (b ||| a = 0 → T ≠ 0 ∧ ∀ k, k < i + 1 → T.testBit k = true → E ≠ ps s k) → ∃ v', f9_law_1950 L xs fu k1824 (f9_law_1903 L xs fu k1824 f) (nI P.1) x5 x7 (s 0) x9 x10 x11 x15 (nI j) (nI T) (nI D) (nI E) (nI i) (nI (ps s i)) (nI a) (nI b) (sI M 28 6 (nI (ps s i))) = k1824 (nI P.1) x5 x7 (s 0) x9 x10 x11 x15 (nI (j + 1)) (sI M 28 6 v') := by
        intro a ha hab
        have hba : b ||| a ≤ 1 := by
          have : b = 0 ∨ b = 1 := by omega
          have : a = 0 ∨ a = 1 := by omega
          rcases ‹b = 0 ∨ b = 1› with rfl | rfl <;> rcases ‹a = 0 ∨ a = 1› with rfl | rfl <;> decide
        obtain ⟨v', r⟩ := l1973 (b ||| a) hba hab
        refine ⟨v', ?_⟩
        unfold f9_law_1950
        rw [nm_u, ior]
        unfold dst at r
        rw [eh] at r
        rw [e0] at r ⊢
        by_cases c : p ≤ ps s i
        · rw [if_pos c] at r
          rw [if_pos (le_t (by omega) (by omega) c), pk_sub c]
          exact r
        · rw [if_neg c] at r
          rw [if_neg (le_f (by omega) (by omega) c), pk_sub (by omega)]
          exact r
      rw [tv1]
      rw [if_neg (bT0 bt (by omega) (by omega))]
      by_cases c : ps s i = E
      · obtain ⟨v', r⟩ := l1950 1 (by omega) (fun q => by
          have : b = 0 ∨ b = 1 := by omega
          rcases this with rfl | rfl <;> exact absurd q (by decide))
        refine ⟨v', ?_⟩
        rw [if_pos (by rw [c])]
        exact r
      · obtain ⟨v', r⟩ := l1950 0 (by omega) (fun q => by
          rw [Nat.or_zero] at q
          obtain ⟨t0, tk⟩ := hb0 q
          refine ⟨t0, fun k k1 k2 => ?_⟩
          by_cases c2 : k = i
          · rw [c2]; exact fun q => c q.symm
          · exact tk k (by omega) k2)
        refine ⟨v', ?_⟩
        rw [if_neg (fun q => c ((nI_eq (by omega) (by omega)).mp q))]
        exact r
theorem l1824 (hL : L ≤ 260) (hfu : 10000 ≤ fu) (h : St P s M) : ∀ (e j f : Nat) (v : Int32), j + e = 5 → e < f → ∃ v', f9_law_1824 L xs fu f (nI P.1) (nI (2 ^ P.1 - 1)) x7 (s 0) x9 (nI (lB P s)) x11 x15 (nI j) (sI M 28 6 v) = (f4_busy fu (sI M 28 6 v')).bind fun ⟨M3, r4⟩ => (f4_row fu (2 : Int32) (13 : Int32) M3).bind fun ⟨M6, r7⟩ => if r7 = (13 : Int32) then ((f9_law_2055 L xs fu fu (nI P.1) (nI (2 ^ P.1 - 1)) x7 (s 0) x9 (nI (lB P s)) x11 x15 r4 (0 : Int32) M6)) else ((some (M6, (0 : Int32)))) := by
  have hP := h.1
  have h8 := hP.1
  have h256 := pow8 h8
  have hpos := Nat.two_pow_pos P.1
  have bL := lB_lt (P := P) (s := s) h8
  obtain ⟨p, hp, e0, eh⟩ := h.h0
  intro e
  induction e with
  | zero =>
    intro j f v hj hf
    rcases f with _ | f
    · omega
    have : j = 5 := by omega
    subst this
    refine ⟨v, ?_⟩
    rw [f9_law_1824]
    dsimp only
    rw [if_pos (show (5 : Int32) ≤ nI 5 from Int32.le_refl _)]
  | succ e ih =>
    intro j f v hj hf
    rcases f with _ | f
    · omega
    obtain ⟨x, hx⟩ := cell_s (xs := xs) hL (k := 35 + j) (by omega)
    have ea : (35 : Int32) + nI j = nI (35 + j) := nI_add 35 j
    have eb : nI (2 ^ P.1 - 1) + (1 : Int32) = nI (2 ^ P.1) := by
      rw [ad1]
      congr 1
      omega
    obtain ⟨T, hT2, pT⟩ := part_s x (n := 2 ^ P.1) hpos (by omega)
    rw [f9_law_1824]
    dsimp only
    rw [if_neg (show ¬ (5 : Int32) ≤ nI j from le_f (a := 5) (by omega) (by omega) (by omega)), ea, hx, bS, eb, pT, bS]
    by_cases hT : T &&& lB P s = T
    · obtain ⟨E, D, wk, wl⟩ := walk_s hfu (h.s28 6 v) hT2 hT
      rw [s28_28] at wl
      have an : (nI T &&& (nI (lB P s) ^^^ (-1 : Int32))) = (0 : Int32) := by
        show nI T &&& (nI (lB P s) ^^^ -nI 1) = nI 0
        rw [andnot, hT, Nat.xor_self]
      rw [wl, bS]
      dsimp only
      rw [asked1, bS, if_pos an]
      by_cases t0 : T = 0
      · have e1 := (wk.2.2.2.1 t0).1
        obtain ⟨v', r⟩ := l1903 (L := L) (xs := xs) (k1824 := f9_law_1824 L xs fu f) (x5 := nI (2 ^ P.1 - 1)) (x7 := x7) (x9 := x9) (x10 := nI (lB P s)) (x11 := x11) (x15 := x15) hfu h hT2 hT wk (show j ≤ 4 by omega) hp e0 eh P.1 0 fu 1 (nI E) (by omega) (by omega) (by omega) (fun q => by omega)
        obtain ⟨v2, r2⟩ := ih (j + 1) f v' (by omega) (by omega)
        refine ⟨v2, ?_⟩
        rw [if_pos (show nI T = (0 : Int32) by rw [t0]; rfl), if_pos e1]
        exact r.trans r2
      · obtain ⟨v', r⟩ := l1903 (L := L) (xs := xs) (k1824 := f9_law_1824 L xs fu f) (x5 := nI (2 ^ P.1 - 1)) (x7 := x7) (x9 := x9) (x10 := nI (lB P s)) (x11 := x11) (x15 := x15) hfu h hT2 hT wk (show j ≤ 4 by omega) hp e0 eh P.1 0 fu 0 (nI E) (by omega) (by omega) (by omega) (fun _ => ⟨t0, fun k hk => absurd hk (by omega)⟩)
        obtain ⟨v2, r2⟩ := ih (j + 1) f v' (by omega) (by omega)
        refine ⟨v2, ?_⟩
        rw [if_neg (ne_0 (by omega) t0)]
        exact r.trans r2
    · have wl := walk_no (fu := fu) (h.s28 6 v) hT2 hT
      obtain ⟨v2, r2⟩ := ih (j + 1) f v (by omega) (by omega)
      have an : ¬ (nI T &&& (nI (lB P s) ^^^ (-1 : Int32))) = (0 : Int32) := by
        have := sub_f (i := T) (S := lB P s) (by omega) hT
        show ¬ nI T &&& (nI (lB P s) ^^^ -nI 1) = nI 0
        rw [andnot, this]
        exact fun q => q
      refine ⟨v2, ?_⟩
      rw [wl, bS]
      dsimp only
      rw [asked1, bS, if_neg an, if_pos (show -nI 4 = (-4 : Int32) from rfl), nm_u, ad1]
      exact r2
end WA42
