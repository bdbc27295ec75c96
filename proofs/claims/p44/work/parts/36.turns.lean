/-! 36: all turns -/
section TU36
variable {P : PD} {s : Nat → Int32} {M : Mem} {fu k d c : Nat} {st : Nat → Nat → Int32}
variable {L e f : Nat} {xs : Nat → Int32} {k69 : Int32 → Int32 → Int32 → Int32 → Mem → Option (Mem × Int32)} {x5 x6 x7 x8 x9 x10 x11 x12 x13 x14 x15 x17 : Int32}
theorem le_t {a b : Nat} (ha : a < 2147483648) (hb : b < 2147483648) (h : a ≤ b) : nI a ≤ nI b := by rw [nle ha hb]; exact h
theorem le_f {a b : Nat} (ha : a < 2147483648) (hb : b < 2147483648) (h : ¬ a ≤ b) : ¬ nI a ≤ nI b := by rw [nle ha hb]; exact h
theorem lt_t {a b : Nat} (ha : a < 2147483648) (hb : b < 2147483648) (h : a < b) : nI a < nI b := by rw [nlt ha hb]; exact h
theorem lt_f {a b : Nat} (ha : a < 2147483648) (hb : b < 2147483648) (h : ¬ a < b) : ¬ nI a < nI b := by rw [nlt ha hb]; exact h
theorem ne_0 {a : Nat} (ha : a < 2147483648) (h : a ≠ 0) : ¬ nI a = (0 : Int32) := nI_ne0 (by omega) ha
theorem t_186 (hfu : 10000 ≤ fu) (hI : Iv P d st M) (hd : d < 40) (hc : c < 1000) (hk : k < P.1) (v : Int32) : TR P k69 x6 c d M (f9_law_186 L xs fu k69 (nI P.1) (nI (2 ^ P.1 - 1)) x6 (nI c) x8 (nI d) (st d 0) (nI (hB P (st d))) (nI (lB P (st d))) (nI (wB P (st d))) (nI k) (sI M 28 6 v)) := by
  have h8 := hI.1.1.1
  have p1 : ∀ v, f4_pin (nI k) (1 : Int32) (sI M 28 6 v) = some (sI M 28 6 (tv P (st d) k 1), nI 1) := pinE hI.1 hk (w := 1) (by omega) rfl
  obtain ⟨j, hj, pj⟩ := part_s x8 (n := 12) (by omega) (by omega)
  have pj' : f9_part x8 (12 : Int32) = some (nI j) := pj
  obtain ⟨a, ha, pa⟩ := part_s (x8 >>> ((12 : Int32) &&& 31)) (n := 3) (by omega) (by omega)
  have pa' : f9_part (x8 >>> ((12 : Int32) &&& 31)) (3 : Int32) = some (nI a) := pa
  obtain ⟨b, hb, pb⟩ := part_s (x8 >>> ((4 : Int32) &&& 31)) (n := P.1) hI.1.2.2.2 (by omega)
  have I2 := hI.s28 6 (tv P (st d) k 1)
  unfold f9_law_186
  rw [p1, bS]
  dsimp only
  rw [told1, bS, pj', bS]
  by_cases c4 : 4 ≤ j
  · rw [if_pos (show (4 : Int32) ≤ nI j from le_t (a := 4) (by omega) (by omega) c4)]
    by_cases c9 : 9 ≤ j
    · rw [if_pos (show (9 : Int32) ≤ nI j from le_t (a := 9) (by omega) (by omega) c9)]
      by_cases c11 : 11 ≤ j
      · rw [if_pos (show (11 : Int32) ≤ nI j from le_t (a := 11) (by omega) (by omega) c11)]
        exact t_sweep hfu hI hd hc hk P.1 0 fu (tv P (st d) k 1) (by omega) (by omega)
      · rw [if_neg (show ¬ (11 : Int32) ≤ nI j from le_f (a := 11) (by omega) (by omega) c11), pb, bS]
        exact (t_drop hfu I2 hd hc hk hb).s28
    · rw [if_neg (show ¬ (9 : Int32) ≤ nI j from le_f (a := 9) (by omega) (by omega) c9)]
      exact (t_pick hfu I2 hd hc hk).s28
  · rw [if_neg (show ¬ (4 : Int32) ≤ nI j from le_f (a := 4) (by omega) (by omega) c4), pa', bS]
    by_cases a0 : a = 0
    · rw [if_pos (show nI a = (0 : Int32) by rw [a0]; rfl)]
      exact (t_step hfu I2 hd hc hk (-1 : Int32) (Or.inr rfl)).s28
    · rw [if_neg (ne_0 (by omega) a0)]
      exact (t_step hfu I2 hd hc hk (1 : Int32) (Or.inl rfl)).s28
theorem t_136 (hfu : 10000 ≤ fu) (hI : Iv P d st M) (hd : d < 40) (hc : c < 1000) : ∀ (e i f k : Nat) (v : Int32), i + e = 8 → e < f → k < P.1 → TR P k69 x6 c d M (f9_law_136 L xs fu k69 f (nI P.1) (nI (2 ^ P.1 - 1)) x6 (nI c) x8 (nI d) (st d 0) (nI (hB P (st d))) (nI (lB P (st d))) (nI (wB P (st d))) (nI k) (nI i) (sI M 28 6 v)) := by
  have h8 := hI.1.1.1
  have hn := hI.1.2.2.2
  intro e
  induction e with
  | zero =>
    intro i f k v h hf hk
    rcases f with _ | f
    · omega
    have : i = 8 := by omega
    subst this
    rw [f9_law_136]
    dsimp only
    rw [if_pos (show (8 : Int32) ≤ nI 8 from Int32.le_refl _)]
    exact t_186 hfu hI hd hc hk v
  | succ e ih =>
    intro i f k v h hf hk
    rcases f with _ | f
    · omega
    have p1 : ∀ v, f4_pin (nI k) (1 : Int32) (sI M 28 6 v) = some (sI M 28 6 (tv P (st d) k 1), nI 1) := pinE hI.1 hk (w := 1) (by omega) rfl
    obtain ⟨m, hm, pm⟩ := part_s (x8 >>> ((8 : Int32) &&& 31)) (n := 5) (by omega) (by omega)
    have pm' : f9_part (x8 >>> ((8 : Int32) &&& 31)) (5 : Int32) = some (nI m) := pm
    rw [f9_law_136]
    dsimp only
    rw [if_neg (show ¬ (8 : Int32) ≤ nI i from le_f (a := 8) (by omega) (by omega) (by omega)), pm', bS]
    by_cases m0 : m = 0
    · rw [if_pos (show nI m ≤ (0 : Int32) by rw [m0]; exact Int32.le_refl _)]
      exact t_186 hfu hI hd hc hk v
    · rw [if_neg (show ¬ nI m ≤ (0 : Int32) from le_f (b := 0) (by omega) (by omega) (by omega)), p1, bS]
      dsimp only
      rw [told1, bS]
      by_cases q : tv P (st d) k 1 = st d 0
      · rw [if_pos q]
        exact t_186 hfu hI hd hc hk _
      · rw [if_neg q, ad1, rmN (by omega) hn (by omega), bS, nm_u, ad1]
        exact ih (i + 1) f ((k + 1) % P.1) _ (by omega) (by omega) (Nat.mod_lt _ hn)
def JV (P : PD) (d : Nat) (st : Nat → Nat → Int32) (M : Mem) : Prop := Iv P d st M ∧ M.1 20 0 = nI 0 ∧ Hist P (M.1 24) 0 (fun _ => s0P P) ∧ M.1 21 0 = -nI 1 ∧ M.1 22 0 = -nI 1 ∧ Zf P M
theorem JV.kf {d' : Nat} {st' : Nat → Nat → Int32} {M' : Mem} (h : JV P d st M) (hF : KF M M') (hI : Iv P d' st' M') : JV P d' st' M' := by
  obtain ⟨b1, b2, b3, b4, b5, b6⟩ := h
  exact ⟨hI, by rw [hF 20 (by omega)]; exact b2, by rw [hF 24 (by omega)]; exact b3, by rw [hF 21 (by omega)]; exact b4, by rw [hF 22 (by omega)]; exact b5, b6.cg (hF 47 (by omega))⟩
theorem l69_loop {N : Nat} (hL : L ≤ 260) (hfu : 10000 ≤ fu) (hN : N ≤ 23) : ∀ (e i f d : Nat) (st : Nat → Nat → Int32) (M : Mem), i + e = N → e < f → d ≤ i → JV P d st M → ∃ d' st' M' g, f9_law_69 L xs fu f (nI P.1) (nI (2 ^ P.1 - 1)) (nI N) (nI i) M = f9_law_69 L xs fu (g + 1) (nI P.1) (nI (2 ^ P.1 - 1)) (nI N) (nI N) M' ∧ d' ≤ N ∧ JV P d' st' M' := by
  intro e
  induction e with
  | zero =>
    intro i f d st M h hf hd hJ
    rcases f with _ | f
    · omega
    have : i = N := by omega
    subst this
    exact ⟨d, st, M, f, rfl, hd, hJ⟩
  | succ e ih =>
    intro i f d st M h hf hd hJ
    rcases f with _ | f
    · omega
    have hI := hJ.1
    have h8 := hI.1.1.1
    have hn := hI.1.2.2.2
    obtain ⟨x, hx⟩ := cell_s (xs := xs) hL (k := 11 + i) (by omega)
    have c1 : f4_count M fu (1 : Int32) = some (st d 0) := ct1 hI.1
    have c2 : f4_count M fu (2 : Int32) = some (nI d) := by
      have := ct2 (M := M) (fu := fu)
      rw [hI.2.2.1] at this
      exact this
    have c3 : f4_count M fu (3 : Int32) = some (nI (hB P (st d))) := ct3 hI.1
    have c4 : f4_count M fu (4 : Int32) = some (nI (lB P (st d))) := ct4 hI.1
    have c5 : f4_count M fu (5 : Int32) = some (nI (wB P (st d))) := ct5 hI.1
    obtain ⟨b, hb, pb⟩ := part_s (x >>> ((4 : Int32) &&& 31)) (n := P.1) hn (by omega)
    have ea : (11 : Int32) + nI i = nI (11 + i) := nI_add 11 i
    have hT := t_136 (L := L) (xs := xs) (k69 := f9_law_69 L xs fu f) (x6 := nI N) (x8 := x) hfu hI (show d < 40 by omega) (show i < 1000 by omega) 8 0 fu b (M.1 28 6) (by omega) (by omega) hb
    rw [s28_id] at hT
    obtain ⟨M1, d1, st1, a1, a2, a3, a4⟩ := hT
    obtain ⟨d2, st2, M2, g, b1, b2, b3⟩ := ih (i + 1) f d1 st1 M1 (by omega) (by omega) (by omega) (hJ.kf a4 a2)
    refine ⟨d2, st2, M2, g, ?_, b2, b3⟩
    rw [f9_law_69]
    dsimp only
    rw [if_neg (le_f (by omega) (by omega) (by omega)), ea, hx, bS, c2, bS, c1, bS, c3, bS, c4, bS, c5, bS, pb, bS]
    exact a1.trans b1
end TU36
