/-! 55: a pin is read -/
def rg (f v : Nat) : Prop := v < 10 ∧ (f = 0 → v < 6) ∧ (f = 3 → 1 ≤ v ∧ v ≤ 4)
/-- what both have read: q pins, and sg signs of the next one -/
def PQ (q sg : Nat) (MM MC : Mem) : Prop := ∀ k f, f < 5 → (k < q ∨ (k = q ∧ f < sg)) → ∃ v, rg f v ∧ MM.1 13 (5 * k + f) = nI v ∧ MC.1 (36 + f) k = nI v
def CSr (q : Nat) (M0 M : Mem) : Prop := M.1 35 0 = nI q ∧ (∀ p, p < 35 ∨ 40 < p → M.1 p = M0.1 p) ∧ M.2 = M0.2
theorem PQ.next {q : Nat} {MM MC : Mem} (h : PQ q 5 MM MC) : PQ (q + 1) 0 MM MC := by
  intro k f hf hk
  exact h k f hf (by omega)
theorem PQ.zero {q : Nat} {MM MC : Mem} (h : PQ q 0 MM MC) : ∀ k f, f < 5 → k < q → ∃ v, rg f v ∧ MM.1 13 (5 * k + f) = nI v ∧ MC.1 (36 + f) k = nI v := fun k f hf hk => h k f hf (Or.inl hk)
theorem PQ.cg {q sg : Nat} {MM MC MM' MC' : Mem} (h : PQ q sg MM MC) (a : MM'.1 13 = MM.1 13) (b : ∀ f, f < 5 → MC'.1 (36 + f) = MC.1 (36 + f)) : PQ q sg MM' MC' := by
  intro k f hf hk
  rw [a, b f hf]
  exact h k f hf hk
theorem PQ.add {q sg v : Nat} {MM MC : Mem} (h : PQ q sg MM MC) (hs : sg < 5) (hr : rg sg v) : PQ q (sg + 1) (sI MM 13 (5 * q + sg) (nI v)) (sI MC (36 + sg) q (nI v)) := by
  intro k f hf hk
  by_cases e : k = q ∧ f = sg
  · obtain ⟨rfl, rfl⟩ := e
    exact ⟨v, hr, g1, g1⟩
  · obtain ⟨w, w1, w2, w3⟩ := h k f hf (by omega)
    refine ⟨w, w1, ?_, ?_⟩
    · rw [g3 (by omega)]; exact w2
    · by_cases e2 : f = sg
      · subst e2; rw [g3 (by omega)]; exact w3
      · rw [g2 (by omega)]; exact w3
theorem CSr.at {q p x : Nat} {v : Int32} {M0 M : Mem} (h : CSr q M0 M) (hp : 36 ≤ p) (hp2 : p ≤ 40) : CSr q M0 (sI M p x v) := by
  obtain ⟨a1, a2, a3⟩ := h
  exact ⟨by rw [g2 (by omega)]; exact a1, fun y hy => by rw [g2 (by omega)]; exact a2 y hy, a3⟩
theorem CSr.pin {q : Nat} {M0 M : Mem} (h : CSr q M0 M) : CSr (q + 1) M0 (sI M 35 0 (nI (q + 1))) := by
  obtain ⟨a1, a2, a3⟩ := h
  exact ⟨g1, fun y hy => by rw [g2 (by omega)]; exact a2 y hy, a3⟩
section FF
variable {t N fu : Nat} {MC M0 M : Mem} {b : Nat → Int32}
theorem gk10 {t : Nat} (ht : t < 4) : gd (decide (t + 6 < 10)) = some () := by
  have : t + 6 < 10 := by omega
  simp [gd, this]
theorem ff_end {q sg f : Nat} (ht : t < 4) (hN : N ≤ 60) (hsz : MC.1 (t + 6) 0 = nI N) (hq : q ≤ 8) (hs : sg < 5) : f4_firstFault_6 MC fu (f + 1) (t + 6) (nI q) (nI sg) (nI N) = if 0 < sg then some (nI N) else if q = 0 then some (nI N) else some (-nI 9) := by
  rw [f4_firstFault_6]
  dsimp only
  rw [gk10 ht, bS, hsz, if_pos (Int32.le_refl _)]
  by_cases c : 0 < sg
  · have t1 : (0 : Int32) < nI sg := by
      show nI 0 < nI sg
      rw [nlt (by omega) (by omega)]; exact c
    rw [if_pos t1, if_pos c]
  · have t1 : ¬ (0 : Int32) < nI sg := by
      show ¬ nI 0 < nI sg
      rw [nlt (by omega) (by omega)]; exact c
    rw [if_neg t1, if_neg c]
    by_cases d : q = 0
    · subst d
      rw [if_pos tP0, if_pos rfl]
    · have t2 : ¬ nI q = (0 : Int32) := by
        show ¬ nI q = nI 0
        rw [neq (by omega) (by omega)]; exact d
      rw [if_neg t2, if_neg d]
      rfl
theorem ff_in {q sg i f : Nat} (ht : t < 4) (hN : N ≤ 60) (hsz : MC.1 (t + 6) 0 = nI N) (hb : ∀ i, i < N → MC.1 (t + 6 + 10) i = b i) (hi : i < N) (hs : sg < 5) : f4_firstFault_6 MC fu (f + 1) (t + 6) (nI q) (nI sg) (nI i) = if 0 < sg then f4_firstFault_32 MC fu (f4_firstFault_6 MC fu f) (t + 6) (nI q) (nI sg) (nI i) (b i) else if b i = nI 32 then f4_firstFault_6 MC fu f (t + 6) (nI q) (nI sg) (nI (i + 1)) else f4_firstFault_32 MC fu (f4_firstFault_6 MC fu f) (t + 6) (nI q) (nI sg) (nI i) (b i) := by
  have t0 : ¬ nI N ≤ nI i := by rw [nle (by omega) (by omega)]; omega
  have c1 := cellAt_in (M := MC) (p := t + 6) (i := i) (by omega) (by omega)
  rw [hb i hi] at c1
  rw [f4_firstFault_6]
  dsimp only
  rw [gk10 ht, bS, hsz, if_neg t0, c1, bS]
  by_cases c : 0 < sg
  · have t1 : (0 : Int32) < nI sg := by
      show nI 0 < nI sg
      rw [nlt (by omega) (by omega)]; exact c
    rw [if_pos t1, if_pos c]
  · have t1 : ¬ (0 : Int32) < nI sg := by
      show ¬ nI 0 < nI sg
      rw [nlt (by omega) (by omega)]; exact c
    rw [if_neg t1, if_neg c]
    by_cases d : b i = nI 32
    · have d' : b i = (32 : Int32) := d
      rw [if_pos d', if_pos d, nm_u, ad1]
    · have d' : ¬ b i = (32 : Int32) := d
      rw [if_neg d', if_neg d]
theorem ff32_full {q sg i : Nat} {c : Int32} {k6 : Nat → Int32 → Int32 → Int32 → Option Int32} (hq : 8 ≤ q) (hq2 : q < 100) : f4_firstFault_32 MC fu k6 (t + 6) (nI q) (nI sg) (nI i) c = some (nI i) := by
  have t1 : (8 : Int32) ≤ nI q := by
    show nI 8 ≤ nI q
    rw [nle (by omega) (by omega)]; exact hq
  unfold f4_firstFault_32
  rw [if_pos t1]
theorem ff32_bad {q sg i : Nat} {c : Int32} {k6 : Nat → Int32 → Int32 → Int32 → Option Int32} (hq : q < 8) (h : f4_isSign MC fu (nI sg) c = some (nI 0)) : f4_firstFault_32 MC fu k6 (t + 6) (nI q) (nI sg) (nI i) c = some (nI i) := by
  have t1 : ¬ (8 : Int32) ≤ nI q := by
    show ¬ nI 8 ≤ nI q
    rw [nle (by omega) (by omega)]; omega
  unfold f4_firstFault_32
  rw [if_neg t1, h, bS, if_pos tP0]
theorem ff32_ok {q sg i : Nat} {c : Int32} {k6 : Nat → Int32 → Int32 → Int32 → Option Int32} (hq : q < 8) (hs : sg < 4) (h : f4_isSign MC fu (nI sg) c = some (nI 1)) : f4_firstFault_32 MC fu k6 (t + 6) (nI q) (nI sg) (nI i) c = k6 (t + 6) (nI q) (nI (sg + 1)) (nI (i + 1)) := by
  have t1 : ¬ (8 : Int32) ≤ nI q := by
    show ¬ nI 8 ≤ nI q
    rw [nle (by omega) (by omega)]; omega
  have t2 : ¬ nI (sg + 1) = (5 : Int32) := by
    show ¬ nI (sg + 1) = nI 5
    rw [neq (by omega) (by omega)]; omega
  unfold f4_firstFault_32
  rw [if_neg t1, h, bS, if_neg tN0, nm_u, ad1, if_neg t2, nm_u, ad1]
theorem ff32_last {q i : Nat} {c : Int32} {k6 : Nat → Int32 → Int32 → Int32 → Option Int32} (hq : q < 8) (h : f4_isSign MC fu (nI 4) c = some (nI 1)) : f4_firstFault_32 MC fu k6 (t + 6) (nI q) (nI 4) (nI i) c = k6 (t + 6) (nI (q + 1)) (nI 0) (nI (i + 1)) := by
  have t1 : ¬ (8 : Int32) ≤ nI q := by
    show ¬ nI 8 ≤ nI q
    rw [nle (by omega) (by omega)]; omega
  have t2 : nI (4 + 1) = (5 : Int32) := rfl
  unfold f4_firstFault_32
  rw [if_neg t1, h, bS, if_neg tN0, nm_u, ad1, if_pos t2, nm_u, nm_u, ad1, ad1]
  rfl
/-- the class, taking a figure -/
theorem take_fig {q sg d : Nat} (hq : q < 8) (h1 : 1 ≤ sg) (h4 : sg ≤ 4) (h : CSr q M0 M) : f2_takeSign fu (nI sg) (nI (48 + d)) M = some (sI M (36 + sg) q (nI d)) := by
  have t1 : ¬ nI q < (0 : Int32) := by
    show ¬ nI q < nI 0
    rw [nlt (by omega) (by omega)]; omega
  have t2 : nI q < (8 : Int32) := by
    show nI q < nI 8
    rw [nlt (by omega) (by omega)]; omega
  have e3 : nI (48 + d) - (48 : Int32) = nI d := fig_sub
  unfold f2_takeSign
  rw [h.1, if_neg t1, if_pos t2, e3]
  rcases (show sg = 1 ∨ sg = 2 ∨ sg = 3 ∨ sg = 4 by omega) with rfl | rfl | rfl | rfl
  · rw [if_neg (show ¬ nI 1 = (0 : Int32) by decide), if_pos (show nI 1 = (1 : Int32) from rfl), wr_n (by omega) (by omega), bS]
  · rw [if_neg (show ¬ nI 2 = (0 : Int32) by decide), if_neg (show ¬ nI 2 = (1 : Int32) by decide), if_pos (show nI 2 = (2 : Int32) from rfl), wr_n (by omega) (by omega), bS]
  · rw [if_neg (show ¬ nI 3 = (0 : Int32) by decide), if_neg (show ¬ nI 3 = (1 : Int32) by decide), if_neg (show ¬ nI 3 = (2 : Int32) by decide), if_pos (show nI 3 = (3 : Int32) from rfl), wr_n (by omega) (by omega), bS]
  · rw [if_neg (show ¬ nI 4 = (0 : Int32) by decide), if_neg (show ¬ nI 4 = (1 : Int32) by decide), if_neg (show ¬ nI 4 = (2 : Int32) by decide), if_neg (show ¬ nI 4 = (3 : Int32) by decide), wr_n (by omega) (by omega), bS]
theorem take_let {q v : Nat} {c : Int32} (hq : q < 8) (hk : f4_kindOfLetter M fu c = some (nI v)) (h : CSr q M0 M) : f2_takeSign fu (nI 0) c M = some (sI M 36 q (nI v)) := by
  have t1 : ¬ nI q < (0 : Int32) := by
    show ¬ nI q < nI 0
    rw [nlt (by omega) (by omega)]; omega
  have t2 : nI q < (8 : Int32) := by
    show nI q < nI 8
    rw [nlt (by omega) (by omega)]; omega
  unfold f2_takeSign
  rw [h.1, if_neg t1, if_pos t2, if_pos tP0, hk, bS, wr_n (by omega) (by omega), bS]
theorem rd_in {q sg i f : Nat} (ht : t < 4) (hN : N ≤ 60) (hsz : M0.1 (t + 6) 0 = nI N) (hb : ∀ i, i < N → M0.1 (t + 6 + 10) i = b i) (h : CSr q M0 M) (hq : q < 8) (hi : i < N) (hc : ¬ b i = nI 32) : f2_read_9 fu (f + 1) (t + 6) (nI sg) (nI i) M = (f2_takeSign fu (nI sg) (b i) M).bind fun M9 => if nI (sg + 1) = (5 : Int32) then f2_read_9 fu f (t + 6) (0 : Int32) (nI (i + 1)) (sI M9 35 0 ((M9.1 35 0) + (1 : Int32))) else f2_read_9 fu f (t + 6) (nI (sg + 1)) (nI (i + 1)) M9 := by
  have t0 : ¬ nI N ≤ nI i := by rw [nle (by omega) (by omega)]; omega
  have t2 : ¬ (8 : Int32) ≤ nI q := by
    show ¬ nI 8 ≤ nI q
    rw [nle (by omega) (by omega)]; omega
  have c1 := cellAt_in (M := M) (p := t + 6) (i := i) (by omega) (by omega)
  rw [h.2.1 (t + 6 + 10) (by omega), hb i hi] at c1
  have hc' : ¬ b i = (32 : Int32) := hc
  have hsz2 : M.1 (t + 6) 0 = nI N := by rw [h.2.1 (t + 6) (by omega)]; exact hsz
  rw [f2_read_9]
  dsimp only
  rw [gk10 ht, bS, hsz2, if_neg t0, h.1, if_neg t2, c1, bS, if_neg hc']
  simp only [nm_u, ad1]
/-- blanks are passed by the class -/
theorem rd_blank {q i f : Nat} (ht : t < 4) (hN : N ≤ 60) (hsz : M0.1 (t + 6) 0 = nI N) (hb : ∀ i, i < N → M0.1 (t + 6 + 10) i = b i) (h : CSr q M0 M) (hq : q < 8) (hi : i < N) (hc : b i = nI 32) : f2_read_9 fu (f + 1) (t + 6) (nI 0) (nI i) M = f2_read_9 fu f (t + 6) (nI 0) (nI (i + 1)) M := by
  have t0 : ¬ nI N ≤ nI i := by rw [nle (by omega) (by omega)]; omega
  have t2 : ¬ (8 : Int32) ≤ nI q := by
    show ¬ nI 8 ≤ nI q
    rw [nle (by omega) (by omega)]; omega
  have c1 := cellAt_in (M := M) (p := t + 6) (i := i) (by omega) (by omega)
  rw [h.2.1 (t + 6 + 10) (by omega), hb i hi] at c1
  have hc' : b i = (32 : Int32) := hc
  have hsz2 : M.1 (t + 6) 0 = nI N := by rw [h.2.1 (t + 6) (by omega)]; exact hsz
  rw [f2_read_9]
  dsimp only
  rw [gk10 ht, bS, hsz2, if_neg t0, h.1, if_neg t2, c1, bS, if_pos hc', nm_u, ad1]
theorem rd_end {q sg f : Nat} (ht : t < 4) (hsz : M0.1 (t + 6) 0 = nI N) (h : CSr q M0 M) : f2_read_9 fu (f + 1) (t + 6) (nI sg) (nI N) M = f2_read_75 fu fu (nI 0) M := by
  have hsz2 : M.1 (t + 6) 0 = nI N := by rw [h.2.1 (t + 6) (by omega)]; exact hsz
  rw [f2_read_9]
  dsimp only
  rw [gk10 ht, bS, hsz2, if_pos (Int32.le_refl _)]
  rfl
theorem rd_full {i sg f : Nat} (ht : t < 4) (h : CSr 8 M0 M) : f2_read_9 fu (f + 1) (t + 6) (nI sg) (nI i) M = f2_read_75 fu fu (nI 0) M := by
  have t2 : (8 : Int32) ≤ nI 8 := Int32.le_refl _
  rw [f2_read_9]
  dsimp only
  rw [gk10 ht, bS]
  by_cases c : M.1 (t + 6) 0 ≤ nI i
  · rw [if_pos c]
    rfl
  · rw [if_neg c, h.1, if_pos t2]
    rfl
/-- the reference, one sign -/
theorem rp_s {sg f : Nat} (h1 : 1 ≤ sg) (h4 : sg ≤ 4) : f5_readsPin_49 fu (f + 1) (nI sg) M = f5_readsPin_76 fu (f5_readsPin_49 fu f) (nI sg) (nI (hiS sg)) (nI (loS sg)) M := by
  have t1 : ¬ (5 : Int32) ≤ nI sg := by
    show ¬ nI 5 ≤ nI sg
    rw [nle (by omega) (by omega)]; omega
  rw [f5_readsPin_49]
  dsimp only
  rw [if_neg t1]
  unfold f5_readsPin_65
  by_cases c : sg = 3
  · have t3 : nI sg = (3 : Int32) := by rw [sg_3 h4]; exact c
    rw [if_pos t3, if_pos t3, show hiS sg = 4 from if_pos c, show loS sg = 1 from if_pos c]
    rfl
  · have t3 : ¬ nI sg = (3 : Int32) := by rw [sg_3 h4]; exact c
    rw [if_neg t3, if_neg t3, show hiS sg = 9 from if_neg c, show loS sg = 0 from if_neg c]
    rfl
theorem rp_bad {sg : Nat} {k49 : Int32 → Mem → Option (Mem × Int32)} (h : f5_isFigure (nI (loS sg)) (nI (hiS sg)) M = some (M, nI 0)) : f5_readsPin_76 fu k49 (nI sg) (nI (hiS sg)) (nI (loS sg)) M = some (M, nI 0) := by
  unfold f5_readsPin_76
  rw [h, bS]
  dsimp only
  rw [if_pos tP0]
  rfl
theorem rp_ok {sg q d i : Nat} {k49 : Int32 → Mem → Option (Mem × Int32)} (hq : q < 8) (h4 : sg ≤ 4) (h22 : M.1 0 22 = nI q) (h : f5_isFigure (nI (loS sg)) (nI (hiS sg)) M = some (sI (sI M 0 21 (nI d)) 0 18 (nI (i + 1)), nI 1)) : f5_readsPin_76 fu k49 (nI sg) (nI (hiS sg)) (nI (loS sg)) M = k49 (nI (sg + 1)) (sI (sI (sI M 0 21 (nI d)) 0 18 (nI (i + 1))) 13 (5 * q + sg) (nI d)) := by
  have w1 : wr (sI (sI M 0 21 (nI d)) 0 18 (nI (i + 1))) 13 40 ((5 : Int32) * nI q + nI sg) (nI d) = some (sI (sI (sI M 0 21 (nI d)) 0 18 (nI (i + 1))) 13 (5 * q + sg) (nI d)) := by
    show wr _ 13 40 (nI 5 * nI q + nI sg) (nI d) = _
    rw [pk_mul, nI_add, wr_n (by omega) (by omega)]
  have v1 : (sI (sI M 0 21 (nI d)) 0 18 (nI (i + 1))).1 0 22 = nI q := by rw [g3 (by omega), g3 (by omega)]; exact h22
  have v2 : (sI (sI M 0 21 (nI d)) 0 18 (nI (i + 1))).1 0 21 = nI d := by rw [g3 (by omega), g1]
  unfold f5_readsPin_76
  rw [h, bS]
  dsimp only
  rw [if_neg tN0, v1, v2, w1, bS, nm_u, ad1]
theorem rp_e {f q : Nat} (h22 : M.1 0 22 = nI q) : f5_readsPin_49 fu (f + 1) (nI 5) M = some (sI M 0 22 (nI (q + 1)), nI 1) := by
  have t1 : (5 : Int32) ≤ nI 5 := Int32.le_refl _
  rw [f5_readsPin_49]
  dsimp only
  rw [if_pos t1, nm_u, h22, ad1]
  rfl
end FF
