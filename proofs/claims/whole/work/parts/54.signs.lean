/-! 54: signs of a text -/
theorem rdT_n : ∀ i, i < 6 → rdT (nI i) = some (letF i) := by decide +kernel
theorem kl_s {M : Mem} {fu f i : Nat} {c : Int32} (hi : i < 6) : f4_kindOfLetter_2 M fu (f + 1) c (nI i) = if letF i = c then some (nI i) else f4_kindOfLetter_2 M fu f c (nI (i + 1)) := by
  have t1 : ¬ (6 : Int32) ≤ nI i := by
    show ¬ nI 6 ≤ nI i
    rw [nle (by omega) (by omega)]; omega
  rw [f4_kindOfLetter_2]
  dsimp only
  rw [if_neg t1, rdT_n i hi, bS, nm_u, ad1]
theorem kl_e {M : Mem} {fu f : Nat} {c : Int32} : f4_kindOfLetter_2 M fu (f + 1) c (nI 6) = some (-nI 9) := by
  have t1 : (6 : Int32) ≤ nI 6 := Int32.le_refl _
  rw [f4_kindOfLetter_2]
  dsimp only
  rw [if_pos t1]
  rfl
theorem kl_a {M : Mem} {fu : Nat} {c : Int32} (hfu : 10000 ≤ fu) : f4_kindOfLetter M fu c = if letF 0 = c then some (nI 0) else if letF 1 = c then some (nI 1) else if letF 2 = c then some (nI 2) else if letF 3 = c then some (nI 3) else if letF 4 = c then some (nI 4) else if letF 5 = c then some (nI 5) else some (-nI 9) := by
  have key : ∀ g, f4_kindOfLetter_2 M fu (g + 7) c (nI 0) = if letF 0 = c then some (nI 0) else if letF 1 = c then some (nI 1) else if letF 2 = c then some (nI 2) else if letF 3 = c then some (nI 3) else if letF 4 = c then some (nI 4) else if letF 5 = c then some (nI 5) else some (-nI 9) := by
    intro g
    rw [kl_s (by omega), kl_s (by omega), kl_s (by omega), kl_s (by omega), kl_s (by omega), kl_s (by omega), kl_e]
  unfold f4_kindOfLetter
  have := key (fu - 7)
  rw [show fu - 7 + 7 = fu by omega] at this
  exact this
/-- both know one and the same kind of a letter -/
theorem kind_cm {M : Mem} {fu : Nat} (c : Int32) (hfu : 10000 ≤ fu) : (∃ v, v < 6 ∧ f4_kindOfLetter M fu c = some (nI v) ∧ f5_kindOf c = some (nI v)) ∨ (f4_kindOfLetter M fu c = some (-nI 9) ∧ f5_kindOf c = some (-nI 9)) := by
  rw [kl_a hfu]
  have e0 : letF 0 = nI 112 := by decide
  have e1 : letF 1 = nI 99 := by decide
  have e2 : letF 2 = nI 108 := by decide
  have e3 : letF 3 = nI 109 := by decide
  have e4 : letF 4 = nI 98 := by decide
  have e5 : letF 5 = nI 119 := by decide
  rw [e0, e1, e2, e3, e4, e5]
  by_cases c0 : nI 112 = c
  · subst c0; exact Or.inl ⟨0, by omega, by decide, by decide⟩
  by_cases c1 : nI 99 = c
  · subst c1; exact Or.inl ⟨1, by omega, by decide, by decide⟩
  by_cases c2 : nI 108 = c
  · subst c2; exact Or.inl ⟨2, by omega, by decide, by decide⟩
  by_cases c3 : nI 109 = c
  · subst c3; exact Or.inl ⟨3, by omega, by decide, by decide⟩
  by_cases c4 : nI 98 = c
  · subst c4; exact Or.inl ⟨4, by omega, by decide, by decide⟩
  by_cases c5 : nI 119 = c
  · subst c5; exact Or.inl ⟨5, by omega, by decide, by decide⟩
  refine Or.inr ⟨?_, ?_⟩
  · rw [if_neg c0, if_neg c1, if_neg c2, if_neg c3, if_neg c4, if_neg c5]
  · unfold f5_kindOf
    rw [if_neg (fun q => c4 q.symm), if_neg (fun q => c1 q.symm), if_neg (fun q => c2 q.symm), if_neg (fun q => c3 q.symm), if_neg (fun q => c0 q.symm), if_neg (fun q => c5 q.symm)]
    rfl
theorem fig_sub {d : Nat} : nI (48 + d) - nI 48 = nI d := by
  rw [pk_sub (by omega), Nat.add_sub_cancel_left]
/-- a figure, or none that is -/
theorem fig_cm {lo hi : Nat} (c : Int32) (hl : lo ≤ hi) (hh : hi ≤ 9) : (∃ d, lo ≤ d ∧ d ≤ hi ∧ c = nI (48 + d)) ∨ ((c - nI 48 < nI lo ∨ (¬ c - nI 48 < nI lo ∧ nI hi < c - nI 48)) ∧ f5_in c.toInt64 (nI (48 + lo)).toInt64 (nI (48 + hi)).toInt64 = some (nI 0)) := by
  have out : (c - nI 48 < nI lo ∨ nI hi < c - nI 48) → f5_in c.toInt64 (nI (48 + lo)).toInt64 (nI (48 + hi)).toInt64 = some (nI 0) := by
    intro q
    rw [in_i, if_neg]
    · rfl
    · rintro ⟨q1, q2⟩
      obtain ⟨j, j1, j2, rfl⟩ := rng (lo := 48 + lo) (hi := 48 + hi) (by omega) (by omega) (Int32.not_lt.mpr q1) (Int32.not_lt.mpr q2)
      obtain ⟨d, rfl⟩ : ∃ d, j = 48 + d := ⟨j - 48, by omega⟩
      rw [fig_sub, nlt (by omega) (by omega), nlt (by omega) (by omega)] at q
      omega
  by_cases a : c - nI 48 < nI lo
  · exact Or.inr ⟨Or.inl a, out (Or.inl a)⟩
  by_cases e : nI hi < c - nI 48
  · exact Or.inr ⟨Or.inr ⟨a, e⟩, out (Or.inr e)⟩
  obtain ⟨d, d1, d2, d3⟩ := rng (by omega) hl a e
  refine Or.inl ⟨d, d1, d2, ?_⟩
  rw [← nI_add, ← d3, Int32.add_comm, Int32.sub_add_cancel]
def loS (sg : Nat) : Nat := if sg = 3 then 1 else 0
def hiS (sg : Nat) : Nat := if sg = 3 then 4 else 9
theorem loS_hi (sg : Nat) : loS sg ≤ hiS sg ∧ hiS sg ≤ 9 := by
  unfold loS hiS
  split <;> omega
theorem sg_ne {sg : Nat} (h1 : 1 ≤ sg) (h4 : sg ≤ 4) : ¬ nI sg = (0 : Int32) := by
  show ¬ nI sg = nI 0
  rw [neq (by omega) (by omega)]; omega
theorem sg_3 {sg : Nat} (h4 : sg ≤ 4) : (nI sg = (3 : Int32)) = (sg = 3) := neq (b := 3) (by omega) (by omega)
theorem sign_ok {M : Mem} {fu sg d : Nat} (h1 : 1 ≤ sg) (h4 : sg ≤ 4) (d1 : loS sg ≤ d) (d2 : d ≤ hiS sg) : f4_isSign M fu (nI sg) (nI (48 + d)) = some (nI 1) := by
  have hh := (loS_hi sg).2
  have e : nI (48 + d) - (48 : Int32) = nI d := fig_sub
  unfold f4_isSign
  rw [if_neg (sg_ne h1 h4), nm_u, e]
  by_cases c : sg = 3
  · have q1 : loS sg = 1 := if_pos c
    have q2 : hiS sg = 4 := if_pos c
    have t1 : ¬ nI d < (1 : Int32) := by
      show ¬ nI d < nI 1
      rw [nlt (by omega) (by omega)]; omega
    have t2 : ¬ (4 : Int32) < nI d := by
      show ¬ nI 4 < nI d
      rw [nlt (by omega) (by omega)]; omega
    rw [if_pos (by rw [sg_3 h4]; exact c), if_neg t1, if_neg t2]
    rfl
  · have q2 : hiS sg = 9 := if_neg c
    have t1 : ¬ nI d < (0 : Int32) := by
      show ¬ nI d < nI 0
      rw [nlt (by omega) (by omega)]; omega
    have t2 : ¬ (9 : Int32) < nI d := by
      show ¬ nI 9 < nI d
      rw [nlt (by omega) (by omega)]; omega
    rw [if_neg (by rw [sg_3 h4]; exact c), if_neg t1, if_neg t2]
    rfl
theorem sign_bad {M : Mem} {fu sg : Nat} {c : Int32} (h1 : 1 ≤ sg) (h4 : sg ≤ 4) (hc : c - nI 48 < nI (loS sg) ∨ (¬ c - nI 48 < nI (loS sg) ∧ nI (hiS sg) < c - nI 48)) : f4_isSign M fu (nI sg) c = some (nI 0) := by
  unfold f4_isSign
  rw [if_neg (sg_ne h1 h4), nm_u]
  by_cases e : sg = 3
  · have q1 : loS sg = 1 := if_pos e
    have q2 : hiS sg = 4 := if_pos e
    rw [q1, q2] at hc
    rw [if_pos (by rw [sg_3 h4]; exact e)]
    rcases hc with a | ⟨a1, a2⟩
    · have a' : c - (48 : Int32) < (1 : Int32) := a
      rw [if_pos a']
      rfl
    · have a' : ¬ c - (48 : Int32) < (1 : Int32) := a1
      have a'' : (4 : Int32) < c - (48 : Int32) := a2
      rw [if_neg a', if_pos a'']
      rfl
  · have q1 : loS sg = 0 := if_neg e
    have q2 : hiS sg = 9 := if_neg e
    rw [q1, q2] at hc
    rw [if_neg (by rw [sg_3 h4]; exact e)]
    rcases hc with a | ⟨a1, a2⟩
    · have a' : c - (48 : Int32) < (0 : Int32) := a
      rw [if_pos a']
      rfl
    · have a' : ¬ c - (48 : Int32) < (0 : Int32) := a1
      have a'' : (9 : Int32) < c - (48 : Int32) := a2
      rw [if_neg a', if_pos a'']
      rfl
/-- the reference, reading -/
def RS (t N i q : Nat) (M0 M : Mem) : Prop := M.1 0 18 = nI i ∧ M.1 0 19 = nI N ∧ M.1 0 20 = nI t ∧ M.1 0 22 = nI q ∧ (∀ p, p ≠ 0 → p ≠ 13 → M.1 p = M0.1 p) ∧ (∀ j, j = 4 ∨ j = 7 ∨ j = 9 ∨ j = 16 → M.1 0 j = M0.1 0 j) ∧ M.2 = M0.2
theorem RS.to {t N i q i' : Nat} {M0 M : Mem} (h : RS t N i q M0 M) : RS t N i' q M0 (sI M 0 18 (nI i')) := by
  obtain ⟨a1, a2, a3, a4, a5, a6, a7⟩ := h
  exact ⟨g1, by rw [g3 (by omega)]; exact a2, by rw [g3 (by omega)]; exact a3, by rw [g3 (by omega)]; exact a4, fun p p0 p13 => by rw [g2 p0]; exact a5 p p0 p13, fun j hj => by rw [g3 (by omega)]; exact a6 j hj, a7⟩
theorem RS.val {t N i q : Nat} {v : Int32} {M0 M : Mem} (h : RS t N i q M0 M) : RS t N i q M0 (sI M 0 21 v) := by
  obtain ⟨a1, a2, a3, a4, a5, a6, a7⟩ := h
  exact ⟨by rw [g3 (by omega)]; exact a1, by rw [g3 (by omega)]; exact a2, by rw [g3 (by omega)]; exact a3, by rw [g3 (by omega)]; exact a4, fun p p0 p13 => by rw [g2 p0]; exact a5 p p0 p13, fun j hj => by rw [g3 (by omega)]; exact a6 j hj, a7⟩
theorem RS.arr {t N i q x : Nat} {v : Int32} {M0 M : Mem} (h : RS t N i q M0 M) : RS t N i q M0 (sI M 13 x v) := by
  obtain ⟨a1, a2, a3, a4, a5, a6, a7⟩ := h
  exact ⟨by rw [g2 (by omega)]; exact a1, by rw [g2 (by omega)]; exact a2, by rw [g2 (by omega)]; exact a3, by rw [g2 (by omega)]; exact a4, fun p p0 p13 => by rw [g2 p13]; exact a5 p p0 p13, fun j hj => by rw [g2 (by omega)]; exact a6 j hj, a7⟩
theorem RS.pin {t N i q : Nat} {M0 M : Mem} (h : RS t N i q M0 M) : RS t N i (q + 1) M0 (sI M 0 22 (nI (q + 1))) := by
  obtain ⟨a1, a2, a3, a4, a5, a6, a7⟩ := h
  exact ⟨by rw [g3 (by omega)]; exact a1, by rw [g3 (by omega)]; exact a2, by rw [g3 (by omega)]; exact a3, g1, fun p p0 p13 => by rw [g2 p0]; exact a5 p p0 p13, fun j hj => by rw [g3 (by omega)]; exact a6 j hj, a7⟩
section HR
variable {t N i q : Nat} {M0 M : Mem} {b : Nat → Int32}
theorem here_in (ht : t < 4) (hN : N ≤ 60) (hb : ∀ i, i < N → M0.1 3 (60 * t + i) = b i) (h : RS t N i q M0 M) (hi : i < N) : f5_here M = some (b i) := by
  obtain ⟨a1, a2, a3, a4, a5, a6, a7⟩ := h
  have t1 : ¬ nI N ≤ nI i := by rw [nle (by omega) (by omega)]; omega
  have r1 : rd M 3 240 ((60 : Int32) * nI t + nI i) = some (b i) := by
    show rd M 3 240 (nI 60 * nI t + nI i) = _
    rw [pk_mul, nI_add, rd_n (by omega) (by omega), a5 3 (by omega) (by omega), hb i hi]
  unfold f5_here
  rw [a1, a2, a3, if_neg t1, r1, bS]
theorem here_out (hN : N ≤ 60) (h : RS t N N q M0 M) : f5_here M = some (-nI 1) := by
  obtain ⟨a1, a2, a3, a4, a5, a6, a7⟩ := h
  unfold f5_here
  rw [a1, a2, if_pos (Int32.le_refl _)]
  rfl
theorem fig_ok {lo hi d : Nat} (ht : t < 4) (hN : N ≤ 60) (hb : ∀ i, i < N → M0.1 3 (60 * t + i) = b i) (h : RS t N i q M0 M) (hiN : i < N) (hh : hi ≤ 9) (d1 : lo ≤ d) (d2 : d ≤ hi) (hc : b i = nI (48 + d)) : f5_isFigure (nI lo) (nI hi) M = some (sI (sI M 0 21 (nI d)) 0 18 (nI (i + 1)), nI 1) := by
  have hrr := here_in ht hN hb h hiN
  obtain ⟨a1, a2, a3, a4, a5, a6, a7⟩ := h
  have e1 : (48 : Int32) + nI lo = nI (48 + lo) := by
    show nI 48 + nI lo = _
    rw [nI_add]
  have e2 : (48 : Int32) + nI hi = nI (48 + hi) := by
    show nI 48 + nI hi = _
    rw [nI_add]
  have e3 : nI (48 + d) - (48 : Int32) = nI d := fig_sub
  have e4 : f5_in (nI (48 + d)).toInt64 (nI (48 + lo)).toInt64 (nI (48 + hi)).toInt64 = some (nI 1) := in_mid (by omega) (by omega) (by omega)
  unfold f5_isFigure
  rw [hrr, bS, hc, e1, e2, e4, bS, if_neg tN0, bS, nm_u, nm_u, e3, g3 (by omega), a1, ad1]
  rfl
theorem fig_no {lo hi : Nat} (ht : t < 4) (hN : N ≤ 60) (hb : ∀ i, i < N → M0.1 3 (60 * t + i) = b i) (h : RS t N i q M0 M) (hh : hi ≤ 9) (hl : lo ≤ hi) (hi2 : i < N ∨ i = N) (hc : i < N → f5_in (b i).toInt64 (nI (48 + lo)).toInt64 (nI (48 + hi)).toInt64 = some (nI 0)) : f5_isFigure (nI lo) (nI hi) M = some (M, nI 0) := by
  have e1 : (48 : Int32) + nI lo = nI (48 + lo) := by
    show nI 48 + nI lo = _
    rw [nI_add]
  have e2 : (48 : Int32) + nI hi = nI (48 + hi) := by
    show nI 48 + nI hi = _
    rw [nI_add]
  unfold f5_isFigure
  rcases hi2 with hi2 | rfl
  · rw [here_in ht hN hb h hi2, bS, e1, e2, hc hi2, bS, if_pos tP0]
    rfl
  · have e4 : f5_in (-nI 1).toInt64 (nI (48 + lo)).toInt64 (nI (48 + hi)).toInt64 = some (nI 0) := by
      rw [in_i, if_neg]
      · rfl
      · rintro ⟨q1, -⟩
        have : ∀ lo, lo < 10 → ¬ nI (48 + lo) ≤ -nI 1 := by decide +kernel
        exact this lo (by omega) q1
    rw [here_out hN h, bS, e1, e2, e4, bS, if_pos tP0]
    rfl
end HR
