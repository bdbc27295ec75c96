/-! 24: walk, within -/
def ps (s : Nat → Int32) (k : Nat) : Nat := (s (k + 1)).toNatClampNeg
theorem ps_of {s : Nat → Int32} {k p : Nat} (h : s (k + 1) = nI p) (hp : p < 10) : ps s k = p := by
  unfold ps
  rw [h]
  exact nI_clamp (by omega)
def loT (s : Nat → Int32) (T n : Nat) : Nat := fo (fun k a => if T.testBit k then (if ps s k < a then ps s k else a) else a) n 9
def hiT (s : Nat → Int32) (T n : Nat) : Nat := fo (fun k a => if T.testBit k then (if a < ps s k then ps s k else a) else a) n 0
theorem loT_s (s : Nat → Int32) (T n : Nat) : loT s T (n + 1) = if T.testBit n then (if ps s n < loT s T n then ps s n else loT s T n) else loT s T n := rfl
theorem hiT_s (s : Nat → Int32) (T n : Nat) : hiT s T (n + 1) = if T.testBit n then (if hiT s T n < ps s n then ps s n else hiT s T n) else hiT s T n := rfl
theorem loT_le {s : Nat → Int32} {T : Nat} : ∀ n k, k < n → T.testBit k = true → loT s T n ≤ ps s k := by
  intro n
  induction n with
  | zero => intro k hk; omega
  | succ n ih =>
    intro k hk c
    rw [loT_s]
    by_cases e : k = n
    · subst e
      rw [if_pos c]
      split <;> omega
    · have := ih k (by omega) c
      cases T.testBit n
      · rw [if_neg (by decide)]; exact this
      · rw [if_pos rfl]; split <;> omega
theorem hiT_ge {s : Nat → Int32} {T : Nat} : ∀ n k, k < n → T.testBit k = true → ps s k ≤ hiT s T n := by
  intro n
  induction n with
  | zero => intro k hk; omega
  | succ n ih =>
    intro k hk c
    rw [hiT_s]
    by_cases e : k = n
    · subst e
      rw [if_pos c]
      split <;> omega
    · have := ih k (by omega) c
      cases T.testBit n
      · rw [if_neg (by decide)]; exact this
      · rw [if_pos rfl]; split <;> omega
theorem loT_at {s : Nat → Int32} {T : Nat} : ∀ n, (∃ k, k < n ∧ T.testBit k = true ∧ loT s T n = ps s k) ∨ (loT s T n = 9 ∧ ∀ k, k < n → T.testBit k = true → 9 ≤ ps s k) := by
  intro n
  induction n with
  | zero => exact Or.inr ⟨rfl, fun k hk => by omega⟩
  | succ n ih =>
    rw [loT_s]
    cases c : T.testBit n
    · rw [if_neg (by decide)]
      rcases ih with ⟨k, b1, b2, b3⟩ | ⟨b1, b2⟩
      · exact Or.inl ⟨k, by omega, b2, b3⟩
      · refine Or.inr ⟨b1, fun k hk q => ?_⟩
        by_cases e : k = n
        · rw [e, c] at q; cases q
        · exact b2 k (by omega) q
    · rw [if_pos rfl]
      by_cases e : ps s n < loT s T n
      · rw [if_pos e]; exact Or.inl ⟨n, by omega, c, rfl⟩
      · rw [if_neg e]
        rcases ih with ⟨k, b1, b2, b3⟩ | ⟨b1, b2⟩
        · exact Or.inl ⟨k, by omega, b2, b3⟩
        · refine Or.inr ⟨b1, fun k hk q => ?_⟩
          by_cases e2 : k = n
          · subst e2; omega
          · exact b2 k (by omega) q
theorem hiT_at {s : Nat → Int32} {T : Nat} : ∀ n, (∃ k, k < n ∧ T.testBit k = true ∧ hiT s T n = ps s k) ∨ (hiT s T n = 0 ∧ ∀ k, k < n → T.testBit k = true → ps s k = 0) := by
  intro n
  induction n with
  | zero => exact Or.inr ⟨rfl, fun k hk => by omega⟩
  | succ n ih =>
    rw [hiT_s]
    cases c : T.testBit n
    · rw [if_neg (by decide)]
      rcases ih with ⟨k, b1, b2, b3⟩ | ⟨b1, b2⟩
      · exact Or.inl ⟨k, by omega, b2, b3⟩
      · refine Or.inr ⟨b1, fun k hk q => ?_⟩
        by_cases e : k = n
        · rw [e, c] at q; cases q
        · exact b2 k (by omega) q
    · rw [if_pos rfl]
      by_cases e : hiT s T n < ps s n
      · rw [if_pos e]; exact Or.inl ⟨n, by omega, c, rfl⟩
      · rw [if_neg e]
        rcases ih with ⟨k, b1, b2, b3⟩ | ⟨b1, b2⟩
        · exact Or.inl ⟨k, by omega, b2, b3⟩
        · refine Or.inr ⟨b1, fun k hk q => ?_⟩
          by_cases e2 : k = n
          · subst e2; omega
          · exact b2 k (by omega) q
def sp (h lo hi : Nat) : Nat := if dst h lo + (hi - lo) < dst h hi + (hi - lo) then dst h lo + (hi - lo) else dst h hi + (hi - lo)
def wE (h lo hi : Nat) : Nat := if dst h lo + (hi - lo) < dst h hi + (hi - lo) then hi else lo
def hpl (s : Nat → Int32) : Nat := (s 0).toNatClampNeg
def spT (P : PD) (s : Nat → Int32) (T : Nat) : Nat := if T = 0 then 0 else sp (hpl s) (loT s T P.1) (hiT s T P.1)
theorem nz_tb {T n : Nat} (hT : T < 2 ^ n) (h0 : T ≠ 0) : ∃ k, k < n ∧ T.testBit k = true := by
  refine Classical.byContradiction fun q => h0 ?_
  apply Nat.eq_of_testBit_eq
  intro j
  rw [Nat.zero_testBit]
  by_cases c : j < n
  · cases e : T.testBit j
    · rfl
    · exact absurd ⟨j, c, e⟩ q
  · exact tb_ge hT (by omega)
section WK4
variable {P : PD} {s : Nat → Int32} {M : Mem} {fu T N : Nat}
theorem St.h0 (h : St P s M) : ∃ p, p < 10 ∧ s 0 = nI p ∧ hpl s = p := by
  obtain ⟨p, hp, e⟩ := h.2.1.1
  refine ⟨p, hp, e, ?_⟩
  unfold hpl
  rw [e]
  exact nI_clamp (by omega)
theorem lies_ps (h : St P s M) (hT : T &&& lB P s = T) : ∀ k, k < P.1 → T.testBit k = true → ps s k < 10 ∧ s (k + 1) = nI (ps s k) ∧ M.1 34 k = nI (ps s k) := by
  intro k hk c
  obtain ⟨p, hp, e1, e2⟩ := lies_at h.2.1 h.2.2.1 hT k hk c
  rw [ps_of e1 hp]
  exact ⟨hp, e1, e2⟩
theorem lohi_f (h : St P s M) (hT2 : T < 2 ^ P.1) (hT0 : T ≠ 0) (hT : T &&& lB P s = T) : loT s T P.1 ≤ hiT s T P.1 ∧ hiT s T P.1 < 10 ∧ (∃ k, k < P.1 ∧ T.testBit k = true ∧ loT s T P.1 = ps s k) ∧ ∃ k, k < P.1 ∧ T.testBit k = true ∧ hiT s T P.1 = ps s k := by
  obtain ⟨k, hk, c⟩ := nz_tb hT2 hT0
  have hl := lies_ps h hT
  have a1 : ∃ k, k < P.1 ∧ T.testBit k = true ∧ loT s T P.1 = ps s k := by
    rcases loT_at (s := s) (T := T) P.1 with q | ⟨b1, b2⟩
    · exact q
    · have := (hl k hk c).1
      have := b2 k hk c
      exact ⟨k, hk, c, by omega⟩
  have a2 : ∃ k, k < P.1 ∧ T.testBit k = true ∧ hiT s T P.1 = ps s k := by
    rcases hiT_at (s := s) (T := T) P.1 with q | ⟨b1, b2⟩
    · exact q
    · exact ⟨k, hk, c, by rw [b1, b2 k hk c]⟩
  refine ⟨Nat.le_trans (loT_le P.1 k hk c) (hiT_ge P.1 k hk c), ?_, a1, a2⟩
  obtain ⟨j, hj, cj, e⟩ := a2
  rw [e]
  exact (hl j hj cj).1
theorem low_s (hfu : 10000 ≤ fu) (h : St P s M) (hT2 : T < 2 ^ P.1) (hT : T &&& lB P s = T) : f3_lowest M fu (nI T) = some (nI (loT s T P.1)) := by
  have h8 := h.1.1
  have h256 := pow8 h8
  have key : ∀ (e i f : Nat), i + e = P.1 → e < f → loT s T i < 10 → f3_lowest_5 M fu f (nI T) (nI (loT s T i)) (nI i) = some (nI (loT s T P.1)) := by
    intro e
    induction e with
    | zero =>
      intro i f hi hf hlo
      rcases f with _ | f
      · omega
      have : i = P.1 := by omega
      subst this
      rw [f3_lowest_5]
      simp (disch := omega) only [lit, nlt, nle, neq, nI_add, pk_mul, nm_u, bS, gd_d, oc_none, oc_some, rd_n, wr_n, if_pos, if_neg, ite_true, ite_false, not_true_eq_false, not_false_eq_true, g1, g2, g3, g4, h1, h2, h3, h4, h.1.2.1]
    | succ e ih =>
      intro i f hi hf hlo
      rcases f with _ | f
      · omega
      have hi1 : i < P.1 := by omega
      have h2 := ih (i + 1) f (by omega) (by omega)
      rw [loT_s] at h2
      rw [f3_lowest_5]
      cases c : T.testBit i
      · rw [c, if_neg (by decide)] at h2
        simp (disch := omega) only [lit, nlt, nle, neq, nI_add, pk_mul, nm_u, bS, gd_d, oc_none, oc_some, rd_n, wr_n, if_pos, if_neg, ite_true, ite_false, not_true_eq_false, not_false_eq_true, g1, g2, g3, g4, h1, h2, h3, h4, ior, iand, shl_n, Nat.or_zero, h.1.2.1, bit_f c (show i < 31 by omega) (by omega)]
        try exact h2 hlo
      · rw [c, if_pos rfl] at h2
        obtain ⟨l1, l2, l3⟩ := lies_ps h hT i hi1 c
        by_cases q : ps s i < loT s T i
        · rw [if_pos q] at h2
          simp (disch := omega) only [lit, nlt, nle, neq, nI_add, pk_mul, nm_u, bS, gd_d, oc_none, oc_some, rd_n, wr_n, if_pos, if_neg, ite_true, ite_false, not_true_eq_false, not_false_eq_true, g1, g2, g3, g4, h1, h2, h3, h4, ior, iand, shl_n, Nat.or_zero, h.1.2.1, bit_t c (show i < 31 by omega) (by omega), kq9, l3]
          try exact h2 l1
        · rw [if_neg q] at h2
          simp (disch := omega) only [lit, nlt, nle, neq, nI_add, pk_mul, nm_u, bS, gd_d, oc_none, oc_some, rd_n, wr_n, if_pos, if_neg, ite_true, ite_false, not_true_eq_false, not_false_eq_true, g1, g2, g3, g4, h1, h2, h3, h4, ior, iand, shl_n, Nat.or_zero, h.1.2.1, bit_t c (show i < 31 by omega) (by omega), kq9, l3]
          try exact h2 hlo
  unfold f3_lowest
  exact key P.1 0 fu (by omega) (by omega) (by show (9 : Nat) < 10; omega)
theorem high_s (hfu : 10000 ≤ fu) (h : St P s M) (hT2 : T < 2 ^ P.1) (hT : T &&& lB P s = T) : f3_highest M fu (nI T) = some (nI (hiT s T P.1)) := by
  have h8 := h.1.1
  have h256 := pow8 h8
  have key : ∀ (e i f : Nat), i + e = P.1 → e < f → hiT s T i < 10 → f3_highest_4 M fu f (nI T) (nI (hiT s T i)) (nI i) = some (nI (hiT s T P.1)) := by
    intro e
    induction e with
    | zero =>
      intro i f hi hf hlo
      rcases f with _ | f
      · omega
      have : i = P.1 := by omega
      subst this
      rw [f3_highest_4]
      simp (disch := omega) only [lit, nlt, nle, neq, nI_add, pk_mul, nm_u, bS, gd_d, oc_none, oc_some, rd_n, wr_n, if_pos, if_neg, ite_true, ite_false, not_true_eq_false, not_false_eq_true, g1, g2, g3, g4, h1, h2, h3, h4, h.1.2.1]
    | succ e ih =>
      intro i f hi hf hlo
      rcases f with _ | f
      · omega
      have hi1 : i < P.1 := by omega
      have h2 := ih (i + 1) f (by omega) (by omega)
      rw [hiT_s] at h2
      rw [f3_highest_4]
      cases c : T.testBit i
      · rw [c, if_neg (by decide)] at h2
        simp (disch := omega) only [lit, nlt, nle, neq, nI_add, pk_mul, nm_u, bS, gd_d, oc_none, oc_some, rd_n, wr_n, if_pos, if_neg, ite_true, ite_false, not_true_eq_false, not_false_eq_true, g1, g2, g3, g4, h1, h2, h3, h4, ior, iand, shl_n, Nat.or_zero, h.1.2.1, bit_f c (show i < 31 by omega) (by omega)]
        try exact h2 hlo
      · rw [c, if_pos rfl] at h2
        obtain ⟨l1, l2, l3⟩ := lies_ps h hT i hi1 c
        by_cases q : hiT s T i < ps s i
        · rw [if_pos q] at h2
          simp (disch := omega) only [lit, nlt, nle, neq, nI_add, pk_mul, nm_u, bS, gd_d, oc_none, oc_some, rd_n, wr_n, if_pos, if_neg, ite_true, ite_false, not_true_eq_false, not_false_eq_true, g1, g2, g3, g4, h1, h2, h3, h4, ior, iand, shl_n, Nat.or_zero, h.1.2.1, bit_t c (show i < 31 by omega) (by omega), kq9, l3]
          try exact h2 l1
        · rw [if_neg q] at h2
          simp (disch := omega) only [lit, nlt, nle, neq, nI_add, pk_mul, nm_u, bS, gd_d, oc_none, oc_some, rd_n, wr_n, if_pos, if_neg, ite_true, ite_false, not_true_eq_false, not_false_eq_true, g1, g2, g3, g4, h1, h2, h3, h4, ior, iand, shl_n, Nat.or_zero, h.1.2.1, bit_t c (show i < 31 by omega) (by omega), kq9, l3]
          try exact h2 hlo
  unfold f3_highest
  exact key P.1 0 fu (by omega) (by omega) (by show (0 : Nat) < 10; omega)
theorem steps_s (hfu : 10000 ≤ fu) (h : St P s M) (hT2 : T < 2 ^ P.1) (hT0 : T ≠ 0) (hT : T &&& lB P s = T) : f3_stepsFor M fu (nI T) = some (nI (spT P s T)) := by
  have h256 := pow8 h.1.1
  obtain ⟨p, hp, e1, e2⟩ := h.h0
  obtain ⟨l1, l2, -, -⟩ := lohi_f h hT2 hT0 hT
  have := stepsFor_c (fu := fu) (T := T) (by omega) hT0 l1 l2 hp (by rw [h.2.2.1.1, e1]) (low_s hfu h hT2 hT) (high_s hfu h hT2 hT)
  rw [this]
  unfold spT sp
  rw [if_neg hT0, e2]
theorem walk_0 (h : St P s M) : f4_walk fu (nI 0) M = some (sI M 28 6 (s 0), nI 0) := walk0_c h.1 h.2.2.1
theorem walk_no (h : St P s M) (hT2 : T < 2 ^ P.1) (hT : ¬ T &&& lB P s = T) : f4_walk fu (nI T) M = some (M, -nI 4) := walkN_c h.1 h.2.2.1 hT2 hT
theorem walk_T (hfu : 10000 ≤ fu) (h : St P s M) (hT2 : T < 2 ^ P.1) (hT0 : T ≠ 0) (hT : T &&& lB P s = T) : f4_walk fu (nI T) M = some (sI M 28 6 (nI (wE (hpl s) (loT s T P.1) (hiT s T P.1))), nI (spT P s T)) := by
  have h256 := pow8 h.1.1
  obtain ⟨p, hp, e1, e2⟩ := h.h0
  obtain ⟨l1, l2, -, -⟩ := lohi_f h hT2 hT0 hT
  have sf : ∀ v, f3_stepsFor (sI M 28 6 v) fu (nI T) = some (nI (if dst p (loT s T P.1) + (hiT s T P.1 - loT s T P.1) < dst p (hiT s T P.1) + (hiT s T P.1 - loT s T P.1) then dst p (loT s T P.1) + (hiT s T P.1 - loT s T P.1) else dst p (hiT s T P.1) + (hiT s T P.1 - loT s T P.1))) := fun v => by
    have := steps_s hfu (h.s28 6 v) hT2 hT0 hT
    unfold spT sp at this
    rw [if_neg hT0, e2] at this
    exact this
  have := walkT_c (fu := fu) h.1 h.2.2.1 hT2 hT0 hT (by rw [h.2.2.1.1, e1]) hp l1 l2 (low_s hfu h hT2 hT) (high_s hfu h hT2 hT) sf
  rw [this]
  unfold spT sp wE
  rw [if_neg hT0, e2]
  split <;> rfl
/-- what walk() tells of a set of those that lie -/
def wkD (P : PD) (s : Nat → Int32) (T E D : Nat) : Prop := D = spT P s T ∧ E < 10 ∧ D ≤ 18 ∧ (T = 0 → nI E = s 0 ∧ D = 0) ∧ (T ≠ 0 → ∃ k, k < P.1 ∧ T.testBit k = true ∧ E = ps s k) ∧ ∀ k, k < P.1 → T.testBit k = true → ps s k < 10 ∧ s (k + 1) = nI (ps s k) ∧ dst (hpl s) (ps s k) ≤ D
theorem walk_s (hfu : 10000 ≤ fu) (h : St P s M) (hT2 : T < 2 ^ P.1) (hT : T &&& lB P s = T) : ∃ E D, wkD P s T E D ∧ f4_walk fu (nI T) M = some (sI M 28 6 (nI E), nI D) := by
  obtain ⟨p, hp, e1, e2⟩ := h.h0
  by_cases hT0 : T = 0
  · subst hT0
    refine ⟨p, 0, ⟨rfl, hp, by omega, fun _ => ⟨e1.symm, rfl⟩, fun q => absurd rfl q, fun k _ c => by rw [Nat.zero_testBit] at c; cases c⟩, ?_⟩
    rw [walk_0 h, e1]
  · obtain ⟨l1, l2, ⟨j1, j2, j3, j4⟩, ⟨k1, k2, k3, k4⟩⟩ := lohi_f h hT2 hT0 hT
    refine ⟨_, _, ⟨rfl, ?_, ?_, fun q => absurd q hT0, fun _ => ?_, fun k hk c => ?_⟩, walk_T hfu h hT2 hT0 hT⟩
    · unfold wE; split <;> omega
    · unfold spT sp
      rw [if_neg hT0, e2]
      unfold dst
      split <;> split <;> split <;> omega
    · unfold wE
      split
      · exact ⟨k1, k2, k3, k4⟩
      · exact ⟨j1, j2, j3, j4⟩
    · obtain ⟨m1, m2, -⟩ := lies_ps h hT k hk c
      refine ⟨m1, m2, ?_⟩
      have q1 := loT_le (s := s) P.1 k hk c
      have q2 := hiT_ge (s := s) P.1 k hk c
      unfold spT sp
      rw [if_neg hT0, e2]
      unfold dst
      split <;> split <;> split <;> split <;> omega
theorem walk_1 {k : Nat} (hfu : 10000 ≤ fu) (h : St P s M) (hk : k < P.1) (hT : (2 ^ k) &&& lB P s = 2 ^ k) : f4_walk fu (nI (2 ^ k)) M = some (sI M 28 6 (nI (ps s k)), nI (dst (hpl s) (ps s k))) := by
  have hT2 : 2 ^ k < 2 ^ P.1 := Nat.pow_lt_pow_right (by omega) hk
  have hT0 : 2 ^ k ≠ 0 := by
    have := Nat.one_le_two_pow (n := k)
    omega
  obtain ⟨l1, l2, ⟨j1, j2, j3, j4⟩, ⟨k1, k2, k3, k4⟩⟩ := lohi_f h hT2 hT0 hT
  rw [Nat.testBit_two_pow] at j3 k3
  have e1 : k = j1 := of_decide_eq_true j3
  have e2 : k = k1 := of_decide_eq_true k3
  subst e1; subst e2
  rw [walk_T hfu h hT2 hT0 hT]
  unfold spT sp wE
  rw [if_neg hT0, j4, k4, if_neg (by omega), if_neg (by omega), Nat.sub_self, Nat.add_zero]
/-- what within() tells -/
def wnV (P : PD) (s : Nat → Int32) (F N V : Nat) : Prop := V &&& F = V ∧ apt P V = true ∧ spT P s V ≤ N ∧ ∀ T, T &&& F = T → apt P T = true → spT P s T ≤ N → sm P T ≤ sm P V
def frT (P : PD) (s : Nat → Int32) : Nat := lB P s &&& msk P.1 (fun k => hm P k &&& (tw P (hB P s)).2 == 0)
theorem within_l (hfu : 10000 ≤ fu) (h : St P s M) (hN : N ≤ 20) {F : Nat} (hF2 : F < 2 ^ P.1) (hF : ∀ T, T &&& F = T → T &&& lB P s = T) : ∃ V, wnV P s F N V ∧ f4_within_63 fu fu (nI N) (nI F) (nI 0) (nI 0) (nI 1) M = some (sI M 28 6 (nI V), zI (sm P V)) := by
  have hP := h.1
  have h256 := pow8 hP.1
  have key : ∀ (e i f W : Nat), i + e = F + 1 → e < f → 1 ≤ i → W < 2 ^ P.1 → W &&& F = W → apt P W = true → spT P s W ≤ N → (∀ T, T < i → T &&& F = T → apt P T = true → spT P s T ≤ N → sm P T ≤ sm P W) → ∃ V, wnV P s F N V ∧ f4_within_63 fu f (nI N) (nI F) (zI (sm P W)) (nI W) (nI i) M = some (sI M 28 6 (nI V), zI (sm P V)) := by
    intro e
    induction e with
    | zero =>
      intro i f W hi hf hi1 hW w1 w2 w3 hm
      rcases f with _ | f
      · omega
      refine ⟨W, ⟨w1, w2, w3, fun T t1 t2 t3 => hm T ?_ t1 t2 t3⟩, ?_⟩
      · have : T ≤ F := by rw [← t1]; exact Nat.and_le_right
        omega
      · rw [f4_within_63]
        simp (disch := omega) only [lit, nlt, nle, neq, nI_add, pk_mul, nm_u, bS, gd_d, oc_none, oc_some, rd_n, wr_n, if_pos, if_neg, ite_true, ite_false, not_true_eq_false, not_false_eq_true, g1, g2, g3, g4, h1, h2, h3, h4, ior, iand, shl_n, Nat.or_zero]
    | succ e ih =>
      intro i f W hi hf hi1 hW w1 w2 w3 hm
      rcases f with _ | f
      · omega
      have hi2 : i < 2 ^ P.1 := by omega
      have b1 := smb hP hi2
      have b2 := smb hP hW
      by_cases cF : i &&& F = i
      · cases b : apt P i
        · obtain ⟨V, v1, v2⟩ := ih (i + 1) f W (by omega) (by omega) (by omega) hW w1 w2 w3 (fun T t0 t1 t2 t3 => by
            by_cases q : T = i
            · rw [q, b] at t2; cases t2
            · exact hm T (by omega) t1 t2 t3)
          refine ⟨V, v1, ?_⟩
          rw [f4_within_63]
          unfold f4_within_103
          simp (disch := omega) only [lit, nlt, nle, neq, nI_add, pk_mul, nm_u, bS, gd_d, oc_none, oc_some, rd_n, wr_n, if_pos, if_neg, ite_true, ite_false, not_true_eq_false, not_false_eq_true, g1, g2, g3, g4, h1, h2, h3, h4, ior, iand, shl_n, Nat.or_zero, andnot, sub_t cF, apart_c hP hi2, b, Bool.false_eq_true]
          exact v2
        · by_cases d : sm P i ≤ sm P W
          · obtain ⟨V, v1, v2⟩ := ih (i + 1) f W (by omega) (by omega) (by omega) hW w1 w2 w3 (fun T t0 t1 t2 t3 => by
              by_cases q : T = i
              · rw [q]; exact d
              · exact hm T (by omega) t1 t2 t3)
            refine ⟨V, v1, ?_⟩
            rw [f4_within_63]
            unfold f4_within_103
            simp (disch := omega) only [lit, nlt, nle, neq, nI_add, pk_mul, nm_u, bS, gd_d, oc_none, oc_some, rd_n, wr_n, if_pos, if_neg, ite_true, ite_false, not_true_eq_false, not_false_eq_true, g1, g2, g3, g4, h1, h2, h3, h4, ior, iand, shl_n, Nat.or_zero, andnot, sub_t cF, apart_c hP hi2, b, kq9, sum_c hP hi2, zle]
            exact v2
          · have r := steps_s hfu h hi2 (show i ≠ 0 by omega) (hF i cF)
            have hD : spT P s i < 100 := by
              obtain ⟨E, D, ⟨q1, -, q2, -⟩, -⟩ := walk_s hfu h hi2 (hF i cF)
              omega
            by_cases y : N < spT P s i
            · obtain ⟨V, v1, v2⟩ := ih (i + 1) f W (by omega) (by omega) (by omega) hW w1 w2 w3 (fun T t0 t1 t2 t3 => by
                by_cases q : T = i
                · rw [q] at t3; omega
                · exact hm T (by omega) t1 t2 t3)
              refine ⟨V, v1, ?_⟩
              rw [f4_within_63]
              unfold f4_within_103
              simp (disch := omega) only [lit, nlt, nle, neq, nI_add, pk_mul, nm_u, bS, gd_d, oc_none, oc_some, rd_n, wr_n, if_pos, if_neg, ite_true, ite_false, not_true_eq_false, not_false_eq_true, g1, g2, g3, g4, h1, h2, h3, h4, ior, iand, shl_n, Nat.or_zero, andnot, sub_t cF, apart_c hP hi2, b, kq9, sum_c hP hi2, zle, r]
              exact v2
            · obtain ⟨V, v1, v2⟩ := ih (i + 1) f i (by omega) (by omega) (by omega) hi2 cF b (by omega) (fun T t0 t1 t2 t3 => by
                by_cases q : T = i
                · rw [q]; exact Int.le_refl _
                · have := hm T (by omega) t1 t2 t3
                  omega)
              refine ⟨V, v1, ?_⟩
              rw [f4_within_63]
              unfold f4_within_103
              simp (disch := omega) only [lit, nlt, nle, neq, nI_add, pk_mul, nm_u, bS, gd_d, oc_none, oc_some, rd_n, wr_n, if_pos, if_neg, ite_true, ite_false, not_true_eq_false, not_false_eq_true, g1, g2, g3, g4, h1, h2, h3, h4, ior, iand, shl_n, Nat.or_zero, andnot, sub_t cF, apart_c hP hi2, b, kq9, sum_c hP hi2, zle, r]
              exact v2
      · obtain ⟨V, v1, v2⟩ := ih (i + 1) f W (by omega) (by omega) (by omega) hW w1 w2 w3 (fun T t0 t1 t2 t3 => by
          by_cases q : T = i
          · rw [q] at t1; exact absurd t1 cF
          · exact hm T (by omega) t1 t2 t3)
        refine ⟨V, v1, ?_⟩
        rw [f4_within_63]
        unfold f4_within_103
        simp (disch := omega) only [lit, nlt, nle, neq, nI_add, pk_mul, nm_u, bS, gd_d, oc_none, oc_some, rd_n, wr_n, if_pos, if_neg, ite_true, ite_false, not_true_eq_false, not_false_eq_true, g1, g2, g3, g4, h1, h2, h3, h4, ior, iand, shl_n, Nat.or_zero, andnot, sub_f (show i < 256 by omega) cF]
        exact v2
  have hone : 0 < 2 ^ P.1 := Nat.one_le_two_pow
  have q := key F 1 fu 0 (by omega) (by omega) (by omega) hone (Nat.zero_and F) apt_0 (by unfold spT; rw [if_pos rfl]; omega) (fun T t0 _ _ _ => by
    have : T = 0 := by omega
    subst this
    exact Int.le_refl _)
  rw [sm_0] at q
  exact q
theorem within_s (hfu : 10000 ≤ fu) (h : St P s M) (hN : N ≤ 20) : ∃ V, wnV P s (frT P s) N V ∧ f4_within fu (nI N) M = some (sI M 28 6 (nI V), zI (sm P V)) := by
  have hP := h.1
  have h8 := hP.1
  have h256 := pow8 h8
  have hn := h.2.2.2
  have hlt : hB P s < 2 ^ P.1 := msk_lt _ _
  have hH := (tw_b hP hlt).2
  have ap0 := apartFrom_c (fu := fu) (M := M) (h := hm P) (b := (tw P (hB P s)).2) hfu h8 hP.2.1 (fun k hk => (hP.2.2.2.1 k hk).2.2.2.2.2.2.1) hH
  have hF2 : frT P s < 2 ^ P.1 := Nat.lt_of_le_of_lt Nat.and_le_left (msk_lt _ _)
  obtain ⟨V, v1, v2⟩ := within_l (N := N) hfu h hN hF2 (fun T hT => by
    rw [and_sub] at hT ⊢
    intro k hk
    have := hT k hk
    unfold frT at this
    rw [Nat.testBit_and] at this
    simp at this
    exact this.1)
  refine ⟨V, v1, ?_⟩
  have hh : M.1 33 3 = nI (hB P s) := h.2.2.1.2.1
  unfold frT at v2
  unfold f4_within
  simp (disch := omega) only [lit, nlt, nle, neq, nI_add, pk_mul, nm_u, bS, gd_d, oc_none, oc_some, rd_n, wr_n, if_pos, if_neg, ite_true, ite_false, not_true_eq_false, not_false_eq_true, g1, g2, g3, g4, h1, h2, h3, h4, ior, iand, shl_n, Nat.or_zero, hP.2.1, lying_c hP h.2.2.1, hh, hours_c hP hlt, ap0]
  exact v2
end WK4
