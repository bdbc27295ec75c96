/-! 18: what a set of pins comes to, on both sides -/
theorem fo_s {α : Type} (f : Nat → α → α) (n : Nat) (a : α) : fo f (n + 1) a = f n (fo f n a) := rfl
theorem fo_ext {α : Type} {f : Nat → α → α} {n : Nat} (h : ∀ k a, n ≤ k → f k a = a) (a : α) : ∀ m, n ≤ m → fo f m a = fo f n a := by
  intro m
  induction m with
  | zero => intro hm; rw [show n = 0 by omega]
  | succ m ih =>
    intro hm
    by_cases e : n = m + 1
    · rw [e]
    · rw [fo_s, ih (by omega), h m _ (by omega)]
theorem fo_cg {α : Type} {f g : Nat → α → α} : ∀ n, (∀ k a, k < n → f k a = g k a) → ∀ a, fo f n a = fo g n a := by
  intro n
  induction n with
  | zero => intro _ a; rfl
  | succ n ih =>
    intro h a
    rw [fo_s, fo_s, ih (fun k a hk => h k a (by omega)), h n _ (by omega)]
theorem tb_ge {S n k : Nat} (h : S < 2 ^ n) (hk : n ≤ k) : S.testBit k = false := Nat.testBit_lt_two_pow (Nat.lt_of_lt_of_le h (pow_le hk))
def stT (P : PD) (S : Nat) : Nat → Nat × Nat → Nat × Nat := fun k a => if S.testBit k then (a.1 ||| (a.2 &&& hm P k), a.2 ||| hm P k) else a
def stS (P : PD) (S : Nat) : Nat → Int → Int := fun k a => if S.testBit k then a + wz P k else a
def stU (P : PD) (S : Nat) : Nat → Nat → Nat := fun k a => if S.testBit k then a ||| hm P k else a
theorem tw_n {P : PD} {S n : Nat} (h : S < 2 ^ n) (hn : n ≤ 8) : tw P S = fo (stT P S) n (0, 0) := fo_ext (f := stT P S) (fun k a hk => by unfold stT; rw [tb_ge h hk]; rfl) (0, 0) 8 hn
theorem sm_n {P : PD} {S n : Nat} (h : S < 2 ^ n) (hn : n ≤ 8) : sm P S = fo (stS P S) n 0 := fo_ext (f := stS P S) (fun k a hk => by unfold stS; rw [tb_ge h hk]; rfl) 0 8 hn
theorem un_tw {P : PD} {S : Nat} : un P S = (tw P S).2 := by
  have : ∀ n, (fo (stT P S) n (0, 0)).2 = fo (stU P S) n 0 := by
    intro n
    induction n with
    | zero => rfl
    | succ n ih =>
      rw [fo_s, fo_s, ← ih]
      unfold stT stU
      split <;> rfl
  exact (this 8).symm
theorem tw_lt {P : PD} {S n : Nat} (hok : ∀ k, k < n → okP P k) : (fo (stT P S) n (0, 0)).1 < 2 ^ 13 ∧ (fo (stT P S) n (0, 0)).2 < 2 ^ 13 := by
  induction n with
  | zero => exact ⟨show (0 : Nat) < 2 ^ 13 by decide, show (0 : Nat) < 2 ^ 13 by decide⟩
  | succ n ih =>
    obtain ⟨i1, i2⟩ := ih (fun k hk => hok k (by omega))
    have hl : hm P n < 2 ^ 13 := hm_lt (hok n (by omega))
    rw [fo_s]
    unfold stT
    split
    · refine ⟨Nat.or_lt_two_pow i1 (Nat.lt_of_le_of_lt Nat.and_le_left i2), Nat.or_lt_two_pow i2 hl⟩
    · exact ⟨i1, i2⟩
section AG
variable {P : PD} {MC MM : Mem} {S fu : Nat}
theorem hoursAll_l (hP : GP P MC MM) (hS : S < 256) (x2 : Int32) : ∀ (d i f : Nat), i + d = P.1 → d < f → f5_hoursAll_8 MM fu f (nI S) x2 (nI (fo (stT P S) i (0, 0)).2) (nI (fo (stT P S) i (0, 0)).1) (nI i) = some (if x2 = nI 0 then nI (fo (stT P S) P.1 (0, 0)).2 else nI (fo (stT P S) P.1 (0, 0)).1) := by
  have h8 := hP.1
  intro d
  induction d with
  | zero =>
    intro i f h hf
    rcases f with _ | f
    · omega
    have : i = P.1 := by omega
    subst this
    rw [f5_hoursAll_8]
    by_cases c : x2 = nI 0
    · simp (disch := omega) only [lit, nlt, nle, neq, nI_add, pk_mul, nm_u, bS, gd_d, oc_none, oc_some, rd_n, wr_n, if_pos, if_neg, ite_true, ite_false, not_true_eq_false, not_false_eq_true, g1, g2, g3, g4, h1, h2, h3, h4, hP.2.2.1, c]
    · simp (disch := omega) only [lit, nlt, nle, neq, nI_add, pk_mul, nm_u, bS, gd_d, oc_none, oc_some, rd_n, wr_n, if_pos, if_neg, ite_true, ite_false, not_true_eq_false, not_false_eq_true, g1, g2, g3, g4, h1, h2, h3, h4, hP.2.2.1, c]
  | succ d ih =>
    intro i f h hf
    rcases f with _ | f
    · omega
    have hi : i < P.1 := by omega
    rw [f5_hoursAll_8]
    have e9 : (nI 1 = nI 0) = False := by decide
    have e8 : (nI 0 = nI 0) = True := eq_true rfl
    have h2 := ih (i + 1) f (by omega) (by omega)
    rw [fo_s] at h2
    cases c : S.testBit i
    · have e : stT P S i (fo (stT P S) i (0, 0)) = fo (stT P S) i (0, 0) := by unfold stT; rw [c]; rfl
      rw [e] at h2
      simp (disch := omega) only [lit, nlt, nle, neq, nI_add, pk_mul, nm_u, bS, gd_d, oc_none, oc_some, rd_n, wr_n, if_pos, if_neg, ite_true, ite_false, not_true_eq_false, not_false_eq_true, g1, g2, g3, g4, h1, h2, h3, h4, ior, iand, shl_n, Nat.or_zero, hP.2.2.1, hs_b (a := S) (k := i) (by omega) (by omega), c, e8, Bool.false_eq_true]
      try exact h2
    · have e : stT P S i (fo (stT P S) i (0, 0)) = ((fo (stT P S) i (0, 0)).1 ||| ((fo (stT P S) i (0, 0)).2 &&& hm P i), (fo (stT P S) i (0, 0)).2 ||| hm P i) := by unfold stT; rw [if_pos c]
      rw [e] at h2
      simp (disch := omega) only [lit, nlt, nle, neq, nI_add, pk_mul, nm_u, bS, gd_d, oc_none, oc_some, rd_n, wr_n, if_pos, if_neg, ite_true, ite_false, not_true_eq_false, not_false_eq_true, g1, g2, g3, g4, h1, h2, h3, h4, ior, iand, shl_n, Nat.or_zero, hP.2.2.1, hs_b (a := S) (k := i) (by omega) (by omega), c, e9, hours_m hP hi, iand]
      try exact h2
theorem hoursAll_0 (hP : GP P MC MM) (hfu : 10000 ≤ fu) (hS : S < 2 ^ P.1) : f5_hoursAll MM fu (nI S) (nI 0) = some (nI (tw P S).2) := by
  have h8 := hP.1
  have h256 := pow8 h8
  unfold f5_hoursAll
  have := hoursAll_l (fu := fu) hP (S := S) (by omega) (nI 0) P.1 0 fu (by omega) (by omega)
  rw [if_pos rfl, ← tw_n hS h8] at this
  exact this
theorem hoursAll_1 (hP : GP P MC MM) (hfu : 10000 ≤ fu) (hS : S < 2 ^ P.1) : f5_hoursAll MM fu (nI S) (nI 1) = some (nI (tw P S).1) := by
  have h8 := hP.1
  have h256 := pow8 h8
  unfold f5_hoursAll
  have := hoursAll_l (fu := fu) hP (S := S) (by omega) (nI 1) P.1 0 fu (by omega) (by omega)
  rw [if_neg (by decide), ← tw_n hS h8] at this
  exact this
theorem tw_b (hP : GP P MC MM) (hS : S < 2 ^ P.1) : (tw P S).1 < 8192 ∧ (tw P S).2 < 8192 := by
  rw [tw_n hS hP.1]
  exact tw_lt (fun k hk => (hP.2.2.2.1 k hk).1)
theorem clash_m (hP : GP P MC MM) (hfu : 10000 ≤ fu) (hS : S < 2 ^ P.1) : f5_clash MM fu (nI S) = some (if apt P S then nI 0 else nI 1) := by
  have hb := tw_b hP hS
  unfold f5_clash
  rw [lit, hoursAll_1 hP hfu hS]
  unfold apt
  by_cases c : (tw P S).1 = 0
  · simp (disch := omega) only [lit, nlt, nle, neq, nI_add, pk_mul, nm_u, bS, gd_d, oc_none, oc_some, rd_n, wr_n, if_pos, if_neg, ite_true, ite_false, not_true_eq_false, not_false_eq_true, g1, g2, g3, g4, h1, h2, h3, h4, c]
    rfl
  · simp (disch := omega) only [lit, nlt, nle, neq, nI_add, pk_mul, nm_u, bS, gd_d, oc_none, oc_some, rd_n, wr_n, if_pos, if_neg, ite_true, ite_false, not_true_eq_false, not_false_eq_true, g1, g2, g3, g4, h1, h2, h3, h4]
    simp [c]
theorem worthAll_m (hP : GP P MC MM) (hfu : 10000 ≤ fu) (hS : S < 2 ^ P.1) : f5_worthAll MM fu (nI S) = some (zI (sm P S)) := by
  have h8 := hP.1
  have h256 := pow8 h8
  have key : ∀ (d i f : Nat), i + d = P.1 → d < f → f5_worthAll_4 MM fu f (nI S) (zI (fo (stS P S) i 0)) (nI i) = some (zI (fo (stS P S) P.1 0)) := by
    intro d
    induction d with
    | zero =>
      intro i f h hf
      rcases f with _ | f
      · omega
      have : i = P.1 := by omega
      subst this
      rw [f5_worthAll_4]
      simp (disch := omega) only [lit, nlt, nle, neq, nI_add, pk_mul, nm_u, bS, gd_d, oc_none, oc_some, rd_n, wr_n, if_pos, if_neg, ite_true, ite_false, not_true_eq_false, not_false_eq_true, g1, g2, g3, g4, h1, h2, h3, h4, hP.2.2.1]
    | succ d ih =>
      intro i f h hf
      rcases f with _ | f
      · omega
      have hi : i < P.1 := by omega
      rw [f5_worthAll_4]
      have e9 : (nI 1 = nI 0) = False := by decide
      have e8 : (nI 0 = nI 0) = True := eq_true rfl
      have h2 := ih (i + 1) f (by omega) (by omega)
      rw [fo_s] at h2
      cases c : S.testBit i
      · have e : stS P S i (fo (stS P S) i 0) = fo (stS P S) i 0 := by unfold stS; rw [c]; rfl
        rw [e] at h2
        simp (disch := omega) only [lit, nlt, nle, neq, nI_add, pk_mul, nm_u, bS, gd_d, oc_none, oc_some, rd_n, wr_n, if_pos, if_neg, ite_true, ite_false, not_true_eq_false, not_false_eq_true, g1, g2, g3, g4, h1, h2, h3, h4, ior, iand, shl_n, Nat.or_zero, hP.2.2.1, hs_b (a := S) (k := i) (by omega) (by omega), c, e8, Bool.false_eq_true]
        rw [show zI (fo (stS P S) i 0) + nI 0 = zI (fo (stS P S) i 0) from Int32.add_zero _]
        try exact h2
      · have e : stS P S i (fo (stS P S) i 0) = fo (stS P S) i 0 + wz P i := by unfold stS; rw [if_pos c]
        rw [e] at h2
        simp (disch := omega) only [lit, nlt, nle, neq, nI_add, pk_mul, nm_u, bS, gd_d, oc_none, oc_some, rd_n, wr_n, if_pos, if_neg, ite_true, ite_false, not_true_eq_false, not_false_eq_true, g1, g2, g3, g4, h1, h2, h3, h4, ior, iand, shl_n, Nat.or_zero, hP.2.2.1, hs_b (a := S) (k := i) (by omega) (by omega), c, e9, worth_m hP hi, zadd]
        try exact h2
  unfold f5_worthAll
  rw [sm_n hS h8]
  exact key P.1 0 fu (by omega) (by omega)
theorem isSet_in (hS : S < 256) : f2_isSet (nI S) = some (nI 1) := by
  unfold f2_isSet
  simp (disch := omega) only [lit, nlt, nle, neq, nI_add, pk_mul, nm_u, bS, gd_d, oc_none, oc_some, rd_n, wr_n, if_pos, if_neg, ite_true, ite_false, not_true_eq_false, not_false_eq_true, g1, g2, g3, g4, h1, h2, h3, h4]
theorem hours_c (hP : GP P MC MM) (hS : S < 2 ^ P.1) : f2_hoursOf MC (nI S) = some (nI (tw P S).2) := by
  have h256 := pow8 hP.1
  unfold f2_hoursOf
  simp (disch := omega) only [lit, nlt, nle, neq, nI_add, pk_mul, nm_u, bS, gd_d, oc_none, oc_some, rd_n, wr_n, if_pos, if_neg, ite_true, ite_false, not_true_eq_false, not_false_eq_true, g1, g2, g3, g4, h1, h2, h3, h4, isSet_in (S := S) (by omega), (hP.2.2.2.2 S hS).1, un_tw]
theorem sum_c (hP : GP P MC MM) (hS : S < 2 ^ P.1) : f2_sumOf MC (nI S) = some (zI (sm P S)) := by
  have h256 := pow8 hP.1
  unfold f2_sumOf
  simp (disch := omega) only [lit, nlt, nle, neq, nI_add, pk_mul, nm_u, bS, gd_d, oc_none, oc_some, rd_n, wr_n, if_pos, if_neg, ite_true, ite_false, not_true_eq_false, not_false_eq_true, g1, g2, g3, g4, h1, h2, h3, h4, isSet_in (S := S) (by omega), (hP.2.2.2.2 S hS).2.1]
theorem apart_c (hP : GP P MC MM) (hS : S < 2 ^ P.1) : f2_isApart MC (nI S) = some (if apt P S then nI 1 else nI 0) := by
  have h256 := pow8 hP.1
  unfold f2_isApart
  simp (disch := omega) only [lit, nlt, nle, neq, nI_add, pk_mul, nm_u, bS, gd_d, oc_none, oc_some, rd_n, wr_n, if_pos, if_neg, ite_true, ite_false, not_true_eq_false, not_false_eq_true, g1, g2, g3, g4, h1, h2, h3, h4, isSet_in (S := S) (by omega), (hP.2.2.2.2 S hS).2.2.1]
  cases apt P S <;> rfl
theorem most_c (hP : GP P MC MM) (hS : S < 2 ^ P.1) : f2_mostOf MC (nI S) = some (zI (mx P S)) := by
  have h256 := pow8 hP.1
  unfold f2_mostOf
  simp (disch := omega) only [lit, nlt, nle, neq, nI_add, pk_mul, nm_u, bS, gd_d, oc_none, oc_some, rd_n, wr_n, if_pos, if_neg, ite_true, ite_false, not_true_eq_false, not_false_eq_true, g1, g2, g3, g4, h1, h2, h3, h4, isSet_in (S := S) (by omega), (hP.2.2.2.2 S hS).2.2.2]
end AG
/-- how many -/
def pcn (S : Nat) : Nat := fo (fun k a => if S.testBit k then a + 1 else a) 8 0
theorem bitC {S : Nat} (h : S < 256) : f6_bitCount (nI S) = some (nI (pcn S)) := by
  have : ∀ S, S < 256 → f6_bitCount (nI S) = some (nI (pcn S)) := by decide +kernel
  exact this S h
theorem bits_up {fu : Nat} : ∀ (f : Nat) (x y r : Int32), f5_bits_4 0 f x y = some r → f5_bits_4 fu (f + 1) x y = some r := by
  intro f
  induction f with
  | zero => intro x y r h; rw [f5_bits_4] at h; cases h
  | succ f ih =>
    intro x y r h
    rw [f5_bits_4] at h ⊢
    by_cases c : y = 0
    · simp only [c, if_true] at h ⊢; exact h
    · simp only [c, if_false, nm_u] at h ⊢
      exact ih _ _ _ h
theorem bits_up0 : ∀ (d f : Nat) (x y r : Int32), f5_bits_4 0 f x y = some r → f5_bits_4 0 (f + d) x y = some r := by
  intro d
  induction d with
  | zero => intro f x y r h; exact h
  | succ d ih => intro f x y r h; exact bits_up _ _ _ _ (ih f x y r h)
theorem bits_m {fu S : Nat} (hfu : 10000 ≤ fu) (h : S < 256) : f5_bits fu (nI S) = some (nI (pcn S)) := by
  have h1 : ∀ S, S < 256 → f5_bits_4 0 9 0 (nI S) = some (nI (pcn S)) := by decide +kernel
  unfold f5_bits
  have h2 := bits_up (fu := fu) _ _ _ _ (bits_up0 (fu - 10) 9 _ _ _ (h1 S h))
  rw [show 9 + (fu - 10) + 1 = fu by omega] at h2
  exact h2
theorem s_busy {fu : Nat} (hfu : 10000 ≤ fu) : Sim_busy fu Rel := by
  intro MC MM hR
  obtain ⟨P, s, hP, hg, hs, hp⟩ := hR.nw
  have h8 := hP.1
  have hlt := msk_lt P.1 (fun k => s (k + 1) == -nI 1)
  have h256 := msk_256 h8 (fun k => s (k + 1) == -nI 1)
  generalize hS : msk P.1 (fun k => s (k + 1) == -nI 1) = S at hlt h256
  have key : ∀ (d i f : Nat), i + d = P.1 → d < f → f4_busy_15 fu f (nI (fo (stT P S) i (0, 0)).2) (nI (fo (stT P S) i (0, 0)).1) (nI i) MC = some (sI MC 28 6 (nI (tw P S).1), nI (tw P S).2) := by
    intro d
    induction d with
    | zero =>
      intro i f h hf
      rcases f with _ | f
      · omega
      have : i = P.1 := by omega
      subst this
      rw [f4_busy_15, tw_n hlt h8]
      simp (disch := omega) only [lit, nlt, nle, neq, nI_add, pk_mul, nm_u, bS, gd_d, oc_none, oc_some, rd_n, wr_n, if_pos, if_neg, ite_true, ite_false, not_true_eq_false, not_false_eq_true, g1, g2, g3, g4, h1, h2, h3, h4, hP.2.1]
    | succ d ih =>
      intro i f h hf
      rcases f with _ | f
      · omega
      have hi : i < P.1 := by omega
      rw [f4_busy_15]
      have h2 := ih (i + 1) f (by omega) (by omega)
      rw [fo_s] at h2
      obtain ⟨-, -, -, -, -, -, e5, -⟩ := hP.2.2.2.1 i hi
      cases c : S.testBit i
      · have e : stT P S i (fo (stT P S) i (0, 0)) = fo (stT P S) i (0, 0) := by unfold stT; rw [c]; rfl
        rw [e] at h2
        simp (disch := omega) only [lit, nlt, nle, neq, nI_add, pk_mul, nm_u, bS, gd_d, oc_none, oc_some, rd_n, wr_n, if_pos, if_neg, ite_true, ite_false, not_true_eq_false, not_false_eq_true, g1, g2, g3, g4, h1, h2, h3, h4, ior, iand, shl_n, Nat.or_zero, hP.2.1, hp.2.1, hS, bit_f c (show i < 31 by omega) (by omega)]
        try exact h2
      · have e : stT P S i (fo (stT P S) i (0, 0)) = ((fo (stT P S) i (0, 0)).1 ||| ((fo (stT P S) i (0, 0)).2 &&& hm P i), (fo (stT P S) i (0, 0)).2 ||| hm P i) := by unfold stT; rw [if_pos c]
        rw [e] at h2
        simp (disch := omega) only [lit, nlt, nle, neq, nI_add, pk_mul, nm_u, bS, gd_d, oc_none, oc_some, rd_n, wr_n, if_pos, if_neg, ite_true, ite_false, not_true_eq_false, not_false_eq_true, g1, g2, g3, g4, h1, h2, h3, h4, ior, iand, shl_n, Nat.or_zero, hP.2.1, hp.2.1, hS, bit_t c (show i < 31 by omega) (by omega), e5, iand]
        try exact h2
  refine ⟨nI (tw P S).2, sI MC 28 6 (nI (tw P S).1), sI MM 0 4 (nI (tw P S).1), ?_, ?_, hR.tell _⟩
  · unfold f4_busy
    exact key P.1 0 fu (by omega) (by omega)
  · unfold f5_busy f5_answer
    have e := those_m (w := -nI 1) hfu h8 hP.2.2.1 hs (by decide)
    rw [hS] at e
    simp (disch := omega) only [lit, nlt, nle, neq, nI_add, pk_mul, nm_u, bS, gd_d, oc_none, oc_some, rd_n, wr_n, if_pos, if_neg, ite_true, ite_false, not_true_eq_false, not_false_eq_true, g1, g2, g3, g4, h1, h2, h3, h4, e, hoursAll_0 hP hfu hlt, hoursAll_1 hP hfu hlt]
