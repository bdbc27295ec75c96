/-! 16: a pin, what it is worth, where it is -/
theorem zadd (a b : Int) : zI a + zI b = zI (a + b) := (Int32.ofInt_add a b).symm
theorem zsub (a b : Int) : zI a - zI b = zI (a - b) := (Int32.ofInt_sub a b).symm
theorem zmul (a b : Int) : zI a * zI b = zI (a * b) := (Int32.ofInt_mul a b).symm
theorem zneg (a : Int) : -zI a = zI (-a) := (Int32.ofInt_neg a).symm
theorem zI_toInt {z : Int} (h1 : -2147483648 ≤ z) (h2 : z < 2147483648) : (zI z).toInt = z := Int32.toInt_ofInt_of_le (by simpa using h1) (by simpa using h2)
theorem zlt {a b : Int} (a1 : -2147483648 ≤ a) (a2 : a < 2147483648) (b1 : -2147483648 ≤ b) (b2 : b < 2147483648) : (zI a < zI b) = (a < b) := by
  apply propext
  rw [Int32.lt_iff_toInt_lt, zI_toInt a1 a2, zI_toInt b1 b2]
theorem zle {a b : Int} (a1 : -2147483648 ≤ a) (a2 : a < 2147483648) (b1 : -2147483648 ≤ b) (b2 : b < 2147483648) : (zI a ≤ zI b) = (a ≤ b) := by
  apply propext
  rw [Int32.le_iff_toInt_le, zI_toInt a1 a2, zI_toInt b1 b2]
theorem zeq {a b : Int} (a1 : -2147483648 ≤ a) (a2 : a < 2147483648) (b1 : -2147483648 ≤ b) (b2 : b < 2147483648) : (zI a = zI b) = (a = b) := by
  apply propext
  rw [← Int32.toInt_inj, zI_toInt a1 a2, zI_toInt b1 b2]
/-- worth, as the machine reckons it -/
def wvI (P : PD) (kind : Int32) (k : Nat) (luck : Int32) : Int32 :=
  if kind = nI 1 then luck - nI 10 else if kind = nI 2 then (if (hm P k).testBit 5 then luck + nI 3 else luck) else if kind = nI 3 then luck * nI (ln P k) else if kind = nI 4 then nI 2 * (if (hm P k).testBit 5 then luck + nI 3 else luck) else if kind = nI 5 then luck - nI 10 - nI (ln P k) else luck
def Now (P : PD) (s : Nat → Int32) (MC MM : Mem) : Prop := GP P MC MM ∧ gst P.1 s ∧ (∀ j, j ≤ P.1 → MM.1 10 j = s j) ∧ pic P s (MC.1 33 2) (MC.1 33 3) (MC.1 33 4) (MC.1 34)
theorem Rel.nw {MC MM : Mem} (h : Rel MC MM) : ∃ P s, Now P s MC MM := by
  obtain ⟨P, hA, hR, hT, hP, ⟨d, st, h1, h2, h3, h4, h5, h6, h7⟩, hK⟩ := h
  exact ⟨P, st d, hP, h4.2.2.2.1 d (Nat.le_refl d), h6, h7⟩
section PIN
variable {P : PD} {MC MM : Mem} {k : Nat}
theorem has2_out {x : Int32} (hP : GP P MC MM) (h : outs x P.1) : f2_has MC x = some (nI 0) := by
  unfold f2_has
  rcases h with h | ⟨h0, h⟩
  · simp (disch := omega) only [lit, nlt, nle, neq, nI_add, pk_mul, nm_u, bS, gd_d, oc_none, oc_some, rd_n, wr_n, if_pos, if_neg, ite_true, ite_false, not_true_eq_false, not_false_eq_true, g1, g2, g3, g4, h1, h2, h3, h4, h]
  · simp (disch := omega) only [lit, nlt, nle, neq, nI_add, pk_mul, nm_u, bS, gd_d, oc_none, oc_some, rd_n, wr_n, if_pos, if_neg, ite_true, ite_false, not_true_eq_false, not_false_eq_true, g1, g2, g3, g4, h1, h2, h3, h4, hP.2.1, h0, h]
theorem has2_in (hP : GP P MC MM) (hk : k < P.1) : f2_has MC (nI k) = some (nI 1) := by
  have h8 := hP.1
  unfold f2_has
  simp (disch := omega) only [lit, nlt, nle, neq, nI_add, pk_mul, nm_u, bS, gd_d, oc_none, oc_some, rd_n, wr_n, if_pos, if_neg, ite_true, ite_false, not_true_eq_false, not_false_eq_true, g1, g2, g3, g4, h1, h2, h3, h4, hP.2.1]
theorem isPin_out {x : Int32} (hP : GP P MC MM) (h : outs x P.1) : f5_isPin MM x = some (nI 0) := by
  have h8 := hP.1
  unfold f5_isPin
  simp (disch := omega) only [lit, nlt, nle, neq, nI_add, pk_mul, nm_u, bS, gd_d, oc_none, oc_some, rd_n, wr_n, if_pos, if_neg, ite_true, ite_false, not_true_eq_false, not_false_eq_true, g1, g2, g3, g4, h1, h2, h3, h4, hP.2.2.1, ix_out (by omega) h, zr_0]
theorem isPin_in (hP : GP P MC MM) (hk : k < P.1) : f5_isPin MM (nI k) = some (nI 1) := by
  have h8 := hP.1
  unfold f5_isPin
  simp (disch := omega) only [lit, nlt, nle, neq, nI_add, pk_mul, nm_u, bS, gd_d, oc_none, oc_some, rd_n, wr_n, if_pos, if_neg, ite_true, ite_false, not_true_eq_false, not_false_eq_true, g1, g2, g3, g4, h1, h2, h3, h4, hP.2.2.1, ix_in (by omega) hk, zr_1]
theorem hours_m (hP : GP P MC MM) (hk : k < P.1) : f5_hoursOf MM (nI k) = some (nI (hm P k)) := by
  have h8 := hP.1
  obtain ⟨hok, -, -, -, -, -, -, -, -, e2, e3, -⟩ := hP.2.2.2.1 k hk
  have hl := hm_lt hok
  obtain ⟨-, -, o1, o2, o3, -⟩ := hok
  unfold f5_hoursOf
  simp (disch := omega) only [lit, nlt, nle, neq, nI_add, pk_mul, nm_u, bS, gd_d, oc_none, oc_some, rd_n, wr_n, if_pos, if_neg, ite_true, ite_false, not_true_eq_false, not_false_eq_true, g1, g2, g3, g4, h1, h2, h3, h4, ior, iand, shl_n, Nat.or_zero, e2, e3, pk_sub Nat.one_le_two_pow, shlg]
  rw [shlg (by omega) (by unfold hm at hl; omega)]
  rfl
theorem value_c {kind luck : Int32} (hP : GP P MC MM) (hk : k < P.1) : f2_valueAs MC (nI k) kind luck = some (wvI P kind k luck) := by
  have h8 := hP.1
  obtain ⟨hok, e0, -, -, e3, -, e5, -⟩ := hP.2.2.2.1 k hk
  have hl := hm_lt hok
  have key : f2_valueAs MC (nI k) kind luck = f2_valueAs_30 MC (nI k) kind luck (if (hm P k).testBit 5 then luck + nI 3 else luck) := by
    unfold f2_valueAs
    rw [has2_in hP hk]
    cases hb : (hm P k).testBit 5
    · simp (disch := omega) only [lit, nlt, nle, neq, nI_add, pk_mul, nm_u, bS, gd_d, oc_none, oc_some, rd_n, wr_n, if_pos, if_neg, ite_true, ite_false, not_true_eq_false, not_false_eq_true, g1, g2, g3, g4, h1, h2, h3, h4, ior, iand, shl_n, Nat.or_zero, e5, bit_f hb (by omega) (by omega)]
      try simp
    · simp (disch := omega) only [lit, nlt, nle, neq, nI_add, pk_mul, nm_u, bS, gd_d, oc_none, oc_some, rd_n, wr_n, if_pos, if_neg, ite_true, ite_false, not_true_eq_false, not_false_eq_true, g1, g2, g3, g4, h1, h2, h3, h4, ior, iand, shl_n, Nat.or_zero, e5, bit_t hb (by omega) (by omega)]
      try simp
  rw [key]
  unfold f2_valueAs_30 wvI
  generalize (if (hm P k).testBit 5 then luck + nI 3 else luck) = s0
  by_cases c1 : kind = nI 1
  · simp (disch := omega) only [lit, nlt, nle, neq, nI_add, pk_mul, nm_u, bS, gd_d, oc_none, oc_some, rd_n, wr_n, if_pos, if_neg, ite_true, ite_false, not_true_eq_false, not_false_eq_true, g1, g2, g3, g4, h1, h2, h3, h4, c1]
  by_cases c2 : kind = nI 2
  · simp (disch := omega) only [lit, nlt, nle, neq, nI_add, pk_mul, nm_u, bS, gd_d, oc_none, oc_some, rd_n, wr_n, if_pos, if_neg, ite_true, ite_false, not_true_eq_false, not_false_eq_true, g1, g2, g3, g4, h1, h2, h3, h4, c2]
  by_cases c3 : kind = nI 3
  · simp (disch := omega) only [lit, nlt, nle, neq, nI_add, pk_mul, nm_u, bS, gd_d, oc_none, oc_some, rd_n, wr_n, if_pos, if_neg, ite_true, ite_false, not_true_eq_false, not_false_eq_true, g1, g2, g3, g4, h1, h2, h3, h4, c3, e3]
  by_cases c4 : kind = nI 4
  · simp (disch := omega) only [lit, nlt, nle, neq, nI_add, pk_mul, nm_u, bS, gd_d, oc_none, oc_some, rd_n, wr_n, if_pos, if_neg, ite_true, ite_false, not_true_eq_false, not_false_eq_true, g1, g2, g3, g4, h1, h2, h3, h4, c4]
  by_cases c5 : kind = nI 5
  · simp (disch := omega) only [lit, nlt, nle, neq, nI_add, pk_mul, nm_u, bS, gd_d, oc_none, oc_some, rd_n, wr_n, if_pos, if_neg, ite_true, ite_false, not_true_eq_false, not_false_eq_true, g1, g2, g3, g4, h1, h2, h3, h4, c5, e3]
  simp (disch := omega) only [lit, nlt, nle, neq, nI_add, pk_mul, nm_u, bS, gd_d, oc_none, oc_some, rd_n, wr_n, if_pos, if_neg, ite_true, ite_false, not_true_eq_false, not_false_eq_true, g1, g2, g3, g4, h1, h2, h3, h4, c1, c2, c3, c4, c5]
theorem value_m {kind luck : Int32} (hP : GP P MC MM) (hk : k < P.1) : f5_worthBy MM kind (nI k) luck = some (wvI P kind k luck) := by
  have h8 := hP.1
  obtain ⟨hok, -, -, -, -, -, -, -, -, e2, e3, -⟩ := hP.2.2.2.1 k hk
  have hl := hm_lt hok
  have key : f5_worthBy MM kind (nI k) luck = f5_worthBy_19 MM kind (nI k) luck (if (hm P k).testBit 5 then luck + nI 3 else luck) := by
    unfold f5_worthBy
    rw [hours_m hP hk]
    cases hb : (hm P k).testBit 5
    · simp (disch := omega) only [lit, nlt, nle, neq, nI_add, pk_mul, nm_u, bS, gd_d, oc_none, oc_some, rd_n, wr_n, if_pos, if_neg, ite_true, ite_false, not_true_eq_false, not_false_eq_true, g1, g2, g3, g4, h1, h2, h3, h4, ior, iand, shl_n, Nat.or_zero, hs_b (a := hm P k) (k := 5) (by omega) (by omega), hb]
      try simp
    · simp (disch := omega) only [lit, nlt, nle, neq, nI_add, pk_mul, nm_u, bS, gd_d, oc_none, oc_some, rd_n, wr_n, if_pos, if_neg, ite_true, ite_false, not_true_eq_false, not_false_eq_true, g1, g2, g3, g4, h1, h2, h3, h4, ior, iand, shl_n, Nat.or_zero, hs_b (a := hm P k) (k := 5) (by omega) (by omega), hb]
  rw [key]
  unfold f5_worthBy_19 wvI
  generalize (if (hm P k).testBit 5 then luck + nI 3 else luck) = s0
  by_cases c1 : kind = nI 1
  · simp (disch := omega) only [lit, nlt, nle, neq, nI_add, pk_mul, nm_u, bS, gd_d, oc_none, oc_some, rd_n, wr_n, if_pos, if_neg, ite_true, ite_false, not_true_eq_false, not_false_eq_true, g1, g2, g3, g4, h1, h2, h3, h4, c1]
  by_cases c2 : kind = nI 2
  · simp (disch := omega) only [lit, nlt, nle, neq, nI_add, pk_mul, nm_u, bS, gd_d, oc_none, oc_some, rd_n, wr_n, if_pos, if_neg, ite_true, ite_false, not_true_eq_false, not_false_eq_true, g1, g2, g3, g4, h1, h2, h3, h4, c2]
  by_cases c3 : kind = nI 3
  · simp (disch := omega) only [lit, nlt, nle, neq, nI_add, pk_mul, nm_u, bS, gd_d, oc_none, oc_some, rd_n, wr_n, if_pos, if_neg, ite_true, ite_false, not_true_eq_false, not_false_eq_true, g1, g2, g3, g4, h1, h2, h3, h4, c3, e3]
  by_cases c4 : kind = nI 4
  · simp (disch := omega) only [lit, nlt, nle, neq, nI_add, pk_mul, nm_u, bS, gd_d, oc_none, oc_some, rd_n, wr_n, if_pos, if_neg, ite_true, ite_false, not_true_eq_false, not_false_eq_true, g1, g2, g3, g4, h1, h2, h3, h4, c4]
  by_cases c5 : kind = nI 5
  · simp (disch := omega) only [lit, nlt, nle, neq, nI_add, pk_mul, nm_u, bS, gd_d, oc_none, oc_some, rd_n, wr_n, if_pos, if_neg, ite_true, ite_false, not_true_eq_false, not_false_eq_true, g1, g2, g3, g4, h1, h2, h3, h4, c5, e3]
  simp (disch := omega) only [lit, nlt, nle, neq, nI_add, pk_mul, nm_u, bS, gd_d, oc_none, oc_some, rd_n, wr_n, if_pos, if_neg, ite_true, ite_false, not_true_eq_false, not_false_eq_true, g1, g2, g3, g4, h1, h2, h3, h4, c1, c2, c3, c4, c5]
theorem wvI_z (hk : kd P k < 6) (l : Nat) (K : Nat) (hK : K < 6) : wvI P (nI K) k (nI l) = zI (wv P K k l) := by
  unfold wvI
  have e3 : (if (hm P k).testBit 5 then nI l + nI 3 else nI l) = zI (if (hm P k).testBit 5 then (l : Int) + 3 else l) := by
    split
    · rw [nI_z, nI_z, zadd]; rfl
    · rw [nI_z]
  rw [e3]
  rcases (show K = 0 ∨ K = 1 ∨ K = 2 ∨ K = 3 ∨ K = 4 ∨ K = 5 by omega) with rfl | rfl | rfl | rfl | rfl | rfl
  · simp (disch := omega) only [lit, nlt, nle, neq, nI_add, pk_mul, nm_u, bS, gd_d, oc_none, oc_some, rd_n, wr_n, if_pos, if_neg, ite_true, ite_false, not_true_eq_false, not_false_eq_true, g1, g2, g3, g4, h1, h2, h3, h4]
    rw [nI_z]; rfl
  · simp (disch := omega) only [lit, nlt, nle, neq, nI_add, pk_mul, nm_u, bS, gd_d, oc_none, oc_some, rd_n, wr_n, if_pos, if_neg, ite_true, ite_false, not_true_eq_false, not_false_eq_true, g1, g2, g3, g4, h1, h2, h3, h4]
    rw [nI_z, nI_z, zsub]; rfl
  · simp (disch := omega) only [lit, nlt, nle, neq, nI_add, pk_mul, nm_u, bS, gd_d, oc_none, oc_some, rd_n, wr_n, if_pos, if_neg, ite_true, ite_false, not_true_eq_false, not_false_eq_true, g1, g2, g3, g4, h1, h2, h3, h4]
    rfl
  · simp (disch := omega) only [lit, nlt, nle, neq, nI_add, pk_mul, nm_u, bS, gd_d, oc_none, oc_some, rd_n, wr_n, if_pos, if_neg, ite_true, ite_false, not_true_eq_false, not_false_eq_true, g1, g2, g3, g4, h1, h2, h3, h4]
    rw [nI_z, Int.natCast_mul]; rfl
  · simp (disch := omega) only [lit, nlt, nle, neq, nI_add, pk_mul, nm_u, bS, gd_d, oc_none, oc_some, rd_n, wr_n, if_pos, if_neg, ite_true, ite_false, not_true_eq_false, not_false_eq_true, g1, g2, g3, g4, h1, h2, h3, h4]
    rw [nI_z, zmul]; rfl
  · simp (disch := omega) only [lit, nlt, nle, neq, nI_add, pk_mul, nm_u, bS, gd_d, oc_none, oc_some, rd_n, wr_n, if_pos, if_neg, ite_true, ite_false, not_true_eq_false, not_false_eq_true, g1, g2, g3, g4, h1, h2, h3, h4]
    rw [nI_z, nI_z, nI_z, zsub, zsub]; rfl
theorem worth_m (hP : GP P MC MM) (hk : k < P.1) : f5_worthOf MM (nI k) = some (zI (wz P k)) := by
  have h8 := hP.1
  obtain ⟨hok, -, -, -, -, -, -, -, e1, -, -, e4⟩ := hP.2.2.2.1 k hk
  unfold f5_worthOf
  simp (disch := omega) only [lit, nlt, nle, neq, nI_add, pk_mul, nm_u, bS, gd_d, oc_none, oc_some, rd_n, wr_n, if_pos, if_neg, ite_true, ite_false, not_true_eq_false, not_false_eq_true, g1, g2, g3, g4, h1, h2, h3, h4, e1, e4, value_m hP hk]
  rw [wvI_z hok.1 _ _ hok.1]
  rfl
def lyB (s : Nat → Int32) (k : Nat) : Bool := !(s (k + 1) == -nI 1) && !(s (k + 1) == -nI 2)
theorem m12 : (-nI 1 = -nI 2) = False := by decide
theorem lyB_nI {s : Nat → Int32} {p : Nat} (h : s (k + 1) = nI p) (hp : p < 10) : lyB s k = true := by
  have a1 : ∀ p, p < 10 → (nI p == -nI 1) = false ∧ (nI p == -nI 2) = false := by decide +kernel
  unfold lyB
  rw [h, (a1 p hp).1, (a1 p hp).2]
  rfl
theorem m2_lt : (-nI 2 < nI 0) = True := by decide
theorem all2 (n : Nat) : nI (2 ^ n) - nI 1 = nI (2 ^ n - 1) := pk_sub Nat.one_le_two_pow
theorem lies_m {s : Nat → Int32} (hn : P.1 ≤ 8) (hg : gst P.1 s) (hs : ∀ j, j ≤ P.1 → MM.1 10 j = s j) (hk : k < P.1) : f5_lies MM (nI k) = some (if lyB s k then nI 1 else nI 0) := by
  unfold f5_lies
  simp (disch := omega) only [lit, nlt, nle, neq, nI_add, pk_mul, nm_u, bS, gd_d, oc_none, oc_some, rd_n, wr_n, if_pos, if_neg, ite_true, ite_false, not_true_eq_false, not_false_eq_true, g1, g2, g3, g4, h1, h2, h3, h4]
  rw [show 1 + k = k + 1 by omega, hs (k + 1) (by omega)]
  rcases hg.2 k hk with e | e | ⟨p, hp, e⟩
  · have e9 : lyB s k = false := by unfold lyB; rw [e]; rfl
    simp (disch := omega) only [lit, nlt, nle, neq, nI_add, pk_mul, nm_u, bS, gd_d, oc_none, oc_some, rd_n, wr_n, if_pos, if_neg, ite_true, ite_false, not_true_eq_false, not_false_eq_true, g1, g2, g3, g4, h1, h2, h3, h4, e, e9, m1_lt, Bool.false_eq_true]
  · have e9 : lyB s k = false := by unfold lyB; rw [e]; rfl
    simp (disch := omega) only [lit, nlt, nle, neq, nI_add, pk_mul, nm_u, bS, gd_d, oc_none, oc_some, rd_n, wr_n, if_pos, if_neg, ite_true, ite_false, not_true_eq_false, not_false_eq_true, g1, g2, g3, g4, h1, h2, h3, h4, e, e9, m2_lt, Bool.false_eq_true]
  · rw [lyB_nI e hp, e]
    simp (disch := omega) only [lit, nlt, nle, neq, nI_add, pk_mul, nm_u, bS, gd_d, oc_none, oc_some, rd_n, wr_n, if_pos, if_neg, ite_true, ite_false, not_true_eq_false, not_false_eq_true, g1, g2, g3, g4, h1, h2, h3, h4]
theorem those_l {fu : Nat} {w : Int32} {q : Nat → Bool} (hn : P.1 ≤ 8) (hnm : MM.1 0 9 = nI P.1) (hstep : ∀ (i f : Nat) (acc : Nat), i < P.1 → f5_those_4 MM fu (f + 1) w (nI acc) (nI i) = f5_those_4 MM fu f w (nI (if q i then acc ||| 2 ^ i else acc)) (nI (i + 1))) : ∀ (d i f : Nat), i + d = P.1 → d < f → f5_those_4 MM fu f w (nI (msk i q)) (nI i) = some (nI (msk P.1 q)) := by
  intro d
  induction d with
  | zero =>
    intro i f h hf
    rcases f with _ | f
    · omega
    have : i = P.1 := by omega
    subst this
    rw [f5_those_4]
    simp (disch := omega) only [lit, nlt, nle, neq, nI_add, pk_mul, nm_u, bS, gd_d, oc_none, oc_some, rd_n, wr_n, if_pos, if_neg, ite_true, ite_false, not_true_eq_false, not_false_eq_true, g1, g2, g3, g4, h1, h2, h3, h4, hnm]
  | succ d ih =>
    intro i f h hf
    rcases f with _ | f
    · omega
    rw [hstep i f _ (by omega), ← msk_s]
    exact ih (i + 1) f (by omega) (by omega)
theorem those_m {fu : Nat} {s : Nat → Int32} {w : Int32} (hfu : 10000 ≤ fu) (hn : P.1 ≤ 8) (hnm : MM.1 0 9 = nI P.1) (hs : ∀ j, j ≤ P.1 → MM.1 10 j = s j) (hw : ¬ w = -nI 9) : f5_those MM fu w = some (nI (msk P.1 (fun k => s (k + 1) == w))) := by
  unfold f5_those
  rw [lit]
  refine those_l hn hnm (fun i f acc hi => ?_) P.1 0 fu (by omega) (by omega)
  rw [f5_those_4]
  simp (disch := omega) only [lit, nlt, nle, neq, nI_add, pk_mul, nm_u, bS, gd_d, oc_none, oc_some, rd_n, wr_n, if_pos, if_neg, ite_true, ite_false, not_true_eq_false, not_false_eq_true, g1, g2, g3, g4, h1, h2, h3, h4, ior, iand, shl_n, Nat.or_zero, hnm, hw]
  rw [show 1 + i = i + 1 by omega, hs (i + 1) (by omega)]
  by_cases c : s (i + 1) = w
  · rw [if_pos c, c]; simp
  · rw [if_neg c]
    have : (s (i + 1) == w) = false := by simp [c]
    simp [this]
theorem those_l9 {fu : Nat} {s : Nat → Int32} (hfu : 10000 ≤ fu) (hn : P.1 ≤ 8) (hnm : MM.1 0 9 = nI P.1) (hg : gst P.1 s) (hs : ∀ j, j ≤ P.1 → MM.1 10 j = s j) : f5_those MM fu (-9) = some (nI (msk P.1 (lyB s))) := by
  unfold f5_those
  rw [lit]
  refine those_l hn hnm (fun i f acc hi => ?_) P.1 0 fu (by omega) (by omega)
  rw [f5_those_4]
  simp (disch := omega) only [lit, nlt, nle, neq, nI_add, pk_mul, nm_u, bS, gd_d, oc_none, oc_some, rd_n, wr_n, if_pos, if_neg, ite_true, ite_false, not_true_eq_false, not_false_eq_true, g1, g2, g3, g4, h1, h2, h3, h4, ior, iand, shl_n, Nat.or_zero, hnm, lies_m hn hg hs hi]
  have e1 : (nI 1 = nI 0) = False := by decide
  cases c : lyB s i
  · simp (disch := omega) only [lit, nlt, nle, neq, nI_add, pk_mul, nm_u, bS, gd_d, oc_none, oc_some, rd_n, wr_n, if_pos, if_neg, ite_true, ite_false, not_true_eq_false, not_false_eq_true, g1, g2, g3, g4, h1, h2, h3, h4, ior, iand, shl_n, Nat.or_zero, Bool.false_eq_true]
  · simp (disch := omega) only [lit, nlt, nle, neq, nI_add, pk_mul, nm_u, bS, gd_d, oc_none, oc_some, rd_n, wr_n, if_pos, if_neg, ite_true, ite_false, not_true_eq_false, not_false_eq_true, g1, g2, g3, g4, h1, h2, h3, h4, ior, iand, shl_n, Nat.or_zero, e1]
theorem ly_key {n : Nat} {s : Nat → Int32} : ((2 ^ n - 1) ^^^ ((2 ^ n - 1) &&& msk n (fun k => s (k + 1) == -nI 1))) ^^^ (((2 ^ n - 1) ^^^ ((2 ^ n - 1) &&& msk n (fun k => s (k + 1) == -nI 1))) &&& msk n (fun k => s (k + 1) == -nI 2)) = msk n (lyB s) := by
  apply Nat.eq_of_testBit_eq
  intro i
  simp only [Nat.testBit_xor, Nat.testBit_and, Nat.testBit_two_pow_sub_one, msk_tb, lyB]
  cases decide (i < n) <;> cases (s (i + 1) == -nI 1) <;> cases (s (i + 1) == -nI 2) <;> rfl
theorem lying_c {s : Nat → Int32} (hP : GP P MC MM) (hp : pic P s (MC.1 33 2) (MC.1 33 3) (MC.1 33 4) (MC.1 34)) : f3_lying MC = some (nI (msk P.1 (lyB s))) := by
  have h8 := hP.1
  unfold f3_lying f2_all
  rw [hP.2.1, hp.2.1, hp.2.2.1]
  simp (disch := omega) only [lit, nlt, nle, neq, nI_add, pk_mul, nm_u, bS, gd_d, oc_none, oc_some, rd_n, wr_n, if_pos, if_neg, ite_true, ite_false, not_true_eq_false, not_false_eq_true, g1, g2, g3, g4, h1, h2, h3, h4, ior, iand, shl_n, Nat.or_zero, all2, m1r, andnot, ly_key]
end PIN
