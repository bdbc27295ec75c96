/-! 15: sets as bits -/
theorem ior (a b : Nat) : nI a ||| nI b = nI (a ||| b) := by
  apply Int32.toBitVec_inj.mp
  rw [Int32.toBitVec_or]
  show BitVec.ofNat 32 a ||| BitVec.ofNat 32 b = BitVec.ofNat 32 (a ||| b)
  apply BitVec.eq_of_toNat_eq
  simp [Nat.or_mod_two_pow]
theorem iand (a b : Nat) : nI a &&& nI b = nI (a &&& b) := by
  apply Int32.toBitVec_inj.mp
  rw [Int32.toBitVec_and]
  show BitVec.ofNat 32 a &&& BitVec.ofNat 32 b = BitVec.ofNat 32 (a &&& b)
  apply BitVec.eq_of_toNat_eq
  simp [Nat.and_mod_two_pow]
theorem ixor (a b : Nat) : nI a ^^^ nI b = nI (a ^^^ b) := by
  apply Int32.toBitVec_inj.mp
  rw [Int32.toBitVec_xor]
  show BitVec.ofNat 32 a ^^^ BitVec.ofNat 32 b = BitVec.ofNat 32 (a ^^^ b)
  apply BitVec.eq_of_toNat_eq
  simp [Nat.xor_mod_two_pow]
theorem k31 {k : Nat} (h : k < 32) : k &&& 31 = k := by
  rw [show 31 = 2 ^ 5 - 1 from rfl, Nat.and_two_pow_sub_one_eq_mod]
  exact Nat.mod_eq_of_lt h
theorem smod_n {k : Nat} (h : k < 32) : ((nI k).toBitVec.smod 32).toNat = k := by
  have : ∀ k, k < 32 → ((nI k).toBitVec.smod 32).toNat = k := by decide +kernel
  exact this k h
theorem shl_n {k : Nat} (h : k < 31) : nI 1 <<< nI (k &&& 31) = nI (2 ^ k) := by
  rw [k31 (by omega), pk_shlN (nI k) k (smod_n (by omega))]
  · rw [Nat.one_mul]
  · have : 2 ^ k ≤ 2 ^ 30 := Nat.pow_le_pow_right (by omega) (by omega)
    omega
theorem shlg {a k : Nat} (h : k < 31) (ha : a * 2 ^ k < 4294967296) : nI a <<< nI (k &&& 31) = nI (a * 2 ^ k) := by
  rw [k31 (by omega), pk_shlN (nI k) k (smod_n (by omega)) ha]
theorem shr_n {a k : Nat} (h : k < 31) (ha : a < 2147483648) : nI a >>> nI (k &&& 31) = nI (a / 2 ^ k) := by
  rw [k31 (by omega), pk_shrN ha (nI k) k (smod_n (by omega))]
theorem tb_eq (a k : Nat) : (a / 2 ^ k) &&& 1 = if a.testBit k then 1 else 0 := by
  rw [Nat.and_one_is_mod, Nat.testBit_eq_decide_div_mod_eq]
  by_cases h : a / 2 ^ k % 2 = 1
  · simp [h]
  · simp [h]; omega
/-- a bit asked for -/
theorem bit_t {a k : Nat} (h : a.testBit k = true) (hk : k < 31) (ha : a < 2147483648) : (nI a >>> nI (k &&& 31)) &&& nI 1 = nI 1 := by
  rw [shr_n hk ha, iand, tb_eq, if_pos h]
theorem bit_f {a k : Nat} (h : a.testBit k = false) (hk : k < 31) (ha : a < 2147483648) : (nI a >>> nI (k &&& 31)) &&& nI 1 = nI 0 := by
  rw [shr_n hk ha, iand, tb_eq, if_neg (by simp [h])]
theorem bit_b {a k : Nat} (hk : k < 31) (ha : a < 2147483648) : (nI a >>> nI (k &&& 31)) &&& nI 1 = nI (if a.testBit k then 1 else 0) := by
  rw [shr_n hk ha, iand, tb_eq]
theorem hs_b {a k : Nat} (hk : k < 31) (ha : a < 2147483648) : f5_has (nI a) (nI k) = some (if a.testBit k then nI 1 else nI 0) := by
  unfold f5_has
  simp (disch := omega) only [lit, nlt, nle, neq, nI_add, pk_mul, nm_u, bS, gd_d, oc_none, oc_some, rd_n, wr_n, if_pos, if_neg, ite_true, ite_false, not_true_eq_false, not_false_eq_true, g1, g2, g3, g4, h1, h2, h3, h4, iand, bit_b hk ha]
  cases h : a.testBit k
  · have e : (nI 0 = nI 1) = False := by decide
    simp [e]
  · simp
theorem msk_tb (n : Nat) (p : Nat → Bool) (i : Nat) : (msk n p).testBit i = (decide (i < n) && p i) := by
  induction n with
  | zero => simp [msk, fo]
  | succ n ih =>
    have e : msk (n + 1) p = if p n then msk n p ||| 2 ^ n else msk n p := rfl
    rw [e]
    by_cases hp : p n
    · rw [if_pos hp, Nat.testBit_or, ih, Nat.testBit_two_pow]
      by_cases h : i = n
      · subst h; simp [hp]
      · have h2 : ¬ n = i := fun e => h e.symm
        have h3 : (i < n + 1) = (i < n) := by apply propext; omega
        simp [h2, h3]
    · rw [if_neg hp, ih]
      by_cases h : i = n
      · subst h; simp [hp]
      · have h3 : (i < n + 1) = (i < n) := by apply propext; omega
        simp [h3]
theorem msk_lt (n : Nat) (p : Nat → Bool) : msk n p < 2 ^ n := by
  apply Nat.lt_pow_two_of_testBit
  intro i hi
  rw [msk_tb]
  simp; omega
theorem msk_cg {n : Nat} {p q : Nat → Bool} (h : ∀ k, k < n → p k = q k) : msk n p = msk n q := by
  apply Nat.eq_of_testBit_eq
  intro i
  rw [msk_tb, msk_tb]
  by_cases c : i < n
  · rw [h i c]
  · simp [c]
theorem msk_s (n : Nat) (p : Nat → Bool) : msk (n + 1) p = if p n then msk n p ||| 2 ^ n else msk n p := rfl
/-- those of a that are not of b -/
theorem andnot {a b : Nat} : nI a &&& (nI b ^^^ -nI 1) = nI (a ^^^ (a &&& b)) := by
  have e1 : (-nI 1 : Int32).toBitVec = BitVec.allOnes 32 := by decide
  rw [← ixor, ← iand]
  apply Int32.toBitVec_inj.mp
  rw [Int32.toBitVec_and, Int32.toBitVec_xor, Int32.toBitVec_xor, Int32.toBitVec_and, e1]
  generalize (nI a).toBitVec = A
  generalize (nI b).toBitVec = B
  rw [BitVec.xor_allOnes]
  ext i hi
  rw [BitVec.getElem_and, BitVec.getElem_not, BitVec.getElem_xor, BitVec.getElem_and]
  cases A[i] <;> cases B[i] <;> rfl
theorem all_n {n : Nat} (h : n < 31) : nI 1 <<< nI (n &&& 31) - nI 1 = nI (2 ^ n - 1) := by
  rw [shl_n h, pk_sub Nat.one_le_two_pow]
theorem pow_le {k n : Nat} (h : k ≤ n) : 2 ^ k ≤ 2 ^ n := Nat.pow_le_pow_right (by omega) h
theorem pow8 {n : Nat} (h : n ≤ 8) : 2 ^ n ≤ 256 := pow_le (n := 8) h
theorem all_msk (n : Nat) : 2 ^ n - 1 = msk n (fun _ => true) := by
  apply Nat.eq_of_testBit_eq
  intro i
  rw [msk_tb, Nat.testBit_two_pow_sub_one]
  simp
theorem hm_lt {P : PD} {k : Nat} (h : okP P k) : hm P k < 8192 := by
  obtain ⟨-, -, h1, h2, h3, -⟩ := h
  have a : 2 ^ ln P k - 1 ≤ 15 := by have := pow_le (n := 4) h3; omega
  have b : 2 ^ hr P k ≤ 512 := pow_le (n := 9) (by omega)
  have := Nat.mul_le_mul a b
  unfold hm
  omega
