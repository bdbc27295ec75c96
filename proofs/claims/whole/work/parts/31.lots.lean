/-! 31: lots -/
theorem i64_bd {z : Int} (h1 : -9223372036854775808 ≤ z) (h2 : z < 9223372036854775808) : z.bmod (2 ^ 64) = z := bm64 h1 h2
theorem n64 {z : Nat} (h : z < 2147483648) : (nI z).toInt64.toInt = z := by
  rw [Int32.toInt_toInt64, nI_toInt h]
theorem lcg_mul {z : Nat} (h : z < 2147483648) : ((nI z).toInt64 * (48271 : Int64)).toInt = z * 48271 := by
  rw [Int64.toInt_mul, n64 h]
  exact i64_bd (by show (-9223372036854775808 : Int) ≤ z * 48271; omega) (by show (z : Int) * 48271 < 9223372036854775808; omega)
theorem rem64 {a b : Int64} {x y : Nat} (ha : a.toInt = x) (hb : b.toInt = y) (hx : x < 4611686018427387904) (hy : y < 2147483648) (hy0 : 0 < y) : rmLo a b = some (nI (x % y)).toInt64 := by
  have hb0 : ¬ b = 0 := by
    intro e
    subst e
    have : (0 : Int64).toInt = 0 := by decide
    omega
  unfold rmLo
  rw [if_neg hb0]
  congr 1
  apply Int64.toInt_inj.mp
  have hm : x % y < y := Nat.mod_lt _ hy0
  have hd : x / y * y + x % y = x := by
    have := Nat.div_add_mod x y
    rw [Nat.mul_comm]; exact this
  have hdl : x / y ≤ x := Nat.div_le_self x y
  have e1 : (a / b).toInt = ((x / y : Nat) : Int) := by
    rw [Int64.toInt_div, ha, hb]
    have : (x : Int).tdiv (y : Int) = ((x / y : Nat) : Int) := rfl
    rw [this]
    exact i64_bd (Int.le_trans (by omega) (Int.natCast_nonneg _)) (Int.lt_of_le_of_lt (Int.ofNat_le.mpr hdl) (by omega))
  have e2 : (a / b * b).toInt = ((x / y * y : Nat) : Int) := by
    rw [Int64.toInt_mul, e1, hb]
    have : ((x / y : Nat) : Int) * (y : Int) = ((x / y * y : Nat) : Int) := by rw [Int.natCast_mul]
    rw [this]
    exact i64_bd (by omega) (by omega)
  rw [Int64.toInt_sub, ha, e2, n64 (by omega)]
  rw [i64_bd (by omega) (by omega)]
  omega
theorem lcg {z : Nat} (h : z < 2147483648) : rmLo ((nI z).toInt64 * (48271 : Int64)) (2147483647 : Int64) = some (nI (z * 48271 % 2147483647)).toInt64 :=
  rem64 (x := z * 48271) (y := 2147483647) (by rw [lcg_mul h]; omega) (by decide) (by omega) (by omega) (by omega)
theorem two64 {z : Nat} (h : z < 2147483648) : rmLo (nI z).toInt64 (2 : Int64) = some (nI (z % 2)).toInt64 :=
  rem64 (x := z) (y := 2) (n64 h) (by decide) (by omega) (by omega) (by omega)
theorem dv64 {z : Nat} (h : z < 2147483648) : dvL (nI z).toInt64 (8 : Int64) = some (nI (z / 8)).toInt64 := by
  have hb0 : ¬ (8 : Int64) = 0 := by decide
  unfold dvL
  rw [if_neg hb0]
  congr 1
  apply Int64.toInt_inj.mp
  rw [Int64.toInt_div, n64 h, n64 (by omega)]
  have : (8 : Int64).toInt = ((8 : Nat) : Int) := by decide
  rw [this]
  have : (z : Int).tdiv ((8 : Nat) : Int) = ((z / 8 : Nat) : Int) := rfl
  rw [this]
  exact i64_bd (by omega) (by omega)
theorem rm64n {z n : Nat} (h : z < 2147483648) (hn : 0 < n) (hn8 : n ≤ 8) : rmLo (nI z).toInt64 (nI n).toInt64 = some (nI (z % n)).toInt64 :=
  rem64 (x := z) (y := n) (n64 h) (n64 (by omega)) (by omega) (by omega) hn
theorem back32 {z : Nat} (h : z < 2147483648) : (nI z).toInt64.toInt32 = nI z := by
  apply Int32.toInt_inj.mp
  rw [Int64.toInt_toInt32, n64 h, nI_toInt h]
  exact bm32 (by omega) (by omega)
theorem dv32 {z : Nat} (h : z < 2147483648) : dvI (nI z) (nI 8) = some (nI (z / 8)) := by
  have hb0 : ¬ nI 8 = 0 := by decide
  unfold dvI
  rw [if_neg hb0]
  congr 1
  apply Int32.toInt_inj.mp
  rw [Int32.toInt_div, nI_toInt h, nI_toInt (by omega), nI_toInt (by omega)]
  have : (z : Int).tdiv ((8 : Nat) : Int) = ((z / 8 : Nat) : Int) := rfl
  rw [this]
  exact bm32 (by omega) (by omega)
theorem rm32 {z n : Nat} (h : z < 2147483648) (hn : 0 < n) (hn8 : n ≤ 8) : rmI (nI z) (nI n) = some (nI (z % n)) := by
  have hb0 : ¬ nI n = 0 := by
    have : ∀ n, n ≤ 8 → 0 < n → ¬ nI n = 0 := by decide
    exact this n hn8 hn
  unfold rmI
  rw [if_neg hb0]
  congr 1
  apply Int32.toInt_inj.mp
  have hm : z % n < n := Nat.mod_lt _ hn
  have hd : z / n * n + z % n = z := by
    have := Nat.div_add_mod z n
    rw [Nat.mul_comm]; exact this
  have hdl : z / n ≤ z := Nat.div_le_self z n
  have e1 : (nI z / nI n).toInt = ((z / n : Nat) : Int) := by
    rw [Int32.toInt_div, nI_toInt h, nI_toInt (by omega)]
    have : (z : Int).tdiv (n : Int) = ((z / n : Nat) : Int) := rfl
    rw [this]
    exact bm32 (Int.le_trans (by omega) (Int.natCast_nonneg _)) (Int.lt_of_le_of_lt (Int.ofNat_le.mpr hdl) (by omega))
  have e2 : (nI z / nI n * nI n).toInt = ((z / n * n : Nat) : Int) := by
    rw [Int32.toInt_mul, e1, nI_toInt (by omega)]
    have : ((z / n : Nat) : Int) * (n : Int) = ((z / n * n : Nat) : Int) := by rw [Int.natCast_mul]
    rw [this]
    exact bm32 (by omega) (by omega)
  rw [Int32.toInt_sub, nI_toInt h, e2, nI_toInt (by omega)]
  rw [bm32 (by omega) (by omega)]
  omega
