/-! 52: fractions -/
theorem li_i {a : Int64} {z : Int} (h : a.toInt = z) : a = 0 ↔ z = 0 := by
  rw [← Int64.toInt_inj, h]
  have : (0 : Int64).toInt = 0 := by decide
  rw [this]
theorem rmL_n {a b : Int64} {x y : Nat} (ha : a.toInt = x) (hb : b.toInt = y) (hx : x < 4611686018427387904) (hy : y < 4611686018427387904) (hy0 : 0 < y) : ∃ r : Int64, rmLo a b = some r ∧ r.toInt = ((x % y : Nat) : Int) := by
  have hb0 : ¬ b = 0 := by
    rw [li_i hb]; omega
  have hm : x % y < y := Nat.mod_lt _ hy0
  have hd : x / y * y + x % y = x := by
    have := Nat.div_add_mod x y
    rw [Nat.mul_comm]; exact this
  have hdl : x / y ≤ x := Nat.div_le_self x y
  refine ⟨a - a / b * b, ?_, ?_⟩
  · unfold rmLo
    rw [if_neg hb0]
  · have e1 : (a / b).toInt = ((x / y : Nat) : Int) := by
      rw [Int64.toInt_div, ha, hb]
      have : (x : Int).tdiv (y : Int) = ((x / y : Nat) : Int) := rfl
      rw [this]
      exact i64_bd (Int.le_trans (by omega) (Int.natCast_nonneg _)) (Int.lt_of_le_of_lt (Int.ofNat_le.mpr hdl) (by omega))
    have e2 : (a / b * b).toInt = ((x / y * y : Nat) : Int) := by
      rw [Int64.toInt_mul, e1, hb]
      have : ((x / y : Nat) : Int) * (y : Int) = ((x / y * y : Nat) : Int) := by rw [Int.natCast_mul]
      rw [this]
      exact i64_bd (by omega) (by omega)
    rw [Int64.toInt_sub, ha, e2]
    rw [i64_bd (by omega) (by omega)]
    omega
theorem gcd_step {u v : Nat} : Nat.gcd v (u % v) = Nat.gcd u v := by
  rw [Nat.gcd_comm v, ← Nat.gcd_rec, Nat.gcd_comm]
theorem mod2 {v r : Nat} (hr : 0 < r) (h : r < v) : 2 * (v % r) < v := by
  have h1 : v % r < r := Nat.mod_lt _ hr
  have h2 := Nat.mod_add_div v r
  have h3 : 1 ≤ v / r := by
    rw [Nat.le_div_iff_mul_le hr]
    omega
  have h4 := Nat.mul_le_mul_left r h3
  omega
def fendM (x1 x3 x5 : Int64) (M : Mem) : Option (Mem × Int32) := (dvL x1 x5).bind fun v2 => (dvL x3 x5).bind fun v4 => some (sL (sL M 0 5 v2) 0 6 v4, (1 : Int32))
theorem fr_m {fu : Nat} {x1 x3 : Int64} {M : Mem} : ∀ (k u v f : Nat) (x5 x7 : Int64), x5.toInt = (u : Int) → x7.toInt = (v : Int) → u < 4611686018427387904 → v < 4611686018427387904 → v < 2 ^ k → 2 * k < f → ∃ G : Int64, G.toInt = ((Nat.gcd u v : Nat) : Int) ∧ f5_fraction_6 fu f x1 x3 x5 x7 M = fendM x1 x3 G M := by
  intro k
  induction k with
  | zero =>
    intro u v f x5 x7 hu hv lu lv hk hf
    rcases f with _ | f
    · omega
    have v0 : v = 0 := by
      have : (2 : Nat) ^ 0 = 1 := rfl
      omega
    subst v0
    have z : x7 = 0 := (li_i hv).mpr rfl
    have t1 : lg_cmp x7 (0 : Int64) = 0 := (lg_cmp_eq _ _).mpr z
    refine ⟨x5, by rw [hu, Nat.gcd_zero_right], ?_⟩
    rw [f5_fraction_6]
    dsimp only
    rw [if_pos t1]
    rfl
  | succ k ih =>
    intro u v f x5 x7 hu hv lu lv hk hf
    rcases f with _ | f
    · omega
    by_cases v0 : v = 0
    · subst v0
      have z : x7 = 0 := (li_i hv).mpr rfl
      have t1 : lg_cmp x7 (0 : Int64) = 0 := (lg_cmp_eq _ _).mpr z
      refine ⟨x5, by rw [hu, Nat.gcd_zero_right], ?_⟩
      rw [f5_fraction_6]
      dsimp only
      rw [if_pos t1]
      rfl
    have n1 : ¬ lg_cmp x7 (0 : Int64) = 0 := by
      rw [lg_cmp_eq, li_i hv]; omega
    obtain ⟨r, r1, r2⟩ := rmL_n hu hv lu lv (by omega)
    have hm : u % v < v := Nat.mod_lt _ (by omega)
    rcases f with _ | f
    · omega
    by_cases r0 : u % v = 0
    · have z : r = 0 := (li_i r2).mpr (by omega)
      have t1 : lg_cmp r (0 : Int64) = 0 := (lg_cmp_eq _ _).mpr z
      refine ⟨x7, ?_, ?_⟩
      · rw [hv, ← gcd_step, r0, Nat.gcd_zero_right]
      · rw [f5_fraction_6]
        dsimp only
        rw [if_neg n1, r1, bS, f5_fraction_6]
        dsimp only
        rw [if_pos t1]
        rfl
    · have n2 : ¬ lg_cmp r (0 : Int64) = 0 := by
        rw [lg_cmp_eq, li_i r2]; omega
      obtain ⟨q, q1, q2⟩ := rmL_n hv r2 lv (by omega) (by omega)
      have h2 := mod2 (v := v) (r := u % v) (by omega) hm
      have hp : 2 ^ (k + 1) = 2 * 2 ^ k := by rw [Nat.pow_succ, Nat.mul_comm]
      obtain ⟨G, g5, g6⟩ := ih (u % v) (v % (u % v)) f r q r2 q2 (by omega) (by omega) (by omega) (by omega)
      refine ⟨G, ?_, ?_⟩
      · rw [g5, gcd_step, gcd_step]
      · rw [f5_fraction_6]
        dsimp only
        rw [if_neg n1, r1, bS, f5_fraction_6]
        dsimp only
        rw [if_neg n2, q1, bS]
        exact g6
theorem fr_c {fu : Nat} {x1 x3 : Int64} {M : Mem} : ∀ (k u v f w : Nat) (x7 x5 : Int64), x7.toInt = (u : Int) → x5.toInt = (v : Int) → u < 4611686018427387904 → v < 4611686018427387904 → v < 2 ^ k → 2 * k < f → w + 2 * k < 1000 → ∃ G : Int64, G.toInt = ((Nat.gcd u v : Nat) : Int) ∧ f4_tellFraction_9 fu f x1 x3 x5 x7 (nI w) M = f4_tellFraction_45 fu x1 x3 G M := by
  intro k
  induction k with
  | zero =>
    intro u v f w x7 x5 hu hv lu lv hk hf hw
    rcases f with _ | f
    · omega
    have v0 : v = 0 := by
      have : (2 : Nat) ^ 0 = 1 := rfl
      omega
    subst v0
    have z : x5 = 0 := (li_i hv).mpr rfl
    have t1 : lg_cmp x5 (0 : Int64) = 0 := (lg_cmp_eq _ _).mpr z
    have t0 : ¬ (1000 : Int32) ≤ nI w := by
      show ¬ nI 1000 ≤ nI w
      rw [nle (by omega) (by omega)]; omega
    refine ⟨x7, by rw [hu, Nat.gcd_zero_right], ?_⟩
    rw [f4_tellFraction_9]
    dsimp only
    rw [if_neg t0, if_pos t1]
  | succ k ih =>
    intro u v f w x7 x5 hu hv lu lv hk hf hw
    rcases f with _ | f
    · omega
    have t0 : ¬ (1000 : Int32) ≤ nI w := by
      show ¬ nI 1000 ≤ nI w
      rw [nle (by omega) (by omega)]; omega
    by_cases v0 : v = 0
    · subst v0
      have z : x5 = 0 := (li_i hv).mpr rfl
      have t1 : lg_cmp x5 (0 : Int64) = 0 := (lg_cmp_eq _ _).mpr z
      refine ⟨x7, by rw [hu, Nat.gcd_zero_right], ?_⟩
      rw [f4_tellFraction_9]
      dsimp only
      rw [if_neg t0, if_pos t1]
    have n1 : ¬ lg_cmp x5 (0 : Int64) = 0 := by
      rw [lg_cmp_eq, li_i hv]; omega
    obtain ⟨r, r1, r2⟩ := rmL_n hu hv lu lv (by omega)
    have hm : u % v < v := Nat.mod_lt _ (by omega)
    have t0' : ¬ (1000 : Int32) ≤ nI (w + 1) := by
      show ¬ nI 1000 ≤ nI (w + 1)
      rw [nle (by omega) (by omega)]; omega
    rcases f with _ | f
    · omega
    by_cases r0 : u % v = 0
    · have z : r = 0 := (li_i r2).mpr (by omega)
      have t1 : lg_cmp r (0 : Int64) = 0 := (lg_cmp_eq _ _).mpr z
      refine ⟨x5, ?_, ?_⟩
      · rw [hv, ← gcd_step, r0, Nat.gcd_zero_right]
      · rw [f4_tellFraction_9]
        dsimp only
        rw [if_neg t0, if_neg n1, r1, bS, nm_u, ad1, f4_tellFraction_9]
        dsimp only
        rw [if_neg t0', if_pos t1]
    · have n2 : ¬ lg_cmp r (0 : Int64) = 0 := by
        rw [lg_cmp_eq, li_i r2]; omega
      obtain ⟨q, q1, q2⟩ := rmL_n hv r2 lv (by omega) (by omega)
      have h2 := mod2 (v := v) (r := u % v) (by omega) hm
      have hp : 2 ^ (k + 1) = 2 * 2 ^ k := by rw [Nat.pow_succ, Nat.mul_comm]
      obtain ⟨G, g5, g6⟩ := ih (u % v) (v % (u % v)) f (w + 1 + 1) r q r2 q2 (by omega) (by omega) (by omega) (by omega) (by omega)
      refine ⟨G, ?_, ?_⟩
      · rw [g5, gcd_step, gcd_step]
      · rw [f4_tellFraction_9]
        dsimp only
        rw [if_neg t0, if_neg n1, r1, bS, nm_u, ad1, f4_tellFraction_9]
        dsimp only
        rw [if_neg t0', if_neg n2, q1, bS, nm_u, ad1]
        exact g6
/-- both tell one fraction -/
theorem frac_cm {fu A B : Nat} {a b : Int64} {MC MM : Mem} (hfu : 10000 ≤ fu) (ha : a.toInt = (A : Int)) (hb : b.toInt = (B : Int)) (hA : A < 2 ^ 60) (hB : B < 2 ^ 60) (hB0 : 0 < B) : ∃ x y, f4_tellFraction fu a b MC = some (sL (sL MC 28 7 x) 28 8 y) ∧ f5_fraction fu a b MM = some (sL (sL MM 0 5 x) 0 6 y, 1) := by
  have p60 : (2 : Nat) ^ 60 = 1152921504606846976 := by decide
  obtain ⟨G, c1, c2⟩ := fr_c (fu := fu) (x1 := a) (x3 := b) (M := MC) 60 B A fu 0 b a hb ha (by omega) (by omega) hA (by omega) (by omega)
  obtain ⟨H, d1, d2⟩ := fr_m (fu := fu) (x1 := a) (x3 := b) (M := MM) 60 A B fu a b ha hb (by omega) (by omega) hB (by omega)
  have e : H = G := by
    apply Int64.toInt_inj.mp
    rw [c1, d1, Nat.gcd_comm]
  subst e
  have hg : 0 < Nat.gcd B A := Nat.gcd_pos_of_pos_left A hB0
  have hH : ¬ H = 0 := by
    rw [li_i c1]; omega
  have q1 : dvL a H = some (a / H) := by unfold dvL; rw [if_neg hH]
  have q2 : dvL b H = some (b / H) := by unfold dvL; rw [if_neg hH]
  have t1 : ¬ lg_cmp H (0 : Int64) ≤ 0 := by
    rw [lg_cmp_le, Int64.le_iff_toInt_le, c1]
    have : (0 : Int64).toInt = 0 := by decide
    rw [this]
    omega
  refine ⟨a / H, b / H, ?_, ?_⟩
  · unfold f4_tellFraction
    rw [show (0 : Int32) = nI 0 from rfl, c2]
    unfold f4_tellFraction_45
    rw [if_neg t1, q1, bS, nm_u, q2, bS, nm_u]
  · unfold f5_fraction
    rw [d2]
    unfold fendM
    rw [q1, bS, q2, bS]
theorem Rel.frac {MC MM : Mem} (h : Rel MC MM) (x y : Int64) : Rel (sL (sL MC 28 7 x) 28 8 y) (sL (sL MM 0 5 x) 0 6 y) := by
  obtain ⟨P, hA, hR, hT, hP, hD, hK⟩ := h
  refine ⟨P, ?_, hR.cg (fun _ _ => rfl) rfl rfl, hT.cg (fun _ _ => rfl) rfl rfl, hP.cg (fun _ _ => rfl) rfl (fun _ _ => rfl), hD.cg (fun _ _ => rfl) rfl rfl rfl, hK.cg (fun _ _ => rfl) rfl⟩
  obtain ⟨a1, a2, a3, a4, a5⟩ := hA
  refine ⟨a1, a2, ?_, ?_, a5⟩
  · rw [h4 (by omega), h2, h4 (by omega), h2]
  · rw [h2, h2]
