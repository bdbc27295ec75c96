/-! 26: by turns, chances, means -/
section DU
variable {P : PD} {s : Nat → Int32} {M : Mem} {fu : Nat}
theorem gpre_le {m m' : Nat} (h : ∀ F a b, gam P m F a b ≤ gam P m' F a b) (F a b : Nat) : ∀ k, gpre P m' F a b k ≤ gpre P m F a b k := by
  intro k
  induction k with
  | zero =>
    show -(gam P m' F b a) ≤ -(gam P m F b a)
    have := h F b a
    omega
  | succ k ih =>
    rw [gpre_s, gpre_s]
    have q := h (F ^^^ (F &&& 2 ^ k)) b (a ||| hm P k)
    split
    · omega
    · exact ih
theorem gam_le {m m' : Nat} (h : ∀ F a b, gam P m F a b ≤ gam P m' F a b) (F a b : Nat) : gam P (m' + 1) F a b ≤ gam P (m + 1) F a b := by
  rw [gam_s, gam_s]
  exact gpre_le h F a b 8
theorem gam_01 (F a b : Nat) : gam P 0 F a b ≤ gam P 1 F a b := by
  rw [gam_s]
  have key : ∀ k, 0 ≤ gpre P 0 F a b k := by
    intro k
    induction k with
    | zero => exact Int.le_refl _
    | succ k ih =>
      rw [gpre_s]
      split
      · omega
      · exact ih
  exact key 8
theorem gam_21 (F a b : Nat) : gam P 2 F a b ≤ gam P 1 F a b := gam_le gam_01 F a b
theorem gam_23 (F a b : Nat) : gam P 2 F a b ≤ gam P 3 F a b := gam_le (m := 2) (m' := 1) gam_21 F a b
theorem gam_43 (F a b : Nat) : gam P 4 F a b ≤ gam P 3 F a b := gam_le (m := 2) (m' := 3) gam_23 F a b
theorem lB_ok (h : St P s M) : ∀ k, (lB P s).testBit k = true → okP P k := by
  intro k hk
  rw [msk_tb] at hk
  simp at hk
  exact (h.1.2.2.2.1 k hk.1).1
def gm (P : PD) (s : Nat → Int32) (m : Nat) : Int := 500 + gam P m (lB P s) 0 0
theorem gm_bd (h : St P s M) {m : Nat} (hm : m ≤ 4) : 0 ≤ gm P s m ∧ gm P s m ≤ 1000 := by
  have := gam_bd m (lB P s) 0 0 (lB_ok h)
  unfold gm
  omega
theorem duel_s {m : Nat} (hfu : 10000 ≤ fu) (h : St P s M) (hm : m ≤ 4) : f4_duel M fu (nI m) = some (zI (gm P s m)) := by
  have hP := h.1
  have hn := h.2.2.2
  have h8 := hP.1
  have lyl := msk_lt P.1 (lyB s)
  have gc := gain_c (fu := fu) hfu hP m 6 (lB P s) 0 0 (by omega) (by omega) lyl (by omega) (by omega)
  have e5 : nI 500 + zI (gam P m (lB P s) 0 0) = zI (gm P s m) := by
    rw [nI_z, zadd]; rfl
  unfold f4_duel f4_gainByTurns_35D
  simp (disch := omega) only [lit, nlt, nle, neq, nI_add, pk_mul, nm_u, bS, gd_d, oc_none, oc_some, rd_n, wr_n, if_pos, if_neg, ite_true, ite_false, not_true_eq_false, not_false_eq_true, g1, g2, g3, g4, h1, h2, h3, h4, ior, iand, shl_n, Nat.or_zero, hP.2.1, lying_c hP h.2.2.1, gc, e5]
end DU
/-- sums of counts -/
def sgN (g : Nat → Nat) : Nat → Nat
  | 0 => 0
  | n + 1 => sgN g n + g n
theorem sgN_cg {g h : Nat → Nat} : ∀ n, (∀ k, k < n → g k = h k) → sgN g n = sgN h n := by
  intro n
  induction n with
  | zero => intro _; rfl
  | succ n ih =>
    intro q
    show sgN g n + g n = sgN h n + h n
    rw [ih (fun k hk => q k (by omega)), q n (by omega)]
theorem sgN_le {g h : Nat → Nat} : ∀ n, (∀ k, k < n → g k ≤ h k) → sgN g n ≤ sgN h n := by
  intro n
  induction n with
  | zero => intro _; exact Nat.le_refl _
  | succ n ih =>
    intro q
    have a := ih (fun k hk => q k (by omega))
    have b := q n (by omega)
    show sgN g n + g n ≤ sgN h n + h n
    omega
theorem sgN_mul (g : Nat → Nat) (c : Nat) : ∀ n, sgN (fun k => g k * c) n = sgN g n * c := by
  intro n
  induction n with
  | zero => show 0 = 0 * c; rw [Nat.zero_mul]
  | succ n ih =>
    show sgN (fun k => g k * c) n + g n * c = (sgN g n + g n) * c
    rw [ih, Nat.add_mul]
theorem sgN_app (g : Nat → Nat) (a : Nat) : ∀ b, sgN g (a + b) = sgN g a + sgN (fun i => g (a + i)) b := by
  intro b
  induction b with
  | zero => rfl
  | succ b ih =>
    show sgN g (a + b) + g (a + b) = sgN g a + (sgN (fun i => g (a + i)) b + g (a + b))
    rw [ih, Nat.add_assoc]
theorem sgN_0 {g : Nat → Nat} : ∀ n, (∀ k, k < n → g k = 0) → sgN g n = 0 := by
  intro n
  induction n with
  | zero => intro _; rfl
  | succ n ih =>
    intro q
    show sgN g n + g n = 0
    rw [ih (fun k hk => q k (by omega)), q n (by omega)]
theorem sgN_1 {g : Nat → Nat} {n : Nat} (h : ∀ k, 0 < k → k < n + 1 → g k = 0) : sgN g (n + 1) = g 0 := by
  rw [show n + 1 = 1 + n by omega, sgN_app]
  rw [sgN_0 n (fun k hk => h (1 + k) (by omega) (by omega))]
  show 0 + g 0 + 0 = g 0
  omega
def vlN (P : PD) (md : Option Nat) (S : Nat) : Nat := match md with
  | none => (mx P S).toNat
  | some v => if mx P S < (v : Int) then 0 else 1
def tmN (P : PD) (md : Option Nat) (H L p n T : Nat) : Nat := prN T L p n * vlN P md (H ||| (L ^^^ T))
def msN (P : PD) (md : Option Nat) (H L p i : Nat) : Nat := sgN (fun T => if T &&& L = T then tmN P md H L p P.1 T else 0) i
/-- what all terms come to -/
def PW (L : Nat) : Nat → Nat
  | 0 => 1
  | n + 1 => PW L n * (if L.testBit n then 12 else 1)
theorem and_hi {T L n : Nat} (hT : T < 2 ^ n) : ((2 ^ n + T) &&& L = 2 ^ n + T) ↔ (L.testBit n = true ∧ T &&& L = T) := by
  have e : 2 ^ n + T = T ||| 2 ^ n := by rw [or_pow hT, Nat.add_comm]
  rw [e, and_sub, and_sub]
  constructor
  · intro h
    refine ⟨h n (by rw [or_tb]; simp), fun k hk => h k (by rw [or_tb, hk]; rfl)⟩
  · intro ⟨h1, h2⟩ k hk
    rw [or_tb] at hk
    simp at hk
    rcases hk with hk | hk
    · exact h2 k hk
    · rw [← hk]; exact h1
theorem prN_hi {T L p n : Nat} (hT : T < 2 ^ n) : prN (2 ^ n + T) L p n = prN T L p n := by
  have e : 2 ^ n + T = T ||| 2 ^ n := by rw [or_pow hT, Nat.add_comm]
  unfold prN
  refine fo_cg n (fun k a hk => ?_) 1
  unfold fac
  rw [e, or_tb]
  have : decide (n = k) = false := by simp; omega
  rw [this, Bool.or_false]
theorem pr_sum {L p : Nat} (hp : p ≤ 12) : ∀ n, sgN (fun T => if T &&& L = T then prN T L p n else 0) (2 ^ n) = PW L n := by
  intro n
  induction n with
  | zero =>
    show 0 + (if 0 &&& L = 0 then prN 0 L p 0 else 0) = 1
    rw [Nat.zero_and, if_pos rfl]
    rfl
  | succ n ih =>
    rw [show 2 ^ (n + 1) = 2 ^ n + 2 ^ n by rw [Nat.pow_succ]; omega, sgN_app]
    have a1 : sgN (fun T => if T &&& L = T then prN T L p (n + 1) else 0) (2 ^ n) = sgN (fun T => if T &&& L = T then prN T L p n else 0) (2 ^ n) * (if L.testBit n then 12 - p else 1) := by
      rw [← sgN_mul]
      refine sgN_cg _ (fun T hT => ?_)
      try dsimp only
      by_cases c : T &&& L = T
      · rw [if_pos c, if_pos c, prN_s]
        congr 1
        unfold fac
        rw [tb_ge hT (Nat.le_refl n)]
        rfl
      · rw [if_neg c, if_neg c, Nat.zero_mul]
    have a2 : sgN (fun i => if (2 ^ n + i) &&& L = 2 ^ n + i then prN (2 ^ n + i) L p (n + 1) else 0) (2 ^ n) = sgN (fun T => if T &&& L = T then prN T L p n else 0) (2 ^ n) * (if L.testBit n then p else 0) := by
      rw [← sgN_mul]
      refine sgN_cg _ (fun T hT => ?_)
      try dsimp only
      have hh := and_hi (L := L) hT
      cases c1 : L.testBit n
      · rw [if_neg (fun q => by rw [hh.mp q |>.1] at c1; cases c1)]
        simp
      · by_cases c : T &&& L = T
        · rw [if_pos (hh.mpr ⟨c1, c⟩), if_pos c, if_pos rfl, prN_s, prN_hi hT]
          congr 1
          unfold fac
          have e : 2 ^ n + T = T ||| 2 ^ n := by rw [or_pow hT, Nat.add_comm]
          rw [c1, if_pos rfl, e, or_tb]
          simp
        · rw [if_neg (fun q => c (hh.mp q).2), if_neg c, Nat.zero_mul]
    rw [a1, a2, ih]
    show PW L n * (if L.testBit n then 12 - p else 1) + PW L n * (if L.testBit n then p else 0) = PW L n * (if L.testBit n then 12 else 1)
    rw [← Nat.mul_add]
    congr 1
    split <;> omega
theorem PW_cnt (L : Nat) : ∀ n, PW L n = 12 ^ cnt n (fun k => L.testBit k) := by
  intro n
  induction n with
  | zero => rfl
  | succ n ih =>
    rw [cnt_s]
    show PW L n * (if L.testBit n then 12 else 1) = _
    rw [ih]
    cases L.testBit n
    · rw [if_neg (by decide), if_neg (by decide), Nat.mul_one]
    · rw [if_pos rfl, if_pos rfl, Nat.pow_succ]
/-- a larger set is worth no less -/
theorem mx_mono {P : PD} {S U : Nat} (hU : U < 256) (h : S &&& U = S) : mx P S ≤ mx P U := by
  obtain ⟨t, t1, t2⟩ := mx_at (P := P) S
  obtain ⟨a1, a2⟩ := okS_and t1
  have : okS P U t = true := okS_of (by
    rw [and_sub] at *
    exact fun k hk => h k (a1 k hk)) a2
  rw [← t2]
  exact mx_ub hU this
section CH
variable {P : PD} {s : Nat → Int32} {M : Mem} {fu H L p : Nat} {md : Option Nat}
theorem vl_N (hP : GC P M) {S : Nat} (hS : S < 2 ^ P.1) : vlN P md S ≤ 480 ∧ (vl P md S).toInt = (vlN P md S : Int) := by
  have b1 := mx_bd hP hS
  rcases md with _ | v
  · refine ⟨by show (mx P S).toNat ≤ 480; omega, ?_⟩
    show (zI (mx P S)).toInt64.toInt = ((mx P S).toNat : Int)
    rw [Int32.toInt_toInt64, zI_toInt (by omega) (by omega)]
    omega
  · show (if mx P S < (v : Int) then 0 else 1) ≤ 480 ∧ (if mx P S < (v : Int) then (nI 0).toInt64 else (nI 1).toInt64).toInt = ((if mx P S < (v : Int) then 0 else 1 : Nat) : Int)
    split
    · exact ⟨by omega, n64 (by omega)⟩
    · exact ⟨by omega, n64 (by omega)⟩
theorem tm_N (hP : GC P M) (hp : p ≤ 12) (hH : H < 2 ^ P.1) (hL : L < 2 ^ P.1) {T : Nat} (hT : T &&& L = T) : tmN P md H L p P.1 T ≤ 206391214080 ∧ (tm P md H L p P.1 T).toInt = (tmN P md H L p P.1 T : Int) := by
  have hTL : T ≤ L := by
    have := Nat.and_le_right (n := T) (m := L)
    omega
  obtain ⟨z1, z2⟩ := vl_N (md := md) hP (S := H ||| (L ^^^ T)) (Nat.or_lt_two_pow hH (Nat.xor_lt_two_pow hL (by omega)))
  obtain ⟨q1, q2⟩ := pr_int (T := T) (L := L) hp P.1 hP.1
  have q3 : (12 : Nat) ^ P.1 ≤ 429981696 := Nat.pow_le_pow_right (n := 12) (by omega) hP.1
  have q4 := Nat.mul_le_mul (Nat.le_trans q2 q3) z1
  refine ⟨q4, ?_⟩
  unfold tm tmN
  rw [Int64.toInt_mul, q1, z2, ← Int.natCast_mul]
  generalize prN T L p P.1 * vlN P md (H ||| (L ^^^ T)) = y at q4
  exact i64_bd (by omega) (by omega)
theorem ms_N (hP : GC P M) (hp : p ≤ 12) (hH : H < 2 ^ P.1) (hL : L < 2 ^ P.1) : ∀ i, i ≤ 256 → msN P md H L p i ≤ i * 206391214080 ∧ (ms64 P md H L p i).toInt = (msN P md H L p i : Int) := by
  intro i
  induction i with
  | zero => intro _; exact ⟨by show 0 ≤ _; omega, by show (0 : Int64).toInt = ((0 : Nat) : Int); decide⟩
  | succ i ih =>
    intro hi
    obtain ⟨a1, a2⟩ := ih (by omega)
    have e : msN P md H L p (i + 1) = msN P md H L p i + (if i &&& L = i then tmN P md H L p P.1 i else 0) := rfl
    rw [ms_s, e]
    by_cases c : i &&& L = i
    · obtain ⟨z1, z2⟩ := tm_N (md := md) hP hp hH hL c
      rw [if_pos c, if_pos c]
      generalize tmN P md H L p P.1 i = z at *
      generalize msN P md H L p i = A at *
      refine ⟨by omega, ?_⟩
      rw [Int64.toInt_add, a2, z2, ← Int.natCast_add]
      exact i64_bd (by omega) (by omega)
    · rw [if_neg c, if_neg c]
      refine ⟨Nat.le_trans a1 (Nat.mul_le_mul_right _ (Nat.le_succ i)), ?_⟩
      rw [Int64.add_zero, a2]
      rfl
theorem frac_s {A B : Nat} {a b : Int64} (hfu : 10000 ≤ fu) (ha : a.toInt = (A : Int)) (hb : b.toInt = (B : Int)) (hA : A < 2 ^ 60) (hB : B < 2 ^ 60) (hB0 : 0 < B) : ∃ x y, f4_tellFraction fu a b M = some (sL (sL M 28 7 x) 28 8 y) ∧ x.toInt = ((A / Nat.gcd B A : Nat) : Int) ∧ y.toInt = ((B / Nat.gcd B A : Nat) : Int) := by
  have p60 : (2 : Nat) ^ 60 = 1152921504606846976 := by decide
  obtain ⟨G, c1, c2⟩ := fr_c (fu := fu) (x1 := a) (x3 := b) (M := M) 60 B A fu 0 b a hb ha (by omega) (by omega) hA (by omega) (by omega)
  have hg : 0 < Nat.gcd B A := Nat.gcd_pos_of_pos_left A hB0
  have hH : ¬ G = 0 := by
    rw [li_i c1]; omega
  have q1 : dvL a G = some (a / G) := by unfold dvL; rw [if_neg hH]
  have q2 : dvL b G = some (b / G) := by unfold dvL; rw [if_neg hH]
  have t1 : ¬ lg_cmp G (0 : Int64) ≤ 0 := by
    rw [lg_cmp_le, Int64.le_iff_toInt_le, c1]
    have : (0 : Int64).toInt = 0 := by decide
    rw [this]
    omega
  have dv : ∀ (u : Int64) (U : Nat), u.toInt = (U : Int) → U < 2 ^ 60 → (u / G).toInt = ((U / Nat.gcd B A : Nat) : Int) := by
    intro u U hu hU
    have hdl := Nat.div_le_self U (Nat.gcd B A)
    rw [Int64.toInt_div, hu, c1]
    have : (U : Int).tdiv ((Nat.gcd B A : Nat) : Int) = ((U / Nat.gcd B A : Nat) : Int) := rfl
    rw [this]
    exact i64_bd (Int.le_trans (by omega) (Int.natCast_nonneg _)) (Int.lt_of_le_of_lt (Int.ofNat_le.mpr hdl) (by omega))
  refine ⟨a / G, b / G, ?_, dv a A ha hA, dv b B hb hB⟩
  unfold f4_tellFraction
  rw [show (0 : Int32) = nI 0 from rfl, c2]
  unfold f4_tellFraction_45
  rw [if_neg t1, q1, bS, nm_u, q2, bS, nm_u]
/-- the fraction that is told -/
def frc (P : PD) (s : Nat → Int32) (md : Option Nat) (p : Nat) (x y : Int64) : Prop := x.toInt = ((msN P md (hB P s) (lB P s) p (2 ^ P.1) / Nat.gcd (PW (lB P s) P.1) (msN P md (hB P s) (lB P s) p (2 ^ P.1)) : Nat) : Int) ∧ y.toInt = ((PW (lB P s) P.1 / Nat.gcd (PW (lB P s) P.1) (msN P md (hB P s) (lB P s) p (2 ^ P.1)) : Nat) : Int)
theorem PW_bd (hP : GC P M) : 0 < PW L P.1 ∧ PW L P.1 ≤ 429981696 := by
  rw [PW_cnt]
  have h := cnt_le P.1 (fun k => L.testBit k)
  have h8 := hP.1
  refine ⟨Nat.pow_pos (by omega), ?_⟩
  exact Nat.pow_le_pow_right (n := 12) (by omega) (show cnt P.1 (fun k => L.testBit k) ≤ 8 by omega)
theorem PW_12 (hP : GC P M) (hL : L < 2 ^ P.1) : (pw 12 (pcn L)).toInt = (PW L P.1 : Int) := by
  have h256 := pow8 hP.1
  rw [PW_cnt, cnt_pcn hP.1 hL]
  exact twelve (pcn L) (pcn_le (by omega))
theorem frac_t (hfu : 10000 ≤ fu) (h : St P s M) (hp : p ≤ 12) : ∃ x y, f4_tellFraction fu (cs64 P md (hB P s) (lB P s) p (lB P s + 1)) (pw 12 (pcn (lB P s))) M = some (sL (sL M 28 7 x) 28 8 y) ∧ frc P s md p x y := by
  have hP := h.1
  have h8 := hP.1
  have h256 := pow8 h8
  have p60 : (2 : Nat) ^ 60 = 1152921504606846976 := by decide
  have hH : hB P s < 2 ^ P.1 := msk_lt _ _
  have hL : lB P s < 2 ^ P.1 := msk_lt _ _
  obtain ⟨m1, m2⟩ := ms_N (md := md) hP hp hH hL (2 ^ P.1) h256
  obtain ⟨w1, w2⟩ := PW_bd (L := lB P s) hP
  have m3 := Nat.mul_le_mul_right 206391214080 h256
  rw [← ms_cs h8 hL]
  exact frac_s hfu m2 (PW_12 hP hL) (by omega) (by omega) w1
theorem odds_s {v : Nat} (hfu : 10000 ≤ fu) (h : St P s M) (hp : p ≤ 12) (hv : v ≤ 200) : ∃ x y, f4_odds fu (nI v) (nI p) M = some (sL (sL M 28 7 x) 28 8 y, nI 1) ∧ frc P s (some v) p x y := by
  have hP := h.1
  have h8 := hP.1
  have hn := h.2.2.2
  obtain ⟨x, y, c1, c2⟩ := frac_t (md := some v) hfu h hp
  refine ⟨x, y, ?_, c2⟩
  have s1 : ¬ nI v < (0 : Int32) := by
    show ¬ nI v < nI 0
    rw [nlt (by omega) (by omega)]; omega
  have s2 : ¬ (200 : Int32) < nI v := by
    show ¬ nI 200 < nI v
    rw [nlt (by omega) (by omega)]; omega
  have t1 : ¬ nI p < (0 : Int32) := by
    show ¬ nI p < nI 0
    rw [nlt (by omega) (by omega)]; omega
  have t2 : nI p ≤ (12 : Int32) := by
    show nI p ≤ nI 12
    rw [nle (by omega) (by omega)]; omega
  have t4 : ¬ nI P.1 = (0 : Int32) := by
    show ¬ nI P.1 = nI 0
    rw [neq (by omega) (by omega)]; omega
  have hh : M.1 33 3 = nI (hB P s) := h.2.2.1.2.1
  have h256 := pow8 h8
  have hL : lB P s < 2 ^ P.1 := msk_lt _ _
  have hH : hB P s < 2 ^ P.1 := msk_lt _ _
  have ol := odds_l (fu := fu) (p := p) (v := v) (H := hB P s) (L := lB P s) hfu hP hh hp hv hH hL (lB P s + 1) 0 fu (by omega) (by omega)
  unfold f4_odds
  rw [if_neg s1, if_neg s2, if_neg t1, if_pos t2, hP.2.1, if_neg t4, lying_c hP h.2.2.1, bS]
  refine Eq.trans ol ?_
  rw [c1, bS]
  rfl
theorem mid_s (hfu : 10000 ≤ fu) (h : St P s M) (hp : p ≤ 12) : ∃ x y, f4_mid fu (nI p) M = some (sL (sL M 28 7 x) 28 8 y, nI 1) ∧ frc P s none p x y := by
  have hP := h.1
  have h8 := hP.1
  have hn := h.2.2.2
  obtain ⟨x, y, c1, c2⟩ := frac_t (md := none) hfu h hp
  refine ⟨x, y, ?_, c2⟩
  have t1 : ¬ nI p < (0 : Int32) := by
    show ¬ nI p < nI 0
    rw [nlt (by omega) (by omega)]; omega
  have t2 : nI p ≤ (12 : Int32) := by
    show nI p ≤ nI 12
    rw [nle (by omega) (by omega)]; omega
  have t4 : ¬ nI P.1 = (0 : Int32) := by
    show ¬ nI P.1 = nI 0
    rw [neq (by omega) (by omega)]; omega
  have hh : M.1 33 3 = nI (hB P s) := h.2.2.1.2.1
  have h256 := pow8 h8
  have hL : lB P s < 2 ^ P.1 := msk_lt _ _
  have hH : hB P s < 2 ^ P.1 := msk_lt _ _
  have ml := mid_l (fu := fu) (p := p) (H := hB P s) (L := lB P s) hfu hP hh hp hH hL (lB P s + 1) 0 fu (by omega) (by omega)
  unfold f4_mid
  rw [if_neg t1, if_pos t2, hP.2.1, if_neg t4, lying_c hP h.2.2.1, bS]
  refine Eq.trans ml ?_
  rw [c1, bS]
  rfl
/-- what is added up, against all of it -/
theorem ms_le {c : Nat} (hp : p ≤ 12) (hc : ∀ S, S &&& (H ||| L) = S → vlN P md S ≤ c) : msN P md H L p (2 ^ P.1) ≤ PW L P.1 * c := by
  rw [← pr_sum hp, ← sgN_mul]
  refine sgN_le _ (fun T hT => ?_)
  try dsimp only
  by_cases e : T &&& L = T
  · rw [if_pos e, if_pos e]
    unfold tmN
    refine Nat.mul_le_mul_left _ (hc _ ?_)
    rw [and_sub]
    intro k hk
    rw [Nat.testBit_or] at hk ⊢
    rw [Nat.testBit_xor] at hk
    have e2 := (and_sub.mp e) k
    revert hk e2
    cases H.testBit k <;> cases L.testBit k <;> cases T.testBit k <;> simp
  · rw [if_neg e, if_neg e]
    omega
theorem ms_mono {md' : Option Nat} (hc : ∀ S, vlN P md S ≤ vlN P md' S) : msN P md H L p (2 ^ P.1) ≤ msN P md' H L p (2 ^ P.1) := by
  refine sgN_le _ (fun T hT => ?_)
  try dsimp only
  split
  · unfold tmN
    exact Nat.mul_le_mul_left _ (hc _)
  · omega
theorem ms_eq {c : Nat} (hp : p ≤ 12) (hc : ∀ S, S &&& (H ||| L) = S → vlN P md S = c) : msN P md H L p (2 ^ P.1) = PW L P.1 * c := by
  rw [← pr_sum hp, ← sgN_mul]
  refine sgN_cg _ (fun T hT => ?_)
  try dsimp only
  by_cases e : T &&& L = T
  · rw [if_pos e, if_pos e]
    unfold tmN
    rw [hc _ ?_]
    rw [and_sub]
    intro k hk
    rw [Nat.testBit_or] at hk ⊢
    rw [Nat.testBit_xor] at hk
    have e2 := (and_sub.mp e) k
    revert hk e2
    cases H.testBit k <;> cases L.testBit k <;> cases T.testBit k <;> simp
  · rw [if_neg e, if_neg e, Nat.zero_mul]
/-- nothing is swept: all that lies is left -/
theorem pr_0 {T L : Nat} : ∀ n, T < 2 ^ n → T ≠ 0 → T &&& L = T → prN T L 0 n = 0 := by
  intro n
  induction n with
  | zero =>
    intro h h0
    have : (2 : Nat) ^ 0 = 1 := rfl
    omega
  | succ n ih =>
    intro h h0 e
    rw [prN_s]
    cases c : T.testBit n
    · have : T < 2 ^ n := by
        refine Nat.lt_pow_two_of_testBit _ (fun k hk => ?_)
        by_cases q : k = n
        · rw [q]; exact c
        · exact tb_ge h (by omega)
      rw [ih this h0 e, Nat.zero_mul]
    · unfold fac
      rw [(and_sub.mp e) n c, c, if_pos rfl, if_pos rfl, Nat.mul_zero]
theorem pr_00 {L : Nat} : ∀ n, prN 0 L 0 n = PW L n := by
  intro n
  induction n with
  | zero => rfl
  | succ n ih =>
    rw [prN_s, ih]
    show PW L n * fac 0 L 0 n = PW L n * _
    unfold fac
    rw [Nat.zero_testBit]
    rfl
theorem ms_p0 : msN P md H L 0 (2 ^ P.1) = PW L P.1 * vlN P md (H ||| L) := by
  have hone : 1 ≤ 2 ^ P.1 := Nat.one_le_two_pow
  unfold msN
  rw [show 2 ^ P.1 = (2 ^ P.1 - 1) + 1 by omega, sgN_1 (fun T t0 hT => ?_)]
  · rw [Nat.zero_and, if_pos rfl]
    unfold tmN
    rw [pr_00, Nat.xor_zero]
  · by_cases e : T &&& L = T
    · rw [if_pos e]
      unfold tmN
      rw [pr_0 P.1 (by omega) (by omega) e, Nat.zero_mul]
    · rw [if_neg e]
end CH
