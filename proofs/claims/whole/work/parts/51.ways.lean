/-! 51: chances: what is added up -/
def pw (x : Int64) : Nat → Int64
  | 0 => 1
  | k + 1 => pw x k * x
theorem power_c {fu k : Nat} {x : Int64} (hfu : 10000 ≤ fu) (hk : k ≤ 8) : f4_power fu x (nI k) = some (pw x k) := by
  have key : ∀ (e i f : Nat), i + e = k → e < f → f4_power_5 fu f x (nI k) (pw x i) (nI i) = some (pw x k) := by
    intro e
    induction e with
    | zero =>
      intro i f hi hf
      rcases f with _ | f
      · omega
      have : i = k := by omega
      subst this
      rw [f4_power_5]
      simp (disch := omega) only [lit, nlt, nle, neq, nI_add, pk_mul, nm_u, bS, gd_d, oc_none, oc_some, rd_n, wr_n, if_pos, if_neg, ite_true, ite_false, not_true_eq_false, not_false_eq_true, g1, g2, g3, g4, h1, h2, h3, h4]
    | succ e ih =>
      intro i f hi hf
      rcases f with _ | f
      · omega
      have lh2 := ih (i + 1) f (by omega) (by omega)
      rw [f4_power_5]
      simp (disch := omega) only [lit, nlt, nle, neq, nI_add, pk_mul, nm_u, bS, gd_d, oc_none, oc_some, rd_n, wr_n, if_pos, if_neg, ite_true, ite_false, not_true_eq_false, not_false_eq_true, g1, g2, g3, g4, h1, h2, h3, h4]
      exact lh2
  exact key k 0 fu (by omega) (by omega)
/-- sums of longs -/
def sg64 (g : Nat → Int64) : Nat → Int64
  | 0 => 0
  | n + 1 => sg64 g n + g n
theorem sg_cg {g h : Nat → Int64} : ∀ n, (∀ k, k < n → g k = h k) → sg64 g n = sg64 h n := by
  intro n
  induction n with
  | zero => intro _; rfl
  | succ n ih =>
    intro q
    show sg64 g n + g n = sg64 h n + h n
    rw [ih (fun k hk => q k (by omega)), q n (by omega)]
theorem sg_front (g : Nat → Int64) : ∀ n, sg64 g (n + 1) = g 0 + sg64 (fun i => g (i + 1)) n := by
  intro n
  induction n with
  | zero =>
    show 0 + g 0 = g 0 + 0
    rw [Int64.zero_add, Int64.add_zero]
  | succ n ih =>
    show sg64 g (n + 1) + g (n + 1) = g 0 + (sg64 (fun i => g (i + 1)) n + g (n + 1))
    rw [ih, Int64.add_assoc]
theorem sg_rev (g : Nat → Int64) : ∀ n, sg64 g n = sg64 (fun i => g (n - 1 - i)) n := by
  intro n
  induction n with
  | zero => rfl
  | succ n ih =>
    rw [sg_front (fun i => g (n + 1 - 1 - i)) n]
    show sg64 g n + g n = g (n + 1 - 1 - 0) + _
    rw [ih, Int64.add_comm]
    congr 1
    · exact sg_cg n (fun k hk => by show g (n - 1 - k) = g (n + 1 - 1 - (k + 1)); congr 1; omega)
theorem sg_ext {g : Nat → Int64} {n : Nat} (h : ∀ k, n ≤ k → g k = 0) : ∀ m, n ≤ m → sg64 g m = sg64 g n := by
  intro m
  induction m with
  | zero => intro hm; rw [show n = 0 by omega]
  | succ m ih =>
    intro hm
    by_cases e : n = m + 1
    · rw [e]
    · show sg64 g m + g m = _
      rw [ih (by omega), h m (by omega), Int64.add_zero]
theorem sub_xor {L T : Nat} (hL : L < 256) (h : T &&& L = T) : L - T = L ^^^ T := by
  have key : ∀ L, L < 256 → ∀ T, T < 256 → T &&& L = T → L - T = L ^^^ T := by decide +kernel
  have := Nat.and_le_right (n := T) (m := L)
  exact key L hL T (by omega) h
theorem xor_sub {L T : Nat} (h : T &&& L = T) : (L ^^^ T) &&& L = L ^^^ T := by
  rw [and_sub]
  intro j hj
  rw [Nat.testBit_xor] at hj
  have := and_sub.mp h j
  revert hj this
  cases L.testBit j <;> cases T.testBit j <;> simp
theorem xor_xor {L T : Nat} : L ^^^ (L ^^^ T) = T := by rw [← Nat.xor_assoc, Nat.xor_self, Nat.zero_xor]
/-- over the parts of L one may go from either side -/
theorem sum_flip {L : Nat} (hL : L < 256) (f : Nat → Int64) : sg64 (fun T => if T &&& L = T then f T else 0) (L + 1) = sg64 (fun T => if T &&& L = T then f (L ^^^ T) else 0) (L + 1) := by
  rw [sg_rev]
  refine sg_cg (L + 1) (fun T hT => ?_)
  show (if (L + 1 - 1 - T) &&& L = L + 1 - 1 - T then f (L + 1 - 1 - T) else 0) = _
  rw [Nat.add_sub_cancel]
  by_cases c : T &&& L = T
  · rw [if_pos c, sub_xor hL c, if_pos (xor_sub c)]
  · rw [if_neg c, if_neg]
    intro q
    apply c
    have lh1 := sub_xor hL q
    rw [show L - (L - T) = T by omega] at lh1
    rw [lh1]
    exact xor_sub q
def fac (T L p k : Nat) : Nat := if L.testBit k then (if T.testBit k then p else 12 - p) else 1
def prN (T L p k : Nat) : Nat := fo (fun k x => x * fac T L p k) k 1
def fc64 (T L p k : Nat) : Int64 := if L.testBit k then (if T.testBit k then (nI p).toInt64 else (nI (12 - p)).toInt64) else 1
def pr64 (T L p k : Nat) : Int64 := fo (fun k x => x * fc64 T L p k) k 1
theorem pr64_s (T L p k : Nat) : pr64 T L p (k + 1) = pr64 T L p k * fc64 T L p k := rfl
theorem prN_s (T L p k : Nat) : prN T L p (k + 1) = prN T L p k * fac T L p k := rfl
theorem one64 : (1 : Int64).toInt = ((1 : Nat) : Int) := by decide
theorem fc_int {T L p k : Nat} (hp : p ≤ 12) : (fc64 T L p k).toInt = (fac T L p k : Nat) ∧ fac T L p k ≤ 12 := by
  unfold fc64 fac
  split
  · split
    · exact ⟨n64 (by omega), hp⟩
    · exact ⟨n64 (by omega), by omega⟩
  · exact ⟨one64, by omega⟩
theorem pr_int {T L p : Nat} (hp : p ≤ 12) : ∀ k, k ≤ 8 → (pr64 T L p k).toInt = (prN T L p k : Nat) ∧ prN T L p k ≤ 12 ^ k := by
  intro k
  induction k with
  | zero => intro _; exact ⟨one64, Nat.le_refl 1⟩
  | succ k ih =>
    intro hk
    obtain ⟨a1, a2⟩ := ih (by omega)
    obtain ⟨b1, b2⟩ := fc_int (T := T) (L := L) (k := k) hp
    have lh3 := Nat.mul_le_mul a2 b2
    have lh4 : 12 ^ k * 12 ≤ 429981696 := by
      have := Nat.pow_le_pow_right (n := 12) (by omega) hk
      rw [Nat.pow_succ] at this
      exact this
    rw [pr64_s, prN_s, Nat.pow_succ]
    refine ⟨?_, lh3⟩
    rw [Int64.toInt_mul, a1, b1, ← Int.natCast_mul]
    generalize prN T L p k * fac T L p k = z at lh3
    exact i64_bd (by omega) (by omega)
/-- the product, kind by kind -/
theorem pr_pw {T L p n : Nat} (hT : T &&& L = T) : pr64 T L p n = pw (nI (12 - p)).toInt64 (cnt n (fun k => (L ^^^ T).testBit k)) * pw (nI p).toInt64 (cnt n (fun k => T.testBit k)) := by
  induction n with
  | zero =>
    show (1 : Int64) = 1 * 1
    decide
  | succ n ih =>
    rw [pr64_s, ih, cnt_s, cnt_s]
    have hs := and_sub.mp hT n
    unfold fc64
    rw [Nat.testBit_xor]
    cases lh1 : L.testBit n
    · cases lh2 : T.testBit n
      · rw [if_neg (by decide), if_neg (by decide), if_neg (by decide), Int64.mul_one]
      · rw [lh2, lh1] at hs; exact absurd (hs rfl) (by decide)
    · cases lh2 : T.testBit n
      · rw [if_pos rfl, if_neg (by decide), if_pos (by decide), if_neg (by decide)]
        show _ = pw (nI (12 - p)).toInt64 (cnt n (fun k => (L ^^^ T).testBit k)) * (nI (12 - p)).toInt64 * _
        rw [Int64.mul_assoc, Int64.mul_assoc, Int64.mul_comm (nI (12 - p)).toInt64]
      · rw [if_pos rfl, if_pos rfl, if_neg (by decide), if_pos rfl]
        show _ = _ * (pw (nI p).toInt64 (cnt n (fun k => T.testBit k)) * (nI p).toInt64)
        rw [Int64.mul_assoc]
theorem cnt_pcn {S n : Nat} (hn : n ≤ 8) (hS : S < 2 ^ n) : cnt n (fun k => S.testBit k) = pcn S := by
  have e : msk n (fun k => S.testBit k) = S := by
    apply Nat.eq_of_testBit_eq
    intro i
    rw [msk_tb]
    by_cases c : i < n
    · simp [c]
    · rw [tb_ge hS (by omega)]; simp
  have lh1 := pcn_msk hn (fun k => S.testBit k)
  rw [e] at lh1
  exact lh1.symm
/-- what is asked of a set: what it is worth at most; or whether that is v or more -/
def vl (P : PD) (md : Option Nat) (S : Nat) : Int64 := match md with
  | none => (zI (mx P S)).toInt64
  | some v => if mx P S < (v : Int) then (nI 0).toInt64 else (nI 1).toInt64
def mdI (md : Option Nat) : Int32 := match md with
  | none => -nI 9
  | some v => nI v
theorem i0_64 : (nI 0).toInt64 = 0 := by decide
theorem i1_64 : (nI 1).toInt64 = 1 := by decide
theorem m12_64 : ∀ p, p ≤ 12 → (12 : Int64) - (nI p).toInt64 = (nI (12 - p)).toInt64 := by
  intro p hp
  have : ∀ p, p < 13 → (12 : Int64) - (nI p).toInt64 = (nI (12 - p)).toInt64 := by decide +kernel
  exact this p (by omega)
/-- a term -/
def tm (P : PD) (md : Option Nat) (H L p n T : Nat) : Int64 := pr64 T L p n * vl P md (H ||| (L ^^^ T))
section WY
variable {P : PD} {MC MM : Mem} {fu H L p : Nat} {md : Option Nat} {g : Nat → Int32}
theorem ways_i {T : Nat} {acc : Int64} {k24 : Int32 → Int32 → Int32 → Int32 → Int64 → Int32 → Mem → Option (Mem × Int64)} (hP : GP P MC MM) (hmd : ∀ v, md = some v → v ≤ 200) (hp : p ≤ 12) (hH : H < 2 ^ P.1) (hL : L < 2 ^ P.1) (hT : T &&& L = T) (hg : ∀ x, x < 2 ^ P.1 → g x = zI (mx P x)) : ∀ (e k f : Nat), k + e = P.1 → e < f → f5_ways_50 fu k24 f (mdI md) (nI p) (nI L) (nI H) acc (nI T) (pr64 T L p k) (nI k) (sF MM 15 g) = k24 (mdI md) (nI p) (nI L) (nI H) (acc + tm P md H L p P.1 T) (nI (T + 1)) (sF MM 15 g) := by
  have h8 := hP.1
  have h256 := pow8 h8
  have m9 : (sF MM 15 g).1 0 9 = nI P.1 := by rw [sF_q (by omega)]; exact hP.2.2.1
  have hTL : T ≤ L := by
    have := Nat.and_le_right (n := T) (m := L)
    omega
  have hLT : L ^^^ (L &&& T) = L ^^^ T := by rw [Nat.and_comm, hT]
  have hx : H ||| (L ^^^ T) < 2 ^ P.1 := Nat.or_lt_two_pow hH (Nat.xor_lt_two_pow hL (by omega))
  have r1 := hg _ hx
  have b1 := mx_bd hP hx
  intro e
  induction e with
  | zero =>
    intro k f hk hf
    rcases f with _ | f
    · omega
    have : k = P.1 := by omega
    subst this
    rw [f5_ways_50]
    unfold tm
    rcases md with _ | v
    · have q : (-nI 9 = -nI 9) = True := eq_true rfl
      unfold mdI vl
      simp (disch := omega) only [lit, nlt, nle, neq, nI_add, pk_mul, nm_u, bS, gd_d, oc_none, oc_some, rd_n, wr_n, if_pos, if_neg, ite_true, ite_false, not_true_eq_false, not_false_eq_true, g1, g2, g3, g4, h1, h2, h3, h4, ior, iand, shl_n, Nat.or_zero, m9, andnot, hLT, sF_1, r1, q]
    · have hv := hmd v rfl
      have v1 : vl P (some v) (H ||| (L ^^^ T)) = if mx P (H ||| (L ^^^ T)) < (v : Int) then (nI 0).toInt64 else (nI 1).toInt64 := rfl
      rw [show mdI (some v) = nI v from rfl, v1]
      have zl : (zI (mx P (H ||| (L ^^^ T))) < nI v) = (mx P (H ||| (L ^^^ T)) < (v : Int)) := by
        rw [nI_z]
        exact zlt (by omega) (by omega) (by omega) (by omega)
      by_cases d : mx P (H ||| (L ^^^ T)) < (v : Int)
      · rw [if_pos d]
        simp (disch := omega) only [lit, nlt, nle, neq, nI_add, pk_mul, nm_u, bS, gd_d, oc_none, oc_some, rd_n, wr_n, if_pos, if_neg, ite_true, ite_false, not_true_eq_false, not_false_eq_true, g1, g2, g3, g4, h1, h2, h3, h4, ior, iand, shl_n, Nat.or_zero, m9, andnot, hLT, sF_1, r1, np9 (show v < 256 by omega), zl]
      · rw [if_neg d]
        simp (disch := omega) only [lit, nlt, nle, neq, nI_add, pk_mul, nm_u, bS, gd_d, oc_none, oc_some, rd_n, wr_n, if_pos, if_neg, ite_true, ite_false, not_true_eq_false, not_false_eq_true, g1, g2, g3, g4, h1, h2, h3, h4, ior, iand, shl_n, Nat.or_zero, m9, andnot, hLT, sF_1, r1, np9 (show v < 256 by omega), zl]
  | succ e ih =>
    intro k f hk hf
    rcases f with _ | f
    · omega
    have lh2 := ih (k + 1) f (by omega) (by omega)
    rw [pr64_s] at lh2
    unfold fc64 at lh2
    rw [f5_ways_50]
    cases c : L.testBit k
    · rw [c, if_neg (by decide)] at lh2
      simp (disch := omega) only [lit, nlt, nle, neq, nI_add, pk_mul, nm_u, bS, gd_d, oc_none, oc_some, rd_n, wr_n, if_pos, if_neg, ite_true, ite_false, not_true_eq_false, not_false_eq_true, g1, g2, g3, g4, h1, h2, h3, h4, ior, iand, shl_n, Nat.or_zero, m9, hs_f c (show k < 31 by omega) (show L < 2147483648 by omega)]
      exact lh2
    · rw [if_pos c] at lh2
      cases c2 : T.testBit k
      · rw [c2, if_neg (by decide)] at lh2
        simp (disch := omega) only [lit, nlt, nle, neq, nI_add, pk_mul, nm_u, bS, gd_d, oc_none, oc_some, rd_n, wr_n, if_pos, if_neg, ite_true, ite_false, not_true_eq_false, not_false_eq_true, g1, g2, g3, g4, h1, h2, h3, h4, ior, iand, shl_n, Nat.or_zero, m9, hs_t c (show k < 31 by omega) (show L < 2147483648 by omega), hs_f c2 (show k < 31 by omega) (show T < 2147483648 by omega), kq9, m12_64]
        exact lh2
      · rw [if_pos c2] at lh2
        simp (disch := omega) only [lit, nlt, nle, neq, nI_add, pk_mul, nm_u, bS, gd_d, oc_none, oc_some, rd_n, wr_n, if_pos, if_neg, ite_true, ite_false, not_true_eq_false, not_false_eq_true, g1, g2, g3, g4, h1, h2, h3, h4, ior, iand, shl_n, Nat.or_zero, m9, hs_t c (show k < 31 by omega) (show L < 2147483648 by omega), hs_t c2 (show k < 31 by omega) (show T < 2147483648 by omega), kq9]
        exact lh2
theorem ways_m (hfu : 10000 ≤ fu) (hP : GP P MC MM) (hmd : ∀ v, md = some v → v ≤ 200) (hp : p ≤ 12) (hH : H < 2 ^ P.1) (hL : L < 2 ^ P.1) (hg : ∀ x, x < 2 ^ P.1 → g x = zI (mx P x)) : ∀ (e i f : Nat), i + e = 2 ^ P.1 → e < f → f5_ways_24 fu f (mdI md) (nI p) (nI L) (nI H) (sg64 (fun T => if T &&& L = T then tm P md H L p P.1 T else 0) i) (nI i) (sF MM 15 g) = some (sF MM 15 g, sg64 (fun T => if T &&& L = T then tm P md H L p P.1 T else 0) (2 ^ P.1)) := by
  have h8 := hP.1
  have h256 := pow8 h8
  have m9 : (sF MM 15 g).1 0 9 = nI P.1 := by rw [sF_q (by omega)]; exact hP.2.2.1
  intro e
  induction e with
  | zero =>
    intro i f hi hf
    rcases f with _ | f
    · omega
    have : i = 2 ^ P.1 := by omega
    rw [this, f5_ways_24]
    simp (disch := omega) only [lit, nlt, nle, neq, nI_add, pk_mul, nm_u, bS, gd_d, oc_none, oc_some, rd_n, wr_n, if_pos, if_neg, ite_true, ite_false, not_true_eq_false, not_false_eq_true, g1, g2, g3, g4, h1, h2, h3, h4, ior, iand, shl_n, Nat.or_zero, m9]
  | succ e ih =>
    intro i f hi hf
    rcases f with _ | f
    · omega
    have lh2 := ih (i + 1) f (by omega) (by omega)
    have e1 : sg64 (fun T => if T &&& L = T then tm P md H L p P.1 T else 0) (i + 1) = sg64 (fun T => if T &&& L = T then tm P md H L p P.1 T else 0) i + (if i &&& L = i then tm P md H L p P.1 i else 0) := rfl
    rw [e1] at lh2
    rw [f5_ways_24]
    by_cases c : i &&& L = i
    · rw [if_pos c] at lh2
      have wi := ways_i (fu := fu) (acc := sg64 (fun T => if T &&& L = T then tm P md H L p P.1 T else 0) i) (k24 := f5_ways_24 fu f) hP hmd hp hH hL c hg P.1 0 fu (by omega) (by omega)
      have e0 : pr64 i L p 0 = 1 := rfl
      rw [e0] at wi
      simp (disch := omega) only [lit, nlt, nle, neq, nI_add, pk_mul, nm_u, bS, gd_d, oc_none, oc_some, rd_n, wr_n, if_pos, if_neg, ite_true, ite_false, not_true_eq_false, not_false_eq_true, g1, g2, g3, g4, h1, h2, h3, h4, ior, iand, shl_n, Nat.or_zero, m9, andnot, sub_t c]
      rw [wi]
      exact lh2
    · rw [if_neg c, Int64.add_zero] at lh2
      simp (disch := omega) only [lit, nlt, nle, neq, nI_add, pk_mul, nm_u, bS, gd_d, oc_none, oc_some, rd_n, wr_n, if_pos, if_neg, ite_true, ite_false, not_true_eq_false, not_false_eq_true, g1, g2, g3, g4, h1, h2, h3, h4, ior, iand, shl_n, Nat.or_zero, m9, andnot, sub_f (show i < 256 by omega) c]
      exact lh2
theorem tm_c {T : Nat} (hP : GP P MC MM) (hL : L < 2 ^ P.1) (hT : T &&& L = T) : tm P md H L p P.1 (L ^^^ T) = pw (nI (12 - p)).toInt64 (pcn T) * pw (nI p).toInt64 (pcn (L ^^^ (L &&& T))) * vl P md (H ||| T) := by
  have hTL : T ≤ L := by
    have := Nat.and_le_right (n := T) (m := L)
    omega
  have hLT : L ^^^ (L &&& T) = L ^^^ T := by rw [Nat.and_comm, hT]
  unfold tm
  rw [pr_pw (xor_sub hT), xor_xor, hLT, cnt_pcn hP.1 (show T < 2 ^ P.1 by omega), cnt_pcn hP.1 (Nat.xor_lt_two_pow hL (by omega))]
theorem weigh_c {T : Nat} (hfu : 10000 ≤ fu) (hP : GP P MC MM) (hp : p ≤ 12) (hL : L < 2 ^ P.1) (hT : T < 2 ^ P.1) : f4_weigh fu (nI T) (nI L) (nI p) = some (pw (nI (12 - p)).toInt64 (pcn T) * pw (nI p).toInt64 (pcn (L ^^^ (L &&& T)))) := by
  have h256 := pow8 hP.1
  have hx : L ^^^ (L &&& T) < 2 ^ P.1 := xa_lt hL
  have p1 := pcn_le (S := T) (by omega)
  have p2 := pcn_le (S := L ^^^ (L &&& T)) (by omega)
  unfold f4_weigh
  simp (disch := omega) only [lit, nlt, nle, neq, nI_add, pk_mul, nm_u, bS, gd_d, oc_none, oc_some, rd_n, wr_n, if_pos, if_neg, ite_true, ite_false, not_true_eq_false, not_false_eq_true, g1, g2, g3, g4, h1, h2, h3, h4, ior, iand, shl_n, Nat.or_zero, andnot, bitC, pk_sub, power_c hfu]
end WY
