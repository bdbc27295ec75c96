/-! 53: odds, mid -/
theorem twelve : ∀ k, k ≤ 8 → (pw (12 : Int64) k).toInt = ((12 ^ k : Nat) : Int) := by
  intro k
  induction k with
  | zero => intro _; exact one64
  | succ k ih =>
    intro hk
    have h5 : 12 ^ k * 12 ≤ 429981696 := by
      have := Nat.pow_le_pow_right (n := 12) (by omega) hk
      rw [Nat.pow_succ] at this
      exact this
    rw [Nat.pow_succ]
    show (pw (12 : Int64) k * 12).toInt = _
    rw [Int64.toInt_mul, ih (by omega), show (12 : Int64).toInt = ((12 : Nat) : Int) by decide, ← Int.natCast_mul]
    generalize 12 ^ k * 12 = z at h5
    exact i64_bd (by omega) (by omega)
theorem allWays_l {fu K : Nat} {M : Mem} (hK : K ≤ 8) : ∀ (e i f : Nat), i + e = K → e < f → f5_allWays_12 M fu f (pw 12 i) (nI e) = some (pw 12 K) := by
  intro e
  induction e with
  | zero =>
    intro i f hi hf
    rcases f with _ | f
    · omega
    have : i = K := by omega
    subst this
    rw [f5_allWays_12]
    simp (disch := omega) only [lit, nlt, nle, neq, nI_add, pk_mul, nm_u, bS, gd_d, oc_none, oc_some, rd_n, wr_n, if_pos, if_neg, ite_true, ite_false, not_true_eq_false, not_false_eq_true, g1, g2, g3, g4, h1, h2, h3, h4]
  | succ e ih =>
    intro i f hi hf
    rcases f with _ | f
    · omega
    have hI := ih (i + 1) f (by omega) (by omega)
    have t1 : ¬ nI (e + 1) ≤ (0 : Int32) := by
      show ¬ nI (e + 1) ≤ nI 0
      rw [nle (by omega) (by omega)]; omega
    have e1 : nI (e + 1) + (-1 : Int32) = nI e := by
      show nI (e + 1) + -nI 1 = nI e
      rw [← Int32.sub_eq_add_neg, pk_sub (by omega), Nat.add_sub_cancel]
    rw [f5_allWays_12]
    dsimp only
    rw [if_neg t1, nm_u, nm_u, e1]
    exact hI
section OD
variable {P : PD} {s : Nat → Int32} {MC MM : Mem} {fu H L p : Nat} {md : Option Nat}
def cs64 (P : PD) (md : Option Nat) (H L p : Nat) (i : Nat) : Int64 := sg64 (fun T => if T &&& L = T then tm P md H L p P.1 (L ^^^ T) else 0) i
def ms64 (P : PD) (md : Option Nat) (H L p : Nat) (i : Nat) : Int64 := sg64 (fun T => if T &&& L = T then tm P md H L p P.1 T else 0) i
theorem cs_s (i : Nat) : cs64 P md H L p (i + 1) = cs64 P md H L p i + (if i &&& L = i then tm P md H L p P.1 (L ^^^ i) else 0) := rfl
theorem ms_s (i : Nat) : ms64 P md H L p (i + 1) = ms64 P md H L p i + (if i &&& L = i then tm P md H L p P.1 i else 0) := rfl
theorem ms_cs {n : Nat} (hn : n ≤ 8) (hL : L < 2 ^ n) : ms64 P md H L p (2 ^ n) = cs64 P md H L p (L + 1) := by
  have h256 := pow8 hn
  unfold ms64 cs64
  rw [← sum_flip (by omega)]
  refine sg_ext (fun k hk => ?_) (2 ^ n) (by omega)
  refine if_neg (fun q => ?_)
  have := Nat.and_le_right (n := k) (m := L)
  omega
theorem vl_int (hP : GP P MC MM) {S : Nat} (hS : S < 2 ^ P.1) : ∃ z : Nat, z ≤ 480 ∧ (vl P md S).toInt = (z : Int) := by
  have b1 := mx_bd hP hS
  rcases md with _ | v
  · refine ⟨(mx P S).toNat, by omega, ?_⟩
    show (zI (mx P S)).toInt64.toInt = _
    rw [Int32.toInt_toInt64, zI_toInt (by omega) (by omega)]
    omega
  · show ∃ z : Nat, z ≤ 480 ∧ (if mx P S < (v : Int) then (nI 0).toInt64 else (nI 1).toInt64).toInt = (z : Int)
    split
    · exact ⟨0, by omega, n64 (by omega)⟩
    · exact ⟨1, by omega, n64 (by omega)⟩
theorem tm_int (hP : GP P MC MM) (hp : p ≤ 12) (hH : H < 2 ^ P.1) (hL : L < 2 ^ P.1) {T : Nat} (hT : T &&& L = T) : ∃ z : Nat, z ≤ 206391214080 ∧ (tm P md H L p P.1 T).toInt = (z : Int) := by
  have hTL : T ≤ L := by
    have := Nat.and_le_right (n := T) (m := L)
    omega
  obtain ⟨z, z1, z2⟩ := vl_int (md := md) hP (S := H ||| (L ^^^ T)) (Nat.or_lt_two_pow hH (Nat.xor_lt_two_pow hL (by omega)))
  obtain ⟨q1, q2⟩ := pr_int (T := T) (L := L) hp P.1 hP.1
  have q3 : (12 : Nat) ^ P.1 ≤ 429981696 := Nat.pow_le_pow_right (n := 12) (by omega) hP.1
  have q4 := Nat.mul_le_mul (Nat.le_trans q2 q3) z1
  refine ⟨prN T L p P.1 * z, q4, ?_⟩
  unfold tm
  rw [Int64.toInt_mul, q1, z2, ← Int.natCast_mul]
  generalize prN T L p P.1 * z = y at q4
  exact i64_bd (by omega) (by omega)
theorem ms_int (hP : GP P MC MM) (hp : p ≤ 12) (hH : H < 2 ^ P.1) (hL : L < 2 ^ P.1) : ∀ i, i ≤ 256 → ∃ A : Nat, A ≤ i * 206391214080 ∧ (ms64 P md H L p i).toInt = (A : Int) := by
  intro i
  induction i with
  | zero => intro _; exact ⟨0, by omega, by show (0 : Int64).toInt = ((0 : Nat) : Int); decide⟩
  | succ i ih =>
    intro hi
    obtain ⟨A, a1, a2⟩ := ih (by omega)
    rw [ms_s]
    by_cases c : i &&& L = i
    · obtain ⟨z, z1, z2⟩ := tm_int (md := md) hP hp hH hL c
      refine ⟨A + z, by omega, ?_⟩
      rw [if_pos c, Int64.toInt_add, a2, z2, ← Int.natCast_add]
      exact i64_bd (by omega) (by omega)
    · refine ⟨A, Nat.le_trans a1 (Nat.mul_le_mul_right _ (Nat.le_succ i)), ?_⟩
      rw [if_neg c, Int64.add_zero, a2]
theorem odds_l {v : Nat} (hfu : 10000 ≤ fu) (hP : GP P MC MM) (hh : MC.1 33 3 = nI H) (hp : p ≤ 12) (hv : v ≤ 200) (hH : H < 2 ^ P.1) (hL : L < 2 ^ P.1) : ∀ (e i f : Nat), i + e = L + 1 → e < f → f4_odds_53 fu f (nI v) (nI p) (nI L) (cs64 P (some v) H L p i) (nI i) MC = (f4_tellFraction fu (cs64 P (some v) H L p (L + 1)) (pw 12 (pcn L)) MC).bind fun M7 => some (M7, (1 : Int32)) := by
  have h8 := hP.1
  have h256 := pow8 h8
  have pL := pcn_le (S := L) (by omega)
  intro e
  induction e with
  | zero =>
    intro i f hi hf
    rcases f with _ | f
    · omega
    have : i = L + 1 := by omega
    subst this
    have t1 : nI L < nI (L + 1) := by rw [nlt (by omega) (by omega)]; omega
    rw [f4_odds_53]
    dsimp only
    rw [if_pos t1, bitC (by omega), bS, power_c hfu pL, bS]
  | succ e ih =>
    intro i f hi hf
    rcases f with _ | f
    · omega
    have hI := ih (i + 1) f (by omega) (by omega)
    rw [cs_s] at hI
    have t1 : ¬ nI L < nI i := by rw [nlt (by omega) (by omega)]; omega
    rw [f4_odds_53]
    dsimp only
    rw [if_neg t1]
    by_cases c : i &&& L = i
    · rw [if_pos c, tm_c hP hL c] at hI
      have t2 : nI i &&& (nI L ^^^ (-1 : Int32)) = 0 := by
        show nI i &&& (nI L ^^^ -nI 1) = nI 0
        rw [andnot]
        exact of_eq_true (sub_t c)
      have hx : H ||| i < 2 ^ P.1 := Nat.or_lt_two_pow hH (by omega)
      have b1 := mx_bd hP hx
      have zl : (zI (mx P (H ||| i)) < nI v) = (mx P (H ||| i) < (v : Int)) := by
        rw [nI_z]
        exact zlt (by omega) (by omega) (by omega) (by omega)
      have v1 : vl P (some v) (H ||| i) = if mx P (H ||| i) < (v : Int) then (nI 0).toInt64 else (nI 1).toInt64 := rfl
      rw [v1] at hI
      rw [if_pos t2, hh, ior, most_c hP hx, bS]
      by_cases d : mx P (H ||| i) < (v : Int)
      · rw [if_pos d, i0_64, Int64.mul_zero, Int64.add_zero] at hI
        rw [if_pos (by rw [zl]; exact d), nm_u, ad1]
        exact hI
      · rw [if_neg d, i1_64, Int64.mul_one] at hI
        rw [if_neg (by rw [zl]; exact d), weigh_c hfu hP hp hL (by omega), bS, nm_u, nm_u, ad1]
        exact hI
    · rw [if_neg c, Int64.add_zero] at hI
      have t2 : ¬ nI i &&& (nI L ^^^ (-1 : Int32)) = 0 := by
        show ¬ nI i &&& (nI L ^^^ -nI 1) = nI 0
        rw [andnot]
        exact of_eq_false (sub_f (by omega) c)
      rw [if_neg t2, nm_u, ad1]
      exact hI
theorem mid_l (hfu : 10000 ≤ fu) (hP : GP P MC MM) (hh : MC.1 33 3 = nI H) (hp : p ≤ 12) (hH : H < 2 ^ P.1) (hL : L < 2 ^ P.1) : ∀ (e i f : Nat), i + e = L + 1 → e < f → f4_mid_41 fu f (nI p) (nI L) (cs64 P none H L p i) (nI i) MC = (f4_tellFraction fu (cs64 P none H L p (L + 1)) (pw 12 (pcn L)) MC).bind fun M7 => some (M7, (1 : Int32)) := by
  have h8 := hP.1
  have h256 := pow8 h8
  have pL := pcn_le (S := L) (by omega)
  intro e
  induction e with
  | zero =>
    intro i f hi hf
    rcases f with _ | f
    · omega
    have : i = L + 1 := by omega
    subst this
    have t1 : nI L < nI (L + 1) := by rw [nlt (by omega) (by omega)]; omega
    rw [f4_mid_41]
    dsimp only
    rw [if_pos t1, bitC (by omega), bS, power_c hfu pL, bS]
  | succ e ih =>
    intro i f hi hf
    rcases f with _ | f
    · omega
    have hI := ih (i + 1) f (by omega) (by omega)
    rw [cs_s] at hI
    have t1 : ¬ nI L < nI i := by rw [nlt (by omega) (by omega)]; omega
    rw [f4_mid_41]
    dsimp only
    rw [if_neg t1]
    by_cases c : i &&& L = i
    · rw [if_pos c, tm_c hP hL c] at hI
      have t2 : nI i &&& (nI L ^^^ (-1 : Int32)) = 0 := by
        show nI i &&& (nI L ^^^ -nI 1) = nI 0
        rw [andnot]
        exact of_eq_true (sub_t c)
      have hx : H ||| i < 2 ^ P.1 := Nat.or_lt_two_pow hH (by omega)
      have v1 : vl P none (H ||| i) = (zI (mx P (H ||| i))).toInt64 := rfl
      rw [v1] at hI
      rw [if_pos t2, weigh_c hfu hP hp hL (by omega), bS, hh, ior, most_c hP hx, bS, nm_u, nm_u, ad1]
      exact hI
    · rw [if_neg c, Int64.add_zero] at hI
      have t2 : ¬ nI i &&& (nI L ^^^ (-1 : Int32)) = 0 := by
        show ¬ nI i &&& (nI L ^^^ -nI 1) = nI 0
        rw [andnot]
        exact of_eq_false (sub_f (by omega) c)
      rw [if_neg t2, nm_u, ad1]
      exact hI
/-- what the reference adds up, and its row of bests -/
theorem ways_all (hfu : 10000 ≤ fu) (hP : GP P MC MM) (hg : gst P.1 s) (hs : ∀ j, j ≤ P.1 → MM.1 10 j = s j) (hmd : ∀ v, md = some v → v ≤ 200) (hp : p ≤ 12) : ∃ g, f5_ways fu (mdI md) (nI p) MM = some (sF MM 15 g, ms64 P md (msk P.1 (fun k => s (k + 1) == -nI 1)) (msk P.1 (lyB s)) p (2 ^ P.1)) ∧ f5_allWays (sF MM 15 g) fu = some (pw 12 (pcn (msk P.1 (lyB s)))) := by
  have h8 := hP.1
  have h256 := pow8 h8
  obtain ⟨g, a1, a2⟩ := lays_m (fu := fu) hfu hP
  have hP2 : GP P MC (sF MM 15 g) := hP.cg (fun _ _ => rfl) (by rw [sF_q (by omega)]) (fun q hq => sF_q (by omega))
  have hs2 : ∀ j, j ≤ P.1 → (sF MM 15 g).1 10 j = s j := by
    intro j hj
    rw [sF_q (by omega)]
    exact hs j hj
  have t1 : f5_those (sF MM 15 g) fu (-1 : Int32) = some (nI (msk P.1 (fun k => s (k + 1) == -nI 1))) := those_m (w := -nI 1) hfu h8 hP2.2.2.1 hs2 (by decide)
  have t9 : f5_those (sF MM 15 g) fu (-9 : Int32) = some (nI (msk P.1 (lyB s))) := those_9 hfu h8 hP2.2.2.1 hg hs2
  have hL := msk_lt P.1 (lyB s)
  have hH := msk_lt P.1 (fun k => s (k + 1) == -nI 1)
  have pL := pcn_le (S := msk P.1 (lyB s)) (by omega)
  refine ⟨g, ?_, ?_⟩
  · unfold f5_ways
    rw [a2, bS, t9, bS, t1, bS]
    exact ways_m hfu hP hmd hp hH hL a1 (2 ^ P.1) 0 fu (by omega) (by omega)
  · unfold f5_allWays
    rw [t9, bS, bits_m hfu (by omega), bS]
    exact allWays_l pL _ 0 fu (by omega) (by omega)
theorem ways_fr (hfu : 10000 ≤ fu) (hP : GP P MC MM) (hg : gst P.1 s) (hs : ∀ j, j ≤ P.1 → MM.1 10 j = s j) (hmd : ∀ v, md = some v → v ≤ 200) (hp : p ≤ 12) : ∃ g x y, f5_ways fu (mdI md) (nI p) MM = some (sF MM 15 g, ms64 P md (msk P.1 (fun k => s (k + 1) == -nI 1)) (msk P.1 (lyB s)) p (2 ^ P.1)) ∧ f5_allWays (sF MM 15 g) fu = some (pw 12 (pcn (msk P.1 (lyB s)))) ∧ f4_tellFraction fu (cs64 P md (msk P.1 (fun k => s (k + 1) == -nI 1)) (msk P.1 (lyB s)) p (msk P.1 (lyB s) + 1)) (pw 12 (pcn (msk P.1 (lyB s)))) MC = some (sL (sL MC 28 7 x) 28 8 y) ∧ f5_fraction fu (ms64 P md (msk P.1 (fun k => s (k + 1) == -nI 1)) (msk P.1 (lyB s)) p (2 ^ P.1)) (pw 12 (pcn (msk P.1 (lyB s)))) (sF MM 15 g) = some (sL (sL (sF MM 15 g) 0 5 x) 0 6 y, 1) := by
  have h8 := hP.1
  have h256 := pow8 h8
  obtain ⟨g, a1, a2⟩ := ways_all (md := md) hfu hP hg hs hmd hp
  have hL := msk_lt P.1 (lyB s)
  have hH := msk_lt P.1 (fun k => s (k + 1) == -nI 1)
  have pL := pcn_le (S := msk P.1 (lyB s)) (by omega)
  obtain ⟨A, b1, b2⟩ := ms_int (md := md) hP hp hH hL (2 ^ P.1) h256
  have p60 : (2 : Nat) ^ 60 = 1152921504606846976 := by decide
  have q3 : (12 : Nat) ^ pcn (msk P.1 (lyB s)) ≤ 429981696 := Nat.pow_le_pow_right (n := 12) (by omega) pL
  have q4 := Nat.mul_le_mul_right 206391214080 h256
  obtain ⟨x, y, c1, c2⟩ := frac_cm (fu := fu) (MC := MC) (MM := sF MM 15 g) hfu b2 (twelve _ pL) (by omega) (by omega) (Nat.pow_pos (by omega))
  rw [ms_cs h8 hL] at c1
  exact ⟨g, x, y, a1, a2, c1, c2⟩
end OD
theorem fr_rel {MC MM : Mem} {g : Nat → Int32} (hR : Rel MC MM) (x y : Int64) : Rel (sL (sL MC 28 7 x) 28 8 y) (sL (sL (sF MM 15 g) 0 5 x) 0 6 y) :=
  (hR.scr (fun q _ _ _ a => sF_q a) (fun i hi => by rw [sF_q (by omega)]) rfl).frac x y
theorem s_mid {fu : Nat} (hfu : 10000 ≤ fu) : Sim_mid fu Rel := by
  intro MC MM a0 hR
  obtain ⟨P, s, hP, hg, hs, hp⟩ := hR.nw
  have h8 := hP.1
  have h256 := pow8 h8
  have l12 : (12 : Int64) = (nI 12).toInt64 := by decide
  rcases tri a0 13 (by omega) with h | ⟨p, hp13, rfl⟩
  · refine ⟨-1, MC, MM, ?_, ?_, hR⟩
    · unfold f4_mid
      rcases h with h | ⟨h0, h⟩
      · simp (disch := omega) only [lit, nlt, nle, neq, nI_add, pk_mul, nm_u, bS, gd_d, oc_none, oc_some, rd_n, wr_n, if_pos, if_neg, ite_true, ite_false, not_true_eq_false, not_false_eq_true, g1, g2, g3, g4, h1, h2, h3, h4, ior, iand, shl_n, Nat.or_zero, h]
      · simp (disch := omega) only [lit, nlt, nle, neq, nI_add, pk_mul, nm_u, bS, gd_d, oc_none, oc_some, rd_n, wr_n, if_pos, if_neg, ite_true, ite_false, not_true_eq_false, not_false_eq_true, g1, g2, g3, g4, h1, h2, h3, h4, ior, iand, shl_n, Nat.or_zero, h0, ge_nle (b := 12) (by omega) h]
    · unfold f5_mid
      simp (disch := omega) only [lit, nlt, nle, neq, nI_add, pk_mul, nm_u, bS, gd_d, oc_none, oc_some, rd_n, wr_n, if_pos, if_neg, ite_true, ite_false, not_true_eq_false, not_false_eq_true, g1, g2, g3, g4, h1, h2, h3, h4, ior, iand, shl_n, Nat.or_zero, l12, in_out (n := 12) (by omega) h]
  have t1 : ¬ nI p < (0 : Int32) := by
    show ¬ nI p < nI 0
    rw [nlt (by omega) (by omega)]; omega
  have t2 : nI p ≤ (12 : Int32) := by
    show nI p ≤ nI 12
    rw [nle (by omega) (by omega)]; omega
  have t3 : f5_in (nI p).toInt64 (0 : Int64) (12 : Int64) = some (nI 1) := by
    rw [l12]
    exact in_in (n := 12) (by omega) (by omega)
  by_cases hn : P.1 = 0
  · refine ⟨-4, MC, MM, ?_, ?_, hR⟩
    · unfold f4_mid
      simp (disch := omega) only [lit, nlt, nle, neq, nI_add, pk_mul, nm_u, bS, gd_d, oc_none, oc_some, rd_n, wr_n, if_pos, if_neg, ite_true, ite_false, not_true_eq_false, not_false_eq_true, g1, g2, g3, g4, h1, h2, h3, h4, ior, iand, shl_n, Nat.or_zero, hP.2.1]
    · unfold f5_mid
      rw [t3]
      simp (disch := omega) only [lit, nlt, nle, neq, nI_add, pk_mul, nm_u, bS, gd_d, oc_none, oc_some, rd_n, wr_n, if_pos, if_neg, ite_true, ite_false, not_true_eq_false, not_false_eq_true, g1, g2, g3, g4, h1, h2, h3, h4, ior, iand, shl_n, Nat.or_zero, kq9, hP.2.2.1]
  have t4 : ¬ nI P.1 = (0 : Int32) := by
    show ¬ nI P.1 = nI 0
    rw [neq (by omega) (by omega)]; exact hn
  obtain ⟨g, x, y, a1, a2, a3, a4⟩ := ways_fr (md := none) (p := p) hfu hP hg hs (fun v q => by cases q) (by omega)
  have ml := mid_l (fu := fu) (p := p) hfu hP hp.2.1 (by omega) (msk_lt P.1 (fun k => s (k + 1) == -nI 1)) (msk_lt P.1 (lyB s)) (msk P.1 (lyB s) + 1) 0 fu (by omega) (by have := msk_lt P.1 (lyB s); omega)
  refine ⟨1, _, _, ?_, ?_, fr_rel (g := g) hR x y⟩
  · unfold f4_mid
    rw [if_neg t1, if_pos t2, hP.2.1, if_neg t4, lying_c hP hp, bS]
    refine Eq.trans ml ?_
    rw [a3, bS]
  · have a1' : f5_ways fu (-9 : Int32) (nI p) MM = _ := a1
    unfold f5_mid
    rw [t3, bS, if_neg tN0, hP.2.2.1, if_neg t4, a1', bS]
    dsimp only
    rw [a2, bS, a4, bS]
theorem s_odds {fu : Nat} (hfu : 10000 ≤ fu) : Sim_odds fu Rel := by
  intro MC MM a0 a1 hR
  obtain ⟨P, s, hP, hg, hs, hp⟩ := hR.nw
  have h8 := hP.1
  have h256 := pow8 h8
  have l12 : (12 : Int64) = (nI 12).toInt64 := by decide
  have l200 : (200 : Int64) = (nI 200).toInt64 := by decide
  rcases tri a0 201 (by omega) with h | ⟨v, hv, rfl⟩
  · refine ⟨-1, MC, MM, ?_, ?_, hR⟩
    · unfold f4_odds
      rcases h with h | ⟨h0, h⟩
      · simp (disch := omega) only [lit, nlt, nle, neq, nI_add, pk_mul, nm_u, bS, gd_d, oc_none, oc_some, rd_n, wr_n, if_pos, if_neg, ite_true, ite_false, not_true_eq_false, not_false_eq_true, g1, g2, g3, g4, h1, h2, h3, h4, ior, iand, shl_n, Nat.or_zero, h]
      · have q : nI 200 < a0 := Int32.not_le.mp (of_eq_false (ge_nle (b := 200) (by omega) h))
        simp (disch := omega) only [lit, nlt, nle, neq, nI_add, pk_mul, nm_u, bS, gd_d, oc_none, oc_some, rd_n, wr_n, if_pos, if_neg, ite_true, ite_false, not_true_eq_false, not_false_eq_true, g1, g2, g3, g4, h1, h2, h3, h4, ior, iand, shl_n, Nat.or_zero, h0, q]
    · unfold f5_odds
      simp (disch := omega) only [lit, nlt, nle, neq, nI_add, pk_mul, nm_u, bS, gd_d, oc_none, oc_some, rd_n, wr_n, if_pos, if_neg, ite_true, ite_false, not_true_eq_false, not_false_eq_true, g1, g2, g3, g4, h1, h2, h3, h4, ior, iand, shl_n, Nat.or_zero, l200, in_out (n := 200) (by omega) h]
  have s1 : ¬ nI v < (0 : Int32) := by
    show ¬ nI v < nI 0
    rw [nlt (by omega) (by omega)]; omega
  have s2 : ¬ (200 : Int32) < nI v := by
    show ¬ nI 200 < nI v
    rw [nlt (by omega) (by omega)]; omega
  have s3 : f5_in (nI v).toInt64 (0 : Int64) (200 : Int64) = some (nI 1) := by
    rw [l200]
    exact in_in (n := 200) (by omega) (by omega)
  rcases tri a1 13 (by omega) with h | ⟨p, hp13, rfl⟩
  · refine ⟨-1, MC, MM, ?_, ?_, hR⟩
    · unfold f4_odds
      rw [if_neg s1, if_neg s2]
      rcases h with h | ⟨h0, h⟩
      · simp (disch := omega) only [lit, nlt, nle, neq, nI_add, pk_mul, nm_u, bS, gd_d, oc_none, oc_some, rd_n, wr_n, if_pos, if_neg, ite_true, ite_false, not_true_eq_false, not_false_eq_true, g1, g2, g3, g4, h1, h2, h3, h4, ior, iand, shl_n, Nat.or_zero, h]
      · simp (disch := omega) only [lit, nlt, nle, neq, nI_add, pk_mul, nm_u, bS, gd_d, oc_none, oc_some, rd_n, wr_n, if_pos, if_neg, ite_true, ite_false, not_true_eq_false, not_false_eq_true, g1, g2, g3, g4, h1, h2, h3, h4, ior, iand, shl_n, Nat.or_zero, h0, ge_nle (b := 12) (by omega) h]
    · unfold f5_odds
      rw [s3]
      simp (disch := omega) only [lit, nlt, nle, neq, nI_add, pk_mul, nm_u, bS, gd_d, oc_none, oc_some, rd_n, wr_n, if_pos, if_neg, ite_true, ite_false, not_true_eq_false, not_false_eq_true, g1, g2, g3, g4, h1, h2, h3, h4, ior, iand, shl_n, Nat.or_zero, kq9, l12, in_out (n := 12) (by omega) h]
  have t1 : ¬ nI p < (0 : Int32) := by
    show ¬ nI p < nI 0
    rw [nlt (by omega) (by omega)]; omega
  have t2 : nI p ≤ (12 : Int32) := by
    show nI p ≤ nI 12
    rw [nle (by omega) (by omega)]; omega
  have t3 : f5_in (nI p).toInt64 (0 : Int64) (12 : Int64) = some (nI 1) := by
    rw [l12]
    exact in_in (n := 12) (by omega) (by omega)
  by_cases hn : P.1 = 0
  · refine ⟨-4, MC, MM, ?_, ?_, hR⟩
    · unfold f4_odds
      rw [if_neg s1, if_neg s2]
      simp (disch := omega) only [lit, nlt, nle, neq, nI_add, pk_mul, nm_u, bS, gd_d, oc_none, oc_some, rd_n, wr_n, if_pos, if_neg, ite_true, ite_false, not_true_eq_false, not_false_eq_true, g1, g2, g3, g4, h1, h2, h3, h4, ior, iand, shl_n, Nat.or_zero, hP.2.1]
    · unfold f5_odds
      rw [s3, bS, if_neg tN0, t3]
      simp (disch := omega) only [lit, nlt, nle, neq, nI_add, pk_mul, nm_u, bS, gd_d, oc_none, oc_some, rd_n, wr_n, if_pos, if_neg, ite_true, ite_false, not_true_eq_false, not_false_eq_true, g1, g2, g3, g4, h1, h2, h3, h4, ior, iand, shl_n, Nat.or_zero, kq9, hP.2.2.1]
  have t4 : ¬ nI P.1 = (0 : Int32) := by
    show ¬ nI P.1 = nI 0
    rw [neq (by omega) (by omega)]; exact hn
  obtain ⟨g, x, y, a1, a2, a3, a4⟩ := ways_fr (md := some v) (p := p) hfu hP hg hs (fun w q => by cases q; omega) (by omega)
  have ml := odds_l (fu := fu) (p := p) (v := v) hfu hP hp.2.1 (by omega) (by omega) (msk_lt P.1 (fun k => s (k + 1) == -nI 1)) (msk_lt P.1 (lyB s)) (msk P.1 (lyB s) + 1) 0 fu (by omega) (by have := msk_lt P.1 (lyB s); omega)
  refine ⟨1, _, _, ?_, ?_, fr_rel (g := g) hR x y⟩
  · unfold f4_odds
    rw [if_neg s1, if_neg s2, if_neg t1, if_pos t2, hP.2.1, if_neg t4, lying_c hP hp, bS]
    refine Eq.trans ml ?_
    rw [a3, bS]
  · have a1' : f5_ways fu (nI v) (nI p) MM = _ := a1
    unfold f5_odds
    rw [s3, bS, if_neg tN0, t3, bS, if_neg tN0, hP.2.2.1, if_neg t4, a1', bS]
    dsimp only
    rw [a2, bS, a4, bS]
