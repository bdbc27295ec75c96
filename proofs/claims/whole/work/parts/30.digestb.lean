/-! 30: digest -/
theorem dg4 {fu : Nat} {MC MM : Mem} (hfu : 10000 ≤ fu) (hT : GT MC MM) : ∀ (e i f1 f2 : Nat) (x : Int64), i + e = 4 → e < f1 → e < f2 → ∃ r, f4_digest_144 MC fu f1 x (nI i) = some r ∧ f5_digest_284 MM fu f2 x (nI i) = some r := by
  intro e
  induction e with
  | zero =>
    intro i f1 f2 x h hf1 hf2
    rcases f1 with _ | f1
    · omega
    rcases f2 with _ | f2
    · omega
    refine ⟨x, ?_, ?_⟩
    · rw [f4_digest_144]
      simp (disch := omega) only [lit, nlt, nle, neq, nI_add, pk_mul, nm_u, bS, gd_d, oc_none, oc_some, rd_n, wr_n, if_pos, if_neg, ite_true, ite_false, not_true_eq_false, not_false_eq_true, g1, g2, g3, g4, h1, h2, h3, h4]
    · rw [f5_digest_284]
      simp (disch := omega) only [lit, nlt, nle, neq, nI_add, pk_mul, nm_u, bS, gd_d, oc_none, oc_some, rd_n, wr_n, if_pos, if_neg, ite_true, ite_false, not_true_eq_false, not_false_eq_true, g1, g2, g3, g4, h1, h2, h3, h4]
  | succ e ih =>
    intro i f1 f2 x h hf1 hf2
    rcases f1 with _ | f1
    · omega
    rcases f2 with _ | f2
    · omega
    have hi : i < 4 := by omega
    have er : rdR [6, 7, 8, 9] (nI i) = some (i + 6) := rdR_n (by
      rcases (show i = 0 ∨ i = 1 ∨ i = 2 ∨ i = 3 by omega) with rfl | rfl | rfl | rfl <;> rfl) (by decide)
    have gk : gd (decide (i + 6 < 10)) = some () := by
      have : i + 6 < 10 := by omega
      simp [gd, this]
    obtain ⟨r1, b1, b2⟩ := dgT_l (fu := fu) (K := f5_digest_284 MM fu f2) hi (hT i hi) 61 0 fu fu (31 * x + (MC.1 (i + 6) 0).toInt64) (by omega) (by omega) (by omega)
    obtain ⟨r, a1, a2⟩ := ih (i + 1) f1 f2 r1 (by omega) (by omega) (by omega)
    have e4 : MM.1 4 i = MC.1 (i + 6) 0 := (hT i hi).1.symm
    refine ⟨r, ?_, ?_⟩
    · rw [f4_digest_144]
      dsimp only
      rw [er]
      unfold f0_digestFrom
      simp (disch := omega) only [lit, nlt, nle, neq, nI_add, pk_mul, nm_u, bS, gd_d, oc_none, oc_some, rd_n, wr_n, if_pos, if_neg, ite_true, ite_false, not_true_eq_false, not_false_eq_true, g1, g2, g3, g4, h1, h2, h3, h4, gk, b1]
      exact a1
    · rw [f5_digest_284]
      simp (disch := omega) only [lit, nlt, nle, neq, nI_add, pk_mul, nm_u, bS, gd_d, oc_none, oc_some, rd_n, wr_n, if_pos, if_neg, ite_true, ite_false, not_true_eq_false, not_false_eq_true, g1, g2, g3, g4, h1, h2, h3, h4, e4, b2]
      exact a2
theorem dg6 {fu : Nat} {MC MM : Mem} (hfu : 10000 ≤ fu) (hR : GR MC MM) (hT : GT MC MM) : ∀ (e i f1 f2 : Nat) (x : Int64), i + e = 6 → e < f1 → e < f2 → ∃ r, f4_digest_119 MC fu f1 x (nI i) = some r ∧ f5_digest_216 MM fu f2 x (nI i) = some r := by
  intro e
  induction e with
  | zero =>
    intro i f1 f2 x h hf1 hf2
    rcases f1 with _ | f1
    · omega
    rcases f2 with _ | f2
    · omega
    obtain ⟨r, a1, a2⟩ := dg4 (fu := fu) hfu hT 4 0 fu fu x (by omega) (by omega) (by omega)
    refine ⟨r, ?_, ?_⟩
    · rw [f4_digest_119]
      simp (disch := omega) only [lit, nlt, nle, neq, nI_add, pk_mul, nm_u, bS, gd_d, oc_none, oc_some, rd_n, wr_n, if_pos, if_neg, ite_true, ite_false, not_true_eq_false, not_false_eq_true, g1, g2, g3, g4, h1, h2, h3, h4, a1]
    · rw [f5_digest_216]
      simp (disch := omega) only [lit, nlt, nle, neq, nI_add, pk_mul, nm_u, bS, gd_d, oc_none, oc_some, rd_n, wr_n, if_pos, if_neg, ite_true, ite_false, not_true_eq_false, not_false_eq_true, g1, g2, g3, g4, h1, h2, h3, h4, a2]
  | succ e ih =>
    intro i f1 f2 x h hf1 hf2
    rcases f1 with _ | f1
    · omega
    rcases f2 with _ | f2
    · omega
    have hi : i < 6 := by omega
    have er : rdR [0, 1, 2, 3, 4, 5] (nI i) = some i := rdR_n (by
      rcases (show i = 0 ∨ i = 1 ∨ i = 2 ∨ i = 3 ∨ i = 4 ∨ i = 5 by omega) with rfl | rfl | rfl | rfl | rfl | rfl <;> rfl) (by decide)
    have gk : gd (decide (i < 10)) = some () := by
      have : i < 10 := by omega
      simp [gd, this]
    obtain ⟨r1, b1, b2⟩ := dgR_l (fu := fu) (K := f5_digest_216 MM fu f2) hi (hR i hi) 41 0 fu fu (31 * x + (MC.1 i 0).toInt64) (by omega) (by omega) (by omega)
    obtain ⟨r, a1, a2⟩ := ih (i + 1) f1 f2 r1 (by omega) (by omega) (by omega)
    have e4 : MM.1 2 i = MC.1 i 0 := (hR i hi).1.symm
    refine ⟨r, ?_, ?_⟩
    · rw [f4_digest_119]
      dsimp only
      rw [er]
      unfold f0_digestFrom
      simp (disch := omega) only [lit, nlt, nle, neq, nI_add, pk_mul, nm_u, bS, gd_d, oc_none, oc_some, rd_n, wr_n, if_pos, if_neg, ite_true, ite_false, not_true_eq_false, not_false_eq_true, g1, g2, g3, g4, h1, h2, h3, h4, gk, b1]
      exact a1
    · rw [f5_digest_216]
      simp (disch := omega) only [lit, nlt, nle, neq, nI_add, pk_mul, nm_u, bS, gd_d, oc_none, oc_some, rd_n, wr_n, if_pos, if_neg, ite_true, ite_false, not_true_eq_false, not_false_eq_true, g1, g2, g3, g4, h1, h2, h3, h4, e4, b2]
      exact a2
theorem dg3 {fu : Nat} {P : PD} {MC MM : Mem} (hfu : 10000 ≤ fu) (hR : GR MC MM) (hT : GT MC MM) (hK : GK P MC MM) : ∀ (e i f1 f2 : Nat) (x : Int64), i + e = 3 → e < f1 → e < f2 → ∃ r, f4_digest_89 MC fu f1 x (nI i) = some r ∧ f5_digest_185 MM fu f2 x (nI i) = some r := by
  intro e
  induction e with
  | zero =>
    intro i f1 f2 x h hf1 hf2
    rcases f1 with _ | f1
    · omega
    rcases f2 with _ | f2
    · omega
    obtain ⟨r, a1, a2⟩ := dg6 (fu := fu) hfu hR hT 6 0 fu fu x (by omega) (by omega) (by omega)
    refine ⟨r, ?_, ?_⟩
    · rw [f4_digest_89]
      simp (disch := omega) only [lit, nlt, nle, neq, nI_add, pk_mul, nm_u, bS, gd_d, oc_none, oc_some, rd_n, wr_n, if_pos, if_neg, ite_true, ite_false, not_true_eq_false, not_false_eq_true, g1, g2, g3, g4, h1, h2, h3, h4, a1]
    · rw [f5_digest_185]
      simp (disch := omega) only [lit, nlt, nle, neq, nI_add, pk_mul, nm_u, bS, gd_d, oc_none, oc_some, rd_n, wr_n, if_pos, if_neg, ite_true, ite_false, not_true_eq_false, not_false_eq_true, g1, g2, g3, g4, h1, h2, h3, h4, a2]
  | succ e ih =>
    intro i f1 f2 x h hf1 hf2
    rcases f1 with _ | f1
    · omega
    rcases f2 with _ | f2
    · omega
    have hi : i < 3 := by omega
    have er : rdR [20, 21, 22] (nI i) = some (20 + i) := rdR_n (by
      rcases (show i = 0 ∨ i = 1 ∨ i = 2 by omega) with rfl | rfl | rfl <;> rfl) (by decide)
    have gk : gd (decide (20 ≤ 20 + i ∧ 20 + i < 24)) = some () := by
      have : 20 ≤ 20 + i ∧ 20 + i < 24 := by omega
      simp [gd, this]
    obtain ⟨r, a1, a2⟩ := ih (i + 1) f1 f2 (31 * x + (MC.1 (20 + i) 0).toInt64) (by omega) (by omega) (by omega)
    have b := (hK i hi).1
    rw [show i + 20 = 20 + i by omega] at b
    have e4 : MM.1 12 (370 * i) = MC.1 (20 + i) 0 := b.symm
    refine ⟨r, ?_, ?_⟩
    · rw [f4_digest_89]
      dsimp only
      rw [er]
      simp (disch := omega) only [lit, nlt, nle, neq, nI_add, pk_mul, nm_u, bS, gd_d, oc_none, oc_some, rd_n, wr_n, if_pos, if_neg, ite_true, ite_false, not_true_eq_false, not_false_eq_true, g1, g2, g3, g4, h1, h2, h3, h4, gk]
      exact a1
    · rw [f5_digest_185]
      simp (disch := omega) only [lit, nlt, nle, neq, nI_add, pk_mul, nm_u, bS, gd_d, oc_none, oc_some, rd_n, wr_n, if_pos, if_neg, ite_true, ite_false, not_true_eq_false, not_false_eq_true, g1, g2, g3, g4, h1, h2, h3, h4, e4]
      exact a2
/-- what a pin adds -/
def dgp (P : PD) (s : Nat → Int32) (k : Nat) (x : Int64) : Int64 :=
  31 * (31 * (31 * (31 * (31 * (31 * (31 * (31 * x + (tv P s k 0).toInt64) + (tv P s k 1).toInt64) + (tv P s k 2).toInt64) + (tv P s k 3).toInt64) + (tv P s k 4).toInt64) + (tv P s k 5).toInt64) + (tv P s k 6).toInt64) + (tv P s k 7).toInt64
theorem dgp_c {fu k f : Nat} {P : PD} {s : Nat → Int32} {MC MM : Mem} {K : Int64 → Int32 → Option Int64} {x : Int64} (hP : GP P MC MM) (hp : pic P s (MC.1 33 2) (MC.1 33 3) (MC.1 33 4) (MC.1 34)) (hk : k < P.1) (hf : 9 ≤ f) : f4_digest_50 MC fu K f x (nI k) (nI 0) = K (dgp P s k x) (nI (k + 1)) := by
  obtain ⟨g, rfl⟩ : ∃ g, f = g + 1 + 1 + 1 + 1 + 1 + 1 + 1 + 1 + 1 := ⟨f - 9, by omega⟩
  have st : ∀ (f w : Nat) (y : Int64), w < 8 → f4_digest_50 MC fu K (f + 1) y (nI k) (nI w) = f4_digest_50 MC fu K f (31 * y + (tv P s k w).toInt64) (nI k) (nI (w + 1)) := by
    intro f w y hw
    rw [f4_digest_50]
    simp (disch := omega) only [lit, nlt, nle, neq, nI_add, pk_mul, nm_u, bS, gd_d, oc_none, oc_some, rd_n, wr_n, if_pos, if_neg, ite_true, ite_false, not_true_eq_false, not_false_eq_true, g1, g2, g3, g4, h1, h2, h3, h4, tell_c hP hp hk hw]
  rw [st _ 0 _ (by omega), st _ 1 _ (by omega), st _ 2 _ (by omega), st _ 3 _ (by omega), st _ 4 _ (by omega), st _ 5 _ (by omega), st _ 6 _ (by omega), st _ 7 _ (by omega), f4_digest_50]
  simp (disch := omega) only [lit, nlt, nle, neq, nI_add, pk_mul, nm_u, bS, gd_d, oc_none, oc_some, rd_n, wr_n, if_pos, if_neg, ite_true, ite_false, not_true_eq_false, not_false_eq_true, g1, g2, g3, g4, h1, h2, h3, h4]
  rfl
theorem dgp_m {fu k : Nat} {P : PD} {s : Nat → Int32} {MC MM : Mem} {K : Int64 → Int32 → Option Int64} {x : Int64} (hP : GP P MC MM) (hg : gst P.1 s) (hs : ∀ j, j ≤ P.1 → MM.1 10 j = s j) (hk : k < P.1) : ((rd MM 6 8 (nI k)).bind fun v2 => (f5_lies MM (nI k)).bind fun r4 => if r4 = 0 then ((f5_digest_85 MM fu K (nI k) (-9 : Int32) ((31 : Int64) * (((31 : Int64) * x) + v2.toInt64)) (31 : Int64) (31 : Int64))) else ((rd MM 10 9 ((1 : Int32) + nI k)).bind fun v6 => (f5_digest_85 MM fu K (nI k) v6 ((31 : Int64) * (((31 : Int64) * x) + v2.toInt64)) (31 : Int64) (31 : Int64)))) = K (dgp P s k x) (nI (k + 1)) := by
  have h8 := hP.1
  obtain ⟨hok, -, -, -, -, -, -, -, k1, k2, k3, k4⟩ := hP.2.2.2.1 k hk
  have key : ∀ v : Int32, v = tv P s k 1 → f5_digest_85 MM fu K (nI k) v ((31 : Int64) * (((31 : Int64) * x) + (nI (kd P k)).toInt64)) (31 : Int64) (31 : Int64) = K (dgp P s k x) (nI (k + 1)) := by
    intro v hv
    subst hv
    have w1 : MM.1 10 (1 + k) = s (k + 1) := by rw [show 1 + k = k + 1 by omega, hs (k + 1) (by omega)]
    unfold f5_digest_85 f5_digest_153
    by_cases c1 : s (k + 1) = -nI 1
    · have c2 : (-nI 1 = -nI 2) = False := by decide
      have d1 : tv P s k 6 = nI 1 := by simp [tv, c1]
      have d2 : tv P s k 7 = nI 0 := by
        have : (-nI 1 == -nI 2) = false := by decide
        simp [tv, c1, this]
      simp (disch := omega) only [lit, nlt, nle, neq, nI_add, pk_mul, nm_u, bS, gd_d, oc_none, oc_some, rd_n, wr_n, if_pos, if_neg, ite_true, ite_false, not_true_eq_false, not_false_eq_true, g1, g2, g3, g4, h1, h2, h3, h4, hours_m hP hk, k3, k4, worth_m hP hk, w1, c1, c2]
      unfold dgp
      rw [d1, d2]
      rfl
    · have d1 : tv P s k 6 = nI 0 := by simp [tv, c1]
      by_cases c2 : s (k + 1) = -nI 2
      · have d2 : tv P s k 7 = nI 1 := by simp [tv, c2]
        have c3 : (-nI 2 = -nI 1) = False := by decide
        simp (disch := omega) only [lit, nlt, nle, neq, nI_add, pk_mul, nm_u, bS, gd_d, oc_none, oc_some, rd_n, wr_n, if_pos, if_neg, ite_true, ite_false, not_true_eq_false, not_false_eq_true, g1, g2, g3, g4, h1, h2, h3, h4, hours_m hP hk, k3, k4, worth_m hP hk, w1, c2, c3]
        unfold dgp
        rw [d1, d2]
        rfl
      · have d2 : tv P s k 7 = nI 0 := by simp [tv, c2]
        simp (disch := omega) only [lit, nlt, nle, neq, nI_add, pk_mul, nm_u, bS, gd_d, oc_none, oc_some, rd_n, wr_n, if_pos, if_neg, ite_true, ite_false, not_true_eq_false, not_false_eq_true, g1, g2, g3, g4, h1, h2, h3, h4, hours_m hP hk, k3, k4, worth_m hP hk, w1, c1, c2]
        unfold dgp
        rw [d1, d2]
        rfl
  have w1 : MM.1 10 (1 + k) = s (k + 1) := by rw [show 1 + k = k + 1 by omega, hs (k + 1) (by omega)]
  cases c : lyB s k
  · have q := key (-nI 9) (by simp [tv, c])
    simp (disch := omega) only [lit, nlt, nle, neq, nI_add, pk_mul, nm_u, bS, gd_d, oc_none, oc_some, rd_n, wr_n, if_pos, if_neg, ite_true, ite_false, not_true_eq_false, not_false_eq_true, g1, g2, g3, g4, h1, h2, h3, h4, k1, lies_m h8 hg hs hk, c, Bool.false_eq_true]
    exact q
  · have q := key (s (k + 1)) (by simp [tv, c])
    simp (disch := omega) only [lit, nlt, nle, neq, nI_add, pk_mul, nm_u, bS, gd_d, oc_none, oc_some, rd_n, wr_n, if_pos, if_neg, ite_true, ite_false, not_true_eq_false, not_false_eq_true, g1, g2, g3, g4, h1, h2, h3, h4, k1, lies_m h8 hg hs hk, c, kq9, w1]
    exact q
theorem dgP {fu : Nat} {P : PD} {s : Nat → Int32} {MC MM : Mem} (hfu : 10000 ≤ fu) (hR : GR MC MM) (hT : GT MC MM) (hK : GK P MC MM) (hP : GP P MC MM) (hg : gst P.1 s) (hs : ∀ j, j ≤ P.1 → MM.1 10 j = s j) (hp : pic P s (MC.1 33 2) (MC.1 33 3) (MC.1 33 4) (MC.1 34)) : ∀ (e i f1 f2 : Nat) (x : Int64), i + e = P.1 → e < f1 → e < f2 → ∃ r, f4_digest_33 MC fu f1 x (nI i) = some r ∧ f5_digest_33 MM fu f2 x (nI i) = some r := by
  have h8 := hP.1
  intro e
  induction e with
  | zero =>
    intro i f1 f2 x h hf1 hf2
    rcases f1 with _ | f1
    · omega
    rcases f2 with _ | f2
    · omega
    obtain ⟨r, a1, a2⟩ := dg3 (fu := fu) hfu hR hT hK 3 0 fu fu x (by omega) (by omega) (by omega)
    refine ⟨r, ?_, ?_⟩
    · rw [f4_digest_33]
      simp (disch := omega) only [lit, nlt, nle, neq, nI_add, pk_mul, nm_u, bS, gd_d, oc_none, oc_some, rd_n, wr_n, if_pos, if_neg, ite_true, ite_false, not_true_eq_false, not_false_eq_true, g1, g2, g3, g4, h1, h2, h3, h4, hP.2.1, a1]
    · rw [f5_digest_33]
      simp (disch := omega) only [lit, nlt, nle, neq, nI_add, pk_mul, nm_u, bS, gd_d, oc_none, oc_some, rd_n, wr_n, if_pos, if_neg, ite_true, ite_false, not_true_eq_false, not_false_eq_true, g1, g2, g3, g4, h1, h2, h3, h4, hP.2.2.1, a2]
  | succ e ih =>
    intro i f1 f2 x h hf1 hf2
    rcases f1 with _ | f1
    · omega
    rcases f2 with _ | f2
    · omega
    obtain ⟨r, a1, a2⟩ := ih (i + 1) f1 f2 (dgp P s i x) (by omega) (by omega) (by omega)
    refine ⟨r, ?_, ?_⟩
    · rw [f4_digest_33]
      simp (disch := omega) only [lit, nlt, nle, neq, nI_add, pk_mul, nm_u, bS, gd_d, oc_none, oc_some, rd_n, wr_n, if_pos, if_neg, ite_true, ite_false, not_true_eq_false, not_false_eq_true, g1, g2, g3, g4, h1, h2, h3, h4, hP.2.1, dgp_c (fu := fu) (K := f4_digest_33 MC fu f1) (x := x) hP hp (show i < P.1 by omega) (show 9 ≤ fu by omega)]
      exact a1
    · rw [f5_digest_33]
      dsimp only
      rw [if_neg (by rw [hP.2.2.1, nle (by omega) (by omega)]; omega)]
      rw [dgp_m hP hg hs (show i < P.1 by omega)]
      exact a2
theorem dgC {fu : Nat} {MC MM : Mem} (hfu : 10000 ≤ fu) (hR : Rel MC MM) : ∀ (e i f1 f2 : Nat) (x : Int64), i + e = 11 → e < f1 → e < f2 → ∃ r, f4_digest_6 MC fu f1 x (nI i) = some r ∧ f5_digest_6 MM fu f2 x (nI i) = some r := by
  intro e
  induction e with
  | zero =>
    intro i f1 f2 x h hf1 hf2
    rcases f1 with _ | f1
    · omega
    rcases f2 with _ | f2
    · omega
    obtain ⟨P, hA, hR0, hT, hP, ⟨d, st, hd, hc0, hm0, hH, hah, hnw, hp⟩, hK⟩ := id hR
    have h8 := hP.1
    obtain ⟨r, a1, a2⟩ := dgP (fu := fu) hfu hR0 hT hK hP (hH.2.2.2.1 d (Nat.le_refl d)) hnw hp P.1 0 fu fu x (by omega) (by omega) (by omega)
    refine ⟨r, ?_, ?_⟩
    · rw [f4_digest_6]
      simp (disch := omega) only [lit, nlt, nle, neq, nI_add, pk_mul, nm_u, bS, gd_d, oc_none, oc_some, rd_n, wr_n, if_pos, if_neg, ite_true, ite_false, not_true_eq_false, not_false_eq_true, g1, g2, g3, g4, h1, h2, h3, h4, a1]
    · rw [f5_digest_6]
      simp (disch := omega) only [lit, nlt, nle, neq, nI_add, pk_mul, nm_u, bS, gd_d, oc_none, oc_some, rd_n, wr_n, if_pos, if_neg, ite_true, ite_false, not_true_eq_false, not_false_eq_true, g1, g2, g3, g4, h1, h2, h3, h4, a2]
  | succ e ih =>
    intro i f1 f2 x h hf1 hf2
    rcases f1 with _ | f1
    · omega
    rcases f2 with _ | f2
    · omega
    obtain ⟨v, b1, b2⟩ := count_cm hfu hR (show i < 11 by omega)
    obtain ⟨r, a1, a2⟩ := ih (i + 1) f1 f2 (31 * x + v.toInt64) (by omega) (by omega) (by omega)
    refine ⟨r, ?_, ?_⟩
    · rw [f4_digest_6]
      simp (disch := omega) only [lit, nlt, nle, neq, nI_add, pk_mul, nm_u, bS, gd_d, oc_none, oc_some, rd_n, wr_n, if_pos, if_neg, ite_true, ite_false, not_true_eq_false, not_false_eq_true, g1, g2, g3, g4, h1, h2, h3, h4, b1]
      exact a1
    · rw [f5_digest_6]
      simp (disch := omega) only [lit, nlt, nle, neq, nI_add, pk_mul, nm_u, bS, gd_d, oc_none, oc_some, rd_n, wr_n, if_pos, if_neg, ite_true, ite_false, not_true_eq_false, not_false_eq_true, g1, g2, g3, g4, h1, h2, h3, h4, b2]
      exact a2
theorem s_digest {fu : Nat} (hfu : 10000 ≤ fu) : Sim_digest fu Rel := by
  intro MC MM hR
  obtain ⟨r, a1, a2⟩ := dgC (fu := fu) hfu hR 11 0 fu fu 17 (by omega) (by omega) (by omega)
  refine ⟨r, ?_, ?_, hR⟩
  · unfold f4_digest
    simp (disch := omega) only [lit, nlt, nle, neq, nI_add, pk_mul, nm_u, bS, gd_d, oc_none, oc_some, rd_n, wr_n, if_pos, if_neg, ite_true, ite_false, not_true_eq_false, not_false_eq_true, g1, g2, g3, g4, h1, h2, h3, h4, a1]
  · unfold f5_digest
    simp (disch := omega) only [lit, nlt, nle, neq, nI_add, pk_mul, nm_u, bS, gd_d, oc_none, oc_some, rd_n, wr_n, if_pos, if_neg, ite_true, ite_false, not_true_eq_false, not_false_eq_true, g1, g2, g3, g4, h1, h2, h3, h4, a2]
