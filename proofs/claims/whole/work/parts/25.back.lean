/-! 25: going back, keeping -/
theorem cp_11_10 {fu I J N : Nat} {src : Nat → Int32} (hI : I + N ≤ 360) (hJ : J + N ≤ 9) : ∀ (e i f : Nat) (M : Mem), i + e = N → e < f → M.1 11 = src → f5_copies_11_10_3 fu f (nI I) (nI J) (nI N) (nI i) M = some (sF M 10 (fun x => if J + i ≤ x ∧ x < J + N then src (I + (x - J)) else M.1 10 x)) := by
  intro e
  induction e with
  | zero =>
    intro i f M h hf hs
    rcases f with _ | f
    · omega
    rw [f5_copies_11_10_3]
    simp (disch := omega) only [lit, nlt, nle, neq, nI_add, pk_mul, nm_u, bS, gd_d, oc_none, oc_some, rd_n, wr_n, if_pos, if_neg, ite_true, ite_false, not_true_eq_false, not_false_eq_true, g1, g2, g3, g4, h1, h2, h3, h4]
    rw [sF_id]
    intro j
    first | rfl | rw [if_neg (by omega)]
  | succ e ih =>
    intro i f M h hf hs
    rcases f with _ | f
    · omega
    rw [f5_copies_11_10_3]
    simp (disch := omega) only [lit, nlt, nle, neq, nI_add, pk_mul, nm_u, bS, gd_d, oc_none, oc_some, rd_n, wr_n, if_pos, if_neg, ite_true, ite_false, not_true_eq_false, not_false_eq_true, g1, g2, g3, g4, h1, h2, h3, h4]
    rw [ih (i + 1) f _ (by omega) (by omega) (by rw [g2 (by omega)]; exact hs), sF_sI]
    congr 1
    apply sF_cg
    intro j
    by_cases c : J + (i + 1) ≤ j ∧ j < J + N
    · rw [if_pos c, if_pos (by omega)]
    · rw [if_neg c]
      by_cases e0 : j = J + i
      · subst e0; rw [g1, if_pos (by omega), hs]; exact congrArg _ (by omega)
      · rw [g3 e0, if_neg (by omega)]
theorem cm_11_10 {fu I J N : Nat} {M : Mem} (hfu : 10000 ≤ fu) (hI : I + N ≤ 360) (hJ : J + N ≤ 9) : f5_copies_11_10 fu (nI I) (nI J) (nI N) M = some (sF M 10 (fun x => if J + 0 ≤ x ∧ x < J + N then M.1 11 (I + (x - J)) else M.1 10 x)) := by
  unfold f5_copies_11_10
  rw [lit]
  exact cp_11_10 hI hJ N 0 fu M (by omega) (by omega) rfl
theorem cp_12_10 {fu I J N : Nat} {src : Nat → Int32} (hI : I + N ≤ 1110) (hJ : J + N ≤ 9) : ∀ (e i f : Nat) (M : Mem), i + e = N → e < f → M.1 12 = src → f5_copies_12_10_3 fu f (nI I) (nI J) (nI N) (nI i) M = some (sF M 10 (fun x => if J + i ≤ x ∧ x < J + N then src (I + (x - J)) else M.1 10 x)) := by
  intro e
  induction e with
  | zero =>
    intro i f M h hf hs
    rcases f with _ | f
    · omega
    rw [f5_copies_12_10_3]
    simp (disch := omega) only [lit, nlt, nle, neq, nI_add, pk_mul, nm_u, bS, gd_d, oc_none, oc_some, rd_n, wr_n, if_pos, if_neg, ite_true, ite_false, not_true_eq_false, not_false_eq_true, g1, g2, g3, g4, h1, h2, h3, h4]
    rw [sF_id]
    intro j
    first | rfl | rw [if_neg (by omega)]
  | succ e ih =>
    intro i f M h hf hs
    rcases f with _ | f
    · omega
    rw [f5_copies_12_10_3]
    simp (disch := omega) only [lit, nlt, nle, neq, nI_add, pk_mul, nm_u, bS, gd_d, oc_none, oc_some, rd_n, wr_n, if_pos, if_neg, ite_true, ite_false, not_true_eq_false, not_false_eq_true, g1, g2, g3, g4, h1, h2, h3, h4]
    rw [ih (i + 1) f _ (by omega) (by omega) (by rw [g2 (by omega)]; exact hs), sF_sI]
    congr 1
    apply sF_cg
    intro j
    by_cases c : J + (i + 1) ≤ j ∧ j < J + N
    · rw [if_pos c, if_pos (by omega)]
    · rw [if_neg c]
      by_cases e0 : j = J + i
      · subst e0; rw [g1, if_pos (by omega), hs]; exact congrArg _ (by omega)
      · rw [g3 e0, if_neg (by omega)]
theorem cm_12_10 {fu I J N : Nat} {M : Mem} (hfu : 10000 ≤ fu) (hI : I + N ≤ 1110) (hJ : J + N ≤ 9) : f5_copies_12_10 fu (nI I) (nI J) (nI N) M = some (sF M 10 (fun x => if J + 0 ≤ x ∧ x < J + N then M.1 12 (I + (x - J)) else M.1 10 x)) := by
  unfold f5_copies_12_10
  rw [lit]
  exact cp_12_10 hI hJ N 0 fu M (by omega) (by omega) rfl
theorem cp_12_11 {fu I J N : Nat} {src : Nat → Int32} (hI : I + N ≤ 1110) (hJ : J + N ≤ 360) : ∀ (e i f : Nat) (M : Mem), i + e = N → e < f → M.1 12 = src → f5_copies_12_11_3 fu f (nI I) (nI J) (nI N) (nI i) M = some (sF M 11 (fun x => if J + i ≤ x ∧ x < J + N then src (I + (x - J)) else M.1 11 x)) := by
  intro e
  induction e with
  | zero =>
    intro i f M h hf hs
    rcases f with _ | f
    · omega
    rw [f5_copies_12_11_3]
    simp (disch := omega) only [lit, nlt, nle, neq, nI_add, pk_mul, nm_u, bS, gd_d, oc_none, oc_some, rd_n, wr_n, if_pos, if_neg, ite_true, ite_false, not_true_eq_false, not_false_eq_true, g1, g2, g3, g4, h1, h2, h3, h4]
    rw [sF_id]
    intro j
    first | rfl | rw [if_neg (by omega)]
  | succ e ih =>
    intro i f M h hf hs
    rcases f with _ | f
    · omega
    rw [f5_copies_12_11_3]
    simp (disch := omega) only [lit, nlt, nle, neq, nI_add, pk_mul, nm_u, bS, gd_d, oc_none, oc_some, rd_n, wr_n, if_pos, if_neg, ite_true, ite_false, not_true_eq_false, not_false_eq_true, g1, g2, g3, g4, h1, h2, h3, h4]
    rw [ih (i + 1) f _ (by omega) (by omega) (by rw [g2 (by omega)]; exact hs), sF_sI]
    congr 1
    apply sF_cg
    intro j
    by_cases c : J + (i + 1) ≤ j ∧ j < J + N
    · rw [if_pos c, if_pos (by omega)]
    · rw [if_neg c]
      by_cases e0 : j = J + i
      · subst e0; rw [g1, if_pos (by omega), hs]; exact congrArg _ (by omega)
      · rw [g3 e0, if_neg (by omega)]
theorem cm_12_11 {fu I J N : Nat} {M : Mem} (hfu : 10000 ≤ fu) (hI : I + N ≤ 1110) (hJ : J + N ≤ 360) : f5_copies_12_11 fu (nI I) (nI J) (nI N) M = some (sF M 11 (fun x => if J + 0 ≤ x ∧ x < J + N then M.1 12 (I + (x - J)) else M.1 11 x)) := by
  unfold f5_copies_12_11
  rw [lit]
  exact cp_12_11 hI hJ N 0 fu M (by omega) (by omega) rfl
theorem cp_10_12 {fu I J N : Nat} {src : Nat → Int32} (hI : I + N ≤ 9) (hJ : J + N ≤ 1110) : ∀ (e i f : Nat) (M : Mem), i + e = N → e < f → M.1 10 = src → f5_copies_10_12_3 fu f (nI I) (nI J) (nI N) (nI i) M = some (sF M 12 (fun x => if J + i ≤ x ∧ x < J + N then src (I + (x - J)) else M.1 12 x)) := by
  intro e
  induction e with
  | zero =>
    intro i f M h hf hs
    rcases f with _ | f
    · omega
    rw [f5_copies_10_12_3]
    simp (disch := omega) only [lit, nlt, nle, neq, nI_add, pk_mul, nm_u, bS, gd_d, oc_none, oc_some, rd_n, wr_n, if_pos, if_neg, ite_true, ite_false, not_true_eq_false, not_false_eq_true, g1, g2, g3, g4, h1, h2, h3, h4]
    rw [sF_id]
    intro j
    first | rfl | rw [if_neg (by omega)]
  | succ e ih =>
    intro i f M h hf hs
    rcases f with _ | f
    · omega
    rw [f5_copies_10_12_3]
    simp (disch := omega) only [lit, nlt, nle, neq, nI_add, pk_mul, nm_u, bS, gd_d, oc_none, oc_some, rd_n, wr_n, if_pos, if_neg, ite_true, ite_false, not_true_eq_false, not_false_eq_true, g1, g2, g3, g4, h1, h2, h3, h4]
    rw [ih (i + 1) f _ (by omega) (by omega) (by rw [g2 (by omega)]; exact hs), sF_sI]
    congr 1
    apply sF_cg
    intro j
    by_cases c : J + (i + 1) ≤ j ∧ j < J + N
    · rw [if_pos c, if_pos (by omega)]
    · rw [if_neg c]
      by_cases e0 : j = J + i
      · subst e0; rw [g1, if_pos (by omega), hs]; exact congrArg _ (by omega)
      · rw [g3 e0, if_neg (by omega)]
theorem cm_10_12 {fu I J N : Nat} {M : Mem} (hfu : 10000 ≤ fu) (hI : I + N ≤ 9) (hJ : J + N ≤ 1110) : f5_copies_10_12 fu (nI I) (nI J) (nI N) M = some (sF M 12 (fun x => if J + 0 ≤ x ∧ x < J + N then M.1 10 (I + (x - J)) else M.1 12 x)) := by
  unfold f5_copies_10_12
  rw [lit]
  exact cp_10_12 hI hJ N 0 fu M (by omega) (by omega) rfl
theorem cp_11_12 {fu I J N : Nat} {src : Nat → Int32} (hI : I + N ≤ 360) (hJ : J + N ≤ 1110) : ∀ (e i f : Nat) (M : Mem), i + e = N → e < f → M.1 11 = src → f5_copies_11_12_3 fu f (nI I) (nI J) (nI N) (nI i) M = some (sF M 12 (fun x => if J + i ≤ x ∧ x < J + N then src (I + (x - J)) else M.1 12 x)) := by
  intro e
  induction e with
  | zero =>
    intro i f M h hf hs
    rcases f with _ | f
    · omega
    rw [f5_copies_11_12_3]
    simp (disch := omega) only [lit, nlt, nle, neq, nI_add, pk_mul, nm_u, bS, gd_d, oc_none, oc_some, rd_n, wr_n, if_pos, if_neg, ite_true, ite_false, not_true_eq_false, not_false_eq_true, g1, g2, g3, g4, h1, h2, h3, h4]
    rw [sF_id]
    intro j
    first | rfl | rw [if_neg (by omega)]
  | succ e ih =>
    intro i f M h hf hs
    rcases f with _ | f
    · omega
    rw [f5_copies_11_12_3]
    simp (disch := omega) only [lit, nlt, nle, neq, nI_add, pk_mul, nm_u, bS, gd_d, oc_none, oc_some, rd_n, wr_n, if_pos, if_neg, ite_true, ite_false, not_true_eq_false, not_false_eq_true, g1, g2, g3, g4, h1, h2, h3, h4]
    rw [ih (i + 1) f _ (by omega) (by omega) (by rw [g2 (by omega)]; exact hs), sF_sI]
    congr 1
    apply sF_cg
    intro j
    by_cases c : J + (i + 1) ≤ j ∧ j < J + N
    · rw [if_pos c, if_pos (by omega)]
    · rw [if_neg c]
      by_cases e0 : j = J + i
      · subst e0; rw [g1, if_pos (by omega), hs]; exact congrArg _ (by omega)
      · rw [g3 e0, if_neg (by omega)]
theorem cm_11_12 {fu I J N : Nat} {M : Mem} (hfu : 10000 ≤ fu) (hI : I + N ≤ 360) (hJ : J + N ≤ 1110) : f5_copies_11_12 fu (nI I) (nI J) (nI N) M = some (sF M 12 (fun x => if J + 0 ≤ x ∧ x < J + N then M.1 11 (I + (x - J)) else M.1 12 x)) := by
  unfold f5_copies_11_12
  rw [lit]
  exact cp_11_12 hI hJ N 0 fu M (by omega) (by omega) rfl
theorem Rel.gd {P : PD} {MC MM MC' MM' : Mem} (hA : GA MC MM) (hR0 : GR MC MM) (hT : GT MC MM) (hP : GP P MC MM) (hK : GK P MC MM) (c1 : ∀ q, q ≠ 23 → q ≠ 27 → q ≠ 33 → q ≠ 34 → MC'.1 q = MC.1 q) (c2 : MC'.2 = MC.2) (m1 : ∀ q, q ≠ 0 → q ≠ 10 → q ≠ 11 → MM'.1 q = MM.1 q) (m2 : ∀ i, i ≠ 16 → MM'.1 0 i = MM.1 0 i) (m3 : MM'.2 = MM.2) (hD : GD P MC' MM') : Rel MC' MM' :=
  ⟨P, hA.cg (by rw [c1 28 (by omega) (by omega) (by omega) (by omega)]) (by rw [c1 28 (by omega) (by omega) (by omega) (by omega)]) c2 (c1 32 (by omega) (by omega) (by omega) (by omega)) (m2 4 (by omega)) (m2 7 (by omega)) m3 (m1 5 (by omega) (by omega) (by omega)), hR0.cg (fun q hq => c1 q (by omega) (by omega) (by omega) (by omega)) (m1 1 (by omega) (by omega) (by omega)) (m1 2 (by omega) (by omega) (by omega)), hT.cg (fun q hq => c1 q (by omega) (by omega) (by omega) (by omega)) (m1 3 (by omega) (by omega) (by omega)) (m1 4 (by omega) (by omega) (by omega)), hP.cg (fun q hq => c1 q (by omega) (by omega) (by omega) (by omega)) (m2 9 (by omega)) (fun q hq => m1 q (by omega) (by omega) (by omega)), hD, hK.cg (fun q hq => c1 q (by omega) (by omega) (by omega) (by omega)) (m1 12 (by omega) (by omega) (by omega))⟩
theorem pic.cg {P : PD} {s t : Nat → Int32} {a b c : Int32} {l : Nat → Int32} (h : ∀ j, j ≤ P.1 → s j = t j) (hp : pic P s a b c l) : pic P t a b c l := by
  obtain ⟨p1, p2, p3, p4⟩ := hp
  refine ⟨p1.trans (h 0 (by omega)), p2.trans (congrArg nI (msk_cg (fun k hk => by rw [h (k + 1) (by omega)]))), p3.trans (congrArg nI (msk_cg (fun k hk => by rw [h (k + 1) (by omega)]))), fun k hk a b => ?_⟩
  rw [← h (k + 1) (by omega)] at a b ⊢
  exact p4 k hk a b
theorem msk_0 {n : Nat} {p : Nat → Bool} (h : ∀ k, k < n → p k = false) : msk n p = 0 := by
  apply Nat.eq_of_testBit_eq
  intro i
  rw [msk_tb, Nat.zero_testBit]
  by_cases c : i < n
  · rw [h i c]; simp
  · simp [c]
theorem pos_m1 : ∀ p, p < 10 → (nI p == -nI 1) = false := by decide
theorem pos_m2 : ∀ p, p < 10 → (nI p == -nI 2) = false := by decide
theorem back_l {fu x d : Nat} {P : PD} {MM : Mem} {cd : Nat → Int32} {st : Nat → Nat → Int32} (hfu : 10000 ≤ fu) (hd : d ≤ 40) (hx : x ≤ d) (hH : Hist P cd d st) : ∀ (e i f : Nat) (MC : Mem), i + e = x → e < f → GP P MC MM → MC.1 27 = cd → pic P (st i) (MC.1 33 2) (MC.1 33 3) (MC.1 33 4) (MC.1 34) → ∃ MC', f3_goBackTo_51 fu f (nI x) (nI i) MC = some MC' ∧ pic P (st x) (MC'.1 33 2) (MC'.1 33 3) (MC'.1 33 4) (MC'.1 34) ∧ (∀ q, q ≠ 23 → q ≠ 33 → q ≠ 34 → MC'.1 q = MC.1 q) ∧ MC'.1 23 0 = nI x ∧ MC'.2 = MC.2 := by
  intro e
  induction e with
  | zero =>
    intro i f MC h hf hP hc hp
    rcases f with _ | f
    · omega
    have : i = x := by omega
    subst this
    refine ⟨sI MC 23 0 (nI i), ?_, by rw [g2 (by omega), g2 (by omega)]; exact hp, fun q a b c => g2 a, g1, rfl⟩
    rw [f3_goBackTo_51]
    simp (disch := omega) only [lit, nlt, nle, neq, nI_add, pk_mul, nm_u, bS, gd_d, oc_none, oc_some, rd_n, wr_n, if_pos, if_neg, ite_true, ite_false, not_true_eq_false, not_false_eq_true, g1, g2, g3, g4, h1, h2, h3, h4]
  | succ e ih =>
    intro i f MC h hf hP hc hp
    rcases f with _ | f
    · omega
    obtain ⟨M1, a1, a2, a3, a4⟩ := change_c (fu := fu) hfu hP (hH.2.2.2.1 i (by omega)) hp (hH.2.2.2.2 i (by omega))
    have hP2 : GP P M1 MM := hP.cg (fun q hq => a3 q (by omega) (by omega)) rfl (fun _ _ => rfl)
    obtain ⟨M2, b1, b2, b3, b4, b5⟩ := ih (i + 1) f M1 (by omega) (by omega) hP2 (by rw [a3 27 (by omega) (by omega)]; exact hc) (pic.cg (fun j hj => (hH.2.2.1 i (by omega) j hj).symm) a2)
    refine ⟨M2, ?_, b2, fun q a b c => by rw [b3 q a b c, a3 q b c], b4, by rw [b5, a4]⟩
    rw [f3_goBackTo_51]
    have hc' : MC.1 27 i = cd i := by rw [hc]
    simp (disch := omega) only [lit, nlt, nle, neq, nI_add, pk_mul, nm_u, bS, gd_d, oc_none, oc_some, rd_n, wr_n, if_pos, if_neg, ite_true, ite_false, not_true_eq_false, not_false_eq_true, g1, g2, g3, g4, h1, h2, h3, h4, hc', a1]
    exact b1
theorem back0_l {fu : Nat} {x : Int32} {P : PD} {MM : Mem} : ∀ (e i f : Nat) (M : Mem), i + e = P.1 → e < f → GP P M MM → (∀ k, k < i → M.1 34 k = nI (pl P k)) → ∃ M', f3_goBackTo_17 fu f x (nI i) M = f3_goBackTo_51 fu fu x (nI 0) M' ∧ (∀ k, k < P.1 → M'.1 34 k = nI (pl P k)) ∧ (∀ q, q ≠ 34 → M'.1 q = M.1 q) ∧ M'.2 = M.2 := by
  intro e
  induction e with
  | zero =>
    intro i f M h hf hP hl
    rcases f with _ | f
    · omega
    have hi : i = P.1 := by omega
    have h8 := hP.1
    refine ⟨M, ?_, fun k hk => hl k (by omega), fun _ _ => rfl, rfl⟩
    rw [f3_goBackTo_17]
    simp (disch := omega) only [lit, nlt, nle, neq, nI_add, pk_mul, nm_u, bS, gd_d, oc_none, oc_some, rd_n, wr_n, if_pos, if_neg, ite_true, ite_false, not_true_eq_false, not_false_eq_true, g1, g2, g3, g4, h1, h2, h3, h4, hP.2.1]
  | succ e ih =>
    intro i f M h hf hP hl
    rcases f with _ | f
    · omega
    have h8 := hP.1
    have hpl := (hP.2.2.2.1 i (by omega)).2.2.1
    obtain ⟨M', a1, a2, a3, a4⟩ := ih (i + 1) f (sI M 34 i (nI (pl P i))) (by omega) (by omega) (hP.cg (fun q hq => g2 (by omega)) rfl (fun _ _ => rfl)) (fun k hk => by
      by_cases c : k = i
      · subst c; exact g1
      · rw [g3 c]; exact hl k (by omega))
    refine ⟨M', ?_, a2, fun q hq => by rw [a3 q hq, g2 hq], a4⟩
    rw [f3_goBackTo_17]
    simp (disch := omega) only [lit, nlt, nle, neq, nI_add, pk_mul, nm_u, bS, gd_d, oc_none, oc_some, rd_n, wr_n, if_pos, if_neg, ite_true, ite_false, not_true_eq_false, not_false_eq_true, g1, g2, g3, g4, h1, h2, h3, h4, hP.2.1, hpl]
    exact a1
theorem goBackTo_c {fu x d : Nat} {P : PD} {MC MM : Mem} {st : Nat → Nat → Int32} (hfu : 10000 ≤ fu) (hd : d ≤ 40) (hx : x ≤ d) (hP : GP P MC MM) (hH : Hist P (MC.1 27) d st) : ∃ MC', f3_goBackTo fu (nI x) MC = some MC' ∧ pic P (st x) (MC'.1 33 2) (MC'.1 33 3) (MC'.1 33 4) (MC'.1 34) ∧ (∀ q, q ≠ 23 → q ≠ 33 → q ≠ 34 → MC'.1 q = MC.1 q) ∧ MC'.1 23 0 = nI x ∧ MC'.2 = MC.2 := by
  have h8 := hP.1
  have hg := hH.2.2.2.1 0 (by omega)
  obtain ⟨M1, a1, a2, a3, a4⟩ := back0_l (fu := fu) (x := nI x) (P := P) (MM := MM) P.1 0 fu (sI (sI (sI MC 33 2 (nI 0)) 33 3 (nI 0)) 33 4 (nI 0)) (by omega) (by omega) (hP.cg (fun q hq => by rw [g2 (by omega), g2 (by omega), g2 (by omega)]) rfl (fun _ _ => rfl)) (fun k hk => by omega)
  have hP1 : GP P M1 MM := hP.cg (fun q hq => by rw [a3 q (by omega), g2 (by omega), g2 (by omega), g2 (by omega)]) rfl (fun _ _ => rfl)
  have hpl : ∀ k, k < P.1 → pl P k < 10 := fun k hk => (hP.2.2.2.1 k hk).1.2.1
  obtain ⟨M2, b1, b2, b3, b4, b5⟩ := back_l (fu := fu) (x := x) hfu hd hx hH x 0 fu M1 (by omega) (by omega) hP1 (by rw [a3 27 (by omega), g2 (by omega), g2 (by omega), g2 (by omega)]) (by
    refine ⟨?_, ?_, ?_, fun k hk _ _ => ?_⟩
    · rw [a3 33 (by omega), g3 (by omega), g3 (by omega), g1, hH.1]
    · rw [a3 33 (by omega), g3 (by omega), g1, msk_0 (fun k hk => by rw [hH.2.1 k hk]; exact pos_m1 _ (hpl k hk))]
    · rw [a3 33 (by omega), g1, msk_0 (fun k hk => by rw [hH.2.1 k hk]; exact pos_m2 _ (hpl k hk))]
    · rw [a2 k hk, hH.2.1 k hk])
  refine ⟨M2, ?_, b2, fun q a b c => by rw [b3 q a b c, a3 q c, g2 b, g2 b, g2 b], b4, by rw [b5, a4]; rfl⟩
  unfold f3_goBackTo
  simp (disch := omega) only [lit, nlt, nle, neq, nI_add, pk_mul, nm_u, bS, gd_d, oc_none, oc_some, rd_n, wr_n, if_pos, if_neg, ite_true, ite_false, not_true_eq_false, not_false_eq_true, g1, g2, g3, g4, h1, h2, h3, h4]
  rw [a1]
  exact b1
theorem Hist.le {P : PD} {cd : Nat → Int32} {d x : Nat} {st : Nat → Nat → Int32} (hx : x ≤ d) (h : Hist P cd d st) : Hist P cd x st :=
  ⟨h.1, h.2.1, fun i hi => h.2.2.1 i (by omega), fun i hi => h.2.2.2.1 i (by omega), fun i hi => h.2.2.2.2 i (by omega)⟩
theorem s_undo {fu : Nat} (hfu : 10000 ≤ fu) : Sim_undo fu Rel := by
  intro MC MM a0 hR
  obtain ⟨P, hA, hR0, hT, hP, ⟨d, st, hd, hc0, hm0, hH, hah, hnw, hp⟩, hK⟩ := id hR
  have h8 := hP.1
  rcases tri a0 (d + 1) (by omega) with h | ⟨x, hx, rfl⟩
  · refine ⟨-1, MC, MM, ?_, ?_, hR⟩
    · unfold f4_undo
      rcases h with o | ⟨o1, o2⟩
      · simp (disch := omega) only [lit, nlt, nle, neq, nI_add, pk_mul, nm_u, bS, gd_d, oc_none, oc_some, rd_n, wr_n, if_pos, if_neg, ite_true, ite_false, not_true_eq_false, not_false_eq_true, g1, g2, g3, g4, h1, h2, h3, h4, hc0, o]
      · have q := ge_nle (b := d) (by omega) o2
        simp (disch := omega) only [lit, nlt, nle, neq, nI_add, pk_mul, nm_u, bS, gd_d, oc_none, oc_some, rd_n, wr_n, if_pos, if_neg, ite_true, ite_false, not_true_eq_false, not_false_eq_true, g1, g2, g3, g4, h1, h2, h3, h4, hc0, o1, q]
    · unfold f5_undo
      have e := in_out (n := d) (by omega) h
      simp (disch := omega) only [lit, nlt, nle, neq, nI_add, pk_mul, nm_u, bS, gd_d, oc_none, oc_some, rd_n, wr_n, if_pos, if_neg, ite_true, ite_false, not_true_eq_false, not_false_eq_true, g1, g2, g3, g4, h1, h2, h3, h4, hm0, e]
  · obtain ⟨M1, a1, a2, a3, a4, a5⟩ := goBackTo_c (fu := fu) (x := x) hfu hd (by omega) hP hH
    have e := in_in (j := x) (n := d) (by omega) (by omega)
    by_cases c : x = d
    · subst c
      refine ⟨nI 0, M1, sI MM 0 16 (nI x), ?_, ?_, ?_⟩
      · unfold f4_undo
        simp (disch := omega) only [lit, nlt, nle, neq, nI_add, pk_mul, nm_u, bS, gd_d, oc_none, oc_some, rd_n, wr_n, if_pos, if_neg, ite_true, ite_false, not_true_eq_false, not_false_eq_true, g1, g2, g3, g4, h1, h2, h3, h4, hc0, a1, pk_sub, Nat.sub_self]
      · unfold f5_undo
        simp (disch := omega) only [lit, nlt, nle, neq, nI_add, pk_mul, nm_u, bS, gd_d, oc_none, oc_some, rd_n, wr_n, if_pos, if_neg, ite_true, ite_false, not_true_eq_false, not_false_eq_true, g1, g2, g3, g4, h1, h2, h3, h4, hm0, e, pk_sub, Nat.sub_self]
      · refine Rel.gd hA hR0 hT hP hK (fun q a b c e => a3 q a c e) a5 (fun q a b c => g2 a) (fun i hi => g3 hi) rfl ⟨x, st, hd, a4, g1, ?_, ?_, ?_, a2⟩
        · rw [a3 27 (by omega) (by omega) (by omega)]; exact hH
        · intro i hi j hj; rw [g2 (by omega)]; exact hah i hi j hj
        · intro j hj; rw [g2 (by omega)]; exact hnw j hj
    · have e2 := cm_11_10 (fu := fu) (I := 9 * x) (J := 0) (N := 9) (M := MM) hfu (by omega) (by omega)
      refine ⟨nI (d - x), M1, sI (sF MM 10 (fun y => if 0 + 0 ≤ y ∧ y < 0 + 9 then MM.1 11 (9 * x + (y - 0)) else MM.1 10 y)) 0 16 (nI x), ?_, ?_, ?_⟩
      · unfold f4_undo
        simp (disch := omega) only [lit, nlt, nle, neq, nI_add, pk_mul, nm_u, bS, gd_d, oc_none, oc_some, rd_n, wr_n, if_pos, if_neg, ite_true, ite_false, not_true_eq_false, not_false_eq_true, g1, g2, g3, g4, h1, h2, h3, h4, hc0, a1, pk_sub]
      · unfold f5_undo
        simp (disch := omega) only [lit, nlt, nle, neq, nI_add, pk_mul, nm_u, bS, gd_d, oc_none, oc_some, rd_n, wr_n, if_pos, if_neg, ite_true, ite_false, not_true_eq_false, not_false_eq_true, g1, g2, g3, g4, h1, h2, h3, h4, hm0, e, pk_sub, e2]
      · refine Rel.gd hA hR0 hT hP hK (fun q a b c e => a3 q a c e) a5 (fun q a b c => by rw [g2 a, sF_q b]) (fun i hi => by rw [g3 hi, sF_q (by omega)]) rfl ⟨x, st, by omega, a4, g1, ?_, ?_, ?_, a2⟩
        · rw [a3 27 (by omega) (by omega) (by omega)]; exact hH.le (by omega)
        · intro i hi j hj; rw [g2 (by omega), sF_q (by omega)]; exact hah i (by omega) j hj
        · intro j hj
          rw [g2 (by omega), sF_1, if_pos (by omega)]
          exact (congrArg _ (by omega)).trans (hah x (by omega) j hj)
