/-! 25: whose, worth, kinds, test, lucks -/
theorem cnt_zero {g : Nat → Bool} : ∀ {n : Nat}, cnt n g = 0 → ∀ k, k < n → g k = false := by
  intro n
  induction n with
  | zero => intro _ k hk; omega
  | succ n ih =>
    intro h k hk
    rw [cnt_s] at h
    cases c : g n
    · rw [c, if_neg (by decide)] at h
      by_cases e : k = n
      · rw [e]; exact c
      · exact ih h k (by omega)
    · rw [c, if_pos rfl] at h; omega
theorem cnt_pos {g : Nat → Bool} {n k : Nat} (hk : k < n) (h : g k = true) : 0 < cnt n g := by
  refine Nat.pos_of_ne_zero (fun q => ?_)
  have := cnt_zero q k hk
  rw [h] at this; cases this
theorem cnt_imp {f g : Nat → Bool} {n : Nat} (h : ∀ k, k < n → f k = true → g k = true) : cnt n f ≤ cnt n g := by
  induction n with
  | zero => exact Nat.le_refl _
  | succ n ih =>
    have i := ih (fun k hk => h k (by omega))
    have j := h n (by omega)
    rw [cnt_s, cnt_s]
    cases c : f n
    · rw [if_neg (by decide)]
      split <;> omega
    · rw [if_pos rfl, if_pos (j c)]
      omega
def whg (P : PD) (W : Nat) (w : Nat → Int32) (T : Nat) : Bool := (T &&& W == 0) && ((tw P T).2 &&& (msk 13 (fun i => w i == nI 1) ||| msk 13 (fun i => w i == nI 0)) == msk 13 (fun i => w i == nI 1))
section WH
variable {P : PD} {s : Nat → Int32} {M : Mem} {fu k : Nat}
theorem cwh_l {B K W : Nat} {g : Nat → Bool} (hfu : 10000 ≤ fu) (hP : GC P M) (hsw : M.1 33 4 = nI W) (hs2 : W < 256) (hB : B < 8192) (hK : K < 8192) (hg : ∀ T, g T = ((T &&& W == 0) && ((tw P T).2 &&& K == B))) (hpos : 0 < cnt (2 ^ P.1) g) : ∀ (e i f X : Nat), i + e = 2 ^ P.1 → e < f → (0 < cnt i g → X < 256 ∧ ∀ T, g T = true → X ≤ T) → (cnt i g = 0 → X = 0) → ∃ V, V < 256 ∧ (∀ T, g T = true → V ≤ T) ∧ f4_countWhose_17 fu f (nI B) (nI K) (nI (cnt i g)) (nI X) (nI i) M = some (sI M 28 6 (nI V), nI (cnt (2 ^ P.1) g)) := by
  have h8 := hP.1
  have h256 := pow8 h8
  have hone : 1 ≤ 2 ^ P.1 := Nat.one_le_two_pow
  intro e
  induction e with
  | zero =>
    intro i f X hi hf hX hX0
    rcases f with _ | f
    · omega
    have : i = 2 ^ P.1 := by omega
    subst this
    obtain ⟨x1, x2⟩ := hX hpos
    refine ⟨X, x1, x2, ?_⟩
    have hc := cnt_le (2 ^ P.1) g
    rw [f4_countWhose_17]
    unfold f2_all
    simp (disch := omega) only [lit, nlt, nle, neq, nI_add, pk_mul, nm_u, bS, gd_d, oc_none, oc_some, rd_n, wr_n, if_pos, if_neg, ite_true, ite_false, not_true_eq_false, not_false_eq_true, g1, g2, g3, g4, h1, h2, h3, h4, ior, iand, shl_n, Nat.or_zero, hP.2.1, all2]
  | succ e ih =>
    intro i f X hi hf hX hX0
    rcases f with _ | f
    · omega
    have hi2 : i < 2 ^ P.1 := by omega
    have hU := (tw_b hP hi2).2
    have l1 : i &&& W < 256 := Nat.lt_of_le_of_lt Nat.and_le_left (by omega)
    have l2 : (tw P i).2 &&& K < 8192 := Nat.lt_of_le_of_lt Nat.and_le_left hU
    have hc := cnt_le i g
    have cs := cnt_s i g
    cases c : g i
    · rw [c, if_neg (by decide)] at cs
      obtain ⟨V, v1, v2, v3⟩ := ih (i + 1) f X (by omega) (by omega) (by rw [cs]; exact hX) (by rw [cs]; exact hX0)
      refine ⟨V, v1, v2, ?_⟩
      rw [cs] at v3
      rw [hg i] at c
      by_cases c1 : i &&& W = 0
      · have c2 : ¬ (tw P i).2 &&& K = B := by
          intro q
          rw [c1, q] at c
          simp at c
        rw [f4_countWhose_17]
        unfold f2_all
        simp (disch := omega) only [lit, nlt, nle, neq, nI_add, pk_mul, nm_u, bS, gd_d, oc_none, oc_some, rd_n, wr_n, if_pos, if_neg, ite_true, ite_false, not_true_eq_false, not_false_eq_true, g1, g2, g3, g4, h1, h2, h3, h4, ior, iand, shl_n, Nat.or_zero, hP.2.1, all2, hsw, c1, hours_c hP hi2, c2]
        exact v3
      · rw [f4_countWhose_17]
        unfold f2_all
        simp (disch := omega) only [lit, nlt, nle, neq, nI_add, pk_mul, nm_u, bS, gd_d, oc_none, oc_some, rd_n, wr_n, if_pos, if_neg, ite_true, ite_false, not_true_eq_false, not_false_eq_true, g1, g2, g3, g4, h1, h2, h3, h4, ior, iand, shl_n, Nat.or_zero, hP.2.1, all2, hsw, c1, hours_c hP hi2]
        exact v3
    · rw [c, if_pos rfl] at cs
      have c' := c
      rw [hg i] at c'
      simp at c'
      obtain ⟨c1, c2⟩ := c'
      have t2 : (nI ((tw P i).2 &&& K) = nI B) = True := by rw [c2]; exact eq_true rfl
      by_cases z : cnt i g = 0
      · obtain ⟨V, v1, v2, v3⟩ := ih (i + 1) f i (by omega) (by omega) (fun _ => ⟨by omega, fun T hT => by
          by_cases q : T < i
          · have := cnt_zero z T q
            rw [hT] at this; cases this
          · omega⟩) (by rw [cs]; intro q; omega)
        refine ⟨V, v1, v2, ?_⟩
        rw [cs, z] at v3
        rw [z, f4_countWhose_17]
        unfold f2_all
        simp (disch := omega) only [lit, nlt, nle, neq, nI_add, pk_mul, nm_u, bS, gd_d, oc_none, oc_some, rd_n, wr_n, if_pos, if_neg, ite_true, ite_false, not_true_eq_false, not_false_eq_true, g1, g2, g3, g4, h1, h2, h3, h4, ior, iand, shl_n, Nat.or_zero, hP.2.1, all2, hsw, c1, hours_c hP hi2, t2, Nat.zero_add]
        exact v3
      · obtain ⟨V, v1, v2, v3⟩ := ih (i + 1) f X (by omega) (by omega) (fun _ => hX (by omega)) (by rw [cs]; intro q; omega)
        refine ⟨V, v1, v2, ?_⟩
        rw [cs] at v3
        rw [f4_countWhose_17]
        unfold f2_all
        simp (disch := omega) only [lit, nlt, nle, neq, nI_add, pk_mul, nm_u, bS, gd_d, oc_none, oc_some, rd_n, wr_n, if_pos, if_neg, ite_true, ite_false, not_true_eq_false, not_false_eq_true, g1, g2, g3, g4, h1, h2, h3, h4, ior, iand, shl_n, Nat.or_zero, hP.2.1, all2, hsw, c1, hours_c hP hi2, t2]
        exact v3
theorem whose_s {w : Nat → Int32} (hfu : 10000 ≤ fu) (h : St P s M) (e1 : M.1 2 0 = nI 13) (ew : M.1 12 = w) (ok : ∀ j, j < 13 → okw (w j)) (hpos : 0 < cnt (2 ^ P.1) (whg P (wB P s) w)) : ∃ V, V < 256 ∧ (∀ T, whg P (wB P s) w T = true → V ≤ T) ∧ f4_whose fu (nI 2) M = some (sI M 28 6 (nI V), nI (cnt (2 ^ P.1) (whg P (wB P s) w))) := by
  have hP := h.1
  have h8 := hP.1
  have hn := h.2.2.2
  have p1 := places_c (fu := fu) (r := 2) (v := nI 1) hfu (by omega) e1
  have p0 := places_c (fu := fu) (r := 2) (v := nI 0) hfu (by omega) e1
  have p9 := places_c (fu := fu) (r := 2) (v := -nI 9) hfu (by omega) e1
  rw [show 2 + 10 = 12 from rfl, ew] at p1 p0 p9
  have b1 := msk_lt 13 (fun i => w i == nI 1)
  have b0 := msk_lt 13 (fun i => w i == nI 0)
  have b9 := msk_lt 13 (fun i => w i == -nI 9)
  have bK := Nat.or_lt_two_pow b1 b0
  have ball := Nat.or_lt_two_pow bK b9
  have c1 := cover.mpr ok
  have t8 : (nI ((msk 13 (fun i => w i == nI 1) ||| msk 13 (fun i => w i == nI 0)) ||| msk 13 (fun i => w i == -nI 9)) = nI 8191) = True := by rw [c1]; exact eq_true rfl
  have hm := isM_k (M := M) (p := 2) (by omega) e1 (by omega)
  have gk : gd (decide ((2 : Nat) < 10)) = some () := rfl
  obtain ⟨V, v1, v2, v3⟩ := cwh_l (fu := fu) (g := whg P (wB P s) w) hfu hP h.2.2.1.2.2.1 (wB_lt h8) b1 bK (fun T => rfl) hpos (2 ^ P.1) 0 fu 0 (by omega) (by
    have := pow8 h8
    omega) (fun q => absurd q (by show ¬ 0 < 0; omega)) (fun _ => rfl)
  have v3' : f4_countWhose_17 fu fu (nI (msk 13 (fun i => w i == nI 1))) (nI (msk 13 (fun i => w i == nI 1) ||| msk 13 (fun i => w i == nI 0))) (nI 0) (nI 0) (nI 0) M = some (sI M 28 6 (nI V), nI (cnt (2 ^ P.1) (whg P (wB P s) w))) := v3
  refine ⟨V, v1, v2, ?_⟩
  unfold f4_whose f4_countWhose
  rw [rowAt_in (by omega)]
  simp (disch := omega) only [lit, nlt, nle, neq, nI_add, pk_mul, nm_u, bS, gd_d, oc_none, oc_some, rd_n, wr_n, if_pos, if_neg, ite_true, ite_false, not_true_eq_false, not_false_eq_true, g1, g2, g3, g4, h1, h2, h3, h4, ior, iand, shl_n, Nat.or_zero, hP.2.1, gk, hm, e1, p1, p0, p9, t8, v3']
theorem worth_s {l : Nat} (h : St P s M) (hk : k < P.1) (hl : l < 10) : f4_worth (nI k) (nI l) M = some (sI M 28 6 (zI (wv P (kd P k) k l)), nI 1) := by
  have hP := h.1
  have h8 := hP.1
  obtain ⟨hok, e0, -⟩ := hP.2.2.2.1 k hk
  have e := wvI_z (P := P) (k := k) hok.1 l (kd P k) hok.1
  unfold f4_worth f4_isLuck
  simp (disch := omega) only [lit, nlt, nle, neq, nI_add, pk_mul, nm_u, bS, gd_d, oc_none, oc_some, rd_n, wr_n, if_pos, if_neg, ite_true, ite_false, not_true_eq_false, not_false_eq_true, g1, g2, g3, g4, h1, h2, h3, h4, has2_in hP hk, e0, value_c hP hk, e]
theorem wv_bd {l K : Nat} (h : okP P k) (hl : l < 10) (hK : K < 6) : -20 ≤ wv P K k l ∧ wv P K k l ≤ 60 := by
  obtain ⟨-, -, -, b4, b5, -⟩ := h
  rcases (show K = 0 ∨ K = 1 ∨ K = 2 ∨ K = 3 ∨ K = 4 ∨ K = 5 by omega) with rfl | rfl | rfl | rfl | rfl | rfl
  · show -20 ≤ (l : Int) ∧ (l : Int) ≤ 60
    omega
  · show -20 ≤ (l : Int) - 10 ∧ (l : Int) - 10 ≤ 60
    omega
  · show -20 ≤ (if (hm P k).testBit 5 then (l : Int) + 3 else l) ∧ (if (hm P k).testBit 5 then (l : Int) + 3 else l) ≤ 60
    split <;> omega
  · show -20 ≤ (l : Int) * ln P k ∧ (l : Int) * ln P k ≤ 60
    rcases (show ln P k = 1 ∨ ln P k = 2 ∨ ln P k = 3 ∨ ln P k = 4 by omega) with e | e | e | e <;> rw [e] <;> omega
  · show -20 ≤ 2 * (if (hm P k).testBit 5 then (l : Int) + 3 else l) ∧ 2 * (if (hm P k).testBit 5 then (l : Int) + 3 else l) ≤ 60
    split <;> omega
  · show -20 ≤ (l : Int) - 10 - ln P k ∧ (l : Int) - 10 - ln P k ≤ 60
    omega
theorem isLuck_s {l : Nat} (hl : l < 10) : f4_isLuck (nI l) = some (nI 1) := by
  unfold f4_isLuck
  simp (disch := omega) only [lit, nlt, nle, neq, nI_add, pk_mul, nm_u, bS, gd_d, oc_none, oc_some, rd_n, wr_n, if_pos, if_neg, ite_true, ite_false, not_true_eq_false, not_false_eq_true, g1, g2, g3, g4, h1, h2, h3, h4]
theorem isWorth_s {z : Int} (a : -20 ≤ z) (b : z ≤ 60) : f4_isWorth (zI z) = some (nI 1) := by
  have e1 : (zI z < -nI 20) = False := by
    rw [show (-nI 20 : Int32) = zI (-20) from by decide, zlt (by omega) (by omega) (by omega) (by omega)]
    exact eq_false (by omega)
  have e2 : (nI 60 < zI z) = False := by
    rw [show (nI 60 : Int32) = zI 60 from by decide, zlt (by omega) (by omega) (by omega) (by omega)]
    exact eq_false (by omega)
  unfold f4_isWorth
  simp (disch := omega) only [lit, nlt, nle, neq, nI_add, pk_mul, nm_u, bS, gd_d, oc_none, oc_some, rd_n, wr_n, if_pos, if_neg, ite_true, ite_false, not_true_eq_false, not_false_eq_true, g1, g2, g3, g4, h1, h2, h3, h4, e1, e2]
/-- a row with one pair -/
def pr1 (l : Nat) (z : Int) (M : Mem) : Prop := M.1 3 0 = nI 2 ∧ M.1 13 0 = nI l ∧ M.1 13 1 = zI z
theorem pairs_s {l : Nat} {z : Int} (hfu : 10000 ≤ fu) (h : St P s M) (hk : k < P.1) (hl : l < 10) (a : -20 ≤ z) (b : z ≤ 60) (hp : pr1 l z M) : f4_refusePairs fu (nI k) (nI 3) M = some (M, nI 0) := by
  have hP := h.1
  have gk : gd (decide ((3 : Nat) < 10)) = some () := rfl
  have hm := isM_k (M := M) (p := 3) (by omega) hp.1 (by omega)
  obtain ⟨f, rfl⟩ : ∃ f, fu = f + 2 := ⟨fu - 2, by omega⟩
  have c1 := cellAt_in (M := M) (p := 3) (i := 0) (by omega) (by omega)
  have c2 := cellAt_in (M := M) (p := 3) (i := 1) (by omega) (by omega)
  rw [show 3 + 10 = 13 from rfl] at c1 c2
  rw [hp.2.1] at c1
  rw [hp.2.2] at c2
  have k1 : f4_refusePairs_57 (f + 2) (f + 1) 3 (nI 2) M = some (M, nI 0) := by
    rw [f4_refusePairs_57]
    simp (disch := omega) only [lit, nlt, nle, neq, nI_add, pk_mul, nm_u, bS, gd_d, oc_none, oc_some, rd_n, wr_n, if_pos, if_neg, ite_true, ite_false, not_true_eq_false, not_false_eq_true, g1, g2, g3, g4, h1, h2, h3, h4, gk, hp.1]
  have k0 : f4_refusePairs_57 (f + 2) (f + 2) 3 (nI 0) M = some (M, nI 0) := by
    rw [f4_refusePairs_57]
    simp (disch := omega) only [lit, nlt, nle, neq, nI_add, pk_mul, nm_u, bS, gd_d, oc_none, oc_some, rd_n, wr_n, if_pos, if_neg, ite_true, ite_false, not_true_eq_false, not_false_eq_true, g1, g2, g3, g4, h1, h2, h3, h4, gk, hp.1, c1, isLuck_s hl, kq9, Nat.zero_add, c2, isWorth_s a b, k1]
  have r2 : rmI (nI 2) (nI 2) = some (nI 0) := rmN (by omega) (by omega) (by omega)
  unfold f4_refusePairs
  rw [rowAt_in (by omega)]
  simp (disch := omega) only [lit, nlt, nle, neq, nI_add, pk_mul, nm_u, bS, gd_d, oc_none, oc_some, rd_n, wr_n, if_pos, if_neg, ite_true, ite_false, not_true_eq_false, not_false_eq_true, g1, g2, g3, g4, h1, h2, h3, h4, has2_in hP hk, kq9, gk, hm, hp.1, r2, k0]
/-- the kinds that are worth so much with this luck -/
def kdS (P : PD) (k l : Nat) (z : Int) : Nat := msk 6 (fun K => wvI P (nI K) k (nI l) == zI z)
theorem kindsBy_s {l : Nat} {z : Int} (hfu : 10000 ≤ fu) (h : St P s M) (hk : k < P.1) (hp : pr1 l z M) : f4_kindsBy M fu (nI k) 3 = some (nI (kdS P k l z)) := by
  have hP := h.1
  have gk : gd (decide ((3 : Nat) < 10)) = some () := rfl
  have c1 := cellAt_in (M := M) (p := 3) (i := 0) (by omega) (by omega)
  have c2 := cellAt_in (M := M) (p := 3) (i := 1) (by omega) (by omega)
  rw [show 3 + 10 = 13 from rfl] at c1 c2
  rw [hp.2.1] at c1
  rw [hp.2.2] at c2
  have key : ∀ (e K f : Nat), K + e = 6 → e < f → f4_kindsBy_5 M fu f (nI k) 3 (nI (msk K (fun K => wvI P (nI K) k (nI l) == zI z))) (nI K) = some (nI (kdS P k l z)) := by
    intro e
    induction e with
    | zero =>
      intro K f hK hf
      rcases f with _ | f
      · omega
      have : K = 6 := by omega
      subst this
      rw [f4_kindsBy_5]
      simp (disch := omega) only [lit, nlt, nle, neq, nI_add, pk_mul, nm_u, bS, gd_d, oc_none, oc_some, rd_n, wr_n, if_pos, if_neg, ite_true, ite_false, not_true_eq_false, not_false_eq_true, g1, g2, g3, g4, h1, h2, h3, h4]
      rfl
    | succ e ih =>
      intro K f hK hf
      rcases f with _ | f
      · omega
      have h2 := ih (K + 1) f (by omega) (by omega)
      rw [msk_s] at h2
      obtain ⟨g, rfl⟩ : ∃ g, fu = g + 2 := ⟨fu - 2, by omega⟩
      have q0 : ∀ S : Nat, f4_kindsBy_26 M (g + 2) (f4_kindsBy_5 M (g + 2) f) (g + 1) (nI k) 3 (nI S) (nI K) (nI 0) (nI 2) = f4_kindsBy_5 M (g + 2) f (nI k) 3 (nI S) (nI (K + 1)) := by
        intro S
        rw [f4_kindsBy_26]
        unfold f4_kindsBy_83
        simp (disch := omega) only [lit, nlt, nle, neq, nI_add, pk_mul, nm_u, bS, gd_d, oc_none, oc_some, rd_n, wr_n, if_pos, if_neg, ite_true, ite_false, not_true_eq_false, not_false_eq_true, g1, g2, g3, g4, h1, h2, h3, h4, ior, iand, shl_n, Nat.or_zero]
      have q1 : ∀ S : Nat, f4_kindsBy_26 M (g + 2) (f4_kindsBy_5 M (g + 2) f) (g + 1) (nI k) 3 (nI S) (nI K) (nI 1) (nI 2) = f4_kindsBy_5 M (g + 2) f (nI k) 3 (nI (S ||| 2 ^ K)) (nI (K + 1)) := by
        intro S
        rw [f4_kindsBy_26]
        unfold f4_kindsBy_83
        simp (disch := omega) only [lit, nlt, nle, neq, nI_add, pk_mul, nm_u, bS, gd_d, oc_none, oc_some, rd_n, wr_n, if_pos, if_neg, ite_true, ite_false, not_true_eq_false, not_false_eq_true, g1, g2, g3, g4, h1, h2, h3, h4, ior, iand, shl_n, Nat.or_zero, gk, hp.1, kq9]
      rw [f4_kindsBy_5]
      by_cases c : wvI P (nI K) k (nI l) = zI z
      · rw [if_pos (by simp [c])] at h2
        rw [f4_kindsBy_26]
        simp (disch := omega) only [lit, nlt, nle, neq, nI_add, pk_mul, nm_u, bS, gd_d, oc_none, oc_some, rd_n, wr_n, if_pos, if_neg, ite_true, ite_false, not_true_eq_false, not_false_eq_true, g1, g2, g3, g4, h1, h2, h3, h4, kq9, gk, hp.1, c1, c2, value_c hP hk, c, Nat.zero_add, q1]
        try exact h2
      · rw [if_neg (by simp [c])] at h2
        rw [f4_kindsBy_26]
        simp (disch := omega) only [lit, nlt, nle, neq, nI_add, pk_mul, nm_u, bS, gd_d, oc_none, oc_some, rd_n, wr_n, if_pos, if_neg, ite_true, ite_false, not_true_eq_false, not_false_eq_true, g1, g2, g3, g4, h1, h2, h3, h4, kq9, gk, hp.1, c1, c2, value_c hP hk, c, Nat.zero_add, q0]
        try exact h2
  unfold f4_kindsBy
  exact key 6 0 fu (by omega) (by omega)
theorem kdS_lt {l : Nat} {z : Int} : kdS P k l z < 64 := msk_lt 6 _
theorem kinds_s {l : Nat} {z : Int} (hfu : 10000 ≤ fu) (h : St P s M) (hk : k < P.1) (hl : l < 10) (a : -20 ≤ z) (b : z ≤ 60) (hp : pr1 l z M) : f4_kinds fu (nI k) (nI 3) M = some (M, nI (kdS P k l z)) := by
  unfold f4_kinds
  rw [show (nI 3 : Int32) = nI 3 from rfl, pairs_s hfu h hk hl a b hp, rowAt_in (by omega)]
  simp (disch := omega) only [lit, nlt, nle, neq, nI_add, pk_mul, nm_u, bS, gd_d, oc_none, oc_some, rd_n, wr_n, if_pos, if_neg, ite_true, ite_false, not_true_eq_false, not_false_eq_true, g1, g2, g3, g4, h1, h2, h3, h4, kindsBy_s hfu h hk hp]
theorem gp_in {S l K g : Nat} {kc1 : Int32 → Int32 → Int32 → Int32 → Int32 → Option Int32} (hP : GC P M) (hk : k < P.1) (hK : K < 6) (hS : S < 64) (hg : g ≤ 6) : ∀ (e o p f : Nat), o + e = 6 → e < f → p ≤ cnt o (fun j => S.testBit j) → (S.testBit K = true → K < o → 1 ≤ p) → ∃ p', p' ≤ cnt 6 (fun j => S.testBit j) ∧ (S.testBit K = true → 1 ≤ p') ∧ f2_greatestPart_19 M fu kc1 f (nI k) (nI S) (nI l) (nI g) (nI K) (nI p) (nI o) = kc1 (nI k) (nI S) (nI l) (nI (max g p')) (nI (K + 1)) := by
  intro e
  induction e with
  | zero =>
    intro o p f h hf hp h1
    rcases f with _ | f
    · omega
    have : o = 6 := by omega
    subst this
    have hc := cnt_le 6 (fun j => S.testBit j)
    refine ⟨p, hp, fun q => h1 q hK, ?_⟩
    by_cases c : g < p
    · rw [show max g p = p by omega, f2_greatestPart_19]
      simp (disch := omega) only [lit, nlt, nle, neq, nI_add, pk_mul, nm_u, bS, gd_d, oc_none, oc_some, rd_n, wr_n, if_pos, if_neg, ite_true, ite_false, not_true_eq_false, not_false_eq_true, g1, g2, g3, g4, h1, h2, h3, h4]
    · rw [show max g p = g by omega, f2_greatestPart_19]
      simp (disch := omega) only [lit, nlt, nle, neq, nI_add, pk_mul, nm_u, bS, gd_d, oc_none, oc_some, rd_n, wr_n, if_pos, if_neg, ite_true, ite_false, not_true_eq_false, not_false_eq_true, g1, g2, g3, g4, h1, h2, h3, h4]
  | succ e ih =>
    intro o p f h hf hp h1
    rcases f with _ | f
    · omega
    have cs := cnt_s o (fun j => S.testBit j)
    have hc := cnt_le o (fun j => S.testBit j)
    cases b1 : S.testBit K
    · obtain ⟨p', a1, -, a3⟩ := ih (o + 1) p f (by omega) (by omega) (by rw [cs]; split <;> omega) (fun q => by rw [b1] at q; cases q)
      refine ⟨p', a1, fun q => (by cases q), ?_⟩
      rw [f2_greatestPart_19]
      unfold f2_greatestPart_49
      simp (disch := omega) only [lit, nlt, nle, neq, nI_add, pk_mul, nm_u, bS, gd_d, oc_none, oc_some, rd_n, wr_n, if_pos, if_neg, ite_true, ite_false, not_true_eq_false, not_false_eq_true, g1, g2, g3, g4, h1, h2, h3, h4, ior, iand, shl_n, Nat.or_zero, bit_f b1 (show K < 31 by omega) (show S < 2147483648 by omega), a3]
    · cases b2 : S.testBit o
      · rw [if_neg (by rw [b2]; decide)] at cs
        obtain ⟨p', a1, a2, a3⟩ := ih (o + 1) p f (by omega) (by omega) (by rw [cs]; exact hp) (fun q hq => by
          by_cases c : K = o
          · rw [c, b2] at b1; cases b1
          · exact h1 q (by omega))
        refine ⟨p', a1, fun _ => a2 b1, ?_⟩
        rw [f2_greatestPart_19]
        unfold f2_greatestPart_49
        simp (disch := omega) only [lit, nlt, nle, neq, nI_add, pk_mul, nm_u, bS, gd_d, oc_none, oc_some, rd_n, wr_n, if_pos, if_neg, ite_true, ite_false, not_true_eq_false, not_false_eq_true, g1, g2, g3, g4, h1, h2, h3, h4, ior, iand, shl_n, Nat.or_zero, bit_t b1 (show K < 31 by omega) (show S < 2147483648 by omega), bit_f b2 (show o < 31 by omega) (show S < 2147483648 by omega), kq9, a3]
      · rw [if_pos b2] at cs
        by_cases v : wvI P (nI K) k (nI l) = wvI P (nI o) k (nI l)
        · obtain ⟨p', a1, a2, a3⟩ := ih (o + 1) (p + 1) f (by omega) (by omega) (by rw [cs]; omega) (fun _ _ => by omega)
          refine ⟨p', a1, fun _ => a2 b1, ?_⟩
          rw [f2_greatestPart_19]
          unfold f2_greatestPart_49
          simp (disch := omega) only [lit, nlt, nle, neq, nI_add, pk_mul, nm_u, bS, gd_d, oc_none, oc_some, rd_n, wr_n, if_pos, if_neg, ite_true, ite_false, not_true_eq_false, not_false_eq_true, g1, g2, g3, g4, h1, h2, h3, h4, ior, iand, shl_n, Nat.or_zero, bit_t b1 (show K < 31 by omega) (show S < 2147483648 by omega), bit_t b2 (show o < 31 by omega) (show S < 2147483648 by omega), kq9, value_c hP hk, v, a3]
        · obtain ⟨p', a1, a2, a3⟩ := ih (o + 1) p f (by omega) (by omega) (by rw [cs]; omega) (fun q hq => by
            by_cases c : K = o
            · rw [c] at v; exact absurd rfl v
            · exact h1 q (by omega))
          refine ⟨p', a1, fun _ => a2 b1, ?_⟩
          rw [f2_greatestPart_19]
          unfold f2_greatestPart_49
          simp (disch := omega) only [lit, nlt, nle, neq, nI_add, pk_mul, nm_u, bS, gd_d, oc_none, oc_some, rd_n, wr_n, if_pos, if_neg, ite_true, ite_false, not_true_eq_false, not_false_eq_true, g1, g2, g3, g4, h1, h2, h3, h4, ior, iand, shl_n, Nat.or_zero, bit_t b1 (show K < 31 by omega) (show S < 2147483648 by omega), bit_t b2 (show o < 31 by omega) (show S < 2147483648 by omega), kq9, value_c hP hk, v, a3]
theorem gp_out {S l : Nat} (hfu : 10000 ≤ fu) (hP : GC P M) (hk : k < P.1) (hS : S < 64) : ∀ (e K g f : Nat), K + e = 6 → e < f → g ≤ cnt 6 (fun j => S.testBit j) → (∀ j, j < K → S.testBit j = true → 1 ≤ g) → ∃ g', g' ≤ cnt 6 (fun j => S.testBit j) ∧ (∀ j, j < 6 → S.testBit j = true → 1 ≤ g') ∧ f2_greatestPart_6 M fu f (nI k) (nI S) (nI l) (nI g) (nI K) = some (nI g') := by
  intro e
  induction e with
  | zero =>
    intro K g f h hf hg h1
    rcases f with _ | f
    · omega
    have : K = 6 := by omega
    subst this
    refine ⟨g, hg, h1, ?_⟩
    rw [f2_greatestPart_6]
    simp (disch := omega) only [lit, nlt, nle, neq, nI_add, pk_mul, nm_u, bS, gd_d, oc_none, oc_some, rd_n, wr_n, if_pos, if_neg, ite_true, ite_false, not_true_eq_false, not_false_eq_true, g1, g2, g3, g4, h1, h2, h3, h4]
  | succ e ih =>
    intro K g f h hf hg h1
    rcases f with _ | f
    · omega
    have hc := cnt_le 6 (fun j => S.testBit j)
    obtain ⟨p', b1, b2, b3⟩ := gp_in (fu := fu) (l := l) (K := K) (g := g) (kc1 := f2_greatestPart_6 M fu f) hP hk (by omega) hS (by omega) 6 0 0 fu (by omega) (by omega) (Nat.zero_le _) (fun _ q => by omega)
    obtain ⟨g', a1, a2, a3⟩ := ih (K + 1) (max g p') f (by omega) (by omega) (by omega) (fun j hj c => by
      by_cases q : j = K
      · rw [q] at c
        have := b2 c
        omega
      · have := h1 j (by omega) c
        omega)
    refine ⟨g', a1, a2, ?_⟩
    rw [f2_greatestPart_6]
    simp (disch := omega) only [lit, nlt, nle, neq, nI_add, pk_mul, nm_u, bS, gd_d, oc_none, oc_some, rd_n, wr_n, if_pos, if_neg, ite_true, ite_false, not_true_eq_false, not_false_eq_true, g1, g2, g3, g4, h1, h2, h3, h4, b3, a3]
theorem test_in {S : Nat} (hfu : 10000 ≤ fu) (hP : GC P M) (hk : k < P.1) (hS : S < 64) (hS0 : ∃ j, j < 6 ∧ S.testBit j = true) : ∀ (e l f L F : Nat), l + e = 10 → e < f → F < 10 → 1 ≤ L → L ≤ 7 → (0 < l → L ≤ cnt 6 (fun j => S.testBit j)) → ∃ L' F', F' < 10 ∧ 1 ≤ L' ∧ L' ≤ cnt 6 (fun j => S.testBit j) ∧ f4_test_43 fu f (nI k) (nI S) (nI L) (nI F) (nI l) M = some (sI M 28 6 (nI L'), nI F') := by
  have hc := cnt_le 6 (fun j => S.testBit j)
  intro e
  induction e with
  | zero =>
    intro l f L F h hf hF hL hL7 h1
    rcases f with _ | f
    · omega
    have : l = 10 := by omega
    subst this
    refine ⟨L, F, hF, hL, h1 (by omega), ?_⟩
    rw [f4_test_43]
    simp (disch := omega) only [lit, nlt, nle, neq, nI_add, pk_mul, nm_u, bS, gd_d, oc_none, oc_some, rd_n, wr_n, if_pos, if_neg, ite_true, ite_false, not_true_eq_false, not_false_eq_true, g1, g2, g3, g4, h1, h2, h3, h4]
  | succ e ih =>
    intro l f L F h hf hF hL hL7 h1
    rcases f with _ | f
    · omega
    obtain ⟨g, b1, b2, b3⟩ := gp_out (fu := fu) (l := l) hfu hP hk hS 6 0 0 fu (by omega) (by omega) (Nat.zero_le _) (fun j hj => by omega)
    obtain ⟨j, hj, cj⟩ := hS0
    have b4 := b2 j hj cj
    by_cases c : L ≤ g
    · obtain ⟨L', F', a1, a2, a3, a4⟩ := ih (l + 1) f L F (by omega) (by omega) hF hL hL7 (fun _ => by omega)
      refine ⟨L', F', a1, a2, a3, ?_⟩
      rw [f4_test_43]
      unfold f2_greatestPart
      simp (disch := omega) only [lit, nlt, nle, neq, nI_add, pk_mul, nm_u, bS, gd_d, oc_none, oc_some, rd_n, wr_n, if_pos, if_neg, ite_true, ite_false, not_true_eq_false, not_false_eq_true, g1, g2, g3, g4, h1, h2, h3, h4, b3, a4]
    · obtain ⟨L', F', a1, a2, a3, a4⟩ := ih (l + 1) f g l (by omega) (by omega) (by omega) b4 (by omega) (fun _ => b1)
      refine ⟨L', F', a1, a2, a3, ?_⟩
      rw [f4_test_43]
      unfold f2_greatestPart
      simp (disch := omega) only [lit, nlt, nle, neq, nI_add, pk_mul, nm_u, bS, gd_d, oc_none, oc_some, rd_n, wr_n, if_pos, if_neg, ite_true, ite_false, not_true_eq_false, not_false_eq_true, g1, g2, g3, g4, h1, h2, h3, h4, b3, a4]
theorem pcn_64 {S : Nat} (hS : S < 64) : pcn S = cnt 6 (fun j => S.testBit j) := by
  have : ∀ S, S < 64 → pcn S = cnt 6 (fun j => S.testBit j) := by decide +kernel
  exact this S hS
theorem test_s {l : Nat} {z : Int} (hfu : 10000 ≤ fu) (h : St P s M) (hk : k < P.1) (hl : l < 10) (a : -20 ≤ z) (b : z ≤ 60) (hp : pr1 l z M) (hS0 : ∃ j, j < 6 ∧ (kdS P k l z).testBit j = true) : ∃ L' F', F' < 10 ∧ 1 ≤ L' ∧ L' ≤ pcn (kdS P k l z) ∧ f4_test fu (nI k) (nI 3) M = some (sI M 28 6 (nI L'), nI F') := by
  have hS := kdS_lt (P := P) (k := k) (l := l) (z := z)
  obtain ⟨L', F', a1, a2, a3, a4⟩ := test_in (fu := fu) hfu h.1 hk hS hS0 10 0 fu 7 0 (by omega) (by omega) (by omega) (by omega) (by omega) (fun q => by omega)
  rw [pcn_64 hS]
  refine ⟨L', F', a1, a2, a3, ?_⟩
  have n0 : ¬ kdS P k l z = 0 := by
    intro q
    obtain ⟨j, -, c⟩ := hS0
    rw [q, Nat.zero_testBit] at c
    cases c
  unfold f4_test
  rw [pairs_s hfu h hk hl a b hp, rowAt_in (by omega)]
  simp (disch := omega) only [lit, nlt, nle, neq, nI_add, pk_mul, nm_u, bS, gd_d, oc_none, oc_some, rd_n, wr_n, if_pos, if_neg, ite_true, ite_false, not_true_eq_false, not_false_eq_true, g1, g2, g3, g4, h1, h2, h3, h4, kindsBy_s hfu h hk hp, a4]
theorem lucks_s {l : Nat} (hfu : 10000 ≤ fu) (h : St P s M) (hk : k < P.1) (hl : l < 10) : ∃ S, S < 1024 ∧ S.testBit l = true ∧ f4_lucks M fu (nI k) (zI (wv P (kd P k) k l)) = some (nI S) := by
  have hP := h.1
  have h8 := hP.1
  obtain ⟨hok, e0, -⟩ := hP.2.2.2.1 k hk
  have e := wvI_z (P := P) (k := k) hok.1 l (kd P k) hok.1
  obtain ⟨z1, z2⟩ := wv_bd (l := l) (K := kd P k) hok hl hok.1
  have hw := isWorth_s z1 z2
  generalize wv P (kd P k) k l = z at e hw
  have key : ∀ (d i f : Nat), i + d = 10 → d < f → f4_lucks_31 M fu f (nI k) (zI z) (nI (msk i (fun j => wvI P (nI (kd P k)) k (nI j) == zI z))) (nI i) = some (nI (msk 10 (fun j => wvI P (nI (kd P k)) k (nI j) == zI z))) := by
    intro d
    induction d with
    | zero =>
      intro i f h hf
      rcases f with _ | f
      · omega
      have : i = 10 := by omega
      subst this
      rw [f4_lucks_31]
      simp (disch := omega) only [lit, nlt, nle, neq, nI_add, pk_mul, nm_u, bS, gd_d, oc_none, oc_some, rd_n, wr_n, if_pos, if_neg, ite_true, ite_false, not_true_eq_false, not_false_eq_true, g1, g2, g3, g4, h1, h2, h3, h4]
    | succ d ih =>
      intro i f h hf
      rcases f with _ | f
      · omega
      have h2 := ih (i + 1) f (by omega) (by omega)
      rw [msk_s] at h2
      rw [f4_lucks_31]
      by_cases c : wvI P (nI (kd P k)) k (nI i) = zI z
      · rw [if_pos (by simp [c])] at h2
        simp (disch := omega) only [lit, nlt, nle, neq, nI_add, pk_mul, nm_u, bS, gd_d, oc_none, oc_some, rd_n, wr_n, if_pos, if_neg, ite_true, ite_false, not_true_eq_false, not_false_eq_true, g1, g2, g3, g4, h1, h2, h3, h4, ior, iand, shl_n, Nat.or_zero, e0, value_c hP hk, c]
        try exact h2
      · rw [if_neg (by simp [c])] at h2
        simp (disch := omega) only [lit, nlt, nle, neq, nI_add, pk_mul, nm_u, bS, gd_d, oc_none, oc_some, rd_n, wr_n, if_pos, if_neg, ite_true, ite_false, not_true_eq_false, not_false_eq_true, g1, g2, g3, g4, h1, h2, h3, h4, ior, iand, shl_n, Nat.or_zero, e0, value_c hP hk, c]
        try exact h2
  refine ⟨msk 10 (fun j => wvI P (nI (kd P k)) k (nI j) == zI z), msk_lt 10 _, ?_, ?_⟩
  · rw [msk_tbk hl, e]
    simp
  · unfold f4_lucks
    simp (disch := omega) only [lit, nlt, nle, neq, nI_add, pk_mul, nm_u, bS, gd_d, oc_none, oc_some, rd_n, wr_n, if_pos, if_neg, ite_true, ite_false, not_true_eq_false, not_false_eq_true, g1, g2, g3, g4, h1, h2, h3, h4, has2_in hP hk, kq9, hw]
    exact key 10 0 fu (by omega) (by omega)
end WH
