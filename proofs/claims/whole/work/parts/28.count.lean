/-! 28: count -/
theorem nI_nm1 {k : Nat} (h : k < 100) : nI k ≠ -nI 1 := by
  have : ∀ k, k < 100 → nI k ≠ -nI 1 := by decide +kernel
  exact this k h
theorem outs_ne {x : Int32} {n j : Nat} (hn : n < 2147483648) (h : outs x n) (hj : j < n) : ¬ x = nI j := by
  intro e
  subst e
  rcases h with h | ⟨-, h⟩
  · rw [nlt (by omega) (by omega)] at h; omega
  · rw [nle (by omega) (by omega)] at h; omega
theorem thR_c {fu : Nat} {MC : Mem} {g : Nat → Bool} (hg : ∀ r, r < 6 → (MC.1 r 0 = -nI 1 ∧ g r = false) ∨ ∃ k, k ≤ 40 ∧ MC.1 r 0 = nI k ∧ g r = true) : ∀ (e i f : Nat), i + e = 6 → e < f → f4_countThere_29_4 MC fu f (nI (cnt i g)) (nI i) = some (nI (cnt 6 g)) := by
  intro e
  induction e with
  | zero =>
    intro i f h hf
    rcases f with _ | f
    · omega
    have : i = 6 := by omega
    subst this
    rw [f4_countThere_29_4]
    simp (disch := omega) only [lit, nlt, nle, neq, nI_add, pk_mul, nm_u, bS, gd_d, oc_none, oc_some, rd_n, wr_n, if_pos, if_neg, ite_true, ite_false, not_true_eq_false, not_false_eq_true, g1, g2, g3, g4, h1, h2, h3, h4]
  | succ e ih =>
    intro i f h hf
    rcases f with _ | f
    · omega
    have hi : i < 6 := by omega
    have er : rdR [0, 1, 2, 3, 4, 5] (nI i) = some i := rdR_n (by
      rcases (show i = 0 ∨ i = 1 ∨ i = 2 ∨ i = 3 ∨ i = 4 ∨ i = 5 by omega) with rfl | rfl | rfl | rfl | rfl | rfl <;> rfl) (by decide)
    have h1 := ih (i + 1) f (by omega) (by omega)
    rw [cnt_s] at h1
    have gk : gd (decide (i < 10)) = some () := by
      have : i < 10 := by omega
      simp [gd, this]
    rw [f4_countThere_29_4]
    dsimp only
    rw [er]
    rcases hg i hi with ⟨a, b⟩ | ⟨k, hk, a, b⟩
    · rw [b, if_neg (by simp)] at h1
      unfold f0_isMissing
      simp (disch := omega) only [lit, nlt, nle, neq, nI_add, pk_mul, nm_u, bS, gd_d, oc_none, oc_some, rd_n, wr_n, if_pos, if_neg, ite_true, ite_false, not_true_eq_false, not_false_eq_true, g1, g2, g3, g4, h1, h2, h3, h4, gk, a, m1_lt, m1_le, kq9]
      try exact h1
    · rw [b, if_pos rfl] at h1
      unfold f0_isMissing
      simp (disch := omega) only [lit, nlt, nle, neq, nI_add, pk_mul, nm_u, bS, gd_d, oc_none, oc_some, rd_n, wr_n, if_pos, if_neg, ite_true, ite_false, not_true_eq_false, not_false_eq_true, g1, g2, g3, g4, h1, h2, h3, h4, gk, a]
      try exact h1
theorem thT_c {fu : Nat} {MC : Mem} {g : Nat → Bool} (hg : ∀ r, r < 4 → (MC.1 (r + 6) 0 = -nI 1 ∧ g r = false) ∨ ∃ k, k ≤ 60 ∧ MC.1 (r + 6) 0 = nI k ∧ g r = true) : ∀ (e i f : Nat), i + e = 4 → e < f → f4_countThere_30_4 MC fu f (nI (cnt i g)) (nI i) = some (nI (cnt 4 g)) := by
  intro e
  induction e with
  | zero =>
    intro i f h hf
    rcases f with _ | f
    · omega
    have : i = 4 := by omega
    subst this
    rw [f4_countThere_30_4]
    simp (disch := omega) only [lit, nlt, nle, neq, nI_add, pk_mul, nm_u, bS, gd_d, oc_none, oc_some, rd_n, wr_n, if_pos, if_neg, ite_true, ite_false, not_true_eq_false, not_false_eq_true, g1, g2, g3, g4, h1, h2, h3, h4]
  | succ e ih =>
    intro i f h hf
    rcases f with _ | f
    · omega
    have hi : i < 4 := by omega
    have er : rdR [6, 7, 8, 9] (nI i) = some (i + 6) := rdR_n (by
      rcases (show i = 0 ∨ i = 1 ∨ i = 2 ∨ i = 3 by omega) with rfl | rfl | rfl | rfl <;> rfl) (by decide)
    have h1 := ih (i + 1) f (by omega) (by omega)
    rw [cnt_s] at h1
    have gk : gd (decide (i + 6 < 10)) = some () := by
      have : i + 6 < 10 := by omega
      simp [gd, this]
    rw [f4_countThere_30_4]
    dsimp only
    rw [er]
    rcases hg i hi with ⟨a, b⟩ | ⟨k, hk, a, b⟩
    · rw [b, if_neg (by simp)] at h1
      unfold f0_isMissing
      simp (disch := omega) only [lit, nlt, nle, neq, nI_add, pk_mul, nm_u, bS, gd_d, oc_none, oc_some, rd_n, wr_n, if_pos, if_neg, ite_true, ite_false, not_true_eq_false, not_false_eq_true, g1, g2, g3, g4, h1, h2, h3, h4, gk, a, m1_lt, m1_le, kq9]
      try exact h1
    · rw [b, if_pos rfl] at h1
      unfold f0_isMissing
      simp (disch := omega) only [lit, nlt, nle, neq, nI_add, pk_mul, nm_u, bS, gd_d, oc_none, oc_some, rd_n, wr_n, if_pos, if_neg, ite_true, ite_false, not_true_eq_false, not_false_eq_true, g1, g2, g3, g4, h1, h2, h3, h4, gk, a]
      try exact h1
theorem thK_c {fu : Nat} {MC : Mem} {g : Nat → Bool} (hg : ∀ r, r < 3 → (MC.1 (20 + r) 0 = -nI 1 ∧ g r = false) ∨ ∃ k, k ≤ 40 ∧ MC.1 (20 + r) 0 = nI k ∧ g r = true) : ∀ (e i f : Nat), i + e = 3 → e < f → f4_countKept_4 MC fu f (nI (cnt i g)) (nI i) = some (nI (cnt 3 g)) := by
  intro e
  induction e with
  | zero =>
    intro i f h hf
    rcases f with _ | f
    · omega
    have : i = 3 := by omega
    subst this
    rw [f4_countKept_4]
    simp (disch := omega) only [lit, nlt, nle, neq, nI_add, pk_mul, nm_u, bS, gd_d, oc_none, oc_some, rd_n, wr_n, if_pos, if_neg, ite_true, ite_false, not_true_eq_false, not_false_eq_true, g1, g2, g3, g4, h1, h2, h3, h4]
  | succ e ih =>
    intro i f h hf
    rcases f with _ | f
    · omega
    have hi : i < 3 := by omega
    have er : rdR [20, 21, 22] (nI i) = some (20 + i) := rdR_n (by
      rcases (show i = 0 ∨ i = 1 ∨ i = 2 by omega) with rfl | rfl | rfl <;> rfl) (by decide)
    have h1 := ih (i + 1) f (by omega) (by omega)
    rw [cnt_s] at h1
    have gk : gd (decide (20 ≤ 20 + i ∧ 20 + i < 24)) = some () := by
      have : 20 ≤ 20 + i ∧ 20 + i < 24 := by omega
      simp [gd, this]
    rw [f4_countKept_4]
    dsimp only
    rw [er]
    rcases hg i hi with ⟨a, b⟩ | ⟨k, hk, a, b⟩
    · rw [b, if_neg (by simp)] at h1
      simp (disch := omega) only [lit, nlt, nle, neq, nI_add, pk_mul, nm_u, bS, gd_d, oc_none, oc_some, rd_n, wr_n, if_pos, if_neg, ite_true, ite_false, not_true_eq_false, not_false_eq_true, g1, g2, g3, g4, h1, h2, h3, h4, gk, a, m1_lt]
      try exact h1
    · rw [b, if_pos rfl] at h1
      simp (disch := omega) only [lit, nlt, nle, neq, nI_add, pk_mul, nm_u, bS, gd_d, oc_none, oc_some, rd_n, wr_n, if_pos, if_neg, ite_true, ite_false, not_true_eq_false, not_false_eq_true, g1, g2, g3, g4, h1, h2, h3, h4, gk, a]
      try exact h1
theorem th2_m {fu : Nat} {MM : Mem} {g : Nat → Bool} (hg : ∀ r, r < 6 → (MM.1 2 (1 * r) = -nI 1 ∧ g r = false) ∨ ∃ k, k ≤ 40 ∧ MM.1 2 (1 * r) = nI k ∧ g r = true) : ∀ (e i f : Nat), i + e = 6 → e < f → f5_there_2_5 MM fu f (nI 6) (nI 1) (nI (cnt i g)) (nI i) = some (nI (cnt 6 g)) := by
  intro e
  induction e with
  | zero =>
    intro i f h hf
    rcases f with _ | f
    · omega
    have : i = 6 := by omega
    subst this
    rw [f5_there_2_5]
    simp (disch := omega) only [lit, nlt, nle, neq, nI_add, pk_mul, nm_u, bS, gd_d, oc_none, oc_some, rd_n, wr_n, if_pos, if_neg, ite_true, ite_false, not_true_eq_false, not_false_eq_true, g1, g2, g3, g4, h1, h2, h3, h4]
  | succ e ih =>
    intro i f h hf
    rcases f with _ | f
    · omega
    have h1 := ih (i + 1) f (by omega) (by omega)
    rw [cnt_s] at h1
    rw [f5_there_2_5]
    rcases hg i (by omega) with ⟨a, b⟩ | ⟨k, hk, a, b⟩
    · rw [b, if_neg (by simp)] at h1
      simp (disch := omega) only [lit, nlt, nle, neq, nI_add, pk_mul, nm_u, bS, gd_d, oc_none, oc_some, rd_n, wr_n, if_pos, if_neg, ite_true, ite_false, not_true_eq_false, not_false_eq_true, g1, g2, g3, g4, h1, h2, h3, h4, a, m1_le, Nat.add_zero]
      try exact h1
    · rw [b, if_pos rfl] at h1
      simp (disch := omega) only [lit, nlt, nle, neq, nI_add, pk_mul, nm_u, bS, gd_d, oc_none, oc_some, rd_n, wr_n, if_pos, if_neg, ite_true, ite_false, not_true_eq_false, not_false_eq_true, g1, g2, g3, g4, h1, h2, h3, h4, a]
      try exact h1
theorem th4_m {fu : Nat} {MM : Mem} {g : Nat → Bool} (hg : ∀ r, r < 4 → (MM.1 4 (1 * r) = -nI 1 ∧ g r = false) ∨ ∃ k, k ≤ 60 ∧ MM.1 4 (1 * r) = nI k ∧ g r = true) : ∀ (e i f : Nat), i + e = 4 → e < f → f5_there_4_5 MM fu f (nI 4) (nI 1) (nI (cnt i g)) (nI i) = some (nI (cnt 4 g)) := by
  intro e
  induction e with
  | zero =>
    intro i f h hf
    rcases f with _ | f
    · omega
    have : i = 4 := by omega
    subst this
    rw [f5_there_4_5]
    simp (disch := omega) only [lit, nlt, nle, neq, nI_add, pk_mul, nm_u, bS, gd_d, oc_none, oc_some, rd_n, wr_n, if_pos, if_neg, ite_true, ite_false, not_true_eq_false, not_false_eq_true, g1, g2, g3, g4, h1, h2, h3, h4]
  | succ e ih =>
    intro i f h hf
    rcases f with _ | f
    · omega
    have h1 := ih (i + 1) f (by omega) (by omega)
    rw [cnt_s] at h1
    rw [f5_there_4_5]
    rcases hg i (by omega) with ⟨a, b⟩ | ⟨k, hk, a, b⟩
    · rw [b, if_neg (by simp)] at h1
      simp (disch := omega) only [lit, nlt, nle, neq, nI_add, pk_mul, nm_u, bS, gd_d, oc_none, oc_some, rd_n, wr_n, if_pos, if_neg, ite_true, ite_false, not_true_eq_false, not_false_eq_true, g1, g2, g3, g4, h1, h2, h3, h4, a, m1_le, Nat.add_zero]
      try exact h1
    · rw [b, if_pos rfl] at h1
      simp (disch := omega) only [lit, nlt, nle, neq, nI_add, pk_mul, nm_u, bS, gd_d, oc_none, oc_some, rd_n, wr_n, if_pos, if_neg, ite_true, ite_false, not_true_eq_false, not_false_eq_true, g1, g2, g3, g4, h1, h2, h3, h4, a]
      try exact h1
theorem th12_m {fu : Nat} {MM : Mem} {g : Nat → Bool} (hg : ∀ r, r < 3 → (MM.1 12 (370 * r) = -nI 1 ∧ g r = false) ∨ ∃ k, k ≤ 40 ∧ MM.1 12 (370 * r) = nI k ∧ g r = true) : ∀ (e i f : Nat), i + e = 3 → e < f → f5_there_12_5 MM fu f (nI 3) (nI 370) (nI (cnt i g)) (nI i) = some (nI (cnt 3 g)) := by
  intro e
  induction e with
  | zero =>
    intro i f h hf
    rcases f with _ | f
    · omega
    have : i = 3 := by omega
    subst this
    rw [f5_there_12_5]
    simp (disch := omega) only [lit, nlt, nle, neq, nI_add, pk_mul, nm_u, bS, gd_d, oc_none, oc_some, rd_n, wr_n, if_pos, if_neg, ite_true, ite_false, not_true_eq_false, not_false_eq_true, g1, g2, g3, g4, h1, h2, h3, h4]
  | succ e ih =>
    intro i f h hf
    rcases f with _ | f
    · omega
    have h1 := ih (i + 1) f (by omega) (by omega)
    rw [cnt_s] at h1
    rw [f5_there_12_5]
    rcases hg i (by omega) with ⟨a, b⟩ | ⟨k, hk, a, b⟩
    · rw [b, if_neg (by simp)] at h1
      simp (disch := omega) only [lit, nlt, nle, neq, nI_add, pk_mul, nm_u, bS, gd_d, oc_none, oc_some, rd_n, wr_n, if_pos, if_neg, ite_true, ite_false, not_true_eq_false, not_false_eq_true, g1, g2, g3, g4, h1, h2, h3, h4, a, m1_le, Nat.add_zero]
      try exact h1
    · rw [b, if_pos rfl] at h1
      simp (disch := omega) only [lit, nlt, nle, neq, nI_add, pk_mul, nm_u, bS, gd_d, oc_none, oc_some, rd_n, wr_n, if_pos, if_neg, ite_true, ite_false, not_true_eq_false, not_false_eq_true, g1, g2, g3, g4, h1, h2, h3, h4, a]
      try exact h1
def kq (P : PD) (w : Nat) (k : Nat) : Bool := f5_isOf (nI (kd P k)) (nI w) == some (nI 1)
theorem kind_c {fu w : Nat} {P : PD} {MC MM : Mem} (hP : GP P MC MM) (hw : 1 ≤ w ∧ w < 6) : ∀ (e i f : Nat), i + e = P.1 → e < f → f2_countOfKind_4 MC fu f (nI w) (nI (cnt i (kq P w))) (nI i) = some (nI (cnt P.1 (kq P w))) := by
  intro e
  induction e with
  | zero =>
    intro i f h hf
    rcases f with _ | f
    · omega
    have h8 := hP.1
    have : i = P.1 := by omega
    subst this
    rw [f2_countOfKind_4]
    simp (disch := omega) only [lit, nlt, nle, neq, nI_add, pk_mul, nm_u, bS, gd_d, oc_none, oc_some, rd_n, wr_n, if_pos, if_neg, ite_true, ite_false, not_true_eq_false, not_false_eq_true, g1, g2, g3, g4, h1, h2, h3, h4, hP.2.1]
  | succ e ih =>
    intro i f h hf
    rcases f with _ | f
    · omega
    have h8 := hP.1
    obtain ⟨hok, k1, -⟩ := hP.2.2.2.1 i (by omega)
    have h1 := ih (i + 1) f (by omega) (by omega)
    rw [cnt_s] at h1
    rw [f2_countOfKind_4]
    have ei := isOf_eq hok.1 hw.2 hw.1
    rcases isOf_two hok.1 hw.2 with c | c
    · have b : kq P w i = false := by unfold kq; rw [c]; decide
      rw [b, if_neg (by simp)] at h1
      simp (disch := omega) only [lit, nlt, nle, neq, nI_add, pk_mul, nm_u, bS, gd_d, oc_none, oc_some, rd_n, wr_n, if_pos, if_neg, ite_true, ite_false, not_true_eq_false, not_false_eq_true, g1, g2, g3, g4, h1, h2, h3, h4, hP.2.1, k1, ei, c]
      try exact h1
    · have b : kq P w i = true := by unfold kq; rw [c]; decide
      rw [b, if_pos rfl] at h1
      simp (disch := omega) only [lit, nlt, nle, neq, nI_add, pk_mul, nm_u, bS, gd_d, oc_none, oc_some, rd_n, wr_n, if_pos, if_neg, ite_true, ite_false, not_true_eq_false, not_false_eq_true, g1, g2, g3, g4, h1, h2, h3, h4, hP.2.1, k1, ei, c, kq9]
      try exact h1
theorem kind_m {fu w : Nat} {P : PD} {MC MM : Mem} (hP : GP P MC MM) (hw : 1 ≤ w ∧ w < 6) : ∀ (e i f : Nat), i + e = P.1 → e < f → f5_ofKind_4 MM fu f (nI w) (nI (cnt i (kq P w))) (nI i) = some (nI (cnt P.1 (kq P w))) := by
  intro e
  induction e with
  | zero =>
    intro i f h hf
    rcases f with _ | f
    · omega
    have h8 := hP.1
    have : i = P.1 := by omega
    subst this
    rw [f5_ofKind_4]
    simp (disch := omega) only [lit, nlt, nle, neq, nI_add, pk_mul, nm_u, bS, gd_d, oc_none, oc_some, rd_n, wr_n, if_pos, if_neg, ite_true, ite_false, not_true_eq_false, not_false_eq_true, g1, g2, g3, g4, h1, h2, h3, h4, hP.2.2.1]
  | succ e ih =>
    intro i f h hf
    rcases f with _ | f
    · omega
    have h8 := hP.1
    obtain ⟨hok, -, -, -, -, -, -, -, k1, -⟩ := hP.2.2.2.1 i (by omega)
    have h1 := ih (i + 1) f (by omega) (by omega)
    rw [cnt_s] at h1
    rw [f5_ofKind_4]
    rcases isOf_two hok.1 hw.2 with c | c
    · have b : kq P w i = false := by unfold kq; rw [c]; decide
      rw [b, if_neg (by simp)] at h1
      simp (disch := omega) only [lit, nlt, nle, neq, nI_add, pk_mul, nm_u, bS, gd_d, oc_none, oc_some, rd_n, wr_n, if_pos, if_neg, ite_true, ite_false, not_true_eq_false, not_false_eq_true, g1, g2, g3, g4, h1, h2, h3, h4, hP.2.2.1, k1, c, Nat.add_zero]
      try exact h1
    · have b : kq P w i = true := by unfold kq; rw [c]; decide
      rw [b, if_pos rfl] at h1
      simp (disch := omega) only [lit, nlt, nle, neq, nI_add, pk_mul, nm_u, bS, gd_d, oc_none, oc_some, rd_n, wr_n, if_pos, if_neg, ite_true, ite_false, not_true_eq_false, not_false_eq_true, g1, g2, g3, g4, h1, h2, h3, h4, hP.2.2.1, k1, c, kq9]
      try exact h1
theorem cnt_00 {g : Nat → Bool} : nI (cnt 0 g) = nI 0 := rfl
/-- the counts, on both sides -/
theorem count_cm {fu j : Nat} {MC MM : Mem} (hfu : 10000 ≤ fu) (hR : Rel MC MM) (hj : j < 11) : ∃ v, f4_countOf MC fu (nI j) = some v ∧ f5_count MM fu (nI j) = some v := by
  obtain ⟨P, hA, hR0, hT, hP, ⟨d, st, hd, hc0, hm0, hH, hah, hnw, hp⟩, hK⟩ := id hR
  have h8 := hP.1
  have hg := hH.2.2.2.1 d (Nat.le_refl d)
  rcases (show j = 0 ∨ j = 1 ∨ j = 2 ∨ j = 3 ∨ j = 4 ∨ j = 5 ∨ j = 6 ∨ j = 7 ∨ j = 8 ∨ j = 9 ∨ j = 10 by omega) with rfl | rfl | rfl | rfl | rfl | rfl | rfl | rfl | rfl | rfl | rfl
  · refine ⟨nI P.1, ?_, ?_⟩
    · unfold f4_countOf
      simp (disch := omega) only [lit, nlt, nle, neq, nI_add, pk_mul, nm_u, bS, gd_d, oc_none, oc_some, rd_n, wr_n, if_pos, if_neg, ite_true, ite_false, not_true_eq_false, not_false_eq_true, g1, g2, g3, g4, h1, h2, h3, h4, hP.2.1]
    · unfold f5_count
      simp (disch := omega) only [lit, nlt, nle, neq, nI_add, pk_mul, nm_u, bS, gd_d, oc_none, oc_some, rd_n, wr_n, if_pos, if_neg, ite_true, ite_false, not_true_eq_false, not_false_eq_true, g1, g2, g3, g4, h1, h2, h3, h4, hP.2.2.1]
  · refine ⟨st d 0, ?_, ?_⟩
    · unfold f4_countOf
      simp (disch := omega) only [lit, nlt, nle, neq, nI_add, pk_mul, nm_u, bS, gd_d, oc_none, oc_some, rd_n, wr_n, if_pos, if_neg, ite_true, ite_false, not_true_eq_false, not_false_eq_true, g1, g2, g3, g4, h1, h2, h3, h4, hp.1]
    · unfold f5_count
      simp (disch := omega) only [lit, nlt, nle, neq, nI_add, pk_mul, nm_u, bS, gd_d, oc_none, oc_some, rd_n, wr_n, if_pos, if_neg, ite_true, ite_false, not_true_eq_false, not_false_eq_true, g1, g2, g3, g4, h1, h2, h3, h4, hnw 0 (by omega)]
  · refine ⟨nI d, ?_, ?_⟩
    · unfold f4_countOf
      simp (disch := omega) only [lit, nlt, nle, neq, nI_add, pk_mul, nm_u, bS, gd_d, oc_none, oc_some, rd_n, wr_n, if_pos, if_neg, ite_true, ite_false, not_true_eq_false, not_false_eq_true, g1, g2, g3, g4, h1, h2, h3, h4, hc0]
    · unfold f5_count
      simp (disch := omega) only [lit, nlt, nle, neq, nI_add, pk_mul, nm_u, bS, gd_d, oc_none, oc_some, rd_n, wr_n, if_pos, if_neg, ite_true, ite_false, not_true_eq_false, not_false_eq_true, g1, g2, g3, g4, h1, h2, h3, h4, hm0]
  · have t := those_m (P := P) (w := -nI 1) (MM := MM) hfu h8 hP.2.2.1 hnw (by decide)
    refine ⟨nI (msk P.1 (fun k => st d (k + 1) == -nI 1)), ?_, ?_⟩
    · unfold f4_countOf
      simp (disch := omega) only [lit, nlt, nle, neq, nI_add, pk_mul, nm_u, bS, gd_d, oc_none, oc_some, rd_n, wr_n, if_pos, if_neg, ite_true, ite_false, not_true_eq_false, not_false_eq_true, g1, g2, g3, g4, h1, h2, h3, h4, hp.2.1]
    · unfold f5_count
      simp (disch := omega) only [lit, nlt, nle, neq, nI_add, pk_mul, nm_u, bS, gd_d, oc_none, oc_some, rd_n, wr_n, if_pos, if_neg, ite_true, ite_false, not_true_eq_false, not_false_eq_true, g1, g2, g3, g4, h1, h2, h3, h4, t]
  · have t : f5_those MM fu (-nI 9) = _ := those_l9 (P := P) (MM := MM) hfu h8 hP.2.2.1 hg hnw
    refine ⟨nI (msk P.1 (lyB (st d))), ?_, ?_⟩
    · unfold f4_countOf
      simp (disch := omega) only [lit, nlt, nle, neq, nI_add, pk_mul, nm_u, bS, gd_d, oc_none, oc_some, rd_n, wr_n, if_pos, if_neg, ite_true, ite_false, not_true_eq_false, not_false_eq_true, g1, g2, g3, g4, h1, h2, h3, h4, lying_c hP hp]
    · unfold f5_count
      simp (disch := omega) only [lit, nlt, nle, neq, nI_add, pk_mul, nm_u, bS, gd_d, oc_none, oc_some, rd_n, wr_n, if_pos, if_neg, ite_true, ite_false, not_true_eq_false, not_false_eq_true, g1, g2, g3, g4, h1, h2, h3, h4, t]
  · have t := those_m (P := P) (w := -nI 2) (MM := MM) hfu h8 hP.2.2.1 hnw (by decide)
    refine ⟨nI (msk P.1 (fun k => st d (k + 1) == -nI 2)), ?_, ?_⟩
    · unfold f4_countOf
      simp (disch := omega) only [lit, nlt, nle, neq, nI_add, pk_mul, nm_u, bS, gd_d, oc_none, oc_some, rd_n, wr_n, if_pos, if_neg, ite_true, ite_false, not_true_eq_false, not_false_eq_true, g1, g2, g3, g4, h1, h2, h3, h4, hp.2.2.1]
    · unfold f5_count
      simp (disch := omega) only [lit, nlt, nle, neq, nI_add, pk_mul, nm_u, bS, gd_d, oc_none, oc_some, rd_n, wr_n, if_pos, if_neg, ite_true, ite_false, not_true_eq_false, not_false_eq_true, g1, g2, g3, g4, h1, h2, h3, h4, t]
  · have a1 := thR_c (fu := fu) (MC := MC) (g := fun r => !(MC.1 r 0 == -nI 1)) (fun r hr => by
      rcases (hR0 r hr).2 with h | ⟨k, hk, h, -⟩
      · exact Or.inl ⟨h, by rw [h]; decide⟩
      · exact Or.inr ⟨k, hk, h, by rw [h, beq_false_of_ne (nI_nm1 (by omega))]; rfl⟩) 6 0 fu (by omega) (by omega)
    have a2 := th2_m (fu := fu) (MM := MM) (g := fun r => !(MC.1 r 0 == -nI 1)) (fun r hr => by
      rw [Nat.one_mul, ← (hR0 r hr).1]
      rcases (hR0 r hr).2 with h | ⟨k, hk, h, -⟩
      · exact Or.inl ⟨h, by rw [h]; decide⟩
      · exact Or.inr ⟨k, hk, h, by rw [h, beq_false_of_ne (nI_nm1 (by omega))]; rfl⟩) 6 0 fu (by omega) (by omega)
    rw [cnt_00] at a1 a2
    refine ⟨nI (cnt 6 (fun r => !(MC.1 r 0 == -nI 1))), ?_, ?_⟩
    · unfold f4_countOf f4_countThere_29
      simp (disch := omega) only [lit, nlt, nle, neq, nI_add, pk_mul, nm_u, bS, gd_d, oc_none, oc_some, rd_n, wr_n, if_pos, if_neg, ite_true, ite_false, not_true_eq_false, not_false_eq_true, g1, g2, g3, g4, h1, h2, h3, h4, a1]
    · unfold f5_count f5_there_2
      simp (disch := omega) only [lit, nlt, nle, neq, nI_add, pk_mul, nm_u, bS, gd_d, oc_none, oc_some, rd_n, wr_n, if_pos, if_neg, ite_true, ite_false, not_true_eq_false, not_false_eq_true, g1, g2, g3, g4, h1, h2, h3, h4, a2]
  · have a1 := thT_c (fu := fu) (MC := MC) (g := fun r => !(MC.1 (r + 6) 0 == -nI 1)) (fun r hr => by
      rcases (hT r hr).2 with h | ⟨k, hk, h, -⟩
      · exact Or.inl ⟨h, by rw [h]; decide⟩
      · exact Or.inr ⟨k, hk, h, by rw [h, beq_false_of_ne (nI_nm1 (by omega))]; rfl⟩) 4 0 fu (by omega) (by omega)
    have a2 := th4_m (fu := fu) (MM := MM) (g := fun r => !(MC.1 (r + 6) 0 == -nI 1)) (fun r hr => by
      rw [Nat.one_mul, ← (hT r hr).1]
      rcases (hT r hr).2 with h | ⟨k, hk, h, -⟩
      · exact Or.inl ⟨h, by rw [h]; decide⟩
      · exact Or.inr ⟨k, hk, h, by rw [h, beq_false_of_ne (nI_nm1 (by omega))]; rfl⟩) 4 0 fu (by omega) (by omega)
    rw [cnt_00] at a1 a2
    refine ⟨nI (cnt 4 (fun r => !(MC.1 (r + 6) 0 == -nI 1))), ?_, ?_⟩
    · unfold f4_countOf f4_countThere_30
      simp (disch := omega) only [lit, nlt, nle, neq, nI_add, pk_mul, nm_u, bS, gd_d, oc_none, oc_some, rd_n, wr_n, if_pos, if_neg, ite_true, ite_false, not_true_eq_false, not_false_eq_true, g1, g2, g3, g4, h1, h2, h3, h4, a1]
    · unfold f5_count f5_there_4
      simp (disch := omega) only [lit, nlt, nle, neq, nI_add, pk_mul, nm_u, bS, gd_d, oc_none, oc_some, rd_n, wr_n, if_pos, if_neg, ite_true, ite_false, not_true_eq_false, not_false_eq_true, g1, g2, g3, g4, h1, h2, h3, h4, a2]
  · have a1 := thK_c (fu := fu) (MC := MC) (g := fun r => !(MC.1 (20 + r) 0 == -nI 1)) (fun r hr => by
      obtain ⟨-, b⟩ := hK r hr
      rw [show r + 20 = 20 + r by omega] at b
      rcases b with h | ⟨k, st', hk, h, -⟩
      · exact Or.inl ⟨h, by rw [h]; decide⟩
      · exact Or.inr ⟨k, hk, h, by rw [h, beq_false_of_ne (nI_nm1 (by omega))]; rfl⟩) 3 0 fu (by omega) (by omega)
    have a2 := th12_m (fu := fu) (MM := MM) (g := fun r => !(MC.1 (20 + r) 0 == -nI 1)) (fun r hr => by
      obtain ⟨b0, b⟩ := hK r hr
      rw [show r + 20 = 20 + r by omega] at b b0
      rw [show MM.1 12 (370 * r) = MC.1 (20 + r) 0 from b0.symm]
      rcases b with h | ⟨k, st', hk, h, -⟩
      · exact Or.inl ⟨h, by rw [h]; decide⟩
      · exact Or.inr ⟨k, hk, h, by rw [h, beq_false_of_ne (nI_nm1 (by omega))]; rfl⟩) 3 0 fu (by omega) (by omega)
    rw [cnt_00] at a1 a2
    refine ⟨nI (cnt 3 (fun r => !(MC.1 (20 + r) 0 == -nI 1))), ?_, ?_⟩
    · unfold f4_countOf f4_countKept
      simp (disch := omega) only [lit, nlt, nle, neq, nI_add, pk_mul, nm_u, bS, gd_d, oc_none, oc_some, rd_n, wr_n, if_pos, if_neg, ite_true, ite_false, not_true_eq_false, not_false_eq_true, g1, g2, g3, g4, h1, h2, h3, h4, a1]
    · unfold f5_count f5_there_12
      simp (disch := omega) only [lit, nlt, nle, neq, nI_add, pk_mul, nm_u, bS, gd_d, oc_none, oc_some, rd_n, wr_n, if_pos, if_neg, ite_true, ite_false, not_true_eq_false, not_false_eq_true, g1, g2, g3, g4, h1, h2, h3, h4, a2]
  · have a1 := kind_c (fu := fu) (w := 1) hP (by omega) P.1 0 fu (by omega) (by omega)
    have a2 := kind_m (fu := fu) (w := 1) hP (by omega) P.1 0 fu (by omega) (by omega)
    rw [cnt_00] at a1 a2
    refine ⟨nI (cnt P.1 (kq P 1)), ?_, ?_⟩
    · unfold f4_countOf f2_countOfKind
      simp (disch := omega) only [lit, nlt, nle, neq, nI_add, pk_mul, nm_u, bS, gd_d, oc_none, oc_some, rd_n, wr_n, if_pos, if_neg, ite_true, ite_false, not_true_eq_false, not_false_eq_true, g1, g2, g3, g4, h1, h2, h3, h4, a1]
    · unfold f5_count f5_ofKind
      simp (disch := omega) only [lit, nlt, nle, neq, nI_add, pk_mul, nm_u, bS, gd_d, oc_none, oc_some, rd_n, wr_n, if_pos, if_neg, ite_true, ite_false, not_true_eq_false, not_false_eq_true, g1, g2, g3, g4, h1, h2, h3, h4, a2]
  · have a1 := kind_c (fu := fu) (w := 2) hP (by omega) P.1 0 fu (by omega) (by omega)
    have a2 := kind_m (fu := fu) (w := 2) hP (by omega) P.1 0 fu (by omega) (by omega)
    rw [cnt_00] at a1 a2
    refine ⟨nI (cnt P.1 (kq P 2)), ?_, ?_⟩
    · unfold f4_countOf f2_countOfKind
      simp (disch := omega) only [lit, nlt, nle, neq, nI_add, pk_mul, nm_u, bS, gd_d, oc_none, oc_some, rd_n, wr_n, if_pos, if_neg, ite_true, ite_false, not_true_eq_false, not_false_eq_true, g1, g2, g3, g4, h1, h2, h3, h4, a1]
    · unfold f5_count f5_ofKind
      simp (disch := omega) only [lit, nlt, nle, neq, nI_add, pk_mul, nm_u, bS, gd_d, oc_none, oc_some, rd_n, wr_n, if_pos, if_neg, ite_true, ite_false, not_true_eq_false, not_false_eq_true, g1, g2, g3, g4, h1, h2, h3, h4, a2]
theorem s_count {fu : Nat} (hfu : 10000 ≤ fu) : Sim_count fu Rel := by
  intro MC MM a0 hR
  rcases tri a0 11 (by omega) with h | ⟨j, hj, rfl⟩
  · refine ⟨-1, ?_, ?_, hR⟩
    · unfold f4_count
      rcases id h with o | ⟨o1, o2⟩
      · simp (disch := omega) only [lit, nlt, nle, neq, nI_add, pk_mul, nm_u, bS, gd_d, oc_none, oc_some, rd_n, wr_n, if_pos, if_neg, ite_true, ite_false, not_true_eq_false, not_false_eq_true, g1, g2, g3, g4, h1, h2, h3, h4, o]
      · have q : (a0 < nI 11) = False := eq_false (Int32.not_lt.mpr o2)
        simp (disch := omega) only [lit, nlt, nle, neq, nI_add, pk_mul, nm_u, bS, gd_d, oc_none, oc_some, rd_n, wr_n, if_pos, if_neg, ite_true, ite_false, not_true_eq_false, not_false_eq_true, g1, g2, g3, g4, h1, h2, h3, h4, o1, q]
    · unfold f5_count
      have ne : ∀ j, j < 11 → ¬ a0 = nI j := fun j hj => outs_ne (by omega) h hj
      simp (disch := omega) only [lit, nlt, nle, neq, nI_add, pk_mul, nm_u, bS, gd_d, oc_none, oc_some, rd_n, wr_n, if_pos, if_neg, ite_true, ite_false, not_true_eq_false, not_false_eq_true, g1, g2, g3, g4, h1, h2, h3, h4, ne 0 (by omega), ne 1 (by omega), ne 2 (by omega), ne 3 (by omega), ne 4 (by omega), ne 5 (by omega), ne 6 (by omega), ne 7 (by omega), ne 8 (by omega), ne 9 (by omega), ne 10 (by omega)]
  · obtain ⟨v, a1, a2⟩ := count_cm hfu hR hj
    refine ⟨v, ?_, a2, hR⟩
    unfold f4_count
    simp (disch := omega) only [lit, nlt, nle, neq, nI_add, pk_mul, nm_u, bS, gd_d, oc_none, oc_some, rd_n, wr_n, if_pos, if_neg, ite_true, ite_false, not_true_eq_false, not_false_eq_true, g1, g2, g3, g4, h1, h2, h3, h4, a1]
