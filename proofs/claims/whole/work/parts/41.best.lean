/-! 41: the set that is worth most -/
theorem wz_bd {P : PD} {k : Nat} (h : okP P k) : -20 ≤ wz P k ∧ wz P k ≤ 60 := by
  obtain ⟨h0, -, -, lh3, lh4, h5⟩ := h
  unfold wz
  generalize kd P k = K at h0 ⊢
  rcases (show K = 0 ∨ K = 1 ∨ K = 2 ∨ K = 3 ∨ K = 4 ∨ K = 5 by omega) with rfl | rfl | rfl | rfl | rfl | rfl
  · simp only [wv]; omega
  · simp only [wv]; omega
  · simp only [wv]; split <;> omega
  · simp only [wv]
    rcases (show ln P k = 1 ∨ ln P k = 2 ∨ ln P k = 3 ∨ ln P k = 4 by omega) with e | e | e | e <;> rw [e] <;> omega
  · simp only [wv]; split <;> omega
  · simp only [wv]; omega
theorem sm_bd {P : PD} {S n : Nat} (hn : n ≤ 8) (hok : ∀ k, k < n → okP P k) (hS : S < 2 ^ n) : -160 ≤ sm P S ∧ sm P S ≤ 480 := by
  have key : ∀ m, m ≤ n → -20 * (m : Int) ≤ fo (stS P S) m 0 ∧ fo (stS P S) m 0 ≤ 60 * (m : Int) := by
    intro m
    induction m with
    | zero =>
      intro _
      have e0 : fo (stS P S) 0 0 = 0 := rfl
      rw [e0]
      omega
    | succ m ih =>
      intro hm
      obtain ⟨i1, i2⟩ := ih (by omega)
      have hw := wz_bd (hok m (by omega))
      rw [fo_s]
      generalize fo (stS P S) m 0 = a at i1 i2
      unfold stS
      split <;> omega
  rw [sm_n hS hn]
  have := key n (Nat.le_refl n)
  omega
theorem sm_0 {P : PD} : sm P 0 = 0 := by
  rw [sm_n (n := 0) (by decide) (by decide)]
  rfl
def okS (P : PD) (S t : Nat) : Bool := (t &&& S == t) && apt P t
def bst (P : PD) (S n : Nat) : Nat := fo (fun t b => if okS P S t && decide (sm P b < sm P t) then t else b) n 0
def mxn (P : PD) (S n : Nat) : Int := fo (fun t m => if okS P S t then max m (sm P t) else m) n 0
theorem bst_s (P : PD) (S n : Nat) : bst P S (n + 1) = if okS P S n && decide (sm P (bst P S n) < sm P n) then n else bst P S n := rfl
theorem mxn_s (P : PD) (S n : Nat) : mxn P S (n + 1) = if okS P S n then max (mxn P S n) (sm P n) else mxn P S n := rfl
theorem okS_0 {P : PD} {S : Nat} : okS P S 0 = true := by
  unfold okS
  rw [apt_0, Nat.zero_and]
  rfl
theorem bst_inv (P : PD) (S n : Nat) : (bst P S n = 0 ∨ bst P S n < n) ∧ okS P S (bst P S n) = true ∧ sm P (bst P S n) = mxn P S n ∧ (∀ t, t < n → okS P S t = true → sm P t ≤ sm P (bst P S n)) ∧ ∀ t, t < bst P S n → okS P S t = true → sm P t < sm P (bst P S n) := by
  induction n with
  | zero =>
    refine ⟨Or.inl rfl, okS_0, ?_, fun t ht => absurd ht (by omega), fun t ht => ?_⟩
    · show sm P 0 = 0
      exact sm_0
    · have : bst P S 0 = 0 := rfl
      omega
  | succ n ih =>
    obtain ⟨a1, a2, a3, a4, a5⟩ := ih
    rw [bst_s, mxn_s]
    by_cases c : okS P S n = true
    · by_cases d : sm P (bst P S n) < sm P n
      · rw [if_pos (by rw [c]; simp [d]), if_pos c]
        refine ⟨Or.inr (by omega), c, by omega, fun t ht ho => ?_, fun t ht ho => ?_⟩
        · by_cases e : t = n
          · subst e; omega
          · have := a4 t (by omega) ho
            omega
        · have := a4 t ht ho
          omega
      · rw [if_neg (by simp [d]), if_pos c]
        refine ⟨by omega, a2, by omega, fun t ht ho => ?_, a5⟩
        by_cases e : t = n
        · subst e; omega
        · exact a4 t (by omega) ho
    · have c' : okS P S n = false := by simpa using c
      rw [if_neg (by rw [c']; simp), if_neg c]
      refine ⟨by omega, a2, a3, fun t ht ho => ?_, a5⟩
      by_cases e : t = n
      · subst e; exact absurd ho c
      · exact a4 t (by omega) ho
theorem okS_ge {P : PD} {S t : Nat} (h : S < t) : okS P S t = false := by
  unfold okS
  have := Nat.and_le_right (n := t) (m := S)
  have : ¬ t &&& S = t := by omega
  simp [this]
theorem bst_256 {P : PD} {S n : Nat} (hn : n ≤ 8) (hS : S < 2 ^ n) : bst P S 256 = bst P S (2 ^ n) := by
  refine fo_ext (fun t b ht => ?_) 0 256 (pow8 hn)
  show (if okS P S t && decide (sm P b < sm P t) then t else b) = b
  rw [okS_ge (by omega)]
  rfl
theorem mx_mxn {P : PD} {S : Nat} : mx P S = mxn P S 256 := rfl
theorem okS_and {P : PD} {S t : Nat} (h : okS P S t = true) : t &&& S = t ∧ apt P t = true := by
  unfold okS at h
  simp at h
  exact h
theorem okS_le {P : PD} {S t : Nat} (h : okS P S t = true) : t ≤ S := by
  have := (okS_and h).1
  have lh2 := Nat.and_le_right (n := t) (m := S)
  omega
section BO
variable {P : PD} {MC MM : Mem} {fu S : Nat}
theorem smb (hP : GP P MC MM) {T : Nat} (hT : T < 2 ^ P.1) : -160 ≤ sm P T ∧ sm P T ≤ 480 := sm_bd hP.1 (fun k hk => (hP.2.2.2.1 k hk).1) hT
theorem bestOf_m (hfu : 10000 ≤ fu) (hP : GP P MC MM) (hS : S < 2 ^ P.1) : f5_bestOf MM fu (nI S) = some (nI (bst P S 256)) := by
  have h8 := hP.1
  have h256 := pow8 h8
  have key : ∀ (e i f : Nat), i + e = 2 ^ P.1 → e < f → f5_bestOf_4 MM fu f (nI S) (nI (bst P S i)) (nI i) = some (nI (bst P S (2 ^ P.1))) := by
    intro e
    induction e with
    | zero =>
      intro i f h hf
      rcases f with _ | f
      · omega
      have : i = 2 ^ P.1 := by omega
      subst this
      rw [f5_bestOf_4]
      simp (disch := omega) only [lit, nlt, nle, neq, nI_add, pk_mul, nm_u, bS, gd_d, oc_none, oc_some, rd_n, wr_n, if_pos, if_neg, ite_true, ite_false, not_true_eq_false, not_false_eq_true, g1, g2, g3, g4, h1, h2, h3, h4, ior, iand, shl_n, Nat.or_zero, hP.2.2.1]
    | succ e ih =>
      intro i f h hf
      rcases f with _ | f
      · omega
      have hi : i < 2 ^ P.1 := by omega
      have lh2 := ih (i + 1) f (by omega) (by omega)
      rw [bst_s] at lh2
      have hb : bst P S i < 2 ^ P.1 := by
        have := okS_le (bst_inv P S i).2.1
        omega
      have b1 := smb hP hi
      have b2 := smb hP hb
      rw [f5_bestOf_4]
      by_cases c : i &&& S = i
      · by_cases d : sm P i ≤ sm P (bst P S i)
        · rw [if_neg (by simp; omega)] at lh2
          simp (disch := omega) only [lit, nlt, nle, neq, nI_add, pk_mul, nm_u, bS, gd_d, oc_none, oc_some, rd_n, wr_n, if_pos, if_neg, ite_true, ite_false, not_true_eq_false, not_false_eq_true, g1, g2, g3, g4, h1, h2, h3, h4, ior, iand, shl_n, Nat.or_zero, hP.2.2.1, andnot, sub_t c, worthAll_m hP hfu hi, worthAll_m hP hfu hb, zle]
          exact lh2
        · cases b : apt P i
          · rw [if_neg (by unfold okS; rw [b]; simp)] at lh2
            simp (disch := omega) only [lit, nlt, nle, neq, nI_add, pk_mul, nm_u, bS, gd_d, oc_none, oc_some, rd_n, wr_n, if_pos, if_neg, ite_true, ite_false, not_true_eq_false, not_false_eq_true, g1, g2, g3, g4, h1, h2, h3, h4, ior, iand, shl_n, Nat.or_zero, hP.2.2.1, andnot, sub_t c, worthAll_m hP hfu hi, worthAll_m hP hfu hb, zle, clash_m hP hfu hi, b, Bool.false_eq_true, kq9]
            exact lh2
          · rw [if_pos (by unfold okS; rw [b, c]; simp; omega)] at lh2
            simp (disch := omega) only [lit, nlt, nle, neq, nI_add, pk_mul, nm_u, bS, gd_d, oc_none, oc_some, rd_n, wr_n, if_pos, if_neg, ite_true, ite_false, not_true_eq_false, not_false_eq_true, g1, g2, g3, g4, h1, h2, h3, h4, ior, iand, shl_n, Nat.or_zero, hP.2.2.1, andnot, sub_t c, worthAll_m hP hfu hi, worthAll_m hP hfu hb, zle, clash_m hP hfu hi, b]
            exact lh2
      · rw [if_neg (by unfold okS; simp [c])] at lh2
        simp (disch := omega) only [lit, nlt, nle, neq, nI_add, pk_mul, nm_u, bS, gd_d, oc_none, oc_some, rd_n, wr_n, if_pos, if_neg, ite_true, ite_false, not_true_eq_false, not_false_eq_true, g1, g2, g3, g4, h1, h2, h3, h4, ior, iand, shl_n, Nat.or_zero, hP.2.2.1, andnot, sub_f (show i < 256 by omega) c]
        exact lh2
  unfold f5_bestOf
  rw [bst_256 h8 hS]
  exact key (2 ^ P.1) 0 fu (by omega) (by omega)
theorem leastOf_c (hfu : 10000 ≤ fu) (hP : GP P MC MM) (hS : S < 2 ^ P.1) : f2_leastOfMost MC fu (nI S) = some (nI (bst P S 256)) := by
  have h8 := hP.1
  have h256 := pow8 h8
  obtain ⟨-, a2, a3, -, a5⟩ := bst_inv P S 256
  have hBS := okS_le a2
  have hBs := okS_and a2
  rw [← mx_mxn] at a3
  generalize bst P S 256 = B at a2 a3 a5 hBS hBs
  have hB : B < 2 ^ P.1 := by omega
  have bB := smb hP hB
  have key : ∀ (e i f : Nat), i + e = B → e < f → f2_leastOfMost_2 MC fu f (nI S) (nI i) = some (nI B) := by
    intro e
    induction e with
    | zero =>
      intro i f h hf
      rcases f with _ | f
      · omega
      have : i = B := by omega
      subst this
      rw [f2_leastOfMost_2]
      simp (disch := omega) only [lit, nlt, nle, neq, nI_add, pk_mul, nm_u, bS, gd_d, oc_none, oc_some, rd_n, wr_n, if_pos, if_neg, ite_true, ite_false, not_true_eq_false, not_false_eq_true, g1, g2, g3, g4, h1, h2, h3, h4, ior, iand, shl_n, Nat.or_zero, andnot, sub_t hBs.1, apart_c hP hB, hBs.2, kq9, sum_c hP hB, most_c hP hS, a3]
    | succ e ih =>
      intro i f h hf
      rcases f with _ | f
      · omega
      have hi : i < 2 ^ P.1 := by omega
      have b1 := smb hP hi
      have lh2 := ih (i + 1) f (by omega) (by omega)
      rw [f2_leastOfMost_2]
      by_cases c : i &&& S = i
      · cases b : apt P i
        · simp (disch := omega) only [lit, nlt, nle, neq, nI_add, pk_mul, nm_u, bS, gd_d, oc_none, oc_some, rd_n, wr_n, if_pos, if_neg, ite_true, ite_false, not_true_eq_false, not_false_eq_true, g1, g2, g3, g4, h1, h2, h3, h4, ior, iand, shl_n, Nat.or_zero, andnot, sub_t c, apart_c hP hi, b, Bool.false_eq_true]
          exact lh2
        · have hlt := a5 i (by omega) (by unfold okS; rw [b, c]; simp)
          simp (disch := omega) only [lit, nlt, nle, neq, nI_add, pk_mul, nm_u, bS, gd_d, oc_none, oc_some, rd_n, wr_n, if_pos, if_neg, ite_true, ite_false, not_true_eq_false, not_false_eq_true, g1, g2, g3, g4, h1, h2, h3, h4, ior, iand, shl_n, Nat.or_zero, andnot, sub_t c, apart_c hP hi, b, kq9, sum_c hP hi, most_c hP hS, ← a3, zeq]
          exact lh2
      · simp (disch := omega) only [lit, nlt, nle, neq, nI_add, pk_mul, nm_u, bS, gd_d, oc_none, oc_some, rd_n, wr_n, if_pos, if_neg, ite_true, ite_false, not_true_eq_false, not_false_eq_true, g1, g2, g3, g4, h1, h2, h3, h4, ior, iand, shl_n, Nat.or_zero, andnot, sub_f (show i < 256 by omega) c]
        exact lh2
  unfold f2_leastOfMost
  exact key B 0 fu (by omega) (by omega)
end BO
