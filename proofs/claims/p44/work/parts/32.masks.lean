/-! 32: masks of a state, behind deeds -/
theorem msk_or (n : Nat) (p q : Nat → Bool) : msk n p ||| msk n q = msk n (fun k => p k || q k) := by
  apply Nat.eq_of_testBit_eq
  intro i
  rw [Nat.testBit_or, msk_tb, msk_tb, msk_tb]
  cases decide (i < n) <;> simp
theorem msk_and (n : Nat) (p q : Nat → Bool) : msk n p &&& msk n q = msk n (fun k => p k && q k) := by
  apply Nat.eq_of_testBit_eq
  intro i
  rw [Nat.testBit_and, msk_tb, msk_tb, msk_tb]
  cases decide (i < n) <;> simp
theorem msk_sum {p q : Nat → Bool} : ∀ n, (∀ k, k < n → (p k && q k) = false) → msk n p + msk n q = msk n (fun k => p k || q k) := by
  intro n
  induction n with
  | zero => intro _; rfl
  | succ n ih =>
    intro h
    have i := ih (fun k hk => h k (by omega))
    have j := h n (by omega)
    have l1 := msk_lt n p
    have l2 := msk_lt n q
    have l3 := msk_lt n (fun k => p k || q k)
    rw [msk_s, msk_s, msk_s]
    cases hp : p n <;> cases hq : q n
    · rw [if_neg (by decide), if_neg (by decide), if_neg (by decide)]; exact i
    · rw [if_neg (by decide), if_pos rfl, if_pos (by decide), or_pow l2, or_pow l3, ← i]; omega
    · rw [if_pos rfl, if_neg (by decide), if_pos (by decide), or_pow l1, or_pow l3, ← i]; omega
    · rw [hp, hq] at j; cases j
theorem msk_one {n k : Nat} (hk : k < n) : msk n (fun j => j == k) = 2 ^ k := by
  apply Nat.eq_of_testBit_eq
  intro i
  rw [msk_tb, Nat.testBit_two_pow]
  by_cases c : i = k
  · subst c; simp [hk]
  · have c2 : ¬ k = i := fun e => c e.symm
    simp [c, c2]
theorem cnt_one {n k : Nat} (hk : k < n) : cnt n (fun j => j == k) = 1 := by
  induction n with
  | zero => omega
  | succ n ih =>
    rw [cnt_s]
    by_cases c : n = k
    · subst c
      rw [if_pos (by simp)]
      have : cnt n (fun j => j == n) = 0 := by
        have : cnt n (fun j => j == n) = cnt n (fun _ => false) := cnt_cg (fun j hj => by simp; omega)
        rw [this]
        clear this ih hk
        induction n with
        | zero => rfl
        | succ n ih => rw [cnt_s, ih]; rfl
      omega
    · rw [if_neg (by simp [c])]
      exact ih (by omega)
section MK
variable {P : PD} {s : Nat → Int32} {k : Nat}
theorem gst_3 (hg : gst P.1 s) (hk : k < P.1) : (s (k + 1) = -nI 1 ∧ lyB s k = false) ∨ (s (k + 1) = -nI 2 ∧ lyB s k = false) ∨ (∃ p, p < 10 ∧ s (k + 1) = nI p ∧ lyB s k = true) := by
  rcases hg.2 k hk with e | e | ⟨p, hp, e⟩
  · refine Or.inl ⟨e, ?_⟩
    unfold lyB; rw [e]; rfl
  · refine Or.inr (Or.inl ⟨e, ?_⟩)
    unfold lyB; rw [e]; rfl
  · exact Or.inr (Or.inr ⟨p, hp, e, lyB_nI e hp⟩)
theorem three_or (hg : gst P.1 s) : (hB P s ||| lB P s) ||| wB P s = 2 ^ P.1 - 1 := by
  rw [msk_or, msk_or, all_msk]
  refine msk_cg (fun k hk => ?_)
  rcases gst_3 hg hk with ⟨e, a⟩ | ⟨e, a⟩ | ⟨p, hp, e, a⟩
  · rw [e, a]; rfl
  · rw [e, a]; rfl
  · rw [a]; simp
theorem three_sum (hg : gst P.1 s) : hB P s + lB P s + wB P s = 2 ^ P.1 - 1 := by
  rw [← three_or hg, msk_sum P.1 (fun k hk => ?_), msk_sum P.1 (fun k hk => ?_), msk_or, msk_or]
  · rcases gst_3 hg hk with ⟨e, a⟩ | ⟨e, a⟩ | ⟨p, hp, e, a⟩
    · rw [e, a]; rfl
    · rw [e, a]; rfl
    · rw [e, a, pos_m1 p hp, pos_m2 p hp]; rfl
  · rcases gst_3 hg hk with ⟨e, a⟩ | ⟨e, a⟩ | ⟨p, hp, e, a⟩
    · rw [e, a]; rfl
    · rw [e, a]; rfl
    · rw [e, a, pos_m1 p hp]; rfl
/-- steps leave the masks -/
theorem hB_cg {s t : Nat → Int32} (h : ∀ k, k < P.1 → s (k + 1) = t (k + 1)) : hB P s = hB P t := msk_cg (fun k hk => by rw [h k hk])
theorem lB_cg {s t : Nat → Int32} (h : ∀ k, k < P.1 → s (k + 1) = t (k + 1)) : lB P s = lB P t := msk_cg (fun k hk => by unfold lyB; rw [h k hk])
theorem wB_cg {s t : Nat → Int32} (h : ∀ k, k < P.1 → s (k + 1) = t (k + 1)) : wB P s = wB P t := msk_cg (fun k hk => by rw [h k hk])
theorem up_k (h8 : P.1 ≤ 8) : ∀ j, j < P.1 → ap (nI 0) s (j + 1) = s (j + 1) := fun j hj => by rw [ap_0 (by omega), if_neg (by omega)]
theorem dn_k (h8 : P.1 ≤ 8) : ∀ j, j < P.1 → ap (nI 1) s (j + 1) = s (j + 1) := fun j hj => by rw [ap_1 (by omega), if_neg (by omega)]
/-- a pin that lies here -/
theorem here_ly (hg : gst P.1 s) (c : s (k + 1) = s 0) : ∃ p, p < 10 ∧ s (k + 1) = nI p ∧ lyB s k = true := by
  obtain ⟨p, hp, e⟩ := hg.1
  exact ⟨p, hp, by rw [c, e], lyB_nI (by rw [c, e]) hp⟩
theorem pk_h (h8 : P.1 ≤ 8) (hk : k < P.1) (hg : gst P.1 s) (c : s (k + 1) = s 0) : hB P (ap (nI (8 + k)) s) = hB P s ||| 2 ^ k ∧ pcn (hB P (ap (nI (8 + k)) s)) = pcn (hB P s) + 1 ∧ lB P (ap (nI (8 + k)) s) + 2 ^ k = lB P s ∧ wB P (ap (nI (8 + k)) s) = wB P s := by
  obtain ⟨p, hp, e, a⟩ := here_ly hg c
  have ej : ∀ j, j < P.1 → ap (nI (8 + k)) s (j + 1) = if j = k then -nI 1 else s (j + 1) := fun j hj => by
    rw [ap_8 (by omega) (by omega)]
    by_cases q : j = k
    · rw [if_pos (by omega), if_pos q]
    · rw [if_neg (by omega), if_neg q]
  have h1 : hB P (ap (nI (8 + k)) s) = msk P.1 (fun j => (s (j + 1) == -nI 1) || (j == k)) := msk_cg (fun j hj => by
    rw [ej j hj]
    by_cases q : j = k
    · subst q; rw [if_pos rfl]; simp
    · rw [if_neg q]; simp [q])
  refine ⟨?_, ?_, ?_, ?_⟩
  · rw [h1, ← msk_one hk, msk_or]
  · have q := cnt_add (n := P.1) (f := fun j => s (j + 1) == -nI 1) (g := fun j => j == k) (o := fun j => (s (j + 1) == -nI 1) || (j == k)) (fun j hj => ⟨rfl, by
      by_cases q : j = k
      · subst q; rw [e, pos_m1 p hp]; rfl
      · simp [q]⟩)
    rw [cnt_one hk] at q
    rw [h1, pcn_msk h8, pcn_msk h8]
    exact q
  · rw [← msk_one hk, msk_sum P.1 (fun j hj => ?_)]
    · refine msk_cg (fun j hj => ?_)
      unfold lyB
      rw [ej j hj]
      by_cases q : j = k
      · subst q
        rw [if_pos rfl]
        unfold lyB at a
        rw [a]; simp
      · rw [if_neg q]; simp [q]
    · unfold lyB
      rw [ej j hj]
      by_cases q : j = k
      · subst q; rw [if_pos rfl]; rfl
      · simp [q]
  · refine msk_cg (fun j hj => ?_)
    rw [ej j hj]
    by_cases q : j = k
    · subst q; rw [if_pos rfl, e, pos_m2 p hp]; rfl
    · rw [if_neg q]
theorem dr_h (h8 : P.1 ≤ 8) (hk : k < P.1) (hg : gst P.1 s) (c : s (k + 1) = -nI 1) : hB P (ap (nI (16 + k)) s) + 2 ^ k = hB P s ∧ pcn (hB P (ap (nI (16 + k)) s)) + 1 = pcn (hB P s) ∧ wB P (ap (nI (16 + k)) s) = wB P s ∧ ap (nI (16 + k)) s (k + 1) = s 0 ∧ ap (nI (16 + k)) s 0 = s 0 := by
  obtain ⟨p, hp, e⟩ := hg.1
  have ej : ∀ j, j < P.1 → ap (nI (16 + k)) s (j + 1) = if j = k then s 0 else s (j + 1) := fun j hj => by
    rw [ap_16 (by omega) (by omega)]
    by_cases q : j = k
    · rw [if_pos (by omega), if_pos q]
    · rw [if_neg (by omega), if_neg q]
  have h1 : hB P s = msk P.1 (fun j => (ap (nI (16 + k)) s (j + 1) == -nI 1) || (j == k)) := msk_cg (fun j hj => by
    rw [ej j hj]
    by_cases q : j = k
    · subst q; rw [c]; simp
    · rw [if_neg q]; simp [q])
  have hd : ∀ j, j < P.1 → ((ap (nI (16 + k)) s (j + 1) == -nI 1) && (j == k)) = false := fun j hj => by
    rw [ej j hj]
    by_cases q : j = k
    · subst q; rw [if_pos rfl, e, pos_m1 p hp]; rfl
    · simp [q]
  refine ⟨?_, ?_, ?_, ?_, ?_⟩
  · rw [h1, ← msk_one hk, msk_sum P.1 hd]
  · have q := cnt_add (n := P.1) (f := fun j => ap (nI (16 + k)) s (j + 1) == -nI 1) (g := fun j => j == k) (o := fun j => (ap (nI (16 + k)) s (j + 1) == -nI 1) || (j == k)) (fun j hj => ⟨rfl, hd j hj⟩)
    rw [cnt_one hk] at q
    rw [h1, pcn_msk h8, pcn_msk h8]
    exact q.symm
  · refine msk_cg (fun j hj => ?_)
    rw [ej j hj]
    by_cases q : j = k
    · subst q; rw [if_pos rfl, e, pos_m2 p hp, c]; rfl
    · rw [if_neg q]
  · rw [ej k hk, if_pos rfl]
  · rw [ap_16 (by omega) (by omega), if_neg (by omega)]
theorem sw_h (h8 : P.1 ≤ 8) (hg : gst P.1 s) : hB P (ap (nI 2) s) = hB P s ∧ wB P (ap (nI 2) s) = wB P s ||| msk P.1 (fun j => s (j + 1) == s 0) ∧ lB P (ap (nI 2) s) + msk P.1 (fun j => s (j + 1) == s 0) = lB P s := by
  obtain ⟨p, hp, e⟩ := hg.1
  have ej : ∀ j, ap (nI 2) s (j + 1) = if s (j + 1) = s 0 then -nI 2 else s (j + 1) := fun j => ap2_k (n := 0)
  refine ⟨?_, ?_, ?_⟩
  · refine msk_cg (fun j hj => ?_)
    rw [ej]
    by_cases q : s (j + 1) = s 0
    · rw [if_pos q, q, e, pos_m1 p hp]; rfl
    · rw [if_neg q]
  · rw [msk_or]
    refine msk_cg (fun j hj => ?_)
    rw [ej]
    by_cases q : s (j + 1) = s 0
    · rw [if_pos q, q]; simp
    · rw [if_neg q]; simp [q]
  · rw [msk_sum P.1 (fun j hj => ?_)]
    · refine msk_cg (fun j hj => ?_)
      unfold lyB
      rw [ej]
      by_cases q : s (j + 1) = s 0
      · rw [if_pos q, q, e, pos_m1 p hp, pos_m2 p hp]; simp
      · rw [if_neg q]; simp [q]
    · unfold lyB
      rw [ej]
      by_cases q : s (j + 1) = s 0
      · rw [if_pos q]; simp
      · simp [q]
end MK
theorem un_n {P : PD} {S n : Nat} (h : S < 2 ^ n) (hn : n ≤ 8) : (tw P S).2 = fo (stU P S) n 0 := by
  rw [← un_tw]
  exact fo_ext (f := stU P S) (fun k a hk => by unfold stU; rw [tb_ge h hk]; rfl) 0 8 hn
theorem tw_sub (P : PD) (S : Nat) : (tw P S).1 &&& (tw P S).2 = (tw P S).1 := by
  have key : ∀ n, (fo (stT P S) n (0, 0)).1 &&& (fo (stT P S) n (0, 0)).2 = (fo (stT P S) n (0, 0)).1 := by
    intro n
    induction n with
    | zero => exact Nat.zero_and 0
    | succ n ih =>
      rw [fo_s]
      unfold stT at *
      by_cases c : S.testBit n = true
      · rw [if_pos c]
        rw [and_sub] at ih ⊢
        intro k hk
        have := ih k
        revert hk this
        simp only [Nat.testBit_or, Nat.testBit_and]
        generalize (fo (fun k a => if S.testBit k = true then (a.1 ||| a.2 &&& hm P k, a.2 ||| hm P k) else a) n (0, 0)) = a
        cases a.1.testBit k <;> cases a.2.testBit k <;> cases (hm P n).testBit k <;> simp
      · rw [if_neg c]; exact ih
  exact key 8
theorem prs_le (P : PD) (S : Nat) : ∀ n, n ≤ 8 → prs P S n ≤ 8 * n := by
  intro n
  induction n with
  | zero => intro _; exact Nat.le_refl _
  | succ n ih =>
    intro h
    have := ih (by omega)
    have := cnt_le n (qc P S n)
    rw [prs_s]
    split <;> omega
theorem pc13_hm {P : PD} {k : Nat} (h : okP P k) : pc13 (hm P k) = ln P k := by
  obtain ⟨-, -, b3, b4, b5, -⟩ := h
  have : ∀ a, a < 10 → ∀ b, b < 4 → pc13 ((2 ^ (b + 1) - 1) * 2 ^ a) = b + 1 := by decide +kernel
  have q := this (hr P k) b3 (ln P k - 1) (by omega)
  rw [show ln P k - 1 + 1 = ln P k by omega] at q
  exact q
theorem hm_pos {P : PD} {k : Nat} (h : okP P k) : 0 < hm P k := by
  obtain ⟨-, -, b3, b4, b5, -⟩ := h
  unfold hm
  refine Nat.mul_pos ?_ (Nat.pow_pos (by omega))
  have := Nat.one_lt_two_pow (n := ln P k) (by omega)
  omega
