/-! 37: what clashes, what is apart -/
section SE37
variable {P : PD} {S V n : Nat}
theorem ft2 (P : PD) (S : Nat) : ∀ n, (fo (stT P S) n (0, 0)).2 = fo (stU P S) n 0
  | 0 => rfl
  | n + 1 => by
    rw [fo_s, fo_s, ← ft2 P S n]
    unfold stT stU
    cases S.testBit n <;> rfl
theorem ft1 (P : PD) (S : Nat) : ∀ n, (fo (stT P S) n (0, 0)).1 = 0 ↔ ∀ k, k < n → S.testBit k = true → ∀ j, j < k → S.testBit j = true → hm P j &&& hm P k = 0 := by
  intro n
  induction n with
  | zero => exact ⟨fun _ k hk => absurd hk (by omega), fun _ => rfl⟩
  | succ n ih =>
    rw [fo_s]
    cases b : S.testBit n
    · have e : stT P S n (fo (stT P S) n (0, 0)) = fo (stT P S) n (0, 0) := by unfold stT; rw [b]; rfl
      rw [e, ih]
      refine ⟨fun h k hk hb => ?_, fun h k hk => h k (by omega)⟩
      by_cases q : k = n
      · rw [q, b] at hb; cases hb
      · exact h k (by omega) hb
    · have e : stT P S n (fo (stT P S) n (0, 0)) = ((fo (stT P S) n (0, 0)).1 ||| ((fo (stT P S) n (0, 0)).2 &&& hm P n), (fo (stT P S) n (0, 0)).2 ||| hm P n) := by unfold stT; rw [if_pos b]
      rw [e]
      show ((fo (stT P S) n (0, 0)).1 ||| ((fo (stT P S) n (0, 0)).2 &&& hm P n)) = 0 ↔ _
      rw [Nat.or_eq_zero_iff, ih, ft2, un_and]
      constructor
      · rintro ⟨h1, h2⟩ k hk hb j hj hbj
        by_cases q : k = n
        · subst q; exact h2 j hj hbj
        · exact h1 k (by omega) hb j hj hbj
      · intro h
        exact ⟨fun k hk => h k (by omega), fun j hj hbj => h n (by omega) b j hj hbj⟩
theorem apt_iff (hn : n ≤ 8) (hS : S < 2 ^ n) : apt P S = true ↔ ∀ k, k < n → S.testBit k = true → ∀ j, j < k → S.testBit j = true → hm P j &&& hm P k = 0 := by
  unfold apt
  rw [tw_n hS hn, beq_iff_eq]
  exact ft1 P S n
theorem apt_pair {j k : Nat} (hn : n ≤ 8) (hS : S < 2 ^ n) (h : apt P S = true) (hj : S.testBit j = true) (hk : S.testBit k = true) (c : j ≠ k) : hm P j &&& hm P k = 0 := by
  have ln : ∀ i, S.testBit i = true → i < n := fun i hi => by
    apply Decidable.byContradiction
    intro q
    rw [tb_ge hS (by omega)] at hi
    cases hi
  have a := (apt_iff hn hS).mp h
  rcases Nat.lt_or_gt_of_ne c with q | q
  · exact a k (ln k hk) hk j q hj
  · rw [Nat.and_comm]; exact a j (ln j hj) hj k q hk
theorem sub_tb {T U : Nat} (h : T &&& U = T) {k : Nat} (hk : T.testBit k = true) : U.testBit k = true := by
  rw [← h, Nat.testBit_and] at hk
  simp at hk
  exact hk.2
theorem tb_sub {T U : Nat} (h : ∀ k, T.testBit k = true → U.testBit k = true) : T &&& U = T := by
  apply Nat.eq_of_testBit_eq
  intro k
  rw [Nat.testBit_and]
  cases b : T.testBit k
  · rfl
  · rw [h k b]; rfl
theorem sub_lt {T U : Nat} (hU : U < 2 ^ n) (h : T &&& U = T) : T < 2 ^ n := by
  rw [← h]; exact Nat.lt_of_le_of_lt Nat.and_le_right hU
theorem apt_sub {T : Nat} (hn : n ≤ 8) (hS : S < 2 ^ n) (h : apt P S = true) (hT : T &&& S = T) : apt P T = true := by
  rw [apt_iff hn (sub_lt hS hT)]
  intro k _ hb j hj hbj
  exact apt_pair hn hS h (sub_tb hT hbj) (sub_tb hT hb) (by omega)
theorem cnt_all0 {g : Nat → Bool} : ∀ n, (∀ k, k < n → g k = false) → cnt n g = 0 := by
  intro n
  induction n with
  | zero => intro _; rfl
  | succ n ih =>
    intro h
    rw [cnt_s, h n (by omega)]
    exact ih (fun k hk => h k (by omega))
theorem prs_0 (P : PD) (S : Nat) : ∀ n, prs P S n = 0 ↔ ∀ k, k < n → S.testBit k = true → ∀ j, j < k → S.testBit j = true → hm P j &&& hm P k = 0 := by
  intro n
  induction n with
  | zero => exact ⟨fun _ k hk => absurd hk (by omega), fun _ => rfl⟩
  | succ n ih =>
    rw [prs_s]
    cases b : S.testBit n
    · rw [if_neg (by decide), ih]
      refine ⟨fun h k hk hb => ?_, fun h k hk => h k (by omega)⟩
      by_cases q : k = n
      · rw [q, b] at hb; cases hb
      · exact h k (by omega) hb
    · rw [if_pos rfl, Nat.add_eq_zero_iff, ih]
      constructor
      · rintro ⟨h1, h2⟩ k hk hb j hj hbj
        by_cases q : k = n
        · subst q
          have := cnt_zero h2 j hj
          unfold qc at this
          rw [hbj] at this
          simpa using this
        · exact h1 k (by omega) hb j hj hbj
      · intro h
        refine ⟨fun k hk => h k (by omega), cnt_all0 n (fun j hj => ?_)⟩
        unfold qc
        cases c : S.testBit j
        · rfl
        · rw [h n (by omega) b j hj c]; rfl
theorem apt_prs (hn : n ≤ 8) (hS : S < 2 ^ n) : apt P S = true ↔ prs P S n = 0 := by
  rw [apt_iff hn hS, prs_0]
theorem xa_tb {S V k : Nat} : (S ^^^ (S &&& V)).testBit k = (S.testBit k && !V.testBit k) := by
  rw [Nat.testBit_xor, Nat.testBit_and]
  cases S.testBit k <;> cases V.testBit k <;> rfl
theorem cl_le (P : PD) (S : Nat) : ∀ n, cnt n (fun k => S.testBit k && !(cnt k (qc P S k) == 0)) ≤ prs P S n := by
  intro n
  induction n with
  | zero => exact Nat.le_refl _
  | succ n ih =>
    rw [cnt_s, prs_s]
    cases b : S.testBit n
    · simpa [b] using ih
    · by_cases c : cnt n (qc P S n) = 0
      · simp [c]; omega
      · simp [c]; omega
theorem ls_le (hn : n ≤ 8) (hS : S < 2 ^ n) (h : lsV P S V) : pcn V ≤ prs P S n := by
  obtain ⟨-, -, h3⟩ := h
  have hW := h3 (msk n (fun k => S.testBit k && !(cnt k (qc P S k) == 0))) (tb_sub (fun k hk => by
    rw [msk_tb] at hk
    simp at hk
    exact hk.2.1)) (by
    rw [apt_iff hn (xa_lt hS)]
    intro k hk hb j hj hbj
    rw [xa_tb, msk_tbk hk] at hb
    rw [xa_tb] at hbj
    simp at hb hbj
    have h0 : cnt k (qc P S k) = 0 := hb.2.resolve_left (fun q => by rw [hb.1] at q; cases q)
    have := cnt_zero h0 j hj
    unfold qc at this
    rw [hbj.1] at this
    simpa using this)
  rw [pcn_msk hn] at hW
  exact Nat.le_trans hW (cl_le P S n)
theorem pcn_0 (hn : n ≤ 8) (hV : V < 2 ^ n) (h : pcn V = 0) : V = 0 := by
  rw [← cnt_pcn hn hV] at h
  apply Nat.eq_of_testBit_eq
  intro k
  rw [Nat.zero_testBit]
  by_cases c : k < n
  · exact cnt_zero h k c
  · exact tb_ge hV (by omega)
theorem ls_0 (hn : n ≤ 8) (hS : S < 2 ^ n) (h : lsV P S V) : pcn V = 0 ↔ prs P S n = 0 := by
  have l := ls_le hn hS h
  constructor
  · intro q
    have : V = 0 := pcn_0 hn (sub_lt hS h.1) q
    subst this
    have a := h.2.1
    rw [Nat.and_zero, Nat.xor_zero, apt_prs hn hS] at a
    exact a
  · intro q; omega
theorem ls_apt (hS : S < 2 ^ n) (hn : n ≤ 8) (ha : apt P S = true) (h : lsV P S V) : pcn V = 0 := by
  rw [ls_0 hn hS h]
  exact (apt_prs hn hS).mp ha
end SE37
