/-! 39: the best day: its sums, its order -/
section LI39
variable {P : PD} {S B n : Nat}
def zs (P : PD) (n : Nat) (g : Nat → Bool) : Int := fo (fun k a => if g k then a + wz P k else a) n 0
theorem zs_s (n : Nat) (g : Nat → Bool) : zs P (n + 1) g = if g n then zs P n g + wz P n else zs P n g := rfl
theorem sm_zs (hn : n ≤ 8) (hS : S < 2 ^ n) : sm P S = zs P n (fun k => S.testBit k) := sm_n hS hn
theorem zs_cg {f g : Nat → Bool} : ∀ n, (∀ k, k < n → f k = g k) → zs P n f = zs P n g := by
  intro n
  induction n with
  | zero => intro _; rfl
  | succ n ih =>
    intro h
    rw [zs_s, zs_s, ih (fun k hk => h k (by omega)), h n (by omega)]
theorem zs_add {f g o : Nat → Bool} : ∀ n, (∀ k, k < n → (o k = (f k || g k)) ∧ (f k && g k) = false) → zs P n o = zs P n f + zs P n g := by
  intro n
  induction n with
  | zero => intro _; rfl
  | succ n ih =>
    intro h
    have i := ih (fun k hk => h k (by omega))
    obtain ⟨a1, a2⟩ := h n (by omega)
    rw [zs_s, zs_s, zs_s, a1]
    cases hf : f n <;> cases hg : g n
    · simp; omega
    · simp; omega
    · simp; omega
    · rw [hf, hg] at a2; cases a2
theorem zs_0 {g : Nat → Bool} : ∀ n, (∀ k, k < n → g k = false) → zs P n g = 0 := by
  intro n
  induction n with
  | zero => intro _; rfl
  | succ n ih =>
    intro h
    rw [zs_s, h n (by omega)]
    exact ih (fun k hk => h k (by omega))
theorem zs_one {k : Nat} : ∀ n, k < n → zs P n (fun j => j == k) = wz P k := by
  intro n
  induction n with
  | zero => intro h; omega
  | succ n ih =>
    intro h
    rw [zs_s]
    by_cases c : k = n
    · subst c
      rw [if_pos (by simp), zs_0 k (fun j hj => by simp; omega)]
      omega
    · rw [if_neg (by simp; omega)]
      exact ih (by omega)
theorem p2_lt {k : Nat} (hk : k < n) : 2 ^ k < 2 ^ n := Nat.pow_lt_pow_right (by decide) hk
theorem p2_tb {k j : Nat} : (2 ^ k).testBit j = decide (k = j) := Nat.testBit_two_pow
theorem sm_one {k : Nat} (hn : n ≤ 8) (hk : k < n) : sm P (2 ^ k) = wz P k := by
  rw [sm_zs hn (p2_lt hk), ← zs_one n hk]
  refine zs_cg n (fun j _ => ?_)
  rw [p2_tb]
  by_cases c : k = j
  · simp [c]
  · simp [c]; omega
theorem apt_one {k : Nat} (hn : n ≤ 8) (hk : k < n) : apt P (2 ^ k) = true := by
  rw [apt_iff hn (p2_lt hk)]
  intro a _ ha b hb hb2
  rw [p2_tb] at ha hb2
  simp at ha hb2
  omega
theorem sm_rest {k : Nat} (hn : n ≤ 8) (hS : S < 2 ^ n) (hk : S.testBit k = true) : sm P S = sm P (S ^^^ (S &&& 2 ^ k)) + wz P k := by
  have hkn : k < n := by
    apply Decidable.byContradiction
    intro q
    rw [tb_ge hS (by omega)] at hk
    cases hk
  rw [sm_zs hn hS, sm_zs hn (xa_lt hS), ← zs_one (P := P) n hkn]
  refine zs_add n (fun j _ => ?_)
  rw [xa_tb, p2_tb]
  by_cases c : k = j
  · subst c; simp [hk]
  · have c2 : ¬ j = k := fun q => c q.symm
    simp [c, c2]
theorem sm_more {k : Nat} (hn : n ≤ 8) (hS : S < 2 ^ n) (hkn : k < n) (hk : S.testBit k = false) : sm P (S ||| 2 ^ k) = sm P S + wz P k := by
  rw [sm_zs hn hS, sm_zs hn (Nat.or_lt_two_pow hS (p2_lt hkn)), ← zs_one (P := P) n hkn]
  refine zs_add n (fun j _ => ?_)
  rw [or_tb]
  by_cases c : k = j
  · subst c; simp [hk]
  · have c2 : ¬ j = k := fun q => c q.symm
    simp [c, c2]
/-- what a best day is -/
def bD (P : PD) (T B : Nat) : Prop := B &&& T = B ∧ apt P B = true ∧ sm P B = mx P T ∧ ∀ t, t < B → okS P T t = true → sm P t < sm P B
theorem bst_bD {T : Nat} : bD P T (bst P T 256) := by
  obtain ⟨-, a2, a3, -, a5⟩ := bst_inv P T 256
  obtain ⟨b1, b2⟩ := okS_and a2
  exact ⟨b1, b2, a3, a5⟩
theorem bD_1 {T k : Nat} (hn : n ≤ 8) (hT : T < 2 ^ n) (hk : T.testBit k = true) (hkn : k < n) : wz P k ≤ mx P T := by
  have h256 := pow8 hn
  rw [← sm_one (P := P) hn hkn]
  refine mx_ub (by omega) (okS_of (tb_sub (fun j hj => ?_)) (apt_one hn hkn))
  rw [p2_tb] at hj
  simp at hj
  rw [← hj]; exact hk
theorem bD_2 {T k : Nat} (hn : n ≤ 8) (hT : T < 2 ^ n) (h : bD P T B) (hk : T.testBit k = true) (hkn : k < n) (hB : B.testBit k = false) (hc : ∀ j, B.testBit j = true → hm P j &&& hm P k = 0) : wz P k ≤ 0 := by
  have h256 := pow8 hn
  obtain ⟨b1, b2, b3, -⟩ := h
  have hBl := sub_lt hT b1
  have m := mx_ub (P := P) (S := T) (t := B ||| 2 ^ k) (by omega) (okS_of (tb_sub (fun j hj => by
    rw [or_tb] at hj
    simp at hj
    rcases hj with hj | hj
    · exact sub_tb b1 hj
    · rw [← hj]; exact hk)) (by
    rw [apt_iff hn (Nat.or_lt_two_pow hBl (p2_lt hkn))]
    intro a _ ha b hb hb2
    rw [or_tb] at ha hb2
    simp at ha hb2
    by_cases c1 : k = a
    · have : B.testBit b = true := hb2.resolve_right (by omega)
      rw [← c1]; exact hc b this
    · have ha' : B.testBit a = true := ha.resolve_right c1
      by_cases c2 : k = b
      · rw [← c2, Nat.and_comm]; exact hc a ha'
      · exact apt_pair hn hBl b2 (hb2.resolve_right c2) ha' (by omega)))
  rw [sm_more hn hBl hkn hB] at m
  omega
theorem bD_3 {T k : Nat} (hn : n ≤ 8) (hT : T < 2 ^ n) (h : bD P T B) (hB : B.testBit k = true) : 1 ≤ wz P k := by
  obtain ⟨b1, b2, b3, b4⟩ := h
  have hBl := sub_lt hT b1
  have sb : (B ^^^ (B &&& 2 ^ k)) &&& B = B ^^^ (B &&& 2 ^ k) := tb_sub (fun j hj => by
    rw [xa_tb] at hj
    simp at hj
    exact hj.1)
  have ne : B ^^^ (B &&& 2 ^ k) ≠ B := fun q => by
    have : (B ^^^ (B &&& 2 ^ k)).testBit k = false := by rw [xa_tb, p2_tb]; simp
    rw [q, hB] at this
    cases this
  have le : B ^^^ (B &&& 2 ^ k) ≤ B := by
    have := Nat.and_le_right (n := B ^^^ (B &&& 2 ^ k)) (m := B)
    omega
  have := b4 (B ^^^ (B &&& 2 ^ k)) (by omega) (okS_of (tb_sub (fun j hj => sub_tb b1 (sub_tb sb hj))) (apt_sub hn hBl b2 sb))
  rw [sm_rest hn hBl hB] at this
  omega
theorem lvK_mem {h m k : Nat} : k ∈ lvK P B h m ↔ k < m ∧ B.testBit k = true ∧ hr P k = h := by
  unfold lvK bh
  rw [List.mem_filter, List.mem_range]
  simp
theorem oL_mem (P : PD) (B : Nat) : ∀ h k, k ∈ oL P B h ↔ k < P.1 ∧ B.testBit k = true ∧ hr P k < h := by
  intro h
  induction h with
  | zero => intro k; simp [oL]
  | succ h ih =>
    intro k
    rw [oL, List.mem_append, ih, lvK_mem]
    constructor
    · rintro (⟨a, b, c⟩ | ⟨a, b, c⟩)
      · exact ⟨a, b, by omega⟩
      · exact ⟨a, b, by omega⟩
    · rintro ⟨a, b, c⟩
      by_cases q : hr P k = h
      · exact Or.inr ⟨a, b, q⟩
      · exact Or.inl ⟨a, b, by omega⟩
theorem oL_pw (P : PD) (B : Nat) : ∀ h, (oL P B h).Pairwise (fun a b => hr P a ≤ hr P b ∧ a ≠ b) := by
  intro h
  induction h with
  | zero => rw [oL]; exact List.Pairwise.nil
  | succ h ih =>
    rw [oL, List.pairwise_append]
    refine ⟨ih, ?_, fun a ha b hb => ?_⟩
    · have : (lvK P B h P.1).Pairwise (fun a b => a < b) := List.Pairwise.filter _ List.pairwise_lt_range
      refine List.Pairwise.imp_of_mem (fun ha hb q => ?_) this
      have := lvK_mem.mp ha
      have := lvK_mem.mp hb
      exact ⟨by omega, by omega⟩
    · have h1 := (oL_mem P B h a).mp ha
      have h2 := lvK_mem.mp hb
      refine ⟨by omega, fun q => ?_⟩
      subst q
      omega
theorem hm_tb {k z : Nat} : (hm P k).testBit z = (decide (hr P k ≤ z) && decide (z - hr P k < ln P k)) := by
  unfold hm
  rw [Nat.testBit_mul_two_pow, Nat.testBit_two_pow_sub_one]
theorem hm_top {k : Nat} : hm P k < 2 ^ (hr P k + ln P k) := by
  unfold hm
  rw [Nat.add_comm, Nat.pow_add]
  have := Nat.two_pow_pos (hr P k)
  have := Nat.two_pow_pos (ln P k)
  exact Nat.mul_lt_mul_of_pos_right (by omega) (by omega)
theorem hm_bot {k : Nat} (h : okP P k) : 2 ^ hr P k ≤ hm P k := by
  unfold hm
  have h1 : 1 ≤ 2 ^ ln P k - 1 := by
    have : 2 ^ 1 ≤ 2 ^ ln P k := pow_le h.2.2.2.1
    omega
  calc 2 ^ hr P k = 1 * 2 ^ hr P k := (Nat.one_mul _).symm
    _ ≤ _ := Nat.mul_le_mul_right _ h1
theorem hm_dis {a b : Nat} (ha : okP P a) (hb : okP P b) (h : hm P a &&& hm P b = 0) (c : hr P a ≤ hr P b) : hr P a + ln P a ≤ hr P b := by
  apply Decidable.byContradiction
  intro q
  have e : (hm P a &&& hm P b).testBit (hr P b) = true := by
    rw [Nat.testBit_and, hm_tb, hm_tb]
    have := hb.2.2.2.1
    simp
    omega
  rw [h, Nat.zero_testBit] at e
  cases e
/-- the union, the sum of a list -/
def uN (P : PD) (l : List Nat) : Nat := l.foldl (fun a k => a ||| hm P k) 0
def zN (P : PD) (l : List Nat) : Int := l.foldl (fun a k => a + wz P k) 0
theorem uN_app (l : List Nat) (q : Nat) : uN P (l ++ [q]) = uN P l ||| hm P q := by
  unfold uN
  rw [List.foldl_append]
  rfl
theorem zN_app (l : List Nat) (q : Nat) : zN P (l ++ [q]) = zN P l + wz P q := by
  unfold zN
  rw [List.foldl_append]
  rfl
theorem uN_l : ∀ (l : List Nat) (a m : Nat), a < 2 ^ m → (∀ k, k ∈ l → hm P k < 2 ^ m) → l.foldl (fun a k => a ||| hm P k) a < 2 ^ m := by
  intro l
  induction l with
  | nil => intro a m h _; exact h
  | cons q l ih =>
    intro a m h hl
    exact ih _ m (Nat.or_lt_two_pow h (hl q (by simp))) (fun k hk => hl k (by simp [hk]))
theorem uN_lt {l : List Nat} {m : Nat} (h : ∀ k, k ∈ l → hm P k < 2 ^ m) : uN P l < 2 ^ m := uN_l l 0 m (Nat.two_pow_pos m) h
theorem uN_t : ∀ (l : List Nat) (a z : Nat), (a.testBit z = true ∨ ∃ k, k ∈ l ∧ (hm P k).testBit z = true) → (l.foldl (fun a k => a ||| hm P k) a).testBit z = true := by
  intro l
  induction l with
  | nil =>
    intro a z h
    rcases h with h | ⟨k, hk, -⟩
    · exact h
    · simp at hk
  | cons q l ih =>
    intro a z h
    refine ih _ z ?_
    rw [Nat.testBit_or]
    rcases h with h | ⟨k, hk, hz⟩
    · left; rw [h]; rfl
    · rcases List.mem_cons.mp hk with e | e
      · left; rw [← e, hz]; simp
      · right; exact ⟨k, e, hz⟩
theorem uN_in {l : List Nat} {k : Nat} (hk : k ∈ l) : hm P k &&& uN P l = hm P k := tb_sub (fun z hz => uN_t l 0 z (Or.inr ⟨k, hk, hz⟩))
theorem lvK_z (h : Nat) (a : Int) : ∀ m, (lvK P B h m).foldl (fun a k => a + wz P k) a = a + zs P m (bh P B h) := by
  intro m
  induction m with
  | zero => show a = a + 0; omega
  | succ m ih =>
    rw [lvK_s, zs_s]
    cases bh P B h m
    · simpa using ih
    · rw [if_pos rfl, if_pos rfl, List.foldl_append, ih]
      show a + zs P m (bh P B h) + wz P m = _
      omega
theorem oL_z (P : PD) (B : Nat) : ∀ h, zN P (oL P B h) = zs P P.1 (bl P B h) := by
  intro h
  induction h with
  | zero =>
    rw [zs_0 P.1 (fun k _ => by unfold bl; simp)]
    rfl
  | succ h ih =>
    rw [oL]
    unfold zN at *
    rw [List.foldl_append, ih, lvK_z]
    refine (zs_add P.1 (fun k _ => ?_)).symm
    unfold bl bh
    cases B.testBit k
    · exact ⟨rfl, rfl⟩
    · rcases Nat.lt_trichotomy (hr P k) h with c | c | c
      · have e1 : hr P k < h + 1 := by omega
        have e2 : ¬ hr P k = h := by omega
        simp [c, e1, e2]
      · have e1 : hr P k < h + 1 := by omega
        have e2 : ¬ hr P k < h := by omega
        simp [c]
      · have e1 : ¬ hr P k < h + 1 := by omega
        have e2 : ¬ hr P k = h := by omega
        have e3 : ¬ hr P k < h := by omega
        simp [e1, e2, e3]
theorem oL_sum (hn : P.1 ≤ 8) (hok : ∀ k, k < P.1 → okP P k) (hB : B < 2 ^ P.1) : zN P (oL P B 13) = sm P B := by
  rw [oL_z, sm_zs hn hB]
  refine zs_cg P.1 (fun k hk => ?_)
  have := (hok k hk).2.2.1
  unfold bl
  rw [show decide (hr P k < 13) = true by simp; omega, Bool.and_true]
theorem oL_n (hn : P.1 ≤ 8) (hok : ∀ k, k < P.1 → okP P k) (hB : B < 2 ^ P.1) : (oL P B 13).length = pcn B := by
  rw [oL_len, ← cnt_pcn hn hB]
  refine cnt_cg (fun k hk => ?_)
  have := (hok k hk).2.2.1
  unfold bl
  rw [show decide (hr P k < 13) = true by simp; omega, Bool.and_true]
end LI39
