/-! 57: what each set of pins comes to, reckoned -/
theorem or_pow {r k : Nat} (h : r < 2 ^ k) : r ||| 2 ^ k = r + 2 ^ k := by
  have := Nat.two_pow_add_eq_or_of_lt h 1
  rw [Nat.mul_one] at this
  rw [Nat.or_comm, ← this, Nat.add_comm]
theorem or_tb {r k j : Nat} : (r ||| 2 ^ k).testBit j = (r.testBit j || decide (k = j)) := by
  rw [Nat.testBit_or, Nat.testBit_two_pow]
section AD
variable {P : PD} {r k : Nat}
theorem or_lt (h : r < 2 ^ k) : r ||| 2 ^ k < 2 ^ (k + 1) := by
  rw [or_pow h, Nat.pow_succ]; omega
theorem tw_add (hk : k < 8) (h : r < 2 ^ k) : tw P (r ||| 2 ^ k) = ((tw P r).1 ||| ((tw P r).2 &&& hm P k), (tw P r).2 ||| hm P k) := by
  rw [tw_n (or_lt h) (by omega), tw_n h (by omega), fo_s]
  have e : fo (stT P (r ||| 2 ^ k)) k (0, 0) = fo (stT P r) k (0, 0) := by
    refine fo_cg k (fun j a hj => ?_) (0, 0)
    unfold stT
    rw [or_tb, show decide (k = j) = false by simp; omega, Bool.or_false]
  rw [e]
  unfold stT
  rw [if_pos (by rw [or_tb]; simp)]
theorem un_add (hk : k < 8) (h : r < 2 ^ k) : un P (r ||| 2 ^ k) = un P r ||| hm P k := by
  rw [un_tw, un_tw, tw_add hk h]
theorem sm_add (hk : k < 8) (h : r < 2 ^ k) : sm P (r ||| 2 ^ k) = sm P r + wz P k := by
  rw [sm_n (or_lt h) (by omega), sm_n h (by omega), fo_s]
  have e : fo (stS P (r ||| 2 ^ k)) k 0 = fo (stS P r) k 0 := by
    refine fo_cg k (fun j a hj => ?_) 0
    unfold stS
    rw [or_tb, show decide (k = j) = false by simp; omega, Bool.or_false]
  rw [e]
  unfold stS
  rw [if_pos (by rw [or_tb]; simp)]
theorem apt_add (hk : k < 8) (h : r < 2 ^ k) : apt P (r ||| 2 ^ k) = (apt P r && (un P r &&& hm P k == 0)) := by
  unfold apt
  rw [tw_add hk h, un_tw]
  generalize (tw P r).1 = x
  generalize (tw P r).2 &&& hm P k = y
  by_cases c : x = 0
  · subst c
    rw [Nat.zero_or]
    simp
  · have : ¬ x ||| y = 0 := fun q => c (Nat.or_eq_zero_iff.mp q).1
    have z1 : (x ||| y == 0) = false := beq_eq_false_iff_ne.mpr this
    have z2 : (x == 0) = false := beq_eq_false_iff_ne.mpr c
    rw [z1, z2]
    rfl
theorem un_mates {n H : Nat} (hn : n ≤ 8) (h : r < 2 ^ n) : un P r &&& H = 0 ↔ ∀ j, j < n → r.testBit j = true → hm P j &&& H = 0 := by
  rw [un_tw]
  exact tw_and hn h
theorem mx_add {n : Nat} (hn : n ≤ 8) (hk : k < n) (h : r < 2 ^ k) : max (mx P r) (wz P k + mx P (r &&& msk n (fun j => hm P j &&& hm P k == 0))) = mx P (r ||| 2 ^ k) := by
  have p8 : 2 ^ k ≤ 128 := pow_le (n := 7) (by omega)
  have hS : r ||| 2 ^ k < 256 := by rw [or_pow h]; omega
  have hl := Nat.and_le_left (n := r) (m := msk n (fun j => hm P j &&& hm P k == 0))
  refine mx_eq hS (fun t ht => ?_) ?_
  · obtain ⟨c1, c2⟩ := okS_and ht
    have c3 := and_sub.mp c1
    cases b : t.testBit k
    · have hsub : t &&& r = t := by
        rw [and_sub]
        intro j hj
        have := c3 j hj
        rw [or_tb] at this
        by_cases e : k = j
        · subst e; rw [b] at hj; cases hj
        · simpa [e] using this
      have := mx_ub (P := P) (S := r) (by omega) (okS_of hsub c2)
      omega
    · have e1 : t = (t ^^^ 2 ^ k) ||| 2 ^ k := by
        apply Nat.eq_of_testBit_eq
        intro j
        rw [or_tb, Nat.testBit_xor, Nat.testBit_two_pow]
        by_cases e : k = j
        · subst e; simp [b]
        · simp [e]
      have e2 : t ^^^ 2 ^ k < 2 ^ k := by
        apply Nat.lt_pow_two_of_testBit
        intro j hj
        rw [Nat.testBit_xor, Nat.testBit_two_pow]
        by_cases e : k = j
        · subst e; simp [b]
        · have h1 : t.testBit j = false := by
            apply Classical.byContradiction
            intro q
            have q2 := c3 j (by simpa using q)
            rw [or_tb, tb_ge h hj] at q2
            simp [e] at q2
          simp [e, h1]
      have a1 := apt_add (P := P) (show k < 8 by omega) e2
      rw [← e1, c2] at a1
      have a2 : apt P (t ^^^ 2 ^ k) = true ∧ un P (t ^^^ 2 ^ k) &&& hm P k = 0 := by
        have := a1.symm
        simp at this
        exact this
      have a3 := (un_mates (P := P) (r := t ^^^ 2 ^ k) (H := hm P k) (n := k) (by omega) e2).mp a2.2
      have hsub : (t ^^^ 2 ^ k) &&& (r &&& msk n (fun j => hm P j &&& hm P k == 0)) = t ^^^ 2 ^ k := by
        rw [and_sub]
        intro j hj
        have hjk : j < k := by
          apply Classical.byContradiction
          intro q
          rw [tb_ge e2 (by omega)] at hj
          cases hj
        have h1 : t.testBit j = true := by
          rw [Nat.testBit_xor, Nat.testBit_two_pow, show decide (k = j) = false by simp; omega] at hj
          simpa using hj
        have h2 := c3 j h1
        rw [or_tb, show decide (k = j) = false by simp; omega, Bool.or_false] at h2
        rw [Nat.testBit_and, h2, msk_tb]
        have := a3 j hjk hj
        simp [this]
        omega
      have u := mx_ub (P := P) (S := r &&& msk n (fun j => hm P j &&& hm P k == 0)) (by omega) (okS_of hsub a2.1)
      have s1 := sm_add (P := P) (show k < 8 by omega) e2
      rw [← e1] at s1
      omega
  · by_cases d : wz P k + mx P (r &&& msk n (fun j => hm P j &&& hm P k == 0)) ≤ mx P r
    · obtain ⟨t, b1, b2⟩ := mx_at (P := P) r
      obtain ⟨c1, c2⟩ := okS_and b1
      refine ⟨t, okS_of ?_ c2, by omega⟩
      rw [and_sub] at c1 ⊢
      intro j hj
      rw [or_tb, c1 j hj]
      rfl
    · obtain ⟨t, b1, b2⟩ := mx_at (P := P) (r &&& msk n (fun j => hm P j &&& hm P k == 0))
      obtain ⟨c1, c2⟩ := okS_and b1
      have htl := okS_le b1
      have c3 := and_sub.mp c1
      have ht : t < 2 ^ k := by omega
      refine ⟨t ||| 2 ^ k, okS_of ?_ ?_, ?_⟩
      · rw [and_sub]
        intro j hj
        rw [or_tb] at hj ⊢
        cases b : t.testBit j
        · rw [b, Bool.false_or] at hj
          rw [hj]
          simp
        · have := c3 j b
          rw [Nat.testBit_and] at this
          simp at this
          rw [this.1]
          rfl
      · rw [apt_add (by omega) ht, c2]
        have : un P t &&& hm P k = 0 := by
          rw [un_mates (n := k) (by omega) ht]
          intro j hj hb
          have := c3 j hb
          rw [Nat.testBit_and, msk_tb] at this
          simp at this
          exact this.2.2
        rw [this]
        rfl
      · rw [sm_add (by omega) ht, b2]
        omega
end AD
theorem mx_bdr {P : PD} {S n : Nat} (hn : n ≤ 8) (hok : ∀ k, k < n → okP P k) (hS : S < 2 ^ n) : 0 ≤ mx P S ∧ mx P S ≤ 480 := by
  have h256 := pow8 hn
  obtain ⟨t, b1, b2⟩ := mx_at (P := P) S
  have := okS_le b1
  have h1 := sm_bd (P := P) (S := t) hn hok (by omega)
  have h2 := mx_ge (P := P) (S := S) (by omega)
  omega
def TB (P : PD) (m : Nat) (M : Mem) : Prop := ∀ S, S < m → M.1 43 S = nI (un P S) ∧ M.1 44 S = zI (sm P S) ∧ M.1 45 S = (if apt P S then (1 : Int32) else (0 : Int32)) ∧ M.1 46 S = zI (mx P S)
section RK
variable {P : PD} {n k fu : Nat}
theorem max_z {a c : Int} (a1 : -2147483648 ≤ a) (a2 : a < 2147483648) (c1 : -2147483648 ≤ c) (c2 : c < 2147483648) : (if zI a < zI c then zI c else zI a) = zI (max a c) := by
  by_cases d : a < c
  · rw [if_pos (by rw [zlt a1 a2 c1 c2]; exact d), show max a c = c by omega]
  · rw [if_neg (by rw [zlt a1 a2 c1 c2]; exact d), show max a c = a by omega]
/-- one set, reckoned -/
theorem rek_s {r f : Nat} {M : Mem} (hn : n ≤ 8) (hk : k < n) (hok : ∀ k, k < n → okP P k) (hr : r < 2 ^ k) (h41 : M.1 41 k = nI (hm P k)) (h42 : M.1 42 k = zI (wz P k)) (hT : TB P (2 ^ k + r) M) : ∃ M', f2_reckonSetsTo_18 fu (f + 1) (nI k) (nI (2 ^ k)) (nI (msk n (fun j => hm P j &&& hm P k == 0))) (nI r) M = f2_reckonSetsTo_18 fu f (nI k) (nI (2 ^ k)) (nI (msk n (fun j => hm P j &&& hm P k == 0))) (nI (r + 1)) M' ∧ TB P (2 ^ k + (r + 1)) M' ∧ (∀ q, q < 43 ∨ 46 < q → M'.1 q = M.1 q) ∧ M'.2 = M.2 := by
  have p8 : 2 ^ k ≤ 128 := pow_le (n := 7) (by omega)
  have hset : r ||| 2 ^ k < 256 := by rw [or_pow hr]; omega
  have hne : ¬ r ||| 2 ^ k = r := by rw [or_pow hr]; omega
  have hk8 : k < 8 := by omega
  obtain ⟨q1, q2, q3, q4⟩ := hT r (by omega)
  have hl := Nat.and_le_left (n := r) (m := msk n (fun j => hm P j &&& hm P k == 0))
  obtain ⟨-, -, -, q8⟩ := hT (r &&& msk n (fun j => hm P j &&& hm P k == 0)) (by omega)
  have hw := wz_bd (hok k hk)
  have kn : 2 ^ k ≤ 2 ^ n := pow_le (by omega)
  have b1 := mx_bdr (P := P) (S := r) hn hok (by omega)
  have b2 := mx_bdr (P := P) (S := r &&& msk n (fun j => hm P j &&& hm P k == 0)) hn hok (by omega)
  have t1 : ¬ nI (2 ^ k) ≤ nI r := by rw [nle (by omega) (by omega)]; omega
  have t2 : ¬ (256 : Int32) ≤ nI (r ||| 2 ^ k) := by
    show ¬ nI 256 ≤ nI (r ||| 2 ^ k)
    rw [nle (by omega) (by omega)]; omega
  obtain ⟨M1, hM1⟩ : ∃ x, x = sI M 43 (r ||| 2 ^ k) (nI (un P r) ||| nI (hm P k)) := ⟨_, rfl⟩
  obtain ⟨M2, hM2⟩ : ∃ x, x = sI M1 44 (r ||| 2 ^ k) (zI (sm P r) + zI (wz P k)) := ⟨_, rfl⟩
  have f1 : ∀ q, q ≠ 43 → q ≠ 44 → M2.1 q = M.1 q := fun q a b => by rw [hM2, g2 b, hM1, g2 a]
  have r1 : rd M 43 256 (nI r) = some (nI (un P r)) := by rw [rd_n (by omega) (by omega), q1]
  have r2 : rd M 41 8 (nI k) = some (nI (hm P k)) := by rw [rd_n (by omega) (by omega), h41]
  have w1 : wr M 43 256 (nI (r ||| 2 ^ k)) (nI (un P r) ||| nI (hm P k)) = some M1 := by rw [wr_n (by omega) (by omega), hM1]
  have r3 : rd M1 44 256 (nI r) = some (zI (sm P r)) := by rw [rd_n (by omega) (by omega), hM1, g2 (by omega), q2]
  have r4 : rd M1 42 8 (nI k) = some (zI (wz P k)) := by rw [rd_n (by omega) (by omega), hM1, g2 (by omega), h42]
  have w2 : wr M1 44 256 (nI (r ||| 2 ^ k)) (zI (sm P r) + zI (wz P k)) = some M2 := by rw [wr_n (by omega) (by omega), hM2]
  have r5 : rd M2 45 256 (nI r) = some (if apt P r then (1 : Int32) else (0 : Int32)) := by rw [rd_n (by omega) (by omega), f1 45 (by omega) (by omega), q3]
  have r6 : rd M2 43 256 (nI r) = some (nI (un P r)) := by rw [rd_n (by omega) (by omega), hM2, g2 (by omega), hM1, g3 (fun e => hne e.symm), q1]
  have r7 : rd M2 41 8 (nI k) = some (nI (hm P k)) := by rw [rd_n (by omega) (by omega), f1 41 (by omega) (by omega), h41]
  have tail : ∀ s0 : Int32, zb s0 = (if apt P (r ||| 2 ^ k) then (1 : Int32) else (0 : Int32)) → ∃ M', f2_reckonSetsTo_120 fu (f2_reckonSetsTo_18 fu f) (nI k) (nI (2 ^ k)) (nI (msk n (fun j => hm P j &&& hm P k == 0))) (nI r) (nI (r ||| 2 ^ k)) s0 (nI (r ||| 2 ^ k)) M2 = f2_reckonSetsTo_18 fu f (nI k) (nI (2 ^ k)) (nI (msk n (fun j => hm P j &&& hm P k == 0))) (nI (r + 1)) M' ∧ TB P (2 ^ k + (r + 1)) M' ∧ (∀ q, q < 43 ∨ 46 < q → M'.1 q = M.1 q) ∧ M'.2 = M.2 := by
    intro s0 hs0
    obtain ⟨M3, hM3⟩ : ∃ x, x = sI M2 45 (r ||| 2 ^ k) (zb s0) := ⟨_, rfl⟩
    obtain ⟨M4, hM4⟩ : ∃ x, x = sI M3 46 (r ||| 2 ^ k) (zI (mx P (r ||| 2 ^ k))) := ⟨_, rfl⟩
    have f3 : ∀ q, q ≠ 43 → q ≠ 44 → q ≠ 45 → M3.1 q = M.1 q := fun q a b c => by rw [hM3, g2 c, f1 q a b]
    have w3 : wr M2 45 256 (nI (r ||| 2 ^ k)) (zb s0) = some M3 := by rw [wr_n (by omega) (by omega), hM3]
    have x1 : rd M3 46 256 (nI r) = some (zI (mx P r)) := by rw [rd_n (by omega) (by omega), f3 46 (by omega) (by omega) (by omega), q4]
    have x2 : rd M3 42 8 (nI k) = some (zI (wz P k)) := by rw [rd_n (by omega) (by omega), f3 42 (by omega) (by omega) (by omega), h42]
    have x3 : rd M3 46 256 (nI (r &&& msk n (fun j => hm P j &&& hm P k == 0))) = some (zI (mx P (r &&& msk n (fun j => hm P j &&& hm P k == 0)))) := by rw [rd_n (by omega) (by omega), f3 46 (by omega) (by omega) (by omega), q8]
    have mm := max_z (a := mx P r) (c := wz P k + mx P (r &&& msk n (fun j => hm P j &&& hm P k == 0))) (by omega) (by omega) (by omega) (by omega)
    rw [mx_add hn hk hr] at mm
    have w4 : wr M3 46 256 (nI (r ||| 2 ^ k)) (zI (mx P (r ||| 2 ^ k))) = some M4 := by rw [wr_n (by omega) (by omega), hM4]
    refine ⟨M4, ?_, ?_, fun q hq => by rw [hM4, g2 (by omega), f3 q (by omega) (by omega) (by omega)], by rw [hM4, g4, hM3, g4, hM2, g4, hM1, g4]⟩
    · unfold f2_reckonSetsTo_120
      rw [w3, bS, x1, bS, x2, bS, iand, x3, bS, zadd, mm, w4, bS, nm_u, ad1]
    · intro S hS
      by_cases e : S = r ||| 2 ^ k
      · subst e
        refine ⟨?_, ?_, ?_, ?_⟩
        · rw [hM4, g2 (by omega), hM3, g2 (by omega), hM2, g2 (by omega), hM1, g1, ior, un_add hk8 hr]
        · rw [hM4, g2 (by omega), hM3, g2 (by omega), hM2, g1, zadd, sm_add hk8 hr]
        · rw [hM4, g2 (by omega), hM3, g1, hs0]
        · rw [hM4, g1]
      · have hS2 : S < 2 ^ k + r := by
          rw [or_pow hr] at e
          omega
        obtain ⟨y1, y2, y3, y4⟩ := hT S hS2
        refine ⟨?_, ?_, ?_, ?_⟩
        · rw [hM4, g2 (by omega), hM3, g2 (by omega), hM2, g2 (by omega), hM1, g3 e, y1]
        · rw [hM4, g2 (by omega), hM3, g2 (by omega), hM2, g3 e, hM1, g2 (by omega), y2]
        · rw [hM4, g2 (by omega), hM3, g3 e, f1 45 (by omega) (by omega), y3]
        · rw [hM4, g3 e, hM3, g2 (by omega), f1 46 (by omega) (by omega), y4]
  rw [f2_reckonSetsTo_18]
  dsimp only
  rw [if_neg t1, ior, if_neg t2, nm_u, r1, bS, r2, bS, w1, bS, r3, bS, r4, bS, w2, bS, r5, bS]
  have aa := apt_add (P := P) hk8 hr
  cases c : apt P r
  · rw [if_pos (show (if false = true then (1 : Int32) else (0 : Int32)) = 0 from rfl)]
    refine tail 0 ?_
    rw [aa, c]
    rfl
  · rw [if_neg (show ¬ (if true = true then (1 : Int32) else (0 : Int32)) = 0 by decide), r6, bS, r7, bS, iand]
    have hul : un P r &&& hm P k < 8192 := Nat.lt_of_le_of_lt Nat.and_le_right (hm_lt (hok k hk))
    by_cases z : un P r &&& hm P k = 0
    · rw [z, if_pos tP0]
      refine tail 1 ?_
      rw [aa, c, z]
      rfl
    · have nz : ¬ nI (un P r &&& hm P k) = (0 : Int32) := by
        show ¬ nI (un P r &&& hm P k) = nI 0
        rw [neq (by omega) (by omega)]; exact z
      rw [if_neg nz]
      refine tail 0 ?_
      rw [aa, c, show (un P r &&& hm P k == 0) = false by simp [z]]
      rfl
theorem rek_l {M : Mem} (hn : n ≤ 8) (hk : k < n) (hok : ∀ k, k < n → okP P k) : ∀ (e r f : Nat) (M : Mem), r + e = 2 ^ k → e < f → M.1 41 k = nI (hm P k) → M.1 42 k = zI (wz P k) → TB P (2 ^ k + r) M → ∃ M', f2_reckonSetsTo_18 fu f (nI k) (nI (2 ^ k)) (nI (msk n (fun j => hm P j &&& hm P k == 0))) (nI r) M = some M' ∧ TB P (2 ^ (k + 1)) M' ∧ (∀ q, q < 43 ∨ 46 < q → M'.1 q = M.1 q) ∧ M'.2 = M.2 := by
  have p8 : 2 ^ k ≤ 128 := pow_le (n := 7) (by omega)
  intro e
  induction e with
  | zero =>
    intro r f M hr hf h41 h42 hT
    rcases f with _ | f
    · omega
    have : r = 2 ^ k := by omega
    subst this
    refine ⟨M, ?_, ?_, fun _ _ => rfl, rfl⟩
    · rw [f2_reckonSetsTo_18]
      dsimp only
      rw [if_pos (Int32.le_refl _)]
    · rw [show 2 ^ (k + 1) = 2 ^ k + 2 ^ k by rw [Nat.pow_succ]; omega]
      exact hT
  | succ e ih =>
    intro r f M hr hf h41 h42 hT
    rcases f with _ | f
    · omega
    obtain ⟨M1, a1, a2, a3, a4⟩ := rek_s (fu := fu) (f := f) hn hk hok (by omega) h41 h42 hT
    obtain ⟨M2, b1, b2, b3, b4⟩ := ih (r + 1) f M1 (by omega) (by omega) (by rw [a3 41 (by omega)]; exact h41) (by rw [a3 42 (by omega)]; exact h42) a2
    refine ⟨M2, ?_, b2, fun q hq => by rw [b3 q hq, a3 q hq], by rw [b4, a4]⟩
    rw [a1]
    exact b1
theorem rek_a (hfu : 10000 ≤ fu) (hn : n ≤ 8) (hok : ∀ k, k < n → okP P k) : ∀ (e k f : Nat) (M : Mem), k + e = n → e < f → M.1 35 0 = nI n → (∀ j, j < n → M.1 41 j = nI (hm P j) ∧ M.1 42 j = zI (wz P j)) → TB P (2 ^ k) M → ∃ M', f2_read_137 fu f (nI k) M = some M' ∧ TB P (2 ^ n) M' ∧ (∀ q, q < 43 ∨ 46 < q → M'.1 q = M.1 q) ∧ M'.2 = M.2 := by
  intro e
  induction e with
  | zero =>
    intro k f M hk hf h35 h4 hT
    rcases f with _ | f
    · omega
    have : k = n := by omega
    subst this
    refine ⟨M, ?_, hT, fun _ _ => rfl, rfl⟩
    rw [f2_read_137]
    dsimp only
    rw [h35, if_pos (Int32.le_refl _)]
  | succ e ih =>
    intro k f M hk hf h35 h4 hT
    rcases f with _ | f
    · omega
    have hk2 : k < n := by omega
    have p8 : 2 ^ k ≤ 128 := pow_le (n := 7) (by omega)
    obtain ⟨x1, x2⟩ := h4 k hk2
    obtain ⟨M1, a1, a2, a3, a4⟩ := rek_l (fu := fu) (M := M) hn hk2 hok (2 ^ k) 0 fu M (by omega) (by omega) x1 x2 hT
    obtain ⟨M2, b1, b2, b3, b4⟩ := ih (k + 1) f M1 (by omega) (by omega) (by rw [a3 35 (by omega)]; exact h35) (fun j hj => by rw [a3 41 (by omega), a3 42 (by omega)]; exact h4 j hj) a2
    have t1 : ¬ nI n ≤ nI k := by rw [nle (by omega) (by omega)]; omega
    have r2 : rd M 41 8 (nI k) = some (nI (hm P k)) := by rw [rd_n (by omega) (by omega), x1]
    have ap := apartFrom_c (fu := fu) (M := M) (h := hm P) (b := hm P k) hfu hn h35 (fun j hj => (h4 j hj).1) (hm_lt (hok k hk2))
    refine ⟨M2, ?_, b2, fun q hq => by rw [b3 q hq, a3 q hq], by rw [b4, a4]⟩
    rw [f2_read_137]
    dsimp only
    rw [h35, if_neg t1]
    unfold f2_reckonSetsTo
    rw [nm_u, sh1 (by omega), r2, bS, ap, bS, show (0 : Int32) = nI 0 from rfl, a1, bS, nm_u, ad1]
    exact b1
end RK
