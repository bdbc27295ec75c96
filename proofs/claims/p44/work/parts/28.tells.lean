/-! 28: a text with pins at given places is read -/
def letN (K : Nat) : Nat := match K with
  | 0 => 112
  | 1 => 99
  | 2 => 108
  | 3 => 109
  | 4 => 98
  | _ => 119
theorem letN_k {M : Mem} {fu K : Nat} (hfu : 10000 ≤ fu) (hK : K < 6) : f4_kindOfLetter M fu (nI (letN K)) = some (nI K) := by
  rw [kl_a hfu]
  rcases (show K = 0 ∨ K = 1 ∨ K = 2 ∨ K = 3 ∨ K = 4 ∨ K = 5 by omega) with rfl | rfl | rfl | rfl | rfl | rfl <;> decide
theorem letN_b (K : Nat) : 48 ≤ letN K ∧ letN K < 128 := by
  rcases K with _ | _ | _ | _ | _ | K
  · show 48 ≤ 112 ∧ 112 < 128; omega
  · show 48 ≤ 99 ∧ 99 < 128; omega
  · show 48 ≤ 108 ∧ 108 < 128; omega
  · show 48 ≤ 109 ∧ 109 < 128; omega
  · show 48 ≤ 98 ∧ 98 < 128; omega
  · show 48 ≤ 119 ∧ 119 < 128; omega
/-- the pins of P stand in the text b, each at its place -/
def TXT (P : PD) (A : Nat → Nat) (b : Nat → Int32) : Prop := (∀ i, i < 60 → (∀ j, j < P.1 → i < A j ∨ A j + 5 ≤ i) → b i = nI 32) ∧ (∀ j, j < P.1 → okP P j ∧ A j + 5 ≤ 60 ∧ b (A j) = nI (letN (kd P j)) ∧ b (A j + 1) = nI (48 + pl P j) ∧ b (A j + 2) = nI (48 + hr P j) ∧ b (A j + 3) = nI (48 + ln P j) ∧ b (A j + 4) = nI (48 + lk P j)) ∧ ∀ i j, i < j → j < P.1 → A i + 5 ≤ A j
theorem n32 {v : Nat} (h : 48 ≤ v) (h2 : v < 128) : ¬ nI v = nI 32 := by
  rw [neq (by omega) (by omega)]; omega
section TX
variable {P : PD} {A : Nat → Nat} {b : Nat → Int32} {M M0 : Mem} {fu : Nat}
theorem blank_at (h : TXT P A b) {q i : Nat} (hi : i < 60) (hq : ∀ j, j < q → j < P.1 → A j + 5 ≤ i) (hn : q < P.1 → i < A q) : b i = nI 32 := by
  refine h.1 i hi (fun j hj => ?_)
  by_cases c : j < q
  · exact Or.inr (hq j c hj)
  · refine Or.inl ?_
    by_cases e : j = q
    · subst e; exact hn hj
    · have := h.2.2 q j (by omega) hj
      have := hn (by omega)
      omega
theorem fault_l (hfu : 10000 ≤ fu) (h : TXT P A b) (hn0 : 0 < P.1) (hn : P.1 ≤ 7) (hsz : M.1 9 0 = nI 60) (hb : ∀ i, i < 60 → M.1 19 i = b i) : ∀ (e q i f : Nat), i + e = 60 → e < f → q ≤ P.1 → (∀ j, j < q → j < P.1 → A j + 5 ≤ i) → (q < P.1 → i ≤ A q) → f4_firstFault_6 M fu f 9 (nI q) (nI 0) (nI i) = some (-nI 9) := by
  intro e
  induction e using Nat.strongRecOn with
  | ind e ih =>
    intro q i f hi hf hq h1 h2
    rcases f with _ | f
    · omega
    by_cases c60 : i = 60
    · subst c60
      have hqn : q = P.1 := by
        by_cases c : q < P.1
        · have := h2 c
          have := (h.2.1 q c).2.1
          omega
        · omega
      have := ff_end (fu := fu) (MC := M) (t := 3) (N := 60) (q := q) (sg := 0) (f := f) (by omega) (by omega) hsz (by omega) (by omega)
      rw [if_neg (by omega), if_neg (by omega)] at this
      exact this
    by_cases ca : q < P.1 ∧ i = A q
    · obtain ⟨hqn, rfl⟩ := ca
      obtain ⟨hok, ha, b0, b1, b2, b3, b4⟩ := h.2.1 q hqn
      obtain ⟨k1, k2, k3, k4, k5, k6⟩ := hok
      obtain ⟨f, rfl⟩ : ∃ g, f = g + 4 := ⟨f - 4, by omega⟩
      have hl := letN_b (kd P q)
      have s0 := ff_in (fu := fu) (MC := M) (t := 3) (N := 60) (b := b) (q := q) (sg := 0) (i := A q) (f := f + 4) (by omega) (by omega) hsz hb (by omega) (by omega)
      rw [if_neg (by omega), b0, if_neg (n32 hl.1 hl.2), ff32_ok (by omega) (by omega) (sign0_ok k1 (letN_k hfu k1))] at s0
      have s1 := ff_in (fu := fu) (MC := M) (t := 3) (N := 60) (b := b) (q := q) (sg := 1) (i := A q + 1) (f := f + 3) (by omega) (by omega) hsz hb (by omega) (by omega)
      rw [if_pos (by omega), b1, ff32_ok (by omega) (by omega) (sign_ok (by omega) (by omega) (by unfold loS; rw [if_neg (by omega)]; omega) (by unfold hiS; rw [if_neg (by omega)]; omega))] at s1
      have s2 := ff_in (fu := fu) (MC := M) (t := 3) (N := 60) (b := b) (q := q) (sg := 2) (i := A q + 2) (f := f + 2) (by omega) (by omega) hsz hb (by omega) (by omega)
      rw [if_pos (by omega), b2, ff32_ok (by omega) (by omega) (sign_ok (by omega) (by omega) (by unfold loS; rw [if_neg (by omega)]; omega) (by unfold hiS; rw [if_neg (by omega)]; omega))] at s2
      have s3 := ff_in (fu := fu) (MC := M) (t := 3) (N := 60) (b := b) (q := q) (sg := 3) (i := A q + 3) (f := f + 1) (by omega) (by omega) hsz hb (by omega) (by omega)
      rw [if_pos (by omega), b3, ff32_ok (by omega) (by omega) (sign_ok (by omega) (by omega) (by unfold loS; rw [if_pos rfl]; omega) (by unfold hiS; rw [if_pos rfl]; omega))] at s3
      have s4 := ff_in (fu := fu) (MC := M) (t := 3) (N := 60) (b := b) (q := q) (sg := 4) (i := A q + 4) (f := f) (by omega) (by omega) hsz hb (by omega) (by omega)
      rw [if_pos (by omega), b4, ff32_last (by omega) (sign_ok (by omega) (by omega) (by unfold loS; rw [if_neg (by omega)]; omega) (by unfold hiS; rw [if_neg (by omega)]; omega))] at s4
      have r := ih (e - 5) (by omega) (q + 1) (A q + 4 + 1) f (by omega) (by omega) (by omega) (fun j hj hjn => by
        by_cases c : j = q
        · subst c; omega
        · have := h1 j (by omega) hjn
          omega) (fun c => by
        have := h.2.2 q (q + 1) (by omega) c
        omega)
      exact s0.trans (s1.trans (s2.trans (s3.trans (s4.trans r))))
    · have hbl := blank_at h (q := q) (i := i) (by omega) h1 (fun c => by
        have := h2 c
        by_cases d : i = A q
        · exact absurd ⟨c, d⟩ ca
        · omega)
      have s0 := ff_in (fu := fu) (MC := M) (t := 3) (N := 60) (b := b) (q := q) (sg := 0) (i := i) (f := f) (by omega) (by omega) hsz hb (by omega) (by omega)
      rw [if_neg (by omega), if_pos hbl] at s0
      have r := ih (e - 1) (by omega) q (i + 1) f (by omega) (by omega) hq (fun j hj hjn => by
        have := h1 j hj hjn
        omega) (fun c => by
        have := h2 c
        by_cases d : i = A q
        · exact absurd ⟨c, d⟩ ca
        · omega)
      exact s0.trans r
theorem fault_s (hfu : 10000 ≤ fu) (h : TXT P A b) (hn0 : 0 < P.1) (hn : P.1 ≤ 7) (hsz : M.1 9 0 = nI 60) (hb : ∀ i, i < 60 → M.1 19 i = b i) : f4_firstFault M fu 9 = some (-nI 9) := by
  unfold f4_firstFault
  exact fault_l hfu h hn0 hn hsz hb 60 0 0 fu (by omega) (by omega) (by omega) (fun j hj => by omega) (fun _ => Nat.zero_le _)
def DRq (P : PD) (q : Nat) (M : Mem) : Prop := ∀ k, k < q → M.1 36 k = nI (kd P k) ∧ M.1 37 k = nI (pl P k) ∧ M.1 38 k = nI (hr P k) ∧ M.1 39 k = nI (ln P k) ∧ M.1 40 k = nI (lk P k)
theorem read_l (hfu : 10000 ≤ fu) (h : TXT P A b) (hn0 : 0 < P.1) (hn : P.1 ≤ 7) (hsz : M0.1 9 0 = nI 60) (hb : ∀ i, i < 60 → M0.1 19 i = b i) : ∀ (e q i f : Nat) (M : Mem), i + e = 60 → e < f → q ≤ P.1 → (∀ j, j < q → j < P.1 → A j + 5 ≤ i) → (q < P.1 → i ≤ A q) → CSr q M0 M → DRq P q M → ∃ M', f2_read_9 fu f 9 (nI 0) (nI i) M = f2_read_75 fu fu (nI 0) M' ∧ CSr P.1 M0 M' ∧ DRq P P.1 M' := by
  intro e
  induction e using Nat.strongRecOn with
  | ind e ih =>
    intro q i f M hi hf hq h1 h2 hC hD
    rcases f with _ | f
    · omega
    by_cases c60 : i = 60
    · subst c60
      have hqn : q = P.1 := by
        by_cases c : q < P.1
        · have := h2 c
          have := (h.2.1 q c).2.1
          omega
        · omega
      subst hqn
      exact ⟨M, rd_end (t := 3) (N := 60) (by omega) hsz hC, hC, hD⟩
    by_cases ca : q < P.1 ∧ i = A q
    · obtain ⟨hqn, rfl⟩ := ca
      obtain ⟨hok, ha, b0, b1, b2, b3, b4⟩ := h.2.1 q hqn
      obtain ⟨k1, k2, k3, k4, k5, k6⟩ := hok
      obtain ⟨f, rfl⟩ : ∃ g, f = g + 4 := ⟨f - 4, by omega⟩
      have hl := letN_b (kd P q)
      obtain ⟨M1, hM1⟩ : ∃ x, x = sI M 36 q (nI (kd P q)) := ⟨_, rfl⟩
      have C1 : CSr q M0 M1 := by rw [hM1]; exact hC.at (by omega) (by omega)
      obtain ⟨M2, hM2⟩ : ∃ x, x = sI M1 37 q (nI (pl P q)) := ⟨_, rfl⟩
      have C2 : CSr q M0 M2 := by rw [hM2]; exact C1.at (by omega) (by omega)
      obtain ⟨M3, hM3⟩ : ∃ x, x = sI M2 38 q (nI (hr P q)) := ⟨_, rfl⟩
      have C3 : CSr q M0 M3 := by rw [hM3]; exact C2.at (by omega) (by omega)
      obtain ⟨M4, hM4⟩ : ∃ x, x = sI M3 39 q (nI (ln P q)) := ⟨_, rfl⟩
      have C4 : CSr q M0 M4 := by rw [hM4]; exact C3.at (by omega) (by omega)
      obtain ⟨M5, hM5⟩ : ∃ x, x = sI M4 40 q (nI (lk P q)) := ⟨_, rfl⟩
      have C5 : CSr q M0 M5 := by rw [hM5]; exact C4.at (by omega) (by omega)
      have s0 := rd_in (fu := fu) (t := 3) (N := 60) (b := b) (sg := 0) (i := A q) (f := f + 4) (by omega) (by omega) hsz hb hC (by omega) (by omega) (by rw [b0]; exact n32 hl.1 hl.2)
      rw [b0, take_let (by omega) (letN_k hfu k1) hC, bS, if_neg (by decide), ← hM1] at s0
      have s1 := rd_in (fu := fu) (t := 3) (N := 60) (b := b) (sg := 1) (i := A q + 1) (f := f + 3) (by omega) (by omega) hsz hb C1 (by omega) (by omega) (by rw [b1]; exact n32 (by omega) (by omega))
      rw [b1, take_fig (by omega) (by omega) (by omega) C1, bS, if_neg (by decide)] at s1
      rw [show sI M1 (36 + 1) q (nI (pl P q)) = M2 from hM2.symm] at s1
      have s2 := rd_in (fu := fu) (t := 3) (N := 60) (b := b) (sg := 2) (i := A q + 2) (f := f + 2) (by omega) (by omega) hsz hb C2 (by omega) (by omega) (by rw [b2]; exact n32 (by omega) (by omega))
      rw [b2, take_fig (by omega) (by omega) (by omega) C2, bS, if_neg (by decide)] at s2
      rw [show sI M2 (36 + 2) q (nI (hr P q)) = M3 from hM3.symm] at s2
      have s3 := rd_in (fu := fu) (t := 3) (N := 60) (b := b) (sg := 3) (i := A q + 3) (f := f + 1) (by omega) (by omega) hsz hb C3 (by omega) (by omega) (by rw [b3]; exact n32 (by omega) (by omega))
      rw [b3, take_fig (by omega) (by omega) (by omega) C3, bS, if_neg (by decide)] at s3
      rw [show sI M3 (36 + 3) q (nI (ln P q)) = M4 from hM4.symm] at s3
      have s4 := rd_in (fu := fu) (t := 3) (N := 60) (b := b) (sg := 4) (i := A q + 4) (f := f) (by omega) (by omega) hsz hb C4 (by omega) (by omega) (by rw [b4]; exact n32 (by omega) (by omega))
      rw [b4, take_fig (by omega) (by omega) (by omega) C4, bS, if_pos (show nI (4 + 1) = (5 : Int32) from rfl)] at s4
      rw [show sI M4 (36 + 4) q (nI (lk P q)) = M5 from hM5.symm, C5.1, show nI q + (1 : Int32) = nI (q + 1) from ad1] at s4
      obtain ⟨M', r1, r2, r3⟩ := ih (e - 5) (by omega) (q + 1) (A q + 4 + 1) f (sI M5 35 0 (nI (q + 1))) (by omega) (by omega) (by omega) (fun j hj hjn => by
        by_cases c : j = q
        · subst c; omega
        · have := h1 j (by omega) hjn
          omega) (fun c => by
        have := h.2.2 q (q + 1) (by omega) c
        omega) C5.pin (fun k hk => by
        rw [g2 (by omega), g2 (by omega), g2 (by omega), g2 (by omega), g2 (by omega)]
        by_cases c : k = q
        · subst c
          refine ⟨?_, ?_, ?_, ?_, ?_⟩
          · rw [hM5, g2 (by omega), hM4, g2 (by omega), hM3, g2 (by omega), hM2, g2 (by omega), hM1, g1]
          · rw [hM5, g2 (by omega), hM4, g2 (by omega), hM3, g2 (by omega), hM2, g1]
          · rw [hM5, g2 (by omega), hM4, g2 (by omega), hM3, g1]
          · rw [hM5, g2 (by omega), hM4, g1]
          · rw [hM5, g1]
        · obtain ⟨w1, w2, w3, w4, w5⟩ := hD k (by omega)
          refine ⟨?_, ?_, ?_, ?_, ?_⟩
          · rw [hM5, g2 (by omega), hM4, g2 (by omega), hM3, g2 (by omega), hM2, g2 (by omega), hM1, g3 c]; exact w1
          · rw [hM5, g2 (by omega), hM4, g2 (by omega), hM3, g2 (by omega), hM2, g3 c, hM1, g2 (by omega)]; exact w2
          · rw [hM5, g2 (by omega), hM4, g2 (by omega), hM3, g3 c, hM2, g2 (by omega), hM1, g2 (by omega)]; exact w3
          · rw [hM5, g2 (by omega), hM4, g3 c, hM3, g2 (by omega), hM2, g2 (by omega), hM1, g2 (by omega)]; exact w4
          · rw [hM5, g3 c, hM4, g2 (by omega), hM3, g2 (by omega), hM2, g2 (by omega), hM1, g2 (by omega)]; exact w5)
      exact ⟨M', s0.trans (s1.trans (s2.trans (s3.trans (s4.trans r1)))), r2, r3⟩
    · have hbl := blank_at h (q := q) (i := i) (by omega) h1 (fun c => by
        have := h2 c
        by_cases d : i = A q
        · exact absurd ⟨c, d⟩ ca
        · omega)
      have s0 := rd_blank (fu := fu) (t := 3) (N := 60) (b := b) (q := q) (i := i) (f := f) (by omega) (by omega) hsz hb hC (by omega) (by omega) hbl
      obtain ⟨M', r1, r2, r3⟩ := ih (e - 1) (by omega) q (i + 1) f M (by omega) (by omega) hq (fun j hj hjn => by
        have := h1 j hj hjn
        omega) (fun c => by
        have := h2 c
        by_cases d : i = A q
        · exact absurd ⟨c, d⟩ ca
        · omega) hC hD
      exact ⟨M', s0.trans r1, r2, r3⟩
/-- the street, as it is told -/
def s0P (P : PD) : Nat → Int32
  | 0 => nI 0
  | k + 1 => nI (pl P k)
theorem s0_gst (hok : ∀ k, k < P.1 → okP P k) : gst P.1 (s0P P) := ⟨⟨0, by omega, rfl⟩, fun k hk => Or.inr (Or.inr ⟨pl P k, (hok k hk).2.1, rfl⟩)⟩
theorem s0_hB (hok : ∀ k, k < P.1 → okP P k) : hB P (s0P P) = 0 := msk_0 (fun k hk => pos_m1 _ (hok k hk).2.1)
theorem s0_wB (hok : ∀ k, k < P.1 → okP P k) : wB P (s0P P) = 0 := msk_0 (fun k hk => pos_m2 _ (hok k hk).2.1)
theorem s0_lB (hok : ∀ k, k < P.1 → okP P k) : lB P (s0P P) = 2 ^ P.1 - 1 := by
  rw [all_msk]
  exact msk_cg (fun k hk => lyB_nI (p := pl P k) rfl (hok k hk).2.1)
theorem street_s (hfu : 10000 ≤ fu) (h : TXT P A b) (hn0 : 0 < P.1) (hn : P.1 ≤ 7) (hsz : M.1 9 0 = nI 60) (hb : ∀ i, i < 60 → M.1 19 i = b i) (h0 : M.1 43 0 = nI 0 ∧ M.1 44 0 = nI 0 ∧ M.1 45 0 = 1 ∧ M.1 46 0 = nI 0) : ∃ M', f4_street fu (nI 3) M = some (M', nI P.1) ∧ Iv P 0 (fun _ => s0P P) M' ∧ (∀ j, j < 3 → M'.1 (j + 20) 0 = -nI 1) ∧ (∀ q, q < 20 ∨ 46 < q → M'.1 q = M.1 q) ∧ M'.2 = M.2 := by
  have hok : ∀ k, k < P.1 → okP P k := fun k hk => (h.2.1 k hk).1
  obtain ⟨M1, a1, a2, a3⟩ := read_l (M0 := M) hfu h hn0 hn hsz hb 60 0 0 fu (sI M 35 0 (nI 0)) (by omega) (by omega) (by omega) (fun j hj => by omega) (fun _ => Nat.zero_le _) ⟨g1, fun p hp => g2 (by omega), rfl⟩ (fun k hk => by omega)
  have fc := a2.2.1
  obtain ⟨M2, b1, b2, b3, b4, b5, b6⟩ := read_c (P := P) (fu := fu) (n := P.1) (M := M1) hfu (by omega) ⟨a2.1, fun k hk => ⟨hok k hk, a3 k hk⟩⟩ (by
    rw [fc 43 (by omega), fc 44 (by omega), fc 45 (by omega), fc 46 (by omega)]
    exact h0)
  have hG : GC P M2 := GC.of (by omega) b2.1 (fun k hk => by
    obtain ⟨o, e0, e1, e2, e3, e4⟩ := b2.2 k hk
    obtain ⟨e5, e6⟩ := b3 k hk
    exact ⟨o, e0, e1, e2, e3, e4, e5, e6⟩) b4
  have hH : Hist P (M2.1 27) 0 (fun _ => s0P P) := ⟨rfl, fun k hk => rfl, fun i hi => by omega, fun i hi => s0_gst hok, fun i hi => by omega⟩
  obtain ⟨M3, c1, c2, c3, c4, c5⟩ := goBackTo_c (fu := fu) (x := 0) hfu (by omega) (Nat.le_refl 0) hG hH
  obtain ⟨M4, d1, d2, d3, d4⟩ := kept_c (fu := fu) (M := M3) hfu
  have e35 : M3.1 35 0 = nI P.1 := by rw [c3 35 (by omega) (by omega) (by omega)]; exact b2.1
  rw [e35] at d1
  refine ⟨M4, ?_, ⟨⟨hG.cg (fun q q1 q2 => by rw [d3 q (by omega), c3 q (by omega) (by omega) (by omega)]), s0_gst hok, by rw [d3 33 (by omega), d3 34 (by omega)]; exact c2, hn0⟩, by omega, by rw [d3 23 (by omega)]; exact c4, by rw [d3 27 (by omega), c3 27 (by omega) (by omega) (by omega)]; exact hH⟩, d2, fun q hq => by rw [d3 q (by omega), c3 q (by omega) (by omega) (by omega), b5 q (by omega), fc q (by omega)], by rw [d4, c5, b6, a2.2.2]⟩
  have r1 := refM_k (M := M) (p := 9) (k := 60) (by omega) hsz (by omega)
  have r2 := fault_s hfu h hn0 hn hsz hb
  have r3 : f2_read fu 9 M = some M2 := by
    unfold f2_read
    exact a1.trans b1
  unfold f4_street
  rw [textAt_in (by omega)]
  simp (disch := omega) only [lit, nlt, nle, neq, nI_add, pk_mul, nm_u, bS, gd_d, oc_none, oc_some, rd_n, wr_n, if_pos, if_neg, ite_true, ite_false, not_true_eq_false, not_false_eq_true, g1, g2, g3, g4, h1, h2, h3, h4, r1, r2, r3, c1, d1]
end TX
