/-! 42: the row of the best set -/
theorem cnt_le (n : Nat) (f : Nat → Bool) : cnt n f ≤ n := by
  induction n with
  | zero => exact Nat.le_refl 0
  | succ n ih => rw [cnt_s]; split <;> omega
theorem cnt_cg {n : Nat} {f g : Nat → Bool} (h : ∀ k, k < n → f k = g k) : cnt n f = cnt n g := by
  induction n with
  | zero => rfl
  | succ n ih => rw [cnt_s, cnt_s, ih (fun k hk => h k (by omega)), h n (by omega)]
theorem cnt_add {n : Nat} {f g o : Nat → Bool} (h : ∀ k, k < n → (o k = (f k || g k)) ∧ (f k && g k) = false) : cnt n o = cnt n f + cnt n g := by
  induction n with
  | zero => rfl
  | succ n ih =>
    have i := ih (fun k hk => h k (by omega))
    obtain ⟨lh1, lh2⟩ := h n (by omega)
    rw [cnt_s, cnt_s, cnt_s, lh1]
    cases hf : f n <;> cases hg : g n
    · simp; omega
    · simp; omega
    · simp; omega
    · rw [hf, hg] at lh2; cases lh2
def bh (P : PD) (B h j : Nat) : Bool := B.testBit j && (hr P j == h)
def bl (P : PD) (B h j : Nat) : Bool := B.testBit j && decide (hr P j < h)
theorem bl_s (P : PD) (B h n : Nat) : cnt n (bl P B (h + 1)) = cnt n (bl P B h) + cnt n (bh P B h) := by
  refine cnt_add (fun k _ => ?_)
  unfold bl bh
  cases B.testBit k
  · exact ⟨rfl, rfl⟩
  · rcases Nat.lt_trichotomy (hr P k) h with c | c | c
    · have lh1 : hr P k < h + 1 := by omega
      have lh2 : ¬ hr P k = h := by omega
      simp [c, lh1, lh2]
    · subst c; simp
    · have lh1 : ¬ hr P k < h + 1 := by omega
      have lh2 : ¬ hr P k = h := by omega
      have lh3 : ¬ hr P k < h := by omega
      simp [lh1, lh2, lh3]
/-- both rows, c places of them laid -/
def BR (r c : Nat) (MC0 MM0 MC MM : Mem) : Prop := MC.1 r 0 = nI c ∧ (∀ q, q ≠ r → q ≠ r + 10 → MC.1 q = MC0.1 q) ∧ MC.2 = MC0.2 ∧ (∀ q, q ≠ 1 → MM.1 q = MM0.1 q) ∧ (∀ x, x < 40 * r ∨ 40 * r + 40 ≤ x → MM.1 1 x = MM0.1 1 x) ∧ MM.2 = MM0.2 ∧ ∀ i, i < c → MC.1 (r + 10) i = MM.1 1 (40 * r + i)
theorem append_s {M : Mem} {r c : Nat} {v : Int32} (hr : r < 6) (hc : c < 60) (h : M.1 r 0 = nI c) : f0_append r v M = some (sI (sI M (r + 10) c v) r 0 (nI (c + 1))) := by
  have gk : gd (decide (r < 10)) = some () := by
    have : r < 10 := by omega
    simp [gd, this]
  unfold f0_append
  simp (disch := omega) only [lit, nlt, nle, neq, nI_add, pk_mul, nm_u, bS, gd_d, oc_none, oc_some, rd_n, wr_n, if_pos, if_neg, ite_true, ite_false, not_true_eq_false, not_false_eq_true, g1, g2, g3, g4, h1, h2, h3, h4, gk, h]
theorem BR.app {r c : Nat} {v : Int32} {MC0 MM0 MC MM : Mem} (hr : r < 6) (hc : c < 40) (h : BR r c MC0 MM0 MC MM) : BR r (c + 1) MC0 MM0 (sI (sI MC (r + 10) c v) r 0 (nI (c + 1))) (sI MM 1 (40 * r + c) v) := by
  obtain ⟨a1, a2, a3, a4, a5, a6, a7⟩ := h
  refine ⟨g1, fun q lh1 lh2 => by rw [g2 lh1, g2 lh2, a2 q lh1 lh2], a3, fun q lh1 => by rw [g2 lh1, a4 q lh1], fun x hx => by rw [g3 (by omega), a5 x hx], a6, fun i hi => ?_⟩
  rw [g2 (by omega)]
  by_cases e : i = c
  · subst e; rw [g1, g1]
  · rw [g3 e, g3 (by omega), a7 i (by omega)]
section ORD
variable {P : PD} {MC0 MM0 : Mem} {fu r B : Nat}
theorem ord_i {h A : Nat} {kc : Nat → Int32 → Int32 → Mem → Option Mem} {km : Int32 → Int32 → Int32 → Mem → Option (Mem × Int32)} (hP : GP P MC0 MM0) (hr6 : r < 6) (hB : B < 256) (hh : h < 10) : ∀ (e k f1 f2 : Nat) (MC MM : Mem), k + e = P.1 → e < f1 → e < f2 → A + cnt k (bh P B h) + e ≤ 30 → BR r (A + cnt k (bh P B h)) MC0 MM0 MC MM → ∃ MC' MM', BR r (A + cnt P.1 (bh P B h)) MC0 MM0 MC' MM' ∧ f2_orderInto_17 fu kc f1 r (nI B) (nI h) (nI k) MC = kc r (nI B) (nI (h + 1)) MC' ∧ f5_best_65 fu km f2 (nI B) (nI (40 * r + (A + cnt k (bh P B h)))) (nI h) (nI k) MM = km (nI B) (nI (40 * r + (A + cnt P.1 (bh P B h)))) (nI (h + 1)) MM' := by
  have h8 := hP.1
  have gk : gd (decide (r < 10)) = some () := by
    have : r < 10 := by omega
    simp [gd, this]
  intro e
  induction e with
  | zero =>
    intro k f1 f2 MC MM h0 hf1 hf2 hA hb
    rcases f1 with _ | f1
    · omega
    rcases f2 with _ | f2
    · omega
    have : k = P.1 := by omega
    subst this
    have c35 : MC.1 35 0 = nI P.1 := by rw [hb.2.1 35 (by omega) (by omega)]; exact hP.2.1
    have m9 : MM.1 0 9 = nI P.1 := by rw [hb.2.2.2.1 0 (by omega)]; exact hP.2.2.1
    refine ⟨MC, MM, hb, ?_, ?_⟩
    · rw [f2_orderInto_17]
      simp (disch := omega) only [lit, nlt, nle, neq, nI_add, pk_mul, nm_u, bS, gd_d, oc_none, oc_some, rd_n, wr_n, if_pos, if_neg, ite_true, ite_false, not_true_eq_false, not_false_eq_true, g1, g2, g3, g4, h1, h2, h3, h4, c35]
    · rw [f5_best_65]
      simp (disch := omega) only [lit, nlt, nle, neq, nI_add, pk_mul, nm_u, bS, gd_d, oc_none, oc_some, rd_n, wr_n, if_pos, if_neg, ite_true, ite_false, not_true_eq_false, not_false_eq_true, g1, g2, g3, g4, h1, h2, h3, h4, m9]
  | succ e ih =>
    intro k f1 f2 MC MM h0 hf1 hf2 hA hb
    rcases f1 with _ | f1
    · omega
    rcases f2 with _ | f2
    · omega
    have hk : k < P.1 := by omega
    have c35 : MC.1 35 0 = nI P.1 := by rw [hb.2.1 35 (by omega) (by omega)]; exact hP.2.1
    have m9 : MM.1 0 9 = nI P.1 := by rw [hb.2.2.2.1 0 (by omega)]; exact hP.2.2.1
    obtain ⟨hok, -, -, e2, -, -, -, -, -, d1, -, -⟩ := hP.2.2.2.1 k hk
    have c38 : MC.1 38 k = nI (hr P k) := by rw [hb.2.1 38 (by omega) (by omega)]; exact e2
    have m7 : MM.1 7 k = nI (hr P k) := by rw [hb.2.2.2.1 7 (by omega)]; exact d1
    have hhr : hr P k < 10 := hok.2.2.1
    cases c : B.testBit k
    · have q0 : bh P B h k = false := by unfold bh; rw [c]; rfl
      have ih2 := ih (k + 1) f1 f2 MC MM (by omega) (by omega) (by omega)
      rw [cnt_s, q0, if_neg (by decide)] at ih2
      obtain ⟨MC', MM', a1, a2, a3⟩ := ih2 (by omega) hb
      refine ⟨MC', MM', a1, ?_, ?_⟩
      · rw [f2_orderInto_17]
        simp (disch := omega) only [lit, nlt, nle, neq, nI_add, pk_mul, nm_u, bS, gd_d, oc_none, oc_some, rd_n, wr_n, if_pos, if_neg, ite_true, ite_false, not_true_eq_false, not_false_eq_true, g1, g2, g3, g4, h1, h2, h3, h4, ior, iand, shl_n, Nat.or_zero, c35, bit_f c (show k < 31 by omega) (show B < 2147483648 by omega)]
        exact a2
      · rw [f5_best_65]
        simp (disch := omega) only [lit, nlt, nle, neq, nI_add, pk_mul, nm_u, bS, gd_d, oc_none, oc_some, rd_n, wr_n, if_pos, if_neg, ite_true, ite_false, not_true_eq_false, not_false_eq_true, g1, g2, g3, g4, h1, h2, h3, h4, ior, iand, shl_n, Nat.or_zero, m9, hs_f c (show k < 31 by omega) (show B < 2147483648 by omega)]
        exact a3
    · by_cases d : hr P k = h
      · have q0 : bh P B h k = true := by unfold bh; rw [c, d]; simp
        have ih2 := ih (k + 1) f1 f2 (sI (sI MC (r + 10) (A + cnt k (bh P B h)) (nI k)) r 0 (nI (A + cnt k (bh P B h) + 1))) (sI MM 1 (40 * r + (A + cnt k (bh P B h))) (nI k)) (by omega) (by omega) (by omega)
        rw [cnt_s, q0, if_pos rfl, ← Nat.add_assoc] at ih2
        obtain ⟨MC', MM', a1, a2, a3⟩ := ih2 (by omega) (hb.app hr6 (by omega))
        refine ⟨MC', MM', a1, ?_, ?_⟩
        · have ap0 := append_s (M := MC) (r := r) (c := A + cnt k (bh P B h)) (v := nI k) hr6 (by omega) hb.1
          rw [f2_orderInto_17]
          simp (disch := omega) only [lit, nlt, nle, neq, nI_add, pk_mul, nm_u, bS, gd_d, oc_none, oc_some, rd_n, wr_n, if_pos, if_neg, ite_true, ite_false, not_true_eq_false, not_false_eq_true, g1, g2, g3, g4, h1, h2, h3, h4, ior, iand, shl_n, Nat.or_zero, c35, bit_t c (show k < 31 by omega) (show B < 2147483648 by omega), kq9, c38, d, gk, ap0]
          exact a2
        · rw [f5_best_65]
          simp (disch := omega) only [lit, nlt, nle, neq, nI_add, pk_mul, nm_u, bS, gd_d, oc_none, oc_some, rd_n, wr_n, if_pos, if_neg, ite_true, ite_false, not_true_eq_false, not_false_eq_true, g1, g2, g3, g4, h1, h2, h3, h4, ior, iand, shl_n, Nat.or_zero, m9, hs_t c (show k < 31 by omega) (show B < 2147483648 by omega), kq9, m7, d]
          rw [Nat.add_assoc]
          exact a3
      · have q0 : bh P B h k = false := by unfold bh; simp [d]
        have ih2 := ih (k + 1) f1 f2 MC MM (by omega) (by omega) (by omega)
        rw [cnt_s, q0, if_neg (by decide)] at ih2
        obtain ⟨MC', MM', a1, a2, a3⟩ := ih2 (by omega) hb
        refine ⟨MC', MM', a1, ?_, ?_⟩
        · rw [f2_orderInto_17]
          simp (disch := omega) only [lit, nlt, nle, neq, nI_add, pk_mul, nm_u, bS, gd_d, oc_none, oc_some, rd_n, wr_n, if_pos, if_neg, ite_true, ite_false, not_true_eq_false, not_false_eq_true, g1, g2, g3, g4, h1, h2, h3, h4, ior, iand, shl_n, Nat.or_zero, c35, bit_t c (show k < 31 by omega) (show B < 2147483648 by omega), kq9, c38]
          exact a2
        · rw [f5_best_65]
          simp (disch := omega) only [lit, nlt, nle, neq, nI_add, pk_mul, nm_u, bS, gd_d, oc_none, oc_some, rd_n, wr_n, if_pos, if_neg, ite_true, ite_false, not_true_eq_false, not_false_eq_true, g1, g2, g3, g4, h1, h2, h3, h4, ior, iand, shl_n, Nat.or_zero, m9, hs_t c (show k < 31 by omega) (show B < 2147483648 by omega), kq9, m7]
          exact a3
theorem ord_z {h : Nat} {MC : Mem} {kc : Nat → Int32 → Int32 → Mem → Option Mem} (hP : GP P MC0 MM0) (hr6 : r < 6) (hB : B < 256) (hh : 10 ≤ h) (hh2 : h < 13) (hC : ∀ q, q ≠ r → q ≠ r + 10 → MC.1 q = MC0.1 q) : ∀ (e k f1 : Nat), k + e = P.1 → e < f1 → f2_orderInto_17 fu kc f1 r (nI B) (nI h) (nI k) MC = kc r (nI B) (nI (h + 1)) MC := by
  have h8 := hP.1
  have c35 : MC.1 35 0 = nI P.1 := by rw [hC 35 (by omega) (by omega)]; exact hP.2.1
  intro e
  induction e with
  | zero =>
    intro k f1 h0 hf1
    rcases f1 with _ | f1
    · omega
    rw [f2_orderInto_17]
    simp (disch := omega) only [lit, nlt, nle, neq, nI_add, pk_mul, nm_u, bS, gd_d, oc_none, oc_some, rd_n, wr_n, if_pos, if_neg, ite_true, ite_false, not_true_eq_false, not_false_eq_true, g1, g2, g3, g4, h1, h2, h3, h4, c35]
  | succ e ih =>
    intro k f1 h0 hf1
    rcases f1 with _ | f1
    · omega
    have hk : k < P.1 := by omega
    obtain ⟨hok, -, -, e2, -⟩ := hP.2.2.2.1 k hk
    have c38 : MC.1 38 k = nI (hr P k) := by rw [hC 38 (by omega) (by omega)]; exact e2
    have hhr : hr P k < 10 := hok.2.2.1
    have ih2 := ih (k + 1) f1 (by omega) (by omega)
    rw [f2_orderInto_17]
    cases c : B.testBit k
    · simp (disch := omega) only [lit, nlt, nle, neq, nI_add, pk_mul, nm_u, bS, gd_d, oc_none, oc_some, rd_n, wr_n, if_pos, if_neg, ite_true, ite_false, not_true_eq_false, not_false_eq_true, g1, g2, g3, g4, h1, h2, h3, h4, ior, iand, shl_n, Nat.or_zero, c35, bit_f c (show k < 31 by omega) (show B < 2147483648 by omega)]
      exact ih2
    · simp (disch := omega) only [lit, nlt, nle, neq, nI_add, pk_mul, nm_u, bS, gd_d, oc_none, oc_some, rd_n, wr_n, if_pos, if_neg, ite_true, ite_false, not_true_eq_false, not_false_eq_true, g1, g2, g3, g4, h1, h2, h3, h4, ior, iand, shl_n, Nat.or_zero, c35, bit_t c (show k < 31 by omega) (show B < 2147483648 by omega), kq9, c38]
      exact ih2
theorem ord_l (hfu : 10000 ≤ fu) (hP : GP P MC0 MM0) (hr6 : r < 6) (hB : B < 2 ^ P.1) : ∀ (e h f1 f2 : Nat) (MC MM : Mem), h + e = 10 → e + 3 < f1 → e < f2 → BR r (cnt P.1 (bl P B h)) MC0 MM0 MC MM → ∃ MC' MM', BR r (cnt P.1 (bl P B 10)) MC0 MM0 MC' MM' ∧ f2_orderInto_8 fu f1 r (nI B) (nI h) MC = some MC' ∧ f5_best_55 fu f2 (nI B) (nI (40 * r + cnt P.1 (bl P B h))) (nI h) MM = some (sI MM' 0 4 (nI B), zI (sm P B)) := by
  have h8 := hP.1
  have h256 := pow8 h8
  intro e
  induction e with
  | zero =>
    intro h f1 f2 MC MM h0 hf1 hf2 hb
    obtain ⟨f1, rfl⟩ : ∃ f, f1 = f + 4 := ⟨f1 - 4, by omega⟩
    rcases f2 with _ | f2
    · omega
    have : h = 10 := by omega
    subst this
    refine ⟨MC, MM, hb, ?_, ?_⟩
    · have z0 := fun kc => ord_z (fu := fu) (h := 10) (B := B) (kc := kc) hP hr6 (by omega) (by omega) (by omega) hb.2.1 P.1 0 fu (by omega) (by omega)
      have z1 := fun kc => ord_z (fu := fu) (h := 11) (B := B) (kc := kc) hP hr6 (by omega) (by omega) (by omega) hb.2.1 P.1 0 fu (by omega) (by omega)
      have z2 := fun kc => ord_z (fu := fu) (h := 12) (B := B) (kc := kc) hP hr6 (by omega) (by omega) (by omega) hb.2.1 P.1 0 fu (by omega) (by omega)
      rw [f2_orderInto_8]
      simp (disch := omega) only [lit, nlt, nle, neq, nI_add, pk_mul, nm_u, bS, gd_d, oc_none, oc_some, rd_n, wr_n, if_pos, if_neg, ite_true, ite_false, not_true_eq_false, not_false_eq_true, g1, g2, g3, g4, h1, h2, h3, h4, z0]
      rw [f2_orderInto_8]
      simp (disch := omega) only [lit, nlt, nle, neq, nI_add, pk_mul, nm_u, bS, gd_d, oc_none, oc_some, rd_n, wr_n, if_pos, if_neg, ite_true, ite_false, not_true_eq_false, not_false_eq_true, g1, g2, g3, g4, h1, h2, h3, h4, z1]
      rw [f2_orderInto_8]
      simp (disch := omega) only [lit, nlt, nle, neq, nI_add, pk_mul, nm_u, bS, gd_d, oc_none, oc_some, rd_n, wr_n, if_pos, if_neg, ite_true, ite_false, not_true_eq_false, not_false_eq_true, g1, g2, g3, g4, h1, h2, h3, h4, z2]
      rw [f2_orderInto_8]
      simp (disch := omega) only [lit, nlt, nle, neq, nI_add, pk_mul, nm_u, bS, gd_d, oc_none, oc_some, rd_n, wr_n, if_pos, if_neg, ite_true, ite_false, not_true_eq_false, not_false_eq_true, g1, g2, g3, g4, h1, h2, h3, h4]
    · have hP2 : GP P MC MM := hP.cg (fun q hq => hb.2.1 q (by omega) (by omega)) (by rw [hb.2.2.2.1 0 (by omega)]) (fun q hq => hb.2.2.2.1 q (by omega))
      rw [f5_best_55]
      unfold f5_answer
      simp (disch := omega) only [lit, nlt, nle, neq, nI_add, pk_mul, nm_u, bS, gd_d, oc_none, oc_some, rd_n, wr_n, if_pos, if_neg, ite_true, ite_false, not_true_eq_false, not_false_eq_true, g1, g2, g3, g4, h1, h2, h3, h4, worthAll_m hP2 hfu hB]
  | succ e ih =>
    intro h f1 f2 MC MM h0 hf1 hf2 hb
    rcases f1 with _ | f1
    · omega
    rcases f2 with _ | f2
    · omega
    have hc1 := cnt_le P.1 (bl P B h)
    obtain ⟨MC1, MM1, b1, b2, b3⟩ := ord_i (fu := fu) (h := h) (A := cnt P.1 (bl P B h)) (B := B) (r := r) (kc := f2_orderInto_8 fu f1) (km := f5_best_55 fu f2) hP hr6 (by omega) (by omega) P.1 0 fu fu MC MM (by omega) (by omega) (by omega) (by show cnt P.1 (bl P B h) + 0 + P.1 ≤ 30; omega) hb
    rw [← bl_s] at b1 b3
    obtain ⟨MC', MM', a1, a2, a3⟩ := ih (h + 1) f1 f2 MC1 MM1 (by omega) (by omega) (by omega) b1
    refine ⟨MC', MM', a1, ?_, ?_⟩
    · rw [f2_orderInto_8]
      simp (disch := omega) only [lit, nlt, nle, neq, nI_add, pk_mul, nm_u, bS, gd_d, oc_none, oc_some, rd_n, wr_n, if_pos, if_neg, ite_true, ite_false, not_true_eq_false, not_false_eq_true, g1, g2, g3, g4, h1, h2, h3, h4, b2]
      exact a2
    · have b3' : f5_best_65 fu (f5_best_55 fu f2) fu (nI B) (nI (40 * r + cnt P.1 (bl P B h))) (nI h) (nI 0) MM = _ := b3
      rw [f5_best_55]
      simp (disch := omega) only [lit, nlt, nle, neq, nI_add, pk_mul, nm_u, bS, gd_d, oc_none, oc_some, rd_n, wr_n, if_pos, if_neg, ite_true, ite_false, not_true_eq_false, not_false_eq_true, g1, g2, g3, g4, h1, h2, h3, h4, b3']
      exact a3
end ORD
theorem bl_10 {P : PD} {MC MM : Mem} {B : Nat} (hP : GP P MC MM) (hB : B < 2 ^ P.1) : cnt P.1 (bl P B 10) = pcn B := by
  have e : msk P.1 (fun k => B.testBit k) = B := by
    apply Nat.eq_of_testBit_eq
    intro i
    rw [msk_tb]
    by_cases c : i < P.1
    · simp [c]
    · rw [tb_ge hB (by omega)]; simp
  have lh1 := pcn_msk hP.1 (fun k => B.testBit k)
  rw [e] at lh1
  rw [lh1]
  refine cnt_cg (fun k hk => ?_)
  have := (hP.2.2.2.1 k hk).1.2.2.1
  unfold bl
  simp [this]
