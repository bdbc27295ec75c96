/-! 23: rows, the best set's row -/
section RW
variable {r n i k : Nat} {M : Mem} {fu : Nat}
theorem row_s (hfu : 10000 ≤ fu) (hr : r < 6) (hn : n ≤ 40) : f4_row fu (nI r) (nI n) M = some (sF (sI M r 0 (nI n)) (r + 10) (fun j => if j < n then nI 0 else M.1 (r + 10) j), nI n) := by
  unfold f4_row f4_makeCells
  rw [rowAt_in hr]
  simp (disch := omega) only [lit, nlt, nle, neq, nI_add, pk_mul, nm_u, bS, gd_d, oc_none, oc_some, rd_n, wr_n, if_pos, if_neg, ite_true, ite_false, not_true_eq_false, not_false_eq_true, g1, g2, g3, g4, h1, h2, h3, h4, begin_s]
theorem lay_s {v : Int32} (hr : r < 6) (e1 : M.1 r 0 = nI k) (hk : k ≤ 40) (hi : i < k) : f4_lay (nI r) (nI i) v M = some (sI (sI M 28 6 (M.1 (r + 10) i)) (r + 10) i v, nI 1) := by
  unfold f4_lay
  rw [rowAt_in hr]
  simp (disch := omega) only [lit, nlt, nle, neq, nI_add, pk_mul, nm_u, bS, gd_d, oc_none, oc_some, rd_n, wr_n, if_pos, if_neg, ite_true, ite_false, not_true_eq_false, not_false_eq_true, g1, g2, g3, g4, h1, h2, h3, h4, refP_in (by omega) e1 (by omega) hi, cellAt_in, setCell_in]
theorem at_s (hr : r < 6) (e1 : M.1 r 0 = nI k) (hk : k ≤ 40) (hi : i < k) : f4_at (nI r) (nI i) M = some (sI M 28 6 (M.1 (r + 10) i), nI 1) := by
  unfold f4_at
  rw [rowAt_in hr]
  simp (disch := omega) only [lit, nlt, nle, neq, nI_add, pk_mul, nm_u, bS, gd_d, oc_none, oc_some, rd_n, wr_n, if_pos, if_neg, ite_true, ite_false, not_true_eq_false, not_false_eq_true, g1, g2, g3, g4, h1, h2, h3, h4, refP_in (by omega) e1 (by omega) hi, cellAt_in]
theorem at_out (hr : r < 6) (e1 : M.1 r 0 = nI k) (hk : k ≤ 40) (hi : k ≤ i) (hi2 : i < 2147483648) : f4_at (nI r) (nI i) M = some (sI (sI M 28 5 (nI 2)) 32 2 (M.1 32 2 + nI 1), -nI 3) := by
  have ho : outs (nI i) k := by
    refine Or.inr ⟨?_, ?_⟩
    · simp (disch := omega) only [nlt]; omega
    · simp (disch := omega) only [nle]; omega
  unfold f4_at
  rw [rowAt_in hr]
  simp (disch := omega) only [lit, nlt, nle, neq, nI_add, pk_mul, nm_u, bS, gd_d, oc_none, oc_some, rd_n, wr_n, if_pos, if_neg, ite_true, ite_false, not_true_eq_false, not_false_eq_true, g1, g2, g3, g4, h1, h2, h3, h4, refP_out (by omega) e1 (by omega) ho, m3_eq]
end RW
theorem cnt_mono {f : Nat → Bool} {k n : Nat} (h : k ≤ n) : cnt k f ≤ cnt n f := by
  induction n with
  | zero =>
    have : k = 0 := by omega
    subst this
    exact Nat.le_refl _
  | succ n ih =>
    by_cases e : k = n + 1
    · subst e; exact Nat.le_refl _
    · have := ih (by omega)
      rw [cnt_s]
      split <;> omega
/-- those of a set that begin at an hour; those that begin ahead of it -/
def lvK (P : PD) (B h k : Nat) : List Nat := (List.range k).filter (bh P B h)
def oL (P : PD) (B : Nat) : Nat → List Nat
  | 0 => []
  | h + 1 => oL P B h ++ lvK P B h P.1
theorem lvK_s (P : PD) (B h k : Nat) : lvK P B h (k + 1) = if bh P B h k = true then lvK P B h k ++ [k] else lvK P B h k := by
  unfold lvK
  rw [List.range_succ, List.filter_append]
  cases c : bh P B h k
  · simp [c]
  · simp [c]
theorem lvK_len (P : PD) (B h k : Nat) : (lvK P B h k).length = cnt k (bh P B h) := by
  induction k with
  | zero => rfl
  | succ k ih =>
    rw [lvK_s, cnt_s]
    cases bh P B h k
    · simp [ih]
    · simp [ih]
theorem oL_len (P : PD) (B h : Nat) : (oL P B h).length = cnt P.1 (bl P B h) := by
  induction h with
  | zero => rw [bl_0]; rfl
  | succ h ih =>
    rw [oL, List.length_append, ih, lvK_len, bl_s]
/-- a list, as it stands in a row -/
def RwL (r : Nat) (l : List Nat) (M : Mem) : Prop := M.1 r 0 = nI l.length ∧ ∀ i, i < l.length → M.1 (r + 10) i = nI (l.getD i 0)
theorem RwL.app {r k : Nat} {l : List Nat} {M : Mem} (h : RwL r l M) (hr : r < 6) : RwL r (l ++ [k]) (sI (sI M (r + 10) l.length (nI k)) r 0 (nI (l.length + 1))) := by
  obtain ⟨a, b⟩ := h
  refine ⟨by rw [g1, List.length_append]; rfl, fun i hi => ?_⟩
  rw [List.length_append] at hi
  have hi2 : i < l.length + 1 := hi
  rw [g2 (by omega)]
  by_cases e : i = l.length
  · subst e
    rw [g1]
    simp [List.getD]
  · rw [g3 e, b i (by omega)]
    have : i < l.length := by omega
    rw [List.getD_eq_getElem?_getD, List.getD_eq_getElem?_getD, List.getElem?_append_left this]
/-- what the row's writing leaves -/
def FrM (r : Nat) (M M' : Mem) : Prop := (∀ q, q ≠ r → q ≠ r + 10 → M'.1 q = M.1 q) ∧ M'.2 = M.2
section OB
variable {P : PD} {M0 : Mem} {fu r B : Nat}
theorem ord_in {h : Nat} {kc : Nat → Int32 → Int32 → Mem → Option Mem} (hP : GC P M0) (hr6 : r < 6) (hB : B < 256) (hh : h < 13) : ∀ (e k f : Nat) (M : Mem), k + e = P.1 → e < f → FrM r M0 M → RwL r (oL P B h ++ lvK P B h k) M → ∃ M', FrM r M0 M' ∧ RwL r (oL P B (h + 1)) M' ∧ f2_orderInto_17 fu kc f r (nI B) (nI h) (nI k) M = kc r (nI B) (nI (h + 1)) M' := by
  have h8 := hP.1
  have gk : gd (decide (r < 10)) = some () := by
    have : r < 10 := by omega
    simp [gd, this]
  intro e
  induction e with
  | zero =>
    intro k f M hk hf hF hL
    rcases f with _ | f
    · omega
    have : k = P.1 := by omega
    subst this
    refine ⟨M, hF, hL, ?_⟩
    have e35 : M.1 35 0 = nI P.1 := by rw [hF.1 35 (by omega) (by omega)]; exact hP.2.1
    rw [f2_orderInto_17]
    simp (disch := omega) only [lit, nlt, nle, neq, nI_add, pk_mul, nm_u, bS, gd_d, oc_none, oc_some, rd_n, wr_n, if_pos, if_neg, ite_true, ite_false, not_true_eq_false, not_false_eq_true, g1, g2, g3, g4, h1, h2, h3, h4, ior, iand, shl_n, Nat.or_zero, e35]
  | succ e ih =>
    intro k f M hk hf hF hL
    rcases f with _ | f
    · omega
    have hk1 : k < P.1 := by omega
    obtain ⟨hok, -, -, e38, -⟩ := hP.2.2.2.1 k hk1
    have hr10 := hok.2.2.1
    have e35 : M.1 35 0 = nI P.1 := by rw [hF.1 35 (by omega) (by omega)]; exact hP.2.1
    have e38' : M.1 38 k = nI (hr P k) := by rw [hF.1 38 (by omega) (by omega)]; exact e38
    have hlen : (oL P B h ++ lvK P B h k).length ≤ 8 := by
      rw [List.length_append, oL_len, lvK_len]
      have m1 := cnt_mono (f := bh P B h) (k := k) (n := P.1) (by omega)
      have m2 := bl_s P B h P.1
      have m3 := cnt_le P.1 (bl P B (h + 1))
      omega
    cases c : B.testBit k
    · have e1 : lvK P B h (k + 1) = lvK P B h k := by
        rw [lvK_s, if_neg]
        unfold bh; rw [c]; simp
      obtain ⟨M', b1, b2, b3⟩ := ih (k + 1) f M (by omega) (by omega) hF (by rw [e1]; exact hL)
      refine ⟨M', b1, b2, ?_⟩
      rw [f2_orderInto_17]
      simp (disch := omega) only [lit, nlt, nle, neq, nI_add, pk_mul, nm_u, bS, gd_d, oc_none, oc_some, rd_n, wr_n, if_pos, if_neg, ite_true, ite_false, not_true_eq_false, not_false_eq_true, g1, g2, g3, g4, h1, h2, h3, h4, ior, iand, shl_n, Nat.or_zero, e35, bit_f c (show k < 31 by omega) (by omega)]
      exact b3
    · by_cases ch : hr P k = h
      · have e1 : lvK P B h (k + 1) = lvK P B h k ++ [k] := by
          rw [lvK_s, if_pos]
          unfold bh; rw [c, ch]; simp
        obtain ⟨M', b1, b2, b3⟩ := ih (k + 1) f (sI (sI M (r + 10) (oL P B h ++ lvK P B h k).length (nI k)) r 0 (nI ((oL P B h ++ lvK P B h k).length + 1))) (by omega) (by omega) ⟨fun q q1 q2 => by rw [g2 q1, g2 q2, hF.1 q q1 q2], hF.2⟩ (by rw [e1, ← List.append_assoc]; exact hL.app hr6)
        refine ⟨M', b1, b2, ?_⟩
        have ha := append_s (v := nI k) hr6 (show (oL P B h ++ lvK P B h k).length < 60 by omega) hL.1
        rw [ch] at e38'
        rw [f2_orderInto_17]
        simp (disch := omega) only [lit, nlt, nle, neq, nI_add, pk_mul, nm_u, bS, gd_d, oc_none, oc_some, rd_n, wr_n, if_pos, if_neg, ite_true, ite_false, not_true_eq_false, not_false_eq_true, g1, g2, g3, g4, h1, h2, h3, h4, ior, iand, shl_n, Nat.or_zero, e35, bit_t c (show k < 31 by omega) (by omega), kq9, e38', gk, ha]
        exact b3
      · have e1 : lvK P B h (k + 1) = lvK P B h k := by
          rw [lvK_s, if_neg]
          unfold bh; rw [c]; simp [ch]
        obtain ⟨M', b1, b2, b3⟩ := ih (k + 1) f M (by omega) (by omega) hF (by rw [e1]; exact hL)
        refine ⟨M', b1, b2, ?_⟩
        rw [f2_orderInto_17]
        simp (disch := omega) only [lit, nlt, nle, neq, nI_add, pk_mul, nm_u, bS, gd_d, oc_none, oc_some, rd_n, wr_n, if_pos, if_neg, ite_true, ite_false, not_true_eq_false, not_false_eq_true, g1, g2, g3, g4, h1, h2, h3, h4, ior, iand, shl_n, Nat.or_zero, e35, bit_t c (show k < 31 by omega) (by omega), kq9, e38']
        exact b3
theorem ord_out (hfu : 10000 ≤ fu) (hP : GC P M0) (hr6 : r < 6) (hB : B < 256) : ∀ (e h f : Nat) (M : Mem), h + e = 13 → e < f → FrM r M0 M → RwL r (oL P B h) M → ∃ M', FrM r M0 M' ∧ RwL r (oL P B 13) M' ∧ f2_orderInto_8 fu f r (nI B) (nI h) M = some M' := by
  have h8 := hP.1
  intro e
  induction e with
  | zero =>
    intro h f M hh hf hF hL
    rcases f with _ | f
    · omega
    have : h = 13 := by omega
    subst this
    refine ⟨M, hF, hL, ?_⟩
    rw [f2_orderInto_8]
    simp (disch := omega) only [lit, nlt, nle, neq, nI_add, pk_mul, nm_u, bS, gd_d, oc_none, oc_some, rd_n, wr_n, if_pos, if_neg, ite_true, ite_false, not_true_eq_false, not_false_eq_true, g1, g2, g3, g4, h1, h2, h3, h4]
  | succ e ih =>
    intro h f M hh hf hF hL
    rcases f with _ | f
    · omega
    obtain ⟨M1, b1, b2, b3⟩ := ord_in (fu := fu) (kc := f2_orderInto_8 fu f) hP hr6 hB (show h < 13 by omega) P.1 0 fu M (by omega) (by omega) hF (by show RwL r (oL P B h ++ []) M; rw [List.append_nil]; exact hL)
    obtain ⟨M', c1, c2, c3⟩ := ih (h + 1) f M1 (by omega) (by omega) b1 b2
    refine ⟨M', c1, c2, ?_⟩
    rw [f2_orderInto_8]
    simp (disch := omega) only [lit, nlt, nle, neq, nI_add, pk_mul, nm_u, bS, gd_d, oc_none, oc_some, rd_n, wr_n, if_pos, if_neg, ite_true, ite_false, not_true_eq_false, not_false_eq_true, g1, g2, g3, g4, h1, h2, h3, h4, b3]
    exact c3
end OB
/-- those that aren't swept -/
abbrev tB (P : PD) (s : Nat → Int32) : Nat := msk P.1 (fun k => !(s (k + 1) == -nI 2))
theorem best_s {P : PD} {s : Nat → Int32} {M : Mem} {fu : Nat} (hfu : 10000 ≤ fu) (h : St P s M) : ∃ M', f4_best fu (nI 5) M = some (M', zI (mx P (tB P s))) ∧ M'.1 28 6 = nI (bst P (tB P s) 256) ∧ RwL 5 (oL P (bst P (tB P s) 256) 13) M' ∧ (∀ q, q ≠ 5 → q ≠ 15 → q ≠ 28 → M'.1 q = M.1 q) ∧ M'.2 = M.2 := by
  have hP := h.1
  have h8 := hP.1
  have h256 := pow8 h8
  have hn := h.2.2.2
  have hS := msk_lt P.1 (fun k => !(s (k + 1) == -nI 2))
  have k1 := th_key (n := P.1) (s := s)
  show ∃ M', f4_best fu (nI 5) M = some (M', zI (mx P (msk P.1 (fun k => !(s (k + 1) == -nI 2))))) ∧ M'.1 28 6 = nI (bst P (msk P.1 (fun k => !(s (k + 1) == -nI 2))) 256) ∧ RwL 5 (oL P (bst P (msk P.1 (fun k => !(s (k + 1) == -nI 2))) 256) 13) M' ∧ (∀ q, q ≠ 5 → q ≠ 15 → q ≠ 28 → M'.1 q = M.1 q) ∧ M'.2 = M.2
  generalize msk P.1 (fun k => !(s (k + 1) == -nI 2)) = S at hS k1
  obtain ⟨-, i2, i3, -, -⟩ := bst_inv P S 256
  have hBS := okS_le i2
  have lc := leastOf_c hfu hP hS
  generalize bst P S 256 = B at i2 i3 hBS lc
  have hB : B < 2 ^ P.1 := by omega
  have gk : gd (decide ((5 : Nat) < 10)) = some () := rfl
  obtain ⟨M1, c1, c2, c3, c4⟩ := begin0 (fu := fu) (r := 5) (M := sI M 28 6 (nI B)) hfu (by omega)
  have hP1 : GC P (sI M 28 6 (nI B)) := hP.cg (fun q q1 q2 => g2 (by omega))
  obtain ⟨M2, d1, d2, d3⟩ := ord_out (fu := fu) hfu hP1 (show 5 < 6 by omega) (show B < 256 by omega) 13 0 fu M1 (by omega) (by omega) ⟨c3, c4⟩ ⟨c2, fun i hi => absurd hi (Nat.not_lt_zero _)⟩
  have hP2 : GC P M2 := hP1.cg (fun q q1 q2 => d1.1 q (by omega) (by omega))
  refine ⟨M2, ?_, ?_, d2, fun q q1 q2 q3 => by rw [d1.1 q q1 q2, g2 q3], d1.2⟩
  · unfold f4_best f2_all f2_orderInto
    rw [rowAt_in (by omega)]
    simp (disch := omega) only [lit, nlt, nle, neq, nI_add, pk_mul, nm_u, bS, gd_d, oc_none, oc_some, rd_n, wr_n, if_pos, if_neg, ite_true, ite_false, not_true_eq_false, not_false_eq_true, g1, g2, g3, g4, h1, h2, h3, h4, ior, iand, shl_n, Nat.or_zero, hP.2.1, all2, h.2.2.1.2.2.1, andnot, k1, lc, gk, c1, d3, most_c hP2 hS]
  · rw [d1.1 28 (by omega) (by omega), g1]
