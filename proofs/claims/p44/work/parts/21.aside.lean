/-! 21: busy, clashes, least -/
section AS
variable {P : PD} {s : Nat → Int32} {M : Mem} {fu S : Nat}
theorem hB_lt (h : P.1 ≤ 8) : hB P s < 256 := msk_256 h _
theorem lB_lt (h : P.1 ≤ 8) : lB P s < 256 := msk_256 h _
theorem wB_lt (h : P.1 ≤ 8) : wB P s < 256 := msk_256 h _
theorem busy_l (hfu : 10000 ≤ fu) (hP : GC P M) (hh : M.1 33 3 = nI S) (hlt : S < 2 ^ P.1) : f4_busy fu M = some (sI M 28 6 (nI (tw P S).1), nI (tw P S).2) := by
  have h8 := hP.1
  have h256 := pow8 h8
  have key : ∀ (d i f : Nat), i + d = P.1 → d < f → f4_busy_15 fu f (nI (fo (stT P S) i (0, 0)).2) (nI (fo (stT P S) i (0, 0)).1) (nI i) M = some (sI M 28 6 (nI (tw P S).1), nI (tw P S).2) := by
    intro d
    induction d with
    | zero =>
      intro i f h hf
      rcases f with _ | f
      · omega
      have : i = P.1 := by omega
      subst this
      rw [f4_busy_15, tw_n hlt h8]
      simp (disch := omega) only [lit, nlt, nle, neq, nI_add, pk_mul, nm_u, bS, gd_d, oc_none, oc_some, rd_n, wr_n, if_pos, if_neg, ite_true, ite_false, not_true_eq_false, not_false_eq_true, g1, g2, g3, g4, h1, h2, h3, h4, hP.2.1]
    | succ d ih =>
      intro i f h hf
      rcases f with _ | f
      · omega
      have hi : i < P.1 := by omega
      rw [f4_busy_15]
      have h2 := ih (i + 1) f (by omega) (by omega)
      rw [fo_s] at h2
      obtain ⟨-, -, -, -, -, -, e5, -⟩ := hP.2.2.2.1 i hi
      cases c : S.testBit i
      · have e : stT P S i (fo (stT P S) i (0, 0)) = fo (stT P S) i (0, 0) := by unfold stT; rw [c]; rfl
        rw [e] at h2
        simp (disch := omega) only [lit, nlt, nle, neq, nI_add, pk_mul, nm_u, bS, gd_d, oc_none, oc_some, rd_n, wr_n, if_pos, if_neg, ite_true, ite_false, not_true_eq_false, not_false_eq_true, g1, g2, g3, g4, h1, h2, h3, h4, ior, iand, shl_n, Nat.or_zero, hP.2.1, hh, bit_f c (show i < 31 by omega) (by omega)]
        try exact h2
      · have e : stT P S i (fo (stT P S) i (0, 0)) = ((fo (stT P S) i (0, 0)).1 ||| ((fo (stT P S) i (0, 0)).2 &&& hm P i), (fo (stT P S) i (0, 0)).2 ||| hm P i) := by unfold stT; rw [if_pos c]
        rw [e] at h2
        simp (disch := omega) only [lit, nlt, nle, neq, nI_add, pk_mul, nm_u, bS, gd_d, oc_none, oc_some, rd_n, wr_n, if_pos, if_neg, ite_true, ite_false, not_true_eq_false, not_false_eq_true, g1, g2, g3, g4, h1, h2, h3, h4, ior, iand, shl_n, Nat.or_zero, hP.2.1, hh, bit_t c (show i < 31 by omega) (by omega), e5, iand]
        try exact h2
  unfold f4_busy
  exact key P.1 0 fu (by omega) (by omega)
theorem busy_s (hfu : 10000 ≤ fu) (h : St P s M) : f4_busy fu M = some (sI M 28 6 (nI (tw P (hB P s)).1), nI (tw P (hB P s)).2) := busy_l hfu h.1 h.2.2.1.2.1 (msk_lt _ _)
theorem clashes_s (hfu : 10000 ≤ fu) (h : St P s M) : f4_clashes fu M = some (sI M 28 6 (zI (sm P (hB P s))), nI (prs P (hB P s) P.1)) := by
  have h8 := h.1.1
  unfold f4_clashes
  exact cls_c hfu h.1 h.2.2.1.2.1 (msk_lt _ _) P.1 0 fu (by omega) (by omega)
/-- what least() tells: of these as few as can be, so that the rest doesn't clash -/
def lsV (P : PD) (S V : Nat) : Prop := V &&& S = V ∧ apt P (S ^^^ (S &&& V)) = true ∧ ∀ T, T &&& S = T → apt P (S ^^^ (S &&& T)) = true → pcn V ≤ pcn T
theorem least_l (hfu : 10000 ≤ fu) (hP : GC P M) (hh : M.1 33 3 = nI S) (hS : S < 2 ^ P.1) : ∃ V, lsV P S V ∧ f4_least fu M = some (sI M 28 6 (nI V), nI (pcn V)) := by
  have h8 := hP.1
  have h256 := pow8 h8
  have key : ∀ (e i f F W : Nat), i + e = S + 1 → e < f → ((F = 9 ∧ W = 0) ∨ (W < 256 ∧ W &&& S = W ∧ apt P (S ^^^ (S &&& W)) = true ∧ F = pcn W)) → (∀ T, T < i → T &&& S = T → apt P (S ^^^ (S &&& T)) = true → F ≤ pcn T) → ∃ V, lsV P S V ∧ f4_least_16 fu f (nI F) (nI W) (nI i) M = some (sI M 28 6 (nI V), nI (pcn V)) := by
    intro e
    induction e with
    | zero =>
      intro i f F W h hf hX hm
      rcases f with _ | f
      · omega
      have hSS := hm S (by omega) (Nat.and_self S) (by rw [Nat.and_self, Nat.xor_self]; exact apt_0)
      have hp8 := pcn_le (S := S) (by omega)
      rcases hX with ⟨q, -⟩ | ⟨hW, w1, w2, rfl⟩
      · omega
      refine ⟨W, ⟨w1, w2, fun T t1 t2 => hm T ?_ t1 t2⟩, ?_⟩
      · have : T ≤ S := by rw [← t1]; exact Nat.and_le_right
        omega
      · rw [f4_least_16]
        simp (disch := omega) only [lit, nlt, nle, neq, nI_add, pk_mul, nm_u, bS, gd_d, oc_none, oc_some, rd_n, wr_n, if_pos, if_neg, ite_true, ite_false, not_true_eq_false, not_false_eq_true, g1, g2, g3, g4, h1, h2, h3, h4, ior, iand, shl_n, Nat.or_zero, hh]
    | succ e ih =>
      intro i f F W h hf hX hm
      rcases f with _ | f
      · omega
      have hi : i < 256 := by omega
      have hpi := pcn_le hi
      have hF : F ≤ 9 := by
        rcases hX with ⟨a1, -⟩ | ⟨hW, -, -, a1⟩
        · omega
        · have := pcn_le hW
          omega
      by_cases c : i &&& S = i
      · have hT : S ^^^ (S &&& i) < 2 ^ P.1 := xa_lt hS
        have ap0 := apart_c hP hT
        cases b : apt P (S ^^^ (S &&& i))
        · obtain ⟨V, v1, v2⟩ := ih (i + 1) f F W (by omega) (by omega) hX (fun T t1 t2 t3 => by
            by_cases q : T = i
            · rw [q, b] at t3; cases t3
            · exact hm T (by omega) t2 t3)
          rw [b, if_neg (by decide)] at ap0
          refine ⟨V, v1, ?_⟩
          rw [f4_least_16]
          unfold f4_least_48
          simp (disch := omega) only [lit, nlt, nle, neq, nI_add, pk_mul, nm_u, bS, gd_d, oc_none, oc_some, rd_n, wr_n, if_pos, if_neg, ite_true, ite_false, not_true_eq_false, not_false_eq_true, g1, g2, g3, g4, h1, h2, h3, h4, ior, iand, shl_n, Nat.or_zero, hh, andnot, sub_t c, kq9, ap0]
          exact v2
        · rw [b, if_pos rfl] at ap0
          by_cases q : F ≤ pcn i
          · obtain ⟨V, v1, v2⟩ := ih (i + 1) f F W (by omega) (by omega) hX (fun T t1 t2 t3 => by
              by_cases q2 : T = i
              · rw [q2]; exact q
              · exact hm T (by omega) t2 t3)
            refine ⟨V, v1, ?_⟩
            rw [f4_least_16]
            unfold f4_least_48
            simp (disch := omega) only [lit, nlt, nle, neq, nI_add, pk_mul, nm_u, bS, gd_d, oc_none, oc_some, rd_n, wr_n, if_pos, if_neg, ite_true, ite_false, not_true_eq_false, not_false_eq_true, g1, g2, g3, g4, h1, h2, h3, h4, ior, iand, shl_n, Nat.or_zero, hh, andnot, sub_t c, kq9, ap0, bitC]
            exact v2
          · obtain ⟨V, v1, v2⟩ := ih (i + 1) f (pcn i) i (by omega) (by omega) (Or.inr ⟨hi, c, b, rfl⟩) (fun T t1 t2 t3 => by
              by_cases q2 : T = i
              · rw [q2]; exact Nat.le_refl _
              · have := hm T (by omega) t2 t3
                omega)
            refine ⟨V, v1, ?_⟩
            rw [f4_least_16]
            unfold f4_least_48
            simp (disch := omega) only [lit, nlt, nle, neq, nI_add, pk_mul, nm_u, bS, gd_d, oc_none, oc_some, rd_n, wr_n, if_pos, if_neg, ite_true, ite_false, not_true_eq_false, not_false_eq_true, g1, g2, g3, g4, h1, h2, h3, h4, ior, iand, shl_n, Nat.or_zero, hh, andnot, sub_t c, kq9, ap0, bitC]
            exact v2
      · obtain ⟨V, v1, v2⟩ := ih (i + 1) f F W (by omega) (by omega) hX (fun T t1 t2 t3 => by
          by_cases q : T = i
          · rw [q] at t2; exact absurd t2 c
          · exact hm T (by omega) t2 t3)
        refine ⟨V, v1, ?_⟩
        rw [f4_least_16]
        unfold f4_least_48
        simp (disch := omega) only [lit, nlt, nle, neq, nI_add, pk_mul, nm_u, bS, gd_d, oc_none, oc_some, rd_n, wr_n, if_pos, if_neg, ite_true, ite_false, not_true_eq_false, not_false_eq_true, g1, g2, g3, g4, h1, h2, h3, h4, ior, iand, shl_n, Nat.or_zero, hh, andnot, sub_f hi c]
        exact v2
  unfold f4_least
  exact key (S + 1) 0 fu 9 0 (by omega) (by omega) (Or.inl ⟨rfl, rfl⟩) (fun T t => by omega)
theorem least_s (hfu : 10000 ≤ fu) (h : St P s M) : ∃ V, lsV P (hB P s) V ∧ f4_least fu M = some (sI M 28 6 (nI V), nI (pcn V)) := least_l hfu h.1 h.2.2.1.2.1 (msk_lt _ _)
end AS
