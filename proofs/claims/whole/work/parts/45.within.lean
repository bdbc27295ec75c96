/-! 45: within -/
theorem un_and {P : PD} {T H : Nat} : ∀ n, ((fo (stU P T) n 0) &&& H = 0 ↔ ∀ k, k < n → T.testBit k = true → hm P k &&& H = 0) := by
  intro n
  induction n with
  | zero =>
    refine ⟨fun _ k hk => absurd hk (by omega), fun _ => ?_⟩
    show (0 : Nat) &&& H = 0
    exact Nat.zero_and H
  | succ n ih =>
    rw [fo_s]
    unfold stU
    have ih' := ih
    unfold stU at ih'
    by_cases c : T.testBit n = true
    · rw [if_pos c, Nat.and_or_distrib_right]
      constructor
      · intro h k hk hb
        have lh2 := Nat.or_eq_zero_iff.mp h
        by_cases e : k = n
        · subst e; exact lh2.2
        · exact ih'.mp lh2.1 k (by omega) hb
      · intro h
        exact Nat.or_eq_zero_iff.mpr ⟨ih'.mpr (fun k hk hb => h k (by omega) hb), h n (by omega) c⟩
    · rw [if_neg c]
      constructor
      · intro h k hk hb
        by_cases e : k = n
        · subst e; exact absurd hb c
        · exact ih'.mp h k (by omega) hb
      · intro h
        exact ih'.mpr (fun k hk hb => h k (by omega) hb)
theorem tw_and {P : PD} {T H n : Nat} (hn : n ≤ 8) (hT : T < 2 ^ n) : (tw P T).2 &&& H = 0 ↔ ∀ k, k < n → T.testBit k = true → hm P k &&& H = 0 := by
  have e : fo (stU P T) 8 0 = fo (stU P T) n 0 := fo_ext (fun k a hk => by unfold stU; rw [tb_ge hT hk]; rfl) 0 8 hn
  rw [← un_tw, show un P T = fo (stU P T) 8 0 from rfl, e]
  exact un_and n
theorem and_sub {T L : Nat} : T &&& L = T ↔ ∀ k, T.testBit k = true → L.testBit k = true := by
  constructor
  · intro h k hk
    rw [← h, Nat.testBit_and] at hk
    simp at hk
    exact hk.2
  · intro h
    apply Nat.eq_of_testBit_eq
    intro k
    rw [Nat.testBit_and]
    cases c : T.testBit k
    · rfl
    · rw [h k c]; rfl
/-- a set of those that are free: of those that lie, with hours that are free -/
theorem free_iff {P : PD} {T H n : Nat} {q : Nat → Bool} (hn : n ≤ 8) (hT : T < 2 ^ n) : T &&& (msk n q &&& msk n (fun k => hm P k &&& H == 0)) = T ↔ (T &&& msk n q = T ∧ (tw P T).2 &&& H = 0) := by
  rw [tw_and hn hT, and_sub, and_sub]
  constructor
  · intro h
    refine ⟨fun k hk => ?_, fun k hk1 hk => ?_⟩
    · have := h k hk
      rw [Nat.testBit_and] at this
      simp at this
      exact this.1
    · have := h k hk
      rw [Nat.testBit_and, msk_tb (p := fun k => hm P k &&& H == 0)] at this
      simp at this
      exact this.2.2
  · intro h k hk
    have lh1 := h.1 k hk
    have hk1 : k < n := by
      rw [msk_tb] at lh1
      simp at lh1
      exact lh1.1
    rw [Nat.testBit_and, lh1, msk_tb]
    simp [hk1, h.2 k hk1 hk]
section WN
variable {P : PD} {s : Nat → Int32} {MC MM : Mem} {fu h H N : Nat}
theorem wth_t (hfu : 10000 ≤ fu) (hP : GP P MC MM) (hH : H < 8192) : ∀ (e i f W : Nat), i + e = 2 ^ P.1 → e < f → (msk P.1 (lyB s) &&& msk P.1 (fun k => hm P k &&& H == 0)) < i → W < 2 ^ P.1 → f5_within_48 fu f (nI N) (nI (msk P.1 (lyB s))) (nI H) (nI W) (nI i) MM = some (sI MM 0 4 (nI W), zI (sm P W)) := by
  have h8 := hP.1
  have h256 := pow8 h8
  intro e
  induction e with
  | zero =>
    intro i f W hi hf hF hW
    rcases f with _ | f
    · omega
    have : i = 2 ^ P.1 := by omega
    subst this
    rw [f5_within_48]
    unfold f5_answer
    simp (disch := omega) only [lit, nlt, nle, neq, nI_add, pk_mul, nm_u, bS, gd_d, oc_none, oc_some, rd_n, wr_n, if_pos, if_neg, ite_true, ite_false, not_true_eq_false, not_false_eq_true, g1, g2, g3, g4, h1, h2, h3, h4, ior, iand, shl_n, Nat.or_zero, hP.2.2.1, worthAll_m hP hfu hW]
  | succ e ih =>
    intro i f W hi hf hF hW
    rcases f with _ | f
    · omega
    have hi2 : i < 2 ^ P.1 := by omega
    have nf : ¬ (i &&& msk P.1 (lyB s) = i ∧ (tw P i).2 &&& H = 0) := by
      intro q
      have q2 := (free_iff h8 hi2).mpr q
      have := Nat.and_le_right (n := i) (m := msk P.1 (lyB s) &&& msk P.1 (fun k => hm P k &&& H == 0))
      omega
    have b1 := smb hP hi2
    have b2 := smb hP hW
    have hI := ih (i + 1) f W (by omega) (by omega) (by omega) hW
    rw [f5_within_48]
    unfold f5_within_109
    by_cases c : i &&& msk P.1 (lyB s) = i
    · by_cases d : sm P i ≤ sm P W
      · simp (disch := omega) only [lit, nlt, nle, neq, nI_add, pk_mul, nm_u, bS, gd_d, oc_none, oc_some, rd_n, wr_n, if_pos, if_neg, ite_true, ite_false, not_true_eq_false, not_false_eq_true, g1, g2, g3, g4, h1, h2, h3, h4, ior, iand, shl_n, Nat.or_zero, hP.2.2.1, andnot, sub_t c, worthAll_m hP hfu hi2, worthAll_m hP hfu hW, zle]
        exact hI
      · cases b : apt P i
        · simp (disch := omega) only [lit, nlt, nle, neq, nI_add, pk_mul, nm_u, bS, gd_d, oc_none, oc_some, rd_n, wr_n, if_pos, if_neg, ite_true, ite_false, not_true_eq_false, not_false_eq_true, g1, g2, g3, g4, h1, h2, h3, h4, ior, iand, shl_n, Nat.or_zero, hP.2.2.1, andnot, sub_t c, worthAll_m hP hfu hi2, worthAll_m hP hfu hW, zle, clash_m hP hfu hi2, b, Bool.false_eq_true, kq9]
          exact hI
        · have nz : ¬ (tw P i).2 &&& H = 0 := fun q => nf ⟨c, q⟩
          have hlt : (tw P i).2 &&& H < 8192 := Nat.lt_of_le_of_lt Nat.and_le_right hH
          simp (disch := omega) only [lit, nlt, nle, neq, nI_add, pk_mul, nm_u, bS, gd_d, oc_none, oc_some, rd_n, wr_n, if_pos, if_neg, ite_true, ite_false, not_true_eq_false, not_false_eq_true, g1, g2, g3, g4, h1, h2, h3, h4, ior, iand, shl_n, Nat.or_zero, hP.2.2.1, andnot, sub_t c, worthAll_m hP hfu hi2, worthAll_m hP hfu hW, zle, clash_m hP hfu hi2, b, hoursAll_0 hP hfu hi2]
          exact hI
    · simp (disch := omega) only [lit, nlt, nle, neq, nI_add, pk_mul, nm_u, bS, gd_d, oc_none, oc_some, rd_n, wr_n, if_pos, if_neg, ite_true, ite_false, not_true_eq_false, not_false_eq_true, g1, g2, g3, g4, h1, h2, h3, h4, ior, iand, shl_n, Nat.or_zero, hP.2.2.1, andnot, sub_f (show i < 256 by omega) c]
      exact hI
theorem s24_s24 {M : Mem} {p i : Nat} {v w : Int32} : sI (sI M p i v) p i w = sI M p i w := by
  unfold sI
  congr 1
  funext q
  by_cases e : q = p
  · subst e
    rw [if_pos rfl, if_pos rfl]
    funext j
    unfold upd
    split
    · rfl
    · rename_i hj
      show (if q = q then (fun j => if j = i then v else M.1 q j) else M.1 q) j = M.1 q j
      rw [if_pos rfl]
      exact if_neg hj
  · rw [if_neg e, if_neg e]
    exact if_neg e
theorem wth_l (hfu : 10000 ≤ fu) (hP : GP P MC MM) (hg : gst P.1 s) (hs : ∀ j, j ≤ P.1 → MM.1 10 j = s j) (hp : pic P s (MC.1 33 2) (MC.1 33 3) (MC.1 33 4) (MC.1 34)) (hH : H < 8192) (hN : N ≤ 20) (h0 : s 0 = nI h) (hh : h < 10) (F : Nat) (hF : F = msk P.1 (lyB s) &&& msk P.1 (fun k => hm P k &&& H == 0)) : ∀ (e i f1 f2 W : Nat) (v : Int32), i + e = F + 1 → e < f1 → e + 257 < f2 → 1 ≤ i → W < 2 ^ P.1 → ∃ V v', f4_within_63 fu f1 (nI N) (nI F) (zI (sm P W)) (nI W) (nI i) MC = some (sI MC 28 6 (nI V), zI (sm P V)) ∧ f5_within_48 fu f2 (nI N) (nI (msk P.1 (lyB s))) (nI H) (nI W) (nI i) (sI MM 0 24 v) = some (sI (sI MM 0 24 v') 0 4 (nI V), zI (sm P V)) := by
  have h8 := hP.1
  have h256 := pow8 h8
  have hFl : F < 2 ^ P.1 := by
    rw [hF]
    exact Nat.lt_of_le_of_lt Nat.and_le_left (msk_lt P.1 (lyB s))
  intro e
  induction e with
  | zero =>
    intro i f1 f2 W v hi hf1 hf2 hi1 hW
    rcases f1 with _ | f1
    · omega
    have hPv : GP P MC (sI MM 0 24 v) := hP.cg (fun _ _ => rfl) (g3 (by omega)) (fun q hq => g2 (by omega))
    refine ⟨W, v, ?_, wth_t hfu hPv hH (2 ^ P.1 - i) i f2 W (by omega) (by omega) (by omega) hW⟩
    rw [f4_within_63]
    simp (disch := omega) only [lit, nlt, nle, neq, nI_add, pk_mul, nm_u, bS, gd_d, oc_none, oc_some, rd_n, wr_n, if_pos, if_neg, ite_true, ite_false, not_true_eq_false, not_false_eq_true, g1, g2, g3, g4, h1, h2, h3, h4, ior, iand, shl_n, Nat.or_zero]
  | succ e ih =>
    intro i f1 f2 W v hi hf1 hf2 hi1 hW
    rcases f1 with _ | f1
    · omega
    rcases f2 with _ | f2
    · omega
    have hPv : GP P MC (sI MM 0 24 v) := hP.cg (fun _ _ => rfl) (g3 (by omega)) (fun q hq => g2 (by omega))
    have hi2 : i < 2 ^ P.1 := by omega
    have b1 := smb hP hi2
    have b2 := smb hP hW
    have fi := free_iff (P := P) (T := i) (H := H) (q := lyB s) h8 hi2
    rw [← hF] at fi
    obtain ⟨V, v', a1, a2⟩ := ih (i + 1) f1 f2 W v (by omega) (by omega) (by omega) (by omega) hW
    by_cases c : i &&& msk P.1 (lyB s) = i
    · by_cases d : sm P i ≤ sm P W
      · refine ⟨V, v', ?_, ?_⟩
        · rw [f4_within_63]
          unfold f4_within_103
          by_cases cF : i &&& F = i
          · cases b : apt P i
            · simp (disch := omega) only [lit, nlt, nle, neq, nI_add, pk_mul, nm_u, bS, gd_d, oc_none, oc_some, rd_n, wr_n, if_pos, if_neg, ite_true, ite_false, not_true_eq_false, not_false_eq_true, g1, g2, g3, g4, h1, h2, h3, h4, ior, iand, shl_n, Nat.or_zero, andnot, sub_t cF, apart_c hP hi2, b, Bool.false_eq_true]
              exact a1
            · simp (disch := omega) only [lit, nlt, nle, neq, nI_add, pk_mul, nm_u, bS, gd_d, oc_none, oc_some, rd_n, wr_n, if_pos, if_neg, ite_true, ite_false, not_true_eq_false, not_false_eq_true, g1, g2, g3, g4, h1, h2, h3, h4, ior, iand, shl_n, Nat.or_zero, andnot, sub_t cF, apart_c hP hi2, b, kq9, sum_c hP hi2, zle]
              exact a1
          · simp (disch := omega) only [lit, nlt, nle, neq, nI_add, pk_mul, nm_u, bS, gd_d, oc_none, oc_some, rd_n, wr_n, if_pos, if_neg, ite_true, ite_false, not_true_eq_false, not_false_eq_true, g1, g2, g3, g4, h1, h2, h3, h4, ior, iand, shl_n, Nat.or_zero, andnot, sub_f (show i < 256 by omega) cF]
            exact a1
        · rw [f5_within_48]
          unfold f5_within_109
          simp (disch := omega) only [lit, nlt, nle, neq, nI_add, pk_mul, nm_u, bS, gd_d, oc_none, oc_some, rd_n, wr_n, if_pos, if_neg, ite_true, ite_false, not_true_eq_false, not_false_eq_true, g1, g2, g3, g4, h1, h2, h3, h4, ior, iand, shl_n, Nat.or_zero, hP.2.2.1, andnot, sub_t c, worthAll_m hPv hfu hi2, worthAll_m hPv hfu hW, zle]
          exact a2
      · cases b : apt P i
        · refine ⟨V, v', ?_, ?_⟩
          · rw [f4_within_63]
            unfold f4_within_103
            by_cases cF : i &&& F = i
            · simp (disch := omega) only [lit, nlt, nle, neq, nI_add, pk_mul, nm_u, bS, gd_d, oc_none, oc_some, rd_n, wr_n, if_pos, if_neg, ite_true, ite_false, not_true_eq_false, not_false_eq_true, g1, g2, g3, g4, h1, h2, h3, h4, ior, iand, shl_n, Nat.or_zero, andnot, sub_t cF, apart_c hP hi2, b, Bool.false_eq_true]
              exact a1
            · simp (disch := omega) only [lit, nlt, nle, neq, nI_add, pk_mul, nm_u, bS, gd_d, oc_none, oc_some, rd_n, wr_n, if_pos, if_neg, ite_true, ite_false, not_true_eq_false, not_false_eq_true, g1, g2, g3, g4, h1, h2, h3, h4, ior, iand, shl_n, Nat.or_zero, andnot, sub_f (show i < 256 by omega) cF]
              exact a1
          · rw [f5_within_48]
            unfold f5_within_109
            simp (disch := omega) only [lit, nlt, nle, neq, nI_add, pk_mul, nm_u, bS, gd_d, oc_none, oc_some, rd_n, wr_n, if_pos, if_neg, ite_true, ite_false, not_true_eq_false, not_false_eq_true, g1, g2, g3, g4, h1, h2, h3, h4, ior, iand, shl_n, Nat.or_zero, hP.2.2.1, andnot, sub_t c, worthAll_m hPv hfu hi2, worthAll_m hPv hfu hW, zle, clash_m hPv hfu hi2, b, Bool.false_eq_true, kq9]
            exact a2
        · have hlt : (tw P i).2 &&& H < 8192 := Nat.lt_of_le_of_lt Nat.and_le_right hH
          by_cases z : (tw P i).2 &&& H = 0
          · have cF : i &&& F = i := fi.mpr ⟨c, z⟩
            obtain ⟨lo, hi', e1, e2, e3, e4, e5⟩ := ways_cm (fu := fu) (MC := MC) (MM := sI MM 0 24 v) hfu h8 hi2 (show i ≠ 0 by omega) hP.2.1 (lies_at hg hp c) (by rw [g3 (by omega)]; exact hP.2.2.1) (by rw [g2 (by omega)]; exact hs) h0 hh
            have d1 := dst_lt (a := h) (b := lo) hh (by omega)
            have d2 := dst_lt (a := h) (b := hi') hh e2
            have r := stepsFor_c (fu := fu) (MC := MC) (T := i) (by omega) (by omega) e1 e2 hh (by rw [hp.1, h0]) e3 e4
            have hD : (if dst h lo + (hi' - lo) < dst h hi' + (hi' - lo) then dst h lo + (hi' - lo) else dst h hi' + (hi' - lo)) < 40 := by
              split <;> omega
            rw [s24_s24] at e5
            generalize (if dst h lo + (hi' - lo) < dst h hi' + (hi' - lo) then nI hi' else nI lo) = w at e5
            generalize (if dst h lo + (hi' - lo) < dst h hi' + (hi' - lo) then dst h lo + (hi' - lo) else dst h hi' + (hi' - lo)) = D at e5 r hD
            by_cases y : N < D
            · obtain ⟨V, v', a1, a2⟩ := ih (i + 1) f1 f2 W w (by omega) (by omega) (by omega) (by omega) hW
              refine ⟨V, v', ?_, ?_⟩
              · rw [f4_within_63]
                unfold f4_within_103
                simp (disch := omega) only [lit, nlt, nle, neq, nI_add, pk_mul, nm_u, bS, gd_d, oc_none, oc_some, rd_n, wr_n, if_pos, if_neg, ite_true, ite_false, not_true_eq_false, not_false_eq_true, g1, g2, g3, g4, h1, h2, h3, h4, ior, iand, shl_n, Nat.or_zero, andnot, sub_t cF, apart_c hP hi2, b, kq9, sum_c hP hi2, zle, r]
                exact a1
              · rw [f5_within_48]
                unfold f5_within_109
                simp (disch := omega) only [lit, nlt, nle, neq, nI_add, pk_mul, nm_u, bS, gd_d, oc_none, oc_some, rd_n, wr_n, if_pos, if_neg, ite_true, ite_false, not_true_eq_false, not_false_eq_true, g1, g2, g3, g4, h1, h2, h3, h4, ior, iand, shl_n, Nat.or_zero, hP.2.2.1, andnot, sub_t c, worthAll_m hPv hfu hi2, worthAll_m hPv hfu hW, zle, clash_m hPv hfu hi2, b, hoursAll_0 hPv hfu hi2, z, kq9, e5]
                exact a2
            · obtain ⟨V, v', a1, a2⟩ := ih (i + 1) f1 f2 i w (by omega) (by omega) (by omega) (by omega) hi2
              refine ⟨V, v', ?_, ?_⟩
              · rw [f4_within_63]
                unfold f4_within_103
                simp (disch := omega) only [lit, nlt, nle, neq, nI_add, pk_mul, nm_u, bS, gd_d, oc_none, oc_some, rd_n, wr_n, if_pos, if_neg, ite_true, ite_false, not_true_eq_false, not_false_eq_true, g1, g2, g3, g4, h1, h2, h3, h4, ior, iand, shl_n, Nat.or_zero, andnot, sub_t cF, apart_c hP hi2, b, kq9, sum_c hP hi2, zle, r]
                exact a1
              · rw [f5_within_48]
                unfold f5_within_109
                simp (disch := omega) only [lit, nlt, nle, neq, nI_add, pk_mul, nm_u, bS, gd_d, oc_none, oc_some, rd_n, wr_n, if_pos, if_neg, ite_true, ite_false, not_true_eq_false, not_false_eq_true, g1, g2, g3, g4, h1, h2, h3, h4, ior, iand, shl_n, Nat.or_zero, hP.2.2.1, andnot, sub_t c, worthAll_m hPv hfu hi2, worthAll_m hPv hfu hW, zle, clash_m hPv hfu hi2, b, hoursAll_0 hPv hfu hi2, z, kq9, e5]
                exact a2
          · have cF : ¬ i &&& F = i := fun q => z (fi.mp q).2
            refine ⟨V, v', ?_, ?_⟩
            · rw [f4_within_63]
              unfold f4_within_103
              simp (disch := omega) only [lit, nlt, nle, neq, nI_add, pk_mul, nm_u, bS, gd_d, oc_none, oc_some, rd_n, wr_n, if_pos, if_neg, ite_true, ite_false, not_true_eq_false, not_false_eq_true, g1, g2, g3, g4, h1, h2, h3, h4, ior, iand, shl_n, Nat.or_zero, andnot, sub_f (show i < 256 by omega) cF]
              exact a1
            · rw [f5_within_48]
              unfold f5_within_109
              simp (disch := omega) only [lit, nlt, nle, neq, nI_add, pk_mul, nm_u, bS, gd_d, oc_none, oc_some, rd_n, wr_n, if_pos, if_neg, ite_true, ite_false, not_true_eq_false, not_false_eq_true, g1, g2, g3, g4, h1, h2, h3, h4, ior, iand, shl_n, Nat.or_zero, hP.2.2.1, andnot, sub_t c, worthAll_m hPv hfu hi2, worthAll_m hPv hfu hW, zle, clash_m hPv hfu hi2, b, hoursAll_0 hPv hfu hi2]
              exact a2
    · have cF : ¬ i &&& F = i := fun q => c (fi.mp q).1
      refine ⟨V, v', ?_, ?_⟩
      · rw [f4_within_63]
        unfold f4_within_103
        simp (disch := omega) only [lit, nlt, nle, neq, nI_add, pk_mul, nm_u, bS, gd_d, oc_none, oc_some, rd_n, wr_n, if_pos, if_neg, ite_true, ite_false, not_true_eq_false, not_false_eq_true, g1, g2, g3, g4, h1, h2, h3, h4, ior, iand, shl_n, Nat.or_zero, andnot, sub_f (show i < 256 by omega) cF]
        exact a1
      · rw [f5_within_48]
        unfold f5_within_109
        simp (disch := omega) only [lit, nlt, nle, neq, nI_add, pk_mul, nm_u, bS, gd_d, oc_none, oc_some, rd_n, wr_n, if_pos, if_neg, ite_true, ite_false, not_true_eq_false, not_false_eq_true, g1, g2, g3, g4, h1, h2, h3, h4, ior, iand, shl_n, Nat.or_zero, hP.2.2.1, andnot, sub_f (show i < 256 by omega) c]
        exact a2
end WN
theorem s24_id {M : Mem} {p i : Nat} : sI M p i (M.1 p i) = M := by
  unfold sI
  have : (fun q => if q = p then upd (M.1 q) i (M.1 p i) else M.1 q) = M.1 := by
    funext q
    by_cases e : q = p
    · subst e
      rw [if_pos rfl]
      funext j
      unfold upd
      split
      · rename_i hj; rw [hj]
      · rfl
    · rw [if_neg e]
  rw [this]
theorem s_within {fu : Nat} (hfu : 10000 ≤ fu) : Sim_within fu Rel := by
  intro MC MM a0 hR
  obtain ⟨P, s, hP, hg, hs, hp⟩ := hR.nw
  have h8 := hP.1
  have h256 := pow8 h8
  have hone : 1 ≤ 2 ^ P.1 := Nat.one_le_two_pow
  have l20 : (20 : Int64) = (nI 20).toInt64 := by decide
  rcases tri a0 21 (by omega) with h | ⟨N, hN, rfl⟩
  · refine ⟨-1, MC, MM, ?_, ?_, hR⟩
    · unfold f4_within
      rcases h with h | ⟨h0, h⟩
      · simp (disch := omega) only [lit, nlt, nle, neq, nI_add, pk_mul, nm_u, bS, gd_d, oc_none, oc_some, rd_n, wr_n, if_pos, if_neg, ite_true, ite_false, not_true_eq_false, not_false_eq_true, g1, g2, g3, g4, h1, h2, h3, h4, ior, iand, shl_n, Nat.or_zero, h]
      · simp (disch := omega) only [lit, nlt, nle, neq, nI_add, pk_mul, nm_u, bS, gd_d, oc_none, oc_some, rd_n, wr_n, if_pos, if_neg, ite_true, ite_false, not_true_eq_false, not_false_eq_true, g1, g2, g3, g4, h1, h2, h3, h4, ior, iand, shl_n, Nat.or_zero, h0, ge_nle (b := 20) (by omega) h]
    · unfold f5_within
      simp (disch := omega) only [lit, nlt, nle, neq, nI_add, pk_mul, nm_u, bS, gd_d, oc_none, oc_some, rd_n, wr_n, if_pos, if_neg, ite_true, ite_false, not_true_eq_false, not_false_eq_true, g1, g2, g3, g4, h1, h2, h3, h4, ior, iand, shl_n, Nat.or_zero, l20, in_out (n := 20) (by omega) h]
  by_cases hn : P.1 = 0
  · refine ⟨-4, MC, MM, ?_, ?_, hR⟩
    · unfold f4_within
      simp (disch := omega) only [lit, nlt, nle, neq, nI_add, pk_mul, nm_u, bS, gd_d, oc_none, oc_some, rd_n, wr_n, if_pos, if_neg, ite_true, ite_false, not_true_eq_false, not_false_eq_true, g1, g2, g3, g4, h1, h2, h3, h4, ior, iand, shl_n, Nat.or_zero, hP.2.1]
    · unfold f5_within
      simp (disch := omega) only [lit, nlt, nle, neq, nI_add, pk_mul, nm_u, bS, gd_d, oc_none, oc_some, rd_n, wr_n, if_pos, if_neg, ite_true, ite_false, not_true_eq_false, not_false_eq_true, g1, g2, g3, g4, h1, h2, h3, h4, ior, iand, shl_n, Nat.or_zero, l20, in_in (n := 20), kq9, hP.2.2.1]
  obtain ⟨h, hh, h0⟩ := hg.1
  have t1 := those_m (w := -nI 1) hfu h8 hP.2.2.1 hs (by decide)
  have t9 := those_9 hfu h8 hP.2.2.1 hg hs
  have hlt := msk_lt P.1 (fun k => s (k + 1) == -nI 1)
  have hh1 := hp.2.1
  generalize msk P.1 (fun k => s (k + 1) == -nI 1) = S at hlt hh1 t1
  have hH := (tw_b hP hlt).2
  have ap0 := apartFrom_c (fu := fu) (M := MC) (h := hm P) (b := (tw P S).2) hfu h8 hP.2.1 (fun k hk => (hP.2.2.2.1 k hk).2.2.2.2.2.2.1) hH
  have hW0 : (0 : Nat) < 2 ^ P.1 := by omega
  obtain ⟨V, v', a1, a2⟩ := wth_l (fu := fu) (H := (tw P S).2) (N := N) hfu hP hg hs hp hH (by omega) h0 hh _ rfl (msk P.1 (lyB s) &&& msk P.1 (fun k => hm P k &&& (tw P S).2 == 0)) 1 fu (fu - 1) 0 (MM.1 0 24) (by omega) (by
      have := Nat.and_le_left (n := msk P.1 (lyB s)) (m := msk P.1 (fun k => hm P k &&& (tw P S).2 == 0))
      have := msk_lt P.1 (lyB s)
      omega) (by
      have := Nat.and_le_left (n := msk P.1 (lyB s)) (m := msk P.1 (fun k => hm P k &&& (tw P S).2 == 0))
      have := msk_lt P.1 (lyB s)
      omega) (by omega) hW0
  rw [s24_id] at a2
  rw [sm_0] at a1
  have z0 : zI 0 = nI 0 := rfl
  rw [z0] at a1
  refine ⟨zI (sm P V), sI MC 28 6 (nI V), sI (sI MM 0 24 v') 0 4 (nI V), ?_, ?_, (hR.s24 _).tell _⟩
  · unfold f4_within
    simp (disch := omega) only [lit, nlt, nle, neq, nI_add, pk_mul, nm_u, bS, gd_d, oc_none, oc_some, rd_n, wr_n, if_pos, if_neg, ite_true, ite_false, not_true_eq_false, not_false_eq_true, g1, g2, g3, g4, h1, h2, h3, h4, ior, iand, shl_n, Nat.or_zero, hP.2.1, lying_c hP hp, hh1, hours_c hP hlt, ap0, iand]
    exact a1
  · obtain ⟨g, hgf⟩ : ∃ g, fu = g + 1 := ⟨fu - 1, by omega⟩
    have step : f5_within_48 fu fu (nI N) (nI (msk P.1 (lyB s))) (nI (tw P S).2) (nI 0) (nI 0) MM = f5_within_48 fu (fu - 1) (nI N) (nI (msk P.1 (lyB s))) (nI (tw P S).2) (nI 0) (nI 1) MM := by
      have e1 : f5_within_48 fu (g + 1) (nI N) (nI (msk P.1 (lyB s))) (nI (tw P S).2) (nI 0) (nI 0) MM = f5_within_48 fu g (nI N) (nI (msk P.1 (lyB s))) (nI (tw P S).2) (nI 0) (nI 1) MM := by
        rw [f5_within_48]
        unfold f5_within_109
        have le0 : (zI (sm P 0) ≤ zI (sm P 0)) = True := eq_true (Int32.le_refl _)
        simp (disch := omega) only [lit, nlt, nle, neq, nI_add, pk_mul, nm_u, bS, gd_d, oc_none, oc_some, rd_n, wr_n, if_pos, if_neg, ite_true, ite_false, not_true_eq_false, not_false_eq_true, g1, g2, g3, g4, h1, h2, h3, h4, ior, iand, shl_n, Nat.or_zero, hP.2.2.1, andnot, sub_t (Nat.zero_and (msk P.1 (lyB s))), worthAll_m hP hfu hW0, le0, Nat.zero_add]
      rw [show fu - 1 = g by omega]
      rw [← hgf] at e1
      exact e1
    unfold f5_within
    simp (disch := omega) only [lit, nlt, nle, neq, nI_add, pk_mul, nm_u, bS, gd_d, oc_none, oc_some, rd_n, wr_n, if_pos, if_neg, ite_true, ite_false, not_true_eq_false, not_false_eq_true, g1, g2, g3, g4, h1, h2, h3, h4, ior, iand, shl_n, Nat.or_zero, l20, in_in (n := 20), kq9, hP.2.2.1, t9, t1, hoursAll_0 hP hfu hlt]
    rw [step]
    exact a2
