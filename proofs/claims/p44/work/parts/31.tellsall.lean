/-! 31: the law's telling, whole -/
def Zf (P : PD) (M : Mem) : Prop := M.1 47 0 = nI P.1 ∧ ∀ j, j < P.1 → M.1 47 (1 + j) = nI (kd P j) ∧ M.1 47 (25 + j) = nI (lk P j)
theorem Zf.cg {P : PD} {M M' : Mem} (h : Zf P M) (e : M'.1 47 = M.1 47) : Zf P M' := by
  unfold Zf at *
  rw [e]
  exact h
section TA
variable {L fu : Nat} {xs : Nat → Int32}
theorem text_s {M : Mem} (hfu : 10000 ≤ fu) : f4_text fu (nI 3) (nI 60) M = some (sF (sI M 9 0 (nI 60)) 19 (fun j => if j < 60 then nI 32 else M.1 19 j), nI 60) := by
  have b := begin_s (fu := fu) (p := 9) (n := 60) (v := nI 32) (M := M) (by omega) (by omega) hfu
  unfold f4_text f4_makeCells
  rw [textAt_in (by omega)]
  simp (disch := omega) only [lit, nlt, nle, neq, nI_add, pk_mul, nm_u, bS, gd_d, oc_none, oc_some, rd_n, wr_n, if_pos, if_neg, ite_true, ite_false, not_true_eq_false, not_false_eq_true, g1, g2, g3, g4, h1, h2, h3, h4, b]
theorem tl_loop (hL : L ≤ 260) : ∀ (e k f : Nat) (M : Mem), k + e = (tlP L xs).1 → e < f → TL (tlP L xs) (tlA L xs) k M → ∃ M' g, 0 < g ∧ f9_tells_28_S_47_48_88 L xs fu f (nI (tlA L xs k)) (nI k) M = f9_tells_28_S_47_48_88 L xs fu g (nI (tlA L xs (tlP L xs).1)) (nI (tlP L xs).1) M' ∧ TL (tlP L xs) (tlA L xs) (tlP L xs).1 M' := by
  intro e
  induction e with
  | zero =>
    intro k f M hk hf hT
    have : k = (tlP L xs).1 := by omega
    subst this
    exact ⟨M, f, by omega, rfl, hT⟩
  | succ e ih =>
    intro k f M hk hf hT
    rcases f with _ | f
    · omega
    obtain ⟨M1, a1, a2⟩ := tl_pin (fu := fu) (f := f) hL (by omega) hT
    obtain ⟨M2, g, b0, b1, b2⟩ := ih (k + 1) f M1 (by omega) (by omega) a2
    exact ⟨M2, g, b0, a1.trans b1, b2⟩
theorem tl_end {g : Nat} {M : Mem} (hfu : 10000 ≤ fu) (hg : 0 < g) (hT : TL (tlP L xs) (tlA L xs) (tlP L xs).1 M) : ∃ M', f9_tells_28_S_47_48_88 L xs fu g (nI (tlA L xs (tlP L xs).1)) (nI (tlP L xs).1) M = some (M', nI 1) ∧ Iv (tlP L xs) 0 (fun _ => s0P (tlP L xs)) M' ∧ (∀ j, j < 3 → M'.1 (j + 20) 0 = -nI 1) ∧ Zf (tlP L xs) M' := by
  rcases g with _ | g
  · omega
  obtain ⟨t1, t2, t3, t4, t5, t6⟩ := hT
  have hn := tlP_n L xs
  have hX := txF_T L xs
  have hA0 : 0 < tlA L xs (tlP L xs).1 := by
    have := tlA_m L xs (tlP L xs).1 (show 0 < (tlP L xs).1 by omega)
    omega
  have hA1 := tlA_b L xs (tlP L xs).1
  have hok := fun k => tlP_ok L xs k
  generalize tlP L xs = P at *
  generalize tlA L xs = A at *
  have hb : ∀ i, i < 60 → M.1 19 i = txF P A P.1 i := fun i _ => by rw [t2]
  obtain ⟨M', s1, s2, s3, s4, s5⟩ := street_s (fu := fu) hfu hX (by omega) hn.2 t1 hb (by
    rw [t5 43 (by omega) (by omega) (by omega) (by omega), t5 44 (by omega) (by omega) (by omega) (by omega), t5 45 (by omega) (by omega) (by omega) (by omega), t5 46 (by omega) (by omega) (by omega) (by omega)]
    exact ⟨rfl, rfl, rfl, rfl⟩)
  have hZ : Zf P M' := by
    refine ⟨by rw [s4 47 (by omega)]; exact t3, fun j hj => ?_⟩
    rw [s4 47 (by omega)]
    exact t4 j hj
  refine ⟨M', ?_, s2, s3, hZ⟩
  have fl : f4_fault fu (nI 3) M = some (M, -nI 9) := by
    have r1 := refM_k (M := M) (p := 9) (k := 60) (by omega) t1 (by omega)
    have r2 := fault_s hfu hX (by omega) hn.2 t1 hb
    unfold f4_fault
    rw [textAt_in (by omega)]
    simp (disch := omega) only [lit, nlt, nle, neq, nI_add, pk_mul, nm_u, bS, gd_d, oc_none, oc_some, rd_n, wr_n, if_pos, if_neg, ite_true, ite_false, not_true_eq_false, not_false_eq_true, g1, g2, g3, g4, h1, h2, h3, h4, r1, r2]
  have hS : St P (s0P P) M' := s2.1
  have c0 := ct0 (fu := fu) hS
  have c1 := ct1 (fu := fu) hS
  have c2 := ct2 (fu := fu) (M := M')
  have c3 := ct3 (fu := fu) hS
  have c4 := ct4 (fu := fu) hS
  have c5 := ct5 (fu := fu) hS
  have c8 := ct8 (fu := fu) (M := M') (g := fun _ => false) hfu (fun r hr => Or.inl ⟨by rw [show 20 + r = r + 20 by omega]; exact s3 r hr, rfl⟩)
  rw [show s0P P 0 = nI 0 from rfl] at c1
  rw [s2.2.2.1] at c2
  rw [s0_hB (fun k _ => hok k)] at c3
  rw [s0_lB (fun k _ => hok k)] at c4
  rw [s0_wB (fun k _ => hok k)] at c5
  rw [show cnt 3 (fun _ => false) = 0 from rfl] at c8
  have rz : rd M' 47 33 (nI 0) = some (nI P.1) := by rw [rd_n (by omega) (by omega)]; rw [hZ.1]
  have r0 : rd M 47 33 (nI 0) = some (nI P.1) := by rw [rd_n (by omega) (by omega)]; rw [t3]
  have ea : (1 : Int32) <<< (nI P.1 &&& 31) - (1 : Int32) = nI (2 ^ P.1 - 1) := by
    rw [sh1 (by omega)]
    exact pk_sub Nat.one_le_two_pow
  have t0 : nI P.1 ≤ nI P.1 := Int32.le_refl _
  have tA : ¬ nI (A P.1) ≤ (0 : Int32) := by
    show ¬ nI (A P.1) ≤ nI 0
    rw [nle (by omega) (by omega)]; omega
  rw [f9_tells_28_S_47_48_88]
  dsimp only
  rw [show rd M 47 33 (0 : Int32) = _ from r0, bS, if_pos t0, if_neg tA, show f4_fault fu (3 : Int32) M = _ from fl, bS]
  dsimp only
  rw [if_pos (show (-nI 9) = (-9 : Int32) from rfl), show f4_street fu (3 : Int32) M = _ from s1, bS]
  dsimp only
  rw [show rd M' 47 33 (0 : Int32) = _ from rz, bS, if_pos rfl, show f4_count M' fu (0 : Int32) = _ from c0, bS, bS, if_pos rfl, show f4_count M' fu (1 : Int32) = _ from c1, bS, if_pos (show nI 0 = (0 : Int32) from rfl), show f4_count M' fu (2 : Int32) = _ from c2, bS, if_pos (show nI 0 = (0 : Int32) from rfl), show f4_count M' fu (3 : Int32) = _ from c3, bS, if_pos (show nI 0 = (0 : Int32) from rfl), show f4_count M' fu (4 : Int32) = _ from c4, bS, bS, ea, if_pos rfl, show f4_count M' fu (5 : Int32) = _ from c5, bS, if_pos (show nI 0 = (0 : Int32) from rfl), show f4_count M' fu (8 : Int32) = _ from c8, bS, if_pos (show nI 0 = (0 : Int32) from rfl)]
  rfl
theorem tz_3 : ∀ (e i f : Nat) (x : Int32) (M : Mem), i + e = 33 → e < f → ∃ M', f9_tells_28_S_47_48_3 L xs fu f x (nI i) M = f9_tells_28_S_47_48_24 L xs fu fu x (nI 0) M' ∧ (∀ q, q ≠ 47 → M'.1 q = M.1 q) ∧ M'.2 = M.2 := by
  intro e
  induction e with
  | zero =>
    intro i f x M h hf
    rcases f with _ | f
    · omega
    have : i = 33 := by omega
    subst this
    refine ⟨M, ?_, fun _ _ => rfl, rfl⟩
    rw [f9_tells_28_S_47_48_3]
    simp (disch := omega) only [lit, nlt, nle, neq, nI_add, pk_mul, nm_u, bS, gd_d, oc_none, oc_some, rd_n, wr_n, if_pos, if_neg, ite_true, ite_false, not_true_eq_false, not_false_eq_true, g1, g2, g3, g4, h1, h2, h3, h4]
  | succ e ih =>
    intro i f x M h hf
    rcases f with _ | f
    · omega
    obtain ⟨M', a1, a2, a3⟩ := ih (i + 1) f x (sI M 47 i (nI 0)) (by omega) (by omega)
    refine ⟨M', ?_, fun q hq => by rw [a2 q hq, g2 hq], by rw [a3]; rfl⟩
    rw [f9_tells_28_S_47_48_3]
    simp (disch := omega) only [lit, nlt, nle, neq, nI_add, pk_mul, nm_u, bS, gd_d, oc_none, oc_some, rd_n, wr_n, if_pos, if_neg, ite_true, ite_false, not_true_eq_false, not_false_eq_true, g1, g2, g3, g4, h1, h2, h3, h4]
    exact a1
theorem tz_24 : ∀ (e i f : Nat) (x : Int32) (M : Mem), i + e = 9 → e < f → ∃ M' g, f9_tells_28_S_47_48_24 L xs fu f x (nI i) M = f9_tells_28_S_47_48_24 L xs fu (g + 1) x (nI 9) M' ∧ (∀ q, q ≠ 48 → M'.1 q = M.1 q) ∧ M'.2 = M.2 := by
  intro e
  induction e with
  | zero =>
    intro i f x M h hf
    rcases f with _ | f
    · omega
    have : i = 9 := by omega
    subst this
    exact ⟨M, f, rfl, fun _ _ => rfl, rfl⟩
  | succ e ih =>
    intro i f x M h hf
    rcases f with _ | f
    · omega
    obtain ⟨M', g, a1, a2, a3⟩ := ih (i + 1) f x (sI M 48 i (nI 0)) (by omega) (by omega)
    refine ⟨M', g, ?_, fun q hq => by rw [a2 q hq, g2 hq], by rw [a3]; rfl⟩
    rw [f9_tells_28_S_47_48_24]
    simp (disch := omega) only [lit, nlt, nle, neq, nI_add, pk_mul, nm_u, bS, gd_d, oc_none, oc_some, rd_n, wr_n, if_pos, if_neg, ite_true, ite_false, not_true_eq_false, not_false_eq_true, g1, g2, g3, g4, h1, h2, h3, h4]
    exact a1
theorem tells_s (hfu : 10000 ≤ fu) (hL : L ≤ 260) : ∃ M', f9_tells_28_S_47_48 L xs fu (7 : Int32) mc0 = some (M', nI 1) ∧ Iv (tlP L xs) 0 (fun _ => s0P (tlP L xs)) M' ∧ (∀ j, j < 3 → M'.1 (j + 20) 0 = -nI 1) ∧ Zf (tlP L xs) M' := by
  have hn := tlP_n L xs
  obtain ⟨M1, a1, a2, a3⟩ := tz_3 (L := L) (xs := xs) (fu := fu) 33 0 fu (7 : Int32) mc0 (by omega) (by omega)
  obtain ⟨M2, g, b1, b2, b3⟩ := tz_24 (L := L) (xs := xs) (fu := fu) 9 0 fu (7 : Int32) M1 (by omega) (by omega)
  have hc := cv_s (xs := xs) hL (k := 0) (by omega) M2
  have p7 : f9_part (cv L xs 0) (7 : Int32) = some (nI (partV (cv L xs 0) 7)) := partV_s _ (n := 7) (by omega) (by omega)
  have p3 : f9_part (cv L xs 0 >>> ((4 : Int32) &&& 31)) (3 : Int32) = some (nI (tlA L xs 0)) := partV_s _ (n := 3) (by omega) (by omega)
  have e1 : (1 : Int32) + nI (partV (cv L xs 0) 7) = nI (tlP L xs).1 := nI_add 1 _
  have w1 : wr M2 47 33 (nI 0) (nI (tlP L xs).1) = some (sI M2 47 0 (nI (tlP L xs).1)) := wr_n (by omega) (by omega)
  have tx := text_s (fu := fu) (M := sI M2 47 0 (nI (tlP L xs).1)) hfu
  have hT : TL (tlP L xs) (tlA L xs) 0 (sF (sI (sI M2 47 0 (nI (tlP L xs).1)) 9 0 (nI 60)) 19 (fun j => if j < 60 then nI 32 else (sI M2 47 0 (nI (tlP L xs).1)).1 19 j)) := by
    refine ⟨by rw [sF_q (by omega), g1], ?_, by rw [sF_q (by omega), g2 (by omega), g1], fun j hj => by omega, fun q q1 q2 q3 q4 => by rw [sF_q q2, g2 q1, g2 q3, b2 q q4, a2 q q3], by rw [sF_2, g4, g4, b3, a3]⟩
    rw [sF_1, g2 (by omega), b2 19 (by omega), a2 19 (by omega)]
    rfl
  obtain ⟨M3, g3', c0, c1, c2⟩ := tl_loop (L := L) (xs := xs) (fu := fu) hL (tlP L xs).1 0 fu _ (by omega) (by omega) hT
  obtain ⟨M4, d1, d2, d3, d4⟩ := tl_end (fu := fu) hfu c0 c2
  refine ⟨M4, ?_, d2, d3, d4⟩
  unfold f9_tells_28_S_47_48
  refine a1.trans (b1.trans ?_)
  rw [f9_tells_28_S_47_48_24]
  dsimp only
  rw [if_pos (show (9 : Int32) ≤ nI 9 from Int32.le_refl _), show f9_cell_S L xs M2 (0 : Int32) = _ from hc, bS, p7, bS, e1, show wr M2 47 33 (0 : Int32) (nI (tlP L xs).1) = _ from w1, bS, show f4_text fu (3 : Int32) (60 : Int32) _ = _ from tx, bS]
  dsimp only
  rw [if_pos (show nI 60 = (60 : Int32) from rfl), p3, bS]
  exact c1.trans d1
end TA
