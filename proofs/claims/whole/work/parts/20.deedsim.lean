/-! 20: step, pick, drop, sweep -/
theorem ap_cg {n : Nat} {c : Int32} {s t : Nat → Int32} (h : ∀ j, j ≤ n → s j = t j) : ∀ j, j ≤ n → ap c s j = ap c t j := by
  intro j hj
  rcases j with _ | j
  · simp only [ap, h 0 (by omega)]
  · simp only [ap, h 0 (by omega), h (j + 1) hj]
section DD
variable {P : PD} {MC MM MC' MM' : Mem} {fu : Nat}
theorem enact_c {c : Int32} {d : Nat} {s : Nat → Int32} (hfu : 10000 ≤ fu) (hd : d < 40) (hdn : MC.1 23 0 = nI d) (hP : GP P MC MM) (hg : gst P.1 s) (hp : pic P s (MC.1 33 2) (MC.1 33 3) (MC.1 33 4) (MC.1 34)) (hc : okc P.1 c s) : ∃ MC', f3_enact fu c MC = some MC' ∧ pic P (ap c s) (MC'.1 33 2) (MC'.1 33 3) (MC'.1 33 4) (MC'.1 34) ∧ (∀ q, q ≠ 23 → q ≠ 27 → q ≠ 33 → q ≠ 34 → MC'.1 q = MC.1 q) ∧ MC'.1 23 0 = nI (d + 1) ∧ MC'.1 27 = upd (MC.1 27) d c ∧ MC'.2 = MC.2 := by
  have hP2 : GP P (sI (sI MC 27 d c) 23 0 (nI (d + 1))) MM := hP.cg (fun q hq => by rw [g2 (by omega), g2 (by omega)]) rfl (fun _ _ => rfl)
  obtain ⟨MC', h1, h2, h3, h4⟩ := change_c (MC := sI (sI MC 27 d c) 23 0 (nI (d + 1))) hfu hP2 hg (by rw [g2 (by omega), g2 (by omega), g2 (by omega), g2 (by omega)]; exact hp) hc
  refine ⟨MC', ?_, h2, fun q a b e f => by rw [h3 q e f, g2 a, g2 b], by rw [h3 23 (by omega) (by omega), g1], ?_, by rw [h4]; rfl⟩
  · unfold f3_enact
    simp (disch := omega) only [lit, nlt, nle, neq, nI_add, pk_mul, nm_u, bS, gd_d, oc_none, oc_some, rd_n, wr_n, if_pos, if_neg, ite_true, ite_false, not_true_eq_false, not_false_eq_true, g1, g2, g3, g4, h1, h2, h3, h4, hdn, h1]
  · rw [h3 27 (by omega) (by omega), g2 (by omega)]
    simp [sI]
theorem rem_l {MM0 : Mem} {d : Nat} (hd : d < 40) : ∀ (e i f : Nat) (M : Mem), i + e = 9 → e < f → M.1 10 = MM0.1 10 → f5_copies_10_11_3 fu f (nI 0) (nI (9 * d)) (nI 9) (nI i) M = some (sF M 11 (fun x => if 9 * d + i ≤ x ∧ x < 9 * d + 9 then MM0.1 10 (x - 9 * d) else M.1 11 x)) := by
  intro e
  induction e with
  | zero =>
    intro i f M h hf h10
    rcases f with _ | f
    · omega
    rw [f5_copies_10_11_3]
    simp (disch := omega) only [lit, nlt, nle, neq, nI_add, pk_mul, nm_u, bS, gd_d, oc_none, oc_some, rd_n, wr_n, if_pos, if_neg, ite_true, ite_false, not_true_eq_false, not_false_eq_true, g1, g2, g3, g4, h1, h2, h3, h4]
    rw [sF_id]
    intro j
    first | rfl | rw [if_neg (by omega)]
  | succ e ih =>
    intro i f M h hf h10
    rcases f with _ | f
    · omega
    rw [f5_copies_10_11_3]
    simp (disch := omega) only [lit, nlt, nle, neq, nI_add, pk_mul, nm_u, bS, gd_d, oc_none, oc_some, rd_n, wr_n, if_pos, if_neg, ite_true, ite_false, not_true_eq_false, not_false_eq_true, g1, g2, g3, g4, h1, h2, h3, h4, Nat.zero_add]
    rw [ih (i + 1) f _ (by omega) (by omega) (by rw [g2 (by omega)]; exact h10), sF_sI]
    congr 1
    apply sF_cg
    intro j
    by_cases c : 9 * d + (i + 1) ≤ j ∧ j < 9 * d + 9
    · rw [if_pos c, if_pos (by omega)]
    · rw [if_neg c]
      by_cases e0 : j = 9 * d + i
      · subst e0; rw [g1, if_pos (by omega), h10]; exact congrArg _ (by omega)
      · rw [g3 e0, if_neg (by omega)]
theorem rem_m {d : Nat} (hfu : 10000 ≤ fu) (hd : d < 40) (hdn : MM.1 0 16 = nI d) : f5_remember fu MM = some (sI (sF MM 11 (fun x => if 9 * d + 0 ≤ x ∧ x < 9 * d + 9 then MM.1 10 (x - 9 * d) else MM.1 11 x)) 0 16 (nI (d + 1))) := by
  unfold f5_remember f5_copies_10_11
  have h := rem_l (fu := fu) (MM0 := MM) hd 9 0 fu MM (by omega) (by omega) rfl
  simp (disch := omega) only [lit, nlt, nle, neq, nI_add, pk_mul, nm_u, bS, gd_d, oc_none, oc_some, rd_n, wr_n, if_pos, if_neg, ite_true, ite_false, not_true_eq_false, not_false_eq_true, g1, g2, g3, g4, h1, h2, h3, h4, hdn, h, sF_q]
/-- a new deed, on both sides -/
theorem Rel.deed (hR : Rel MC MM) {P : PD} {d : Nat} {st : Nat → Nat → Int32} {c : Int32} (hA : GA MC MM) (hR0 : GR MC MM) (hT : GT MC MM) (hP : GP P MC MM) (hK : GK P MC MM) (hd : d < 40) (hH : Hist P (MC.1 27) d st) (hah : ∀ i, i < d → ∀ j, j ≤ P.1 → MM.1 11 (9 * i + j) = st i j) (hnw : ∀ j, j ≤ P.1 → MM.1 10 j = st d j) (hc : okc P.1 c (st d)) (hgn : gst P.1 (ap c (st d)))
    (c1 : ∀ q, q ≠ 23 → q ≠ 27 → q ≠ 33 → q ≠ 34 → MC'.1 q = MC.1 q) (c2 : MC'.2 = MC.2) (c3 : MC'.1 23 0 = nI (d + 1)) (c4 : MC'.1 27 = upd (MC.1 27) d c) (c5 : pic P (ap c (st d)) (MC'.1 33 2) (MC'.1 33 3) (MC'.1 33 4) (MC'.1 34))
    (m1 : ∀ q, q ≠ 0 → q ≠ 10 → q ≠ 11 → MM'.1 q = MM.1 q) (m2 : ∀ i, i ≠ 16 → MM'.1 0 i = MM.1 0 i) (m3 : MM'.2 = MM.2) (m4 : MM'.1 0 16 = nI (d + 1)) (m5 : ∀ j, j ≤ P.1 → MM'.1 10 j = ap c (st d) j) (m6 : ∀ x, MM'.1 11 x = if 9 * d ≤ x ∧ x < 9 * d + 9 then MM.1 10 (x - 9 * d) else MM.1 11 x) : Rel MC' MM' := by
  have h8 := hP.1
  have hupd : ∀ i, i < d → upd (MC.1 27) d c i = MC.1 27 i := fun i hi => by unfold upd; rw [if_neg (by omega)]
  refine ⟨P, hA.cg (by rw [c1 28 (by omega) (by omega) (by omega) (by omega)]) (by rw [c1 28 (by omega) (by omega) (by omega) (by omega)]) c2 (c1 32 (by omega) (by omega) (by omega) (by omega)) (m2 4 (by omega)) (m2 7 (by omega)) m3 (m1 5 (by omega) (by omega) (by omega)), hR0.cg (fun q hq => c1 q (by omega) (by omega) (by omega) (by omega)) (m1 1 (by omega) (by omega) (by omega)) (m1 2 (by omega) (by omega) (by omega)), hT.cg (fun q hq => c1 q (by omega) (by omega) (by omega) (by omega)) (m1 3 (by omega) (by omega) (by omega)) (m1 4 (by omega) (by omega) (by omega)), hP.cg (fun q hq => c1 q (by omega) (by omega) (by omega) (by omega)) (m2 9 (by omega)) (fun q hq => m1 q (by omega) (by omega) (by omega)), ⟨d + 1, fun i => if i ≤ d then st i else ap c (st d), by omega, c3, m4, ?_, ?_, ?_, ?_⟩, hK.cg (fun q hq => c1 q (by omega) (by omega) (by omega) (by omega)) (m1 12 (by omega) (by omega) (by omega))⟩
  · obtain ⟨a1, a2, a3, a4, a5⟩ := hH
    refine ⟨?_, fun k hk => ?_, fun i hi j hj => ?_, fun i hi => ?_, fun i hi => ?_⟩
    · show (if 0 ≤ d then st 0 else ap c (st d)) 0 = nI 0
      rw [if_pos (by omega)]; exact a1
    · show (if 0 ≤ d then st 0 else ap c (st d)) (k + 1) = _
      rw [if_pos (by omega)]; exact a2 k hk
    · show (if i + 1 ≤ d then st (i + 1) else ap c (st d)) j = ap (MC'.1 27 i) (if i ≤ d then st i else ap c (st d)) j
      rw [if_pos (show i ≤ d by omega), c4]
      by_cases e : i = d
      · subst e
        rw [if_neg (by omega)]
        have : upd (MC.1 27) i c i = c := by unfold upd; rw [if_pos rfl]
        rw [this]
      · rw [if_pos (by omega), hupd i (by omega)]
        exact a3 i (by omega) j hj
    · show gst P.1 (if i ≤ d then st i else ap c (st d))
      by_cases e : i ≤ d
      · rw [if_pos e]; exact a4 i e
      · rw [if_neg e]; exact hgn
    · show okc P.1 (MC'.1 27 i) (if i ≤ d then st i else ap c (st d))
      rw [if_pos (show i ≤ d by omega), c4]
      by_cases e : i = d
      · subst e
        have : upd (MC.1 27) i c i = c := by unfold upd; rw [if_pos rfl]
        rw [this]; exact hc
      · rw [hupd i (by omega)]; exact a5 i (by omega)
  · intro i hi j hj
    show _ = (if i ≤ d then st i else ap c (st d)) j
    rw [if_pos (show i ≤ d by omega), m6]
    by_cases e : i = d
    · subst e
      rw [if_pos (by omega), show 9 * i + j - 9 * i = j by omega]
      exact hnw j hj
    · rw [if_neg (by omega)]
      exact hah i (by omega) j hj
  · intro j hj
    show _ = (if d + 1 ≤ d then st (d + 1) else ap c (st d)) j
    rw [if_neg (by omega)]
    exact m5 j hj
  · show pic P (if d + 1 ≤ d then st (d + 1) else ap c (st d)) _ _ _ _
    rw [if_neg (by omega)]
    exact c5
end DD
