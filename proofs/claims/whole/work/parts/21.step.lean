/-! 21: step, pick, drop, sweep -/
theorem room_t {MC : Mem} {d : Nat} (hd : d < 40) (h : MC.1 23 0 = nI d) : f3_hasRoomFor MC (nI 1) = some (nI 1) := by
  unfold f3_hasRoomFor
  simp (disch := omega) only [lit, nlt, nle, neq, nI_add, pk_mul, nm_u, bS, gd_d, oc_none, oc_some, rd_n, wr_n, if_pos, if_neg, ite_true, ite_false, not_true_eq_false, not_false_eq_true, g1, g2, g3, g4, h1, h2, h3, h4, h]
theorem room_f {MC : Mem} (h : MC.1 23 0 = nI 40) : f3_hasRoomFor MC (nI 1) = some (nI 0) := by
  unfold f3_hasRoomFor
  simp (disch := omega) only [lit, nlt, nle, neq, nI_add, pk_mul, nm_u, bS, gd_d, oc_none, oc_some, rd_n, wr_n, if_pos, if_neg, ite_true, ite_false, not_true_eq_false, not_false_eq_true, g1, g2, g3, g4, h1, h2, h3, h4, h]
theorem in_9 {q : Nat} (h : q < 10) : f5_in (nI q).toInt64 (0 : Int64) (9 : Int64) = some (nI 1) := by
  rw [show (9 : Int64) = (nI 9).toInt64 by decide]
  exact in_in (by omega) (by omega)
theorem step_go {fu : Nat} (hfu : 10000 ≤ fu) {MC MM : Mem} (hR : Rel MC MM) {P : PD} {d : Nat} {st : Nat → Nat → Int32} {x c : Int32} {q : Nat} (hA : GA MC MM) (hR0 : GR MC MM) (hT : GT MC MM) (hP : GP P MC MM) (hK : GK P MC MM) (hd : d ≤ 40) (hc0 : MC.1 23 0 = nI d) (hm0 : MM.1 0 16 = nI d) (hH : Hist P (MC.1 27) d st) (hah : ∀ i, i < d → ∀ j, j ≤ P.1 → MM.1 11 (9 * i + j) = st i j) (hnw : ∀ j, j ≤ P.1 → MM.1 10 j = st d j) (hp : pic P (st d) (MC.1 33 2) (MC.1 33 3) (MC.1 33 4) (MC.1 34)) (hn : 0 < P.1) (hq : q < 10) (hx : st d 0 + x = nI q) (hxc : (x = nI 1 ∧ c = nI 0) ∨ (x = -nI 1 ∧ c = nI 1)) (hap : ap c (st d) 0 = nI q) (hapk : ∀ k, ap c (st d) (k + 1) = st d (k + 1) ∨ P.1 ≤ k) : ∃ (r : Int32) (MC' MM' : Mem), f4_step_12 fu x MC = some (MC', r) ∧ f5_step_12 fu x MM = some (MM', r) ∧ Rel MC' MM' := by
  have h8 := hP.1
  have hg := hH.2.2.2.1 d (Nat.le_refl d)
  have w0 := hnw 0 (by omega)
  by_cases hd4 : d = 40
  · subst hd4
    refine ⟨-2, MC, MM, ?_, ?_, hR⟩
    · unfold f4_step_12
      simp (disch := omega) only [lit, nlt, nle, neq, nI_add, pk_mul, nm_u, bS, gd_d, oc_none, oc_some, rd_n, wr_n, if_pos, if_neg, ite_true, ite_false, not_true_eq_false, not_false_eq_true, g1, g2, g3, g4, h1, h2, h3, h4, hp.1, hx, hP.2.1, room_f hc0]
    · unfold f5_step_12
      simp (disch := omega) only [lit, nlt, nle, neq, nI_add, pk_mul, nm_u, bS, gd_d, oc_none, oc_some, rd_n, wr_n, if_pos, if_neg, ite_true, ite_false, not_true_eq_false, not_false_eq_true, g1, g2, g3, g4, h1, h2, h3, h4, hP.2.2.1, w0, hx, in_9, hm0]
  · have hgn : gst P.1 (ap c (st d)) := by
      refine ⟨⟨q, hq, hap⟩, fun k hk => ?_⟩
      rcases hapk k with e | e
      · rw [e]; exact hg.2 k hk
      · omega
    have hok : okc P.1 c (st d) := by
      rcases hxc with ⟨-, e⟩ | ⟨-, e⟩
      · exact Or.inl e
      · exact Or.inr (Or.inl e)
    obtain ⟨MC', b1, b2, b3, b4, b5, b6⟩ := enact_c (fu := fu) hfu (by omega) hc0 hP hg hp hok
    refine ⟨nI q, MC', sI (sI (sF MM 11 (fun x => if 9 * d + 0 ≤ x ∧ x < 9 * d + 9 then MM.1 10 (x - 9 * d) else MM.1 11 x)) 0 16 (nI (d + 1))) 10 0 (nI q), ?_, ?_, ?_⟩
    · unfold f4_step_12
      have e9 : MC'.1 33 2 = nI q := by rw [b2.1, hap]
      rcases hxc with ⟨e1, e2⟩ | ⟨e1, e2⟩
      · subst e1; subst e2
        simp (disch := omega) only [lit, nlt, nle, neq, nI_add, pk_mul, nm_u, bS, gd_d, oc_none, oc_some, rd_n, wr_n, if_pos, if_neg, ite_true, ite_false, not_true_eq_false, not_false_eq_true, g1, g2, g3, g4, h1, h2, h3, h4, hp.1, hx, hP.2.1, room_t (d := d) (by omega) hc0, f4_step_76, b1, e9]
      · subst e1; subst e2
        have e3 : (-nI 1 = nI 1) = False := by decide
        simp (disch := omega) only [lit, nlt, nle, neq, nI_add, pk_mul, nm_u, bS, gd_d, oc_none, oc_some, rd_n, wr_n, if_pos, if_neg, ite_true, ite_false, not_true_eq_false, not_false_eq_true, g1, g2, g3, g4, h1, h2, h3, h4, hp.1, hx, hP.2.1, room_t (d := d) (by omega) hc0, f4_step_76, b1, e9, e3]
    · unfold f5_step_12
      simp (disch := omega) only [lit, nlt, nle, neq, nI_add, pk_mul, nm_u, bS, gd_d, oc_none, oc_some, rd_n, wr_n, if_pos, if_neg, ite_true, ite_false, not_true_eq_false, not_false_eq_true, g1, g2, g3, g4, h1, h2, h3, h4, hP.2.2.1, w0, hx, in_9, hm0, rem_m (MM := MM) (d := d) hfu (by omega) hm0, sF_q]
    · refine hR.deed hA hR0 hT hP hK (by omega) hH hah hnw hok hgn b3 b6 b4 b5 b2 (fun q a b e => by rw [g2 b, g2 a, sF_q e]) (fun i hi => by rw [g2 (by omega), g3 hi, sF_q (by omega)]) rfl (by rw [g2 (by omega), g1]) (fun j hj => ?_) (fun y => ?_)
      · rcases j with _ | j
        · rw [g1, hap]
        · rw [g3 (by omega), g2 (by omega), sF_q (by omega), hnw (j + 1) hj]
          rcases hapk j with e | e
          · exact e.symm
          · omega
      · rw [g2 (by omega), g2 (by omega), sF_1, Nat.add_zero]
theorem ifp1 {α : Type} {a b : α} : (if nI 1 = (1 : Int32) then a else b) = a := by
  rw [if_pos (by decide)]
theorem ifm1 {α : Type} {a b c : α} : (if -nI 1 = (1 : Int32) then a else if -nI 1 = (-1 : Int32) then b else c) = b := by
  rw [if_neg (by decide), if_pos (by decide)]
theorem step_p {fu : Nat} (X : Mem) : f4_step fu (nI 1) X = f4_step_12 fu (nI 1) X := by
  unfold f4_step
  exact ifp1
theorem step_pm {fu : Nat} (X : Mem) : f5_step fu (nI 1) X = f5_step_12 fu (nI 1) X := by
  unfold f5_step
  exact ifp1
theorem step_n {fu : Nat} (X : Mem) : f4_step fu (-nI 1) X = f4_step_12 fu (-nI 1) X := by
  unfold f4_step
  exact ifm1
theorem step_nm {fu : Nat} (X : Mem) : f5_step fu (-nI 1) X = f5_step_12 fu (-nI 1) X := by
  unfold f5_step
  exact ifm1
