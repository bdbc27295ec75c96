/-! 12: rows and texts -/
theorem lt0_le {x : Int32} (h : x < nI 0) {b : Nat} (hb : b < 2147483648) : (x ≤ nI b) = True := by
  apply eq_true
  rw [Int32.le_iff_toInt_le, nI_toInt hb]
  rw [Int32.lt_iff_toInt_lt, nI_toInt (by omega)] at h
  omega
theorem lt0_nle {x : Int32} (h : x < nI 0) : (nI 0 ≤ x) = False := by
  apply eq_false
  rw [Int32.le_iff_toInt_le, nI_toInt (by omega)]
  rw [Int32.lt_iff_toInt_lt, nI_toInt (by omega)] at h
  omega
theorem ge_nle {x : Int32} {b : Nat} (hb : b + 1 < 2147483648) (h : nI (b + 1) ≤ x) : (x ≤ nI b) = False := by
  apply eq_false
  rw [Int32.le_iff_toInt_le, nI_toInt (by omega)]
  rw [Int32.le_iff_toInt_le, nI_toInt (by omega)] at h
  omega
theorem ge_le {x : Int32} {a b : Nat} (hb : b < 2147483648) (hab : a ≤ b) (h : nI b ≤ x) : (nI a ≤ x) = True := by
  apply eq_true
  rw [Int32.le_iff_toInt_le, nI_toInt (by omega)]
  rw [Int32.le_iff_toInt_le, nI_toInt (by omega)] at h
  omega
theorem ge_nlt {x : Int32} {a b : Nat} (hb : b < 2147483648) (hab : a ≤ b) (h : nI b ≤ x) : (x < nI a) = False := by
  apply eq_false
  rw [Int32.lt_iff_toInt_lt, nI_toInt (by omega)]
  rw [Int32.le_iff_toInt_le, nI_toInt (by omega)] at h
  omega
def outs (x : Int32) (n : Nat) : Prop := x < nI 0 ∨ (¬ x < nI 0 ∧ nI n ≤ x)
theorem m1_le : (nI 0 ≤ -nI 1) = False := by decide
theorem m1_lt : (-nI 1 < nI 0) = True := by decide
theorem m1_eq : (-nI 1 = nI 0) = False := by decide
theorem z64 : (0 : Int64) = (nI 0).toInt64 := by decide
theorem zr_1 : zr (nI 1) = some (nI 1) := by decide
theorem zr_0 : zr (nI 0) = some (nI 0) := by decide
theorem rdR_n {qs : List Nat} {i q : Nat} (h : qs[i]? = some q) (hn : qs.length < 2147483648) : rdR qs (nI i) = some q := by
  have hi := (List.getElem?_eq_some_iff.mp h).1
  have h1 := nI_in hi hn
  have h2 := nI_clamp (n := i) (by omega)
  unfold rdR
  rw [if_neg h1, h2, h]
theorem rowAt_out {x : Int32} (h : outs x 6) : f4_rowAt x = some none := by
  unfold f4_rowAt
  rcases h with h | ⟨h0, h⟩
  · simp only [lit, h, if_true]
  · simp only [lit, h0, h, if_true, if_false]
theorem rowAt_in {j : Nat} (h : j < 6) : f4_rowAt (nI j) = some (some j) := by
  unfold f4_rowAt
  have e : rdR [0, 1, 2, 3, 4, 5] (nI j) = some j := rdR_n (by
    rcases (show j = 0 ∨ j = 1 ∨ j = 2 ∨ j = 3 ∨ j = 4 ∨ j = 5 by omega) with rfl | rfl | rfl | rfl | rfl | rfl <;> rfl) (by decide)
  rw [e]
  simp (disch := omega) only [lit, nlt, nle, neq, nI_add, pk_mul, nm_u, bS, gd_d, oc_none, oc_some, rd_n, wr_n, if_pos, if_neg, ite_true, ite_false, not_true_eq_false, not_false_eq_true, g1, g2, g3, g4, h1, h2, h3, h4]
theorem textAt_out {x : Int32} (h : outs x 4) : f4_textAt x = some none := by
  unfold f4_textAt
  rcases h with h | ⟨h0, h⟩
  · simp only [lit, h, if_true]
  · simp only [lit, h0, h, if_true, if_false]
theorem textAt_in {j : Nat} (h : j < 4) : f4_textAt (nI j) = some (some (j + 6)) := by
  unfold f4_textAt
  have e : rdR [6, 7, 8, 9] (nI j) = some (j + 6) := rdR_n (by
    rcases (show j = 0 ∨ j = 1 ∨ j = 2 ∨ j = 3 by omega) with rfl | rfl | rfl | rfl <;> rfl) (by decide)
  rw [e]
  simp (disch := omega) only [lit, nlt, nle, neq, nI_add, pk_mul, nm_u, bS, gd_d, oc_none, oc_some, rd_n, wr_n, if_pos, if_neg, ite_true, ite_false, not_true_eq_false, not_false_eq_true, g1, g2, g3, g4, h1, h2, h3, h4]
theorem in_out {x : Int32} {n : Nat} (hn : n + 1 < 2147483648) (h : outs x (n + 1)) : f5_in x.toInt64 (0 : Int64) (nI n).toInt64 = some (nI 0) := by
  rw [z64, in_i]
  rcases h with h | ⟨h0, h⟩
  · rw [if_neg (fun q => of_eq_false (lt0_nle h) q.1)]; rfl
  · rw [if_neg (fun q => of_eq_false (ge_nle hn h) q.2)]; rfl
theorem in_in {j n : Nat} (hn : n < 2147483648) (h : j ≤ n) : f5_in (nI j).toInt64 (0 : Int64) (nI n).toInt64 = some (nI 1) := by
  rw [z64, in_n (by omega) (by omega) hn, if_pos ⟨Nat.zero_le _, h⟩]
  rfl
theorem isRow_out {x : Int32} (h : outs x 6) : f5_isRow x = some (nI 0) := by
  unfold f5_isRow
  rw [show (5 : Int64) = (nI 5).toInt64 by decide, in_out (by omega) h]
  simp (disch := omega) only [lit, nlt, nle, neq, nI_add, pk_mul, nm_u, bS, gd_d, oc_none, oc_some, rd_n, wr_n, if_pos, if_neg, ite_true, ite_false, not_true_eq_false, not_false_eq_true, g1, g2, g3, g4, h1, h2, h3, h4, zr_0]
theorem isRow_in {j : Nat} (h : j < 6) : f5_isRow (nI j) = some (nI 1) := by
  unfold f5_isRow
  rw [show (5 : Int64) = (nI 5).toInt64 by decide, in_in (by omega) (by omega)]
  simp (disch := omega) only [lit, nlt, nle, neq, nI_add, pk_mul, nm_u, bS, gd_d, oc_none, oc_some, rd_n, wr_n, if_pos, if_neg, ite_true, ite_false, not_true_eq_false, not_false_eq_true, g1, g2, g3, g4, h1, h2, h3, h4, zr_1]
theorem isText_out {x : Int32} (h : outs x 4) : f5_isText x = some (nI 0) := by
  unfold f5_isText
  rw [show (3 : Int64) = (nI 3).toInt64 by decide, in_out (by omega) h]
  simp (disch := omega) only [lit, nlt, nle, neq, nI_add, pk_mul, nm_u, bS, gd_d, oc_none, oc_some, rd_n, wr_n, if_pos, if_neg, ite_true, ite_false, not_true_eq_false, not_false_eq_true, g1, g2, g3, g4, h1, h2, h3, h4, zr_0]
theorem isText_in {j : Nat} (h : j < 4) : f5_isText (nI j) = some (nI 1) := by
  unfold f5_isText
  rw [show (3 : Int64) = (nI 3).toInt64 by decide, in_in (by omega) (by omega)]
  simp (disch := omega) only [lit, nlt, nle, neq, nI_add, pk_mul, nm_u, bS, gd_d, oc_none, oc_some, rd_n, wr_n, if_pos, if_neg, ite_true, ite_false, not_true_eq_false, not_false_eq_true, g1, g2, g3, g4, h1, h2, h3, h4, zr_1]
/-- in(i, 0, size - 1) -/
theorem ix_out {x : Int32} {k : Nat} (hk : k < 2147483647) (h : outs x k) : f5_in x.toInt64 (0 : Int64) (nI k - nI 1).toInt64 = some (nI 0) := by
  rcases k with _ | k
  · rw [z64, in_i, show nI 0 - nI 1 = -nI 1 by decide]
    rw [if_neg]; rfl
    rintro ⟨h1, h2⟩
    exact absurd (Int32.le_trans h1 h2) (by decide)
  · rw [pk_sub (by omega)]
    exact in_out (by omega) h
theorem ix_in {j k : Nat} (hk : k < 2147483648) (h : j < k) : f5_in (nI j).toInt64 (0 : Int64) (nI k - nI 1).toInt64 = some (nI 1) := by
  rw [pk_sub (by omega)]
  exact in_in (by omega) (by omega)
theorem sF_1 {M : Mem} {p : Nat} {f : Nat → Int32} : (sF M p f).1 p = f := by simp [sF]
theorem sF_q {M : Mem} {p q : Nat} {f : Nat → Int32} (h : q ≠ p) : (sF M p f).1 q = M.1 q := by simp [sF, h]
theorem sF_2 {M : Mem} {p : Nat} {f : Nat → Int32} : (sF M p f).2 = M.2 := rfl
theorem sF_sI {M : Mem} {p i : Nat} {v : Int32} {f : Nat → Int32} : sF (sI M p i v) p f = sF M p f := by
  unfold sF sI
  congr 1
  funext q
  by_cases h : q = p
  · rw [if_pos h, if_pos h]
  · rw [if_neg h, if_neg h]
    exact if_neg h
theorem sF_id {M : Mem} {p : Nat} {f : Nat → Int32} (h : ∀ j, f j = M.1 p j) : sF M p f = M := by
  have e : f = M.1 p := funext h
  subst e
  unfold sF
  have : (fun q => if q = p then M.1 p else M.1 q) = M.1 := by
    funext q
    by_cases h : q = p
    · rw [if_pos h, h]
    · rw [if_neg h]
  rw [this]
theorem sF_cg {M : Mem} {p : Nat} {f g : Nat → Int32} (h : ∀ j, f j = g j) : sF M p f = sF M p g := by rw [funext h]
theorem begin_l {fu p n : Nat} {v : Int32} (hp : p < 10) (hn : n ≤ 60) : ∀ (d i f : Nat) (M : Mem), i + d = n → d < f → M.1 p 0 = nI n → f0_begin_15 fu f p v (nI i) M = some (sF M (p + 10) (fun j => if i ≤ j ∧ j < n then v else M.1 (p + 10) j)) := by
  intro d
  induction d with
  | zero =>
    intro i f M h hf hs
    rcases f with _ | f
    · omega
    rw [f0_begin_15]
    simp (disch := omega) only [lit, nlt, nle, neq, nI_add, pk_mul, nm_u, bS, gd_d, oc_none, oc_some, rd_n, wr_n, if_pos, if_neg, ite_true, ite_false, not_true_eq_false, not_false_eq_true, g1, g2, g3, g4, h1, h2, h3, h4, hs]
    rw [sF_id]
    intro j
    first | rfl | rw [if_neg (by omega)]
  | succ d ih =>
    intro i f M h hf hs
    rcases f with _ | f
    · omega
    rw [f0_begin_15]
    simp (disch := omega) only [lit, nlt, nle, neq, nI_add, pk_mul, nm_u, bS, gd_d, oc_none, oc_some, rd_n, wr_n, if_pos, if_neg, ite_true, ite_false, not_true_eq_false, not_false_eq_true, g1, g2, g3, g4, h1, h2, h3, h4, hs]
    rw [ih (i + 1) f _ (by omega) (by omega) (by rw [g2 (by omega)]; exact hs), sF_sI]
    congr 1
    apply sF_cg
    intro j
    by_cases c : i + 1 ≤ j ∧ j < n
    · rw [if_pos c, if_pos (by omega)]
    · rw [if_neg c]
      by_cases e : j = i
      · subst e; rw [g1, if_pos (by omega)]
      · rw [g3 e, if_neg (by omega)]
theorem begin_s {fu p n : Nat} {v : Int32} {M : Mem} (hp : p < 10) (hn : n ≤ 60) (hfu : 10000 ≤ fu) : f0_begin fu p (nI n) v M = some (sF (sI M p 0 (nI n)) (p + 10) (fun j => if j < n then v else M.1 (p + 10) j)) := by
  unfold f0_begin
  simp (disch := omega) only [lit, nlt, nle, neq, nI_add, pk_mul, nm_u, bS, gd_d, oc_none, oc_some, rd_n, wr_n, if_pos, if_neg, ite_true, ite_false, not_true_eq_false, not_false_eq_true, g1, g2, g3, g4, h1, h2, h3, h4]
  rw [show nI 0 = nI 0 from rfl, begin_l hp hn n 0 fu _ (by omega) (by omega) (by rw [g1])]
  congr 1
  apply sF_cg
  intro j
  by_cases c : j < n
  · rw [if_pos c, if_pos (by omega)]
  · rw [if_neg c, if_neg (by omega), g2 (by omega)]
theorem row_l {fu r : Nat} {n : Int32} (hr : r < 6) : ∀ (d i f : Nat) (M : Mem), i + d = 40 → d < f → f5_row_34 fu f (nI r) n (nI i) M = some (sF M 1 (fun j => if 40 * r + i ≤ j ∧ j < 40 * r + 40 then nI 0 else M.1 1 j), n) := by
  intro d
  induction d with
  | zero =>
    intro i f M h hf
    rcases f with _ | f
    · omega
    rw [f5_row_34]
    simp (disch := omega) only [lit, nlt, nle, neq, nI_add, pk_mul, nm_u, bS, gd_d, oc_none, oc_some, rd_n, wr_n, if_pos, if_neg, ite_true, ite_false, not_true_eq_false, not_false_eq_true, g1, g2, g3, g4, h1, h2, h3, h4]
    rw [sF_id]
    intro j
    first | rfl | rw [if_neg (by omega)]
  | succ d ih =>
    intro i f M h hf
    rcases f with _ | f
    · omega
    rw [f5_row_34]
    simp (disch := omega) only [lit, nlt, nle, neq, nI_add, pk_mul, nm_u, bS, gd_d, oc_none, oc_some, rd_n, wr_n, if_pos, if_neg, ite_true, ite_false, not_true_eq_false, not_false_eq_true, g1, g2, g3, g4, h1, h2, h3, h4]
    rw [ih (i + 1) f _ (by omega) (by omega), sF_sI]
    congr 2
    apply sF_cg
    intro j
    by_cases c : 40 * r + (i + 1) ≤ j ∧ j < 40 * r + 40
    · rw [if_pos c, if_pos (by omega)]
    · rw [if_neg c]
      by_cases e : j = 40 * r + i
      · subst e; rw [g1, if_pos (by omega)]
      · rw [g3 e, if_neg (by omega)]
theorem text_l {fu r : Nat} {n : Int32} (hr : r < 4) : ∀ (d i f : Nat) (M : Mem), i + d = 60 → d < f → f5_text_34 fu f (nI r) n (nI i) M = some (sF M 3 (fun j => if 60 * r + i ≤ j ∧ j < 60 * r + 60 then nI 32 else M.1 3 j), n) := by
  intro d
  induction d with
  | zero =>
    intro i f M h hf
    rcases f with _ | f
    · omega
    rw [f5_text_34]
    simp (disch := omega) only [lit, nlt, nle, neq, nI_add, pk_mul, nm_u, bS, gd_d, oc_none, oc_some, rd_n, wr_n, if_pos, if_neg, ite_true, ite_false, not_true_eq_false, not_false_eq_true, g1, g2, g3, g4, h1, h2, h3, h4]
    rw [sF_id]
    intro j
    first | rfl | rw [if_neg (by omega)]
  | succ d ih =>
    intro i f M h hf
    rcases f with _ | f
    · omega
    rw [f5_text_34]
    simp (disch := omega) only [lit, nlt, nle, neq, nI_add, pk_mul, nm_u, bS, gd_d, oc_none, oc_some, rd_n, wr_n, if_pos, if_neg, ite_true, ite_false, not_true_eq_false, not_false_eq_true, g1, g2, g3, g4, h1, h2, h3, h4]
    rw [ih (i + 1) f _ (by omega) (by omega), sF_sI]
    congr 2
    apply sF_cg
    intro j
    by_cases c : 60 * r + (i + 1) ≤ j ∧ j < 60 * r + 60
    · rw [if_pos c, if_pos (by omega)]
    · rw [if_neg c]
      by_cases e : j = 60 * r + i
      · subst e; rw [g1, if_pos (by omega)]
      · rw [g3 e, if_neg (by omega)]
section UP
variable {MC MM MC' MM' : Mem}
theorem GR.upd (h : GR MC MM) {r : Nat} (hr : r < 6) (hC : ∀ q, q < 16 → q ≠ r → q ≠ r + 10 → MC'.1 q = MC.1 q) (h2 : ∀ q, q ≠ r → MM'.1 2 q = MM.1 2 q) (h1 : ∀ q, q < 40 * r ∨ 40 * r + 40 ≤ q → MM'.1 1 q = MM.1 1 q) (hx : RowR (MC'.1 r 0) (MC'.1 (r + 10)) (MM'.1 2 r) (fun i => MM'.1 1 (40 * r + i)) 40) : GR MC' MM' := by
  intro q hq
  by_cases e : q = r
  · subst e; exact hx
  · obtain ⟨a, b⟩ := h q hq
    rw [hC q (by omega) e (by omega), hC (q + 10) (by omega) (by omega) (by omega), h2 q e]
    refine ⟨a, ?_⟩
    rcases b with b | ⟨k, hk, b1, b2⟩
    · exact Or.inl b
    · refine Or.inr ⟨k, hk, b1, fun i hi => ?_⟩
      show _ = MM'.1 1 (40 * q + i)
      rw [h1 (40 * q + i) (by omega)]
      exact b2 i hi
theorem GT.upd (h : GT MC MM) {r : Nat} (hr : r < 4) (hC : ∀ q, q < 20 → q ≠ r + 6 → q ≠ r + 6 + 10 → MC'.1 q = MC.1 q) (h2 : ∀ q, q ≠ r → MM'.1 4 q = MM.1 4 q) (h1 : ∀ q, q < 60 * r ∨ 60 * r + 60 ≤ q → MM'.1 3 q = MM.1 3 q) (hx : RowR (MC'.1 (r + 6) 0) (MC'.1 (r + 6 + 10)) (MM'.1 4 r) (fun i => MM'.1 3 (60 * r + i)) 60) : GT MC' MM' := by
  intro q hq
  by_cases e : q = r
  · subst e; exact hx
  · obtain ⟨a, b⟩ := h q hq
    rw [hC (q + 6) (by omega) (by omega) (by omega), hC (q + 6 + 10) (by omega) (by omega) (by omega), h2 q e]
    refine ⟨a, ?_⟩
    rcases b with b | ⟨k, hk, b1, b2⟩
    · exact Or.inl b
    · refine Or.inr ⟨k, hk, b1, fun i hi => ?_⟩
      show _ = MM'.1 3 (60 * q + i)
      rw [h1 (60 * q + i) (by omega)]
      exact b2 i hi
/-- rows alone have changed -/
theorem Rel.row (h : Rel MC MM) (hC : ∀ q, q < 6 ∨ (10 ≤ q ∧ q < 16) ∨ MC'.1 q = MC.1 q) (hC2 : MC'.2 = MC.2) (hM : ∀ q, q = 1 ∨ q = 2 ∨ MM'.1 q = MM.1 q) (hM2 : MM'.2 = MM.2) (hR : GR MC MM → GR MC' MM') : Rel MC' MM' := by
  have c : ∀ q, ¬ (q < 6 ∨ (10 ≤ q ∧ q < 16)) → MC'.1 q = MC.1 q := fun q hq => by rcases hC q with h | h | h <;> first | exact h | omega
  have m : ∀ q, ¬ (q = 1 ∨ q = 2) → MM'.1 q = MM.1 q := fun q hq => by rcases hM q with h | h | h <;> first | exact h | omega
  obtain ⟨P, hA, hR0, hT, hP, hD, hK⟩ := h
  exact ⟨P, hA.cg (by rw [c 28 (by omega)]) (by rw [c 28 (by omega)]) hC2 (c 32 (by omega)) (by rw [m 0 (by omega)]) (by rw [m 0 (by omega)]) hM2 (m 5 (by omega)), hR hR0, hT.cg (fun q hq => c q (by omega)) (m 3 (by omega)) (m 4 (by omega)), hP.cg (fun q hq => c q (by omega)) (by rw [m 0 (by omega)]) (fun q hq => m q (by omega)), hD.cg (fun q hq => c q (by omega)) (by rw [m 0 (by omega)]) (m 10 (by omega)) (m 11 (by omega)), hK.cg (fun q hq => c q (by omega)) (m 12 (by omega))⟩
/-- texts alone have changed -/
theorem Rel.text (h : Rel MC MM) (hC : ∀ q, (6 ≤ q ∧ q < 10) ∨ (16 ≤ q ∧ q < 20) ∨ MC'.1 q = MC.1 q) (hC2 : MC'.2 = MC.2) (hM : ∀ q, q = 3 ∨ q = 4 ∨ MM'.1 q = MM.1 q) (hM2 : MM'.2 = MM.2) (hR : GT MC MM → GT MC' MM') : Rel MC' MM' := by
  have c : ∀ q, ¬ ((6 ≤ q ∧ q < 10) ∨ (16 ≤ q ∧ q < 20)) → MC'.1 q = MC.1 q := fun q hq => by rcases hC q with h | h | h <;> first | exact h | omega
  have m : ∀ q, ¬ (q = 3 ∨ q = 4) → MM'.1 q = MM.1 q := fun q hq => by rcases hM q with h | h | h <;> first | exact h | omega
  obtain ⟨P, hA, hR0, hT, hP, hD, hK⟩ := h
  exact ⟨P, hA.cg (by rw [c 28 (by omega)]) (by rw [c 28 (by omega)]) hC2 (c 32 (by omega)) (by rw [m 0 (by omega)]) (by rw [m 0 (by omega)]) hM2 (m 5 (by omega)), hR0.cg (fun q hq => c q (by omega)) (m 1 (by omega)) (m 2 (by omega)), hR hT, hP.cg (fun q hq => c q (by omega)) (by rw [m 0 (by omega)]) (fun q hq => m q (by omega)), hD.cg (fun q hq => c q (by omega)) (by rw [m 0 (by omega)]) (m 10 (by omega)) (m 11 (by omega)), hK.cg (fun q hq => c q (by omega)) (m 12 (by omega))⟩
end UP
theorem s_row {fu : Nat} (hfu : 10000 ≤ fu) : Sim_row fu Rel := by
  intro MC MM a0 a1 hR
  rcases tri a0 6 (by omega) with h | ⟨r, hr, rfl⟩
  · refine ⟨-1, MC, MM, ?_, ?_, hR⟩
    · unfold f4_row
      rw [rowAt_out h]
      rfl
    · unfold f5_row
      rw [isRow_out h]
      simp (disch := omega) only [lit, nlt, nle, neq, nI_add, pk_mul, nm_u, bS, gd_d, oc_none, oc_some, rd_n, wr_n, if_pos, if_neg, ite_true, ite_false, not_true_eq_false, not_false_eq_true, g1, g2, g3, g4, h1, h2, h3, h4]
  · rcases tri a1 41 (by omega) with h | ⟨n, hn, rfl⟩
    · rcases h with h | ⟨h0, h⟩
      · refine ⟨-3, _, _, ?_, ?_, hR.find (f := 5) (by omega)⟩
        · unfold f4_row f4_makeCells
          rw [rowAt_in hr]
          simp (disch := omega) only [lit, nlt, nle, neq, nI_add, pk_mul, nm_u, bS, gd_d, oc_none, oc_some, rd_n, wr_n, if_pos, if_neg, ite_true, ite_false, not_true_eq_false, not_false_eq_true, g1, g2, g3, g4, h1, h2, h3, h4, lt0_le h, lt0_nle h, find_s]
        · unfold f5_row
          rw [isRow_in hr]
          simp (disch := omega) only [lit, nlt, nle, neq, nI_add, pk_mul, nm_u, bS, gd_d, oc_none, oc_some, rd_n, wr_n, if_pos, if_neg, ite_true, ite_false, not_true_eq_false, not_false_eq_true, g1, g2, g3, g4, h1, h2, h3, h4, lt0_le h, lt0_nle h, found_s]
      · refine ⟨-1, MC, MM, ?_, ?_, hR⟩
        · unfold f4_row f4_makeCells
          rw [rowAt_in hr]
          simp (disch := omega) only [lit, nlt, nle, neq, nI_add, pk_mul, nm_u, bS, gd_d, oc_none, oc_some, rd_n, wr_n, if_pos, if_neg, ite_true, ite_false, not_true_eq_false, not_false_eq_true, g1, g2, g3, g4, h1, h2, h3, h4, ge_nle (by omega) h]
        · unfold f5_row
          rw [isRow_in hr]
          simp (disch := omega) only [lit, nlt, nle, neq, nI_add, pk_mul, nm_u, bS, gd_d, oc_none, oc_some, rd_n, wr_n, if_pos, if_neg, ite_true, ite_false, not_true_eq_false, not_false_eq_true, g1, g2, g3, g4, h1, h2, h3, h4, ge_nle (by omega) h]
    · refine ⟨nI n, sF (sI MC r 0 (nI n)) (r + 10) (fun j => if j < n then nI 0 else MC.1 (r + 10) j), sF (sI MM 2 r (nI n)) 1 (fun j => if 40 * r + 0 ≤ j ∧ j < 40 * r + 40 then nI 0 else (sI MM 2 r (nI n)).1 1 j), ?_, ?_, ?_⟩
      · unfold f4_row f4_makeCells
        rw [rowAt_in hr]
        simp (disch := omega) only [lit, nlt, nle, neq, nI_add, pk_mul, nm_u, bS, gd_d, oc_none, oc_some, rd_n, wr_n, if_pos, if_neg, ite_true, ite_false, not_true_eq_false, not_false_eq_true, g1, g2, g3, g4, h1, h2, h3, h4, begin_s]
      · unfold f5_row
        rw [isRow_in hr]
        simp (disch := omega) only [lit, nlt, nle, neq, nI_add, pk_mul, nm_u, bS, gd_d, oc_none, oc_some, rd_n, wr_n, if_pos, if_neg, ite_true, ite_false, not_true_eq_false, not_false_eq_true, g1, g2, g3, g4, h1, h2, h3, h4]
        exact row_l hr 40 0 fu _ (by omega) (by omega)
      · refine hR.row (fun q => ?_) rfl (fun q => ?_) rfl (fun hG => hG.upd hr (fun q _ h1 h2 => ?_) (fun q h1 => ?_) (fun q h1 => ?_) ⟨?_, Or.inr ⟨n, by omega, ?_, fun i hi => ?_⟩⟩)
        · by_cases c : q < 6 ∨ (10 ≤ q ∧ q < 16)
          · omega
          · rw [sF_q (by omega), g2 (by omega)]; simp
        · by_cases c : q = 1 ∨ q = 2
          · omega
          · rw [sF_q (by omega), g2 (by omega)]; simp
        · rw [sF_q h2, g2 h1]
        · rw [sF_q (by omega), g3 h1]
        · rw [sF_1, if_neg (by omega), g2 (by omega)]
        · rw [sF_q (by omega), g1, sF_q (by omega), g1]
        · rw [sF_q (by omega), g1]
        · show _ = (sF _ 1 _).1 1 (40 * r + i)
          rw [sF_1, sF_1, if_pos hi, if_pos (by omega)]
theorem s_text {fu : Nat} (hfu : 10000 ≤ fu) : Sim_text fu Rel := by
  intro MC MM a0 a1 hR
  rcases tri a0 4 (by omega) with h | ⟨r, hr, rfl⟩
  · refine ⟨-1, MC, MM, ?_, ?_, hR⟩
    · unfold f4_text
      rw [textAt_out h]
      rfl
    · unfold f5_text
      rw [isText_out h]
      simp (disch := omega) only [lit, nlt, nle, neq, nI_add, pk_mul, nm_u, bS, gd_d, oc_none, oc_some, rd_n, wr_n, if_pos, if_neg, ite_true, ite_false, not_true_eq_false, not_false_eq_true, g1, g2, g3, g4, h1, h2, h3, h4]
  · rcases tri a1 61 (by omega) with h | ⟨n, hn, rfl⟩
    · rcases h with h | ⟨h0, h⟩
      · refine ⟨-3, _, _, ?_, ?_, hR.find (f := 5) (by omega)⟩
        · unfold f4_text f4_makeCells
          rw [textAt_in hr]
          simp (disch := omega) only [lit, nlt, nle, neq, nI_add, pk_mul, nm_u, bS, gd_d, oc_none, oc_some, rd_n, wr_n, if_pos, if_neg, ite_true, ite_false, not_true_eq_false, not_false_eq_true, g1, g2, g3, g4, h1, h2, h3, h4, lt0_le h, lt0_nle h, find_s]
        · unfold f5_text
          rw [isText_in hr]
          simp (disch := omega) only [lit, nlt, nle, neq, nI_add, pk_mul, nm_u, bS, gd_d, oc_none, oc_some, rd_n, wr_n, if_pos, if_neg, ite_true, ite_false, not_true_eq_false, not_false_eq_true, g1, g2, g3, g4, h1, h2, h3, h4, lt0_le h, lt0_nle h, found_s]
      · refine ⟨-1, MC, MM, ?_, ?_, hR⟩
        · unfold f4_text f4_makeCells
          rw [textAt_in hr]
          simp (disch := omega) only [lit, nlt, nle, neq, nI_add, pk_mul, nm_u, bS, gd_d, oc_none, oc_some, rd_n, wr_n, if_pos, if_neg, ite_true, ite_false, not_true_eq_false, not_false_eq_true, g1, g2, g3, g4, h1, h2, h3, h4, ge_nle (by omega) h]
        · unfold f5_text
          rw [isText_in hr]
          simp (disch := omega) only [lit, nlt, nle, neq, nI_add, pk_mul, nm_u, bS, gd_d, oc_none, oc_some, rd_n, wr_n, if_pos, if_neg, ite_true, ite_false, not_true_eq_false, not_false_eq_true, g1, g2, g3, g4, h1, h2, h3, h4, ge_nle (by omega) h]
    · refine ⟨nI n, sF (sI MC (r + 6) 0 (nI n)) (r + 6 + 10) (fun j => if j < n then nI 32 else MC.1 (r + 6 + 10) j), sF (sI MM 4 r (nI n)) 3 (fun j => if 60 * r + 0 ≤ j ∧ j < 60 * r + 60 then nI 32 else (sI MM 4 r (nI n)).1 3 j), ?_, ?_, ?_⟩
      · unfold f4_text f4_makeCells
        rw [textAt_in hr]
        simp (disch := omega) only [lit, nlt, nle, neq, nI_add, pk_mul, nm_u, bS, gd_d, oc_none, oc_some, rd_n, wr_n, if_pos, if_neg, ite_true, ite_false, not_true_eq_false, not_false_eq_true, g1, g2, g3, g4, h1, h2, h3, h4, begin_s]
      · unfold f5_text
        rw [isText_in hr]
        simp (disch := omega) only [lit, nlt, nle, neq, nI_add, pk_mul, nm_u, bS, gd_d, oc_none, oc_some, rd_n, wr_n, if_pos, if_neg, ite_true, ite_false, not_true_eq_false, not_false_eq_true, g1, g2, g3, g4, h1, h2, h3, h4]
        exact text_l hr 60 0 fu _ (by omega) (by omega)
      · refine hR.text (fun q => ?_) rfl (fun q => ?_) rfl (fun hG => hG.upd hr (fun q _ h1 h2 => ?_) (fun q h1 => ?_) (fun q h1 => ?_) ⟨?_, Or.inr ⟨n, by omega, ?_, fun i hi => ?_⟩⟩)
        · by_cases c : (6 ≤ q ∧ q < 10) ∨ (16 ≤ q ∧ q < 20)
          · omega
          · rw [sF_q (by omega), g2 (by omega)]; simp
        · by_cases c : q = 3 ∨ q = 4
          · omega
          · rw [sF_q (by omega), g2 (by omega)]; simp
        · rw [sF_q h2, g2 h1]
        · rw [sF_q (by omega), g3 h1]
        · rw [sF_1, if_neg (by omega), g2 (by omega)]
        · rw [sF_q (by omega), g1, sF_q (by omega), g1]
        · rw [sF_q (by omega), g1]
        · show _ = (sF _ 3 _).1 3 (60 * r + i)
          rw [sF_1, sF_1, if_pos hi, if_pos (by omega)]
