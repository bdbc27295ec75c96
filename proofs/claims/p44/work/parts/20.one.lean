/-! 20: one memory -/
def gpM (P : PD) : Mem := (fun q => if q = 6 then (fun k => nI (kd P k)) else if q = 7 then (fun k => nI (hr P k)) else if q = 8 then (fun k => nI (ln P k)) else if q = 9 then (fun k => nI (lk P k)) else (fun k => if k = 9 then nI P.1 else 0), fun _ _ => 0)
abbrev GC (P : PD) (M : Mem) : Prop := GP P M (gpM P)
theorem GC.of {P : PD} {M : Mem} (h8 : P.1 ≤ 8) (h35 : M.1 35 0 = nI P.1) (hk : ∀ k, k < P.1 → okP P k ∧ M.1 36 k = nI (kd P k) ∧ M.1 37 k = nI (pl P k) ∧ M.1 38 k = nI (hr P k) ∧ M.1 39 k = nI (ln P k) ∧ M.1 40 k = nI (lk P k) ∧ M.1 41 k = nI (hm P k) ∧ M.1 42 k = zI (wz P k)) (hS : TB P (2 ^ P.1) M) : GC P M :=
  ⟨h8, h35, rfl, fun k h => by
    obtain ⟨a1, a2, a3, a4, a5, a6, a7, a8⟩ := hk k h
    exact ⟨a1, a2, a3, a4, a5, a6, a7, a8, rfl, rfl, rfl, rfl⟩, hS⟩
theorem GC.cg {P : PD} {M M' : Mem} (h : GC P M) (a : ∀ q, 35 ≤ q → q ≤ 46 → M'.1 q = M.1 q) : GC P M' := GP.cg h (fun q hq => a q hq.1 hq.2) rfl (fun _ _ => rfl)
/-- the state s, as the class holds it -/
def St (P : PD) (s : Nat → Int32) (M : Mem) : Prop := GC P M ∧ gst P.1 s ∧ pic P s (M.1 33 2) (M.1 33 3) (M.1 33 4) (M.1 34) ∧ 0 < P.1
abbrev hB (P : PD) (s : Nat → Int32) : Nat := msk P.1 (fun k => s (k + 1) == -nI 1)
abbrev lB (P : PD) (s : Nat → Int32) : Nat := msk P.1 (lyB s)
abbrev wB (P : PD) (s : Nat → Int32) : Nat := msk P.1 (fun k => s (k + 1) == -nI 2)
theorem St.cg {P : PD} {s : Nat → Int32} {M M' : Mem} (h : St P s M) (a : ∀ q, 33 ≤ q → q ≤ 46 → M'.1 q = M.1 q) : St P s M' := by
  obtain ⟨b1, b2, b3, b4⟩ := h
  exact ⟨b1.cg (fun q a1 a2 => a q (by omega) a2), b2, by rw [a 33 (by omega) (by omega), a 34 (by omega) (by omega)]; exact b3, b4⟩
theorem St.s28 {P : PD} {s : Nat → Int32} {M : Mem} (h : St P s M) (i : Nat) (v : Int32) : St P s (sI M 28 i v) := h.cg (fun q a b => g2 (by omega))
def Iv (P : PD) (d : Nat) (st : Nat → Nat → Int32) (M : Mem) : Prop := St P (st d) M ∧ d ≤ 40 ∧ M.1 23 0 = nI d ∧ Hist P (M.1 27) d st
theorem Iv.cg {P : PD} {d : Nat} {st : Nat → Nat → Int32} {M M' : Mem} (h : Iv P d st M) (a : ∀ q, q = 23 ∨ q = 27 ∨ (33 ≤ q ∧ q ≤ 46) → M'.1 q = M.1 q) : Iv P d st M' := by
  obtain ⟨b1, b2, b3, b4⟩ := h
  exact ⟨b1.cg (fun q a1 a2 => a q (by omega)), b2, by rw [a 23 (by omega)]; exact b3, by rw [a 27 (by omega)]; exact b4⟩
theorem Iv.s28 {P : PD} {d : Nat} {st : Nat → Nat → Int32} {M : Mem} (h : Iv P d st M) (i : Nat) (v : Int32) : Iv P d st (sI M 28 i v) := h.cg (fun q hq => g2 (by omega))
theorem s28_id {M : Mem} {p i : Nat} : sI M p i (M.1 p i) = M := by
  obtain ⟨a, b⟩ := M
  unfold sI
  congr 1
  funext q
  by_cases c : q = p
  · subst c
    rw [if_pos rfl]
    funext j
    unfold upd
    by_cases e : j = i
    · subst e; rw [if_pos rfl]
    · rw [if_neg e]
  · rw [if_neg c]
theorem s28_28 {M : Mem} {p i : Nat} {v w : Int32} : sI (sI M p i v) p i w = sI M p i w := by
  unfold sI
  congr 1
  funext q
  by_cases c : q = p
  · subst c
    rw [if_pos rfl, if_pos rfl]
    dsimp only
    rw [if_pos rfl]
    funext j
    unfold upd
    by_cases e : j = i
    · subst e; rw [if_pos rfl, if_pos rfl]
    · rw [if_neg e, if_neg e, if_neg e]
  · rw [if_neg c, if_neg c]
    dsimp only
    rw [if_neg c]
section CT
variable {P : PD} {s : Nat → Int32} {M : Mem} {fu : Nat}
theorem ct0 (h : St P s M) : f4_count M fu (nI 0) = some (nI P.1) := by
  unfold f4_count f4_countOf
  simp (disch := omega) only [lit, nlt, nle, neq, nI_add, pk_mul, nm_u, bS, gd_d, oc_none, oc_some, rd_n, wr_n, if_pos, if_neg, ite_true, ite_false, not_true_eq_false, not_false_eq_true, g1, g2, g3, g4, h1, h2, h3, h4, h.1.2.1]
theorem ct1 (h : St P s M) : f4_count M fu (nI 1) = some (s 0) := by
  unfold f4_count f4_countOf
  simp (disch := omega) only [lit, nlt, nle, neq, nI_add, pk_mul, nm_u, bS, gd_d, oc_none, oc_some, rd_n, wr_n, if_pos, if_neg, ite_true, ite_false, not_true_eq_false, not_false_eq_true, g1, g2, g3, g4, h1, h2, h3, h4, h.2.2.1.1]
theorem ct2 : f4_count M fu (nI 2) = some (M.1 23 0) := by
  unfold f4_count f4_countOf
  simp (disch := omega) only [lit, nlt, nle, neq, nI_add, pk_mul, nm_u, bS, gd_d, oc_none, oc_some, rd_n, wr_n, if_pos, if_neg, ite_true, ite_false, not_true_eq_false, not_false_eq_true, g1, g2, g3, g4, h1, h2, h3, h4]
theorem ct3 (h : St P s M) : f4_count M fu (nI 3) = some (nI (hB P s)) := by
  unfold f4_count f4_countOf
  simp (disch := omega) only [lit, nlt, nle, neq, nI_add, pk_mul, nm_u, bS, gd_d, oc_none, oc_some, rd_n, wr_n, if_pos, if_neg, ite_true, ite_false, not_true_eq_false, not_false_eq_true, g1, g2, g3, g4, h1, h2, h3, h4, h.2.2.1.2.1]
theorem ct4 (h : St P s M) : f4_count M fu (nI 4) = some (nI (lB P s)) := by
  unfold f4_count f4_countOf
  simp (disch := omega) only [lit, nlt, nle, neq, nI_add, pk_mul, nm_u, bS, gd_d, oc_none, oc_some, rd_n, wr_n, if_pos, if_neg, ite_true, ite_false, not_true_eq_false, not_false_eq_true, g1, g2, g3, g4, h1, h2, h3, h4, lying_c h.1 h.2.2.1]
theorem ct5 (h : St P s M) : f4_count M fu (nI 5) = some (nI (wB P s)) := by
  unfold f4_count f4_countOf
  simp (disch := omega) only [lit, nlt, nle, neq, nI_add, pk_mul, nm_u, bS, gd_d, oc_none, oc_some, rd_n, wr_n, if_pos, if_neg, ite_true, ite_false, not_true_eq_false, not_false_eq_true, g1, g2, g3, g4, h1, h2, h3, h4, h.2.2.1.2.2.1]
theorem ct8 {g : Nat → Bool} (hfu : 10000 ≤ fu) (hg : ∀ r, r < 3 → (M.1 (20 + r) 0 = -nI 1 ∧ g r = false) ∨ ∃ k, k ≤ 40 ∧ M.1 (20 + r) 0 = nI k ∧ g r = true) : f4_count M fu (nI 8) = some (nI (cnt 3 g)) := by
  have e := thK_c (fu := fu) hg 3 0 fu (by omega) (by omega)
  have e2 : f4_countKept M fu = some (nI (cnt 3 g)) := e
  unfold f4_count f4_countOf
  simp (disch := omega) only [lit, nlt, nle, neq, nI_add, pk_mul, nm_u, bS, gd_d, oc_none, oc_some, rd_n, wr_n, if_pos, if_neg, ite_true, ite_false, not_true_eq_false, not_false_eq_true, g1, g2, g3, g4, h1, h2, h3, h4, e2]
theorem pin_s {k w : Nat} (h : St P s M) (hk : k < P.1) (hw : w < 8) : f4_pin (nI k) (nI w) M = some (sI M 28 6 (tv P s k w), nI 1) := by
  have h8 := h.1.1
  unfold f4_pin
  simp (disch := omega) only [lit, nlt, nle, neq, nI_add, pk_mul, nm_u, bS, gd_d, oc_none, oc_some, rd_n, wr_n, if_pos, if_neg, ite_true, ite_false, not_true_eq_false, not_false_eq_true, g1, g2, g3, g4, h1, h2, h3, h4, has2_in h.1 hk, tell_c h.1 h.2.2.1 hk hw]
theorem told1 {v : Int32} : f9_told_28 (sI M 28 6 v) (nI 1) = some v := by
  unfold f9_told_28 f4_asked
  simp (disch := omega) only [lit, nlt, nle, neq, nI_add, pk_mul, nm_u, bS, gd_d, oc_none, oc_some, rd_n, wr_n, if_pos, if_neg, ite_true, ite_false, not_true_eq_false, not_false_eq_true, g1, g2, g3, g4, h1, h2, h3, h4]
theorem asked1 {v : Int32} : f4_asked (sI M 28 6 v) = some v := by
  unfold f4_asked
  simp (disch := omega) only [lit, nlt, nle, neq, nI_add, pk_mul, nm_u, bS, gd_d, oc_none, oc_some, rd_n, wr_n, if_pos, if_neg, ite_true, ite_false, not_true_eq_false, not_false_eq_true, g1, g2, g3, g4, h1, h2, h3, h4]
theorem upper_s : f4_upper M = some (M.2 28 7) := rfl
theorem lower_s : f4_lower M = some (M.2 28 8) := rfl
end CT
theorem ite_one {b : Bool} {a : Nat} : (if b = true then a + 1 else a) = a + if b = true then 1 else 0 := by cases b <;> rfl
theorem many_s {S fu : Nat} (hfu : 10000 ≤ fu) (hS : S < 256) : f9_many fu (nI S) = some (nI (pcn S)) := by
  have key : ∀ (e i f : Nat), i + e = 8 → e < f → f9_many_4 fu f (nI S) (nI (fo (fun k a => if S.testBit k then a + 1 else a) i 0)) (nI i) = some (nI (pcn S)) := by
    intro e
    induction e with
    | zero =>
      intro i f h hf
      rcases f with _ | f
      · omega
      have : i = 8 := by omega
      subst this
      rw [f9_many_4]
      simp (disch := omega) only [lit, nlt, nle, neq, nI_add, pk_mul, nm_u, bS, gd_d, oc_none, oc_some, rd_n, wr_n, if_pos, if_neg, ite_true, ite_false, not_true_eq_false, not_false_eq_true, g1, g2, g3, g4, h1, h2, h3, h4]
      rfl
    | succ e ih =>
      intro i f h hf
      rcases f with _ | f
      · omega
      rw [f9_many_4]
      have h2 := ih (i + 1) f (by omega) (by omega)
      rw [fo_s] at h2
      rw [ite_one] at h2
      simp (disch := omega) only [lit, nlt, nle, neq, nI_add, pk_mul, nm_u, bS, gd_d, oc_none, oc_some, rd_n, wr_n, if_pos, if_neg, ite_true, ite_false, not_true_eq_false, not_false_eq_true, g1, g2, g3, g4, h1, h2, h3, h4, ior, iand, shl_n, Nat.or_zero, bit_b (a := S) (k := i) (by omega) (by omega)]
      try exact h2
  exact key 8 0 fu (by omega) (by omega)
def pc13 (S : Nat) : Nat := fo (fun k a => if S.testBit k then a + 1 else a) 13 0
theorem many13_s {S fu : Nat} (hfu : 10000 ≤ fu) (hS : S < 8192) : f9_many13 fu (nI S) = some (nI (pc13 S)) := by
  have key : ∀ (e i f : Nat), i + e = 13 → e < f → f9_many13_4 fu f (nI S) (nI (fo (fun k a => if S.testBit k then a + 1 else a) i 0)) (nI i) = some (nI (pc13 S)) := by
    intro e
    induction e with
    | zero =>
      intro i f h hf
      rcases f with _ | f
      · omega
      have : i = 13 := by omega
      subst this
      rw [f9_many13_4]
      simp (disch := omega) only [lit, nlt, nle, neq, nI_add, pk_mul, nm_u, bS, gd_d, oc_none, oc_some, rd_n, wr_n, if_pos, if_neg, ite_true, ite_false, not_true_eq_false, not_false_eq_true, g1, g2, g3, g4, h1, h2, h3, h4]
      rfl
    | succ e ih =>
      intro i f h hf
      rcases f with _ | f
      · omega
      rw [f9_many13_4]
      have h2 := ih (i + 1) f (by omega) (by omega)
      rw [fo_s] at h2
      rw [ite_one] at h2
      simp (disch := omega) only [lit, nlt, nle, neq, nI_add, pk_mul, nm_u, bS, gd_d, oc_none, oc_some, rd_n, wr_n, if_pos, if_neg, ite_true, ite_false, not_true_eq_false, not_false_eq_true, g1, g2, g3, g4, h1, h2, h3, h4, ior, iand, shl_n, Nat.or_zero, bit_b (a := S) (k := i) (by omega) (by omega)]
      try exact h2
  exact key 13 0 fu (by omega) (by omega)
theorem part_s (x : Int32) {n : Nat} (h0 : 0 < n) (hn : n < 2147483648) : ∃ j : Nat, j < n ∧ f9_part x (nI n) = some (nI j) := by
  obtain ⟨j, hj, e⟩ := pk_andE x (m := 2147483647) 31 (by decide)
  refine ⟨j % n, Nat.mod_lt _ h0, ?_⟩
  unfold f9_part
  rw [e, rmN (by omega) h0 hn]
  rfl
theorem cell_s {L : Nat} {xs : Nat → Int32} (hL : L ≤ 260) {k : Nat} (hk : k ≤ 1000) : ∃ c : Int32, ∀ M : Mem, f9_cell_S L xs M (nI k) = some c := by
  by_cases h0 : L = 0
  · subst h0
    exact ⟨_, fun M => by unfold f9_cell_S; rw [if_pos (show nI 0 = (0 : Int32) from rfl)]⟩
  · have e1 : ¬ nI L = (0 : Int32) := nI_ne0 (by omega) (by omega)
    have hin : ¬ (nI (k % L) < 0 ∨ L ≤ (nI (k % L)).toNatClampNeg) := nI_in (Nat.mod_lt _ (by omega)) (by omega)
    refine ⟨((xs ((nI (k % L)).toNatClampNeg) >>> (nI (k % 7) &&& 31)) ^^^ (nI (k / L) * (31 : Int32))) ^^^ (nI k * (2654435 : Int32)), fun M => ?_⟩
    unfold f9_cell_S
    rw [if_neg e1, rmN (by omega) (by omega) (by omega), bS]
    unfold rdS
    rw [if_neg hin, bS, show (7 : Int32) = nI 7 from rfl, rmN (by omega) (by omega) (by omega), bS, dvN (by omega) (by omega) (by omega), bS]
