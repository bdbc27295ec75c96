/-! 49: duel -/
def sgt (t : Nat) : Int := if t % 2 = 0 then 1 else -1
theorem sgt_s (t : Nat) : -sgt t = sgt (t + 1) := by
  unfold sgt
  by_cases c : t % 2 = 0
  · rw [if_pos c, if_neg (by omega)]
  · rw [if_neg c, if_pos (by omega)]; decide
theorem sgt_2 (t : Nat) : sgt t = 1 ∨ sgt t = -1 := by
  unfold sgt; split <;> simp
theorem m6z : (-1000000 : Int32) = zI (-1000000) := by decide
theorem d164 {fu j : Nat} {v q : Int} {MM : Mem} {x2 x3 x4 : Int32} {b : Bool} {k73 : Int32 → Int32 → Mem → Option (Mem × Int32)} {k85 : Int32 → Int32 → Int32 → Mem → Option (Mem × Int32)} {k109 : Int32 → Int32 → Int32 → Int32 → Int32 → Mem → Option (Mem × Int32)} (b1 : -1000000 ≤ v ∧ v ≤ 1000000) : f5_duel_164 fu k73 k85 k109 x2 x3 x4 (zI q) (nI j) (zI v) (if b then (1 : Int32) else (0 : Int32)) MM = k109 x2 x3 x4 (zI (if v ≤ -1000000 then q else if b then v else q)) (nI (j + 1)) MM := by
  unfold f5_duel_164
  by_cases c : v ≤ -1000000
  · have t1 : zI v ≤ (-1000000 : Int32) := by rw [m6z, zle (by omega) (by omega) (by omega) (by omega)]; exact c
    rw [if_pos t1, if_pos c, nm_u, ad1]
  · have t1 : ¬ zI v ≤ (-1000000 : Int32) := by rw [m6z, zle (by omega) (by omega) (by omega) (by omega)]; exact c
    rw [if_neg t1, if_neg c]
    cases b
    · rw [if_pos (show (if false = true then (1 : Int32) else (0 : Int32)) = 0 from rfl), nm_u, ad1]
      rfl
    · rw [if_neg (show ¬ (if true = true then (1 : Int32) else (0 : Int32)) = 0 by decide), nm_u, ad1]
      rfl
theorem duel_i {fu i t : Nat} {g : Nat → Int32} {v : Nat → Int} {MM : Mem} {x2 : Int32} {k73 : Int32 → Int32 → Mem → Option (Mem × Int32)} {k85 : Int32 → Int32 → Int32 → Mem → Option (Mem × Int32)} (hi : 9 * i + 9 ≤ 6561) (ht : t < 8) (hv : ∀ d, -1000000 ≤ v d ∧ v d ≤ 1000000) (hg : ∀ j, j < 9 → g (9 * i + j) = zI (v j)) : ∀ (e j f : Nat), j + e = 8 → e < f → f5_duel_109 fu k73 k85 f x2 (nI t) (nI i) (zI (cmb (sgt t) v j)) (nI j) (sF MM 14 g) = k85 x2 (nI t) (nI (i + 1)) (sF MM 14 (upd g i (zI (cmb (sgt t) v 8)))) := by
  have q4 : rmI (nI t) (2 : Int32) = some (nI (t % 2)) := rmN (z := t) (n := 2) (by omega) (by omega) (by omega)
  intro e
  induction e with
  | zero =>
    intro j f hj hf
    rcases f with _ | f
    · omega
    have : j = 8 := by omega
    subst this
    rw [f5_duel_109]
    simp (disch := omega) only [lit, nlt, nle, neq, nI_add, pk_mul, nm_u, bS, gd_d, oc_none, oc_some, rd_n, wr_n, if_pos, if_neg, ite_true, ite_false, not_true_eq_false, not_false_eq_true, g1, g2, g3, g4, h1, h2, h3, h4, ior, iand, shl_n, Nat.or_zero, sI_sF]
  | succ e ih =>
    intro j f hj hf
    rcases f with _ | f
    · omega
    have hI := ih (j + 1) f (by omega) (by omega)
    rw [cmb_s] at hI
    have b1 := hv j
    have b2 := cmb_bd (sg := sgt t) hv j
    have r1 := hg j (by omega)
    generalize cmb (sgt t) v j = q at hI b2
    have t1 : ¬ (8 : Int32) ≤ nI j := by
      show ¬ nI 8 ≤ nI j
      rw [nle (by omega) (by omega)]; omega
    have r9 : rd (sF MM 14 g) 14 6561 ((9 : Int32) * nI i + nI j) = some (zI (v j)) := by
      show rd (sF MM 14 g) 14 6561 (nI 9 * nI i + nI j) = _
      rw [pk_mul, nI_add, rd_n (by omega) (by omega), sF_1, r1]
    rw [f5_duel_109]
    dsimp only
    rw [if_neg t1, r9, bS, q4, bS]
    by_cases p : t % 2 = 0
    · have s1 : sgt t = 1 := if_pos p
      rw [p, if_pos tP0]
      have e1 : (if zI (v j) ≤ zI q then f5_duel_164 fu k73 k85 (f5_duel_109 fu k73 k85 f) x2 (nI t) (nI i) (zI q) (nI j) (zI (v j)) 0 (sF MM 14 g) else f5_duel_164 fu k73 k85 (f5_duel_109 fu k73 k85 f) x2 (nI t) (nI i) (zI q) (nI j) (zI (v j)) 1 (sF MM 14 g)) = f5_duel_164 fu k73 k85 (f5_duel_109 fu k73 k85 f) x2 (nI t) (nI i) (zI q) (nI j) (zI (v j)) (if decide (1 * q < 1 * v j) = true then (1 : Int32) else (0 : Int32)) (sF MM 14 g) := by
        by_cases d : v j ≤ q
        · rw [if_pos (by rw [zle (by omega) (by omega) (by omega) (by omega)]; exact d), show decide (1 * q < 1 * v j) = false by simp; omega]
          rfl
        · rw [if_neg (by rw [zle (by omega) (by omega) (by omega) (by omega)]; exact d), show decide (1 * q < 1 * v j) = true by simp; omega]
          rfl
      rw [e1, d164 b1]
      rw [s1] at hI ⊢
      simp only [decide_eq_true_eq]
      exact hI
    · have p1 : t % 2 = 1 := by omega
      have s1 : sgt t = -1 := if_neg p
      rw [p1, if_neg tN0]
      have e1 : (if zI q ≤ zI (v j) then f5_duel_164 fu k73 k85 (f5_duel_109 fu k73 k85 f) x2 (nI t) (nI i) (zI q) (nI j) (zI (v j)) 0 (sF MM 14 g) else f5_duel_164 fu k73 k85 (f5_duel_109 fu k73 k85 f) x2 (nI t) (nI i) (zI q) (nI j) (zI (v j)) 1 (sF MM 14 g)) = f5_duel_164 fu k73 k85 (f5_duel_109 fu k73 k85 f) x2 (nI t) (nI i) (zI q) (nI j) (zI (v j)) (if decide (-1 * q < -1 * v j) = true then (1 : Int32) else (0 : Int32)) (sF MM 14 g) := by
        by_cases d : q ≤ v j
        · rw [if_pos (by rw [zle (by omega) (by omega) (by omega) (by omega)]; exact d), show decide (-1 * q < -1 * v j) = false by simp; omega]
          rfl
        · rw [if_neg (by rw [zle (by omega) (by omega) (by omega) (by omega)]; exact d), show decide (-1 * q < -1 * v j) = true by simp; omega]
          rfl
      rw [e1, d164 b1]
      rw [s1] at hI ⊢
      simp only [decide_eq_true_eq]
      exact hI
theorem duel_lv {fu t : Nat} {Y : Nat → Int} {MM : Mem} {k73 : Int32 → Int32 → Mem → Option (Mem × Int32)} (hfu : 10000 ≤ fu) (ht : t < 4) (hY : ∀ d, -1000000 ≤ Y d ∧ Y d ≤ 1000000) : ∀ (e i f : Nat) (g : Nat → Int32), i + e = 9 ^ t → e < f → (∀ x, x < i → g x = zI (cmb (sgt t) (fun d => Y (9 * x + d)) 8)) → (∀ x, 9 * i ≤ x → x < 9 ^ (t + 1) → g x = zI (Y x)) → ∃ g', (∀ x, x < 9 ^ t → g' x = zI (cmb (sgt t) (fun d => Y (9 * x + d)) 8)) ∧ f5_duel_85 fu k73 f (nI (9 ^ t)) (nI t) (nI i) (sF MM 14 g) = k73 (nI (9 ^ t)) (nI t + -nI 1) (sF MM 14 g') := by
  have h9 : 9 ^ t ≤ 729 := Nat.pow_le_pow_right (n := 9) (by omega) (show t ≤ 3 by omega)
  have h9s : 9 ^ (t + 1) = 9 * 9 ^ t := by rw [Nat.pow_succ, Nat.mul_comm]
  intro e
  induction e with
  | zero =>
    intro i f g hi hf lh1 lh2
    rcases f with _ | f
    · omega
    have : i = 9 ^ t := by omega
    refine ⟨g, fun x hx => lh1 x (by omega), ?_⟩
    rw [this, f5_duel_85]
    simp (disch := omega) only [lit, nlt, nle, neq, nI_add, pk_mul, nm_u, bS, gd_d, oc_none, oc_some, rd_n, wr_n, if_pos, if_neg, ite_true, ite_false, not_true_eq_false, not_false_eq_true, g1, g2, g3, g4, h1, h2, h3, h4, ior, iand, shl_n, Nat.or_zero]
  | succ e ih =>
    intro i f g hi hf lh1 lh2
    rcases f with _ | f
    · omega
    obtain ⟨g', a1, a2⟩ := ih (i + 1) f (upd g i (zI (cmb (sgt t) (fun d => Y (9 * i + d)) 8))) (by omega) (by omega) (fun x hx => by
      unfold upd
      by_cases c : x = i
      · subst c; rw [if_pos rfl]
      · rw [if_neg c]; exact lh1 x (by omega)) (fun x hx1 hx2 => by
      unfold upd
      rw [if_neg (by omega)]
      exact lh2 x (by omega) hx2)
    refine ⟨g', a1, ?_⟩
    have r8 : g (9 * i + 8) = zI (Y (9 * i + 8)) := lh2 _ (by omega) (by omega)
    have hin := duel_i (fu := fu) (i := i) (t := t) (g := g) (v := fun d => Y (9 * i + d)) (MM := MM) (x2 := nI (9 ^ t)) (k73 := k73) (k85 := f5_duel_85 fu k73 f) (by omega) (by omega) (fun d => hY _) (fun j hj => lh2 _ (by omega) (by omega)) 8 0 fu (by omega) (by omega)
    have e0 : cmb (sgt t) (fun d => Y (9 * i + d)) 0 = Y (9 * i + 8) := rfl
    rw [e0] at hin
    rw [f5_duel_85]
    simp (disch := omega) only [lit, nlt, nle, neq, nI_add, pk_mul, nm_u, bS, gd_d, oc_none, oc_some, rd_n, wr_n, if_pos, if_neg, ite_true, ite_false, not_true_eq_false, not_false_eq_true, g1, g2, g3, g4, h1, h2, h3, h4, ior, iand, shl_n, Nat.or_zero, sF_1, r8]
    rw [hin]
    exact a2
theorem duel_f {fu n : Nat} {X : Nat → Int} {MM : Mem} (hfu : 10000 ≤ fu) (hn : n ≤ 4) (hX : ∀ d, -1000000 ≤ X d ∧ X d ≤ 1000000) : ∀ (t m f : Nat) (g : Nat → Int32), t + m = n → t < f → (∀ x, x < 9 ^ t → g x = zI (upU X m (sgt t) x)) → ∃ g', f5_duel_73 fu f (nI (9 ^ t)) (nI t - nI 1) (sF MM 14 g) = some (sF MM 14 g', nI 500 + zI (upU X n 1 0)) := by
  intro t
  induction t with
  | zero =>
    intro m f g ht hf hg
    rcases f with _ | f
    · omega
    have : m = n := by omega
    subst this
    have r0 := hg 0 (by decide)
    refine ⟨g, ?_⟩
    have z1 : nI 0 - nI 1 = -nI 1 := by decide
    have s0 : sgt 0 = 1 := rfl
    rw [s0] at r0
    rw [f5_duel_73]
    simp (disch := omega) only [lit, nlt, nle, neq, nI_add, pk_mul, nm_u, bS, gd_d, oc_none, oc_some, rd_n, wr_n, if_pos, if_neg, ite_true, ite_false, not_true_eq_false, not_false_eq_true, g1, g2, g3, g4, h1, h2, h3, h4, ior, iand, shl_n, Nat.or_zero, z1, m1_lt, sF_1, r0]
  | succ t ih =>
    intro m f g ht hf hg
    rcases f with _ | f
    · omega
    have h9 : 9 ^ t ≤ 729 := Nat.pow_le_pow_right (n := 9) (by omega) (show t ≤ 3 by omega)
    have h9s : 9 ^ (t + 1) = 9 * 9 ^ t := by rw [Nat.pow_succ, Nat.mul_comm]
    obtain ⟨gv, b1, b2⟩ := duel_lv (fu := fu) (t := t) (Y := fun x => upU X m (sgt (t + 1)) x) (MM := MM) (k73 := f5_duel_73 fu f) hfu (by omega) (fun d => up_bd hX m _ d) (9 ^ t) 0 fu g (by omega) (by omega) (fun x hx => absurd hx (by omega)) (fun x _ hx => hg x hx)
    obtain ⟨g', a1⟩ := ih (m + 1) f gv (by omega) (by omega) (fun x hx => by
      rw [b1 x hx]
      show _ = zI (cmb (sgt t) (fun d => upU X m (-sgt t) (9 * x + d)) 8)
      rw [sgt_s])
    refine ⟨g', ?_⟩
    have e1 : nI (t + 1) - nI 1 = nI t := by rw [pk_sub (by omega), Nat.add_sub_cancel]
    have e2 : dvI (nI (9 ^ (t + 1))) (nI 9) = some (nI (9 ^ t)) := by
      rw [dvN (by omega) (by omega) (by omega), h9s, Nat.mul_div_cancel_left _ (by omega)]
    rw [e1, f5_duel_73]
    simp (disch := omega) only [lit, nlt, nle, neq, nI_add, pk_mul, nm_u, bS, gd_d, oc_none, oc_some, rd_n, wr_n, if_pos, if_neg, ite_true, ite_false, not_true_eq_false, not_false_eq_true, g1, g2, g3, g4, h1, h2, h3, h4, ior, iand, shl_n, Nat.or_zero, e2]
    rw [b2, ← Int32.sub_eq_add_neg]
    exact a1
theorem duel_fill {fu n : Nat} {P : PD} {s : Nat → Int32} {MC MM : Mem} (hfu : 10000 ≤ fu) (hP : GP P MC MM) (hg : gst P.1 s) (hs : ∀ j, j ≤ P.1 → MM.1 10 j = s j) (hn4 : n ≤ 4) : ∀ (e i f : Nat) (g : Nat → Int32), i + e = 9 ^ n → e < f → (∀ x, x < i → g x = zI (lef P n 1 (msk P.1 (lyB s)) 0 0 0 x)) → ∃ g', (∀ x, x < 9 ^ n → g' x = zI (lef P n 1 (msk P.1 (lyB s)) 0 0 0 x)) ∧ f5_duel_46 fu f (nI n) (nI (9 ^ n)) (nI i) (sF MM 14 g) = f5_duel_73 fu fu (nI (9 ^ n)) (nI n - nI 1) (sF MM 14 g') := by
  have h9n : 9 ^ n ≤ 6561 := Nat.pow_le_pow_right (n := 9) (by omega) hn4
  intro e
  induction e with
  | zero =>
    intro i f g hi hf lh1
    rcases f with _ | f
    · omega
    have : i = 9 ^ n := by omega
    refine ⟨g, fun x hx => lh1 x (by omega), ?_⟩
    rw [this, f5_duel_46]
    simp (disch := omega) only [lit, nlt, nle, neq, nI_add, pk_mul, nm_u, bS, gd_d, oc_none, oc_some, rd_n, wr_n, if_pos, if_neg, ite_true, ite_false, not_true_eq_false, not_false_eq_true, g1, g2, g3, g4, h1, h2, h3, h4, ior, iand, shl_n, Nat.or_zero]
  | succ e ih =>
    intro i f g hi hf lh1
    rcases f with _ | f
    · omega
    obtain ⟨g', a1, a2⟩ := ih (i + 1) f (upd g i (zI (lef P n 1 (msk P.1 (lyB s)) 0 0 0 i))) (by omega) (by omega) (fun x hx => by
      unfold upd
      by_cases c : x = i
      · subst c; rw [if_pos rfl]
      · rw [if_neg c]; exact lh1 x (by omega))
    refine ⟨g', a1, ?_⟩
    have hP2 : GP P MC (sF MM 14 g) := hP.cg (fun _ _ => rfl) (by rw [sF_q (by omega)]) (fun q hq => sF_q (by omega))
    have pm := played_m (MM := sF MM 14 g) hfu hP2 hg (by rw [sF_q (by omega)]; exact hs) hn4 (show i < 9 ^ n by omega)
    rw [f5_duel_46]
    simp (disch := omega) only [lit, nlt, nle, neq, nI_add, pk_mul, nm_u, bS, gd_d, oc_none, oc_some, rd_n, wr_n, if_pos, if_neg, ite_true, ite_false, not_true_eq_false, not_false_eq_true, g1, g2, g3, g4, h1, h2, h3, h4, ior, iand, shl_n, Nat.or_zero, pm, sI_sF]
    exact a2
theorem sF_self {M : Mem} {p : Nat} : sF M p (M.1 p) = M := sF_id (fun _ => rfl)
theorem s_duel {fu : Nat} (hfu : 10000 ≤ fu) : Sim_duel fu Rel := by
  intro MC MM a0 hR
  obtain ⟨P, s, hP, hg, hs, hp⟩ := hR.nw
  have h8 := hP.1
  have h256 := pow8 h8
  have l4 : (4 : Int64) = (nI 4).toInt64 := by decide
  rcases tri a0 5 (by omega) with h | ⟨n, hn5, rfl⟩
  · refine ⟨-1, MM, ?_, ?_, hR⟩
    · unfold f4_duel
      rcases h with h | ⟨h0, h⟩
      · simp (disch := omega) only [lit, nlt, nle, neq, nI_add, pk_mul, nm_u, bS, gd_d, oc_none, oc_some, rd_n, wr_n, if_pos, if_neg, ite_true, ite_false, not_true_eq_false, not_false_eq_true, g1, g2, g3, g4, h1, h2, h3, h4, ior, iand, shl_n, Nat.or_zero, h]
      · simp (disch := omega) only [lit, nlt, nle, neq, nI_add, pk_mul, nm_u, bS, gd_d, oc_none, oc_some, rd_n, wr_n, if_pos, if_neg, ite_true, ite_false, not_true_eq_false, not_false_eq_true, g1, g2, g3, g4, h1, h2, h3, h4, ior, iand, shl_n, Nat.or_zero, h0, ge_nle (b := 4) (by omega) h]
    · unfold f5_duel
      simp (disch := omega) only [lit, nlt, nle, neq, nI_add, pk_mul, nm_u, bS, gd_d, oc_none, oc_some, rd_n, wr_n, if_pos, if_neg, ite_true, ite_false, not_true_eq_false, not_false_eq_true, g1, g2, g3, g4, h1, h2, h3, h4, ior, iand, shl_n, Nat.or_zero, l4, in_out (n := 4) (by omega) h]
  by_cases hn : P.1 = 0
  · refine ⟨-4, MM, ?_, ?_, hR⟩
    · unfold f4_duel
      simp (disch := omega) only [lit, nlt, nle, neq, nI_add, pk_mul, nm_u, bS, gd_d, oc_none, oc_some, rd_n, wr_n, if_pos, if_neg, ite_true, ite_false, not_true_eq_false, not_false_eq_true, g1, g2, g3, g4, h1, h2, h3, h4, ior, iand, shl_n, Nat.or_zero, hP.2.1]
    · unfold f5_duel
      simp (disch := omega) only [lit, nlt, nle, neq, nI_add, pk_mul, nm_u, bS, gd_d, oc_none, oc_some, rd_n, wr_n, if_pos, if_neg, ite_true, ite_false, not_true_eq_false, not_false_eq_true, g1, g2, g3, g4, h1, h2, h3, h4, ior, iand, shl_n, Nat.or_zero, l4, in_in (n := 4), kq9, hP.2.2.1]
  have hok : ∀ k, (msk P.1 (lyB s)).testBit k = true → okP P k := by
    intro k hk
    rw [msk_tb] at hk
    simp at hk
    exact (hP.2.2.2.1 k hk.1).1
  have h9n : 9 ^ n ≤ 6561 := Nat.pow_le_pow_right (n := 9) (by omega) (show n ≤ 4 by omega)
  have lyl := msk_lt P.1 (lyB s)
  have gc := gain_c (fu := fu) hfu hP n 6 (msk P.1 (lyB s)) 0 0 (by omega) (by omega) lyl (by omega) (by omega)
  obtain ⟨gv, b1, b2⟩ := duel_fill (fu := fu) hfu hP hg hs (show n ≤ 4 by omega) (9 ^ n) 0 fu (MM.1 14) (by omega) (by omega) (fun x hx => absurd hx (by omega))
  obtain ⟨gw, c1⟩ := duel_f (fu := fu) (n := n) (X := fun x => lef P n 1 (msk P.1 (lyB s)) 0 0 0 x) (MM := MM) hfu (by omega) (fun d => lef_bd n 1 _ 0 0 0 d (by omega) (Or.inl rfl) hok (by omega) (by omega)) n 0 fu gv (by omega) (by omega) b1
  rw [sF_self] at b2
  have ug := up_gam (P := P) (X := fun x => lef P n 1 (msk P.1 (lyB s)) 0 0 0 x) n 1 0 (msk P.1 (lyB s)) 0 0 0 (by omega) (Or.inl rfl) hok (by omega) (by omega) (fun j _ => by rw [Nat.zero_mul, Nat.zero_add])
  rw [Int.zero_add, Int.one_mul] at ug
  rw [ug] at c1
  refine ⟨nI 500 + zI (gam P n (msk P.1 (lyB s)) 0 0), sF MM 14 gw, ?_, ?_, hR.scr (fun q _ _ a _ => sF_q a) (fun i hi => by rw [sF_q (by omega)]) rfl⟩
  · unfold f4_duel f4_gainByTurns_35D
    simp (disch := omega) only [lit, nlt, nle, neq, nI_add, pk_mul, nm_u, bS, gd_d, oc_none, oc_some, rd_n, wr_n, if_pos, if_neg, ite_true, ite_false, not_true_eq_false, not_false_eq_true, g1, g2, g3, g4, h1, h2, h3, h4, ior, iand, shl_n, Nat.or_zero, hP.2.1, lying_c hP hp, gc]
  · have key : ∀ (e i f : Nat), i + e = n → e < f → f5_duel_28 fu f (nI n) (nI (9 ^ i)) (nI i) MM = f5_duel_46 fu fu (nI n) (nI (9 ^ n)) (nI 0) MM := by
      intro e
      induction e with
      | zero =>
        intro i f hi hf
        rcases f with _ | f
        · omega
        have : i = n := by omega
        subst this
        rw [f5_duel_28]
        simp (disch := omega) only [lit, nlt, nle, neq, nI_add, pk_mul, nm_u, bS, gd_d, oc_none, oc_some, rd_n, wr_n, if_pos, if_neg, ite_true, ite_false, not_true_eq_false, not_false_eq_true, g1, g2, g3, g4, h1, h2, h3, h4, ior, iand, shl_n, Nat.or_zero]
      | succ e ih =>
        intro i f hi hf
        rcases f with _ | f
        · omega
        have lh2 := ih (i + 1) f (by omega) (by omega)
        rw [Nat.pow_succ] at lh2
        rw [f5_duel_28]
        simp (disch := omega) only [lit, nlt, nle, neq, nI_add, pk_mul, nm_u, bS, gd_d, oc_none, oc_some, rd_n, wr_n, if_pos, if_neg, ite_true, ite_false, not_true_eq_false, not_false_eq_true, g1, g2, g3, g4, h1, h2, h3, h4, ior, iand, shl_n, Nat.or_zero]
        exact lh2
    have k0 := key n 0 fu (by omega) (by omega)
    rw [Nat.pow_zero] at k0
    unfold f5_duel
    simp (disch := omega) only [lit, nlt, nle, neq, nI_add, pk_mul, nm_u, bS, gd_d, oc_none, oc_some, rd_n, wr_n, if_pos, if_neg, ite_true, ite_false, not_true_eq_false, not_false_eq_true, g1, g2, g3, g4, h1, h2, h3, h4, ior, iand, shl_n, Nat.or_zero, l4, in_in (n := 4), kq9, hP.2.2.1]
    rw [k0, b2]
    exact c1
