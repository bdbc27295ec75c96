/-! out of 54.signs -/
theorem rdT_n : ∀ i, i < 6 → rdT (nI i) = some (letF i) := by decide +kernel
theorem kl_s {M : Mem} {fu f i : Nat} {c : Int32} (hi : i < 6) : f4_kindOfLetter_2 M fu (f + 1) c (nI i) = if letF i = c then some (nI i) else f4_kindOfLetter_2 M fu f c (nI (i + 1)) := by
  have t1 : ¬ (6 : Int32) ≤ nI i := by
    show ¬ nI 6 ≤ nI i
    rw [nle (by omega) (by omega)]; omega
  rw [f4_kindOfLetter_2]
  dsimp only
  rw [if_neg t1, rdT_n i hi, bS, nm_u, ad1]
theorem kl_e {M : Mem} {fu f : Nat} {c : Int32} : f4_kindOfLetter_2 M fu (f + 1) c (nI 6) = some (-nI 9) := by
  have t1 : (6 : Int32) ≤ nI 6 := Int32.le_refl _
  rw [f4_kindOfLetter_2]
  dsimp only
  rw [if_pos t1]
  rfl
theorem kl_a {M : Mem} {fu : Nat} {c : Int32} (hfu : 10000 ≤ fu) : f4_kindOfLetter M fu c = if letF 0 = c then some (nI 0) else if letF 1 = c then some (nI 1) else if letF 2 = c then some (nI 2) else if letF 3 = c then some (nI 3) else if letF 4 = c then some (nI 4) else if letF 5 = c then some (nI 5) else some (-nI 9) := by
  have key : ∀ g, f4_kindOfLetter_2 M fu (g + 7) c (nI 0) = if letF 0 = c then some (nI 0) else if letF 1 = c then some (nI 1) else if letF 2 = c then some (nI 2) else if letF 3 = c then some (nI 3) else if letF 4 = c then some (nI 4) else if letF 5 = c then some (nI 5) else some (-nI 9) := by
    intro g
    rw [kl_s (by omega), kl_s (by omega), kl_s (by omega), kl_s (by omega), kl_s (by omega), kl_s (by omega), kl_e]
  unfold f4_kindOfLetter
  have := key (fu - 7)
  rw [show fu - 7 + 7 = fu by omega] at this
  exact this
theorem fig_sub {d : Nat} : nI (48 + d) - nI 48 = nI d := by
  rw [pk_sub (by omega), Nat.add_sub_cancel_left]
def loS (sg : Nat) : Nat := if sg = 3 then 1 else 0
def hiS (sg : Nat) : Nat := if sg = 3 then 4 else 9
theorem loS_hi (sg : Nat) : loS sg ≤ hiS sg ∧ hiS sg ≤ 9 := by
  unfold loS hiS
  split <;> omega
theorem sg_ne {sg : Nat} (h1 : 1 ≤ sg) (h4 : sg ≤ 4) : ¬ nI sg = (0 : Int32) := by
  show ¬ nI sg = nI 0
  rw [neq (by omega) (by omega)]; omega
theorem sg_3 {sg : Nat} (h4 : sg ≤ 4) : (nI sg = (3 : Int32)) = (sg = 3) := neq (b := 3) (by omega) (by omega)
theorem sign_ok {M : Mem} {fu sg d : Nat} (h1 : 1 ≤ sg) (h4 : sg ≤ 4) (d1 : loS sg ≤ d) (d2 : d ≤ hiS sg) : f4_isSign M fu (nI sg) (nI (48 + d)) = some (nI 1) := by
  have hh := (loS_hi sg).2
  have e : nI (48 + d) - (48 : Int32) = nI d := fig_sub
  unfold f4_isSign
  rw [if_neg (sg_ne h1 h4), nm_u, e]
  by_cases c : sg = 3
  · have q1 : loS sg = 1 := if_pos c
    have q2 : hiS sg = 4 := if_pos c
    have t1 : ¬ nI d < (1 : Int32) := by
      show ¬ nI d < nI 1
      rw [nlt (by omega) (by omega)]; omega
    have t2 : ¬ (4 : Int32) < nI d := by
      show ¬ nI 4 < nI d
      rw [nlt (by omega) (by omega)]; omega
    rw [if_pos (by rw [sg_3 h4]; exact c), if_neg t1, if_neg t2]
    rfl
  · have q2 : hiS sg = 9 := if_neg c
    have t1 : ¬ nI d < (0 : Int32) := by
      show ¬ nI d < nI 0
      rw [nlt (by omega) (by omega)]; omega
    have t2 : ¬ (9 : Int32) < nI d := by
      show ¬ nI 9 < nI d
      rw [nlt (by omega) (by omega)]; omega
    rw [if_neg (by rw [sg_3 h4]; exact c), if_neg t1, if_neg t2]
    rfl
/-- the reference, reading -/
def RS (t N i q : Nat) (M0 M : Mem) : Prop := M.1 0 18 = nI i ∧ M.1 0 19 = nI N ∧ M.1 0 20 = nI t ∧ M.1 0 22 = nI q ∧ (∀ p, p ≠ 0 → p ≠ 13 → M.1 p = M0.1 p) ∧ (∀ j, j = 4 ∨ j = 7 ∨ j = 9 ∨ j = 16 → M.1 0 j = M0.1 0 j) ∧ M.2 = M0.2
theorem RS.pin {t N i q : Nat} {M0 M : Mem} (h : RS t N i q M0 M) : RS t N i (q + 1) M0 (sI M 0 22 (nI (q + 1))) := by
  obtain ⟨a1, a2, a3, a4, a5, a6, a7⟩ := h
  exact ⟨by rw [g3 (by omega)]; exact a1, by rw [g3 (by omega)]; exact a2, by rw [g3 (by omega)]; exact a3, g1, fun p p0 p13 => by rw [g2 p0]; exact a5 p p0 p13, fun j hj => by rw [g3 (by omega)]; exact a6 j hj, a7⟩
section HR
variable {t N i q : Nat} {M0 M : Mem} {b : Nat → Int32}
end HR
/-! out of 55.pinread -/
def rg (f v : Nat) : Prop := v < 10 ∧ (f = 0 → v < 6) ∧ (f = 3 → 1 ≤ v ∧ v ≤ 4)
/-- what both have read: q pins, and sg signs of the next one -/
def PQ (q sg : Nat) (MM MC : Mem) : Prop := ∀ k f, f < 5 → (k < q ∨ (k = q ∧ f < sg)) → ∃ v, rg f v ∧ MM.1 13 (5 * k + f) = nI v ∧ MC.1 (36 + f) k = nI v
def CSr (q : Nat) (M0 M : Mem) : Prop := M.1 35 0 = nI q ∧ (∀ p, p < 35 ∨ 40 < p → M.1 p = M0.1 p) ∧ M.2 = M0.2
theorem PQ.cg {q sg : Nat} {MM MC MM' MC' : Mem} (h : PQ q sg MM MC) (a : MM'.1 13 = MM.1 13) (b : ∀ f, f < 5 → MC'.1 (36 + f) = MC.1 (36 + f)) : PQ q sg MM' MC' := by
  intro k f hf hk
  rw [a, b f hf]
  exact h k f hf hk
theorem CSr.at {q p x : Nat} {v : Int32} {M0 M : Mem} (h : CSr q M0 M) (hp : 36 ≤ p) (hp2 : p ≤ 40) : CSr q M0 (sI M p x v) := by
  obtain ⟨a1, a2, a3⟩ := h
  exact ⟨by rw [g2 (by omega)]; exact a1, fun y hy => by rw [g2 (by omega)]; exact a2 y hy, a3⟩
theorem CSr.pin {q : Nat} {M0 M : Mem} (h : CSr q M0 M) : CSr (q + 1) M0 (sI M 35 0 (nI (q + 1))) := by
  obtain ⟨a1, a2, a3⟩ := h
  exact ⟨g1, fun y hy => by rw [g2 (by omega)]; exact a2 y hy, a3⟩
section FF
variable {t N fu : Nat} {MC M0 M : Mem} {b : Nat → Int32}
theorem gk10 {t : Nat} (ht : t < 4) : gd (decide (t + 6 < 10)) = some () := by
  have : t + 6 < 10 := by omega
  simp [gd, this]
theorem ff_end {q sg f : Nat} (ht : t < 4) (hN : N ≤ 60) (hsz : MC.1 (t + 6) 0 = nI N) (hq : q ≤ 8) (hs : sg < 5) : f4_firstFault_6 MC fu (f + 1) (t + 6) (nI q) (nI sg) (nI N) = if 0 < sg then some (nI N) else if q = 0 then some (nI N) else some (-nI 9) := by
  rw [f4_firstFault_6]
  dsimp only
  rw [gk10 ht, bS, hsz, if_pos (Int32.le_refl _)]
  by_cases c : 0 < sg
  · have t1 : (0 : Int32) < nI sg := by
      show nI 0 < nI sg
      rw [nlt (by omega) (by omega)]; exact c
    rw [if_pos t1, if_pos c]
  · have t1 : ¬ (0 : Int32) < nI sg := by
      show ¬ nI 0 < nI sg
      rw [nlt (by omega) (by omega)]; exact c
    rw [if_neg t1, if_neg c]
    by_cases d : q = 0
    · subst d
      rw [if_pos tP0, if_pos rfl]
    · have t2 : ¬ nI q = (0 : Int32) := by
        show ¬ nI q = nI 0
        rw [neq (by omega) (by omega)]; exact d
      rw [if_neg t2, if_neg d]
      rfl
theorem ff_in {q sg i f : Nat} (ht : t < 4) (hN : N ≤ 60) (hsz : MC.1 (t + 6) 0 = nI N) (hb : ∀ i, i < N → MC.1 (t + 6 + 10) i = b i) (hi : i < N) (hs : sg < 5) : f4_firstFault_6 MC fu (f + 1) (t + 6) (nI q) (nI sg) (nI i) = if 0 < sg then f4_firstFault_32 MC fu (f4_firstFault_6 MC fu f) (t + 6) (nI q) (nI sg) (nI i) (b i) else if b i = nI 32 then f4_firstFault_6 MC fu f (t + 6) (nI q) (nI sg) (nI (i + 1)) else f4_firstFault_32 MC fu (f4_firstFault_6 MC fu f) (t + 6) (nI q) (nI sg) (nI i) (b i) := by
  have t0 : ¬ nI N ≤ nI i := by rw [nle (by omega) (by omega)]; omega
  have c1 := cellAt_in (M := MC) (p := t + 6) (i := i) (by omega) (by omega)
  rw [hb i hi] at c1
  rw [f4_firstFault_6]
  dsimp only
  rw [gk10 ht, bS, hsz, if_neg t0, c1, bS]
  by_cases c : 0 < sg
  · have t1 : (0 : Int32) < nI sg := by
      show nI 0 < nI sg
      rw [nlt (by omega) (by omega)]; exact c
    rw [if_pos t1, if_pos c]
  · have t1 : ¬ (0 : Int32) < nI sg := by
      show ¬ nI 0 < nI sg
      rw [nlt (by omega) (by omega)]; exact c
    rw [if_neg t1, if_neg c]
    by_cases d : b i = nI 32
    · have d' : b i = (32 : Int32) := d
      rw [if_pos d', if_pos d, nm_u, ad1]
    · have d' : ¬ b i = (32 : Int32) := d
      rw [if_neg d', if_neg d]
theorem ff32_ok {q sg i : Nat} {c : Int32} {k6 : Nat → Int32 → Int32 → Int32 → Option Int32} (hq : q < 8) (hs : sg < 4) (h : f4_isSign MC fu (nI sg) c = some (nI 1)) : f4_firstFault_32 MC fu k6 (t + 6) (nI q) (nI sg) (nI i) c = k6 (t + 6) (nI q) (nI (sg + 1)) (nI (i + 1)) := by
  have t1 : ¬ (8 : Int32) ≤ nI q := by
    show ¬ nI 8 ≤ nI q
    rw [nle (by omega) (by omega)]; omega
  have t2 : ¬ nI (sg + 1) = (5 : Int32) := by
    show ¬ nI (sg + 1) = nI 5
    rw [neq (by omega) (by omega)]; omega
  unfold f4_firstFault_32
  rw [if_neg t1, h, bS, if_neg tN0, nm_u, ad1, if_neg t2, nm_u, ad1]
theorem ff32_last {q i : Nat} {c : Int32} {k6 : Nat → Int32 → Int32 → Int32 → Option Int32} (hq : q < 8) (h : f4_isSign MC fu (nI 4) c = some (nI 1)) : f4_firstFault_32 MC fu k6 (t + 6) (nI q) (nI 4) (nI i) c = k6 (t + 6) (nI (q + 1)) (nI 0) (nI (i + 1)) := by
  have t1 : ¬ (8 : Int32) ≤ nI q := by
    show ¬ nI 8 ≤ nI q
    rw [nle (by omega) (by omega)]; omega
  have t2 : nI (4 + 1) = (5 : Int32) := rfl
  unfold f4_firstFault_32
  rw [if_neg t1, h, bS, if_neg tN0, nm_u, ad1, if_pos t2, nm_u, nm_u, ad1, ad1]
  rfl
/-- the class, taking a figure -/
theorem take_fig {q sg d : Nat} (hq : q < 8) (h1 : 1 ≤ sg) (h4 : sg ≤ 4) (h : CSr q M0 M) : f2_takeSign fu (nI sg) (nI (48 + d)) M = some (sI M (36 + sg) q (nI d)) := by
  have t1 : ¬ nI q < (0 : Int32) := by
    show ¬ nI q < nI 0
    rw [nlt (by omega) (by omega)]; omega
  have t2 : nI q < (8 : Int32) := by
    show nI q < nI 8
    rw [nlt (by omega) (by omega)]; omega
  have e3 : nI (48 + d) - (48 : Int32) = nI d := fig_sub
  unfold f2_takeSign
  rw [h.1, if_neg t1, if_pos t2, e3]
  rcases (show sg = 1 ∨ sg = 2 ∨ sg = 3 ∨ sg = 4 by omega) with rfl | rfl | rfl | rfl
  · rw [if_neg (show ¬ nI 1 = (0 : Int32) by decide), if_pos (show nI 1 = (1 : Int32) from rfl), wr_n (by omega) (by omega), bS]
  · rw [if_neg (show ¬ nI 2 = (0 : Int32) by decide), if_neg (show ¬ nI 2 = (1 : Int32) by decide), if_pos (show nI 2 = (2 : Int32) from rfl), wr_n (by omega) (by omega), bS]
  · rw [if_neg (show ¬ nI 3 = (0 : Int32) by decide), if_neg (show ¬ nI 3 = (1 : Int32) by decide), if_neg (show ¬ nI 3 = (2 : Int32) by decide), if_pos (show nI 3 = (3 : Int32) from rfl), wr_n (by omega) (by omega), bS]
  · rw [if_neg (show ¬ nI 4 = (0 : Int32) by decide), if_neg (show ¬ nI 4 = (1 : Int32) by decide), if_neg (show ¬ nI 4 = (2 : Int32) by decide), if_neg (show ¬ nI 4 = (3 : Int32) by decide), wr_n (by omega) (by omega), bS]
theorem take_let {q v : Nat} {c : Int32} (hq : q < 8) (hk : f4_kindOfLetter M fu c = some (nI v)) (h : CSr q M0 M) : f2_takeSign fu (nI 0) c M = some (sI M 36 q (nI v)) := by
  have t1 : ¬ nI q < (0 : Int32) := by
    show ¬ nI q < nI 0
    rw [nlt (by omega) (by omega)]; omega
  have t2 : nI q < (8 : Int32) := by
    show nI q < nI 8
    rw [nlt (by omega) (by omega)]; omega
  unfold f2_takeSign
  rw [h.1, if_neg t1, if_pos t2, if_pos tP0, hk, bS, wr_n (by omega) (by omega), bS]
theorem rd_in {q sg i f : Nat} (ht : t < 4) (hN : N ≤ 60) (hsz : M0.1 (t + 6) 0 = nI N) (hb : ∀ i, i < N → M0.1 (t + 6 + 10) i = b i) (h : CSr q M0 M) (hq : q < 8) (hi : i < N) (hc : ¬ b i = nI 32) : f2_read_9 fu (f + 1) (t + 6) (nI sg) (nI i) M = (f2_takeSign fu (nI sg) (b i) M).bind fun M9 => if nI (sg + 1) = (5 : Int32) then f2_read_9 fu f (t + 6) (0 : Int32) (nI (i + 1)) (sI M9 35 0 ((M9.1 35 0) + (1 : Int32))) else f2_read_9 fu f (t + 6) (nI (sg + 1)) (nI (i + 1)) M9 := by
  have t0 : ¬ nI N ≤ nI i := by rw [nle (by omega) (by omega)]; omega
  have t2 : ¬ (8 : Int32) ≤ nI q := by
    show ¬ nI 8 ≤ nI q
    rw [nle (by omega) (by omega)]; omega
  have c1 := cellAt_in (M := M) (p := t + 6) (i := i) (by omega) (by omega)
  rw [h.2.1 (t + 6 + 10) (by omega), hb i hi] at c1
  have hc' : ¬ b i = (32 : Int32) := hc
  have hsz2 : M.1 (t + 6) 0 = nI N := by rw [h.2.1 (t + 6) (by omega)]; exact hsz
  rw [f2_read_9]
  dsimp only
  rw [gk10 ht, bS, hsz2, if_neg t0, h.1, if_neg t2, c1, bS, if_neg hc']
  simp only [nm_u, ad1]
/-- blanks are passed by the class -/
theorem rd_blank {q i f : Nat} (ht : t < 4) (hN : N ≤ 60) (hsz : M0.1 (t + 6) 0 = nI N) (hb : ∀ i, i < N → M0.1 (t + 6 + 10) i = b i) (h : CSr q M0 M) (hq : q < 8) (hi : i < N) (hc : b i = nI 32) : f2_read_9 fu (f + 1) (t + 6) (nI 0) (nI i) M = f2_read_9 fu f (t + 6) (nI 0) (nI (i + 1)) M := by
  have t0 : ¬ nI N ≤ nI i := by rw [nle (by omega) (by omega)]; omega
  have t2 : ¬ (8 : Int32) ≤ nI q := by
    show ¬ nI 8 ≤ nI q
    rw [nle (by omega) (by omega)]; omega
  have c1 := cellAt_in (M := M) (p := t + 6) (i := i) (by omega) (by omega)
  rw [h.2.1 (t + 6 + 10) (by omega), hb i hi] at c1
  have hc' : b i = (32 : Int32) := hc
  have hsz2 : M.1 (t + 6) 0 = nI N := by rw [h.2.1 (t + 6) (by omega)]; exact hsz
  rw [f2_read_9]
  dsimp only
  rw [gk10 ht, bS, hsz2, if_neg t0, h.1, if_neg t2, c1, bS, if_pos hc', nm_u, ad1]
theorem rd_end {q sg f : Nat} (ht : t < 4) (hsz : M0.1 (t + 6) 0 = nI N) (h : CSr q M0 M) : f2_read_9 fu (f + 1) (t + 6) (nI sg) (nI N) M = f2_read_75 fu fu (nI 0) M := by
  have hsz2 : M.1 (t + 6) 0 = nI N := by rw [h.2.1 (t + 6) (by omega)]; exact hsz
  rw [f2_read_9]
  dsimp only
  rw [gk10 ht, bS, hsz2, if_pos (Int32.le_refl _)]
  rfl
end FF
/-! out of 56.reads -/
theorem sign0_ok {M : Mem} {fu v : Nat} {c : Int32} (hv : v < 6) (h : f4_kindOfLetter M fu c = some (nI v)) : f4_isSign M fu (nI 0) c = some (nI 1) := by
  have t1 : ¬ nI v = (-9 : Int32) := of_eq_false (np9 (F := v) (by omega))
  unfold f4_isSign
  rw [if_pos tP0, h, bS, if_neg t1]
  rfl
section RT
variable {t N fu : Nat} {MC MM : Mem} {b : Nat → Int32}
end RT
/-! out of 57.tables -/
theorem or_pow {r k : Nat} (h : r < 2 ^ k) : r ||| 2 ^ k = r + 2 ^ k := by
  have := Nat.two_pow_add_eq_or_of_lt h 1
  rw [Nat.mul_one] at this
  rw [Nat.or_comm, ← this, Nat.add_comm]
theorem or_tb {r k j : Nat} : (r ||| 2 ^ k).testBit j = (r.testBit j || decide (k = j)) := by
  rw [Nat.testBit_or, Nat.testBit_two_pow]
section AD
variable {P : PD} {r k : Nat}
theorem or_lt (h : r < 2 ^ k) : r ||| 2 ^ k < 2 ^ (k + 1) := by
  rw [or_pow h, Nat.pow_succ]; omega
theorem tw_add (hk : k < 8) (h : r < 2 ^ k) : tw P (r ||| 2 ^ k) = ((tw P r).1 ||| ((tw P r).2 &&& hm P k), (tw P r).2 ||| hm P k) := by
  rw [tw_n (or_lt h) (by omega), tw_n h (by omega), fo_s]
  have e : fo (stT P (r ||| 2 ^ k)) k (0, 0) = fo (stT P r) k (0, 0) := by
    refine fo_cg k (fun j a hj => ?_) (0, 0)
    unfold stT
    rw [or_tb, show decide (k = j) = false by simp; omega, Bool.or_false]
  rw [e]
  unfold stT
  rw [if_pos (by rw [or_tb]; simp)]
theorem un_add (hk : k < 8) (h : r < 2 ^ k) : un P (r ||| 2 ^ k) = un P r ||| hm P k := by
  rw [un_tw, un_tw, tw_add hk h]
theorem sm_add (hk : k < 8) (h : r < 2 ^ k) : sm P (r ||| 2 ^ k) = sm P r + wz P k := by
  rw [sm_n (or_lt h) (by omega), sm_n h (by omega), fo_s]
  have e : fo (stS P (r ||| 2 ^ k)) k 0 = fo (stS P r) k 0 := by
    refine fo_cg k (fun j a hj => ?_) 0
    unfold stS
    rw [or_tb, show decide (k = j) = false by simp; omega, Bool.or_false]
  rw [e]
  unfold stS
  rw [if_pos (by rw [or_tb]; simp)]
theorem apt_add (hk : k < 8) (h : r < 2 ^ k) : apt P (r ||| 2 ^ k) = (apt P r && (un P r &&& hm P k == 0)) := by
  unfold apt
  rw [tw_add hk h, un_tw]
  generalize (tw P r).1 = x
  generalize (tw P r).2 &&& hm P k = y
  by_cases c : x = 0
  · subst c
    rw [Nat.zero_or]
    simp
  · have : ¬ x ||| y = 0 := fun q => c (Nat.or_eq_zero_iff.mp q).1
    have z1 : (x ||| y == 0) = false := beq_eq_false_iff_ne.mpr this
    have z2 : (x == 0) = false := beq_eq_false_iff_ne.mpr c
    rw [z1, z2]
    rfl
theorem un_mates {n H : Nat} (hn : n ≤ 8) (h : r < 2 ^ n) : un P r &&& H = 0 ↔ ∀ j, j < n → r.testBit j = true → hm P j &&& H = 0 := by
  rw [un_tw]
  exact tw_and hn h
theorem mx_add {n : Nat} (hn : n ≤ 8) (hk : k < n) (h : r < 2 ^ k) : max (mx P r) (wz P k + mx P (r &&& msk n (fun j => hm P j &&& hm P k == 0))) = mx P (r ||| 2 ^ k) := by
  have p8 : 2 ^ k ≤ 128 := pow_le (n := 7) (by omega)
  have hS : r ||| 2 ^ k < 256 := by rw [or_pow h]; omega
  have hl := Nat.and_le_left (n := r) (m := msk n (fun j => hm P j &&& hm P k == 0))
  refine mx_eq hS (fun t ht => ?_) ?_
  · obtain ⟨c1, c2⟩ := okS_and ht
    have c3 := and_sub.mp c1
    cases b : t.testBit k
    · have hsub : t &&& r = t := by
        rw [and_sub]
        intro j hj
        have := c3 j hj
        rw [or_tb] at this
        by_cases e : k = j
        · subst e; rw [b] at hj; cases hj
        · simpa [e] using this
      have := mx_ub (P := P) (S := r) (by omega) (okS_of hsub c2)
      omega
    · have e1 : t = (t ^^^ 2 ^ k) ||| 2 ^ k := by
        apply Nat.eq_of_testBit_eq
        intro j
        rw [or_tb, Nat.testBit_xor, Nat.testBit_two_pow]
        by_cases e : k = j
        · subst e; simp [b]
        · simp [e]
      have e2 : t ^^^ 2 ^ k < 2 ^ k := by
        apply Nat.lt_pow_two_of_testBit
        intro j hj
        rw [Nat.testBit_xor, Nat.testBit_two_pow]
        by_cases e : k = j
        · subst e; simp [b]
        · have h1 : t.testBit j = false := by
            apply Classical.byContradiction
            intro q
            have q2 := c3 j (by simpa using q)
            rw [or_tb, tb_ge h hj] at q2
            simp [e] at q2
          simp [e, h1]
      have a1 := apt_add (P := P) (show k < 8 by omega) e2
      rw [← e1, c2] at a1
      have a2 : apt P (t ^^^ 2 ^ k) = true ∧ un P (t ^^^ 2 ^ k) &&& hm P k = 0 := by
        have := a1.symm
        simp at this
        exact this
      have a3 := (un_mates (P := P) (r := t ^^^ 2 ^ k) (H := hm P k) (n := k) (by omega) e2).mp a2.2
      have hsub : (t ^^^ 2 ^ k) &&& (r &&& msk n (fun j => hm P j &&& hm P k == 0)) = t ^^^ 2 ^ k := by
        rw [and_sub]
        intro j hj
        have hjk : j < k := by
          apply Classical.byContradiction
          intro q
          rw [tb_ge e2 (by omega)] at hj
          cases hj
        have h1 : t.testBit j = true := by
          rw [Nat.testBit_xor, Nat.testBit_two_pow, show decide (k = j) = false by simp; omega] at hj
          simpa using hj
        have h2 := c3 j h1
        rw [or_tb, show decide (k = j) = false by simp; omega, Bool.or_false] at h2
        rw [Nat.testBit_and, h2, msk_tb]
        have := a3 j hjk hj
        simp [this]
        omega
      have u := mx_ub (P := P) (S := r &&& msk n (fun j => hm P j &&& hm P k == 0)) (by omega) (okS_of hsub a2.1)
      have s1 := sm_add (P := P) (show k < 8 by omega) e2
      rw [← e1] at s1
      omega
  · by_cases d : wz P k + mx P (r &&& msk n (fun j => hm P j &&& hm P k == 0)) ≤ mx P r
    · obtain ⟨t, b1, b2⟩ := mx_at (P := P) r
      obtain ⟨c1, c2⟩ := okS_and b1
      refine ⟨t, okS_of ?_ c2, by omega⟩
      rw [and_sub] at c1 ⊢
      intro j hj
      rw [or_tb, c1 j hj]
      rfl
    · obtain ⟨t, b1, b2⟩ := mx_at (P := P) (r &&& msk n (fun j => hm P j &&& hm P k == 0))
      obtain ⟨c1, c2⟩ := okS_and b1
      have htl := okS_le b1
      have c3 := and_sub.mp c1
      have ht : t < 2 ^ k := by omega
      refine ⟨t ||| 2 ^ k, okS_of ?_ ?_, ?_⟩
      · rw [and_sub]
        intro j hj
        rw [or_tb] at hj ⊢
        cases b : t.testBit j
        · rw [b, Bool.false_or] at hj
          rw [hj]
          simp
        · have := c3 j b
          rw [Nat.testBit_and] at this
          simp at this
          rw [this.1]
          rfl
      · rw [apt_add (by omega) ht, c2]
        have : un P t &&& hm P k = 0 := by
          rw [un_mates (n := k) (by omega) ht]
          intro j hj hb
          have := c3 j hb
          rw [Nat.testBit_and, msk_tb] at this
          simp at this
          exact this.2.2
        rw [this]
        rfl
      · rw [sm_add (by omega) ht, b2]
        omega
end AD
theorem mx_bdr {P : PD} {S n : Nat} (hn : n ≤ 8) (hok : ∀ k, k < n → okP P k) (hS : S < 2 ^ n) : 0 ≤ mx P S ∧ mx P S ≤ 480 := by
  have h256 := pow8 hn
  obtain ⟨t, b1, b2⟩ := mx_at (P := P) S
  have := okS_le b1
  have h1 := sm_bd (P := P) (S := t) hn hok (by omega)
  have h2 := mx_ge (P := P) (S := S) (by omega)
  omega
def TB (P : PD) (m : Nat) (M : Mem) : Prop := ∀ S, S < m → M.1 43 S = nI (un P S) ∧ M.1 44 S = zI (sm P S) ∧ M.1 45 S = (if apt P S then (1 : Int32) else (0 : Int32)) ∧ M.1 46 S = zI (mx P S)
section RK
variable {P : PD} {n k fu : Nat}
theorem max_z {a c : Int} (a1 : -2147483648 ≤ a) (a2 : a < 2147483648) (c1 : -2147483648 ≤ c) (c2 : c < 2147483648) : (if zI a < zI c then zI c else zI a) = zI (max a c) := by
  by_cases d : a < c
  · rw [if_pos (by rw [zlt a1 a2 c1 c2]; exact d), show max a c = c by omega]
  · rw [if_neg (by rw [zlt a1 a2 c1 c2]; exact d), show max a c = a by omega]
/-- one set, reckoned -/
theorem rek_s {r f : Nat} {M : Mem} (hn : n ≤ 8) (hk : k < n) (hok : ∀ k, k < n → okP P k) (hr : r < 2 ^ k) (h41 : M.1 41 k = nI (hm P k)) (h42 : M.1 42 k = zI (wz P k)) (hT : TB P (2 ^ k + r) M) : ∃ M', f2_reckonSetsTo_18 fu (f + 1) (nI k) (nI (2 ^ k)) (nI (msk n (fun j => hm P j &&& hm P k == 0))) (nI r) M = f2_reckonSetsTo_18 fu f (nI k) (nI (2 ^ k)) (nI (msk n (fun j => hm P j &&& hm P k == 0))) (nI (r + 1)) M' ∧ TB P (2 ^ k + (r + 1)) M' ∧ (∀ q, q < 43 ∨ 46 < q → M'.1 q = M.1 q) ∧ M'.2 = M.2 := by
  have p8 : 2 ^ k ≤ 128 := pow_le (n := 7) (by omega)
  have hset : r ||| 2 ^ k < 256 := by rw [or_pow hr]; omega
  have hne : ¬ r ||| 2 ^ k = r := by rw [or_pow hr]; omega
  have hk8 : k < 8 := by omega
  obtain ⟨q1, q2, q3, q4⟩ := hT r (by omega)
  have hl := Nat.and_le_left (n := r) (m := msk n (fun j => hm P j &&& hm P k == 0))
  obtain ⟨-, -, -, q8⟩ := hT (r &&& msk n (fun j => hm P j &&& hm P k == 0)) (by omega)
  have hw := wz_bd (hok k hk)
  have kn : 2 ^ k ≤ 2 ^ n := pow_le (by omega)
  have b1 := mx_bdr (P := P) (S := r) hn hok (by omega)
  have b2 := mx_bdr (P := P) (S := r &&& msk n (fun j => hm P j &&& hm P k == 0)) hn hok (by omega)
  have t1 : ¬ nI (2 ^ k) ≤ nI r := by rw [nle (by omega) (by omega)]; omega
  have t2 : ¬ (256 : Int32) ≤ nI (r ||| 2 ^ k) := by
    show ¬ nI 256 ≤ nI (r ||| 2 ^ k)
    rw [nle (by omega) (by omega)]; omega
  obtain ⟨M1, hM1⟩ : ∃ x, x = sI M 43 (r ||| 2 ^ k) (nI (un P r) ||| nI (hm P k)) := ⟨_, rfl⟩
  obtain ⟨M2, hM2⟩ : ∃ x, x = sI M1 44 (r ||| 2 ^ k) (zI (sm P r) + zI (wz P k)) := ⟨_, rfl⟩
  have f1 : ∀ q, q ≠ 43 → q ≠ 44 → M2.1 q = M.1 q := fun q a b => by rw [hM2, g2 b, hM1, g2 a]
  have r1 : rd M 43 256 (nI r) = some (nI (un P r)) := by rw [rd_n (by omega) (by omega), q1]
  have r2 : rd M 41 8 (nI k) = some (nI (hm P k)) := by rw [rd_n (by omega) (by omega), h41]
  have w1 : wr M 43 256 (nI (r ||| 2 ^ k)) (nI (un P r) ||| nI (hm P k)) = some M1 := by rw [wr_n (by omega) (by omega), hM1]
  have r3 : rd M1 44 256 (nI r) = some (zI (sm P r)) := by rw [rd_n (by omega) (by omega), hM1, g2 (by omega), q2]
  have r4 : rd M1 42 8 (nI k) = some (zI (wz P k)) := by rw [rd_n (by omega) (by omega), hM1, g2 (by omega), h42]
  have w2 : wr M1 44 256 (nI (r ||| 2 ^ k)) (zI (sm P r) + zI (wz P k)) = some M2 := by rw [wr_n (by omega) (by omega), hM2]
  have r5 : rd M2 45 256 (nI r) = some (if apt P r then (1 : Int32) else (0 : Int32)) := by rw [rd_n (by omega) (by omega), f1 45 (by omega) (by omega), q3]
  have r6 : rd M2 43 256 (nI r) = some (nI (un P r)) := by rw [rd_n (by omega) (by omega), hM2, g2 (by omega), hM1, g3 (fun e => hne e.symm), q1]
  have r7 : rd M2 41 8 (nI k) = some (nI (hm P k)) := by rw [rd_n (by omega) (by omega), f1 41 (by omega) (by omega), h41]
  have tail : ∀ s0 : Int32, zb s0 = (if apt P (r ||| 2 ^ k) then (1 : Int32) else (0 : Int32)) → ∃ M', f2_reckonSetsTo_120 fu (f2_reckonSetsTo_18 fu f) (nI k) (nI (2 ^ k)) (nI (msk n (fun j => hm P j &&& hm P k == 0))) (nI r) (nI (r ||| 2 ^ k)) s0 (nI (r ||| 2 ^ k)) M2 = f2_reckonSetsTo_18 fu f (nI k) (nI (2 ^ k)) (nI (msk n (fun j => hm P j &&& hm P k == 0))) (nI (r + 1)) M' ∧ TB P (2 ^ k + (r + 1)) M' ∧ (∀ q, q < 43 ∨ 46 < q → M'.1 q = M.1 q) ∧ M'.2 = M.2 := by
    intro s0 hs0
    obtain ⟨M3, hM3⟩ : ∃ x, x = sI M2 45 (r ||| 2 ^ k) (zb s0) := ⟨_, rfl⟩
    obtain ⟨M4, hM4⟩ : ∃ x, x = sI M3 46 (r ||| 2 ^ k) (zI (mx P (r ||| 2 ^ k))) := ⟨_, rfl⟩
    have f3 : ∀ q, q ≠ 43 → q ≠ 44 → q ≠ 45 → M3.1 q = M.1 q := fun q a b c => by rw [hM3, g2 c, f1 q a b]
    have w3 : wr M2 45 256 (nI (r ||| 2 ^ k)) (zb s0) = some M3 := by rw [wr_n (by omega) (by omega), hM3]
    have x1 : rd M3 46 256 (nI r) = some (zI (mx P r)) := by rw [rd_n (by omega) (by omega), f3 46 (by omega) (by omega) (by omega), q4]
    have x2 : rd M3 42 8 (nI k) = some (zI (wz P k)) := by rw [rd_n (by omega) (by omega), f3 42 (by omega) (by omega) (by omega), h42]
    have x3 : rd M3 46 256 (nI (r &&& msk n (fun j => hm P j &&& hm P k == 0))) = some (zI (mx P (r &&& msk n (fun j => hm P j &&& hm P k == 0)))) := by rw [rd_n (by omega) (by omega), f3 46 (by omega) (by omega) (by omega), q8]
    have mm := max_z (a := mx P r) (c := wz P k + mx P (r &&& msk n (fun j => hm P j &&& hm P k == 0))) (by omega) (by omega) (by omega) (by omega)
    rw [mx_add hn hk hr] at mm
    have w4 : wr M3 46 256 (nI (r ||| 2 ^ k)) (zI (mx P (r ||| 2 ^ k))) = some M4 := by rw [wr_n (by omega) (by omega), hM4]
    refine ⟨M4, ?_, ?_, fun q hq => by rw [hM4, g2 (by omega), f3 q (by omega) (by omega) (by omega)], by rw [hM4, g4, hM3, g4, hM2, g4, hM1, g4]⟩
    · unfold f2_reckonSetsTo_120
      rw [w3, bS, x1, bS, x2, bS, iand, x3, bS, zadd, mm, w4, bS, nm_u, ad1]
    · intro S hS
      by_cases e : S = r ||| 2 ^ k
      · subst e
        refine ⟨?_, ?_, ?_, ?_⟩
        · rw [hM4, g2 (by omega), hM3, g2 (by omega), hM2, g2 (by omega), hM1, g1, ior, un_add hk8 hr]
        · rw [hM4, g2 (by omega), hM3, g2 (by omega), hM2, g1, zadd, sm_add hk8 hr]
        · rw [hM4, g2 (by omega), hM3, g1, hs0]
        · rw [hM4, g1]
      · have hS2 : S < 2 ^ k + r := by
          rw [or_pow hr] at e
          omega
        obtain ⟨y1, y2, y3, y4⟩ := hT S hS2
        refine ⟨?_, ?_, ?_, ?_⟩
        · rw [hM4, g2 (by omega), hM3, g2 (by omega), hM2, g2 (by omega), hM1, g3 e, y1]
        · rw [hM4, g2 (by omega), hM3, g2 (by omega), hM2, g3 e, hM1, g2 (by omega), y2]
        · rw [hM4, g2 (by omega), hM3, g3 e, f1 45 (by omega) (by omega), y3]
        · rw [hM4, g3 e, hM3, g2 (by omega), f1 46 (by omega) (by omega), y4]
  rw [f2_reckonSetsTo_18]
  dsimp only
  rw [if_neg t1, ior, if_neg t2, nm_u, r1, bS, r2, bS, w1, bS, r3, bS, r4, bS, w2, bS, r5, bS]
  have aa := apt_add (P := P) hk8 hr
  cases c : apt P r
  · rw [if_pos (show (if false = true then (1 : Int32) else (0 : Int32)) = 0 from rfl)]
    refine tail 0 ?_
    rw [aa, c]
    rfl
  · rw [if_neg (show ¬ (if true = true then (1 : Int32) else (0 : Int32)) = 0 by decide), r6, bS, r7, bS, iand]
    have hul : un P r &&& hm P k < 8192 := Nat.lt_of_le_of_lt Nat.and_le_right (hm_lt (hok k hk))
    by_cases z : un P r &&& hm P k = 0
    · rw [z, if_pos tP0]
      refine tail 1 ?_
      rw [aa, c, z]
      rfl
    · have nz : ¬ nI (un P r &&& hm P k) = (0 : Int32) := by
        show ¬ nI (un P r &&& hm P k) = nI 0
        rw [neq (by omega) (by omega)]; exact z
      rw [if_neg nz]
      refine tail 0 ?_
      rw [aa, c, show (un P r &&& hm P k == 0) = false by simp [z]]
      rfl
theorem rek_l {M : Mem} (hn : n ≤ 8) (hk : k < n) (hok : ∀ k, k < n → okP P k) : ∀ (e r f : Nat) (M : Mem), r + e = 2 ^ k → e < f → M.1 41 k = nI (hm P k) → M.1 42 k = zI (wz P k) → TB P (2 ^ k + r) M → ∃ M', f2_reckonSetsTo_18 fu f (nI k) (nI (2 ^ k)) (nI (msk n (fun j => hm P j &&& hm P k == 0))) (nI r) M = some M' ∧ TB P (2 ^ (k + 1)) M' ∧ (∀ q, q < 43 ∨ 46 < q → M'.1 q = M.1 q) ∧ M'.2 = M.2 := by
  have p8 : 2 ^ k ≤ 128 := pow_le (n := 7) (by omega)
  intro e
  induction e with
  | zero =>
    intro r f M hr hf h41 h42 hT
    rcases f with _ | f
    · omega
    have : r = 2 ^ k := by omega
    subst this
    refine ⟨M, ?_, ?_, fun _ _ => rfl, rfl⟩
    · rw [f2_reckonSetsTo_18]
      dsimp only
      rw [if_pos (Int32.le_refl _)]
    · rw [show 2 ^ (k + 1) = 2 ^ k + 2 ^ k by rw [Nat.pow_succ]; omega]
      exact hT
  | succ e ih =>
    intro r f M hr hf h41 h42 hT
    rcases f with _ | f
    · omega
    obtain ⟨M1, a1, a2, a3, a4⟩ := rek_s (fu := fu) (f := f) hn hk hok (by omega) h41 h42 hT
    obtain ⟨M2, b1, b2, b3, b4⟩ := ih (r + 1) f M1 (by omega) (by omega) (by rw [a3 41 (by omega)]; exact h41) (by rw [a3 42 (by omega)]; exact h42) a2
    refine ⟨M2, ?_, b2, fun q hq => by rw [b3 q hq, a3 q hq], by rw [b4, a4]⟩
    rw [a1]
    exact b1
theorem rek_a (hfu : 10000 ≤ fu) (hn : n ≤ 8) (hok : ∀ k, k < n → okP P k) : ∀ (e k f : Nat) (M : Mem), k + e = n → e < f → M.1 35 0 = nI n → (∀ j, j < n → M.1 41 j = nI (hm P j) ∧ M.1 42 j = zI (wz P j)) → TB P (2 ^ k) M → ∃ M', f2_read_137 fu f (nI k) M = some M' ∧ TB P (2 ^ n) M' ∧ (∀ q, q < 43 ∨ 46 < q → M'.1 q = M.1 q) ∧ M'.2 = M.2 := by
  intro e
  induction e with
  | zero =>
    intro k f M hk hf h35 h4 hT
    rcases f with _ | f
    · omega
    have : k = n := by omega
    subst this
    refine ⟨M, ?_, hT, fun _ _ => rfl, rfl⟩
    rw [f2_read_137]
    dsimp only
    rw [h35, if_pos (Int32.le_refl _)]
  | succ e ih =>
    intro k f M hk hf h35 h4 hT
    rcases f with _ | f
    · omega
    have hk2 : k < n := by omega
    have p8 : 2 ^ k ≤ 128 := pow_le (n := 7) (by omega)
    obtain ⟨x1, x2⟩ := h4 k hk2
    obtain ⟨M1, a1, a2, a3, a4⟩ := rek_l (fu := fu) (M := M) hn hk2 hok (2 ^ k) 0 fu M (by omega) (by omega) x1 x2 hT
    obtain ⟨M2, b1, b2, b3, b4⟩ := ih (k + 1) f M1 (by omega) (by omega) (by rw [a3 35 (by omega)]; exact h35) (fun j hj => by rw [a3 41 (by omega), a3 42 (by omega)]; exact h4 j hj) a2
    have t1 : ¬ nI n ≤ nI k := by rw [nle (by omega) (by omega)]; omega
    have r2 : rd M 41 8 (nI k) = some (nI (hm P k)) := by rw [rd_n (by omega) (by omega), x1]
    have ap := apartFrom_c (fu := fu) (M := M) (h := hm P) (b := hm P k) hfu hn h35 (fun j hj => (h4 j hj).1) (hm_lt (hok k hk2))
    refine ⟨M2, ?_, b2, fun q hq => by rw [b3 q hq, a3 q hq], by rw [b4, a4]⟩
    rw [f2_read_137]
    dsimp only
    rw [h35, if_neg t1]
    unfold f2_reckonSetsTo
    rw [nm_u, sh1 (by omega), r2, bS, ap, bS, show (0 : Int32) = nI 0 from rfl, a1, bS, nm_u, ad1]
    exact b1
end RK
/-! out of 58.street -/
section VR
variable {P : PD} {n k fu : Nat}
theorem value_r {M : Mem} {kind luck : Int32} (hn : n ≤ 8) (hk : k < n) (h35 : M.1 35 0 = nI n) (h41 : M.1 41 k = nI (hm P k)) (h39 : M.1 39 k = nI (ln P k)) (hl : hm P k < 8192) : f2_valueAs M (nI k) kind luck = some (wvI P kind k luck) := by
  have hh : f2_has M (nI k) = some (nI 1) := by
    unfold f2_has
    simp (disch := omega) only [lit, nlt, nle, neq, nI_add, pk_mul, nm_u, bS, gd_d, oc_none, oc_some, rd_n, wr_n, if_pos, if_neg, ite_true, ite_false, not_true_eq_false, not_false_eq_true, g1, g2, g3, g4, h1, h2, h3, h4, h35]
  have key : f2_valueAs M (nI k) kind luck = f2_valueAs_30 M (nI k) kind luck (if (hm P k).testBit 5 then luck + nI 3 else luck) := by
    unfold f2_valueAs
    rw [hh]
    cases hb : (hm P k).testBit 5
    · simp (disch := omega) only [lit, nlt, nle, neq, nI_add, pk_mul, nm_u, bS, gd_d, oc_none, oc_some, rd_n, wr_n, if_pos, if_neg, ite_true, ite_false, not_true_eq_false, not_false_eq_true, g1, g2, g3, g4, h1, h2, h3, h4, ior, iand, shl_n, Nat.or_zero, h41, bit_f hb (by omega) (by omega)]
      try simp
    · simp (disch := omega) only [lit, nlt, nle, neq, nI_add, pk_mul, nm_u, bS, gd_d, oc_none, oc_some, rd_n, wr_n, if_pos, if_neg, ite_true, ite_false, not_true_eq_false, not_false_eq_true, g1, g2, g3, g4, h1, h2, h3, h4, ior, iand, shl_n, Nat.or_zero, h41, bit_t hb (by omega) (by omega)]
      try simp
  rw [key]
  unfold f2_valueAs_30 wvI
  generalize (if (hm P k).testBit 5 then luck + nI 3 else luck) = s0
  by_cases c1 : kind = nI 1
  · simp (disch := omega) only [lit, nlt, nle, neq, nI_add, pk_mul, nm_u, bS, gd_d, oc_none, oc_some, rd_n, wr_n, if_pos, if_neg, ite_true, ite_false, not_true_eq_false, not_false_eq_true, g1, g2, g3, g4, h1, h2, h3, h4, c1]
  by_cases c2 : kind = nI 2
  · simp (disch := omega) only [lit, nlt, nle, neq, nI_add, pk_mul, nm_u, bS, gd_d, oc_none, oc_some, rd_n, wr_n, if_pos, if_neg, ite_true, ite_false, not_true_eq_false, not_false_eq_true, g1, g2, g3, g4, h1, h2, h3, h4, c2]
  by_cases c3 : kind = nI 3
  · simp (disch := omega) only [lit, nlt, nle, neq, nI_add, pk_mul, nm_u, bS, gd_d, oc_none, oc_some, rd_n, wr_n, if_pos, if_neg, ite_true, ite_false, not_true_eq_false, not_false_eq_true, g1, g2, g3, g4, h1, h2, h3, h4, c3, h39]
  by_cases c4 : kind = nI 4
  · simp (disch := omega) only [lit, nlt, nle, neq, nI_add, pk_mul, nm_u, bS, gd_d, oc_none, oc_some, rd_n, wr_n, if_pos, if_neg, ite_true, ite_false, not_true_eq_false, not_false_eq_true, g1, g2, g3, g4, h1, h2, h3, h4, c4]
  by_cases c5 : kind = nI 5
  · simp (disch := omega) only [lit, nlt, nle, neq, nI_add, pk_mul, nm_u, bS, gd_d, oc_none, oc_some, rd_n, wr_n, if_pos, if_neg, ite_true, ite_false, not_true_eq_false, not_false_eq_true, g1, g2, g3, g4, h1, h2, h3, h4, c5, h39]
  simp (disch := omega) only [lit, nlt, nle, neq, nI_add, pk_mul, nm_u, bS, gd_d, oc_none, oc_some, rd_n, wr_n, if_pos, if_neg, ite_true, ite_false, not_true_eq_false, not_false_eq_true, g1, g2, g3, g4, h1, h2, h3, h4, c1, c2, c3, c4, c5]
/-- what has been read of the pins -/
def DR (P : PD) (n : Nat) (M : Mem) : Prop := M.1 35 0 = nI n ∧ ∀ k, k < n → okP P k ∧ M.1 36 k = nI (kd P k) ∧ M.1 37 k = nI (pl P k) ∧ M.1 38 k = nI (hr P k) ∧ M.1 39 k = nI (ln P k) ∧ M.1 40 k = nI (lk P k)
theorem DR.cg {M M' : Mem} (h : DR P n M) (a : ∀ q, 35 ≤ q → q ≤ 40 → M'.1 q = M.1 q) : DR P n M' := by
  unfold DR at *
  rw [a 35 (by omega) (by omega), a 36 (by omega) (by omega), a 37 (by omega) (by omega), a 38 (by omega) (by omega), a 39 (by omega) (by omega), a 40 (by omega) (by omega)]
  exact h
theorem hour_sh (hok : okP P k) : (((1 : Int32) <<< (nI (ln P k) &&& 31)) - (1 : Int32)) <<< (nI (hr P k) &&& 31) = nI (hm P k) := by
  have hl := hm_lt hok
  obtain ⟨-, -, o1, o2, o3, -⟩ := hok
  rw [sh1 (by omega)]
  have e1 : nI (2 ^ ln P k) - (1 : Int32) = nI (2 ^ ln P k - 1) := pk_sub Nat.one_le_two_pow
  rw [e1]
  show nI (2 ^ ln P k - 1) <<< (nI (hr P k) &&& nI 31) = _
  rw [iand, shlg (by omega) (by unfold hm at hl; omega)]
  rfl
theorem val_l (hn : n ≤ 8) : ∀ (e k f : Nat) (M : Mem), k + e = n → e < f → DR P n M → (∀ j, j < k → M.1 41 j = nI (hm P j) ∧ M.1 42 j = zI (wz P j)) → ∃ M', f2_read_75 fu f (nI k) M = f2_read_137 fu fu (nI 0) M' ∧ (∀ j, j < n → M'.1 41 j = nI (hm P j) ∧ M'.1 42 j = zI (wz P j)) ∧ (∀ q, q ≠ 41 → q ≠ 42 → M'.1 q = M.1 q) ∧ M'.2 = M.2 := by
  intro e
  induction e with
  | zero =>
    intro k f M hk hf hD hv
    rcases f with _ | f
    · omega
    have : k = n := by omega
    subst this
    refine ⟨M, ?_, hv, fun _ _ _ => rfl, rfl⟩
    rw [f2_read_75]
    dsimp only
    rw [hD.1, if_pos (Int32.le_refl _)]
    rfl
  | succ e ih =>
    intro k f M hk hf hD hv
    rcases f with _ | f
    · omega
    have hk2 : k < n := by omega
    obtain ⟨hok, d0, d1, d2, d3, d4⟩ := hD.2 k hk2
    have hl := hm_lt hok
    have t1 : ¬ nI n ≤ nI k := by rw [nle (by omega) (by omega)]; omega
    obtain ⟨M1, hM1⟩ : ∃ x, x = sI M 41 k (nI (hm P k)) := ⟨_, rfl⟩
    obtain ⟨M2, hM2⟩ : ∃ x, x = sI M1 42 k (zI (wz P k)) := ⟨_, rfl⟩
    have f1 : ∀ q, q ≠ 41 → M1.1 q = M.1 q := fun q a => by rw [hM1, g2 a]
    have f2 : ∀ q, q ≠ 41 → q ≠ 42 → M2.1 q = M.1 q := fun q a b => by rw [hM2, g2 b, f1 q a]
    have r1 : rd M 39 8 (nI k) = some (nI (ln P k)) := by rw [rd_n (by omega) (by omega), d3]
    have r2 : rd M 38 8 (nI k) = some (nI (hr P k)) := by rw [rd_n (by omega) (by omega), d2]
    have w1 : wr M 41 8 (nI k) (nI (hm P k)) = some M1 := by rw [wr_n (by omega) (by omega), hM1]
    have r3 : rd M1 36 8 (nI k) = some (nI (kd P k)) := by rw [rd_n (by omega) (by omega), f1 36 (by omega), d0]
    have r4 : rd M1 40 8 (nI k) = some (nI (lk P k)) := by rw [rd_n (by omega) (by omega), f1 40 (by omega), d4]
    have v1 := value_r (P := P) (M := M1) (kind := nI (kd P k)) (luck := nI (lk P k)) hn hk2 (by rw [f1 35 (by omega)]; exact hD.1) (by rw [hM1, g1]) (by rw [f1 39 (by omega)]; exact d3) hl
    rw [wvI_z hok.1 _ _ hok.1] at v1
    have w2 : wr M1 42 8 (nI k) (zI (wz P k)) = some M2 := by rw [wr_n (by omega) (by omega), hM2]
    obtain ⟨M3, a1, a2, a3, a4⟩ := ih (k + 1) f M2 (by omega) (by omega) (hD.cg (fun q q1 q2 => f2 q (by omega) (by omega))) (fun j hj => by
      by_cases e : j = k
      · subst e
        exact ⟨by rw [hM2, g2 (by omega), hM1, g1], by rw [hM2, g1]⟩
      · obtain ⟨y1, y2⟩ := hv j (by omega)
        exact ⟨by rw [hM2, g2 (by omega), hM1, g3 e, y1], by rw [hM2, g3 e, hM1, g2 (by omega), y2]⟩)
    refine ⟨M3, ?_, a2, fun q b c => by rw [a3 q b c, f2 q b c], by rw [a4, hM2, g4, hM1, g4]⟩
    rw [f2_read_75]
    dsimp only
    rw [hD.1, if_neg t1, r1, bS, r2, bS, hour_sh hok, w1, bS, r3, bS, r4, bS, v1, bS]
    have w2' : wr M1 42 8 (nI k) (zI (wv P (kd P k) k (lk P k))) = some M2 := w2
    rw [w2', bS, nm_u, ad1]
    exact a1
/-- what all sets come to -/
theorem read_c {M : Mem} (hfu : 10000 ≤ fu) (hn : n ≤ 8) (hD : DR P n M) (h0 : M.1 43 0 = nI 0 ∧ M.1 44 0 = nI 0 ∧ M.1 45 0 = 1 ∧ M.1 46 0 = nI 0) : ∃ M', f2_read_75 fu fu (nI 0) M = some M' ∧ DR P n M' ∧ (∀ j, j < n → M'.1 41 j = nI (hm P j) ∧ M'.1 42 j = zI (wz P j)) ∧ TB P (2 ^ n) M' ∧ (∀ q, q < 35 ∨ 46 < q → M'.1 q = M.1 q) ∧ M'.2 = M.2 := by
  obtain ⟨M1, a1, a2, a3, a4⟩ := val_l (P := P) (fu := fu) hn n 0 fu M (by omega) (by omega) hD (fun j hj => absurd hj (by omega))
  have m0 : mx P 0 = 0 := by
    obtain ⟨t, b1, b2⟩ := mx_at (P := P) 0
    have := okS_le b1
    have : t = 0 := by omega
    subst this
    rw [← b2, sm_0]
  have u0 : un P 0 = 0 := by
    rw [un_tw, tw_n (n := 0) (by decide) (by decide)]
    rfl
  obtain ⟨M2, b1, b2, b3, b4⟩ := rek_a (P := P) (fu := fu) hfu hn (fun k hk => (hD.2 k hk).1) n 0 fu M1 (by omega) (by omega) (by rw [a3 35 (by omega) (by omega)]; exact hD.1) a2 (fun S hS => by
    have : S = 0 := by
      have : (2 : Nat) ^ 0 = 1 := rfl
      omega
    subst this
    rw [a3 43 (by omega) (by omega), a3 44 (by omega) (by omega), a3 45 (by omega) (by omega), a3 46 (by omega) (by omega), u0, sm_0, m0, apt_0]
    exact h0)
  refine ⟨M2, by rw [a1]; exact b1, hD.cg (fun q q1 q2 => by rw [b3 q (by omega), a3 q (by omega) (by omega)]), fun j hj => by rw [b3 41 (by omega), b3 42 (by omega)]; exact a2 j hj, b2, fun q hq => by rw [b3 q (by omega), a3 q (by omega) (by omega)], by rw [b4, a4]⟩
end VR
theorem kept_c {fu : Nat} {M : Mem} (hfu : 10000 ≤ fu) : ∃ M', f4_street_56 fu fu (nI 0) M = some (M', M.1 35 0) ∧ (∀ j, j < 3 → M'.1 (j + 20) 0 = -nI 1) ∧ (∀ q, q < 20 ∨ 22 < q → M'.1 q = M.1 q) ∧ M'.2 = M.2 := by
  obtain ⟨f, rfl⟩ : ∃ f, fu = f + 4 := ⟨fu - 4, by omega⟩
  have st : ∀ (j x : Nat) (X : Mem), j < 3 → f4_street_56 (f + 4) (x + 1) (nI j) X = f4_street_56 (f + 4) x (nI (j + 1)) (sI X (j + 20) 0 (-nI 1)) := by
    intro j x X hj
    have t1 : ¬ (3 : Int32) ≤ nI j := by
      show ¬ nI 3 ≤ nI j
      rw [nle (by omega) (by omega)]; omega
    have e : rdR [20, 21, 22] (nI j) = some (j + 20) := rdR_n (by
      rcases (show j = 0 ∨ j = 1 ∨ j = 2 by omega) with rfl | rfl | rfl <;> rfl) (by decide)
    have gk : gd (decide (20 ≤ j + 20 ∧ j + 20 < 24)) = some () := by
      have : 20 ≤ j + 20 ∧ j + 20 < 24 := by omega
      simp [gd, this]
    rw [f4_street_56]
    dsimp only
    rw [if_neg t1, e, bS, gk, bS, nm_u, nm_u, ad1]
    rfl
  have en : ∀ (x : Nat) (X : Mem), f4_street_56 (f + 4) (x + 1) (nI 3) X = some (X, X.1 35 0) := by
    intro x X
    have t1 : (3 : Int32) ≤ nI 3 := Int32.le_refl _
    rw [f4_street_56]
    dsimp only
    rw [if_pos t1]
  refine ⟨sI (sI (sI M (0 + 20) 0 (-nI 1)) (1 + 20) 0 (-nI 1)) (2 + 20) 0 (-nI 1), ?_, ?_, fun q hq => by rw [g2 (by omega), g2 (by omega), g2 (by omega)], rfl⟩
  · rw [st 0 _ _ (by omega), st 1 _ _ (by omega), st 2 _ _ (by omega), en, g2 (by omega), g2 (by omega), g2 (by omega)]
  · intro j hj
    rcases (show j = 0 ∨ j = 1 ∨ j = 2 by omega) with rfl | rfl | rfl
    · rw [g2 (by omega), g2 (by omega), g1]
    · rw [g2 (by omega), g1]
    · rw [g1]
theorem nI_toNat {v : Nat} (h : v < 2147483648) : (nI v).toInt.toNat = v := by
  rw [nI_toInt h]
  omega
