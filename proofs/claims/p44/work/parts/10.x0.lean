/-! out of 10.base -/
theorem lit (n : Nat) : (@OfNat.ofNat Int32 n Int32.instOfNat) = nI n := rfl
theorem nlt {a b : Nat} (ha : a < 2147483648) (hb : b < 2147483648) : (nI a < nI b) = (a < b) := propext (nI_ltI ha hb)
theorem nle {a b : Nat} (ha : a < 2147483648) (hb : b < 2147483648) : (nI a ≤ nI b) = (a ≤ b) := propext (nI_leI ha hb)
theorem neq {a b : Nat} (ha : a < 2147483648) (hb : b < 2147483648) : (nI a = nI b) = (a = b) := propext (nI_eq ha hb)
theorem nm_u {α β : Type} (e : α) (k : α → β) : nm e k = k e := rfl
theorem bS {α β : Type} (a : α) (f : α → Option β) : (some a).bind f = f a := rfl
theorem gd_d {p : Prop} [Decidable p] (h : p) : gd (decide p) = some () := by simp [gd, h]
theorem oc_none {β : Type} (a : β) (k : Nat → β) : oc none a k = a := rfl
theorem oc_some {β : Type} (a : β) (k : Nat → β) (q : Nat) : oc (some q) a k = k q := rfl
theorem rd_n {M : Mem} {p n i : Nat} (h : i < n) (hn : n < 2147483648) : rd M p n (nI i) = some (M.1 p i) := by
  have h1 := nI_in h hn
  have h2 := nI_clamp (n := i) (by omega)
  unfold rd
  rw [if_neg h1, h2]
theorem wr_n {M : Mem} {p n i : Nat} {v : Int32} (h : i < n) (hn : n < 2147483648) : wr M p n (nI i) v = some (sI M p i v) := by
  have h1 := nI_in h hn
  have h2 := nI_clamp (n := i) (by omega)
  unfold wr
  rw [if_neg h1, h2]
theorem g1 {M : Mem} {p i : Nat} {v : Int32} : (sI M p i v).1 p i = v := by simp [sI, upd]
theorem g2 {M : Mem} {p i q : Nat} {v : Int32} (h : q ≠ p) : (sI M p i v).1 q = M.1 q := by simp [sI, h]
theorem g3 {M : Mem} {p i j : Nat} {v : Int32} (h : j ≠ i) : (sI M p i v).1 p j = M.1 p j := by simp [sI, upd, h]
theorem g4 {M : Mem} {p i : Nat} {v : Int32} : (sI M p i v).2 = M.2 := rfl
theorem h1 {M : Mem} {p i : Nat} {v : Int64} : (sL M p i v).1 = M.1 := rfl
theorem h2 {M : Mem} {p i : Nat} {v : Int64} : (sL M p i v).2 p i = v := by simp [sL, vp_updL]
theorem h3 {M : Mem} {p i q : Nat} {v : Int64} (h : q ≠ p) : (sL M p i v).2 q = M.2 q := by simp [sL, h]
theorem h4 {M : Mem} {p i j : Nat} {v : Int64} (h : j ≠ i) : (sL M p i v).2 p j = M.2 p j := by simp [sL, vp_updL, h]
/-- a number against a bound -/
theorem tri (x : Int32) (n : Nat) (hn : n < 2147483648) : (x < nI 0 ∨ (¬ x < nI 0 ∧ nI n ≤ x)) ∨ ∃ j : Nat, j < n ∧ x = nI j := by
  by_cases h0 : x < nI 0
  · exact Or.inl (Or.inl h0)
  · rcases pk_ix x hn with h | h | h
    · exact absurd h h0
    · exact Or.inl (Or.inr ⟨h0, h⟩)
    · exact Or.inr h
def zI (z : Int) : Int32 := Int32.ofInt z
theorem nI_z (n : Nat) : nI n = zI n := by
  apply Int32.toBitVec_inj.mp
  simp [nI, zI, Int32.ofInt, Int32.ofNat]
theorem le64 (x y : Int32) : x.toInt64 ≤ y.toInt64 ↔ x ≤ y := by
  rw [Int64.le_iff_toInt_le, Int32.le_iff_toInt_le, Int32.toInt_toInt64, Int32.toInt_toInt64]
/-! out of 11.rel -/
def fo {α : Type} (f : Nat → α → α) : Nat → α → α
  | 0, a => a
  | n + 1, a => f n (fo f n a)
abbrev PD : Type := Nat × (Nat → Nat) × (Nat → Nat) × (Nat → Nat) × (Nat → Nat) × (Nat → Nat)
def kd (P : PD) : Nat → Nat := P.2.1
def pl (P : PD) : Nat → Nat := P.2.2.1
def hr (P : PD) : Nat → Nat := P.2.2.2.1
def ln (P : PD) : Nat → Nat := P.2.2.2.2.1
def lk (P : PD) : Nat → Nat := P.2.2.2.2.2
/-- the hours of a pin -/
def hm (P : PD) (k : Nat) : Nat := (2 ^ ln P k - 1) * 2 ^ hr P k
/-- what a pin would be worth -/
def wv (P : PD) (kind k : Nat) (luck : Int) : Int := match kind with
  | 1 => luck - 10
  | 2 => if (hm P k).testBit 5 then luck + 3 else luck
  | 3 => luck * ln P k
  | 4 => 2 * (if (hm P k).testBit 5 then luck + 3 else luck)
  | 5 => luck - 10 - ln P k
  | _ => luck
def wz (P : PD) (k : Nat) : Int := wv P (kd P k) k (lk P k)
def un (P : PD) (S : Nat) : Nat := fo (fun k a => if S.testBit k then a ||| hm P k else a) 8 0
def sm (P : PD) (S : Nat) : Int := fo (fun k a => if S.testBit k then a + wz P k else a) 8 0
/-- hours that two have, hours that one has -/
def tw (P : PD) (S : Nat) : Nat × Nat := fo (fun k a => if S.testBit k then (a.1 ||| (a.2 &&& hm P k), a.2 ||| hm P k) else a) 8 (0, 0)
def apt (P : PD) (S : Nat) : Bool := (tw P S).1 == 0
/-- the most that a set without a clash, out of these, is worth -/
def mx (P : PD) (S : Nat) : Int := fo (fun t m => if (t &&& S == t) && apt P t then max m (sm P t) else m) 256 0
def msk (n : Nat) (p : Nat → Bool) : Nat := fo (fun k a => if p k then a ||| 2 ^ k else a) n 0
def okP (P : PD) (k : Nat) : Prop := kd P k < 6 ∧ pl P k < 10 ∧ hr P k < 10 ∧ 1 ≤ ln P k ∧ ln P k ≤ 4 ∧ lk P k < 10
def RowR (c0 : Int32) (ca : Nat → Int32) (m0 : Int32) (ma : Nat → Int32) (n : Nat) : Prop := c0 = m0 ∧ (c0 = -1 ∨ ∃ k : Nat, k ≤ n ∧ c0 = nI k ∧ ∀ i, i < k → ca i = ma i)
def GA (MC MM : Mem) : Prop := MC.1 28 6 = MM.1 0 4 ∧ MC.1 28 5 = MM.1 0 7 ∧ MC.2 28 7 = MM.2 0 5 ∧ MC.2 28 8 = MM.2 0 6 ∧ ∀ f, f < 6 → MC.1 32 f = MM.1 5 f
def GR (MC MM : Mem) : Prop := ∀ r, r < 6 → RowR (MC.1 r 0) (MC.1 (r + 10)) (MM.1 2 r) (fun i => MM.1 1 (40 * r + i)) 40
def GT (MC MM : Mem) : Prop := ∀ t, t < 4 → RowR (MC.1 (t + 6) 0) (MC.1 (t + 6 + 10)) (MM.1 4 t) (fun i => MM.1 3 (60 * t + i)) 60
def GP (P : PD) (MC MM : Mem) : Prop := P.1 ≤ 8 ∧ MC.1 35 0 = nI P.1 ∧ MM.1 0 9 = nI P.1 ∧
  (∀ k, k < P.1 → okP P k ∧ MC.1 36 k = nI (kd P k) ∧ MC.1 37 k = nI (pl P k) ∧ MC.1 38 k = nI (hr P k) ∧ MC.1 39 k = nI (ln P k) ∧ MC.1 40 k = nI (lk P k) ∧ MC.1 41 k = nI (hm P k) ∧ MC.1 42 k = zI (wz P k) ∧ MM.1 6 k = nI (kd P k) ∧ MM.1 7 k = nI (hr P k) ∧ MM.1 8 k = nI (ln P k) ∧ MM.1 9 k = nI (lk P k)) ∧
  ∀ S, S < 2 ^ P.1 → MC.1 43 S = nI (un P S) ∧ MC.1 44 S = zI (sm P S) ∧ MC.1 45 S = (if apt P S then 1 else 0) ∧ MC.1 46 S = zI (mx P S)
/-- a deed, done on the place (0) and on where the pins are (k + 1) -/
def ap (c : Int32) (s : Nat → Int32) : Nat → Int32
  | 0 => if c = nI 0 then s 0 + nI 1 else if c = nI 1 then s 0 - nI 1 else s 0
  | k + 1 => if c = nI 2 then (if s (k + 1) = s 0 then -nI 2 else s (k + 1)) else if c = nI (8 + k) then -nI 1 else if c = nI (16 + k) then s 0 else s (k + 1)
def gst (n : Nat) (s : Nat → Int32) : Prop := (∃ p, p < 10 ∧ s 0 = nI p) ∧ ∀ k, k < n → s (k + 1) = -nI 1 ∨ s (k + 1) = -nI 2 ∨ ∃ p, p < 10 ∧ s (k + 1) = nI p
/-- a deed that can be done -/
def okc (n : Nat) (c : Int32) (s : Nat → Int32) : Prop := c = nI 0 ∨ c = nI 1 ∨ c = nI 2 ∨ ∃ k, k < n ∧ ((c = nI (8 + k) ∧ s (k + 1) = s 0) ∨ (c = nI (16 + k) ∧ s (k + 1) = -nI 1))
/-- st: what was behind each deed of the codes cd -/
def Hist (P : PD) (cd : Nat → Int32) (d : Nat) (st : Nat → Nat → Int32) : Prop := st 0 0 = nI 0 ∧ (∀ k, k < P.1 → st 0 (k + 1) = nI (pl P k)) ∧ (∀ i, i < d → ∀ j, j ≤ P.1 → st (i + 1) j = ap (cd i) (st i) j) ∧ (∀ i, i ≤ d → gst P.1 (st i)) ∧ ∀ i, i < d → okc P.1 (cd i) (st i)
/-- the class's own picture of a state -/
def pic (P : PD) (s : Nat → Int32) (place held swept : Int32) (lies : Nat → Int32) : Prop := place = s 0 ∧ held = nI (msk P.1 (fun k => s (k + 1) == -nI 1)) ∧ swept = nI (msk P.1 (fun k => s (k + 1) == -nI 2)) ∧ ∀ k, k < P.1 → s (k + 1) ≠ -nI 1 → s (k + 1) ≠ -nI 2 → lies k = s (k + 1)
def GD (P : PD) (MC MM : Mem) : Prop := ∃ (d : Nat) (st : Nat → Nat → Int32), d ≤ 40 ∧ MC.1 23 0 = nI d ∧ MM.1 0 16 = nI d ∧ Hist P (MC.1 27) d st ∧ (∀ i, i < d → ∀ j, j ≤ P.1 → MM.1 11 (9 * i + j) = st i j) ∧ (∀ j, j ≤ P.1 → MM.1 10 j = st d j) ∧ pic P (st d) (MC.1 33 2) (MC.1 33 3) (MC.1 33 4) (MC.1 34)
def GK1 (P : PD) (c0 : Int32) (cd : Nat → Int32) (m : Nat → Int32) : Prop := c0 = m 0 ∧ (c0 = -1 ∨ ∃ (d : Nat) (st : Nat → Nat → Int32), d ≤ 40 ∧ c0 = nI d ∧ Hist P cd d st ∧ (∀ i, i < d → ∀ j, j ≤ P.1 → m (10 + (9 * i + j)) = st i j) ∧ ∀ j, j ≤ P.1 → m (1 + j) = st d j)
def GK (P : PD) (MC MM : Mem) : Prop := ∀ j, j < 3 → GK1 P (MC.1 (j + 20) 0) (MC.1 (j + 20 + 4)) (fun i => MM.1 12 (370 * j + i))
section CG
variable {P : PD} {MC MM MC' MM' : Mem}
theorem GA.cg (h : GA MC MM) (a : MC'.1 28 6 = MC.1 28 6) (b : MC'.1 28 5 = MC.1 28 5) (c : MC'.2 = MC.2) (d : MC'.1 32 = MC.1 32) (e : MM'.1 0 4 = MM.1 0 4) (f : MM'.1 0 7 = MM.1 0 7) (g : MM'.2 = MM.2) (i : MM'.1 5 = MM.1 5) : GA MC' MM' := by
  unfold GA at *
  rw [a, b, c, d, e, f, g, i]
  exact h
theorem GR.cg (h : GR MC MM) (a : ∀ q, q < 6 ∨ (10 ≤ q ∧ q < 16) → MC'.1 q = MC.1 q) (b : MM'.1 1 = MM.1 1) (c : MM'.1 2 = MM.1 2) : GR MC' MM' := by
  intro r hr
  rw [a r (by omega), a (r + 10) (by omega), b, c]
  exact h r hr
theorem GT.cg (h : GT MC MM) (a : ∀ q, (6 ≤ q ∧ q < 10) ∨ (16 ≤ q ∧ q < 20) → MC'.1 q = MC.1 q) (b : MM'.1 3 = MM.1 3) (c : MM'.1 4 = MM.1 4) : GT MC' MM' := by
  intro r hr
  rw [a (r + 6) (by omega), a (r + 6 + 10) (by omega), b, c]
  exact h r hr
theorem GP.cg (h : GP P MC MM) (a : ∀ q, 35 ≤ q ∧ q ≤ 46 → MC'.1 q = MC.1 q) (b : MM'.1 0 9 = MM.1 0 9) (c : ∀ q, 6 ≤ q ∧ q ≤ 9 → MM'.1 q = MM.1 q) : GP P MC' MM' := by
  unfold GP at *
  rw [a 35 (by omega), a 36 (by omega), a 37 (by omega), a 38 (by omega), a 39 (by omega), a 40 (by omega), a 41 (by omega), a 42 (by omega), a 43 (by omega), a 44 (by omega), a 45 (by omega), a 46 (by omega), b, c 6 (by omega), c 7 (by omega), c 8 (by omega), c 9 (by omega)]
  exact h
theorem GD.cg (h : GD P MC MM) (a : ∀ q, q = 23 ∨ q = 27 ∨ q = 33 ∨ q = 34 → MC'.1 q = MC.1 q) (b : MM'.1 0 16 = MM.1 0 16) (c : MM'.1 10 = MM.1 10) (d : MM'.1 11 = MM.1 11) : GD P MC' MM' := by
  unfold GD at *
  rw [a 23 (by omega), a 27 (by omega), a 33 (by omega), a 34 (by omega), b, c, d]
  exact h
theorem GK.cg (h : GK P MC MM) (a : ∀ q, (20 ≤ q ∧ q < 23) ∨ (24 ≤ q ∧ q < 27) → MC'.1 q = MC.1 q) (b : MM'.1 12 = MM.1 12) : GK P MC' MM' := by
  intro j hj
  rw [a (j + 20) (by omega), a (j + 20 + 4) (by omega), b]
  exact h j hj
end CG
theorem find_s {M : Mem} {f : Nat} (h1 : 1 ≤ f) (h5 : f ≤ 5) : f4_find (nI f) M = some (sI (sI M 28 5 (nI f)) 32 f (M.1 32 f + nI 1), -3) := by
  unfold f4_find
  simp (disch := omega) only [lit, nlt, nle, neq, nI_add, pk_mul, nm_u, bS, gd_d, oc_none, oc_some, rd_n, wr_n, if_pos, if_neg, ite_true, ite_false, not_true_eq_false, not_false_eq_true, g1, g2, g3, g4, h1, h2, h3, h4]
/-! out of 12.rows -/
theorem lt0_le {x : Int32} (h : x < nI 0) {b : Nat} (hb : b < 2147483648) : (x ≤ nI b) = True := by
  apply eq_true
  rw [Int32.le_iff_toInt_le, nI_toInt hb]
  rw [Int32.lt_iff_toInt_lt, nI_toInt (by omega)] at h
  omega
theorem lt0_nle {x : Int32} (h : x < nI 0) : (nI 0 ≤ x) = False := by
  apply eq_false
  rw [Int32.le_iff_toInt_le, nI_toInt (by omega)]
  rw [Int32.lt_iff_toInt_lt, nI_toInt (by omega)] at h
  omega
theorem ge_nle {x : Int32} {b : Nat} (hb : b + 1 < 2147483648) (h : nI (b + 1) ≤ x) : (x ≤ nI b) = False := by
  apply eq_false
  rw [Int32.le_iff_toInt_le, nI_toInt (by omega)]
  rw [Int32.le_iff_toInt_le, nI_toInt (by omega)] at h
  omega
theorem ge_le {x : Int32} {a b : Nat} (hb : b < 2147483648) (hab : a ≤ b) (h : nI b ≤ x) : (nI a ≤ x) = True := by
  apply eq_true
  rw [Int32.le_iff_toInt_le, nI_toInt (by omega)]
  rw [Int32.le_iff_toInt_le, nI_toInt (by omega)] at h
  omega
theorem ge_nlt {x : Int32} {a b : Nat} (hb : b < 2147483648) (hab : a ≤ b) (h : nI b ≤ x) : (x < nI a) = False := by
  apply eq_false
  rw [Int32.lt_iff_toInt_lt, nI_toInt (by omega)]
  rw [Int32.le_iff_toInt_le, nI_toInt (by omega)] at h
  omega
def outs (x : Int32) (n : Nat) : Prop := x < nI 0 ∨ (¬ x < nI 0 ∧ nI n ≤ x)
theorem m1_le : (nI 0 ≤ -nI 1) = False := by decide
theorem m1_lt : (-nI 1 < nI 0) = True := by decide
theorem m1_eq : (-nI 1 = nI 0) = False := by decide
theorem zr_1 : zr (nI 1) = some (nI 1) := by decide
theorem zr_0 : zr (nI 0) = some (nI 0) := by decide
theorem rdR_n {qs : List Nat} {i q : Nat} (h : qs[i]? = some q) (hn : qs.length < 2147483648) : rdR qs (nI i) = some q := by
  have hi := (List.getElem?_eq_some_iff.mp h).1
  have h1 := nI_in hi hn
  have h2 := nI_clamp (n := i) (by omega)
  unfold rdR
  rw [if_neg h1, h2, h]
theorem rowAt_in {j : Nat} (h : j < 6) : f4_rowAt (nI j) = some (some j) := by
  unfold f4_rowAt
  have e : rdR [0, 1, 2, 3, 4, 5] (nI j) = some j := rdR_n (by
    rcases (show j = 0 ∨ j = 1 ∨ j = 2 ∨ j = 3 ∨ j = 4 ∨ j = 5 by omega) with rfl | rfl | rfl | rfl | rfl | rfl <;> rfl) (by decide)
  rw [e]
  simp (disch := omega) only [lit, nlt, nle, neq, nI_add, pk_mul, nm_u, bS, gd_d, oc_none, oc_some, rd_n, wr_n, if_pos, if_neg, ite_true, ite_false, not_true_eq_false, not_false_eq_true, g1, g2, g3, g4, h1, h2, h3, h4]
theorem textAt_in {j : Nat} (h : j < 4) : f4_textAt (nI j) = some (some (j + 6)) := by
  unfold f4_textAt
  have e : rdR [6, 7, 8, 9] (nI j) = some (j + 6) := rdR_n (by
    rcases (show j = 0 ∨ j = 1 ∨ j = 2 ∨ j = 3 by omega) with rfl | rfl | rfl | rfl <;> rfl) (by decide)
  rw [e]
  simp (disch := omega) only [lit, nlt, nle, neq, nI_add, pk_mul, nm_u, bS, gd_d, oc_none, oc_some, rd_n, wr_n, if_pos, if_neg, ite_true, ite_false, not_true_eq_false, not_false_eq_true, g1, g2, g3, g4, h1, h2, h3, h4]
theorem sF_1 {M : Mem} {p : Nat} {f : Nat → Int32} : (sF M p f).1 p = f := by simp [sF]
theorem sF_q {M : Mem} {p q : Nat} {f : Nat → Int32} (h : q ≠ p) : (sF M p f).1 q = M.1 q := by simp [sF, h]
theorem sF_2 {M : Mem} {p : Nat} {f : Nat → Int32} : (sF M p f).2 = M.2 := rfl
theorem sF_sI {M : Mem} {p i : Nat} {v : Int32} {f : Nat → Int32} : sF (sI M p i v) p f = sF M p f := by
  unfold sF sI
  congr 1
  funext q
  by_cases h : q = p
  · rw [if_pos h, if_pos h]
  · rw [if_neg h, if_neg h]
    exact if_neg h
theorem sF_id {M : Mem} {p : Nat} {f : Nat → Int32} (h : ∀ j, f j = M.1 p j) : sF M p f = M := by
  have e : f = M.1 p := funext h
  subst e
  unfold sF
  have : (fun q => if q = p then M.1 p else M.1 q) = M.1 := by
    funext q
    by_cases h : q = p
    · rw [if_pos h, h]
    · rw [if_neg h]
  rw [this]
theorem sF_cg {M : Mem} {p : Nat} {f g : Nat → Int32} (h : ∀ j, f j = g j) : sF M p f = sF M p g := by rw [funext h]
theorem begin_l {fu p n : Nat} {v : Int32} (hp : p < 10) (hn : n ≤ 60) : ∀ (d i f : Nat) (M : Mem), i + d = n → d < f → M.1 p 0 = nI n → f0_begin_15 fu f p v (nI i) M = some (sF M (p + 10) (fun j => if i ≤ j ∧ j < n then v else M.1 (p + 10) j)) := by
  intro d
  induction d with
  | zero =>
    intro i f M h hf hs
    rcases f with _ | f
    · omega
    rw [f0_begin_15]
    simp (disch := omega) only [lit, nlt, nle, neq, nI_add, pk_mul, nm_u, bS, gd_d, oc_none, oc_some, rd_n, wr_n, if_pos, if_neg, ite_true, ite_false, not_true_eq_false, not_false_eq_true, g1, g2, g3, g4, h1, h2, h3, h4, hs]
    rw [sF_id]
    intro j
    first | rfl | rw [if_neg (by omega)]
  | succ d ih =>
    intro i f M h hf hs
    rcases f with _ | f
    · omega
    rw [f0_begin_15]
    simp (disch := omega) only [lit, nlt, nle, neq, nI_add, pk_mul, nm_u, bS, gd_d, oc_none, oc_some, rd_n, wr_n, if_pos, if_neg, ite_true, ite_false, not_true_eq_false, not_false_eq_true, g1, g2, g3, g4, h1, h2, h3, h4, hs]
    rw [ih (i + 1) f _ (by omega) (by omega) (by rw [g2 (by omega)]; exact hs), sF_sI]
    congr 1
    apply sF_cg
    intro j
    by_cases c : i + 1 ≤ j ∧ j < n
    · rw [if_pos c, if_pos (by omega)]
    · rw [if_neg c]
      by_cases e : j = i
      · subst e; rw [g1, if_pos (by omega)]
      · rw [g3 e, if_neg (by omega)]
theorem begin_s {fu p n : Nat} {v : Int32} {M : Mem} (hp : p < 10) (hn : n ≤ 60) (hfu : 10000 ≤ fu) : f0_begin fu p (nI n) v M = some (sF (sI M p 0 (nI n)) (p + 10) (fun j => if j < n then v else M.1 (p + 10) j)) := by
  unfold f0_begin
  simp (disch := omega) only [lit, nlt, nle, neq, nI_add, pk_mul, nm_u, bS, gd_d, oc_none, oc_some, rd_n, wr_n, if_pos, if_neg, ite_true, ite_false, not_true_eq_false, not_false_eq_true, g1, g2, g3, g4, h1, h2, h3, h4]
  rw [show nI 0 = nI 0 from rfl, begin_l hp hn n 0 fu _ (by omega) (by omega) (by rw [g1])]
  congr 1
  apply sF_cg
  intro j
  by_cases c : j < n
  · rw [if_pos c, if_pos (by omega)]
  · rw [if_neg c, if_neg (by omega), g2 (by omega)]
section UP
variable {MC MM MC' MM' : Mem}
end UP
/-! out of 13.rows2 -/
theorem sI_comm {M : Mem} {p q i j : Nat} {v w : Int32} (h : p ≠ q) : sI (sI M p i v) q j w = sI (sI M q j w) p i v := by
  unfold sI
  congr 1
  funext x
  by_cases c : x = q
  · subst c
    have : x ≠ p := fun e => h e.symm
    simp [this]
  · by_cases d : x = p
    · subst d; simp [c]
    · simp [c, d]
theorem m1r : (-1 : Int32) = -nI 1 := rfl
section RF
variable {M : Mem} {p k : Nat}
theorem refM_k (hp : p < 10) (hs : M.1 p 0 = nI k) (hk : k ≤ 60) : f4_refuseMissing p M = some (M, nI 0) := by
  unfold f4_refuseMissing f0_isMissing
  simp (disch := omega) only [lit, nlt, nle, neq, nI_add, pk_mul, nm_u, bS, gd_d, oc_none, oc_some, rd_n, wr_n, if_pos, if_neg, ite_true, ite_false, not_true_eq_false, not_false_eq_true, g1, g2, g3, g4, h1, h2, h3, h4, hs]
theorem hasCell_out {x : Int32} (hp : p < 10) (hs : M.1 p 0 = nI k) (h : outs x k) : f0_hasCell M p x = some (nI 0) := by
  unfold f0_hasCell
  rcases h with h | ⟨h0, h⟩
  · simp (disch := omega) only [lit, nlt, nle, neq, nI_add, pk_mul, nm_u, bS, gd_d, oc_none, oc_some, rd_n, wr_n, if_pos, if_neg, ite_true, ite_false, not_true_eq_false, not_false_eq_true, g1, g2, g3, g4, h1, h2, h3, h4, h]
  · simp (disch := omega) only [lit, nlt, nle, neq, nI_add, pk_mul, nm_u, bS, gd_d, oc_none, oc_some, rd_n, wr_n, if_pos, if_neg, ite_true, ite_false, not_true_eq_false, not_false_eq_true, g1, g2, g3, g4, h1, h2, h3, h4, hs, h0, h]
theorem hasCell_in {i : Nat} (hp : p < 10) (hs : M.1 p 0 = nI k) (hk : k ≤ 60) (hi : i < k) : f0_hasCell M p (nI i) = some (nI 1) := by
  unfold f0_hasCell
  simp (disch := omega) only [lit, nlt, nle, neq, nI_add, pk_mul, nm_u, bS, gd_d, oc_none, oc_some, rd_n, wr_n, if_pos, if_neg, ite_true, ite_false, not_true_eq_false, not_false_eq_true, g1, g2, g3, g4, h1, h2, h3, h4, hs]
theorem refP_out {x : Int32} (hp : p < 10) (hs : M.1 p 0 = nI k) (hk : k ≤ 60) (h : outs x k) : f4_refusePlace p x M = some (sI (sI M 28 5 (nI 2)) 32 2 (M.1 32 2 + nI 1), -3) := by
  unfold f4_refusePlace
  rw [refM_k hp hs hk]
  simp (disch := omega) only [lit, nlt, nle, neq, nI_add, pk_mul, nm_u, bS, gd_d, oc_none, oc_some, rd_n, wr_n, if_pos, if_neg, ite_true, ite_false, not_true_eq_false, not_false_eq_true, g1, g2, g3, g4, h1, h2, h3, h4, hasCell_out hp hs h, find_s]
theorem refP_in {i : Nat} (hp : p < 10) (hs : M.1 p 0 = nI k) (hk : k ≤ 60) (hi : i < k) : f4_refusePlace p (nI i) M = some (M, nI 0) := by
  unfold f4_refusePlace
  rw [refM_k hp hs hk]
  simp (disch := omega) only [lit, nlt, nle, neq, nI_add, pk_mul, nm_u, bS, gd_d, oc_none, oc_some, rd_n, wr_n, if_pos, if_neg, ite_true, ite_false, not_true_eq_false, not_false_eq_true, g1, g2, g3, g4, h1, h2, h3, h4, hasCell_in hp hs hk hi]
theorem cellAt_in {i : Nat} (hp : p < 10) (hi : i < 60) : f0_cellAt M p (nI i) = some (M.1 (p + 10) i) := by
  unfold f0_cellAt
  simp (disch := omega) only [lit, nlt, nle, neq, nI_add, pk_mul, nm_u, bS, gd_d, oc_none, oc_some, rd_n, wr_n, if_pos, if_neg, ite_true, ite_false, not_true_eq_false, not_false_eq_true, g1, g2, g3, g4, h1, h2, h3, h4]
theorem setCell_in {i : Nat} {v : Int32} (hp : p < 10) (hi : i < 60) : f0_setCell p (nI i) v M = some (sI M (p + 10) i v) := by
  unfold f0_setCell
  simp (disch := omega) only [lit, nlt, nle, neq, nI_add, pk_mul, nm_u, bS, gd_d, oc_none, oc_some, rd_n, wr_n, if_pos, if_neg, ite_true, ite_false, not_true_eq_false, not_false_eq_true, g1, g2, g3, g4, h1, h2, h3, h4]
end RF
theorem m3_eq : (-nI 3 = nI 0) = False := by decide
section RR
variable {MC MM : Mem}
end RR
/-! out of 14.copy -/
theorem bm32 {z : Int} (h1 : -2147483648 ≤ z) (h2 : z < 2147483648) : z.bmod 4294967296 = z := by
  rw [Int.bmod_def]
  split <;> omega
theorem bm64 {z : Int} (h1 : -9223372036854775808 ≤ z) (h2 : z < 9223372036854775808) : z.bmod 18446744073709551616 = z := by
  rw [Int.bmod_def]
  split <;> omega
theorem neg_or {x : Int32} : x < nI 0 ∨ ∃ j : Nat, j < 2147483648 ∧ x = nI j := by
  by_cases h : x < nI 0
  · exact Or.inl h
  · obtain ⟨j, hj, e⟩ := nI_of h
    exact Or.inr ⟨j, by omega, e⟩
theorem isM_k {M : Mem} {p k : Nat} (hp : p < 10) (hs : M.1 p 0 = nI k) (hk : k ≤ 60) : f0_isMissing M p = some (nI 0) := by
  unfold f0_isMissing
  simp (disch := omega) only [lit, nlt, nle, neq, nI_add, pk_mul, nm_u, bS, gd_d, oc_none, oc_some, rd_n, wr_n, if_pos, if_neg, ite_true, ite_false, not_true_eq_false, not_false_eq_true, g1, g2, g3, g4, h1, h2, h3, h4, hs]
/-! out of 15.bits -/
theorem ior (a b : Nat) : nI a ||| nI b = nI (a ||| b) := by
  apply Int32.toBitVec_inj.mp
  rw [Int32.toBitVec_or]
  show BitVec.ofNat 32 a ||| BitVec.ofNat 32 b = BitVec.ofNat 32 (a ||| b)
  apply BitVec.eq_of_toNat_eq
  simp [Nat.or_mod_two_pow]
theorem iand (a b : Nat) : nI a &&& nI b = nI (a &&& b) := by
  apply Int32.toBitVec_inj.mp
  rw [Int32.toBitVec_and]
  show BitVec.ofNat 32 a &&& BitVec.ofNat 32 b = BitVec.ofNat 32 (a &&& b)
  apply BitVec.eq_of_toNat_eq
  simp [Nat.and_mod_two_pow]
theorem ixor (a b : Nat) : nI a ^^^ nI b = nI (a ^^^ b) := by
  apply Int32.toBitVec_inj.mp
  rw [Int32.toBitVec_xor]
  show BitVec.ofNat 32 a ^^^ BitVec.ofNat 32 b = BitVec.ofNat 32 (a ^^^ b)
  apply BitVec.eq_of_toNat_eq
  simp [Nat.xor_mod_two_pow]
theorem k31 {k : Nat} (h : k < 32) : k &&& 31 = k := by
  rw [show 31 = 2 ^ 5 - 1 from rfl, Nat.and_two_pow_sub_one_eq_mod]
  exact Nat.mod_eq_of_lt h
theorem smod_n {k : Nat} (h : k < 32) : ((nI k).toBitVec.smod 32).toNat = k := by
  have : ∀ k, k < 32 → ((nI k).toBitVec.smod 32).toNat = k := by decide +kernel
  exact this k h
theorem shl_n {k : Nat} (h : k < 31) : nI 1 <<< nI (k &&& 31) = nI (2 ^ k) := by
  rw [k31 (by omega), pk_shlN (nI k) k (smod_n (by omega))]
  · rw [Nat.one_mul]
  · have : 2 ^ k ≤ 2 ^ 30 := Nat.pow_le_pow_right (by omega) (by omega)
    omega
theorem shlg {a k : Nat} (h : k < 31) (ha : a * 2 ^ k < 4294967296) : nI a <<< nI (k &&& 31) = nI (a * 2 ^ k) := by
  rw [k31 (by omega), pk_shlN (nI k) k (smod_n (by omega)) ha]
theorem shr_n {a k : Nat} (h : k < 31) (ha : a < 2147483648) : nI a >>> nI (k &&& 31) = nI (a / 2 ^ k) := by
  rw [k31 (by omega), pk_shrN ha (nI k) k (smod_n (by omega))]
theorem tb_eq (a k : Nat) : (a / 2 ^ k) &&& 1 = if a.testBit k then 1 else 0 := by
  rw [Nat.and_one_is_mod, Nat.testBit_eq_decide_div_mod_eq]
  by_cases h : a / 2 ^ k % 2 = 1
  · simp [h]
  · simp [h]; omega
/-- a bit asked for -/
theorem bit_t {a k : Nat} (h : a.testBit k = true) (hk : k < 31) (ha : a < 2147483648) : (nI a >>> nI (k &&& 31)) &&& nI 1 = nI 1 := by
  rw [shr_n hk ha, iand, tb_eq, if_pos h]
theorem bit_f {a k : Nat} (h : a.testBit k = false) (hk : k < 31) (ha : a < 2147483648) : (nI a >>> nI (k &&& 31)) &&& nI 1 = nI 0 := by
  rw [shr_n hk ha, iand, tb_eq, if_neg (by simp [h])]
theorem bit_b {a k : Nat} (hk : k < 31) (ha : a < 2147483648) : (nI a >>> nI (k &&& 31)) &&& nI 1 = nI (if a.testBit k then 1 else 0) := by
  rw [shr_n hk ha, iand, tb_eq]
theorem msk_tb (n : Nat) (p : Nat → Bool) (i : Nat) : (msk n p).testBit i = (decide (i < n) && p i) := by
  induction n with
  | zero => simp [msk, fo]
  | succ n ih =>
    have e : msk (n + 1) p = if p n then msk n p ||| 2 ^ n else msk n p := rfl
    rw [e]
    by_cases hp : p n
    · rw [if_pos hp, Nat.testBit_or, ih, Nat.testBit_two_pow]
      by_cases h : i = n
      · subst h; simp [hp]
      · have h2 : ¬ n = i := fun e => h e.symm
        have h3 : (i < n + 1) = (i < n) := by apply propext; omega
        simp [h2, h3]
    · rw [if_neg hp, ih]
      by_cases h : i = n
      · subst h; simp [hp]
      · have h3 : (i < n + 1) = (i < n) := by apply propext; omega
        simp [h3]
theorem msk_lt (n : Nat) (p : Nat → Bool) : msk n p < 2 ^ n := by
  apply Nat.lt_pow_two_of_testBit
  intro i hi
  rw [msk_tb]
  simp; omega
theorem msk_cg {n : Nat} {p q : Nat → Bool} (h : ∀ k, k < n → p k = q k) : msk n p = msk n q := by
  apply Nat.eq_of_testBit_eq
  intro i
  rw [msk_tb, msk_tb]
  by_cases c : i < n
  · rw [h i c]
  · simp [c]
theorem msk_s (n : Nat) (p : Nat → Bool) : msk (n + 1) p = if p n then msk n p ||| 2 ^ n else msk n p := rfl
/-- those of a that are not of b -/
theorem andnot {a b : Nat} : nI a &&& (nI b ^^^ -nI 1) = nI (a ^^^ (a &&& b)) := by
  have e1 : (-nI 1 : Int32).toBitVec = BitVec.allOnes 32 := by decide
  rw [← ixor, ← iand]
  apply Int32.toBitVec_inj.mp
  rw [Int32.toBitVec_and, Int32.toBitVec_xor, Int32.toBitVec_xor, Int32.toBitVec_and, e1]
  generalize (nI a).toBitVec = A
  generalize (nI b).toBitVec = B
  rw [BitVec.xor_allOnes]
  ext i hi
  rw [BitVec.getElem_and, BitVec.getElem_not, BitVec.getElem_xor, BitVec.getElem_and]
  cases A[i] <;> cases B[i] <;> rfl
theorem all_n {n : Nat} (h : n < 31) : nI 1 <<< nI (n &&& 31) - nI 1 = nI (2 ^ n - 1) := by
  rw [shl_n h, pk_sub Nat.one_le_two_pow]
theorem pow_le {k n : Nat} (h : k ≤ n) : 2 ^ k ≤ 2 ^ n := Nat.pow_le_pow_right (by omega) h
theorem pow8 {n : Nat} (h : n ≤ 8) : 2 ^ n ≤ 256 := pow_le (n := 8) h
theorem all_msk (n : Nat) : 2 ^ n - 1 = msk n (fun _ => true) := by
  apply Nat.eq_of_testBit_eq
  intro i
  rw [msk_tb, Nat.testBit_two_pow_sub_one]
  simp
theorem hm_lt {P : PD} {k : Nat} (h : okP P k) : hm P k < 8192 := by
  obtain ⟨-, -, h1, h2, h3, -⟩ := h
  have a : 2 ^ ln P k - 1 ≤ 15 := by have := pow_le (n := 4) h3; omega
  have b : 2 ^ hr P k ≤ 512 := pow_le (n := 9) (by omega)
  have := Nat.mul_le_mul a b
  unfold hm
  omega

/-! out of 16.pins -/
theorem zadd (a b : Int) : zI a + zI b = zI (a + b) := (Int32.ofInt_add a b).symm
theorem zsub (a b : Int) : zI a - zI b = zI (a - b) := (Int32.ofInt_sub a b).symm
theorem zmul (a b : Int) : zI a * zI b = zI (a * b) := (Int32.ofInt_mul a b).symm
theorem zneg (a : Int) : -zI a = zI (-a) := (Int32.ofInt_neg a).symm
theorem zI_toInt {z : Int} (h1 : -2147483648 ≤ z) (h2 : z < 2147483648) : (zI z).toInt = z := Int32.toInt_ofInt_of_le (by simpa using h1) (by simpa using h2)
theorem zlt {a b : Int} (a1 : -2147483648 ≤ a) (a2 : a < 2147483648) (b1 : -2147483648 ≤ b) (b2 : b < 2147483648) : (zI a < zI b) = (a < b) := by
  apply propext
  rw [Int32.lt_iff_toInt_lt, zI_toInt a1 a2, zI_toInt b1 b2]
theorem zle {a b : Int} (a1 : -2147483648 ≤ a) (a2 : a < 2147483648) (b1 : -2147483648 ≤ b) (b2 : b < 2147483648) : (zI a ≤ zI b) = (a ≤ b) := by
  apply propext
  rw [Int32.le_iff_toInt_le, zI_toInt a1 a2, zI_toInt b1 b2]
theorem zeq {a b : Int} (a1 : -2147483648 ≤ a) (a2 : a < 2147483648) (b1 : -2147483648 ≤ b) (b2 : b < 2147483648) : (zI a = zI b) = (a = b) := by
  apply propext
  rw [← Int32.toInt_inj, zI_toInt a1 a2, zI_toInt b1 b2]
/-- worth, as the machine reckons it -/
def wvI (P : PD) (kind : Int32) (k : Nat) (luck : Int32) : Int32 :=
  if kind = nI 1 then luck - nI 10 else if kind = nI 2 then (if (hm P k).testBit 5 then luck + nI 3 else luck) else if kind = nI 3 then luck * nI (ln P k) else if kind = nI 4 then nI 2 * (if (hm P k).testBit 5 then luck + nI 3 else luck) else if kind = nI 5 then luck - nI 10 - nI (ln P k) else luck
section PIN
variable {P : PD} {MC MM : Mem} {k : Nat}
theorem has2_out {x : Int32} (hP : GP P MC MM) (h : outs x P.1) : f2_has MC x = some (nI 0) := by
  unfold f2_has
  rcases h with h | ⟨h0, h⟩
  · simp (disch := omega) only [lit, nlt, nle, neq, nI_add, pk_mul, nm_u, bS, gd_d, oc_none, oc_some, rd_n, wr_n, if_pos, if_neg, ite_true, ite_false, not_true_eq_false, not_false_eq_true, g1, g2, g3, g4, h1, h2, h3, h4, h]
  · simp (disch := omega) only [lit, nlt, nle, neq, nI_add, pk_mul, nm_u, bS, gd_d, oc_none, oc_some, rd_n, wr_n, if_pos, if_neg, ite_true, ite_false, not_true_eq_false, not_false_eq_true, g1, g2, g3, g4, h1, h2, h3, h4, hP.2.1, h0, h]
theorem has2_in (hP : GP P MC MM) (hk : k < P.1) : f2_has MC (nI k) = some (nI 1) := by
  have h8 := hP.1
  unfold f2_has
  simp (disch := omega) only [lit, nlt, nle, neq, nI_add, pk_mul, nm_u, bS, gd_d, oc_none, oc_some, rd_n, wr_n, if_pos, if_neg, ite_true, ite_false, not_true_eq_false, not_false_eq_true, g1, g2, g3, g4, h1, h2, h3, h4, hP.2.1]
theorem value_c {kind luck : Int32} (hP : GP P MC MM) (hk : k < P.1) : f2_valueAs MC (nI k) kind luck = some (wvI P kind k luck) := by
  have h8 := hP.1
  obtain ⟨hok, e0, -, -, e3, -, e5, -⟩ := hP.2.2.2.1 k hk
  have hl := hm_lt hok
  have key : f2_valueAs MC (nI k) kind luck = f2_valueAs_30 MC (nI k) kind luck (if (hm P k).testBit 5 then luck + nI 3 else luck) := by
    unfold f2_valueAs
    rw [has2_in hP hk]
    cases hb : (hm P k).testBit 5
    · simp (disch := omega) only [lit, nlt, nle, neq, nI_add, pk_mul, nm_u, bS, gd_d, oc_none, oc_some, rd_n, wr_n, if_pos, if_neg, ite_true, ite_false, not_true_eq_false, not_false_eq_true, g1, g2, g3, g4, h1, h2, h3, h4, ior, iand, shl_n, Nat.or_zero, e5, bit_f hb (by omega) (by omega)]
      try simp
    · simp (disch := omega) only [lit, nlt, nle, neq, nI_add, pk_mul, nm_u, bS, gd_d, oc_none, oc_some, rd_n, wr_n, if_pos, if_neg, ite_true, ite_false, not_true_eq_false, not_false_eq_true, g1, g2, g3, g4, h1, h2, h3, h4, ior, iand, shl_n, Nat.or_zero, e5, bit_t hb (by omega) (by omega)]
      try simp
  rw [key]
  unfold f2_valueAs_30 wvI
  generalize (if (hm P k).testBit 5 then luck + nI 3 else luck) = s0
  by_cases c1 : kind = nI 1
  · simp (disch := omega) only [lit, nlt, nle, neq, nI_add, pk_mul, nm_u, bS, gd_d, oc_none, oc_some, rd_n, wr_n, if_pos, if_neg, ite_true, ite_false, not_true_eq_false, not_false_eq_true, g1, g2, g3, g4, h1, h2, h3, h4, c1]
  by_cases c2 : kind = nI 2
  · simp (disch := omega) only [lit, nlt, nle, neq, nI_add, pk_mul, nm_u, bS, gd_d, oc_none, oc_some, rd_n, wr_n, if_pos, if_neg, ite_true, ite_false, not_true_eq_false, not_false_eq_true, g1, g2, g3, g4, h1, h2, h3, h4, c2]
  by_cases c3 : kind = nI 3
  · simp (disch := omega) only [lit, nlt, nle, neq, nI_add, pk_mul, nm_u, bS, gd_d, oc_none, oc_some, rd_n, wr_n, if_pos, if_neg, ite_true, ite_false, not_true_eq_false, not_false_eq_true, g1, g2, g3, g4, h1, h2, h3, h4, c3, e3]
  by_cases c4 : kind = nI 4
  · simp (disch := omega) only [lit, nlt, nle, neq, nI_add, pk_mul, nm_u, bS, gd_d, oc_none, oc_some, rd_n, wr_n, if_pos, if_neg, ite_true, ite_false, not_true_eq_false, not_false_eq_true, g1, g2, g3, g4, h1, h2, h3, h4, c4]
  by_cases c5 : kind = nI 5
  · simp (disch := omega) only [lit, nlt, nle, neq, nI_add, pk_mul, nm_u, bS, gd_d, oc_none, oc_some, rd_n, wr_n, if_pos, if_neg, ite_true, ite_false, not_true_eq_false, not_false_eq_true, g1, g2, g3, g4, h1, h2, h3, h4, c5, e3]
  simp (disch := omega) only [lit, nlt, nle, neq, nI_add, pk_mul, nm_u, bS, gd_d, oc_none, oc_some, rd_n, wr_n, if_pos, if_neg, ite_true, ite_false, not_true_eq_false, not_false_eq_true, g1, g2, g3, g4, h1, h2, h3, h4, c1, c2, c3, c4, c5]
theorem wvI_z (hk : kd P k < 6) (l : Nat) (K : Nat) (hK : K < 6) : wvI P (nI K) k (nI l) = zI (wv P K k l) := by
  unfold wvI
  have e3 : (if (hm P k).testBit 5 then nI l + nI 3 else nI l) = zI (if (hm P k).testBit 5 then (l : Int) + 3 else l) := by
    split
    · rw [nI_z, nI_z, zadd]; rfl
    · rw [nI_z]
  rw [e3]
  rcases (show K = 0 ∨ K = 1 ∨ K = 2 ∨ K = 3 ∨ K = 4 ∨ K = 5 by omega) with rfl | rfl | rfl | rfl | rfl | rfl
  · simp (disch := omega) only [lit, nlt, nle, neq, nI_add, pk_mul, nm_u, bS, gd_d, oc_none, oc_some, rd_n, wr_n, if_pos, if_neg, ite_true, ite_false, not_true_eq_false, not_false_eq_true, g1, g2, g3, g4, h1, h2, h3, h4]
    rw [nI_z]; rfl
  · simp (disch := omega) only [lit, nlt, nle, neq, nI_add, pk_mul, nm_u, bS, gd_d, oc_none, oc_some, rd_n, wr_n, if_pos, if_neg, ite_true, ite_false, not_true_eq_false, not_false_eq_true, g1, g2, g3, g4, h1, h2, h3, h4]
    rw [nI_z, nI_z, zsub]; rfl
  · simp (disch := omega) only [lit, nlt, nle, neq, nI_add, pk_mul, nm_u, bS, gd_d, oc_none, oc_some, rd_n, wr_n, if_pos, if_neg, ite_true, ite_false, not_true_eq_false, not_false_eq_true, g1, g2, g3, g4, h1, h2, h3, h4]
    rfl
  · simp (disch := omega) only [lit, nlt, nle, neq, nI_add, pk_mul, nm_u, bS, gd_d, oc_none, oc_some, rd_n, wr_n, if_pos, if_neg, ite_true, ite_false, not_true_eq_false, not_false_eq_true, g1, g2, g3, g4, h1, h2, h3, h4]
    rw [nI_z, Int.natCast_mul]; rfl
  · simp (disch := omega) only [lit, nlt, nle, neq, nI_add, pk_mul, nm_u, bS, gd_d, oc_none, oc_some, rd_n, wr_n, if_pos, if_neg, ite_true, ite_false, not_true_eq_false, not_false_eq_true, g1, g2, g3, g4, h1, h2, h3, h4]
    rw [nI_z, zmul]; rfl
  · simp (disch := omega) only [lit, nlt, nle, neq, nI_add, pk_mul, nm_u, bS, gd_d, oc_none, oc_some, rd_n, wr_n, if_pos, if_neg, ite_true, ite_false, not_true_eq_false, not_false_eq_true, g1, g2, g3, g4, h1, h2, h3, h4]
    rw [nI_z, nI_z, nI_z, zsub, zsub]; rfl
def lyB (s : Nat → Int32) (k : Nat) : Bool := !(s (k + 1) == -nI 1) && !(s (k + 1) == -nI 2)
theorem m12 : (-nI 1 = -nI 2) = False := by decide
theorem lyB_nI {s : Nat → Int32} {p : Nat} (h : s (k + 1) = nI p) (hp : p < 10) : lyB s k = true := by
  have a1 : ∀ p, p < 10 → (nI p == -nI 1) = false ∧ (nI p == -nI 2) = false := by decide +kernel
  unfold lyB
  rw [h, (a1 p hp).1, (a1 p hp).2]
  rfl
theorem m2_lt : (-nI 2 < nI 0) = True := by decide
theorem all2 (n : Nat) : nI (2 ^ n) - nI 1 = nI (2 ^ n - 1) := pk_sub Nat.one_le_two_pow
theorem ly_key {n : Nat} {s : Nat → Int32} : ((2 ^ n - 1) ^^^ ((2 ^ n - 1) &&& msk n (fun k => s (k + 1) == -nI 1))) ^^^ (((2 ^ n - 1) ^^^ ((2 ^ n - 1) &&& msk n (fun k => s (k + 1) == -nI 1))) &&& msk n (fun k => s (k + 1) == -nI 2)) = msk n (lyB s) := by
  apply Nat.eq_of_testBit_eq
  intro i
  simp only [Nat.testBit_xor, Nat.testBit_and, Nat.testBit_two_pow_sub_one, msk_tb, lyB]
  cases decide (i < n) <;> cases (s (i + 1) == -nI 1) <;> cases (s (i + 1) == -nI 2) <;> rfl
theorem lying_c {s : Nat → Int32} (hP : GP P MC MM) (hp : pic P s (MC.1 33 2) (MC.1 33 3) (MC.1 33 4) (MC.1 34)) : f3_lying MC = some (nI (msk P.1 (lyB s))) := by
  have h8 := hP.1
  unfold f3_lying f2_all
  rw [hP.2.1, hp.2.1, hp.2.2.1]
  simp (disch := omega) only [lit, nlt, nle, neq, nI_add, pk_mul, nm_u, bS, gd_d, oc_none, oc_some, rd_n, wr_n, if_pos, if_neg, ite_true, ite_false, not_true_eq_false, not_false_eq_true, g1, g2, g3, g4, h1, h2, h3, h4, ior, iand, shl_n, Nat.or_zero, all2, m1r, andnot, ly_key]
end PIN
/-! out of 17.pinsim -/
def tv (P : PD) (s : Nat → Int32) (k w : Nat) : Int32 := match w with
  | 0 => nI (kd P k)
  | 1 => if lyB s k then s (k + 1) else -nI 9
  | 2 => nI (hm P k)
  | 3 => nI (ln P k)
  | 4 => nI (lk P k)
  | 5 => zI (wz P k)
  | 6 => if s (k + 1) == -nI 1 then nI 1 else nI 0
  | _ => if s (k + 1) == -nI 2 then nI 1 else nI 0
theorem lyB_ne {s : Nat → Int32} {k : Nat} (h : lyB s k = true) : s (k + 1) ≠ -nI 1 ∧ s (k + 1) ≠ -nI 2 := by
  unfold lyB at h
  simp at h
  exact h
section TC
variable {P : PD} {MC MM : Mem} {k : Nat} {s : Nat → Int32}
theorem msk_tbk {n : Nat} {p : Nat → Bool} (hk : k < n) : (msk n p).testBit k = p k := by
  rw [msk_tb]; simp [hk]
theorem msk_256 {n : Nat} (hn : n ≤ 8) (p : Nat → Bool) : msk n p < 256 := Nat.lt_of_lt_of_le (msk_lt n p) (pow8 hn)
theorem ite_b {b : Bool} : nI (if b = true then 1 else 0) = if b = true then nI 1 else nI 0 := by cases b <;> rfl
theorem tell_c {w : Nat} (hP : GP P MC MM) (hp : pic P s (MC.1 33 2) (MC.1 33 3) (MC.1 33 4) (MC.1 34)) (hk : k < P.1) (hw : w < 8) : f3_tellPin MC (nI k) (nI w) = some (tv P s k w) := by
  have h8 := hP.1
  obtain ⟨hok, e0, e1, e2, e3, e4, e5, e6, -⟩ := hP.2.2.2.1 k hk
  have b0 := msk_256 h8 (lyB s)
  have b1 := msk_256 h8 (fun k => s (k + 1) == -nI 1)
  have b2 := msk_256 h8 (fun k => s (k + 1) == -nI 2)
  unfold f3_tellPin
  rw [has2_in hP hk]
  rcases (show w = 0 ∨ w = 1 ∨ w = 2 ∨ w = 3 ∨ w = 4 ∨ w = 5 ∨ w = 6 ∨ w = 7 by omega) with rfl | rfl | rfl | rfl | rfl | rfl | rfl | rfl
  · simp (disch := omega) only [lit, nlt, nle, neq, nI_add, pk_mul, nm_u, bS, gd_d, oc_none, oc_some, rd_n, wr_n, if_pos, if_neg, ite_true, ite_false, not_true_eq_false, not_false_eq_true, g1, g2, g3, g4, h1, h2, h3, h4, e0]; rfl
  · cases c : lyB s k
    · have hb := bit_f (a := msk P.1 (lyB s)) (k := k) (by rw [msk_tbk hk, c]) (by omega) (by omega)
      simp (disch := omega) only [lit, nlt, nle, neq, nI_add, pk_mul, nm_u, bS, gd_d, oc_none, oc_some, rd_n, wr_n, if_pos, if_neg, ite_true, ite_false, not_true_eq_false, not_false_eq_true, g1, g2, g3, g4, h1, h2, h3, h4, ior, iand, shl_n, Nat.or_zero, lying_c hP hp, hb]
      simp [tv, c]
    · have hb := bit_t (a := msk P.1 (lyB s)) (k := k) (by rw [msk_tbk hk, c]) (by omega) (by omega)
      have hl := hp.2.2.2 k hk (lyB_ne c).1 (lyB_ne c).2
      simp (disch := omega) only [lit, nlt, nle, neq, nI_add, pk_mul, nm_u, bS, gd_d, oc_none, oc_some, rd_n, wr_n, if_pos, if_neg, ite_true, ite_false, not_true_eq_false, not_false_eq_true, g1, g2, g3, g4, h1, h2, h3, h4, ior, iand, shl_n, Nat.or_zero, lying_c hP hp, hb, hl]
      simp [tv, c]
  · simp (disch := omega) only [lit, nlt, nle, neq, nI_add, pk_mul, nm_u, bS, gd_d, oc_none, oc_some, rd_n, wr_n, if_pos, if_neg, ite_true, ite_false, not_true_eq_false, not_false_eq_true, g1, g2, g3, g4, h1, h2, h3, h4, e5]; rfl
  · simp (disch := omega) only [lit, nlt, nle, neq, nI_add, pk_mul, nm_u, bS, gd_d, oc_none, oc_some, rd_n, wr_n, if_pos, if_neg, ite_true, ite_false, not_true_eq_false, not_false_eq_true, g1, g2, g3, g4, h1, h2, h3, h4, e3]; rfl
  · simp (disch := omega) only [lit, nlt, nle, neq, nI_add, pk_mul, nm_u, bS, gd_d, oc_none, oc_some, rd_n, wr_n, if_pos, if_neg, ite_true, ite_false, not_true_eq_false, not_false_eq_true, g1, g2, g3, g4, h1, h2, h3, h4, e4]; rfl
  · simp (disch := omega) only [lit, nlt, nle, neq, nI_add, pk_mul, nm_u, bS, gd_d, oc_none, oc_some, rd_n, wr_n, if_pos, if_neg, ite_true, ite_false, not_true_eq_false, not_false_eq_true, g1, g2, g3, g4, h1, h2, h3, h4, e6]; rfl
  · have hb := bit_b (a := msk P.1 (fun k => s (k + 1) == -nI 1)) (k := k) (by omega) (by omega)
    rw [msk_tbk hk, ite_b] at hb
    simp (disch := omega) only [lit, nlt, nle, neq, nI_add, pk_mul, nm_u, bS, gd_d, oc_none, oc_some, rd_n, wr_n, if_pos, if_neg, ite_true, ite_false, not_true_eq_false, not_false_eq_true, g1, g2, g3, g4, h1, h2, h3, h4, ior, iand, shl_n, Nat.or_zero, hp.2.1, hb]
    rfl
  · have hb := bit_b (a := msk P.1 (fun k => s (k + 1) == -nI 2)) (k := k) (by omega) (by omega)
    rw [msk_tbk hk, ite_b] at hb
    simp (disch := omega) only [lit, nlt, nle, neq, nI_add, pk_mul, nm_u, bS, gd_d, oc_none, oc_some, rd_n, wr_n, if_pos, if_neg, ite_true, ite_false, not_true_eq_false, not_false_eq_true, g1, g2, g3, g4, h1, h2, h3, h4, ior, iand, shl_n, Nat.or_zero, hp.2.2.1, hb]
    rfl
end TC
/-! out of 18.sets -/
theorem fo_s {α : Type} (f : Nat → α → α) (n : Nat) (a : α) : fo f (n + 1) a = f n (fo f n a) := rfl
theorem fo_ext {α : Type} {f : Nat → α → α} {n : Nat} (h : ∀ k a, n ≤ k → f k a = a) (a : α) : ∀ m, n ≤ m → fo f m a = fo f n a := by
  intro m
  induction m with
  | zero => intro hm; rw [show n = 0 by omega]
  | succ m ih =>
    intro hm
    by_cases e : n = m + 1
    · rw [e]
    · rw [fo_s, ih (by omega), h m _ (by omega)]
theorem fo_cg {α : Type} {f g : Nat → α → α} : ∀ n, (∀ k a, k < n → f k a = g k a) → ∀ a, fo f n a = fo g n a := by
  intro n
  induction n with
  | zero => intro _ a; rfl
  | succ n ih =>
    intro h a
    rw [fo_s, fo_s, ih (fun k a hk => h k a (by omega)), h n _ (by omega)]
theorem tb_ge {S n k : Nat} (h : S < 2 ^ n) (hk : n ≤ k) : S.testBit k = false := Nat.testBit_lt_two_pow (Nat.lt_of_lt_of_le h (pow_le hk))
def stT (P : PD) (S : Nat) : Nat → Nat × Nat → Nat × Nat := fun k a => if S.testBit k then (a.1 ||| (a.2 &&& hm P k), a.2 ||| hm P k) else a
def stS (P : PD) (S : Nat) : Nat → Int → Int := fun k a => if S.testBit k then a + wz P k else a
def stU (P : PD) (S : Nat) : Nat → Nat → Nat := fun k a => if S.testBit k then a ||| hm P k else a
theorem tw_n {P : PD} {S n : Nat} (h : S < 2 ^ n) (hn : n ≤ 8) : tw P S = fo (stT P S) n (0, 0) := fo_ext (f := stT P S) (fun k a hk => by unfold stT; rw [tb_ge h hk]; rfl) (0, 0) 8 hn
theorem sm_n {P : PD} {S n : Nat} (h : S < 2 ^ n) (hn : n ≤ 8) : sm P S = fo (stS P S) n 0 := fo_ext (f := stS P S) (fun k a hk => by unfold stS; rw [tb_ge h hk]; rfl) 0 8 hn
theorem un_tw {P : PD} {S : Nat} : un P S = (tw P S).2 := by
  have : ∀ n, (fo (stT P S) n (0, 0)).2 = fo (stU P S) n 0 := by
    intro n
    induction n with
    | zero => rfl
    | succ n ih =>
      rw [fo_s, fo_s, ← ih]
      unfold stT stU
      split <;> rfl
  exact (this 8).symm
theorem tw_lt {P : PD} {S n : Nat} (hok : ∀ k, k < n → okP P k) : (fo (stT P S) n (0, 0)).1 < 2 ^ 13 ∧ (fo (stT P S) n (0, 0)).2 < 2 ^ 13 := by
  induction n with
  | zero => exact ⟨show (0 : Nat) < 2 ^ 13 by decide, show (0 : Nat) < 2 ^ 13 by decide⟩
  | succ n ih =>
    obtain ⟨i1, i2⟩ := ih (fun k hk => hok k (by omega))
    have hl : hm P n < 2 ^ 13 := hm_lt (hok n (by omega))
    rw [fo_s]
    unfold stT
    split
    · refine ⟨Nat.or_lt_two_pow i1 (Nat.lt_of_le_of_lt Nat.and_le_left i2), Nat.or_lt_two_pow i2 hl⟩
    · exact ⟨i1, i2⟩
section AG
variable {P : PD} {MC MM : Mem} {S fu : Nat}
theorem tw_b (hP : GP P MC MM) (hS : S < 2 ^ P.1) : (tw P S).1 < 8192 ∧ (tw P S).2 < 8192 := by
  rw [tw_n hS hP.1]
  exact tw_lt (fun k hk => (hP.2.2.2.1 k hk).1)
theorem isSet_in (hS : S < 256) : f2_isSet (nI S) = some (nI 1) := by
  unfold f2_isSet
  simp (disch := omega) only [lit, nlt, nle, neq, nI_add, pk_mul, nm_u, bS, gd_d, oc_none, oc_some, rd_n, wr_n, if_pos, if_neg, ite_true, ite_false, not_true_eq_false, not_false_eq_true, g1, g2, g3, g4, h1, h2, h3, h4]
theorem hours_c (hP : GP P MC MM) (hS : S < 2 ^ P.1) : f2_hoursOf MC (nI S) = some (nI (tw P S).2) := by
  have h256 := pow8 hP.1
  unfold f2_hoursOf
  simp (disch := omega) only [lit, nlt, nle, neq, nI_add, pk_mul, nm_u, bS, gd_d, oc_none, oc_some, rd_n, wr_n, if_pos, if_neg, ite_true, ite_false, not_true_eq_false, not_false_eq_true, g1, g2, g3, g4, h1, h2, h3, h4, isSet_in (S := S) (by omega), (hP.2.2.2.2 S hS).1, un_tw]
theorem sum_c (hP : GP P MC MM) (hS : S < 2 ^ P.1) : f2_sumOf MC (nI S) = some (zI (sm P S)) := by
  have h256 := pow8 hP.1
  unfold f2_sumOf
  simp (disch := omega) only [lit, nlt, nle, neq, nI_add, pk_mul, nm_u, bS, gd_d, oc_none, oc_some, rd_n, wr_n, if_pos, if_neg, ite_true, ite_false, not_true_eq_false, not_false_eq_true, g1, g2, g3, g4, h1, h2, h3, h4, isSet_in (S := S) (by omega), (hP.2.2.2.2 S hS).2.1]
theorem apart_c (hP : GP P MC MM) (hS : S < 2 ^ P.1) : f2_isApart MC (nI S) = some (if apt P S then nI 1 else nI 0) := by
  have h256 := pow8 hP.1
  unfold f2_isApart
  simp (disch := omega) only [lit, nlt, nle, neq, nI_add, pk_mul, nm_u, bS, gd_d, oc_none, oc_some, rd_n, wr_n, if_pos, if_neg, ite_true, ite_false, not_true_eq_false, not_false_eq_true, g1, g2, g3, g4, h1, h2, h3, h4, isSet_in (S := S) (by omega), (hP.2.2.2.2 S hS).2.2.1]
  cases apt P S <;> rfl
theorem most_c (hP : GP P MC MM) (hS : S < 2 ^ P.1) : f2_mostOf MC (nI S) = some (zI (mx P S)) := by
  have h256 := pow8 hP.1
  unfold f2_mostOf
  simp (disch := omega) only [lit, nlt, nle, neq, nI_add, pk_mul, nm_u, bS, gd_d, oc_none, oc_some, rd_n, wr_n, if_pos, if_neg, ite_true, ite_false, not_true_eq_false, not_false_eq_true, g1, g2, g3, g4, h1, h2, h3, h4, isSet_in (S := S) (by omega), (hP.2.2.2.2 S hS).2.2.2]
end AG
/-- how many -/
def pcn (S : Nat) : Nat := fo (fun k a => if S.testBit k then a + 1 else a) 8 0
theorem bitC {S : Nat} (h : S < 256) : f6_bitCount (nI S) = some (nI (pcn S)) := by
  have : ∀ S, S < 256 → f6_bitCount (nI S) = some (nI (pcn S)) := by decide +kernel
  exact this S h
