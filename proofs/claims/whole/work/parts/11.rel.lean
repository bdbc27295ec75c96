/-! 11: what the two memories have to do with each other -/
def fo {α : Type} (f : Nat → α → α) : Nat → α → α
  | 0, a => a
  | n + 1, a => f n (fo f n a)
abbrev PD : Type := Nat × (Nat → Nat) × (Nat → Nat) × (Nat → Nat) × (Nat → Nat) × (Nat → Nat)
def kd (P : PD) : Nat → Nat := P.2.1
def pl (P : PD) : Nat → Nat := P.2.2.1
def hr (P : PD) : Nat → Nat := P.2.2.2.1
def ln (P : PD) : Nat → Nat := P.2.2.2.2.1
def lk (P : PD) : Nat → Nat := P.2.2.2.2.2
/-- the hours of a pin -/
def hm (P : PD) (k : Nat) : Nat := (2 ^ ln P k - 1) * 2 ^ hr P k
/-- what a pin would be worth -/
def wv (P : PD) (kind k : Nat) (luck : Int) : Int := match kind with
  | 1 => luck - 10
  | 2 => if (hm P k).testBit 5 then luck + 3 else luck
  | 3 => luck * ln P k
  | 4 => 2 * (if (hm P k).testBit 5 then luck + 3 else luck)
  | 5 => luck - 10 - ln P k
  | _ => luck
def wz (P : PD) (k : Nat) : Int := wv P (kd P k) k (lk P k)
def un (P : PD) (S : Nat) : Nat := fo (fun k a => if S.testBit k then a ||| hm P k else a) 8 0
def sm (P : PD) (S : Nat) : Int := fo (fun k a => if S.testBit k then a + wz P k else a) 8 0
/-- hours that two have, hours that one has -/
def tw (P : PD) (S : Nat) : Nat × Nat := fo (fun k a => if S.testBit k then (a.1 ||| (a.2 &&& hm P k), a.2 ||| hm P k) else a) 8 (0, 0)
def apt (P : PD) (S : Nat) : Bool := (tw P S).1 == 0
/-- the most that a set without a clash, out of these, is worth -/
def mx (P : PD) (S : Nat) : Int := fo (fun t m => if (t &&& S == t) && apt P t then max m (sm P t) else m) 256 0
def msk (n : Nat) (p : Nat → Bool) : Nat := fo (fun k a => if p k then a ||| 2 ^ k else a) n 0
def okP (P : PD) (k : Nat) : Prop := kd P k < 6 ∧ pl P k < 10 ∧ hr P k < 10 ∧ 1 ≤ ln P k ∧ ln P k ≤ 4 ∧ lk P k < 10
def RowR (c0 : Int32) (ca : Nat → Int32) (m0 : Int32) (ma : Nat → Int32) (n : Nat) : Prop := c0 = m0 ∧ (c0 = -1 ∨ ∃ k : Nat, k ≤ n ∧ c0 = nI k ∧ ∀ i, i < k → ca i = ma i)
def GA (MC MM : Mem) : Prop := MC.1 28 6 = MM.1 0 4 ∧ MC.1 28 5 = MM.1 0 7 ∧ MC.2 28 7 = MM.2 0 5 ∧ MC.2 28 8 = MM.2 0 6 ∧ ∀ f, f < 6 → MC.1 32 f = MM.1 5 f
def GR (MC MM : Mem) : Prop := ∀ r, r < 6 → RowR (MC.1 r 0) (MC.1 (r + 10)) (MM.1 2 r) (fun i => MM.1 1 (40 * r + i)) 40
def GT (MC MM : Mem) : Prop := ∀ t, t < 4 → RowR (MC.1 (t + 6) 0) (MC.1 (t + 6 + 10)) (MM.1 4 t) (fun i => MM.1 3 (60 * t + i)) 60
def GP (P : PD) (MC MM : Mem) : Prop := P.1 ≤ 8 ∧ MC.1 35 0 = nI P.1 ∧ MM.1 0 9 = nI P.1 ∧
  (∀ k, k < P.1 → okP P k ∧ MC.1 36 k = nI (kd P k) ∧ MC.1 37 k = nI (pl P k) ∧ MC.1 38 k = nI (hr P k) ∧ MC.1 39 k = nI (ln P k) ∧ MC.1 40 k = nI (lk P k) ∧ MC.1 41 k = nI (hm P k) ∧ MC.1 42 k = zI (wz P k) ∧ MM.1 6 k = nI (kd P k) ∧ MM.1 7 k = nI (hr P k) ∧ MM.1 8 k = nI (ln P k) ∧ MM.1 9 k = nI (lk P k)) ∧
  ∀ S, S < 2 ^ P.1 → MC.1 43 S = nI (un P S) ∧ MC.1 44 S = zI (sm P S) ∧ MC.1 45 S = (if apt P S then 1 else 0) ∧ MC.1 46 S = zI (mx P S)
/-- a deed, done on the place (0) and on where the pins are (k + 1) -/
def ap (c : Int32) (s : Nat → Int32) : Nat → Int32
  | 0 => if c = nI 0 then s 0 + nI 1 else if c = nI 1 then s 0 - nI 1 else s 0
  | k + 1 => if c = nI 2 then (if s (k + 1) = s 0 then -nI 2 else s (k + 1)) else if c = nI (8 + k) then -nI 1 else if c = nI (16 + k) then s 0 else s (k + 1)
def gst (n : Nat) (s : Nat → Int32) : Prop := (∃ p, p < 10 ∧ s 0 = nI p) ∧ ∀ k, k < n → s (k + 1) = -nI 1 ∨ s (k + 1) = -nI 2 ∨ ∃ p, p < 10 ∧ s (k + 1) = nI p
/-- a deed that can be done -/
def okc (n : Nat) (c : Int32) (s : Nat → Int32) : Prop := c = nI 0 ∨ c = nI 1 ∨ c = nI 2 ∨ ∃ k, k < n ∧ ((c = nI (8 + k) ∧ s (k + 1) = s 0) ∨ (c = nI (16 + k) ∧ s (k + 1) = -nI 1))
/-- st: what was behind each deed of the codes cd -/
def Hist (P : PD) (cd : Nat → Int32) (d : Nat) (st : Nat → Nat → Int32) : Prop := st 0 0 = nI 0 ∧ (∀ k, k < P.1 → st 0 (k + 1) = nI (pl P k)) ∧ (∀ i, i < d → ∀ j, j ≤ P.1 → st (i + 1) j = ap (cd i) (st i) j) ∧ (∀ i, i ≤ d → gst P.1 (st i)) ∧ ∀ i, i < d → okc P.1 (cd i) (st i)
/-- the class's own picture of a state -/
def pic (P : PD) (s : Nat → Int32) (place held swept : Int32) (lies : Nat → Int32) : Prop := place = s 0 ∧ held = nI (msk P.1 (fun k => s (k + 1) == -nI 1)) ∧ swept = nI (msk P.1 (fun k => s (k + 1) == -nI 2)) ∧ ∀ k, k < P.1 → s (k + 1) ≠ -nI 1 → s (k + 1) ≠ -nI 2 → lies k = s (k + 1)
def GD (P : PD) (MC MM : Mem) : Prop := ∃ (d : Nat) (st : Nat → Nat → Int32), d ≤ 40 ∧ MC.1 23 0 = nI d ∧ MM.1 0 16 = nI d ∧ Hist P (MC.1 27) d st ∧ (∀ i, i < d → ∀ j, j ≤ P.1 → MM.1 11 (9 * i + j) = st i j) ∧ (∀ j, j ≤ P.1 → MM.1 10 j = st d j) ∧ pic P (st d) (MC.1 33 2) (MC.1 33 3) (MC.1 33 4) (MC.1 34)
def GK1 (P : PD) (c0 : Int32) (cd : Nat → Int32) (m : Nat → Int32) : Prop := c0 = m 0 ∧ (c0 = -1 ∨ ∃ (d : Nat) (st : Nat → Nat → Int32), d ≤ 40 ∧ c0 = nI d ∧ Hist P cd d st ∧ (∀ i, i < d → ∀ j, j ≤ P.1 → m (10 + (9 * i + j)) = st i j) ∧ ∀ j, j ≤ P.1 → m (1 + j) = st d j)
def GK (P : PD) (MC MM : Mem) : Prop := ∀ j, j < 3 → GK1 P (MC.1 (j + 20) 0) (MC.1 (j + 20 + 4)) (fun i => MM.1 12 (370 * j + i))
def Rel (MC MM : Mem) : Prop := ∃ P : PD, GA MC MM ∧ GR MC MM ∧ GT MC MM ∧ GP P MC MM ∧ GD P MC MM ∧ GK P MC MM
section CG
variable {P : PD} {MC MM MC' MM' : Mem}
theorem GA.cg (h : GA MC MM) (a : MC'.1 28 6 = MC.1 28 6) (b : MC'.1 28 5 = MC.1 28 5) (c : MC'.2 = MC.2) (d : MC'.1 32 = MC.1 32) (e : MM'.1 0 4 = MM.1 0 4) (f : MM'.1 0 7 = MM.1 0 7) (g : MM'.2 = MM.2) (i : MM'.1 5 = MM.1 5) : GA MC' MM' := by
  unfold GA at *
  rw [a, b, c, d, e, f, g, i]
  exact h
theorem GR.cg (h : GR MC MM) (a : ∀ q, q < 6 ∨ (10 ≤ q ∧ q < 16) → MC'.1 q = MC.1 q) (b : MM'.1 1 = MM.1 1) (c : MM'.1 2 = MM.1 2) : GR MC' MM' := by
  intro r hr
  rw [a r (by omega), a (r + 10) (by omega), b, c]
  exact h r hr
theorem GT.cg (h : GT MC MM) (a : ∀ q, (6 ≤ q ∧ q < 10) ∨ (16 ≤ q ∧ q < 20) → MC'.1 q = MC.1 q) (b : MM'.1 3 = MM.1 3) (c : MM'.1 4 = MM.1 4) : GT MC' MM' := by
  intro r hr
  rw [a (r + 6) (by omega), a (r + 6 + 10) (by omega), b, c]
  exact h r hr
theorem GP.cg (h : GP P MC MM) (a : ∀ q, 35 ≤ q ∧ q ≤ 46 → MC'.1 q = MC.1 q) (b : MM'.1 0 9 = MM.1 0 9) (c : ∀ q, 6 ≤ q ∧ q ≤ 9 → MM'.1 q = MM.1 q) : GP P MC' MM' := by
  unfold GP at *
  rw [a 35 (by omega), a 36 (by omega), a 37 (by omega), a 38 (by omega), a 39 (by omega), a 40 (by omega), a 41 (by omega), a 42 (by omega), a 43 (by omega), a 44 (by omega), a 45 (by omega), a 46 (by omega), b, c 6 (by omega), c 7 (by omega), c 8 (by omega), c 9 (by omega)]
  exact h
theorem GD.cg (h : GD P MC MM) (a : ∀ q, q = 23 ∨ q = 27 ∨ q = 33 ∨ q = 34 → MC'.1 q = MC.1 q) (b : MM'.1 0 16 = MM.1 0 16) (c : MM'.1 10 = MM.1 10) (d : MM'.1 11 = MM.1 11) : GD P MC' MM' := by
  unfold GD at *
  rw [a 23 (by omega), a 27 (by omega), a 33 (by omega), a 34 (by omega), b, c, d]
  exact h
theorem GK.cg (h : GK P MC MM) (a : ∀ q, (20 ≤ q ∧ q < 23) ∨ (24 ≤ q ∧ q < 27) → MC'.1 q = MC.1 q) (b : MM'.1 12 = MM.1 12) : GK P MC' MM' := by
  intro j hj
  rw [a (j + 20) (by omega), a (j + 20 + 4) (by omega), b]
  exact h j hj
/-- what a call does that changes nothing but what is told -/
theorem Rel.tell (h : Rel MC MM) (v : Int32) : Rel (sI MC 28 6 v) (sI MM 0 4 v) := by
  obtain ⟨P, hA, hR, hT, hP, hD, hK⟩ := h
  refine ⟨P, ?_, hR.cg (fun q hq => g2 (by omega)) (g2 (by omega)) (g2 (by omega)), hT.cg (fun q hq => g2 (by omega)) (g2 (by omega)) (g2 (by omega)), hP.cg (fun q hq => g2 (by omega)) (g3 (by omega)) (fun q hq => g2 (by omega)), hD.cg (fun q hq => g2 (by omega)) (g3 (by omega)) (g2 (by omega)) (g2 (by omega)), hK.cg (fun q hq => g2 (by omega)) (g2 (by omega))⟩
  obtain ⟨a1, a2, a3, a4, a5⟩ := hA
  refine ⟨by rw [g1, g1], by rw [g3 (by omega), g3 (by omega)]; exact a2, a3, a4, fun f hf => ?_⟩
  rw [g2 (by omega), g2 (by omega)]
  exact a5 f hf
theorem Rel.find (h : Rel MC MM) {f : Nat} (hf : f < 6) : Rel (sI (sI MC 28 5 (nI f)) 32 f (MC.1 32 f + nI 1)) (sI (sI MM 0 7 (nI f)) 5 f (MM.1 5 f + nI 1)) := by
  obtain ⟨P, hA, hR, hT, hP, hD, hK⟩ := h
  refine ⟨P, ?_, hR.cg (fun q hq => by rw [g2 (by omega), g2 (by omega)]) (by rw [g2 (by omega), g2 (by omega)]) (by rw [g2 (by omega), g2 (by omega)]), hT.cg (fun q hq => by rw [g2 (by omega), g2 (by omega)]) (by rw [g2 (by omega), g2 (by omega)]) (by rw [g2 (by omega), g2 (by omega)]), hP.cg (fun q hq => by rw [g2 (by omega), g2 (by omega)]) (by rw [g2 (by omega), g3 (by omega)]) (fun q hq => by rw [g2 (by omega), g2 (by omega)]), hD.cg (fun q hq => by rw [g2 (by omega), g2 (by omega)]) (by rw [g2 (by omega), g3 (by omega)]) (by rw [g2 (by omega), g2 (by omega)]) (by rw [g2 (by omega), g2 (by omega)]), hK.cg (fun q hq => by rw [g2 (by omega), g2 (by omega)]) (by rw [g2 (by omega), g2 (by omega)])⟩
  obtain ⟨a1, a2, a3, a4, a5⟩ := hA
  refine ⟨by rw [g2 (by omega), g3 (by omega), g2 (by omega), g3 (by omega)]; exact a1, by rw [g2 (by omega), g1, g2 (by omega), g1], a3, a4, fun k hk => ?_⟩
  by_cases e : k = f
  · subst e
    rw [g1, g1, a5 k hk]
  · rw [g3 e, g3 e, g2 (by omega), g2 (by omega)]
    exact a5 k hk
end CG
theorem find_s {M : Mem} {f : Nat} (h1 : 1 ≤ f) (h5 : f ≤ 5) : f4_find (nI f) M = some (sI (sI M 28 5 (nI f)) 32 f (M.1 32 f + nI 1), -3) := by
  unfold f4_find
  simp (disch := omega) only [lit, nlt, nle, neq, nI_add, pk_mul, nm_u, bS, gd_d, oc_none, oc_some, rd_n, wr_n, if_pos, if_neg, ite_true, ite_false, not_true_eq_false, not_false_eq_true, g1, g2, g3, g4, h1, h2, h3, h4]
theorem found_s {M : Mem} {f : Nat} (h1 : 1 ≤ f) (h5 : f ≤ 5) : f5_found (nI f) M = some (sI (sI M 0 7 (nI f)) 5 f (M.1 5 f + nI 1), -3) := by
  unfold f5_found
  simp (disch := omega) only [lit, nlt, nle, neq, nI_add, pk_mul, nm_u, bS, gd_d, oc_none, oc_some, rd_n, wr_n, if_pos, if_neg, ite_true, ite_false, not_true_eq_false, not_false_eq_true, g1, g2, g3, g4, h1, h2, h3, h4]
