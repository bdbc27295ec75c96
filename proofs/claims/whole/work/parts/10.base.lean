/-! 10: numbers and memories, as simp reads them -/
theorem lit (n : Nat) : (@OfNat.ofNat Int32 n Int32.instOfNat) = nI n := rfl
theorem nlt {a b : Nat} (ha : a < 2147483648) (hb : b < 2147483648) : (nI a < nI b) = (a < b) := propext (nI_ltI ha hb)
theorem nle {a b : Nat} (ha : a < 2147483648) (hb : b < 2147483648) : (nI a ≤ nI b) = (a ≤ b) := propext (nI_leI ha hb)
theorem neq {a b : Nat} (ha : a < 2147483648) (hb : b < 2147483648) : (nI a = nI b) = (a = b) := propext (nI_eq ha hb)
theorem nm_u {α β : Type} (e : α) (k : α → β) : nm e k = k e := rfl
theorem bS {α β : Type} (a : α) (f : α → Option β) : (some a).bind f = f a := rfl
theorem gd_d {p : Prop} [Decidable p] (h : p) : gd (decide p) = some () := by simp [gd, h]
theorem oc_none {β : Type} (a : β) (k : Nat → β) : oc none a k = a := rfl
theorem oc_some {β : Type} (a : β) (k : Nat → β) (q : Nat) : oc (some q) a k = k q := rfl
theorem rd_n {M : Mem} {p n i : Nat} (h : i < n) (hn : n < 2147483648) : rd M p n (nI i) = some (M.1 p i) := by
  have h1 := nI_in h hn
  have h2 := nI_clamp (n := i) (by omega)
  unfold rd
  rw [if_neg h1, h2]
theorem wr_n {M : Mem} {p n i : Nat} {v : Int32} (h : i < n) (hn : n < 2147483648) : wr M p n (nI i) v = some (sI M p i v) := by
  have h1 := nI_in h hn
  have h2 := nI_clamp (n := i) (by omega)
  unfold wr
  rw [if_neg h1, h2]
theorem g1 {M : Mem} {p i : Nat} {v : Int32} : (sI M p i v).1 p i = v := by simp [sI, upd]
theorem g2 {M : Mem} {p i q : Nat} {v : Int32} (h : q ≠ p) : (sI M p i v).1 q = M.1 q := by simp [sI, h]
theorem g3 {M : Mem} {p i j : Nat} {v : Int32} (h : j ≠ i) : (sI M p i v).1 p j = M.1 p j := by simp [sI, upd, h]
theorem g4 {M : Mem} {p i : Nat} {v : Int32} : (sI M p i v).2 = M.2 := rfl
theorem h1 {M : Mem} {p i : Nat} {v : Int64} : (sL M p i v).1 = M.1 := rfl
theorem h2 {M : Mem} {p i : Nat} {v : Int64} : (sL M p i v).2 p i = v := by simp [sL, vp_updL]
theorem h3 {M : Mem} {p i q : Nat} {v : Int64} (h : q ≠ p) : (sL M p i v).2 q = M.2 q := by simp [sL, h]
theorem h4 {M : Mem} {p i j : Nat} {v : Int64} (h : j ≠ i) : (sL M p i v).2 p j = M.2 p j := by simp [sL, vp_updL, h]
/-- a number against a bound -/
theorem tri (x : Int32) (n : Nat) (hn : n < 2147483648) : (x < nI 0 ∨ (¬ x < nI 0 ∧ nI n ≤ x)) ∨ ∃ j : Nat, j < n ∧ x = nI j := by
  by_cases h0 : x < nI 0
  · exact Or.inl (Or.inl h0)
  · rcases pk_ix x hn with h | h | h
    · exact absurd h h0
    · exact Or.inl (Or.inr ⟨h0, h⟩)
    · exact Or.inr h
def zI (z : Int) : Int32 := Int32.ofInt z
theorem nI_z (n : Nat) : nI n = zI n := by
  apply Int32.toBitVec_inj.mp
  simp [nI, zI, Int32.ofInt, Int32.ofNat]
theorem in_s (x a b : Int64) : f5_in x a b = some (if a ≤ x ∧ x ≤ b then 1 else 0) := by
  have e1 : lg_cmp x a < 0 ↔ x < a := by rw [lg_cmp_lt]
  have e2 : 0 < lg_cmp x b ↔ b < x := by rw [lg_cmp_gt]
  unfold f5_in
  by_cases c1 : a ≤ x
  · rw [if_neg (fun h => Int64.not_lt.mpr c1 (e1.mp h))]
    by_cases c2 : x ≤ b
    · rw [if_neg (fun h => Int64.not_lt.mpr c2 (e2.mp h)), if_pos (show a ≤ x ∧ x ≤ b from And.intro c1 c2)]
    · rw [if_pos (e2.mpr (Int64.not_le.mp c2)), if_neg (fun h : a ≤ x ∧ x ≤ b => c2 h.2)]
  · rw [if_pos (e1.mpr (Int64.not_le.mp c1)), if_neg (fun h : a ≤ x ∧ x ≤ b => c1 h.1)]
theorem le64 (x y : Int32) : x.toInt64 ≤ y.toInt64 ↔ x ≤ y := by
  rw [Int64.le_iff_toInt_le, Int32.le_iff_toInt_le, Int32.toInt_toInt64, Int32.toInt_toInt64]
/-- in(x, a, b) for ints -/
theorem in_i (x a b : Int32) : f5_in x.toInt64 a.toInt64 b.toInt64 = some (if a ≤ x ∧ x ≤ b then 1 else 0) := by
  rw [in_s]
  simp only [le64]
theorem in_n {j a b : Nat} (hj : j < 2147483648) (ha : a < 2147483648) (hb : b < 2147483648) : f5_in (nI j).toInt64 (nI a).toInt64 (nI b).toInt64 = some (if a ≤ j ∧ j ≤ b then 1 else 0) := by
  rw [in_i]
  simp only [nle hj hb, nle ha hj]
