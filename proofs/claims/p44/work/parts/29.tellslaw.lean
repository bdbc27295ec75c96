/-! 29: what the law tells -/
def partV (x : Int32) (n : Nat) : Nat := x.toBitVec.toNat % 2 ^ 31 % n
theorem partV_s (x : Int32) {n : Nat} (h0 : 0 < n) (hn : n < 2147483648) : f9_part x (nI n) = some (nI (partV x n)) := by
  have e := pk_and x (m := 2147483647) 31 (by decide)
  unfold f9_part
  rw [e, rmN (Nat.lt_of_lt_of_le (Nat.mod_lt _ (by decide)) (by decide)) h0 hn]
  rfl
theorem partV_lt (x : Int32) {n : Nat} (h0 : 0 < n) : partV x n < n := Nat.mod_lt _ h0
def cv (L : Nat) (xs : Nat → Int32) (k : Nat) : Int32 := (f9_cell_S L xs mc0 (nI k)).getD 0
theorem cv_s {L : Nat} {xs : Nat → Int32} (hL : L ≤ 260) {k : Nat} (hk : k ≤ 1000) (M : Mem) : f9_cell_S L xs M (nI k) = some (cv L xs k) := by
  obtain ⟨c, hc⟩ := cell_s (xs := xs) hL hk
  unfold cv
  rw [hc, hc]
  rfl
def sx (x : Int32) (n : Nat) : Int32 := x >>> (nI n &&& (31 : Int32))
def plm (x : Int32) : Nat := if partV (sx x 24) 2 = 0 then 10 else 4
def tlP (L : Nat) (xs : Nat → Int32) : PD := (1 + partV (cv L xs 0) 7, fun k => partV (cv L xs (1 + k)) 6, fun k => partV (sx (cv L xs (1 + k)) 3) (plm (cv L xs (1 + k))), fun k => partV (sx (cv L xs (1 + k)) 7) 10, fun k => 1 + partV (sx (cv L xs (1 + k)) 11) 4, fun k => partV (sx (cv L xs (1 + k)) 13) 10)
def tlA (L : Nat) (xs : Nat → Int32) : Nat → Nat
  | 0 => partV (sx (cv L xs 0) 4) 3
  | k + 1 => tlA L xs k + 5 + (if partV (sx (cv L xs (1 + k)) 20) 3 = 0 then 2 else 0)
theorem plm_b (x : Int32) : plm x = 10 ∨ plm x = 4 := by
  unfold plm
  split
  · exact Or.inl rfl
  · exact Or.inr rfl
theorem tlP_ok (L : Nat) (xs : Nat → Int32) (k : Nat) : okP (tlP L xs) k := by
  have a1 : partV (cv L xs (1 + k)) 6 < 6 := partV_lt _ (by omega)
  have a2 : partV (sx (cv L xs (1 + k)) 3) (plm (cv L xs (1 + k))) < 10 := by
    rcases plm_b (cv L xs (1 + k)) with e | e
    · rw [e]; exact partV_lt _ (by omega)
    · rw [e]; exact Nat.lt_of_lt_of_le (partV_lt _ (by omega)) (by omega)
  have a3 : partV (sx (cv L xs (1 + k)) 7) 10 < 10 := partV_lt _ (by omega)
  have a4 : partV (sx (cv L xs (1 + k)) 11) 4 < 4 := partV_lt _ (by omega)
  have a5 : partV (sx (cv L xs (1 + k)) 13) 10 < 10 := partV_lt _ (by omega)
  exact ⟨a1, a2, a3, by show 1 ≤ 1 + partV (sx (cv L xs (1 + k)) 11) 4; omega, by show 1 + partV (sx (cv L xs (1 + k)) 11) 4 ≤ 4; omega, a5⟩
theorem tlP_n (L : Nat) (xs : Nat → Int32) : 1 ≤ (tlP L xs).1 ∧ (tlP L xs).1 ≤ 7 := by
  have a1 : partV (cv L xs 0) 7 < 7 := partV_lt _ (by omega)
  exact ⟨by show 1 ≤ 1 + partV (cv L xs 0) 7; omega, by show 1 + partV (cv L xs 0) 7 ≤ 7; omega⟩
theorem tlA_s (L : Nat) (xs : Nat → Int32) (k : Nat) : tlA L xs (k + 1) = tlA L xs k + 5 + (if partV (sx (cv L xs (1 + k)) 20) 3 = 0 then 2 else 0) := rfl
theorem tlA_b (L : Nat) (xs : Nat → Int32) : ∀ k, tlA L xs k ≤ 2 + 7 * k := by
  intro k
  induction k with
  | zero =>
    have : partV (sx (cv L xs 0) 4) 3 < 3 := partV_lt _ (by omega)
    show partV (sx (cv L xs 0) 4) 3 ≤ _
    omega
  | succ k ih =>
    rw [tlA_s]
    split <;> omega
theorem tlA_m (L : Nat) (xs : Nat → Int32) {i : Nat} : ∀ j, i < j → tlA L xs i + 5 ≤ tlA L xs j := by
  intro j
  induction j with
  | zero => intro h; omega
  | succ j ih =>
    intro h
    rw [tlA_s]
    by_cases c : i = j
    · subst c; omega
    · have := ih (by omega)
      omega
def txF (P : PD) (A : Nat → Nat) : Nat → Nat → Int32
  | 0 => fun j => if j < 60 then nI 32 else nI 0
  | k + 1 => upd (upd (upd (upd (upd (txF P A k) (A k) (nI (letN (kd P k)))) (A k + 1) (nI (48 + pl P k))) (A k + 2) (nI (48 + hr P k))) (A k + 3) (nI (48 + ln P k))) (A k + 4) (nI (48 + lk P k))
theorem txF_s (P : PD) (A : Nat → Nat) (k : Nat) : txF P A (k + 1) = upd (upd (upd (upd (upd (txF P A k) (A k) (nI (letN (kd P k)))) (A k + 1) (nI (48 + pl P k))) (A k + 2) (nI (48 + hr P k))) (A k + 3) (nI (48 + ln P k))) (A k + 4) (nI (48 + lk P k)) := rfl
theorem upd_e {f : Nat → Int32} {i : Nat} {v : Int32} : upd f i v i = v := if_pos rfl
theorem upd_n {f : Nat → Int32} {i j : Nat} {v : Int32} (h : j ≠ i) : upd f i v j = f j := if_neg h
theorem txF_o {P : PD} {A : Nat → Nat} {i : Nat} : ∀ k, (∀ j, j < k → i < A j ∨ A j + 5 ≤ i) → txF P A k i = txF P A 0 i := by
  intro k
  induction k with
  | zero => intro _; rfl
  | succ k ih =>
    intro h
    have := h k (by omega)
    rw [txF_s, upd_n (by omega), upd_n (by omega), upd_n (by omega), upd_n (by omega), upd_n (by omega)]
    exact ih (fun j hj => h j (by omega))
theorem txF_d {P : PD} {A : Nat → Nat} (hA : ∀ i j, i < j → A i + 5 ≤ A j) : ∀ k j, j < k → txF P A k (A j) = nI (letN (kd P j)) ∧ txF P A k (A j + 1) = nI (48 + pl P j) ∧ txF P A k (A j + 2) = nI (48 + hr P j) ∧ txF P A k (A j + 3) = nI (48 + ln P j) ∧ txF P A k (A j + 4) = nI (48 + lk P j) := by
  intro k
  induction k with
  | zero => intro j hj; omega
  | succ k ih =>
    intro j hj
    rw [txF_s]
    by_cases c : j = k
    · subst c
      refine ⟨?_, ?_, ?_, ?_, ?_⟩
      · rw [upd_n (by omega), upd_n (by omega), upd_n (by omega), upd_n (by omega), upd_e]
      · rw [upd_n (by omega), upd_n (by omega), upd_n (by omega), upd_e]
      · rw [upd_n (by omega), upd_n (by omega), upd_e]
      · rw [upd_n (by omega), upd_e]
      · rw [upd_e]
    · have q := hA j k (by omega)
      obtain ⟨w1, w2, w3, w4, w5⟩ := ih j (by omega)
      refine ⟨?_, ?_, ?_, ?_, ?_⟩
      · rw [upd_n (by omega), upd_n (by omega), upd_n (by omega), upd_n (by omega), upd_n (by omega)]; exact w1
      · rw [upd_n (by omega), upd_n (by omega), upd_n (by omega), upd_n (by omega), upd_n (by omega)]; exact w2
      · rw [upd_n (by omega), upd_n (by omega), upd_n (by omega), upd_n (by omega), upd_n (by omega)]; exact w3
      · rw [upd_n (by omega), upd_n (by omega), upd_n (by omega), upd_n (by omega), upd_n (by omega)]; exact w4
      · rw [upd_n (by omega), upd_n (by omega), upd_n (by omega), upd_n (by omega), upd_n (by omega)]; exact w5
theorem txF_T (L : Nat) (xs : Nat → Int32) : TXT (tlP L xs) (tlA L xs) (txF (tlP L xs) (tlA L xs) (tlP L xs).1) := by
  have hn := tlP_n L xs
  refine ⟨fun i hi h => ?_, fun j hj => ?_, fun i j h _ => tlA_m L xs j h⟩
  · rw [txF_o _ h]
    exact if_pos hi
  · have := tlA_b L xs j
    exact ⟨tlP_ok L xs j, by omega, txF_d (fun i j => tlA_m L xs j) _ j hj⟩
/-- what stands behind k pins -/
def TL (P : PD) (A : Nat → Nat) (k : Nat) (M : Mem) : Prop := M.1 9 0 = nI 60 ∧ M.1 19 = txF P A k ∧ M.1 47 0 = nI P.1 ∧ (∀ j, j < k → M.1 47 (1 + j) = nI (kd P j) ∧ M.1 47 (25 + j) = nI (lk P j)) ∧ (∀ q, q ≠ 9 → q ≠ 19 → q ≠ 47 → q ≠ 48 → M.1 q = mc0.1 q) ∧ M.2 = mc0.2
theorem put_s {M : Mem} {i b : Nat} (h : M.1 9 0 = nI 60) (hi : i < 60) (hb : b < 128) (h32 : M.1 19 i = nI 32) : f9_byte0_28 (nI i) (nI b) M = some (sI M 19 i (nI b), nI (i + 1)) := by
  have e8 : (nI b).toInt8.toInt32 = nI b := by
    have : ∀ b, b < 128 → (nI b).toInt8.toInt32 = nI b := by decide +kernel
    exact this b hb
  have r := refP_in (M := M) (p := 9) (k := 60) (i := i) (by omega) h (by omega) hi
  have c := cellAt_in (M := M) (p := 9) (i := i) (by omega) hi
  have w := setCell_in (M := M) (p := 9) (i := i) (v := nI b) (by omega) hi
  rw [show 9 + 10 = 19 from rfl] at c w
  rw [h32] at c
  have gk : gd (decide ((9 : Nat) < 10)) = some () := rfl
  have p : f4_put (nI 3) (nI i) (nI b) M = some (sI M 19 i (nI b), nI 32 + nI 1000) := by
    unfold f4_put
    rw [textAt_in (by omega)]
    simp (disch := omega) only [lit, nlt, nle, neq, nI_add, pk_mul, nm_u, bS, gd_d, oc_none, oc_some, rd_n, wr_n, if_pos, if_neg, ite_true, ite_false, not_true_eq_false, not_false_eq_true, g1, g2, g3, g4, h1, h2, h3, h4, r, gk, c, e8, w]
  unfold f9_byte0_28
  simp (disch := omega) only [lit, nlt, nle, neq, nI_add, pk_mul, nm_u, bS, gd_d, oc_none, oc_some, rd_n, wr_n, if_pos, if_neg, ite_true, ite_false, not_true_eq_false, not_false_eq_true, g1, g2, g3, g4, h1, h2, h3, h4, p]
theorem letter_s {K : Nat} (hK : K < 6) : f9_letter (nI K) = some (nI (letN K)) := by
  rcases (show K = 0 ∨ K = 1 ∨ K = 2 ∨ K = 3 ∨ K = 4 ∨ K = 5 by omega) with rfl | rfl | rfl | rfl | rfl | rfl <;> rfl
