/-! 47: by turns: the game -/
def gam (P : PD) : Nat → Nat → Nat → Nat → Int
  | 0, _, _, _ => 0
  | m + 1, F, a, b => fo (fun k best => if F.testBit k && (hm P k &&& a == 0) then max best (wz P k - gam P m (F ^^^ (F &&& 2 ^ k)) b (a ||| hm P k)) else best) 8 (-(gam P m F b a))
def gpre (P : PD) (m F a b k : Nat) : Int := fo (fun k best => if F.testBit k && (hm P k &&& a == 0) then max best (wz P k - gam P m (F ^^^ (F &&& 2 ^ k)) b (a ||| hm P k)) else best) k (-(gam P m F b a))
theorem gam_s (P : PD) (m F a b : Nat) : gam P (m + 1) F a b = gpre P m F a b 8 := rfl
theorem gpre_s (P : PD) (m F a b k : Nat) : gpre P m F a b (k + 1) = if F.testBit k && (hm P k &&& a == 0) then max (gpre P m F a b k) (wz P k - gam P m (F ^^^ (F &&& 2 ^ k)) b (a ||| hm P k)) else gpre P m F a b k := rfl
def lef (P : PD) : Nat → Int → Nat → Nat → Nat → Int → Nat → Int
  | 0, _, _, _, _, acc, _ => acc
  | m + 1, sg, F, a, b, acc, j => if 8 ≤ j / 9 ^ m then lef P m (-sg) F b a acc (j % 9 ^ m) else if F.testBit (j / 9 ^ m) && (hm P (j / 9 ^ m) &&& a == 0) then lef P m (-sg) (F ^^^ (F &&& 2 ^ (j / 9 ^ m))) b (a ||| hm P (j / 9 ^ m)) (acc + sg * wz P (j / 9 ^ m)) (j % 9 ^ m) else -1000000
theorem lef_s (P : PD) (m : Nat) (sg : Int) (F a b : Nat) (acc : Int) (j : Nat) : lef P (m + 1) sg F a b acc j = if 8 ≤ j / 9 ^ m then lef P m (-sg) F b a acc (j % 9 ^ m) else if F.testBit (j / 9 ^ m) && (hm P (j / 9 ^ m) &&& a == 0) then lef P m (-sg) (F ^^^ (F &&& 2 ^ (j / 9 ^ m))) b (a ||| hm P (j / 9 ^ m)) (acc + sg * wz P (j / 9 ^ m)) (j % 9 ^ m) else -1000000 := rfl
def cmb (sg : Int) (v : Nat → Int) (k : Nat) : Int := fo (fun j best => if v j ≤ -1000000 then best else if sg * best < sg * v j then v j else best) k (v 8)
theorem cmb_s (sg : Int) (v : Nat → Int) (k : Nat) : cmb sg v (k + 1) = if v k ≤ -1000000 then cmb sg v k else if sg * cmb sg v k < sg * v k then v k else cmb sg v k := rfl
def upU (X : Nat → Int) : Nat → Int → Nat → Int
  | 0, _, i => X i
  | m + 1, sg, i => cmb sg (fun d => upU X m (-sg) (9 * i + d)) 8
theorem rmv_tb {F k j : Nat} : (F ^^^ (F &&& 2 ^ k)).testBit j = (F.testBit j && !(decide (k = j))) := by
  rw [Nat.testBit_xor, Nat.testBit_and, Nat.testBit_two_pow]
  cases F.testBit j <;> cases decide (k = j) <;> rfl
theorem rmv_ok {P : PD} {F k : Nat} (h : ∀ j, F.testBit j = true → okP P j) : ∀ j, (F ^^^ (F &&& 2 ^ k)).testBit j = true → okP P j := by
  intro j hj
  rw [rmv_tb] at hj
  simp at hj
  exact h j hj.1
theorem gam_bd {P : PD} : ∀ (m F a b : Nat), (∀ k, F.testBit k = true → okP P k) → -60 * (m : Int) ≤ gam P m F a b ∧ gam P m F a b ≤ 60 * (m : Int) := by
  intro m
  induction m with
  | zero =>
    intro F a b _
    exact ⟨by show -60 * ((0 : Nat) : Int) ≤ 0; omega, by show (0 : Int) ≤ 60 * ((0 : Nat) : Int); omega⟩
  | succ m ih =>
    intro F a b hF
    have h0 := ih F b a hF
    have key : ∀ k, -60 * ((m : Int) + 1) ≤ gpre P m F a b k ∧ gpre P m F a b k ≤ 60 * ((m : Int) + 1) := by
      intro k
      induction k with
      | zero =>
        have : gpre P m F a b 0 = -(gam P m F b a) := rfl
        omega
      | succ k ihk =>
        rw [gpre_s]
        by_cases c : F.testBit k && (hm P k &&& a == 0)
        · rw [if_pos c]
          have hk : F.testBit k = true := by simp at c; exact c.1
          have hw := wz_bd (hF k hk)
          have lh1 := ih (F ^^^ (F &&& 2 ^ k)) b (a ||| hm P k) (rmv_ok hF)
          omega
        · rw [if_neg c]
          exact ihk
    rw [gam_s]
    have := key 8
    omega
theorem gpre_bd {P : PD} {m F a b : Nat} (hF : ∀ k, F.testBit k = true → okP P k) (k : Nat) : -60 * ((m : Int) + 1) ≤ gpre P m F a b k ∧ gpre P m F a b k ≤ 60 * ((m : Int) + 1) := by
  have h0 := gam_bd m F b a hF
  induction k with
  | zero =>
    have : gpre P m F a b 0 = -(gam P m F b a) := rfl
    omega
  | succ k ihk =>
    rw [gpre_s]
    by_cases c : F.testBit k && (hm P k &&& a == 0)
    · rw [if_pos c]
      have hk : F.testBit k = true := by simp at c; exact c.1
      have hw := wz_bd (hF k hk)
      have lh1 := gam_bd m (F ^^^ (F &&& 2 ^ k)) b (a ||| hm P k) (rmv_ok hF)
      omega
    · rw [if_neg c]
      exact ihk
theorem cmb_gam {P : PD} {m F a b : Nat} {sg acc : Int} {v : Nat → Int} (hsg : sg = 1 ∨ sg = -1) (hm10 : m ≤ 10) (lh1 : -1000 ≤ acc) (lh2 : acc ≤ 1000) (hF : ∀ k, F.testBit k = true → okP P k) (h8 : v 8 = acc + -sg * gam P m F b a) (hj : ∀ j, j < 8 → v j = if F.testBit j && (hm P j &&& a == 0) then acc + sg * wz P j + -sg * gam P m (F ^^^ (F &&& 2 ^ j)) b (a ||| hm P j) else -1000000) : cmb sg v 8 = acc + sg * gam P (m + 1) F a b := by
  have key : ∀ k, k ≤ 8 → cmb sg v k = acc + sg * gpre P m F a b k := by
    intro k
    induction k with
    | zero =>
      intro _
      show v 8 = acc + sg * -(gam P m F b a)
      rw [h8]
      rcases hsg with rfl | rfl <;> omega
    | succ k ih =>
      intro hk
      rw [cmb_s, gpre_s, ih (by omega), hj k (by omega)]
      by_cases c : F.testBit k && (hm P k &&& a == 0)
      · rw [if_pos c, if_pos c]
        have hk : F.testBit k = true := by simp at c; exact c.1
        have hw := wz_bd (hF k hk)
        have b1 := gam_bd m (F ^^^ (F &&& 2 ^ k)) b (a ||| hm P k) (rmv_ok hF)
        have b2 := gpre_bd (m := m) (a := a) (b := b) hF k
        generalize gam P m (F ^^^ (F &&& 2 ^ k)) b (a ||| hm P k) = g at b1
        generalize gpre P m F a b k = q at b2
        generalize wz P k = w at hw
        rcases hsg with rfl | rfl
        · rw [if_neg (by omega)]
          by_cases d : q < w - g
          · rw [if_pos (by omega)]; omega
          · rw [if_neg (by omega)]; omega
        · rw [if_neg (by omega)]
          by_cases d : q < w - g
          · rw [if_pos (by omega)]; omega
          · rw [if_neg (by omega)]; omega
      · rw [if_neg c, if_neg c, if_pos (by omega)]
  rw [gam_s]
  exact key 8 (Nat.le_refl 8)
theorem dg_1 {p d j : Nat} (hj : j < p) : (d * p + j) / p = d ∧ (d * p + j) % p = j := by
  have hp : 0 < p := by omega
  constructor
  · rw [Nat.mul_comm, Nat.mul_add_div hp, Nat.div_eq_of_lt hj, Nat.add_zero]
  · rw [Nat.mul_comm, Nat.mul_add_mod, Nat.mod_eq_of_lt hj]
theorem dg_2 {p i d j : Nat} : i * (p * 9) + (d * p + j) = (9 * i + d) * p + j := by
  have e1 : i * (p * 9) = 9 * i * p := by rw [Nat.mul_comm p 9, ← Nat.mul_assoc, Nat.mul_comm i 9]
  have e2 : (9 * i + d) * p = 9 * i * p + d * p := Nat.add_mul _ _ _
  omega
theorem dg_3 {p d j : Nat} (hd : d ≤ 8) (hj : j < p) : d * p + j < p * 9 := by
  have := Nat.mul_le_mul_right p hd
  omega
theorem up_bad {X : Nat → Int} : ∀ (m : Nat) (sg : Int) (i : Nat), (∀ j, j < 9 ^ m → X (i * 9 ^ m + j) = -1000000) → upU X m sg i = -1000000 := by
  intro m
  induction m with
  | zero =>
    intro sg i h
    have := h 0 (by decide)
    rw [Nat.pow_zero, Nat.mul_one] at this
    exact this
  | succ m ih =>
    intro sg i h
    have hv : ∀ d, d ≤ 8 → upU X m (-sg) (9 * i + d) = -1000000 := by
      intro d hd
      refine ih (-sg) (9 * i + d) (fun j hj => ?_)
      have := h (d * 9 ^ m + j) (by rw [Nat.pow_succ]; exact dg_3 hd hj)
      rw [Nat.pow_succ, dg_2] at this
      exact this
    have key : ∀ k, k ≤ 8 → cmb sg (fun d => upU X m (-sg) (9 * i + d)) k = -1000000 := by
      intro k
      induction k with
      | zero => intro _; exact hv 8 (by omega)
      | succ k ihk =>
        intro hk
        rw [cmb_s, ihk (by omega)]
        simp only [hv k (by omega)]
        rfl
    exact key 8 (by omega)
theorem up_gam {P : PD} {X : Nat → Int} : ∀ (m : Nat) (sg : Int) (i F a b : Nat) (acc : Int), m ≤ 10 → (sg = 1 ∨ sg = -1) → (∀ k, F.testBit k = true → okP P k) → -60 * (10 - (m : Int)) ≤ acc → acc ≤ 60 * (10 - (m : Int)) → (∀ j, j < 9 ^ m → X (i * 9 ^ m + j) = lef P m sg F a b acc j) → upU X m sg i = acc + sg * gam P m F a b := by
  intro m
  induction m with
  | zero =>
    intro sg i F a b acc _ _ _ _ _ h
    have := h 0 (by decide)
    rw [Nat.pow_zero, Nat.mul_one] at this
    show X i = acc + sg * 0
    rw [Int.mul_zero, Int.add_zero]
    exact this
  | succ m ih =>
    intro sg i F a b acc hm10 hsg hF ha1 ha2 h
    have hsg2 : -sg = 1 ∨ -sg = -1 := by omega
    have hh : ∀ d, d ≤ 8 → ∀ j, j < 9 ^ m → X ((9 * i + d) * 9 ^ m + j) = if 8 ≤ d then lef P m (-sg) F b a acc j else if F.testBit d && (hm P d &&& a == 0) then lef P m (-sg) (F ^^^ (F &&& 2 ^ d)) b (a ||| hm P d) (acc + sg * wz P d) j else -1000000 := by
      intro d hd j hj
      have q := h (d * 9 ^ m + j) (by rw [Nat.pow_succ]; exact dg_3 hd hj)
      rw [Nat.pow_succ, dg_2, lef_s, (dg_1 hj).1, (dg_1 hj).2] at q
      exact q
    refine cmb_gam (P := P) hsg (by omega) (by omega) (by omega) hF ?_ ?_
    · refine ih (-sg) (9 * i + 8) F b a acc (by omega) hsg2 hF (by omega) (by omega) (fun j hj => ?_)
      rw [hh 8 (by omega) j hj, if_pos (by omega)]
    · intro d hd
      by_cases c : F.testBit d && (hm P d &&& a == 0)
      · rw [if_pos c]
        have hk : F.testBit d = true := by simp at c; exact c.1
        have hw := wz_bd (hF d hk)
        refine ih (-sg) (9 * i + d) _ b (a ||| hm P d) (acc + sg * wz P d) (by omega) hsg2 (rmv_ok hF) ?_ ?_ (fun j hj => ?_)
        · rcases hsg with rfl | rfl <;> omega
        · rcases hsg with rfl | rfl <;> omega
        · rw [hh d (by omega) j hj, if_neg (by omega), if_pos c]
      · rw [if_neg c]
        refine up_bad m (-sg) (9 * i + d) (fun j hj => ?_)
        rw [hh d (by omega) j hj, if_neg (by omega), if_neg c]
theorem lef_bd {P : PD} : ∀ (m : Nat) (sg : Int) (F a b : Nat) (acc : Int) (j : Nat), m ≤ 10 → (sg = 1 ∨ sg = -1) → (∀ k, F.testBit k = true → okP P k) → -60 * (10 - (m : Int)) ≤ acc → acc ≤ 60 * (10 - (m : Int)) → -1000000 ≤ lef P m sg F a b acc j ∧ lef P m sg F a b acc j ≤ 1000000 := by
  intro m
  induction m with
  | zero =>
    intro sg F a b acc j _ _ _ lh1 lh2
    show -1000000 ≤ acc ∧ acc ≤ 1000000
    omega
  | succ m ih =>
    intro sg F a b acc j hm10 hsg hF lh1 lh2
    have hsg2 : -sg = 1 ∨ -sg = -1 := by omega
    rw [lef_s]
    split
    · exact ih _ _ _ _ _ _ (by omega) hsg2 hF (by omega) (by omega)
    · split
      · rename_i c
        have hk : F.testBit (j / 9 ^ m) = true := by simp at c; exact c.1
        have hw := wz_bd (hF _ hk)
        refine ih _ _ _ _ _ _ (by omega) hsg2 (rmv_ok hF) ?_ ?_
        · rcases hsg with rfl | rfl <;> omega
        · rcases hsg with rfl | rfl <;> omega
      · omega
theorem cmb_bd {sg : Int} {v : Nat → Int} (h : ∀ d, -1000000 ≤ v d ∧ v d ≤ 1000000) (k : Nat) : -1000000 ≤ cmb sg v k ∧ cmb sg v k ≤ 1000000 := by
  induction k with
  | zero => exact h 8
  | succ k ih =>
    rw [cmb_s]
    split
    · exact ih
    · split
      · exact h k
      · exact ih
theorem up_bd {X : Nat → Int} (h : ∀ d, -1000000 ≤ X d ∧ X d ≤ 1000000) : ∀ (m : Nat) (sg : Int) (i : Nat), -1000000 ≤ upU X m sg i ∧ upU X m sg i ≤ 1000000 := by
  intro m
  induction m with
  | zero => intro sg i; exact h i
  | succ m ih => intro sg i; exact cmb_bd (fun d => ih (-sg) (9 * i + d)) 8
