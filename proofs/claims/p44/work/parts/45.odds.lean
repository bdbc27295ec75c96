/-! 45: the magnet's chances -/
section OD45
variable {P : PD} {s : Nat → Int32} {M : Mem} {fu k d c N V T E D p U v : Nat} {st : Nat → Nat → Int32}
variable {L e f : Nat} {xs : Nat → Int32} {x5 x6 x7 x8 x9 x10 x11 x12 x13 x14 x15 x17 : Int32}
theorem mul64 {a b : Int64} {A B : Nat} (ha : a.toInt = (A : Int)) (hb : b.toInt = (B : Int)) (h : A * B < 4611686018427387904) : (a * b).toInt = ((A * B : Nat) : Int) := by
  rw [Int64.toInt_mul, ha, hb, ← Int.natCast_mul]
  exact Int.bmod_eq_of_le (by omega) (by omega)
theorem n_lt0 {a b : Int64} {A B : Nat} (ha : a.toInt = (A : Int)) (hb : b.toInt = (B : Int)) (h : B ≤ A) : ¬ lg_cmp a b < 0 := by
  rw [lg_cmp_lt, Int64.lt_iff_toInt_lt, ha, hb]
  omega
theorem n_gt0 {a b : Int64} {A B : Nat} (ha : a.toInt = (A : Int)) (hb : b.toInt = (B : Int)) (h : A ≤ B) : ¬ 0 < lg_cmp a b := by
  rw [lg_cmp_gt, Int64.lt_iff_toInt_lt, ha, hb]
  omega
theorem y_le0 {a b : Int64} {A B : Nat} (ha : a.toInt = (A : Int)) (hb : b.toInt = (B : Int)) (h : A ≤ B) : lg_cmp a b ≤ 0 := by
  rw [lg_cmp_le, Int64.le_iff_toInt_le, ha, hb]
  omega
theorem y_eq0 {a b : Int64} {A B : Nat} (ha : a.toInt = (A : Int)) (hb : b.toInt = (B : Int)) (h : A = B) : lg_cmp a b = 0 := by
  rw [lg_cmp_eq]
  exact Int64.toInt_inj.mp (by rw [ha, hb, h])
theorem o0 : (0 : Int64).toInt = ((0 : Nat) : Int) := by decide
theorem o1 : (1 : Int64).toInt = ((1 : Nat) : Int) := by decide
/-- a fraction, in natural numbers -/
theorem frc_n {md : Option Nat} {x y : Int64} (hP : GC P M) (h : frc P s md p x y) : ∃ X Y G, x.toInt = ((X : Nat) : Int) ∧ y.toInt = ((Y : Nat) : Int) ∧ 0 < G ∧ 0 < Y ∧ Y ≤ 429981696 ∧ msN P md (hB P s) (lB P s) p (2 ^ P.1) = X * G ∧ PW (lB P s) P.1 = Y * G := by
  obtain ⟨w1, w2⟩ := PW_bd (L := lB P s) hP
  obtain ⟨h1, h2⟩ := h
  have g0 : 0 < Nat.gcd (PW (lB P s) P.1) (msN P md (hB P s) (lB P s) p (2 ^ P.1)) := Nat.gcd_pos_of_pos_left _ w1
  have dl := Nat.gcd_dvd_left (PW (lB P s) P.1) (msN P md (hB P s) (lB P s) p (2 ^ P.1))
  have dr := Nat.gcd_dvd_right (PW (lB P s) P.1) (msN P md (hB P s) (lB P s) p (2 ^ P.1))
  refine ⟨_, _, _, h1, h2, g0, Nat.div_pos (Nat.le_of_dvd w1 dl) g0, ?_, (Nat.div_mul_cancel dr).symm, (Nat.div_mul_cancel dl).symm⟩
  exact Nat.le_trans (Nat.div_le_self _ _) w2
/-- nothing swept: the whole of it -/
theorem frc_c {md : Option Nat} {x y : Int64} {C : Nat} (hP : GC P M) (h : frc P s md p x y) (hc : msN P md (hB P s) (lB P s) p (2 ^ P.1) = PW (lB P s) P.1 * C) : x.toInt = (C : Int) ∧ y.toInt = ((1 : Nat) : Int) := by
  obtain ⟨w1, -⟩ := PW_bd (L := lB P s) hP
  obtain ⟨h1, h2⟩ := h
  have g : Nat.gcd (PW (lB P s) P.1) (msN P md (hB P s) (lB P s) p (2 ^ P.1)) = PW (lB P s) P.1 := by
    rw [hc]
    exact Nat.gcd_eq_left (Nat.dvd_mul_right _ _)
  rw [g, hc, Nat.mul_div_cancel_left _ w1] at h1
  rw [g, Nat.div_self w1] at h2
  exact ⟨h1, h2⟩
theorem fv_sL (i j : Nat) (x y : Int64) : FV M (sL (sL M 28 i x) 28 j y) := fun q _ => rfl
/-- the fraction that went before: no less than the next one's -/
def PI (P : PD) (s : Nat → Int32) (p v : Nat) (u l : Int64) : Prop := ∃ a b : Nat, u.toInt = (a : Int) ∧ l.toInt = (b : Int) ∧ a ≤ 429981696 ∧ b ≤ 429981696 ∧ msN P (some v) (hB P s) (lB P s) p (2 ^ P.1) * b ≤ a * PW (lB P s) P.1
theorem vl_le1 (md : Nat) (S : Nat) : vlN P (some md) S ≤ 1 := by
  show (if mx P S < (md : Int) then 0 else 1) ≤ 1
  split <;> omega
theorem PI_0 (hp : p ≤ 12) : PI P s p 0 (1 : Int64) (1 : Int64) := by
  refine ⟨1, 1, o1, o1, by omega, by omega, ?_⟩
  have := ms_le (P := P) (md := some 0) (H := hB P s) (L := lB P s) (c := 1) hp (fun S _ => vl_le1 0 S)
  omega
theorem odds_ok {u l x y : Int64} (h : St P s M) (hp : p ≤ 12) (hI : PI P s p v u l) (hf : frc P s (some v) p x y) : ∃ X Y : Nat, x.toInt = (X : Int) ∧ y.toInt = (Y : Int) ∧ 1 ≤ Y ∧ X ≤ Y ∧ (∃ A B : Nat, (x * l).toInt = (A : Int) ∧ (u * y).toInt = (B : Int) ∧ A ≤ B) ∧ PI P s p (v + 4) x y ∧ (v = 0 → X = Y) ∧ (mx P (tB P s) < (v : Int) → X = 0) := by
  have hP := h.1
  have h8 := hP.1
  have h256 := pow8 h8
  obtain ⟨X, Y, G, e1, e2, g0, y0, yb, eA, eB⟩ := frc_n hP hf
  obtain ⟨a, b, i1, i2, i3, i4, i5⟩ := hI
  have le1 := ms_le (P := P) (md := some v) (H := hB P s) (L := lB P s) (c := 1) hp (fun S _ => vl_le1 v S)
  rw [Nat.mul_one, eA, eB] at le1
  have xy : X ≤ Y := Nat.le_of_mul_le_mul_right le1 g0
  have cross : X * b ≤ a * Y := by
    rw [eA, eB] at i5
    have : (X * b) * G ≤ (a * Y) * G := by
      rw [Nat.mul_right_comm, Nat.mul_assoc a Y G]
      exact i5
    exact Nat.le_of_mul_le_mul_right this g0
  have b1 : X * b ≤ 429981696 * 429981696 := Nat.mul_le_mul (by omega) i4
  have b2 : a * Y ≤ 429981696 * 429981696 := Nat.mul_le_mul i3 yb
  refine ⟨X, Y, e1, e2, y0, xy, ⟨X * b, a * Y, mul64 e1 i2 (by omega), mul64 i1 e2 (by omega), cross⟩, ⟨X, Y, e1, e2, by omega, yb, ?_⟩, fun q => ?_, fun q => ?_⟩
  · have mono := ms_mono (P := P) (H := hB P s) (L := lB P s) (p := p) (md := some (v + 4)) (md' := some v) (fun S => by
      show (if mx P S < ((v + 4 : Nat) : Int) then 0 else 1) ≤ (if mx P S < (v : Int) then 0 else 1)
      split <;> split <;> omega)
    rw [eA] at mono
    rw [eB, ← Nat.mul_assoc, Nat.mul_right_comm]
    exact Nat.mul_le_mul_right Y mono
  · subst q
    have := ms_eq (P := P) (md := some 0) (H := hB P s) (L := lB P s) (c := 1) hp (fun S hS => by
      have hSlt : S < 2 ^ P.1 := sub_lt (Nat.or_lt_two_pow (msk_lt _ _) (msk_lt _ _)) hS
      have := mx_ge (P := P) (S := S) (by omega)
      show (if mx P S < ((0 : Nat) : Int) then 0 else 1) = 1
      rw [if_neg (by omega)])
    rw [Nat.mul_one, eA, eB] at this
    exact Nat.eq_of_mul_eq_mul_right g0 this
  · have := ms_eq (P := P) (md := some v) (H := hB P s) (L := lB P s) (c := 0) hp (fun S hS => by
      rw [tB_or h.2.1] at hS
      have hT : tB P s < 2 ^ P.1 := msk_lt _ _
      have := mx_mono (P := P) (S := S) (U := tB P s) (by omega) hS
      show (if mx P S < (v : Int) then 0 else 1) = 0
      rw [if_pos (by omega)])
    rw [Nat.mul_zero, eA] at this
    rcases Nat.mul_eq_zero.mp this with z | z
    · exact z
    · omega
theorem l2462_loop (hfu : 10000 ≤ fu) (hp : p ≤ 12) : ∀ (e v f : Nat) (u l : Int64) (M : Mem), v + 4 * e = 204 → e < f → KV P d st M → PI P (st d) p v u l → ∃ M' u' l' g, f9_law_2462 L xs fu f x5 x7 x8 x9 x10 x11 (zI (mx P (tB P (st d)))) (nI p) u l (nI v) M = f9_law_2462 L xs fu (g + 1) x5 x7 x8 x9 x10 x11 (zI (mx P (tB P (st d)))) (nI p) u' l' (nI 204) M' ∧ KV P d st M' := by
  intro e
  induction e with
  | zero =>
    intro v f u l M hv hf hV hI
    rcases f with _ | f
    · omega
    have : v = 204 := by omega
    subst this
    exact ⟨M, u, l, f, rfl, hV⟩
  | succ e ih =>
    intro v f u l M hv hf hV hI
    rcases f with _ | f
    · omega
    have h := hV.1.1
    have hP := h.1
    have h8 := hP.1
    have hok : ∀ k, k < P.1 → okP P k := fun k hk => (hP.2.2.2.1 k hk).1
    have hT : tB P (st d) < 2 ^ P.1 := msk_lt _ _
    have bM := mx_bdr h8 hok hT
    obtain ⟨x, y, o, hf1⟩ := odds_s (v := v) hfu h hp (by omega)
    obtain ⟨X, Y, e1, e2, y0, xy, ⟨A, B, m1, m2, m3⟩, hI2, h0, hbig⟩ := odds_ok h hp hI hf1
    have V1 : KV P d st (sL (sL M 28 7 x) 28 8 y) := hV.fv (fv_sL 7 8 x y)
    have up : f4_upper (sL (sL M 28 7 x) 28 8 y) = some x := by
      rw [upper_s]
      rfl
    have lo : f4_lower (sL (sL M 28 7 x) 28 8 y) = some y := by
      rw [lower_s, h2]
    generalize sL (sL M 28 7 x) 28 8 y = M1 at *
    obtain ⟨x', y', o', hf2⟩ := odds_s (v := v) (p := 0) hfu V1.1.1 (by omega) (by omega)
    have fc := frc_c (C := if mx P (tB P (st d)) < (v : Int) then 0 else 1) hP hf2 (by rw [ms_p0, tB_or h.2.1]; rfl)
    have o'' : f4_odds fu (nI v) (0 : Int32) M1 = _ := o'
    have V2 : KV P d st (sL (sL M1 28 7 x') 28 8 y') := V1.fv (fv_sL 7 8 x' y')
    have up2 : f4_upper (sL (sL M1 28 7 x') 28 8 y') = some x' := by
      rw [upper_s]
      rfl
    have lo2 : f4_lower (sL (sL M1 28 7 x') 28 8 y') = some y' := by
      rw [lower_s, h2]
    generalize sL (sL M1 28 7 x') 28 8 y' = M2 at *
    obtain ⟨M', u', l', g, a1, a2⟩ := ih (v + 4) f x y M2 (by omega) (by omega) V2 hI2
    refine ⟨M', u', l', g, ?_, a2⟩
    have l2604 : ∀ (C : Nat) (c : Int64), c.toInt = (C : Int) → x'.toInt = (C : Int) → f9_law_2604 L xs fu (f9_law_2462 L xs fu f) x5 x7 x8 x9 x10 x11 (zI (mx P (tB P (st d)))) (nI p) x y (nI v) c x' M2 = f9_law_2462 L xs fu (g + 1) x5 x7 x8 x9 x10 x11 (zI (mx P (tB P (st d)))) (nI p) u' l' (nI 204) M' := by
      intro C c hc hx
      have e6 : nI v + (4 : Int32) = nI (v + 4) := nI_add v 4
      unfold f9_law_2604
      rw [if_pos (y_eq0 hx hc rfl), lo2, bS, if_pos (y_eq0 fc.2 o1 rfl), nm_u, e6]
      exact a1
    have cmpv : (zI (mx P (tB P (st d))) < nI v) = (mx P (tB P (st d)) < (v : Int)) := by
      rw [nI_z, zlt (by omega) (by omega) (by omega) (by omega)]
    have cmpv2 : (nI v ≤ zI (mx P (tB P (st d)))) = ((v : Int) ≤ mx P (tB P (st d))) := by
      rw [nI_z, zle (by omega) (by omega) (by omega) (by omega)]
    have l2565 : f9_law_2565 L xs fu (f9_law_2462 L xs fu f) x5 x7 x8 x9 x10 x11 (zI (mx P (tB P (st d)))) (nI p) (nI v) M1 = f9_law_2462 L xs fu (g + 1) x5 x7 x8 x9 x10 x11 (zI (mx P (tB P (st d)))) (nI p) u' l' (nI 204) M' := by
      unfold f9_law_2565
      rw [up, bS, lo, bS, o'', bS]
      dsimp only
      rw [if_pos (show nI 1 = (1 : Int32) from rfl), up2, bS]
      by_cases c : mx P (tB P (st d)) < (v : Int)
      · rw [if_pos (by rw [cmpv]; exact c)]
        have q := fc.1
        rw [if_pos c] at q
        exact l2604 0 0 o0 q
      · rw [if_neg (by rw [cmpv]; exact c)]
        have q := fc.1
        rw [if_neg c] at q
        exact l2604 1 1 o1 q
    have l2547 : f9_law_2547 L xs fu (f9_law_2462 L xs fu f) x5 x7 x8 x9 x10 x11 (zI (mx P (tB P (st d)))) (nI p) (nI v) M1 = f9_law_2462 L xs fu (g + 1) x5 x7 x8 x9 x10 x11 (zI (mx P (tB P (st d)))) (nI p) u' l' (nI 204) M' := by
      unfold f9_law_2547
      by_cases c : (v : Int) ≤ mx P (tB P (st d))
      · rw [if_pos (by rw [cmpv2]; exact c)]
        exact l2565
      · have z := hbig (by omega)
        rw [if_neg (by rw [cmpv2]; exact c), up, bS, if_pos (y_eq0 e1 o0 z)]
        exact l2565
    rw [f9_law_2462]
    dsimp only
    rw [if_neg (show ¬ (201 : Int32) ≤ nI v from le_f (a := 201) (by omega) (by omega) (by omega)), o, bS]
    dsimp only
    rw [if_pos (show nI 1 = (1 : Int32) from rfl), up, bS, if_neg (n_lt0 e1 o0 (by omega)), lo, bS, if_neg (n_lt0 e2 o1 (by omega)), bS, bS, if_neg (n_gt0 e1 e2 xy), bS, bS, if_neg (n_gt0 m1 m2 m3)]
    by_cases v0 : v = 0
    · have q := h0 v0
      rw [if_pos (show nI v = (0 : Int32) by rw [v0]; rfl), bS, bS, if_pos (y_eq0 e1 e2 q)]
      exact l2547
    · rw [if_neg (ne_0 (by omega) v0)]
      exact l2547
end OD45
