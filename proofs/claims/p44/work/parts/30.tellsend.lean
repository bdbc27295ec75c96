/-! 30: the law's telling, pin by pin -/
section TE
variable {L k f fu : Nat} {xs : Nat → Int32} {M : Mem}
set_option maxHeartbeats 1000000 in
theorem tl_pin (hL : L ≤ 260) (hk : k < (tlP L xs).1) (hT : TL (tlP L xs) (tlA L xs) k M) : ∃ M', f9_tells_28_S_47_48_88 L xs fu (f + 1) (nI (tlA L xs k)) (nI k) M = f9_tells_28_S_47_48_88 L xs fu f (nI (tlA L xs (k + 1))) (nI (k + 1)) M' ∧ TL (tlP L xs) (tlA L xs) (k + 1) M' := by
  obtain ⟨t1, t2, t3, t4, t5, t6⟩ := hT
  have hn := tlP_n L xs
  have hA := tlA_b L xs k
  obtain ⟨o1, o2, o3, o4, o5, o6⟩ := tlP_ok L xs k
  have hx : f9_cell_S L xs M ((1 : Int32) + nI k) = some (cv L xs (1 + k)) := by
    rw [show (1 : Int32) + nI k = nI (1 + k) from nI_add 1 k]
    exact cv_s hL (by omega) M
  have p6 : f9_part (cv L xs (1 + k)) (6 : Int32) = some (nI (kd (tlP L xs) k)) := partV_s _ (n := 6) (by omega) (by omega)
  have p24 : f9_part (cv L xs (1 + k) >>> ((24 : Int32) &&& 31)) (2 : Int32) = some (nI (partV (sx (cv L xs (1 + k)) 24) 2)) := partV_s _ (n := 2) (by omega) (by omega)
  have p3 : ∀ m : Nat, m = plm (cv L xs (1 + k)) → f9_part (cv L xs (1 + k) >>> ((3 : Int32) &&& 31)) (nI m) = some (nI (pl (tlP L xs) k)) := by
    intro m hm
    rcases plm_b (cv L xs (1 + k)) with e | e
    · subst hm
      exact partV_s _ (n := plm (cv L xs (1 + k))) (by omega) (by omega)
    · subst hm
      exact partV_s _ (n := plm (cv L xs (1 + k))) (by omega) (by omega)
  have p7 : f9_part (cv L xs (1 + k) >>> ((7 : Int32) &&& 31)) (10 : Int32) = some (nI (hr (tlP L xs) k)) := partV_s _ (n := 10) (by omega) (by omega)
  have p11 : ∃ r8 : Int32, f9_part (cv L xs (1 + k) >>> ((11 : Int32) &&& 31)) (4 : Int32) = some r8 ∧ (1 : Int32) + r8 = nI (ln (tlP L xs) k) := ⟨_, partV_s _ (n := 4) (by omega) (by omega), nI_add 1 _⟩
  have p13 : f9_part (cv L xs (1 + k) >>> ((13 : Int32) &&& 31)) (10 : Int32) = some (nI (lk (tlP L xs) k)) := partV_s _ (n := 10) (by omega) (by omega)
  have p20 : f9_part (cv L xs (1 + k) >>> ((20 : Int32) &&& 31)) (3 : Int32) = some (nI (partV (sx (cv L xs (1 + k)) 20) 3)) := partV_s _ (n := 3) (by omega) (by omega)
  have hAs := tlA_s L xs k
  have hv20 : partV (sx (cv L xs (1 + k)) 20) 3 < 3 := partV_lt _ (by omega)
  have hdr : txF (tlP L xs) (tlA L xs) (k + 1) = _ := txF_s (tlP L xs) (tlA L xs) k
  have hbl : ∀ i, tlA L xs k ≤ i → i < 60 → txF (tlP L xs) (tlA L xs) k i = nI 32 := by
    intro i h1 h2
    rw [txF_o k (fun j hj => Or.inr (by
      have := tlA_m L xs k hj
      omega))]
    exact if_pos h2
  generalize tlP L xs = P at *
  generalize partV (sx (cv L xs (1 + k)) 20) 3 = v20 at *
  generalize hA1 : tlA L xs (k + 1) = a1 at *
  generalize hAe : tlA L xs = A at *
  generalize cv L xs (1 + k) = x at *
  obtain ⟨r8, q8, q9⟩ := p11
  have e1 : (1 : Int32) + nI k = nI (1 + k) := nI_add 1 k
  have e9 : (9 : Int32) + nI k = nI (9 + k) := nI_add 9 k
  have e17 : (17 : Int32) + nI k = nI (17 + k) := nI_add 17 k
  have e25 : (25 : Int32) + nI k = nI (25 + k) := nI_add 25 k
  obtain ⟨N0, h0⟩ : ∃ y, y = sI M 47 (1 + k) (nI (kd P k)) := ⟨_, rfl⟩
  obtain ⟨N1, h1⟩ : ∃ y, y = sI N0 48 (1 + k) (nI (pl P k)) := ⟨_, rfl⟩
  obtain ⟨N2, h2⟩ : ∃ y, y = sI N1 47 (9 + k) (nI (hr P k)) := ⟨_, rfl⟩
  obtain ⟨N3, h3⟩ : ∃ y, y = sI N2 47 (17 + k) (nI (ln P k)) := ⟨_, rfl⟩
  obtain ⟨N4, h4⟩ : ∃ y, y = sI N3 47 (25 + k) (nI (lk P k)) := ⟨_, rfl⟩
  obtain ⟨N5, h5⟩ : ∃ y, y = sI N4 19 (A k) (nI (letN (kd P k))) := ⟨_, rfl⟩
  obtain ⟨N6, h6⟩ : ∃ y, y = sI N5 19 (A k + 1) (nI (48 + pl P k)) := ⟨_, rfl⟩
  obtain ⟨N7, h7⟩ : ∃ y, y = sI N6 19 (A k + 2) (nI (48 + hr P k)) := ⟨_, rfl⟩
  obtain ⟨N8, h8⟩ : ∃ y, y = sI N7 19 (A k + 3) (nI (48 + ln P k)) := ⟨_, rfl⟩
  obtain ⟨N9, h9⟩ : ∃ y, y = sI N8 19 (A k + 4) (nI (48 + lk P k)) := ⟨_, rfl⟩
  have w0 : wr M 47 33 (nI (1 + k)) (nI (kd P k)) = some N0 := by rw [wr_n (by omega) (by omega), h0]
  have w1 : wr N0 48 9 (nI (1 + k)) (nI (pl P k)) = some N1 := by rw [wr_n (by omega) (by omega), h1]
  have w2 : wr N1 47 33 (nI (9 + k)) (nI (hr P k)) = some N2 := by rw [wr_n (by omega) (by omega), h2]
  have w3 : wr N2 47 33 (nI (17 + k)) (nI (ln P k)) = some N3 := by rw [wr_n (by omega) (by omega), h3]
  have w4 : wr N3 47 33 (nI (25 + k)) (nI (lk P k)) = some N4 := by rw [wr_n (by omega) (by omega), h4]
  have f4q : ∀ q, q ≠ 47 → q ≠ 48 → N4.1 q = M.1 q := fun q a b => by rw [h4, g2 a, h3, g2 a, h2, g2 a, h1, g2 b, h0, g2 a]
  have f9q : ∀ q, q ≠ 19 → N9.1 q = N4.1 q := fun q a => by rw [h9, g2 a, h8, g2 a, h7, g2 a, h6, g2 a, h5, g2 a]
  have v13 : rd N4 47 33 (nI (1 + k)) = some (nI (kd P k)) := by
    rw [rd_n (by omega) (by omega), h4, g3 (by omega), h3, g3 (by omega), h2, g3 (by omega), h1, g2 (by omega), h0, g1]
  have v19 : rd N5 48 9 (nI (1 + k)) = some (nI (pl P k)) := by
    rw [rd_n (by omega) (by omega), h5, g2 (by omega), h4, g2 (by omega), h3, g2 (by omega), h2, g2 (by omega), h1, g1]
  have v23 : rd N6 47 33 (nI (9 + k)) = some (nI (hr P k)) := by
    rw [rd_n (by omega) (by omega), h6, g2 (by omega), h5, g2 (by omega), h4, g3 (by omega), h3, g3 (by omega), h2, g1]
  have v27 : rd N7 47 33 (nI (17 + k)) = some (nI (ln P k)) := by
    rw [rd_n (by omega) (by omega), h7, g2 (by omega), h6, g2 (by omega), h5, g2 (by omega), h4, g3 (by omega), h3, g1]
  have v31 : rd N8 47 33 (nI (25 + k)) = some (nI (lk P k)) := by
    rw [rd_n (by omega) (by omega), h8, g2 (by omega), h7, g2 (by omega), h6, g2 (by omega), h5, g2 (by omega), h4, g1]
  have z4 : N4.1 9 0 = nI 60 := by rw [f4q 9 (by omega) (by omega)]; exact t1
  have x4 : ∀ i, A k ≤ i → i < 60 → N4.1 19 i = nI 32 := fun i a b => by rw [f4q 19 (by omega) (by omega), t2]; exact hbl i a b
  have lb := letN_b (kd P k)
  have b5 : f9_byte0_28 (nI (A k)) (nI (letN (kd P k))) N4 = some (N5, nI (A k + 1)) := by
    rw [h5]; exact put_s z4 (by omega) lb.2 (x4 _ (by omega) (by omega))
  have b6 : f9_byte0_28 (nI (A k + 1)) ((48 : Int32) + nI (pl P k)) N5 = some (N6, nI (A k + 1 + 1)) := by
    rw [show (48 : Int32) + nI (pl P k) = nI (48 + pl P k) from nI_add 48 _, h6]
    refine put_s (by rw [h5, g2 (by omega)]; exact z4) (by omega) (by omega) ?_
    rw [h5, g3 (by omega)]
    exact x4 _ (by omega) (by omega)
  have b7 : f9_byte0_28 (nI (A k + 1 + 1)) ((48 : Int32) + nI (hr P k)) N6 = some (N7, nI (A k + 2 + 1)) := by
    rw [show (48 : Int32) + nI (hr P k) = nI (48 + hr P k) from nI_add 48 _, h7]
    refine put_s (i := A k + 2) (by rw [h6, g2 (by omega), h5, g2 (by omega)]; exact z4) (by omega) (by omega) ?_
    rw [h6, g3 (by omega), h5, g3 (by omega)]
    exact x4 _ (by omega) (by omega)
  have b8 : f9_byte0_28 (nI (A k + 2 + 1)) ((48 : Int32) + nI (ln P k)) N7 = some (N8, nI (A k + 3 + 1)) := by
    rw [show (48 : Int32) + nI (ln P k) = nI (48 + ln P k) from nI_add 48 _, h8]
    refine put_s (i := A k + 3) (by rw [h7, g2 (by omega), h6, g2 (by omega), h5, g2 (by omega)]; exact z4) (by omega) (by omega) ?_
    rw [h7, g3 (by omega), h6, g3 (by omega), h5, g3 (by omega)]
    exact x4 _ (by omega) (by omega)
  have b9 : f9_byte0_28 (nI (A k + 3 + 1)) ((48 : Int32) + nI (lk P k)) N8 = some (N9, nI (A k + 4 + 1)) := by
    rw [show (48 : Int32) + nI (lk P k) = nI (48 + lk P k) from nI_add 48 _, h9]
    refine put_s (i := A k + 4) (by rw [h8, g2 (by omega), h7, g2 (by omega), h6, g2 (by omega), h5, g2 (by omega)]; exact z4) (by omega) (by omega) ?_
    rw [h8, g3 (by omega), h7, g3 (by omega), h6, g3 (by omega), h5, g3 (by omega)]
    exact x4 _ (by omega) (by omega)
  have key : ∀ (m : Nat) (k88 : Int32 → Int32 → Mem → Option (Mem × Int32)), m = plm x → f9_tells_28_S_47_48_146 L xs fu k88 x (nI (A k)) (nI k) (nI m) (x >>> ((3 : Int32) &&& 31)) ((1 : Int32) + nI k) N0 = k88 (nI a1) (nI (k + 1)) N9 := by
    intro m k88 hm
    unfold f9_tells_28_S_47_48_146
    rw [p3 m hm, bS, e1, w1, bS, p7, bS, e9, w2, bS, q8, bS, e17, q9, w3, bS, p13, bS, e25, w4, bS, v13, bS, letter_s o1, bS, b5, bS]
    dsimp only
    rw [v19, bS, b6, bS]
    dsimp only
    rw [v23, bS, b7, bS]
    dsimp only
    rw [v27, bS, b8, bS]
    dsimp only
    rw [v31, bS, b9, bS]
    dsimp only
    rw [p20, bS]
    by_cases c : v20 = 0
    · rw [if_pos (show nI v20 = (0 : Int32) by rw [c]; rfl), nm_u, nm_u, ad1]
      rw [if_pos c] at hAs
      rw [show nI (A k + 4 + 1) + (2 : Int32) = nI a1 by rw [show (2 : Int32) = nI 2 from rfl, nI_add, hAs]]
    · rw [if_neg (show ¬ nI v20 = (0 : Int32) from fun q => c (by
        rw [show (0 : Int32) = nI 0 from rfl, neq (by omega) (by omega)] at q
        exact q)), nm_u, nm_u, ad1]
      rw [if_neg c] at hAs
      rw [show nI (A k + 4 + 1) + (0 : Int32) = nI a1 by rw [show (0 : Int32) = nI 0 from rfl, nI_add, hAs]]
  refine ⟨N9, ?_, ?_⟩
  · have t0 : ¬ nI P.1 ≤ nI k := by rw [nle (by omega) (by omega)]; omega
    have r0 : rd M 47 33 (0 : Int32) = some (nI P.1) := by
      rw [show (0 : Int32) = nI 0 from rfl, rd_n (by omega) (by omega), t3]
    rw [f9_tells_28_S_47_48_88]
    dsimp only
    rw [r0, bS, if_neg t0, hx, bS, p6, bS, e1, w0, bS, p24, bS, ← e1]
    by_cases c : partV (sx x 24) 2 = 0
    · rw [if_pos (show nI (partV (sx x 24) 2) = (0 : Int32) by rw [c]; rfl)]
      exact key 10 _ (by unfold plm; rw [if_pos c])
    · rw [if_neg (show ¬ nI (partV (sx x 24) 2) = (0 : Int32) from fun q => c (by
        have := partV_lt (sx x 24) (n := 2) (by omega)
        rw [show (0 : Int32) = nI 0 from rfl, neq (by omega) (by omega)] at q
        exact q))]
      exact key 4 _ (by unfold plm; rw [if_neg c])
  · refine ⟨by rw [f9q 9 (by omega)]; exact z4, ?_, ?_, fun j hj => ?_, fun q a b c d => by rw [f9q q b, f4q q c d]; exact t5 q a b c d, by rw [h9, g4, h8, g4, h7, g4, h6, g4, h5, g4, h4, g4, h3, g4, h2, g4, h1, g4, h0, g4]; exact t6⟩
    · rw [hdr, ← t2, ← f4q 19 (by omega) (by omega)]
      rw [h9, h8, h7, h6, h5]
      simp [sI]
    · rw [f9q 47 (by omega), h4, g3 (by omega), h3, g3 (by omega), h2, g3 (by omega), h1, g2 (by omega), h0, g3 (by omega)]
      exact t3
    · rw [f9q 47 (by omega)]
      by_cases c : j = k
      · subst c
        exact ⟨by rw [h4, g3 (by omega), h3, g3 (by omega), h2, g3 (by omega), h1, g2 (by omega), h0, g1], by rw [h4, g1]⟩
      · obtain ⟨y1, y2⟩ := t4 j (by omega)
        exact ⟨by rw [h4, g3 (by omega), h3, g3 (by omega), h2, g3 (by omega), h1, g2 (by omega), h0, g3 (by omega)]; exact y1, by rw [h4, g3 (by omega), h3, g3 (by omega), h2, g3 (by omega), h1, g2 (by omega), h0, g3 (by omega)]; exact y2⟩
end TE
