theorem va_P_left {D : va_G} {cl : List vw_C} {w1 w2 : va_W} {H : Heap} (h : va_P D cl (w1 ++ w2) H) : va_P D cl w1 H := fun k q hq => h k q (by
  rw [List.getElem?_append_left (List.getElem?_eq_some_iff.mp hq).1]; exact hq)
theorem va_P_right {D : va_G} {cl : List vw_C} {w1 w2 : va_W} {H : Heap} (h : va_P D cl (w1 ++ w2) H) : va_P D cl w2 H := fun k q hq => h (w1.length + k) q (by
  rw [List.getElem?_append_right (by omega)]; simpa using hq)
theorem wsM_cA {ad : Nat → Nat} {cA : Nat → ClassId} {cI : ClassId} {M : Mem} (h : cA 0 = cI) : wsOf layM ad (fun _ => cI) M = wsOf layM ad cA M := by
  rw [wsOf_from, wsOf_from]
  simp [layM, wsFrom, cellOf, fv, h]
theorem inj_of {lay : List Kd} {ad : Nat → Nat} {cA : Nat → ClassId} {M : Mem} {A : Nat → Prop} (h : va_D A (wsOf lay ad cA M)) : Inj lay ad := by
  intro i j hi hj e
  exact h.1 i j _ _ (wsOf_get (List.getElem?_eq_getElem hi)) (wsOf_get (List.getElem?_eq_getElem hj)) e
theorem AA_in {lay : List Kd} {ad : Nat → Nat} {cA : Nat → ClassId} {M : Mem} {A : Nat → Prop} (h : va_D A (wsOf lay ad cA M)) {q : Nat} (hq : AA lay ad q) : A q := by
  obtain ⟨k, hk, rfl⟩ := hq
  exact h.2 k _ (wsOf_get (List.getElem?_eq_getElem hk))
set_option maxHeartbeats 8000000 in
set_option maxRecDepth 100000 in
theorem whole_start_open {p : Program} {e : Env} {s : State} {m : MethodId} {below : List Frame} {meth : Method} {c : Code} (l : Launch) {b L : Nat} {xs : Nat → Int32} (hL : L ≤ 3072) (C0 : lw_At p s m meth c b L xs) {fu : Nat} {Rel : Mem → Mem → Prop} (hs : Sims fu Rel) (h0 : Rel mc0 mm0) : W p l e room_1 s m #[Value.ref b] below meth c s.heap [] 0 0 (lw_Z below #[Value.ref b] s) (entryFrame m ([Value.ref b] : List Value).toArray 4) := by
  obtain ⟨hx, hb, hr, hml, hown, hts1, hX, hbl, hlocks, hgv⟩ := id C0
  have hts : ∀ w ∈ lw_good, w.before #[Value.ref b] s = true := fun w hw => hts1 w (good_sub w hw)
  have hA : ∀ q : Nat, s.heap.size ≤ q → A0 s q := fun _ h => h
  have hnA : ∀ a : Nat, a < s.heap.size → ¬ A0 s a := fun a h1 h2 => Nat.not_le.mpr h1 h2
  obtain ⟨c0, iS0, hKn0⟩ := u_known (C := RX0) (T := TX0) (N := 2) (n := 2) hts inX0 (hts _ (good_at 172 (by decide +kernel) rfl))
  obtain ⟨c1, iS1, hKn1⟩ := u_known (C := RX1) (T := TX1) (N := 2) (n := 2) hts inX1 (hts _ (good_at 133 (by decide +kernel) rfl))
  obtain ⟨c2, iS2, hKn2⟩ := u_known (C := RX2) (T := TX2) (N := 12) (n := 12) hts inX2 (hts _ (good_at 76 (by decide +kernel) rfl))
  obtain ⟨c3, iS3, hKn3⟩ := u_known (C := RX3) (T := TX3) (N := 6) (n := 6) hts inX3 (hts _ (good_at 70 (by decide +kernel) rfl))
  obtain ⟨c4, iS4, hKn4⟩ := u_known (C := RX4) (T := TX4) (N := 9) (n := 9) hts inX4 (hts _ (good_at 58 (by decide +kernel) rfl))
  obtain ⟨c5, iS5, hKn5⟩ := u_known (C := RX5) (T := TX5) (N := 27) (n := 27) hts inX5 (hts _ (good_at 663 (by decide +kernel) rfl))
  obtain ⟨dC, dI, hKc⟩ : ∃ (dC : Nat → ClassId) (dI : Nat → Nat → Nat), ∀ (k : Nat) (q : vw_C), vwCl[k]? = some q → u_Kn s q.1 q.2.1 q.2.2 (dC k) (dI k) := by
    refine ⟨fun k => match k with | 0 => c0 | 1 => c1 | 2 => c2 | 3 => c3 | 4 => c4 | _ => c5, fun k => match k with | 0 => iS0 | 1 => iS1 | 2 => iS2 | 3 => iS3 | 4 => iS4 | _ => iS5, ?_⟩
    intro k q hq
    match k, hq with
    | 0, hq => cases hq; exact hKn0
    | 1, hq => cases hq; exact hKn1
    | 2, hq => cases hq; exact hKn2
    | 3, hq => cases hq; exact hKn3
    | 4, hq => cases hq; exact hKn4
    | 5, hq => cases hq; exact hKn5
    | k + 6, hq => simp [vwCl] at hq
  have hNW : NW s := by
    intro q hq
    simp only [nestWords, List.mem_cons, List.not_mem_nil, or_false] at hq
    rcases hq with rfl | rfl | rfl | rfl | rfl
    · exact va_Nw.of rfl (hts1 _ (List.mem_of_getElem? (i := 134) (by decide +kernel)))
    · exact va_Nw.of rfl (hts1 _ (List.mem_of_getElem? (i := 173) (by decide +kernel)))
    · exact va_Nw.of rfl (hts1 _ (List.mem_of_getElem? (i := 187) (by decide +kernel)))
    · exact va_Nw.of rfl (hts1 _ (List.mem_of_getElem? (i := 330) (by decide +kernel)))
    · exact va_Nw.of rfl (hts1 _ (List.mem_of_getElem? (i := 642) (by decide +kernel)))
  have hNA : NA s := ⟨hNW, va_AO.of (hts1 _ (List.mem_of_getElem? (i := 66) (by decide +kernel))), va_AO.of (hts1 _ (List.mem_of_getElem? (i := 68) (by decide +kernel)))⟩
  have hq := flat_of_before _ hgv
  obtain ⟨t, ht, hT⟩ : ∃ t : Nat, (Jvm.Term.static "PinDuties" "LETTERS" "[I").eval #[Value.ref b] s none [] s = some (.ref t) ∧ va_T .int t 6 (fun j => .int (letF j)) (A0 s) s s.heap := by
    refine va_Tof (N := 6) (f := fun j => .int (letF j)) (by decide) (hq _ (by decide +kernel)) (va_eqt (hq _ (by decide +kernel))) (fun j hj => ?_) hnA
    rcases (show j = 0 ∨ j = 1 ∨ j = 2 ∨ j = 3 ∨ j = 4 ∨ j = 5 by omega) with rfl | rfl | rfl | rfl | rfl | rfl
    · exact va_eqt (hq _ (by decide +kernel))
    · exact va_eqt (hq _ (by decide +kernel))
    · exact va_eqt (hq _ (by decide +kernel))
    · exact va_eqt (hq _ (by decide +kernel))
    · exact va_eqt (hq _ (by decide +kernel))
    · exact va_eqt (hq _ (by decide +kernel))
  have hZ := va_Zref (C := "PinDuties") (n := "LETTERS") (d := "[I") (A := A0 s) (hts1 _ (List.mem_of_getElem? (i := 316) (by decide +kernel))) (hts1 _ (List.mem_of_getElem? (i := 48) (by decide +kernel))) ht hnA
  have hS : va_S (A0 s) s.heap s.heap [] := va_S.rf
  have hK : va_K (dC, dI) vwCl [] s := ⟨hKc, fun k q h => by simp at h⟩
  have hP : va_P (dC, dI) vwCl [] s.heap := fun k q h => by simp at h
  have hD : va_D (A0 s) [] := ⟨fun i j p q h => by simp at h, fun k q h => by simp at h⟩
  have hl := lv_entry ([.ref b]) (n := 4) (Nat.le_of_ble_eq_true rfl)
  rw [lg_entry_eq]
  generalize (lg_sl ([.ref b]) ++ List.replicate (4 - (lg_sl ([.ref b])).length) Slot.unset).toArray = ls at hl ⊢
  have hl : lv_has ls 4 [(0, .ref b)] := hl
  refine va_new (ci := 4) (fs := [.null, .null, .null, .null, .null, .int 0, .int 0, .long 0, .long 0]) (C := RX4) (T := TX4) (N := 9) hx hb hts inX4 tyX4 tyX4_ok hown (hts _ (good_at 57 (by decide +kernel) rfl)) (hts _ (good_at 58 (by decide +kernel) rfl)) (hts _ (good_at 48 (by decide +kernel) rfl)) hK hP hD hS hA rfl (fun j hj => by rcases (show j = 0 ∨ j = 1 ∨ j = 2 ∨ j = 3 ∨ j = 4 ∨ j = 5 ∨ j = 6 ∨ j = 7 ∨ j = 8 by omega) with rfl | rfl | rfl | rfl | rfl | rfl | rfl | rfl | rfl <;> rfl) (Nat.le_of_ble_eq_true rfl) (Nat.le_of_ble_eq_true rfl) dL_law_0 (fun q0v H hP hD hS => ?_)
  have hP : va_P (dC, dI) vwCl [(q0v, .inr (4, [.null, .null, .null, .null, .null, .int 0, .int 0, .long 0, .long 0]))] H := hP
  have hD : va_D (A0 s) [(q0v, .inr (4, [.null, .null, .null, .null, .null, .int 0, .int 0, .long 0, .long 0]))] := hD
  refine W.widen (k := 1) (n := 9) (by omega) (by omega) ?_
  refine lv_dup hx hb dL_law_3 rfl ?_
  have hFc := va_free (wc := [(q0v, .inr (4, [.null, .null, .null, .null, .null, .int 0, .int 0, .long 0, .long 0]))]) hD hS hA [0] rfl
  refine va_callv (va_runI (As := []) (rest := [.ref q0v]) ⟨hx, hb, hml, hown, hts⟩ (ci4_init l (dC, dI) q0v H.size) ⟨callB_of 0 hts (good_wsC (good_at 61 (by decide +kernel) rfl)) rfl rfl rfl (hts _ (good_at 48 (by decide +kernel) rfl)) (hts _ (good_at 59 (by decide +kernel) rfl)) ⟨by decide +kernel, by decide +kernel, by decide +kernel⟩ ⟨Nat.le_of_ble_eq_true rfl, Nat.le_of_ble_eq_true rfl⟩, rfl, (hts _ (good_at 60 (by decide +kernel) rfl))⟩ ⟨blindN, fun U hU hW => ⟨rfl, by rw [hU], by rw [hU]; exact hP, va_K.moved hW.alike hK, hD.weaken (fun _ _ _ _ => trivial), NA.warm hW hNA⟩⟩ rfl rfl hl.1 rfl (lv_room (Nat.le_of_ble_eq_true rfl)) dL_law_4 ⟨Nat.le_of_ble_eq_true rfl, Nat.le_of_ble_eq_true rfl⟩) hS (fun q _ h => hFc q h) hFc (fun u t1 H1 locs ht1 hvm hw hB hz1 hk1 hS => ?_)
  obtain ⟨aC, cA, haC, hPC, hKC, hDC⟩ := hB
  subst haC
  rw [ht1] at hPC
  have hKC := va_K.moved hvm.symm hKC
  have hDC : va_D (A0 s) (wsOf layC aC cA mc0) := hDC.weaken (fun k q _ h => hFc q.1 h)
  clear hk1 hz1 hFc hP hD ht1
  generalize H1 = H at hPC hS ⊢
  refine W.widen (k := 47) (n := 1922) (by omega) (by omega) ?_
  refine lv_astore_n (lv' := [(1, .ref (aC 28)), (0, .ref b)]) hx hb dL_law_7 rfl hl (by decide) rfl (fun ls hl => ?_)
  refine va_new (ci := 5) (fs := [.null, .null, .null, .null, .int 0, .long 0, .long 0, .int 0, .null, .int 0, .null, .null, .null, .null, .null, .null, .int 0, .null, .int 0, .int 0, .int 0, .int 0, .int 0, .null, .int 0, .null, .null]) (C := RX5) (T := TX5) (N := 27) hx hb hts inX5 tyX5 tyX5_ok hown (hts _ (good_at 662 (by decide +kernel) rfl)) (hts _ (good_at 663 (by decide +kernel) rfl)) (hts _ (good_at 53 (by decide +kernel) rfl)) hKC hPC hDC hS hA rfl (fun j hj => by rcases (show j = 0 ∨ j = 1 ∨ j = 2 ∨ j = 3 ∨ j = 4 ∨ j = 5 ∨ j = 6 ∨ j = 7 ∨ j = 8 ∨ j = 9 ∨ j = 10 ∨ j = 11 ∨ j = 12 ∨ j = 13 ∨ j = 14 ∨ j = 15 ∨ j = 16 ∨ j = 17 ∨ j = 18 ∨ j = 19 ∨ j = 20 ∨ j = 21 ∨ j = 22 ∨ j = 23 ∨ j = 24 ∨ j = 25 ∨ j = 26 by omega) with rfl | rfl | rfl | rfl | rfl | rfl | rfl | rfl | rfl | rfl | rfl | rfl | rfl | rfl | rfl | rfl | rfl | rfl | rfl | rfl | rfl | rfl | rfl | rfl | rfl | rfl | rfl <;> rfl) (Nat.le_of_ble_eq_true rfl) (Nat.le_of_ble_eq_true rfl) dL_law_8 (fun q1v H hP hD hS => ?_)
  refine W.widen (k := 48) (n := 1949) (by omega) (by omega) ?_
  refine lv_dup hx hb dL_law_11 rfl ?_
  have hPC := va_P_left hP
  have hPn := va_P_right hP
  have hq1 : A0 s q1v := hD.2 (wsOf layC aC cA mc0).length (q1v, _) (by rw [List.getElem?_append_right (Nat.le_refl _), Nat.sub_self]; rfl)
  have hne : ∀ (k : Nat) (q : Nat × va_E), (wsOf layC aC cA mc0)[k]? = some q → q.1 ≠ q1v := by
    intro k q hk he
    have hlt := (List.getElem?_eq_some_iff.mp hk).1
    have := hD.1 k (wsOf layC aC cA mc0).length q (q1v, _) (by rw [List.getElem?_append_left hlt]; exact hk) (by rw [List.getElem?_append_right (Nat.le_refl _), Nat.sub_self]; rfl) he
    omega
  have hDn : va_D (A0 s) [(q1v, .inr (5, [.null, .null, .null, .null, .int 0, .long 0, .long 0, .int 0, .null, .int 0, .null, .null, .null, .null, .null, .null, .int 0, .null, .int 0, .int 0, .int 0, .int 0, .int 0, .null, .int 0, .null, .null]))] := ⟨fun i j p q hi hj _ => by
    have h1 := (List.getElem?_eq_some_iff.mp hi).1
    have h2 := (List.getElem?_eq_some_iff.mp hj).1
    simp at h1 h2
    omega, fun k q hk => by
    have h1 := (List.getElem?_eq_some_iff.mp hk).1
    simp at h1
    subst h1
    cases hk
    exact hq1⟩
  have hFc : ∀ q, va_A [(q1v, .inr (5, [.null, .null, .null, .null, .int 0, .long 0, .long 0, .int 0, .null, .int 0, .null, .null, .null, .null, .null, .null, .int 0, .null, .int 0, .int 0, .int 0, .int 0, .int 0, .null, .int 0, .null, .null]))] H.size q → A0 s q := by
    intro q h
    rcases h with ⟨k, e9, hk⟩ | h
    · exact hDn.2 k (q, e9) hk
    · exact Nat.le_trans hS.1 h
  refine va_callv (va_runI (As := []) (rest := [.ref q1v]) ⟨hx, hb, hml, hown, hts⟩ (ci5_init l (dC, dI) q1v H.size) ⟨callB_of 0 hts (good_wsC (good_at 666 (by decide +kernel) rfl)) rfl rfl rfl (hts _ (good_at 53 (by decide +kernel) rfl)) (hts _ (good_at 664 (by decide +kernel) rfl)) ⟨by decide +kernel, by decide +kernel, by decide +kernel⟩ ⟨Nat.le_of_ble_eq_true rfl, Nat.le_of_ble_eq_true rfl⟩, rfl, (hts _ (good_at 665 (by decide +kernel) rfl))⟩ ⟨blindN, fun U hU hW => ⟨rfl, by rw [hU], by rw [hU]; exact hPn, va_K.moved hW.alike hK, hDn.weaken (fun _ _ _ _ => trivial), NA.warm hW hNA⟩⟩ rfl rfl hl.1 rfl (lv_room (Nat.le_of_ble_eq_true rfl)) dL_law_12 ⟨Nat.le_of_ble_eq_true rfl, Nat.le_of_ble_eq_true rfl⟩) hS (fun q _ h => hFc q h) hFc (fun u t1 H1 locs ht1 hvm hw hB hz1 hk1 hS2 => ?_)
  obtain ⟨aM, cI, haM, hPM, hKM, hDM⟩ := hB
  subst haM
  rw [ht1] at hPM
  have hKM := va_K.moved hvm.symm hKM
  have hcI : cA 0 = cI := va_uniq (hKC.app hKM) 0 4 rfl rfl
  rw [wsM_cA hcI] at hPM hDM
  have hPC1 : va_P (dC, dI) vwCl (wsOf layC aC cA mc0) H1 := fun k q hq => (hPC k q hq).kept (hk1 q.1 (hPC k q hq).lt (by
    intro h
    rcases h with ⟨k2, e9, hk2⟩ | h
    · have h1 := (List.getElem?_eq_some_iff.mp hk2).1
      simp at h1
      subst h1
      have h2 : some (aM 0, _) = some (q.1, e9) := hk2
      exact hne k q hq (congrArg Prod.fst (Option.some.inj h2)).symm
    · exact absurd (hPC k q hq).lt (Nat.not_lt.mpr h)))
  have hdis : ∀ q, AA layC aC q → ¬ AA layM aM q := by
    intro q h1 h2
    have h3 := AA_in hDM h2
    obtain ⟨k, hk, rfl⟩ := h1
    have hg := wsOf_get (ad := aC) (cA := cA) (M := mc0) (List.getElem?_eq_getElem hk)
    rcases h3 with ⟨k2, e9, hk2⟩ | h
    · have h1 := (List.getElem?_eq_some_iff.mp hk2).1
      simp at h1
      subst h1
      have h2 : some (aM 0, _) = some (aC k, e9) := hk2
      exact hne k _ hg (congrArg Prod.fst (Option.some.inj h2)).symm
    · exact absurd (hPC k _ hg).lt (Nat.not_lt.mpr h)
  have hAC : ∀ q, AA layC aC q → s.heap.size ≤ q := fun q h => AA_in hDC h
  have hAM : ∀ q, AA layM aM q → s.heap.size ≤ q := fun q h => hFc q (AA_in hDM h)
  refine W.widen (k := 600000) (n := 7302250) (Nat.le_of_ble_eq_true rfl) (Nat.le_of_ble_eq_true rfl) ?_
  refine lv_astore_n (lv' := [(2, .ref (aM 0)), (1, .ref (aC 28)), (0, .ref b)]) hx hb dL_law_15 rfl hl (by decide) rfl (fun ls hl => ?_)
  refine lv_iconst (v := 0) hx hb dL_law_16 (by decide) ?_
  refine lv_istore_n (lv' := [(3, .int 0), (2, .ref (aM 0)), (1, .ref (aC 28)), (0, .ref b)]) hx hb dL_law_17 rfl hl (by decide) rfl (fun ls hl => ?_)
  have h : LX (l, (dC, dI), cA, t) aC aM p s m b L xs meth c := ⟨hx, hb, hr, hml, hown, hts, hlocks, hKC, inj_of hDC, inj_of hDM, hAC, hAM, hdis, ⟨hZ.narrow hAC, hT.narrow hAC⟩, ⟨hZ.narrow hAM, hT.narrow hAM⟩, hNW, hX, hbl⟩
  exact law_loop (z := (l, (dC, dI), cA, t)) hs h hL (L + 1) 0 mc0 mm0 (by omega) (by omega) h0 H1 locs ls hPC1 hPM hS2 (lv_sub hl [3, 2, 1, 0] rfl)
