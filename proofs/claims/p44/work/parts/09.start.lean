theorem va_P_left {D : va_G} {cl : List vw_C} {w1 w2 : va_W} {H : Heap} (h : va_P D cl (w1 ++ w2) H) : va_P D cl w1 H := fun k q hq => h k q (by
  rw [List.getElem?_append_left (List.getElem?_eq_some_iff.mp hq).1]; exact hq)
theorem va_P_right {D : va_G} {cl : List vw_C} {w1 w2 : va_W} {H : Heap} (h : va_P D cl (w1 ++ w2) H) : va_P D cl w2 H := fun k q hq => h (w1.length + k) q (by
  rw [List.getElem?_append_right (by omega)]; simpa using hq)
def adX (a : Nat → Nat) (y z : Nat) (k : Nat) : Nat := if k = 47 then y else if k = 48 then z else a k
def kdB (kd : Kd) : Bool := match kd with
  | .inl (_, fs) => fs.all (fun c => decide (c < 49))
  | .inr (.inl _) => true
  | .inr (.inr (_, qs)) => qs.all (fun q => decide (q < 47))
theorem fv_ad {ad ad' : Nat → Nat} {M : Mem} {p k c : Nat} (h : ∀ q, q < 47 → ad q = ad' q) (hc : c < 49) : fv ad M p k c = fv ad' M p k c := by
  rcases c with _ | _ | c
  · rfl
  · rfl
  · show Value.ref (ad c) = Value.ref (ad' c)
    rw [h c (by omega)]
theorem cellOf_ad {ad ad' : Nat → Nat} {cA : Nat → ClassId} {M : Mem} {p : Nat} (kd : Kd) (h : ∀ q, q < 47 → ad q = ad' q) (hk : kdB kd = true) : cellOf ad cA M p kd = cellOf ad' cA M p kd := by
  rcases kd with ⟨ci, fs⟩ | ⟨t, n⟩ | ⟨t, qs⟩
  · have e : fs.mapIdx (fv ad M p) = fs.mapIdx (fv ad' M p) := by
      apply List.ext_getElem?
      intro k
      simp only [List.getElem?_mapIdx]
      cases hc : fs[k]? with
      | none => rfl
      | some c =>
        have h1 : decide (c < 49) = true := List.all_eq_true.mp hk c (List.mem_of_getElem? hc)
        show some (fv ad M p k c) = some (fv ad' M p k c)
        rw [fv_ad h (of_decide_eq_true h1)]
    show Sum.inr (ci, fs.mapIdx (fv ad M p)) = Sum.inr (ci, fs.mapIdx (fv ad' M p))
    rw [e]
  · rfl
  · have e : (fun i : Nat => (qs[i]?).map ad) = (fun i : Nat => (qs[i]?).map ad') := by
      funext i
      cases hc : qs[i]? with
      | none => rfl
      | some q =>
        have h1 : decide (q < 47) = true := List.all_eq_true.mp hk q (List.mem_of_getElem? hc)
        show some (ad q) = some (ad' q)
        rw [h q (of_decide_eq_true h1)]
    show Sum.inl (cA t, qs.length, Sum.inr (Sum.inr (Sum.inr (Sum.inr (fun i => (qs[i]?).map ad))))) = Sum.inl (cA t, qs.length, Sum.inr (Sum.inr (Sum.inr (Sum.inr (fun i => (qs[i]?).map ad')))))
    rw [e]
theorem ws_ext {a : Nat → Nat} {y z : Nat} {cA : Nat → ClassId} {M : Mem} (h47 : M.1 47 = fun _ => 0) (h48 : M.1 48 = fun _ => 0) : wsOf layC (adX a y z) cA M = (wsOf lay0 a cA M ++ [(y, .inl (cA 0, 33, .inl (fun _ => 0)))]) ++ [(z, .inl (cA 0, 9, .inl (fun _ => 0)))] := by
  have h0 : layC = lay0 ++ [.inr (.inl (0, 33)), .inr (.inl (0, 9))] := rfl
  have hl : lay0.length = 47 := rfl
  have hB : lay0.all kdB = true := by decide +kernel
  have h1 : wsOf lay0 (adX a y z) cA M = wsOf lay0 a cA M := by
    apply List.ext_getElem?
    intro k
    simp only [wsOf, List.getElem?_mapIdx]
    cases hk : lay0[k]? with
    | none => rfl
    | some kd =>
      have hk47 : k < 47 := by rw [← hl]; exact (List.getElem?_eq_some_iff.mp hk).1
      have hq : ∀ q, q < 47 → adX a y z q = a q := fun q hq => by
        unfold adX
        rw [if_neg (by omega), if_neg (by omega)]
      show some (adX a y z k, cellOf (adX a y z) cA M k kd) = some (a k, cellOf a cA M k kd)
      rw [cellOf_ad kd hq (List.all_eq_true.mp hB kd (List.mem_of_getElem? hk)), hq k hk47]
  have h2 : wsOf layC (adX a y z) cA M = wsOf lay0 (adX a y z) cA M ++ [(adX a y z 47, cellOf (adX a y z) cA M 47 (.inr (.inl (0, 33)))), (adX a y z 48, cellOf (adX a y z) cA M 48 (.inr (.inl (0, 9))))] := by
    rw [h0]
    unfold wsOf
    rw [List.mapIdx_append, hl]
    rfl
  rw [h2, h1, List.append_assoc]
  have e1 : cellOf (adX a y z) cA M 47 (.inr (.inl (0, 33))) = .inl (cA 0, 33, .inl (fun _ => 0)) := by
    show Sum.inl (cA 0, 33, Sum.inl (M.1 47)) = _
    rw [h47]
  have e2 : cellOf (adX a y z) cA M 48 (.inr (.inl (0, 9))) = .inl (cA 0, 9, .inl (fun _ => 0)) := by
    show Sum.inl (cA 0, 9, Sum.inl (M.1 48)) = _
    rw [h48]
  rw [e1, e2]
  rfl
theorem inj_of {lay : List Kd} {ad : Nat → Nat} {cA : Nat → ClassId} {M : Mem} {A : Nat → Prop} (h : va_D A (wsOf lay ad cA M)) : Inj lay ad := by
  intro i j hi hj e
  exact h.1 i j _ _ (wsOf_get (List.getElem?_eq_getElem hi)) (wsOf_get (List.getElem?_eq_getElem hj)) e
theorem AA_in {lay : List Kd} {ad : Nat → Nat} {cA : Nat → ClassId} {M : Mem} {A : Nat → Prop} (h : va_D A (wsOf lay ad cA M)) {q : Nat} (hq : AA lay ad q) : A q := by
  obtain ⟨k, hk, rfl⟩ := hq
  exact h.2 k _ (wsOf_get (List.getElem?_eq_getElem hk))
set_option maxHeartbeats 8000000 in
set_option maxRecDepth 100000 in
theorem whole_start_open {p : Program} {e : Env} {s : State} {m : MethodId} {below : List Frame} {meth : Method} {c : Code} (l : Launch) {b L : Nat} {xs : Nat → Int32} (C0 : lw_At p s m meth c b L xs) {fu : Nat} {R : Mem} (hF : f9_law L xs fu mc0 = some (R, 1)) : W p l e room_1 s m #[Value.ref b] below meth c s.heap [] 0 0 (lw_Z below #[Value.ref b] s) (entryFrame m ([Value.ref b] : List Value).toArray 30) := by
  obtain ⟨hx, hb, hr, hml, hown, hts1, hX, hbl, hlocks, hgv⟩ := id C0
  have hts : ∀ w ∈ lw_good, w.before #[Value.ref b] s = true := fun w hw => hts1 w (good_sub w hw)
  have hA : ∀ q : Nat, s.heap.size ≤ q → A0 s q := fun _ h => h
  have hnA : ∀ a : Nat, a < s.heap.size → ¬ A0 s a := fun a h1 h2 => Nat.not_le.mpr h1 h2
  obtain ⟨c0, iS0, hKn0⟩ := u_known (C := RX0) (T := TX0) (N := 2) (n := 2) hts inX0 (hts _ (good_at 138 (by decide +kernel) rfl))
  obtain ⟨c1, iS1, hKn1⟩ := u_known (C := RX1) (T := TX1) (N := 2) (n := 2) hts inX1 (hts _ (good_at 99 (by decide +kernel) rfl))
  obtain ⟨c2, iS2, hKn2⟩ := u_known (C := RX2) (T := TX2) (N := 12) (n := 12) hts inX2 (hts _ (good_at 43 (by decide +kernel) rfl))
  obtain ⟨c3, iS3, hKn3⟩ := u_known (C := RX3) (T := TX3) (N := 6) (n := 6) hts inX3 (hts _ (good_at 37 (by decide +kernel) rfl))
  obtain ⟨c4, iS4, hKn4⟩ := u_known (C := RX4) (T := TX4) (N := 9) (n := 9) hts inX4 (hts _ (good_at 25 (by decide +kernel) rfl))
  obtain ⟨dC, dI, hKc⟩ : ∃ (dC : Nat → ClassId) (dI : Nat → Nat → Nat), ∀ (k : Nat) (q : vw_C), vwCl[k]? = some q → u_Kn s q.1 q.2.1 q.2.2 (dC k) (dI k) := by
    refine ⟨fun k => match k with | 0 => c0 | 1 => c1 | 2 => c2 | 3 => c3 | _ => c4, fun k => match k with | 0 => iS0 | 1 => iS1 | 2 => iS2 | 3 => iS3 | _ => iS4, ?_⟩
    intro k q hq
    match k, hq with
    | 0, hq => cases hq; exact hKn0
    | 1, hq => cases hq; exact hKn1
    | 2, hq => cases hq; exact hKn2
    | 3, hq => cases hq; exact hKn3
    | 4, hq => cases hq; exact hKn4
    | k + 5, hq => simp [vwCl] at hq
  have hNW : NW s := by
    intro q hq
    simp only [nestWords, List.mem_cons, List.not_mem_nil, or_false] at hq
    rcases hq with rfl | rfl | rfl | rfl | rfl
    · exact va_Nw.of rfl (hts1 _ (List.mem_of_getElem? (i := 100) (by decide +kernel)))
    · exact va_Nw.of rfl (hts1 _ (List.mem_of_getElem? (i := 139) (by decide +kernel)))
    · exact va_Nw.of rfl (hts1 _ (List.mem_of_getElem? (i := 152) (by decide +kernel)))
    · exact va_Nw.of rfl (hts1 _ (List.mem_of_getElem? (i := 595) (by decide +kernel)))
    · exact va_Nw.of rfl (hts1 _ (List.mem_of_getElem? (i := 535) (by decide +kernel)))
  have hNA : NA s := ⟨hNW, va_AO.of (hts1 _ (List.mem_of_getElem? (i := 33) (by decide +kernel))), va_AO.of (hts1 _ (List.mem_of_getElem? (i := 35) (by decide +kernel)))⟩
  have hq := flat_of_before _ hgv
  obtain ⟨t, ht, hT⟩ : ∃ t : Nat, (Jvm.Term.static "PinDuties" "LETTERS" "[I").eval #[Value.ref b] s none [] s = some (.ref t) ∧ va_T .int t 6 (fun j => .int (letF j)) (A0 s) s s.heap := by
    refine va_Tof (N := 6) (f := fun j => .int (letF j)) (by decide) (hq _ (by decide +kernel)) (va_eqt (hq _ (by decide +kernel))) (fun j hj => ?_) hnA
    rcases (show j = 0 ∨ j = 1 ∨ j = 2 ∨ j = 3 ∨ j = 4 ∨ j = 5 by omega) with rfl | rfl | rfl | rfl | rfl | rfl
    · exact va_eqt (hq _ (by decide +kernel))
    · exact va_eqt (hq _ (by decide +kernel))
    · exact va_eqt (hq _ (by decide +kernel))
    · exact va_eqt (hq _ (by decide +kernel))
    · exact va_eqt (hq _ (by decide +kernel))
    · exact va_eqt (hq _ (by decide +kernel))
  have hZ := va_Zref (C := "PinDuties") (n := "LETTERS") (d := "[I") (A := A0 s) (hts1 _ (List.mem_of_getElem? (i := 581) (by decide +kernel))) (hts1 _ (List.mem_of_getElem? (i := 17) (by decide +kernel))) ht hnA
  have hS : va_S (A0 s) s.heap s.heap [] := va_S.rf
  have hK : va_K (dC, dI) vwCl [] s := ⟨hKc, fun k q h => by simp at h⟩
  have hP : va_P (dC, dI) vwCl [] s.heap := fun k q h => by simp at h
  have hD : va_D (A0 s) [] := ⟨fun i j p q h => by simp at h, fun k q h => by simp at h⟩
  have hl := lv_entry ([.ref b]) (n := 30) (Nat.le_of_ble_eq_true rfl)
  rw [lg_entry_eq]
  generalize (lg_sl ([.ref b]) ++ List.replicate (30 - (lg_sl ([.ref b])).length) Slot.unset).toArray = ls at hl ⊢
  have hl : lv_has ls 30 [(0, .ref b)] := hl
  refine va_new (ci := 4) (fs := [.null, .null, .null, .null, .null, .int 0, .int 0, .long 0, .long 0]) (C := RX4) (T := TX4) (N := 9) hx hb hts inX4 tyX4 tyX4_ok hown (hts _ (good_at 24 (by decide +kernel) rfl)) (hts _ (good_at 25 (by decide +kernel) rfl)) (hts _ (good_at 17 (by decide +kernel) rfl)) hK hP hD hS hA rfl (fun j hj => by rcases (show j = 0 ∨ j = 1 ∨ j = 2 ∨ j = 3 ∨ j = 4 ∨ j = 5 ∨ j = 6 ∨ j = 7 ∨ j = 8 by omega) with rfl | rfl | rfl | rfl | rfl | rfl | rfl | rfl | rfl <;> rfl) (Nat.le_of_ble_eq_true rfl) (Nat.le_of_ble_eq_true rfl) dL_law_0 (fun q0v H hP hD hS => ?_)
  have hP : va_P (dC, dI) vwCl [(q0v, .inr (4, [.null, .null, .null, .null, .null, .int 0, .int 0, .long 0, .long 0]))] H := hP
  have hD : va_D (A0 s) [(q0v, .inr (4, [.null, .null, .null, .null, .null, .int 0, .int 0, .long 0, .long 0]))] := hD
  refine W.widen (k := 1) (n := 9) (by omega) (by omega) ?_
  refine lv_dup hx hb dL_law_3 rfl ?_
  have hFc := va_free (wc := [(q0v, .inr (4, [.null, .null, .null, .null, .null, .int 0, .int 0, .long 0, .long 0]))]) hD hS hA [0] rfl
  refine va_callv (va_runI (As := []) (rest := [.ref q0v]) ⟨hx, hb, hml, hown, hts⟩ (ci4_init l (dC, dI) q0v H.size) ⟨callB_of 0 hts (good_wsC (good_at 28 (by decide +kernel) rfl)) rfl rfl rfl (hts _ (good_at 17 (by decide +kernel) rfl)) (hts _ (good_at 26 (by decide +kernel) rfl)) ⟨by decide +kernel, by decide +kernel, by decide +kernel⟩ ⟨Nat.le_of_ble_eq_true rfl, Nat.le_of_ble_eq_true rfl⟩, rfl, (hts _ (good_at 27 (by decide +kernel) rfl))⟩ ⟨blindN, fun U hU hW => ⟨rfl, by rw [hU], by rw [hU]; exact hP, va_K.moved hW.alike hK, hD.weaken (fun _ _ _ _ => trivial), NA.warm hW hNA⟩⟩ rfl rfl hl.1 rfl (lv_room (Nat.le_of_ble_eq_true rfl)) dL_law_4 ⟨Nat.le_of_ble_eq_true rfl, Nat.le_of_ble_eq_true rfl⟩) hS (fun q _ h => hFc q h) hFc (fun u t1 H1 locs ht1 hvm hw hB hz1 hk1 hS => ?_)
  obtain ⟨aC, cA, haC, hPC, hKC, hDC⟩ := hB
  subst haC
  rw [ht1] at hPC
  have hKC := va_K.moved hvm.symm hKC
  have hDC : va_D (A0 s) (wsOf lay0 aC cA mc0) := hDC.weaken (fun k q _ h => hFc q.1 h)
  clear hk1 hz1 hFc hP hD ht1
  generalize H1 = H at hPC hS ⊢
  refine W.widen (k := 47) (n := 1922) (by omega) (by omega) ?_
  refine lv_astore_n (lv' := [(1, .ref (aC 28)), (0, .ref b)]) hx hb dL_law_7 rfl hl (by decide) rfl (fun ls hl => ?_)
  refine lv_bipush (v := 33) hx hb dL_law_8 (by decide) ?_
  refine va_newa (atype := .int) hx hb (hts _ (good_at 96 (by decide +kernel) rfl)) rfl hKC hPC hDC hS hA (N' := 33) (a0 := (33, .inl (fun _ => 0))) (fun _ => rfl) (by decide) (by decide) (by decide) (Nat.le_of_ble_eq_true rfl) (Nat.le_of_ble_eq_true rfl) dL_law_10 (fun q1 c1 H hK1 hP1 hD1 hS => ?_)
  have hc1 : cA 0 = c1 := va_uniq hK1 0 4 rfl rfl
  subst hc1
  have hP1 : va_P (dC, dI) vwCl (wsOf lay0 aC cA mc0 ++ [(q1, .inl (cA 0, 33, .inl (fun _ => 0)))]) H := hP1
  have hD1 : va_D (A0 s) (wsOf lay0 aC cA mc0 ++ [(q1, .inl (cA 0, 33, .inl (fun _ => 0)))]) := hD1
  refine W.widen (k := 48) (n := 1955) (by omega) (by omega) ?_
  refine lv_astore_n (lv' := [(2, .ref q1), (1, .ref (aC 28)), (0, .ref b)]) hx hb dL_law_12 rfl hl (by decide) rfl (fun ls hl => ?_)
  refine lv_bipush (v := 9) hx hb dL_law_13 (by decide) ?_
  refine va_newa (atype := .int) hx hb (hts _ (good_at 96 (by decide +kernel) rfl)) rfl hKC hP1 hD1 hS hA (N' := 9) (a0 := (9, .inl (fun _ => 0))) (fun _ => rfl) (by decide) (by decide) (by decide) (Nat.le_of_ble_eq_true rfl) (Nat.le_of_ble_eq_true rfl) dL_law_15 (fun q2 c2 H hK2 hP2 hD2 hS => ?_)
  have hc2 : cA 0 = c2 := va_uniq hK2 0 4 rfl rfl
  subst hc2
  have hP2 : va_P (dC, dI) vwCl ((wsOf lay0 aC cA mc0 ++ [(q1, .inl (cA 0, 33, .inl (fun _ => 0)))]) ++ [(q2, .inl (cA 0, 9, .inl (fun _ => 0)))]) H := hP2
  have hD2 : va_D (A0 s) ((wsOf lay0 aC cA mc0 ++ [(q1, .inl (cA 0, 33, .inl (fun _ => 0)))]) ++ [(q2, .inl (cA 0, 9, .inl (fun _ => 0)))]) := hD2
  rw [← ws_ext (M := mc0) rfl rfl] at hP2 hD2
  refine W.widen (k := 600000) (n := 7302250) (Nat.le_of_ble_eq_true rfl) (Nat.le_of_ble_eq_true rfl) ?_
  refine lv_astore_n (lv' := [(3, .ref q2), (2, .ref q1), (1, .ref (aC 28)), (0, .ref b)]) hx hb dL_law_17 rfl hl (by decide) rfl (fun ls hl => ?_)
  have hAA : ∀ q, AA layC (adX aC q1 q2) q → s.heap.size ≤ q := fun q h => AA_in hD2 h
  have hT2 : va_T .int b L (fun j => .int (xs j)) (AA layC (adX aC q1 q2)) s s.heap := by
    obtain ⟨scr, x1, x2, x3, x4, x5⟩ := hX
    exact ⟨scr, x1, x2, x3, Nat.le_of_eq x4.symm, by rw [x4], x5, fun h => absurd (hAA b h) (Nat.not_le.mpr hbl)⟩
  have h : Lx layC (adX aC q1 q2) ((l, (dC, dI), cA, (t, b, L, xs)), p, e, s, m, #[.ref b], below, meth, c, 30, 9, R, some (.int 1)) cL_law RL 30 9 (some .boolean) (R, (1 : Int32)).1 (some (.int (R, (1 : Int32)).2)) := ⟨hx, hb, hr, hml, hown, hts, hlocks, hKC, inj_of hD2, hAA, ⟨hZ.narrow hAA, hT.narrow hAA, hT2⟩, hNW, rfl, rfl, rfl, Nat.le_of_ble_eq_true rfl, ⟨rfl, rfl⟩, rfl, rfl⟩
  have hw : Lp layC (adX aC q1 q2) ((l, (dC, dI), cA, (t, b, L, xs)), p, e, s, m, #[.ref b], below, meth, c, 30, 9, R, some (.int 1)) mc0 18 [(0, .ref b), (1, .ref (adX aC q1 q2 28)), (2, .ref (adX aC q1 q2 47)), (3, .ref (adX aC q1 q2 48))] [] := w9_law (R := (R, (1 : Int32))) (fu := fu) h hF
  exact hw H _ ls hP2 hS (lv_sub hl [3, 2, 1, 0] rfl)
