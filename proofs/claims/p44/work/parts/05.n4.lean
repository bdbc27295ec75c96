def f9_law (sL : Nat) (sx : Nat → Int32) (fu : Nat) (M : Mem) : Option (Mem × Int32) :=
    (f9_tells_28_S_47_48 sL sx fu (7 : Int32) M).bind fun ⟨M2, r3⟩ =>
    if r3 = 0 then ((some (M2, (0 : Int32))))
    else ((f4_keep fu (0 : Int32) M2).bind fun ⟨M6, r7⟩ =>
    if r7 = 0 then ((rd M6 47 33 (0 : Int32)).bind fun v9 =>
    nm (((1 : Int32) <<< (v9 &&& 31)) - (1 : Int32)) fun v10 =>
    (f9_cell_S sL sx M6 (10 : Int32)).bind fun r12 =>
    (f9_part r12 (24 : Int32)).bind fun r14 =>
    (f9_law_69 sL sx fu fu v9 v10 r14 (0 : Int32) M6))
    else ((some (M6, (0 : Int32)))))
set_option maxHeartbeats 4000000 in
set_option maxRecDepth 10000 in
theorem w9_law {ad : Nat → Nat} {X : XX} {R : Mem × Int32} {fu : Nat} (h : Lx layC ad X cL_law RL 30 9 (some .boolean) (R.1) (some (.int R.2))) {M : Mem} (hF : f9_law (zL X.1) (zX X.1) fu M = some R) : Lp layC ad X M 18 [(0, .ref (zB X.1)), (1, .ref (ad 28)), (2, .ref (ad 47)), (3, .ref (ad 48))] [] := by
  unfold f9_law at hF
  refine L_aload_n (pc := 18) h 1 rfl rfl dL_law_18 ?_
  refine L_aload_n (pc := 19) h 0 rfl rfl dL_law_19 ?_
  refine L_aload_n (pc := 20) h 2 rfl rfl dL_law_20 ?_
  refine L_aload_n (pc := 21) h 3 rfl rfl dL_law_21 ?_
  refine L_bipush (pc := 22) (v := 7) h (by decide) dL_law_22 ?_
  obtain ⟨⟨M2, r3⟩, hc1, hF⟩ := bd hF
  refine L_callS (pc := 24) (st := []) h [.ref (ad 28), .ref (zB X.1), .ref (ad 47), .ref (ad 48), .int (7 : Int32)] csL_81 (c9_tells_28_S_47_48 (ad := ad) (z := X.1) hc1) rfl rfl (by decide) (by decide) (Nat.le_of_ble_eq_true rfl) dL_law_24 (st1 := [.int r3]) rfl ?_
  refine L_if_eq (pc := 27) (tgt := 38) h dL_law_27 (by decide) (fun c4 => ?_) (fun c4 => ?_)
  · have hF := itp c4 hF
    refine L_iconst (pc := 38) (v := 0) h (by decide) dL_law_38 ?_
    cases hF
    exact L_zreturn (pc := 39) h rfl zr0 rfl rfl dL_law_39
  · have hF := ifn c4 hF
    refine L_aload_n (pc := 30) h 1 rfl rfl dL_law_30 ?_
    refine L_iconst (pc := 31) (v := 0) h (by decide) dL_law_31 ?_
    obtain ⟨⟨M6, r7⟩, hc5, hF⟩ := bd hF
    refine L_callV (pc := 32) (st := []) h [.int (0 : Int32)] cvL_85 (c4_keep (ad := ad) (z := X.1) hc5) rfl rfl lc_28 (by decide) (by decide) (Nat.le_of_ble_eq_true rfl) dL_law_32 (st1 := [.int r7]) rfl ?_
    refine L_if_eq (pc := 35) (tgt := 40) h dL_law_35 (by decide) (fun c8 => ?_) (fun c8 => ?_)
    · have hF := itp c8 hF
      refine L_aload_n (pc := 40) h 2 rfl rfl dL_law_40 ?_
      refine L_iconst (pc := 41) (v := 0) h (by decide) dL_law_41 ?_
      obtain ⟨v9, hv9, hF⟩ := bd hF
      refine L_iald (pc := 42) h hv9 lc_47 dL_law_42 ?_
      refine L_istore (pc := 43) (lv' := [(4, .int v9), (0, .ref (zB X.1)), (1, .ref (ad 28)), (2, .ref (ad 47)), (3, .ref (ad 48))]) h rfl (by decide) rfl dL_law_43 ?_
      refine L_iconst (pc := 45) (v := 1) h (by decide) dL_law_45 ?_
      refine L_iload (pc := 46) h 0 rfl dL_law_46 ?_
      refine L_ishl (pc := 48) h dL_law_48 ?_
      refine L_iconst (pc := 49) (v := 1) h (by decide) dL_law_49 ?_
      refine L_isub (pc := 50) h dL_law_50 ?_
      obtain ⟨v10, hv10, hF⟩ := nm_e2 hF
      refine L_istore (pc := 51) (lv' := [(5, .int v10), (4, .int v9), (0, .ref (zB X.1)), (1, .ref (ad 28)), (2, .ref (ad 47)), (3, .ref (ad 48))]) h hv10 (by decide) rfl dL_law_51 ?_
      refine L_aload_n (pc := 53) h 2 rfl rfl dL_law_53 ?_
      refine L_bipush (pc := 54) (v := 10) h (by decide) dL_law_54 ?_
      obtain ⟨r12, hc11, hF⟩ := bd hF
      refine L_callS (pc := 56) (st := []) h [.ref (zB X.1), .int (10 : Int32)] csL_15 (c9_cell_S (ad := ad) (z := X.1) hc11) rfl rfl (by decide) (by decide) (Nat.le_of_ble_eq_true rfl) dL_law_56 (st1 := [.int r12]) rfl ?_
      refine L_bipush (pc := 59) (v := 24) h (by decide) dL_law_59 ?_
      obtain ⟨r14, hc13, hF⟩ := bd hF
      refine L_callS (pc := 61) (st := []) h [.int r12, .int (24 : Int32)] csL_21 (c9_part (ad := ad) (z := X.1) (M := M6) hc13) rfl rfl (by decide) (by decide) (Nat.le_of_ble_eq_true rfl) dL_law_61 (st1 := [.int r14]) rfl ?_
      refine L_istore (pc := 64) (lv' := [(6, .int r14), (5, .int v10), (4, .int v9), (0, .ref (zB X.1)), (1, .ref (ad 28)), (2, .ref (ad 47)), (3, .ref (ad 48))]) h rfl (by decide) rfl dL_law_64 ?_
      refine L_iconst (pc := 66) (v := 0) h (by decide) dL_law_66 ?_
      refine L_istore (pc := 67) (lv' := [(7, .int (0 : Int32)), (6, .int r14), (5, .int v10), (4, .int v9), (0, .ref (zB X.1)), (1, .ref (ad 28)), (2, .ref (ad 47)), (3, .ref (ad 48))]) h rfl (by decide) rfl dL_law_67 ?_
      exact Lp_sub (nX := 0) (lv' := [(0, .ref (zB X.1)), (1, .ref (ad 28)), (2, .ref (ad 47)), (4, .int v9), (5, .int v10), (6, .int r14), (7, .int (0 : Int32))]) [4, 5, 6, 3, 2, 1, 0] rfl (w9_law_69 h  (hF := hF))
    · have hF := ifn c8 hF
      refine L_iconst (pc := 38) (v := 0) h (by decide) dL_law_38 ?_
      cases hF
      exact L_zreturn (pc := 39) h rfl zr0 rfl rfl dL_law_39
