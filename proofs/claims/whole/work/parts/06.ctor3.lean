set_option maxHeartbeats 40000000 in
set_option maxRecDepth 100000 in
theorem ci5_forgets (l : Launch) (D : va_G) (h0 sz : Nat) (r0 r1 r2 r3 r8 r10 r11 r12 r13 r14 r15 r17 r23 r25 r26 : Nat) (c0 : ClassId) : Met l yX5_forgets (wsC yX5_forgets cX5_forgets 2 none) ({ frames := 1, cells := 0, slots := 0, locals := 40 }) (PN D sz [(h0, .inr (5, [.ref r0, .ref r1, .ref r2, .ref r3, .int 0, .long 0, .long 1, .int 0, .ref r8, .int 0, .ref r10, .ref r11, .ref r12, .ref r13, .ref r14, .ref r15, .int 0, .ref r17, .int 0, .int 0, .int 0, .int 0, .int 0, .ref r23, .int 0, .ref r25, .ref r26])), (r14, .inl (c0, 9, .inl (fun _ => 0))), (r17, .inl (c0, 1110, .inl (fun _ => 0)))] [(c0, .int)] [.ref h0]) (va_Qv (fun _ : Unit => True) (fun (_ : Unit) t => va_P D vwCl [(h0, .inr (5, [.ref r0, .ref r1, .ref r2, .ref r3, .int 0, .long 0, .long 1, .int 0, .ref r8, .int 0, .ref r10, .ref r11, .ref r12, .ref r13, .ref r14, .ref r15, .int (0), .ref r17, .int 0, .int 0, .int 0, .int 0, .int 0, .ref r23, .int 0, .ref r25, .ref r26])), (r14, .inl (c0, 9, .inl (upd (fun _ => 0) 0 0))), (r17, .inl (c0, 1110, .inl (upd (upd (upd (fun _ => 0) 0 (-1)) 370 (-1)) 740 (-1))))] t.heap ∧ va_K D vwCl [(c0, .int)] t ∧ va_D (va_A [(h0, .inr (5, [.ref r0, .ref r1, .ref r2, .ref r3, .int 0, .long 0, .long 1, .int 0, .ref r8, .int 0, .ref r10, .ref r11, .ref r12, .ref r13, .ref r14, .ref r15, .int 0, .ref r17, .int 0, .int 0, .int 0, .int 0, .int 0, .ref r23, .int 0, .ref r25, .ref r26])), (r14, .inl (c0, 9, .inl (fun _ => 0))), (r17, .inl (c0, 1110, .inl (fun _ => 0)))] sz) [(h0, .inr (5, [.ref r0, .ref r1, .ref r2, .ref r3, .int 0, .long 0, .long 1, .int 0, .ref r8, .int 0, .ref r10, .ref r11, .ref r12, .ref r13, .ref r14, .ref r15, .int (0), .ref r17, .int 0, .int 0, .int 0, .int 0, .int 0, .ref r23, .int 0, .ref r25, .ref r26])), (r14, .inl (c0, 9, .inl (upd (fun _ => 0) 0 0))), (r17, .inl (c0, 1110, .inl (upd (upd (upd (fun _ => 0) 0 (-1)) 370 (-1)) 740 (-1))))]) (va_A [(h0, .inr (5, [.ref r0, .ref r1, .ref r2, .ref r3, .int 0, .long 0, .long 1, .int 0, .ref r8, .int 0, .ref r10, .ref r11, .ref r12, .ref r13, .ref r14, .ref r15, .int 0, .ref r17, .int 0, .int 0, .int 0, .int 0, .int 0, .ref r23, .int 0, .ref r25, .ref r26])), (r14, .inl (c0, 9, .inl (fun _ => 0))), (r17, .inl (c0, 1110, .inl (fun _ => 0)))] sz)) 0 0 (va_A [(h0, .inr (5, [.ref r0, .ref r1, .ref r2, .ref r3, .int 0, .long 0, .long 1, .int 0, .ref r8, .int 0, .ref r10, .ref r11, .ref r12, .ref r13, .ref r14, .ref r15, .int 0, .ref r17, .int 0, .int 0, .int 0, .int 0, .int 0, .ref r23, .int 0, .ref r25, .ref r26])), (r14, .inl (c0, 9, .inl (fun _ => 0))), (r17, .inl (c0, 1110, .inl (fun _ => 0)))] sz) := by
  refine Met.ofW (cc := cX5_forgets) (maxL := 2) (ret := none) (by decide +kernel) rfl ?_
  intro p e s m args below meth c s₁ B hml hv
  obtain ⟨rfl, hsz, hP, hK, hD0, hNA⟩ := hv
  have hx := B.exec
  have hb := B.bytes
  have hr := B.returns
  have hts0 := atoms_spec (ws := wsC yX5_forgets cX5_forgets 2 none) B.pre
  have hts : ∀ w ∈ lw_good, w.before _ s = true := fun w hw => hts0 w (List.mem_cons_of_mem _ hw)
  have hown : s.vm.findClass RX5 = some m.cls := findClass_of_methodNamed B.named
  have hlocks := B.notSynchronized
  have hin0 := (name_of_methodNamed B.named B.method).1
  subst hsz
  have hD := hD0.self (sz := s.heap.size)
  generalize hAe : va_A [(h0, .inr (5, [.ref r0, .ref r1, .ref r2, .ref r3, .int 0, .long 0, .long 1, .int 0, .ref r8, .int 0, .ref r10, .ref r11, .ref r12, .ref r13, .ref r14, .ref r15, .int 0, .ref r17, .int 0, .int 0, .int 0, .int 0, .int 0, .ref r23, .int 0, .ref r25, .ref r26])), (r14, .inl (c0, 9, .inl (fun _ => 0))), (r17, .inl (c0, 1110, .inl (fun _ => 0)))] s.heap.size = A at hD ⊢
  have hA : ∀ q : Nat, s.heap.size ≤ q → A q := fun q h => by rw [← hAe]; exact Or.inr h
  have hS : va_S A s.heap s.heap [] := va_S.rf
  have hl := lv_entry ([.ref h0]) (n := 2) (Nat.le_of_ble_eq_true rfl)
  rw [lg_entry_eq]
  generalize (lg_sl ([.ref h0]) ++ List.replicate (2 - (lg_sl ([.ref h0])).length) Slot.unset).toArray = ls at hl ⊢
  have hl : lv_has ls 2 [(0, .ref h0)] := hl
  skip
  refine lv_aload_n hx hb dX5_forgets_0 rfl (lv_at hl 0 rfl) ?_
  refine va_get (D := D) (ci := 5) (v := .ref r14) (C := RX5) (T := TX5) (N := 27) hx hb hts inX5 hown hK hP 0 rfl rfl 14 (by decide) (hts _ (good_at 686 (by decide +kernel) rfl)) (fun _ h9 => h9) rfl dX5_forgets_1 ?_
  refine lv_iconst (v := 0) hx hb dX5_forgets_4 (by decide) ?_
  refine lv_iconst (v := 0) hx hb dX5_forgets_5 (by decide) ?_
  refine va_iast hx hb hK hP hD hS 1 0 rfl rfl (by unfold vp_in; decide) dX5_forgets_6 (fun H locs hP hD hS => ?_)
  have hP : va_P D vwCl [(h0, .inr (5, [.ref r0, .ref r1, .ref r2, .ref r3, .int 0, .long 0, .long 1, .int 0, .ref r8, .int 0, .ref r10, .ref r11, .ref r12, .ref r13, .ref r14, .ref r15, .int 0, .ref r17, .int 0, .int 0, .int 0, .int 0, .int 0, .ref r23, .int 0, .ref r25, .ref r26])), (r14, .inl (c0, 9, .inl (upd (fun _ => 0) 0 0))), (r17, .inl (c0, 1110, .inl (fun _ => 0)))] H := hP
  have hD : va_D A [(h0, .inr (5, [.ref r0, .ref r1, .ref r2, .ref r3, .int 0, .long 0, .long 1, .int 0, .ref r8, .int 0, .ref r10, .ref r11, .ref r12, .ref r13, .ref r14, .ref r15, .int 0, .ref r17, .int 0, .int 0, .int 0, .int 0, .int 0, .ref r23, .int 0, .ref r25, .ref r26])), (r14, .inl (c0, 9, .inl (upd (fun _ => 0) 0 0))), (r17, .inl (c0, 1110, .inl (fun _ => 0)))] := hD
  refine lv_aload_n hx hb dX5_forgets_7 rfl (lv_at hl 0 rfl) ?_
  refine lv_iconst (v := 0) hx hb dX5_forgets_8 (by decide) ?_
  refine va_put (D := D) (ci := 5) (v := .int (0)) (ty := .int) (C := RX5) (T := TX5) (N := 27) hx hb hts inX5 tyX5 tyX5_ok nmX5 hown hK hP hD hS 0 rfl rfl 16 (by decide) (hts _ (good_at 688 (by decide +kernel) rfl)) (fun _ h9 => h9) rfl (by decide +kernel) rfl rfl (Nat.le_of_ble_eq_true rfl) dX5_forgets_9 (fun H locs hP hD hS => ?_)
  have hP : va_P D vwCl [(h0, .inr (5, [.ref r0, .ref r1, .ref r2, .ref r3, .int 0, .long 0, .long 1, .int 0, .ref r8, .int 0, .ref r10, .ref r11, .ref r12, .ref r13, .ref r14, .ref r15, .int (0), .ref r17, .int 0, .int 0, .int 0, .int 0, .int 0, .ref r23, .int 0, .ref r25, .ref r26])), (r14, .inl (c0, 9, .inl (upd (fun _ => 0) 0 0))), (r17, .inl (c0, 1110, .inl (fun _ => 0)))] H := hP
  have hD : va_D A [(h0, .inr (5, [.ref r0, .ref r1, .ref r2, .ref r3, .int 0, .long 0, .long 1, .int 0, .ref r8, .int 0, .ref r10, .ref r11, .ref r12, .ref r13, .ref r14, .ref r15, .int (0), .ref r17, .int 0, .int 0, .int 0, .int 0, .int 0, .ref r23, .int 0, .ref r25, .ref r26])), (r14, .inl (c0, 9, .inl (upd (fun _ => 0) 0 0))), (r17, .inl (c0, 1110, .inl (fun _ => 0)))] := hD
  refine lv_iconst (v := 0) hx hb dX5_forgets_12 (by decide) ?_
  refine lv_istore_n (lv' := [(1, .int (0)), (0, .ref h0)]) hx hb dX5_forgets_13 rfl hl (by decide) rfl (fun ls hl => ?_)
  refine lv_iload_n hx hb dX5_forgets_14 rfl (lv_at hl 0 rfl) ?_
  refine lv_iconst (v := 3) hx hb dX5_forgets_15 (by decide) ?_
  refine lv_icmp_ge (tgt := 36) hx hb dX5_forgets_16 (by decide) (fun c => absurd c (by decide)) (fun _ => ?_)
  refine lv_aload_n hx hb dX5_forgets_19 rfl (lv_at hl 1 rfl) ?_
  refine va_get (D := D) (ci := 5) (v := .ref r17) (C := RX5) (T := TX5) (N := 27) hx hb hts inX5 hown hK hP 0 rfl rfl 17 (by decide) (hts _ (good_at 689 (by decide +kernel) rfl)) (fun _ h9 => h9) rfl dX5_forgets_20 ?_
  refine lv_sipush (v := 370) hx hb dX5_forgets_23 (by decide) ?_
  refine lv_iload_n hx hb dX5_forgets_26 rfl (lv_at hl 0 rfl) ?_
  refine lv_imul hx hb dX5_forgets_27 ?_
  rw [show ((370 : Int32) * 0) = 0 from by decide]
  refine lv_iconst (v := (-1)) hx hb dX5_forgets_28 (by decide) ?_
  refine va_iast hx hb hK hP hD hS 2 0 rfl rfl (by unfold vp_in; decide) dX5_forgets_29 (fun H locs hP hD hS => ?_)
  have hP : va_P D vwCl [(h0, .inr (5, [.ref r0, .ref r1, .ref r2, .ref r3, .int 0, .long 0, .long 1, .int 0, .ref r8, .int 0, .ref r10, .ref r11, .ref r12, .ref r13, .ref r14, .ref r15, .int (0), .ref r17, .int 0, .int 0, .int 0, .int 0, .int 0, .ref r23, .int 0, .ref r25, .ref r26])), (r14, .inl (c0, 9, .inl (upd (fun _ => 0) 0 0))), (r17, .inl (c0, 1110, .inl (upd (fun _ => 0) 0 (-1))))] H := hP
  have hD : va_D A [(h0, .inr (5, [.ref r0, .ref r1, .ref r2, .ref r3, .int 0, .long 0, .long 1, .int 0, .ref r8, .int 0, .ref r10, .ref r11, .ref r12, .ref r13, .ref r14, .ref r15, .int (0), .ref r17, .int 0, .int 0, .int 0, .int 0, .int 0, .ref r23, .int 0, .ref r25, .ref r26])), (r14, .inl (c0, 9, .inl (upd (fun _ => 0) 0 0))), (r17, .inl (c0, 1110, .inl (upd (fun _ => 0) 0 (-1))))] := hD
  refine lv_iinc (v := 1) (lv' := [(1, .int (1)), (0, .ref h0)]) hx hb dX5_forgets_30 hl (k := 0) rfl (by decide) (by decide) rfl (fun ls hl => ?_)
  refine lv_goto (tgt := 14) hx hb dX5_forgets_33 (by decide) ?_
  refine lv_iload_n hx hb dX5_forgets_14 rfl (lv_at hl 0 rfl) ?_
  refine lv_iconst (v := 3) hx hb dX5_forgets_15 (by decide) ?_
  refine lv_icmp_ge (tgt := 36) hx hb dX5_forgets_16 (by decide) (fun c => absurd c (by decide)) (fun _ => ?_)
  refine lv_aload_n hx hb dX5_forgets_19 rfl (lv_at hl 1 rfl) ?_
  refine va_get (D := D) (ci := 5) (v := .ref r17) (C := RX5) (T := TX5) (N := 27) hx hb hts inX5 hown hK hP 0 rfl rfl 17 (by decide) (hts _ (good_at 689 (by decide +kernel) rfl)) (fun _ h9 => h9) rfl dX5_forgets_20 ?_
  refine lv_sipush (v := 370) hx hb dX5_forgets_23 (by decide) ?_
  refine lv_iload_n hx hb dX5_forgets_26 rfl (lv_at hl 0 rfl) ?_
  refine lv_imul hx hb dX5_forgets_27 ?_
  rw [show ((370 : Int32) * 1) = 370 from by decide]
  refine lv_iconst (v := (-1)) hx hb dX5_forgets_28 (by decide) ?_
  refine va_iast hx hb hK hP hD hS 2 0 rfl rfl (by unfold vp_in; decide) dX5_forgets_29 (fun H locs hP hD hS => ?_)
  have hP : va_P D vwCl [(h0, .inr (5, [.ref r0, .ref r1, .ref r2, .ref r3, .int 0, .long 0, .long 1, .int 0, .ref r8, .int 0, .ref r10, .ref r11, .ref r12, .ref r13, .ref r14, .ref r15, .int (0), .ref r17, .int 0, .int 0, .int 0, .int 0, .int 0, .ref r23, .int 0, .ref r25, .ref r26])), (r14, .inl (c0, 9, .inl (upd (fun _ => 0) 0 0))), (r17, .inl (c0, 1110, .inl (upd (upd (fun _ => 0) 0 (-1)) 370 (-1))))] H := hP
  have hD : va_D A [(h0, .inr (5, [.ref r0, .ref r1, .ref r2, .ref r3, .int 0, .long 0, .long 1, .int 0, .ref r8, .int 0, .ref r10, .ref r11, .ref r12, .ref r13, .ref r14, .ref r15, .int (0), .ref r17, .int 0, .int 0, .int 0, .int 0, .int 0, .ref r23, .int 0, .ref r25, .ref r26])), (r14, .inl (c0, 9, .inl (upd (fun _ => 0) 0 0))), (r17, .inl (c0, 1110, .inl (upd (upd (fun _ => 0) 0 (-1)) 370 (-1))))] := hD
  refine lv_iinc (v := 2) (lv' := [(1, .int (2)), (0, .ref h0)]) hx hb dX5_forgets_30 hl (k := 0) rfl (by decide) (by decide) rfl (fun ls hl => ?_)
  refine lv_goto (tgt := 14) hx hb dX5_forgets_33 (by decide) ?_
  refine lv_iload_n hx hb dX5_forgets_14 rfl (lv_at hl 0 rfl) ?_
  refine lv_iconst (v := 3) hx hb dX5_forgets_15 (by decide) ?_
  refine lv_icmp_ge (tgt := 36) hx hb dX5_forgets_16 (by decide) (fun c => absurd c (by decide)) (fun _ => ?_)
  refine lv_aload_n hx hb dX5_forgets_19 rfl (lv_at hl 1 rfl) ?_
  refine va_get (D := D) (ci := 5) (v := .ref r17) (C := RX5) (T := TX5) (N := 27) hx hb hts inX5 hown hK hP 0 rfl rfl 17 (by decide) (hts _ (good_at 689 (by decide +kernel) rfl)) (fun _ h9 => h9) rfl dX5_forgets_20 ?_
  refine lv_sipush (v := 370) hx hb dX5_forgets_23 (by decide) ?_
  refine lv_iload_n hx hb dX5_forgets_26 rfl (lv_at hl 0 rfl) ?_
  refine lv_imul hx hb dX5_forgets_27 ?_
  rw [show ((370 : Int32) * 2) = 740 from by decide]
  refine lv_iconst (v := (-1)) hx hb dX5_forgets_28 (by decide) ?_
  refine va_iast hx hb hK hP hD hS 2 0 rfl rfl (by unfold vp_in; decide) dX5_forgets_29 (fun H locs hP hD hS => ?_)
  have hP : va_P D vwCl [(h0, .inr (5, [.ref r0, .ref r1, .ref r2, .ref r3, .int 0, .long 0, .long 1, .int 0, .ref r8, .int 0, .ref r10, .ref r11, .ref r12, .ref r13, .ref r14, .ref r15, .int (0), .ref r17, .int 0, .int 0, .int 0, .int 0, .int 0, .ref r23, .int 0, .ref r25, .ref r26])), (r14, .inl (c0, 9, .inl (upd (fun _ => 0) 0 0))), (r17, .inl (c0, 1110, .inl (upd (upd (upd (fun _ => 0) 0 (-1)) 370 (-1)) 740 (-1))))] H := hP
  have hD : va_D A [(h0, .inr (5, [.ref r0, .ref r1, .ref r2, .ref r3, .int 0, .long 0, .long 1, .int 0, .ref r8, .int 0, .ref r10, .ref r11, .ref r12, .ref r13, .ref r14, .ref r15, .int (0), .ref r17, .int 0, .int 0, .int 0, .int 0, .int 0, .ref r23, .int 0, .ref r25, .ref r26])), (r14, .inl (c0, 9, .inl (upd (fun _ => 0) 0 0))), (r17, .inl (c0, 1110, .inl (upd (upd (upd (fun _ => 0) 0 (-1)) 370 (-1)) 740 (-1))))] := hD
  refine lv_iinc (v := 3) (lv' := [(1, .int (3)), (0, .ref h0)]) hx hb dX5_forgets_30 hl (k := 0) rfl (by decide) (by decide) rfl (fun ls hl => ?_)
  refine lv_goto (tgt := 14) hx hb dX5_forgets_33 (by decide) ?_
  refine lv_iload_n hx hb dX5_forgets_14 rfl (lv_at hl 0 rfl) ?_
  refine lv_iconst (v := 3) hx hb dX5_forgets_15 (by decide) ?_
  refine lv_icmp_ge (tgt := 36) hx hb dX5_forgets_16 (by decide) (fun _ => ?_) (fun c => absurd (by decide) c)
  exact W.vret hx hb hr (fun t ht hW => ⟨⟨(), rfl, trivial, ⟨by rw [ht]; exact hP, va_K.moved hW.alike hK, hD⟩⟩, hS.F ht⟩) hS.2.2 dX5_forgets_36
