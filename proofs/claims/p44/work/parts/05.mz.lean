section LAWS
variable {lay : List Kd} {ad : Nat → Nat} {X : XX} {cc : ByteArray} {own : String} {nL lev : Nat} {ret : Option FieldType} {M' : Mem} {v' : Option Value} {M : Mem} {pc : Nat} {lv lv' : List (Nat × Value)} {st : List Value}
theorem L_ldc (h : Lx lay ad X cc own nL lev ret M' v') {idx : Nat} {v : Int32} (hw : Cond.constant own idx v ∈ lw_good) (hd : decode cc pc = .ok (.ldc idx, 2)) (k : Lp lay ad X M (pc + 2) lv (.int v :: st)) : Lp lay ad X M pc lv (st) := by
  obtain ⟨⟨l, D, cA, t⟩, p, e, s, m, args, below, meth, c, nL', lev', Mf, vf⟩ := X
  obtain ⟨hx, hb, hr, hml, hown, hts, hlk, hK, hI, hAA, hZ, hNW, rfl, rfl, rfl, hlev, hcc, harg, hv1⟩ := h
  intro H locs ls hP hS hl
  exact lv_ldc hx hb hown (hts _ hw) hd (k H locs ls hP hS hl)
theorem L_ldcw (h : Lx lay ad X cc own nL lev ret M' v') {idx : Nat} {v : Int32} (hw : Cond.constant own idx v ∈ lw_good) (hd : decode cc pc = .ok (.ldc_w idx, 3)) (k : Lp lay ad X M (pc + 3) lv (.int v :: st)) : Lp lay ad X M pc lv (st) := by
  obtain ⟨⟨l, D, cA, t⟩, p, e, s, m, args, below, meth, c, nL', lev', Mf, vf⟩ := X
  obtain ⟨hx, hb, hr, hml, hown, hts, hlk, hK, hI, hAA, hZ, hNW, rfl, rfl, rfl, hlev, hcc, harg, hv1⟩ := h
  intro H locs ls hP hS hl
  exact lv_ldcw hx hb hown (hts _ hw) hd (k H locs ls hP hS hl)
theorem L_ldc2 (h : Lx lay ad X cc own nL lev ret M' v') {idx : Nat} {v : Int64} (hw : Cond.constantLong own idx v ∈ lw_good) (hd : decode cc pc = .ok (.ldc2_w idx, 3)) (k : Lp lay ad X M (pc + 3) lv (.long v :: st)) : Lp lay ad X M pc lv (st) := by
  obtain ⟨⟨l, D, cA, t⟩, p, e, s, m, args, below, meth, c, nL', lev', Mf, vf⟩ := X
  obtain ⟨hx, hb, hr, hml, hown, hts, hlk, hK, hI, hAA, hZ, hNW, rfl, rfl, rfl, hlev, hcc, harg, hv1⟩ := h
  intro H locs ls hP hS hl
  exact lv_ldc2 hx hb hown (hts _ hw) hd (k H locs ls hP hS hl)
end LAWS
