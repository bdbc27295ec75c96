-- ===== end of PART A; then your names; then what follows =====
/-! THE CLAIM OUT OF ONE WALK OF THE LAW'S BODY. Your part is whole_start (and what it stands on); all else here is the same for every law, but numbers. -/
def R_law : String := "PinDutiesLaw"
def lw_P (b : Addr) (xs : List Int32) (args : Array Value) (s : State) : Prop := args = #[.ref b] ∧ s.IntsAt b xs ∧ xs.length ≤ 260 ∧ (Jvm.Cond.and given_1 narrow_1).before args s = true
def lw_Q (_ : Array Value) (s : State) (o : Outcome) (t : State) : Prop := o = .returned (some (.int 1)) ∧ Framed s o t [] 600000 7302250
def lw_Z (below : List Frame) (a : Array Value) (s : State) : State → Prop := fun t => ∃ o, t.status = .running ∧ Ended t below o ∧ lw_Q a s o t
/-- the law's own end, with 1 on the stack, nothing written that was there before, its room as the claim has it -/
theorem lw_ret {p : Program} {l : Launch} {e : Env} {s : State} {m : MethodId} {below : List Frame} {meth : Method} {c : Code} {b : Nat} (hx : p.tables.exec = Jvm.exec) (hb : c.code = code) (hr : meth.sig.returnType = ret) (hlocks : meth.locks = false) {pc : Nat} {H : Heap} {ls : Array Slot} (hdg : decode code pc = .ok (.ireturn, 1)) : W p l e room_1 s m #[Value.ref b] below meth c H [] 600000 7302250 (lw_Z below #[Value.ref b] s) (F0 m pc ls [.int 1]) := by
  intro T hT X
  obtain ⟨fs, hret, hrun, hended, hW, hframe⟩ := X.leave (v := some (.int 1)) (hlocks := hlocks) (fun h => by rw [hr] at h; cases h)
  have hmeth' : T.vm.method? m = some meth := X.method'
  refine ⟨T.setFrames fs, ?_, .returned (some (.int 1)), hrun, hended, rfl, ⟨_, rfl⟩, hW, hframe⟩
  jvm_step X.here [X.here.top, hx, hb, hdg, hmeth', hr, ret, narrow_b1]
  (try refine ⟨rfl, ?_⟩); (try refine ⟨rfl, ?_⟩)
  first | (intro acts; rw [hret _ acts rfl rfl rfl]) | rw [hret _ _ rfl rfl rfl]
  exact Steps.refl _
/-- what holds at the law's entry: the machine, the code, the tables' words (any of lw_tbl by 'hts w (by decide +kernel)'), the script of L ints xs at the cell b, what the Statement gives of the start (any of its parts by flat_of_before) -/
def lw_At (p : Program) (s : State) (m : MethodId) (meth : Method) (c : Code) (b L : Nat) (xs : Nat → Int32) : Prop :=
  p.tables.exec = Jvm.exec ∧ c.code = code ∧ meth.sig.returnType = ret ∧ c.maxLocals = 30 ∧ s.vm.findClass R_law = some m.cls ∧ (∀ w ∈ lw_tbl, w.before #[Value.ref b] s = true) ∧ va_X b L xs s s.heap ∧ b < s.heap.size ∧ meth.locks = false ∧ (Jvm.Cond.and given_1 narrow_1).before #[Value.ref b] s = true
def A0 (s : State) : Nat → Prop := fun q => s.heap.size ≤ q
/-- what holds all through the law's body -/
def Lx (lay : List Kd) (ad : Nat → Nat) (X : XX) (cc : ByteArray) (own : String) (nL lev : Nat) (rt : Option FieldType) (M' : Mem) (v' : Option Value) : Prop := match X with
  | (z, p, _, s, m, args, _, meth, c, nL', lev', Mf, vf) => p.tables.exec = Jvm.exec ∧ c.code = cc ∧ meth.sig.returnType = rt ∧ c.maxLocals = nL ∧ s.vm.findClass own = some m.cls ∧ (∀ w ∈ lw_good, w.before args s = true) ∧ meth.locks = false ∧ va_K z.2.1 vwCl (tysOf z.2.2.1) s ∧ Inj lay ad ∧ (∀ q, AA lay ad q → s.heap.size ≤ q) ∧ SI lay ad z.2.2.2 s s.heap ∧ NW s ∧ nL' = nL ∧ lev' = lev ∧ vf = v' ∧ lev ≤ 1000 ∧ (cc = code ∧ rt = ret) ∧ args = #[.ref (zB z)] ∧ v' = some (.int 1)
def Lp (lay : List Kd) (ad : Nat → Nat) (X : XX) (M : Mem) (pc : Nat) (lv : List (Nat × Value)) (st : List Value) : Prop := match X with
  | (z, p, e, s, m, args, below, meth, c, nL, lev, Mf, vf) => ∀ (H : Heap) (locs : List Loc) (ls : Array Slot), va_P z.2.1 vwCl (wsOf lay ad z.2.2.1 M) H → va_S (A0 s) s.heap H locs → lv_has ls nL lv → W p z.1 e room_1 s m args below meth c H locs 600000 7302250 (lw_Z below args s) (F0 m pc ls st)
section LAWR
variable {lay : List Kd} {ad : Nat → Nat} {X : XX} {cc : ByteArray} {own : String} {nL lev : Nat} {ret : Option FieldType} {M' : Mem} {v' : Option Value} {M : Mem} {pc : Nat} {lv lv' : List (Nat × Value)} {st : List Value}
theorem Lp_sub {nX : Nat} (ks : List Nat) (hl : lv_pick lv ks = lv') (k : Lp lay ad X M pc lv' st) : Lp lay ad X M pc lv st := by
  obtain ⟨z, p, e, s, m, args, below, meth, c, nL', lev', Mf, vf⟩ := X
  intro H locs ls hP hS hh
  exact k H locs ls hP hS (lv_sub hh ks hl)
theorem L_iconst (h : Lx lay ad X cc own nL lev ret M' v') {n : Int} {v : Int32} (hv : Int32.ofInt n = v) (hd : decode cc pc = .ok (.iconst n, 1)) (k : Lp lay ad X M (pc + 1) lv (.int v :: st)) : Lp lay ad X M pc lv (st) := by
  obtain ⟨⟨l, D, cA, t⟩, p, e, s, m, args, below, meth, c, nL', lev', Mf, vf⟩ := X
  obtain ⟨hx, hb, hr, hml, hown, hts, hlk, hK, hI, hAA, hZ, hNW, rfl, rfl, rfl, hlev, hcc, harg, hv1⟩ := h
  intro H locs ls hP hS hl
  exact lv_iconst hx hb hd hv (k H locs ls hP hS hl)
theorem L_bipush (h : Lx lay ad X cc own nL lev ret M' v') {n : Int} {v : Int32} (hv : (Int8.ofInt n).toInt32 = v) (hd : decode cc pc = .ok (.bipush n, 2)) (k : Lp lay ad X M (pc + 2) lv (.int v :: st)) : Lp lay ad X M pc lv (st) := by
  obtain ⟨⟨l, D, cA, t⟩, p, e, s, m, args, below, meth, c, nL', lev', Mf, vf⟩ := X
  obtain ⟨hx, hb, hr, hml, hown, hts, hlk, hK, hI, hAA, hZ, hNW, rfl, rfl, rfl, hlev, hcc, harg, hv1⟩ := h
  intro H locs ls hP hS hl
  exact lv_bipush hx hb hd hv (k H locs ls hP hS hl)
theorem L_sipush (h : Lx lay ad X cc own nL lev ret M' v') {n : Int} {v : Int32} (hv : (Int16.ofInt n).toInt32 = v) (hd : decode cc pc = .ok (.sipush n, 3)) (k : Lp lay ad X M (pc + 3) lv (.int v :: st)) : Lp lay ad X M pc lv (st) := by
  obtain ⟨⟨l, D, cA, t⟩, p, e, s, m, args, below, meth, c, nL', lev', Mf, vf⟩ := X
  obtain ⟨hx, hb, hr, hml, hown, hts, hlk, hK, hI, hAA, hZ, hNW, rfl, rfl, rfl, hlev, hcc, harg, hv1⟩ := h
  intro H locs ls hP hS hl
  exact lv_sipush hx hb hd hv (k H locs ls hP hS hl)
theorem L_lconst (h : Lx lay ad X cc own nL lev ret M' v') {n : Fin 2} {v : Int64} (hv : Int64.ofNat (n : Nat) = v) (hd : decode cc pc = .ok (.lconst n, 1)) (k : Lp lay ad X M (pc + 1) lv (.long v :: st)) : Lp lay ad X M pc lv (st) := by
  obtain ⟨⟨l, D, cA, t⟩, p, e, s, m, args, below, meth, c, nL', lev', Mf, vf⟩ := X
  obtain ⟨hx, hb, hr, hml, hown, hts, hlk, hK, hI, hAA, hZ, hNW, rfl, rfl, rfl, hlev, hcc, harg, hv1⟩ := h
  intro H locs ls hP hS hl
  exact lv_lconst hx hb hd hv (k H locs ls hP hS hl)
theorem L_iadd (h : Lx lay ad X cc own nL lev ret M' v') {x y : Int32} (hd : decode cc pc = .ok (.iadd, 1)) (k : Lp lay ad X M (pc + 1) lv (.int (x + y) :: st)) : Lp lay ad X M pc lv (.int y :: .int x :: st) := by
  obtain ⟨⟨l, D, cA, t⟩, p, e, s, m, args, below, meth, c, nL', lev', Mf, vf⟩ := X
  obtain ⟨hx, hb, hr, hml, hown, hts, hlk, hK, hI, hAA, hZ, hNW, rfl, rfl, rfl, hlev, hcc, harg, hv1⟩ := h
  intro H locs ls hP hS hl
  exact lv_iadd hx hb hd (k H locs ls hP hS hl)
theorem L_isub (h : Lx lay ad X cc own nL lev ret M' v') {x y : Int32} (hd : decode cc pc = .ok (.isub, 1)) (k : Lp lay ad X M (pc + 1) lv (.int (x - y) :: st)) : Lp lay ad X M pc lv (.int y :: .int x :: st) := by
  obtain ⟨⟨l, D, cA, t⟩, p, e, s, m, args, below, meth, c, nL', lev', Mf, vf⟩ := X
  obtain ⟨hx, hb, hr, hml, hown, hts, hlk, hK, hI, hAA, hZ, hNW, rfl, rfl, rfl, hlev, hcc, harg, hv1⟩ := h
  intro H locs ls hP hS hl
  exact lv_isub hx hb hd (k H locs ls hP hS hl)
theorem L_imul (h : Lx lay ad X cc own nL lev ret M' v') {x y : Int32} (hd : decode cc pc = .ok (.imul, 1)) (k : Lp lay ad X M (pc + 1) lv (.int (x * y) :: st)) : Lp lay ad X M pc lv (.int y :: .int x :: st) := by
  obtain ⟨⟨l, D, cA, t⟩, p, e, s, m, args, below, meth, c, nL', lev', Mf, vf⟩ := X
  obtain ⟨hx, hb, hr, hml, hown, hts, hlk, hK, hI, hAA, hZ, hNW, rfl, rfl, rfl, hlev, hcc, harg, hv1⟩ := h
  intro H locs ls hP hS hl
  exact lv_imul hx hb hd (k H locs ls hP hS hl)
theorem L_iand (h : Lx lay ad X cc own nL lev ret M' v') {x y : Int32} (hd : decode cc pc = .ok (.iand, 1)) (k : Lp lay ad X M (pc + 1) lv (.int (x &&& y) :: st)) : Lp lay ad X M pc lv (.int y :: .int x :: st) := by
  obtain ⟨⟨l, D, cA, t⟩, p, e, s, m, args, below, meth, c, nL', lev', Mf, vf⟩ := X
  obtain ⟨hx, hb, hr, hml, hown, hts, hlk, hK, hI, hAA, hZ, hNW, rfl, rfl, rfl, hlev, hcc, harg, hv1⟩ := h
  intro H locs ls hP hS hl
  exact lv_iand hx hb hd (k H locs ls hP hS hl)
theorem L_ior (h : Lx lay ad X cc own nL lev ret M' v') {x y : Int32} (hd : decode cc pc = .ok (.ior, 1)) (k : Lp lay ad X M (pc + 1) lv (.int (x ||| y) :: st)) : Lp lay ad X M pc lv (.int y :: .int x :: st) := by
  obtain ⟨⟨l, D, cA, t⟩, p, e, s, m, args, below, meth, c, nL', lev', Mf, vf⟩ := X
  obtain ⟨hx, hb, hr, hml, hown, hts, hlk, hK, hI, hAA, hZ, hNW, rfl, rfl, rfl, hlev, hcc, harg, hv1⟩ := h
  intro H locs ls hP hS hl
  exact lv_ior hx hb hd (k H locs ls hP hS hl)
theorem L_ixor (h : Lx lay ad X cc own nL lev ret M' v') {x y : Int32} (hd : decode cc pc = .ok (.ixor, 1)) (k : Lp lay ad X M (pc + 1) lv (.int (x ^^^ y) :: st)) : Lp lay ad X M pc lv (.int y :: .int x :: st) := by
  obtain ⟨⟨l, D, cA, t⟩, p, e, s, m, args, below, meth, c, nL', lev', Mf, vf⟩ := X
  obtain ⟨hx, hb, hr, hml, hown, hts, hlk, hK, hI, hAA, hZ, hNW, rfl, rfl, rfl, hlev, hcc, harg, hv1⟩ := h
  intro H locs ls hP hS hl
  exact lv_ixor hx hb hd (k H locs ls hP hS hl)
theorem L_ishl (h : Lx lay ad X cc own nL lev ret M' v') {x y : Int32} (hd : decode cc pc = .ok (.ishl, 1)) (k : Lp lay ad X M (pc + 1) lv (.int (x <<< (y &&& 31)) :: st)) : Lp lay ad X M pc lv (.int y :: .int x :: st) := by
  obtain ⟨⟨l, D, cA, t⟩, p, e, s, m, args, below, meth, c, nL', lev', Mf, vf⟩ := X
  obtain ⟨hx, hb, hr, hml, hown, hts, hlk, hK, hI, hAA, hZ, hNW, rfl, rfl, rfl, hlev, hcc, harg, hv1⟩ := h
  intro H locs ls hP hS hl
  exact lv_ishl hx hb hd (k H locs ls hP hS hl)
theorem L_ishr (h : Lx lay ad X cc own nL lev ret M' v') {x y : Int32} (hd : decode cc pc = .ok (.ishr, 1)) (k : Lp lay ad X M (pc + 1) lv (.int (x >>> (y &&& 31)) :: st)) : Lp lay ad X M pc lv (.int y :: .int x :: st) := by
  obtain ⟨⟨l, D, cA, t⟩, p, e, s, m, args, below, meth, c, nL', lev', Mf, vf⟩ := X
  obtain ⟨hx, hb, hr, hml, hown, hts, hlk, hK, hI, hAA, hZ, hNW, rfl, rfl, rfl, hlev, hcc, harg, hv1⟩ := h
  intro H locs ls hP hS hl
  exact lv_ishr hx hb hd (k H locs ls hP hS hl)
theorem L_ineg (h : Lx lay ad X cc own nL lev ret M' v') {x : Int32} (hd : decode cc pc = .ok (.ineg, 1)) (k : Lp lay ad X M (pc + 1) lv (.int (-x) :: st)) : Lp lay ad X M pc lv (.int x :: st) := by
  obtain ⟨⟨l, D, cA, t⟩, p, e, s, m, args, below, meth, c, nL', lev', Mf, vf⟩ := X
  obtain ⟨hx, hb, hr, hml, hown, hts, hlk, hK, hI, hAA, hZ, hNW, rfl, rfl, rfl, hlev, hcc, harg, hv1⟩ := h
  intro H locs ls hP hS hl
  exact lv_ineg hx hb hd (k H locs ls hP hS hl)
theorem L_ladd (h : Lx lay ad X cc own nL lev ret M' v') {x y : Int64} (hd : decode cc pc = .ok (.ladd, 1)) (k : Lp lay ad X M (pc + 1) lv (.long (x + y) :: st)) : Lp lay ad X M pc lv (.long y :: .long x :: st) := by
  obtain ⟨⟨l, D, cA, t⟩, p, e, s, m, args, below, meth, c, nL', lev', Mf, vf⟩ := X
  obtain ⟨hx, hb, hr, hml, hown, hts, hlk, hK, hI, hAA, hZ, hNW, rfl, rfl, rfl, hlev, hcc, harg, hv1⟩ := h
  intro H locs ls hP hS hl
  exact lv_ladd hx hb hd (k H locs ls hP hS hl)
theorem L_lsub (h : Lx lay ad X cc own nL lev ret M' v') {x y : Int64} (hd : decode cc pc = .ok (.lsub, 1)) (k : Lp lay ad X M (pc + 1) lv (.long (x - y) :: st)) : Lp lay ad X M pc lv (.long y :: .long x :: st) := by
  obtain ⟨⟨l, D, cA, t⟩, p, e, s, m, args, below, meth, c, nL', lev', Mf, vf⟩ := X
  obtain ⟨hx, hb, hr, hml, hown, hts, hlk, hK, hI, hAA, hZ, hNW, rfl, rfl, rfl, hlev, hcc, harg, hv1⟩ := h
  intro H locs ls hP hS hl
  exact lv_lsub hx hb hd (k H locs ls hP hS hl)
theorem L_lmul (h : Lx lay ad X cc own nL lev ret M' v') {x y : Int64} (hd : decode cc pc = .ok (.lmul, 1)) (k : Lp lay ad X M (pc + 1) lv (.long (x * y) :: st)) : Lp lay ad X M pc lv (.long y :: .long x :: st) := by
  obtain ⟨⟨l, D, cA, t⟩, p, e, s, m, args, below, meth, c, nL', lev', Mf, vf⟩ := X
  obtain ⟨hx, hb, hr, hml, hown, hts, hlk, hK, hI, hAA, hZ, hNW, rfl, rfl, rfl, hlev, hcc, harg, hv1⟩ := h
  intro H locs ls hP hS hl
  exact lv_lmul hx hb hd (k H locs ls hP hS hl)
theorem L_i2l (h : Lx lay ad X cc own nL lev ret M' v') {x : Int32} (hd : decode cc pc = .ok (.i2l, 1)) (k : Lp lay ad X M (pc + 1) lv (.long x.toInt64 :: st)) : Lp lay ad X M pc lv (.int x :: st) := by
  obtain ⟨⟨l, D, cA, t⟩, p, e, s, m, args, below, meth, c, nL', lev', Mf, vf⟩ := X
  obtain ⟨hx, hb, hr, hml, hown, hts, hlk, hK, hI, hAA, hZ, hNW, rfl, rfl, rfl, hlev, hcc, harg, hv1⟩ := h
  intro H locs ls hP hS hl
  exact lv_i2l hx hb hd rfl (k H locs ls hP hS hl)
theorem L_l2i (h : Lx lay ad X cc own nL lev ret M' v') {x : Int64} (hd : decode cc pc = .ok (.l2i, 1)) (k : Lp lay ad X M (pc + 1) lv (.int x.toInt32 :: st)) : Lp lay ad X M pc lv (.long x :: st) := by
  obtain ⟨⟨l, D, cA, t⟩, p, e, s, m, args, below, meth, c, nL', lev', Mf, vf⟩ := X
  obtain ⟨hx, hb, hr, hml, hown, hts, hlk, hK, hI, hAA, hZ, hNW, rfl, rfl, rfl, hlev, hcc, harg, hv1⟩ := h
  intro H locs ls hP hS hl
  exact lv_l2i hx hb hd rfl (k H locs ls hP hS hl)
theorem L_lcmp (h : Lx lay ad X cc own nL lev ret M' v') {x y : Int64} (hd : decode cc pc = .ok (.lcmp, 1)) (k : Lp lay ad X M (pc + 1) lv (.int (lg_cmp x y) :: st)) : Lp lay ad X M pc lv (.long y :: .long x :: st) := by
  obtain ⟨⟨l, D, cA, t⟩, p, e, s, m, args, below, meth, c, nL', lev', Mf, vf⟩ := X
  obtain ⟨hx, hb, hr, hml, hown, hts, hlk, hK, hI, hAA, hZ, hNW, rfl, rfl, rfl, hlev, hcc, harg, hv1⟩ := h
  intro H locs ls hP hS hl
  exact W.lcmp hx hb hd (k H locs ls hP hS hl)
theorem L_idiv (h : Lx lay ad X cc own nL lev ret M' v') {x y q : Int32} (hq : dvI x y = some q) (hd : decode cc pc = .ok (.idiv, 1)) (k : Lp lay ad X M (pc + 1) lv (.int q :: st)) : Lp lay ad X M pc lv (.int y :: .int x :: st) := by
  obtain ⟨⟨l, D, cA, t⟩, p, e, s, m, args, below, meth, c, nL', lev', Mf, vf⟩ := X
  obtain ⟨hx, hb, hr, hml, hown, hts, hlk, hK, hI, hAA, hZ, hNW, rfl, rfl, rfl, hlev, hcc, harg, hv1⟩ := h
  intro H locs ls hP hS hl
  unfold dvI at hq
  by_cases c0 : y = 0
  · rw [if_pos c0] at hq; cases hq
  · rw [if_neg c0] at hq; cases hq; exact lv_idiv hx hb hd c0 (k H locs ls hP hS hl)
theorem L_irem (h : Lx lay ad X cc own nL lev ret M' v') {x y q : Int32} (hq : rmI x y = some q) (hd : decode cc pc = .ok (.irem, 1)) (k : Lp lay ad X M (pc + 1) lv (.int q :: st)) : Lp lay ad X M pc lv (.int y :: .int x :: st) := by
  obtain ⟨⟨l, D, cA, t⟩, p, e, s, m, args, below, meth, c, nL', lev', Mf, vf⟩ := X
  obtain ⟨hx, hb, hr, hml, hown, hts, hlk, hK, hI, hAA, hZ, hNW, rfl, rfl, rfl, hlev, hcc, harg, hv1⟩ := h
  intro H locs ls hP hS hl
  unfold rmI at hq
  by_cases c0 : y = 0
  · rw [if_pos c0] at hq; cases hq
  · rw [if_neg c0] at hq; cases hq; exact lv_irem hx hb hd c0 (k H locs ls hP hS hl)
theorem L_iload_n (h : Lx lay ad X cc own nL lev ret M' v') {k : Fin 4} {i : Nat} {x : Int32} (j : Nat) (hi : (k : Nat) = i) (hk : lv[j]? = some (i, .int x)) (hd : decode cc pc = .ok (.iload_n k, 1)) (k : Lp lay ad X M (pc + 1) lv (.int x :: st)) : Lp lay ad X M pc lv (st) := by
  obtain ⟨⟨l, D, cA, t⟩, p, e, s, m, args, below, meth, c, nL', lev', Mf, vf⟩ := X
  obtain ⟨hx, hb, hr, hml, hown, hts, hlk, hK, hI, hAA, hZ, hNW, rfl, rfl, rfl, hlev, hcc, harg, hv1⟩ := h
  intro H locs ls hP hS hl
  exact lv_iload_n hx hb hd hi (lv_at hl j hk) (k H locs ls hP hS hl)
theorem L_iload (h : Lx lay ad X cc own nL lev ret M' v') {i : Nat} {x : Int32} (j : Nat) (hk : lv[j]? = some (i, .int x)) (hd : decode cc pc = .ok (.iload i, 2)) (k : Lp lay ad X M (pc + 2) lv (.int x :: st)) : Lp lay ad X M pc lv (st) := by
  obtain ⟨⟨l, D, cA, t⟩, p, e, s, m, args, below, meth, c, nL', lev', Mf, vf⟩ := X
  obtain ⟨hx, hb, hr, hml, hown, hts, hlk, hK, hI, hAA, hZ, hNW, rfl, rfl, rfl, hlev, hcc, harg, hv1⟩ := h
  intro H locs ls hP hS hl
  exact lv_iload hx hb hd (lv_at hl j hk) (k H locs ls hP hS hl)
theorem L_lload_n (h : Lx lay ad X cc own nL lev ret M' v') {k : Fin 4} {i : Nat} {x : Int64} (j : Nat) (hi : (k : Nat) = i) (hk : lv[j]? = some (i, .long x)) (hd : decode cc pc = .ok (.lload_n k, 1)) (k : Lp lay ad X M (pc + 1) lv (.long x :: st)) : Lp lay ad X M pc lv (st) := by
  obtain ⟨⟨l, D, cA, t⟩, p, e, s, m, args, below, meth, c, nL', lev', Mf, vf⟩ := X
  obtain ⟨hx, hb, hr, hml, hown, hts, hlk, hK, hI, hAA, hZ, hNW, rfl, rfl, rfl, hlev, hcc, harg, hv1⟩ := h
  intro H locs ls hP hS hl
  exact lv_lload_n hx hb hd hi (lv_at hl j hk) (k H locs ls hP hS hl)
theorem L_lload (h : Lx lay ad X cc own nL lev ret M' v') {i : Nat} {x : Int64} (j : Nat) (hk : lv[j]? = some (i, .long x)) (hd : decode cc pc = .ok (.lload i, 2)) (k : Lp lay ad X M (pc + 2) lv (.long x :: st)) : Lp lay ad X M pc lv (st) := by
  obtain ⟨⟨l, D, cA, t⟩, p, e, s, m, args, below, meth, c, nL', lev', Mf, vf⟩ := X
  obtain ⟨hx, hb, hr, hml, hown, hts, hlk, hK, hI, hAA, hZ, hNW, rfl, rfl, rfl, hlev, hcc, harg, hv1⟩ := h
  intro H locs ls hP hS hl
  exact lv_lload hx hb hd (lv_at hl j hk) (k H locs ls hP hS hl)
theorem L_aload_n (h : Lx lay ad X cc own nL lev ret M' v') {k : Fin 4} {i : Nat} {x : Nat} (j : Nat) (hi : (k : Nat) = i) (hk : lv[j]? = some (i, .ref x)) (hd : decode cc pc = .ok (.aload_n k, 1)) (k : Lp lay ad X M (pc + 1) lv (.ref x :: st)) : Lp lay ad X M pc lv (st) := by
  obtain ⟨⟨l, D, cA, t⟩, p, e, s, m, args, below, meth, c, nL', lev', Mf, vf⟩ := X
  obtain ⟨hx, hb, hr, hml, hown, hts, hlk, hK, hI, hAA, hZ, hNW, rfl, rfl, rfl, hlev, hcc, harg, hv1⟩ := h
  intro H locs ls hP hS hl
  exact lv_aload_n hx hb hd hi (lv_at hl j hk) (k H locs ls hP hS hl)
theorem L_aload (h : Lx lay ad X cc own nL lev ret M' v') {i : Nat} {x : Nat} (j : Nat) (hk : lv[j]? = some (i, .ref x)) (hd : decode cc pc = .ok (.aload i, 2)) (k : Lp lay ad X M (pc + 2) lv (.ref x :: st)) : Lp lay ad X M pc lv (st) := by
  obtain ⟨⟨l, D, cA, t⟩, p, e, s, m, args, below, meth, c, nL', lev', Mf, vf⟩ := X
  obtain ⟨hx, hb, hr, hml, hown, hts, hlk, hK, hI, hAA, hZ, hNW, rfl, rfl, rfl, hlev, hcc, harg, hv1⟩ := h
  intro H locs ls hP hS hl
  exact lv_aload hx hb hd (lv_at hl j hk) (k H locs ls hP hS hl)
theorem L_istore_n (h : Lx lay ad X cc own nL lev ret M' v') {k : Fin 4} {i : Nat} {x x' : Int32} (he : x' = x) (hi : (k : Nat) = i) (hn : i < nL) (hf : (i, Value.int x') :: lv.filter (fun q => !(q.1 == i) && !(q.1 + 1 == i && q.2.category == 2)) = lv') (hd : decode cc pc = .ok (.istore_n k, 1)) (k : Lp lay ad X M (pc + 1) lv' (st)) : Lp lay ad X M pc lv (.int x :: st) := by
  obtain ⟨⟨l, D, cA, t⟩, p, e, s, m, args, below, meth, c, nL', lev', Mf, vf⟩ := X
  obtain ⟨hx, hb, hr, hml, hown, hts, hlk, hK, hI, hAA, hZ, hNW, rfl, rfl, rfl, hlev, hcc, harg, hv1⟩ := h
  intro H locs ls hP hS hl
  subst he; exact lv_istore_n hx hb hd hi hl hn hf (fun ls' hl' => k H locs ls' hP hS hl')
theorem L_istore (h : Lx lay ad X cc own nL lev ret M' v') {i : Nat} {x x' : Int32} (he : x' = x) (hn : i < nL) (hf : (i, Value.int x') :: lv.filter (fun q => !(q.1 == i) && !(q.1 + 1 == i && q.2.category == 2)) = lv') (hd : decode cc pc = .ok (.istore i, 2)) (k : Lp lay ad X M (pc + 2) lv' (st)) : Lp lay ad X M pc lv (.int x :: st) := by
  obtain ⟨⟨l, D, cA, t⟩, p, e, s, m, args, below, meth, c, nL', lev', Mf, vf⟩ := X
  obtain ⟨hx, hb, hr, hml, hown, hts, hlk, hK, hI, hAA, hZ, hNW, rfl, rfl, rfl, hlev, hcc, harg, hv1⟩ := h
  intro H locs ls hP hS hl
  subst he; exact lv_istore hx hb hd hl hn hf (fun ls' hl' => k H locs ls' hP hS hl')
theorem L_lstore_n (h : Lx lay ad X cc own nL lev ret M' v') {k : Fin 4} {i : Nat} {x x' : Int64} (he : x' = x) (hi : (k : Nat) = i) (hn : i + 1 < nL) (hf : (i, Value.long x') :: lv.filter (fun q => !(q.1 == i) && (!(q.1 == i + 1) && !(q.1 + 1 == i && q.2.category == 2))) = lv') (hd : decode cc pc = .ok (.lstore_n k, 1)) (k : Lp lay ad X M (pc + 1) lv' (st)) : Lp lay ad X M pc lv (.long x :: st) := by
  obtain ⟨⟨l, D, cA, t⟩, p, e, s, m, args, below, meth, c, nL', lev', Mf, vf⟩ := X
  obtain ⟨hx, hb, hr, hml, hown, hts, hlk, hK, hI, hAA, hZ, hNW, rfl, rfl, rfl, hlev, hcc, harg, hv1⟩ := h
  intro H locs ls hP hS hl
  subst he; exact lv_lstore_n hx hb hd hi hl hn hf (fun ls' hl' => k H locs ls' hP hS hl')
theorem L_lstore (h : Lx lay ad X cc own nL lev ret M' v') {i : Nat} {x x' : Int64} (he : x' = x) (hn : i + 1 < nL) (hf : (i, Value.long x') :: lv.filter (fun q => !(q.1 == i) && (!(q.1 == i + 1) && !(q.1 + 1 == i && q.2.category == 2))) = lv') (hd : decode cc pc = .ok (.lstore i, 2)) (k : Lp lay ad X M (pc + 2) lv' (st)) : Lp lay ad X M pc lv (.long x :: st) := by
  obtain ⟨⟨l, D, cA, t⟩, p, e, s, m, args, below, meth, c, nL', lev', Mf, vf⟩ := X
  obtain ⟨hx, hb, hr, hml, hown, hts, hlk, hK, hI, hAA, hZ, hNW, rfl, rfl, rfl, hlev, hcc, harg, hv1⟩ := h
  intro H locs ls hP hS hl
  subst he; exact lv_lstore hx hb hd hl hn hf (fun ls' hl' => k H locs ls' hP hS hl')
theorem L_iinc (h : Lx lay ad X cc own nL lev ret M' v') {i : Nat} {n : Int} {x x' v0 : Int32} (j : Nat) (hk : lv[j]? = some (i, .int x)) (hv : Int32.ofInt n = v0) (he : x' = x + v0) (hn : i < nL) (hf : (i, Value.int x') :: lv.filter (fun q => !(q.1 == i) && !(q.1 + 1 == i && q.2.category == 2)) = lv') (hd : decode cc pc = .ok (.iinc i n, 3)) (k : Lp lay ad X M (pc + 3) lv' (st)) : Lp lay ad X M pc lv (st) := by
  obtain ⟨⟨l, D, cA, t⟩, p, e, s, m, args, below, meth, c, nL', lev', Mf, vf⟩ := X
  obtain ⟨hx, hb, hr, hml, hown, hts, hlk, hK, hI, hAA, hZ, hNW, rfl, rfl, rfl, hlev, hcc, harg, hv1⟩ := h
  intro H locs ls hP hS hl
  exact lv_iinc hx hb hd hl hk (by rw [hv]; exact he.symm) hn hf (fun ls' hl' => k H locs ls' hP hS hl')
theorem L_if_eq (h : Lx lay ad X cc own nL lev ret M' v') {x : Int32} {off : Int} {tgt : Nat} (hd : decode cc pc = .ok (.ifCond .eq off, 3)) (ht : (pc : Int) + off = (tgt : Int)) (kt : x = 0 → Lp lay ad X M tgt lv (st)) (kf : ¬ x = 0 → Lp lay ad X M (pc + 3) lv (st)) : Lp lay ad X M pc lv (.int x :: st) := by
  obtain ⟨⟨l, D, cA, t⟩, p, e, s, m, args, below, meth, c, nL', lev', Mf, vf⟩ := X
  obtain ⟨hx, hb, hr, hml, hown, hts, hlk, hK, hI, hAA, hZ, hNW, rfl, rfl, rfl, hlev, hcc, harg, hv1⟩ := h
  intro H locs ls hP hS hl
  exact lv_if_eq hx hb hd ht (fun c => kt c H locs ls hP hS hl) (fun c => kf c H locs ls hP hS hl)
theorem L_icmp_eq (h : Lx lay ad X cc own nL lev ret M' v') {x y : Int32} {off : Int} {tgt : Nat} (hd : decode cc pc = .ok (.if_icmp .eq off, 3)) (ht : (pc : Int) + off = (tgt : Int)) (kt : x = y → Lp lay ad X M tgt lv (st)) (kf : ¬ x = y → Lp lay ad X M (pc + 3) lv (st)) : Lp lay ad X M pc lv (.int y :: .int x :: st) := by
  obtain ⟨⟨l, D, cA, t⟩, p, e, s, m, args, below, meth, c, nL', lev', Mf, vf⟩ := X
  obtain ⟨hx, hb, hr, hml, hown, hts, hlk, hK, hI, hAA, hZ, hNW, rfl, rfl, rfl, hlev, hcc, harg, hv1⟩ := h
  intro H locs ls hP hS hl
  exact lv_icmp_eq hx hb hd ht (fun c => kt c H locs ls hP hS hl) (fun c => kf c H locs ls hP hS hl)
theorem L_if_ne (h : Lx lay ad X cc own nL lev ret M' v') {x : Int32} {off : Int} {tgt : Nat} (hd : decode cc pc = .ok (.ifCond .ne off, 3)) (ht : (pc : Int) + off = (tgt : Int)) (kt : ¬ x = 0 → Lp lay ad X M tgt lv (st)) (kf : x = 0 → Lp lay ad X M (pc + 3) lv (st)) : Lp lay ad X M pc lv (.int x :: st) := by
  obtain ⟨⟨l, D, cA, t⟩, p, e, s, m, args, below, meth, c, nL', lev', Mf, vf⟩ := X
  obtain ⟨hx, hb, hr, hml, hown, hts, hlk, hK, hI, hAA, hZ, hNW, rfl, rfl, rfl, hlev, hcc, harg, hv1⟩ := h
  intro H locs ls hP hS hl
  exact lv_if_ne hx hb hd ht (fun c => kt c H locs ls hP hS hl) (fun c => kf c H locs ls hP hS hl)
theorem L_icmp_ne (h : Lx lay ad X cc own nL lev ret M' v') {x y : Int32} {off : Int} {tgt : Nat} (hd : decode cc pc = .ok (.if_icmp .ne off, 3)) (ht : (pc : Int) + off = (tgt : Int)) (kt : ¬ x = y → Lp lay ad X M tgt lv (st)) (kf : x = y → Lp lay ad X M (pc + 3) lv (st)) : Lp lay ad X M pc lv (.int y :: .int x :: st) := by
  obtain ⟨⟨l, D, cA, t⟩, p, e, s, m, args, below, meth, c, nL', lev', Mf, vf⟩ := X
  obtain ⟨hx, hb, hr, hml, hown, hts, hlk, hK, hI, hAA, hZ, hNW, rfl, rfl, rfl, hlev, hcc, harg, hv1⟩ := h
  intro H locs ls hP hS hl
  exact lv_icmp_ne hx hb hd ht (fun c => kt c H locs ls hP hS hl) (fun c => kf c H locs ls hP hS hl)
theorem L_if_lt (h : Lx lay ad X cc own nL lev ret M' v') {x : Int32} {off : Int} {tgt : Nat} (hd : decode cc pc = .ok (.ifCond .lt off, 3)) (ht : (pc : Int) + off = (tgt : Int)) (kt : x < 0 → Lp lay ad X M tgt lv (st)) (kf : ¬ x < 0 → Lp lay ad X M (pc + 3) lv (st)) : Lp lay ad X M pc lv (.int x :: st) := by
  obtain ⟨⟨l, D, cA, t⟩, p, e, s, m, args, below, meth, c, nL', lev', Mf, vf⟩ := X
  obtain ⟨hx, hb, hr, hml, hown, hts, hlk, hK, hI, hAA, hZ, hNW, rfl, rfl, rfl, hlev, hcc, harg, hv1⟩ := h
  intro H locs ls hP hS hl
  exact lv_if_lt hx hb hd ht (fun c => kt c H locs ls hP hS hl) (fun c => kf c H locs ls hP hS hl)
theorem L_icmp_lt (h : Lx lay ad X cc own nL lev ret M' v') {x y : Int32} {off : Int} {tgt : Nat} (hd : decode cc pc = .ok (.if_icmp .lt off, 3)) (ht : (pc : Int) + off = (tgt : Int)) (kt : x < y → Lp lay ad X M tgt lv (st)) (kf : ¬ x < y → Lp lay ad X M (pc + 3) lv (st)) : Lp lay ad X M pc lv (.int y :: .int x :: st) := by
  obtain ⟨⟨l, D, cA, t⟩, p, e, s, m, args, below, meth, c, nL', lev', Mf, vf⟩ := X
  obtain ⟨hx, hb, hr, hml, hown, hts, hlk, hK, hI, hAA, hZ, hNW, rfl, rfl, rfl, hlev, hcc, harg, hv1⟩ := h
  intro H locs ls hP hS hl
  exact lv_icmp_lt hx hb hd ht (fun c => kt c H locs ls hP hS hl) (fun c => kf c H locs ls hP hS hl)
theorem L_if_ge (h : Lx lay ad X cc own nL lev ret M' v') {x : Int32} {off : Int} {tgt : Nat} (hd : decode cc pc = .ok (.ifCond .ge off, 3)) (ht : (pc : Int) + off = (tgt : Int)) (kt : 0 ≤ x → Lp lay ad X M tgt lv (st)) (kf : ¬ 0 ≤ x → Lp lay ad X M (pc + 3) lv (st)) : Lp lay ad X M pc lv (.int x :: st) := by
  obtain ⟨⟨l, D, cA, t⟩, p, e, s, m, args, below, meth, c, nL', lev', Mf, vf⟩ := X
  obtain ⟨hx, hb, hr, hml, hown, hts, hlk, hK, hI, hAA, hZ, hNW, rfl, rfl, rfl, hlev, hcc, harg, hv1⟩ := h
  intro H locs ls hP hS hl
  exact lv_if_ge hx hb hd ht (fun c => kt c H locs ls hP hS hl) (fun c => kf c H locs ls hP hS hl)
theorem L_icmp_ge (h : Lx lay ad X cc own nL lev ret M' v') {x y : Int32} {off : Int} {tgt : Nat} (hd : decode cc pc = .ok (.if_icmp .ge off, 3)) (ht : (pc : Int) + off = (tgt : Int)) (kt : y ≤ x → Lp lay ad X M tgt lv (st)) (kf : ¬ y ≤ x → Lp lay ad X M (pc + 3) lv (st)) : Lp lay ad X M pc lv (.int y :: .int x :: st) := by
  obtain ⟨⟨l, D, cA, t⟩, p, e, s, m, args, below, meth, c, nL', lev', Mf, vf⟩ := X
  obtain ⟨hx, hb, hr, hml, hown, hts, hlk, hK, hI, hAA, hZ, hNW, rfl, rfl, rfl, hlev, hcc, harg, hv1⟩ := h
  intro H locs ls hP hS hl
  exact lv_icmp_ge hx hb hd ht (fun c => kt c H locs ls hP hS hl) (fun c => kf c H locs ls hP hS hl)
theorem L_if_gt (h : Lx lay ad X cc own nL lev ret M' v') {x : Int32} {off : Int} {tgt : Nat} (hd : decode cc pc = .ok (.ifCond .gt off, 3)) (ht : (pc : Int) + off = (tgt : Int)) (kt : 0 < x → Lp lay ad X M tgt lv (st)) (kf : ¬ 0 < x → Lp lay ad X M (pc + 3) lv (st)) : Lp lay ad X M pc lv (.int x :: st) := by
  obtain ⟨⟨l, D, cA, t⟩, p, e, s, m, args, below, meth, c, nL', lev', Mf, vf⟩ := X
  obtain ⟨hx, hb, hr, hml, hown, hts, hlk, hK, hI, hAA, hZ, hNW, rfl, rfl, rfl, hlev, hcc, harg, hv1⟩ := h
  intro H locs ls hP hS hl
  exact lv_if_gt hx hb hd ht (fun c => kt c H locs ls hP hS hl) (fun c => kf c H locs ls hP hS hl)
theorem L_icmp_gt (h : Lx lay ad X cc own nL lev ret M' v') {x y : Int32} {off : Int} {tgt : Nat} (hd : decode cc pc = .ok (.if_icmp .gt off, 3)) (ht : (pc : Int) + off = (tgt : Int)) (kt : y < x → Lp lay ad X M tgt lv (st)) (kf : ¬ y < x → Lp lay ad X M (pc + 3) lv (st)) : Lp lay ad X M pc lv (.int y :: .int x :: st) := by
  obtain ⟨⟨l, D, cA, t⟩, p, e, s, m, args, below, meth, c, nL', lev', Mf, vf⟩ := X
  obtain ⟨hx, hb, hr, hml, hown, hts, hlk, hK, hI, hAA, hZ, hNW, rfl, rfl, rfl, hlev, hcc, harg, hv1⟩ := h
  intro H locs ls hP hS hl
  exact lv_icmp_gt hx hb hd ht (fun c => kt c H locs ls hP hS hl) (fun c => kf c H locs ls hP hS hl)
theorem L_if_le (h : Lx lay ad X cc own nL lev ret M' v') {x : Int32} {off : Int} {tgt : Nat} (hd : decode cc pc = .ok (.ifCond .le off, 3)) (ht : (pc : Int) + off = (tgt : Int)) (kt : x ≤ 0 → Lp lay ad X M tgt lv (st)) (kf : ¬ x ≤ 0 → Lp lay ad X M (pc + 3) lv (st)) : Lp lay ad X M pc lv (.int x :: st) := by
  obtain ⟨⟨l, D, cA, t⟩, p, e, s, m, args, below, meth, c, nL', lev', Mf, vf⟩ := X
  obtain ⟨hx, hb, hr, hml, hown, hts, hlk, hK, hI, hAA, hZ, hNW, rfl, rfl, rfl, hlev, hcc, harg, hv1⟩ := h
  intro H locs ls hP hS hl
  exact lv_if_le hx hb hd ht (fun c => kt c H locs ls hP hS hl) (fun c => kf c H locs ls hP hS hl)
theorem L_icmp_le (h : Lx lay ad X cc own nL lev ret M' v') {x y : Int32} {off : Int} {tgt : Nat} (hd : decode cc pc = .ok (.if_icmp .le off, 3)) (ht : (pc : Int) + off = (tgt : Int)) (kt : x ≤ y → Lp lay ad X M tgt lv (st)) (kf : ¬ x ≤ y → Lp lay ad X M (pc + 3) lv (st)) : Lp lay ad X M pc lv (.int y :: .int x :: st) := by
  obtain ⟨⟨l, D, cA, t⟩, p, e, s, m, args, below, meth, c, nL', lev', Mf, vf⟩ := X
  obtain ⟨hx, hb, hr, hml, hown, hts, hlk, hK, hI, hAA, hZ, hNW, rfl, rfl, rfl, hlev, hcc, harg, hv1⟩ := h
  intro H locs ls hP hS hl
  exact lv_icmp_le hx hb hd ht (fun c => kt c H locs ls hP hS hl) (fun c => kf c H locs ls hP hS hl)
theorem L_goto (h : Lx lay ad X cc own nL lev ret M' v') {off : Int} {tgt : Nat} (hd : decode cc pc = .ok (.goto off, 3)) (ht : (pc : Int) + off = (tgt : Int)) (k : Lp lay ad X M tgt lv (st)) : Lp lay ad X M pc lv (st) := by
  obtain ⟨⟨l, D, cA, t⟩, p, e, s, m, args, below, meth, c, nL', lev', Mf, vf⟩ := X
  obtain ⟨hx, hb, hr, hml, hown, hts, hlk, hK, hI, hAA, hZ, hNW, rfl, rfl, rfl, hlev, hcc, harg, hv1⟩ := h
  intro H locs ls hP hS hl
  exact lv_goto hx hb hd ht (k H locs ls hP hS hl)
theorem L_iald (h : Lx lay ad X cc own nL lev ret M' v') {q0 n : Nat} {i v : Int32} (hrd : rd M q0 n i = some v) (hly : lay[q0]? = some (.inr (.inl (0, n)))) (hd : decode cc pc = .ok (.iaload, 1)) (k : Lp lay ad X M (pc + 1) lv (.int v :: st)) : Lp lay ad X M pc lv (.int i :: .ref (ad q0) :: st) := by
  obtain ⟨⟨l, D, cA, t⟩, p, e, s, m, args, below, meth, c, nL', lev', Mf, vf⟩ := X
  obtain ⟨hx, hb, hr, hml, hown, hts, hlk, hK, hI, hAA, hZ, hNW, rfl, rfl, rfl, hlev, hcc, harg, hv1⟩ := h
  intro H locs ls hP hS hl
  obtain ⟨h1, rfl⟩ := rd_s hrd
  exact va_iald hx hb hK hP q0 0 (wsOf_get hly) rfl h1 hd (k H locs ls hP hS hl)
theorem lp_call {p : Program} {l : Launch} {e : Env} {R : Room} {s : State} {m : MethodId} {args : Array Value} {below : List Frame} {meth : Method} {c : Code} {H : Heap} {locs : List Loc} {Q : State → Prop} {ls : Array Slot} {rest st0 : List Value} {a : Array Value} {z : ZZ} {M1 : Mem} {v : Option Value}
    (hr : va_Run p l e R s m args below meth c H locs 600000 7302250 0 0 (F0 m pc ls st0) rest (QQ lay ad z M1 v a) (AA lay ad)) (hS : va_S (A0 s) s.heap H locs) (hAA : ∀ q, AA lay ad q → s.heap.size ≤ q)
    (kk : ∀ (H1 : Heap) (locs1 : List Loc), va_P z.2.1 vwCl (wsOf lay ad z.2.2.1 M1) H1 → va_S (A0 s) s.heap H1 locs1 → W p l e R s m args below meth c H1 locs1 600000 7302250 Q (F0 m (pc + 3) ls (v.toList ++ rest))) : W p l e R s m args below meth c H locs 600000 7302250 Q (F0 m pc ls st0) := by
  intro T hT X
  obtain ⟨v1, st₀, t, T', L0, h0, X', hL, e1, e2, ⟨hv, hp, hz, hk⟩, stp⟩ := hr T hT X
  cases hv
  rw [h0] at hz hk
  obtain ⟨t2, a1, b1⟩ := kk T'.heap (locs ++ L0) (by rw [e1]; exact hp)
    ⟨Nat.le_trans hS.1 (by rw [e1]; exact hz), fun q h1 h2 => by rw [e1, hk q (Nat.lt_of_lt_of_le h1 hS.1) (fun zz => h2 (hAA q zz))]; exact hS.2.1 q h1 h2, fun q hq => by
      rcases List.mem_append.mp hq with h | h
      · exact hS.2.2 q h
      · exact hAA _ (hL q h)⟩ T' rfl X'
  exact ⟨t2, stp t2 a1, b1⟩
theorem L_callV (h : Lx lay ad X cc own nL lev ret M' v') {idx n lev2 : Nat} {y : MethodName} {bytes : ByteArray} {maxL : Nat} {rt : Option FieldType} {M1 : Mem} {v : Option Value} {st0 : List Value} (As : List Value) {ci q0 : Nat} {fs : List Nat} (hw : CV own idx y bytes maxL rt n ci) (hc : Con lay ad X.1 y bytes maxL rt lev2 M (.ref (ad q0) :: As) M1 v) (hs0 : st0 = As.reverse ++ .ref (ad q0) :: st) (hn : As.length = n) (hly : lay[q0]? = some (.inl (ci, fs))) (hlv : lev2 + 1 ≤ lev) (hmx : maxL ≤ 30) (hst : (st.map fun v => v.category).sum ≤ 8) (hd : decode cc pc = .ok (.invokevirtual idx, 3)) {st1 : List Value} (h1 : v.toList ++ st = st1) (k : Lp lay ad X M1 (pc + 3) lv (st1)) : Lp lay ad X M pc lv (st0) := by
  obtain ⟨⟨l, D, cA, t⟩, p, e, s, m, args, below, meth, c, nL', lev', Mf, vf⟩ := X
  obtain ⟨hx, hb, hr, hml, hown, hts, hlk, hK, hI, hAA, hZ, hNW, rfl, rfl, rfl, hlev, hcc, harg, hv1⟩ := h
  intro H locs ls hP hS hl
  subst hs0; subst h1
  obtain ⟨w1, w2, w3, w4, w5, w6, T, N, hvc⟩ := hw
  exact lp_call (va_runV (C := y.cls) (As := As) (rest := st) ⟨hx, hb, hml, hown, hts⟩ hc ⟨callB_of n hts (good_wsC w5) rfl rfl rfl (hts _ w4) (hts _ w1) w6 ⟨by show lev2 + 1 ≤ 2048; omega, by show 8 + (maxL + 11) + 50 * lev2 ≤ 84000; omega⟩, hts _ w2, hts _ w3⟩ ⟨PP_blind, va_recv hK hP (ci := ci) (q0 := q0) hvc (wsOf_get hly), fun U hU hW => ⟨rfl, by rw [hU]; exact hP, va_K.moved hW.alike hK, hI, by rw [hU]; exact SI.moved hW.alike (hZ.kept (fun a h1 h2 => hS.2.1 a h1 (Nat.not_le.mpr h1))), NW.warm hW hNW⟩⟩ rfl hn hl.1 rfl (lv_room hst) hd ⟨Nat.le_refl _, Nat.le_refl _⟩) hS hAA (fun H1 locs1 hP1 hS1 => k H1 locs1 ls hP1 hS1 hl)
theorem L_callS (h : Lx lay ad X cc own nL lev ret M' v') {idx n lev2 : Nat} {y : MethodName} {bytes : ByteArray} {maxL : Nat} {rt : Option FieldType} {M1 : Mem} {v : Option Value} {st0 : List Value} (As : List Value) (hw : CS own idx y bytes maxL rt n) (hc : Con lay ad X.1 y bytes maxL rt lev2 M As M1 v) (hs0 : st0 = As.reverse ++ st) (hn : As.length = n) (hlv : lev2 + 1 ≤ lev) (hmx : maxL ≤ 30) (hst : (st.map fun v => v.category).sum ≤ 8) (hd : decode cc pc = .ok (.invokestatic idx, 3)) {st1 : List Value} (h1 : v.toList ++ st = st1) (k : Lp lay ad X M1 (pc + 3) lv (st1)) : Lp lay ad X M pc lv (st0) := by
  obtain ⟨⟨l, D, cA, t⟩, p, e, s, m, args, below, meth, c, nL', lev', Mf, vf⟩ := X
  obtain ⟨hx, hb, hr, hml, hown, hts, hlk, hK, hI, hAA, hZ, hNW, rfl, rfl, rfl, hlev, hcc, harg, hv1⟩ := h
  intro H locs ls hP hS hl
  subst hs0; subst h1
  obtain ⟨w1, w2, w4, w5, w6⟩ := hw
  exact lp_call (va_runS (As := As) (rest := st) ⟨hx, hb, hml, hown, hts⟩ hc ⟨callB_of n hts (good_wsC w5) rfl rfl rfl (hts _ w4) (hts _ w1) w6 ⟨by show lev2 + 1 ≤ 2048; omega, by show 8 + (maxL + 11) + 50 * lev2 ≤ 84000; omega⟩, hts _ w2⟩ ⟨PP_blind, fun U hU hW => ⟨rfl, by rw [hU]; exact hP, va_K.moved hW.alike hK, hI, by rw [hU]; exact SI.moved hW.alike (hZ.kept (fun a h1 h2 => hS.2.1 a h1 (Nat.not_le.mpr h1))), NW.warm hW hNW⟩⟩ rfl hn hl.1 rfl (lv_room hst) hd ⟨Nat.le_refl _, Nat.le_refl _⟩) hS hAA (fun H1 locs1 hP1 hS1 => k H1 locs1 ls hP1 hS1 hl)
theorem L_zreturn (h : Lx lay ad X cc own nL lev ret M' v') {v w : Int32} {rt : Option FieldType} (hre : ret = rt) (hz : zr v = some w) {M1 : Mem} (hM : M = M1) (hv : some (Value.int w) = v') (hd : decode cc pc = .ok (.ireturn, 1)) : Lp lay ad X M pc lv (.int v :: []) := by
  obtain ⟨⟨l, D, cA, t⟩, p, e, s, m, args, below, meth, c, nL', lev', Mf, vf⟩ := X
  obtain ⟨hx, hb, hr, hml, hown, hts, hlk, hK, hI, hAA, hZ, hNW, rfl, rfl, rfl, hlev, hcc, harg, hv1⟩ := h
  intro H locs ls hP hS hl
  have hw : v = w := by
    unfold zr at hz
    by_cases c0 : v = 0 ∨ v = 1
    · rw [if_pos c0] at hz; exact Option.some.inj hz
    · rw [if_neg c0] at hz; cases hz
  subst hw
  obtain ⟨hcc, hrr⟩ := hcc
  subst harg
  subst hcc
  have h2 : Value.int v = Value.int 1 := Option.some.inj (hv.trans hv1)
  have h1 : v = 1 := Value.int.inj h2
  subst h1
  exact va_forget (fun q hq => hS.2.2 q hq) (lw_ret hx hb (hr.trans hrr) hlk hd)
end LAWR
