/-! 02: the world as a memory over a fixed layout; one rule an instruction -/
abbrev Mem : Type := (Nat → Nat → Int32) × (Nat → Nat → Int64)
abbrev Kd : Type := (Nat × List Nat) ⊕ (Nat × Nat) ⊕ (Nat × List Nat)
def sI (M : Mem) (p i : Nat) (v : Int32) : Mem := (fun q => if q = p then upd (M.1 q) i v else M.1 q, M.2)
def sL (M : Mem) (p i : Nat) (v : Int64) : Mem := (M.1, fun q => if q = p then vp_updL (M.2 q) i v else M.2 q)
def sF (M : Mem) (p : Nat) (f : Nat → Int32) : Mem := (fun q => if q = p then f else M.1 q, M.2)
def fv (ad : Nat → Nat) (M : Mem) (p k : Nat) (c : Nat) : Value := match c with
  | 0 => .int (M.1 p k)
  | 1 => .long (M.2 p k)
  | q + 2 => .ref (ad q)
def cellOf (ad : Nat → Nat) (cA : Nat → ClassId) (M : Mem) (p : Nat) (kd : Kd) : va_E := match kd with
  | .inl (ci, fs) => .inr (ci, fs.mapIdx (fv ad M p))
  | .inr (.inl (t, n)) => .inl (cA t, n, .inl (M.1 p))
  | .inr (.inr (t, qs)) => .inl (cA t, qs.length, .inr (.inr (.inr (.inr (fun i => (qs[i]?).map ad)))))
def wsOf (lay : List Kd) (ad : Nat → Nat) (cA : Nat → ClassId) (M : Mem) : va_W := lay.mapIdx (fun p kd => (ad p, cellOf ad cA M p kd))
theorem wsOf_get {lay : List Kd} {ad : Nat → Nat} {cA : Nat → ClassId} {M : Mem} {p : Nat} {kd : Kd} (h : lay[p]? = some kd) : (wsOf lay ad cA M)[p]? = some (ad p, cellOf ad cA M p kd) := by
  simp [wsOf, List.getElem?_mapIdx, h]
theorem fv_ne {ad : Nat → Nat} {M M' : Mem} {q : Nat} (h1 : M'.1 q = M.1 q) (h2 : M'.2 q = M.2 q) : fv ad M' q = fv ad M q := by
  funext k c
  rcases c with _ | _ | c
  · simp [fv, h1]
  · simp [fv, h2]
  · rfl
theorem cellOf_ne {ad : Nat → Nat} {cA : Nat → ClassId} {M M' : Mem} {q : Nat} (kd : Kd) (h1 : M'.1 q = M.1 q) (h2 : M'.2 q = M.2 q) : cellOf ad cA M' q kd = cellOf ad cA M q kd := by
  rcases kd with ⟨ci, fs⟩ | ⟨t, n⟩ | ⟨t, qs⟩
  · show Sum.inr (ci, fs.mapIdx (fv ad M' q)) = Sum.inr (ci, fs.mapIdx (fv ad M q))
    rw [fv_ne h1 h2]
  · show Sum.inl (cA t, n, Sum.inl (M'.1 q)) = Sum.inl (cA t, n, Sum.inl (M.1 q))
    rw [h1]
  · rfl
theorem wsOf_set {lay : List Kd} {ad : Nat → Nat} {cA : Nat → ClassId} {M M' : Mem} {p : Nat} {kd : Kd} {e : va_E} (h : lay[p]? = some kd) (hne : ∀ q, q ≠ p → M'.1 q = M.1 q ∧ M'.2 q = M.2 q) (he : e = cellOf ad cA M' p kd) : (wsOf lay ad cA M).set p (ad p, e) = wsOf lay ad cA M' := by
  subst he
  apply List.ext_getElem?
  intro k
  rw [List.getElem?_set]
  by_cases hk : p = k
  · subst hk
    have hp : p < (wsOf lay ad cA M).length := by
      have := (List.getElem?_eq_some_iff.mp h).1
      simpa [wsOf] using this
    rw [if_pos rfl, if_pos hp, wsOf_get h]
  · rw [if_neg hk]
    have hkp : k ≠ p := fun e => hk e.symm
    simp only [wsOf, List.getElem?_mapIdx]
    cases hl : lay[k]? with
    | none => rfl
    | some kd' =>
      show some (ad k, cellOf ad cA M k kd') = some (ad k, cellOf ad cA M' k kd')
      rw [cellOf_ne kd' (hne k hkp).1 (hne k hkp).2]
def AA (lay : List Kd) (ad : Nat → Nat) : Nat → Prop := fun q => ∃ p, p < lay.length ∧ q = ad p
def Inj (lay : List Kd) (ad : Nat → Nat) : Prop := ∀ i j, i < lay.length → j < lay.length → ad i = ad j → i = j
theorem wsOf_some {lay : List Kd} {ad : Nat → Nat} {cA : Nat → ClassId} {M : Mem} {k : Nat} {q : Nat × va_E} (h : (wsOf lay ad cA M)[k]? = some q) : k < lay.length ∧ q.1 = ad k := by
  simp only [wsOf, List.getElem?_mapIdx] at h
  cases hl : lay[k]? with
  | none => rw [hl] at h; cases h
  | some kd =>
    rw [hl] at h
    have h' : some (ad k, cellOf ad cA M k kd) = some q := h
    cases h'
    exact ⟨(List.getElem?_eq_some_iff.mp hl).1, rfl⟩
theorem wsOf_D {lay : List Kd} {ad : Nat → Nat} {cA : Nat → ClassId} {M : Mem} (h : Inj lay ad) : va_D (AA lay ad) (wsOf lay ad cA M) :=
  ⟨fun i j p q hi hj e => by
    obtain ⟨a1, a2⟩ := wsOf_some hi
    obtain ⟨b1, b2⟩ := wsOf_some hj
    exact h i j a1 b1 (by rw [← a2, ← b2, e]), fun k q hk => ⟨k, (wsOf_some hk).1, (wsOf_some hk).2⟩⟩
def letF : Nat → Int32 := fun j => match j with
  | 0 => 112
  | 1 => 99
  | 2 => 108
  | 3 => 109
  | 4 => 98
  | _ => 119
/-- LETTERS' cell; the script's cell, how many, which -/
abbrev TT : Type := Nat × Nat × Nat × (Nat → Int32)
def SI (lay : List Kd) (ad : Nat → Nat) (t : TT) (U : State) (H : Heap) : Prop := va_Z "PinDuties" "LETTERS" "[I" (.ref t.1) (AA lay ad) U H ∧ va_T .int t.1 6 (fun j => .int (letF j)) (AA lay ad) U H ∧ va_T .int t.2.1 t.2.2.1 (fun j => .int (t.2.2.2 j)) (AA lay ad) U H
theorem SI.moved {lay : List Kd} {ad : Nat → Nat} {t : TT} {u U : State} {H : Heap} (hvm : u.vm.Alike U.vm) (h : SI lay ad t u H) : SI lay ad t U H := ⟨va_Z.moved hvm h.1, va_T.moved hvm h.2.1, va_T.moved hvm h.2.2⟩
theorem SI.kept {lay : List Kd} {ad : Nat → Nat} {t : TT} {U : State} {H H1 : Heap} (h : SI lay ad t U H) (hq : ∀ a : Nat, a < H.size → ¬ AA lay ad a → H1[a]? = H[a]?) : SI lay ad t U H1 := ⟨va_Z.kept h.1 hq, va_T.kept h.2.1 hq, va_T.kept h.2.2 hq⟩
def nestWords : List (String × Nat × MethodName × String) := [("PinDuties$Street", 20, ⟨"PinDuties$Deeds", "<init>", "()V"⟩, "PinDuties"), ("PinDuties", 49, ⟨"PinDuties$Cells", "<init>", "()V"⟩, "PinDuties"), ("PinDuties", 50, ⟨"PinDuties$Deeds", "<init>", "()V"⟩, "PinDuties"), ("PinDuties$Pins", 75, ⟨"PinDuties", "kindOfLetter", "(I)I"⟩, "PinDuties"), ("PinDuties$Pins", 105, ⟨"PinDuties", "isOf", "(II)Z"⟩, "PinDuties")]
def NW (U : State) : Prop := ∀ q ∈ nestWords, va_Nw (.methodLinkNest q.1 q.2.1 q.2.2.1 q.2.2.2) U
theorem NW.warm {s U : State} (hW : s.WarmedH U.vm) (h : NW s) : NW U := fun q hq => va_Nw.warmM hW (h q hq)
def tysOf (cA : Nat → ClassId) : List (ClassId × FieldType) := [(cA 0, .int), (cA 1, .boolean), (cA 2, .object RX0), (cA 3, .object RX1)]
def rmL (n : Nat) : Room := { frames := n, cells := 0, slots := 0, locals := 50 * n }
def wsC (y : MethodName) (cc : ByteArray) (nL : Nat) (ret : Option FieldType) : List Cond := .code y cc nL ret :: lw_good
abbrev ZZ : Type := Launch × va_G × (Nat → ClassId) × TT
abbrev zB (z : ZZ) : Nat := z.2.2.2.2.1
abbrev zL (z : ZZ) : Nat := z.2.2.2.2.2.1
abbrev zX (z : ZZ) : Nat → Int32 := z.2.2.2.2.2.2
def PP (lay : List Kd) (ad : Nat → Nat) (z : ZZ) (M : Mem) (av : List Value) : Array Value → State → Prop := fun v U => v = av.toArray ∧ va_P z.2.1 vwCl (wsOf lay ad z.2.2.1 M) U.heap ∧ va_K z.2.1 vwCl (tysOf z.2.2.1) U ∧ Inj lay ad ∧ SI lay ad z.2.2.2 U U.heap ∧ NW U
def QQ (lay : List Kd) (ad : Nat → Nat) (z : ZZ) (M' : Mem) (v' : Option Value) : Array Value → State → Outcome → State → Prop := fun _ st o t => o = .returned v' ∧ va_P z.2.1 vwCl (wsOf lay ad z.2.2.1 M') t.heap ∧ va_F (AA lay ad) st t
/-- a method's contract: from the memory M with the arguments av it comes to M' and answers v' -/
def Con (lay : List Kd) (ad : Nat → Nat) (z : ZZ) (y : MethodName) (cc : ByteArray) (nL : Nat) (ret : Option FieldType) (lev : Nat) (M : Mem) (av : List Value) (M' : Mem) (v' : Option Value) : Prop :=
  Met z.1 y (wsC y cc nL ret) (rmL lev) (PP lay ad z M av) (QQ lay ad z M' v') 0 0 (AA lay ad)
theorem PP_blind {lay : List Kd} {ad : Nat → Nat} {z : ZZ} {M : Mem} {av : List Value} : FrameBlind (PP lay ad z M av) := by
  intro a U g mk h
  obtain ⟨h1, h2, h3, h4, h5, h6⟩ := h
  exact ⟨h1, h2, va_K.moved (u := U) (U := U.calling g mk a) (Vm.Alike.refl U.vm) h3, h4, SI.moved (u := U) (U := U.calling g mk a) (Vm.Alike.refl U.vm) h5, fun q hq => va_Nw.same (u := U) (U := U.calling g mk a) rfl rfl (h6 q hq)⟩
abbrev XX : Type := ZZ × Program × Env × State × MethodId × Array Value × List Frame × Method × Code × Nat × Nat × Mem × Option Value
def Cx (lay : List Kd) (ad : Nat → Nat) (X : XX) (cc : ByteArray) (own : String) (nL lev : Nat) (ret : Option FieldType) (M' : Mem) (v' : Option Value) : Prop := match X with
  | (z, p, _, s, m, args, _, meth, c, nL', lev', Mf, vf) => p.tables.exec = Jvm.exec ∧ c.code = cc ∧ meth.sig.returnType = ret ∧ c.maxLocals = nL ∧ s.vm.findClass own = some m.cls ∧ (∀ w ∈ lw_good, w.before args s = true) ∧ meth.locks = false ∧ va_K z.2.1 vwCl (tysOf z.2.2.1) s ∧ Inj lay ad ∧ SI lay ad z.2.2.2 s s.heap ∧ NW s ∧ nL' = nL ∧ lev' = lev ∧ Mf = M' ∧ vf = v'
def Wp (lay : List Kd) (ad : Nat → Nat) (X : XX) (M : Mem) (pc : Nat) (lv : List (Nat × Value)) (st : List Value) : Prop := match X with
  | (z, p, e, s, m, args, below, meth, c, nL, lev, Mf, vf) => ∀ (H : Heap) (locs : List Loc) (ls : Array Slot), va_P z.2.1 vwCl (wsOf lay ad z.2.2.1 M) H → va_S (AA lay ad) s.heap H locs → lv_has ls nL lv → W p z.1 e (rmL lev) s m args below meth c H locs 0 0 (MQ below (QQ lay ad z Mf vf) args s 0 0 (AA lay ad)) (F0 m pc ls st)
set_option maxHeartbeats 1000000 in
theorem con_of {lay : List Kd} {ad : Nat → Nat} {z : ZZ} {y : MethodName} {cc : ByteArray} {nL : Nat} {ret : Option FieldType} {lev : Nat} {M : Mem} {av : List Value} {M' : Mem} {v' : Option Value} {own : String} {lv : List (Nat × Value)} (hy : plainName y.cls = true) (hown : y.cls = own) (hn : (lg_sl av).length ≤ nL) (hlv : lv_args 0 av = lv)
    (body : ∀ X : XX, X.1 = z → Cx lay ad X cc own nL lev ret M' v' → Wp lay ad X M 0 lv []) : Con lay ad z y cc nL ret lev M av M' v' := by
  obtain ⟨l, D, cA, t⟩ := z
  refine Met.ofW (cc := cc) (maxL := nL) (ret := ret) hy rfl ?_
  intro p e s m args below meth c s₁ B hml hv
  obtain ⟨rfl, hP, hK, hI, hZ, hNW⟩ := hv
  have hts := atoms_spec (ws := wsC y cc nL ret) B.pre
  have hown2 : s.vm.findClass own = some m.cls := by rw [← hown]; exact findClass_of_methodNamed B.named
  have hl := lv_entry av hn
  rw [lg_entry_eq]
  have hl2 : lv_has ((lg_sl av ++ List.replicate (nL - (lg_sl av).length) Slot.unset).toArray) nL lv := by rw [← hlv]; exact hl
  exact body ((l, D, cA, t), p, e, s, m, av.toArray, below, meth, c, nL, lev, M', v') rfl ⟨B.exec, B.bytes, B.returns, hml, hown2, fun w hw => hts w (List.mem_cons_of_mem _ hw), B.notSynchronized, hK, hI, hZ, hNW, rfl, rfl, rfl, rfl⟩ s.heap [] _ hP va_S.rf hl2
/-- a value gets a name -/
def nm {α β : Type} (e : α) (k : α → β) : β := k e
theorem nm_e2 {α β : Type} {e : α} {k : α → β} {r : β} (h : nm e k = r) : ∃ x, x = e ∧ k x = r := ⟨e, rfl, h⟩
theorem bd {α β : Type} {o : Option α} {k : α → Option β} {r : β} (h : o.bind k = some r) : ∃ v, o = some v ∧ k v = some r := by
  cases o with
  | none => cases h
  | some v => exact ⟨v, rfl, h⟩
def rd (M : Mem) (p n : Nat) (i : Int32) : Option Int32 := if i < 0 ∨ n ≤ i.toNatClampNeg then none else some (M.1 p i.toNatClampNeg)
def wr (M : Mem) (p n : Nat) (i v : Int32) : Option Mem := if i < 0 ∨ n ≤ i.toNatClampNeg then none else some (sI M p i.toNatClampNeg v)
def rdR (qs : List Nat) (i : Int32) : Option Nat := if i < 0 ∨ qs.length ≤ i.toNatClampNeg then none else qs[i.toNatClampNeg]?
def rdT (i : Int32) : Option Int32 := if i < 0 ∨ 6 ≤ i.toNatClampNeg then none else some (letF i.toNatClampNeg)
def rdS (L : Nat) (xs : Nat → Int32) (i : Int32) : Option Int32 := if i < 0 ∨ L ≤ i.toNatClampNeg then none else some (xs i.toNatClampNeg)
theorem rdS_s {L : Nat} {xs : Nat → Int32} {i v : Int32} (h : rdS L xs i = some v) : vp_in i L ∧ v = xs i.toNatClampNeg := by
  unfold rdS at h
  by_cases c : i < 0 ∨ L ≤ i.toNatClampNeg
  · rw [if_pos c] at h; cases h
  · rw [if_neg c] at h; cases h; exact ⟨c, rfl⟩
def dvI (x y : Int32) : Option Int32 := if y = 0 then none else some (x / y)
def rmI (x y : Int32) : Option Int32 := if y = 0 then none else some (x - x / y * y)
def dvL (x y : Int64) : Option Int64 := if y = 0 then none else some (x / y)
def rmLo (x y : Int64) : Option Int64 := if y = 0 then none else some (x - x / y * y)
def zr (v : Int32) : Option Int32 := if v = 0 ∨ v = 1 then some v else none
def zb (v : Int32) : Int32 := v &&& 1
def gd (b : Bool) : Option Unit := if b = true then some () else none
theorem gd_s {b : Bool} {u : Unit} (h : gd b = some u) : b = true := by cases b with | true => rfl | false => cases h
abbrev rv (ad : Nat → Nat) (o : Option Nat) : Value := match o with | none => .null | some q => .ref (ad q)
theorem zr0 : zr 0 = some 0 := by decide
theorem zr1 : zr 1 = some 1 := by decide
def cpy (M : Mem) (p0 n0 : Nat) (sp : Int32) (p1 n1 : Nat) (dp n : Int32) : Option Mem :=
  if sp < 0 ∨ dp < 0 ∨ n < 0 ∨ n0 < sp.toNatClampNeg + n.toNatClampNeg ∨ n1 < dp.toNatClampNeg + n.toNatClampNeg then none
  else some (sF M p1 (va_cpy (M.1 p0) (M.1 p1) sp.toNatClampNeg dp.toNatClampNeg n.toNatClampNeg))
theorem rd_s {M : Mem} {p n : Nat} {i v : Int32} (h : rd M p n i = some v) : vp_in i n ∧ v = M.1 p i.toNatClampNeg := by
  unfold rd at h
  by_cases c : i < 0 ∨ n ≤ i.toNatClampNeg
  · rw [if_pos c] at h; cases h
  · rw [if_neg c] at h; cases h; exact ⟨c, rfl⟩
theorem wr_s {M M1 : Mem} {p n : Nat} {i v : Int32} (h : wr M p n i v = some M1) : vp_in i n ∧ M1 = sI M p i.toNatClampNeg v := by
  unfold wr at h
  by_cases c : i < 0 ∨ n ≤ i.toNatClampNeg
  · rw [if_pos c] at h; cases h
  · rw [if_neg c] at h; cases h; exact ⟨c, rfl⟩
theorem rdR_s {qs : List Nat} {q : Nat} {i : Int32} (h : rdR qs i = some q) : vp_in i qs.length ∧ qs[i.toNatClampNeg]? = some q := by
  unfold rdR at h
  by_cases c : i < 0 ∨ qs.length ≤ i.toNatClampNeg
  · rw [if_pos c] at h; cases h
  · rw [if_neg c] at h; exact ⟨c, h⟩
theorem sI_ne {M : Mem} {p i : Nat} {v : Int32} (q : Nat) (h : q ≠ p) : (sI M p i v).1 q = M.1 q ∧ (sI M p i v).2 q = M.2 q := ⟨by simp [sI, h], rfl⟩
theorem sL_ne {M : Mem} {p i : Nat} {v : Int64} (q : Nat) (h : q ≠ p) : (sL M p i v).1 q = M.1 q ∧ (sL M p i v).2 q = M.2 q := ⟨rfl, by simp [sL, h]⟩
theorem sF_ne {M : Mem} {p : Nat} {f : Nat → Int32} (q : Nat) (h : q ≠ p) : (sF M p f).1 q = M.1 q ∧ (sF M p f).2 q = M.2 q := ⟨by simp [sF, h], rfl⟩
/-- the field that an entry of a class's pool links -/
def FL (own : String) (idx ci k : Nat) : Prop := ∃ (C : String) (T : u_T) (N : Nat), vwCl[ci]? = some (C, T, N) ∧ k < N ∧ (∀ w ∈ u_ws C T N, w ∈ lw_good) ∧ Cond.fieldLink own idx (T k).1 (T k).2.1 (T k).2.2.1 ∈ lw_good
/-- the same, of one that may be written -/
def FP (own : String) (idx ci k : Nat) (ty : FieldType) : Prop := ∃ (C : String) (T : u_T) (N : Nat) (ty0 : Nat → FieldType), vwCl[ci]? = some (C, T, N) ∧ k < N ∧ (∀ w ∈ u_ws C T N, w ∈ lw_good) ∧ Cond.fieldLink own idx (T k).1 (T k).2.1 (T k).2.2.1 ∈ lw_good ∧ (∀ k, k < N → parseFieldDescriptor (T k).2.2.1 = some (ty0 k)) ∧ (∀ a, a < N → ∀ b, b < N → a ≠ b → (T a).2.1 ≠ (T b).2.1) ∧ (T k).2.2.2 = false ∧ parseFieldDescriptor (T k).2.2.1 = some ty
/-- a call's words: an instance method, a static one, a static one of a nest mate -/
def CV (own : String) (idx : Nat) (y : MethodName) (cc : ByteArray) (nL : Nat) (ret : Option FieldType) (n ci : Nat) : Prop := Cond.methodLink own idx y ∈ lw_good ∧ Cond.instanceMethod y ∈ lw_good ∧ Cond.selects y.cls y y ∈ lw_good ∧ Cond.initialized y.cls ∈ lw_good ∧ Cond.code y cc nL ret ∈ lw_good ∧ (y.cls ≠ "java/lang/invoke/MethodHandle" ∧ y.cls ≠ "java/lang/invoke/VarHandle" ∧ (parseMethodDescriptor y.desc).map (fun d => d.parameters.length) = some n) ∧ ∃ T N, vwCl[ci]? = some (y.cls, T, N)
def CS (own : String) (idx : Nat) (y : MethodName) (cc : ByteArray) (nL : Nat) (ret : Option FieldType) (n : Nat) : Prop := Cond.methodLink own idx y ∈ lw_good ∧ Cond.static y ∈ lw_good ∧ Cond.initialized y.cls ∈ lw_good ∧ Cond.code y cc nL ret ∈ lw_good ∧ (y.cls ≠ "java/lang/invoke/MethodHandle" ∧ y.cls ≠ "java/lang/invoke/VarHandle" ∧ (parseMethodDescriptor y.desc).map (fun d => d.parameters.length) = some n)
def CN (own : String) (idx : Nat) (y : MethodName) (host : String) (cc : ByteArray) (nL : Nat) (ret : Option FieldType) (n : Nat) : Prop := (own, idx, y, host) ∈ nestWords ∧ Cond.static y ∈ lw_good ∧ Cond.initialized y.cls ∈ lw_good ∧ Cond.code y cc nL ret ∈ lw_good ∧ (y.cls ≠ "java/lang/invoke/MethodHandle" ∧ y.cls ≠ "java/lang/invoke/VarHandle" ∧ (parseMethodDescriptor y.desc).map (fun d => d.parameters.length) = some n)
theorem good_wsC {y : MethodName} {cc : ByteArray} {nL : Nat} {ret : Option FieldType} (h : Cond.code y cc nL ret ∈ lw_good) : GoodIn lw_good (wsC y cc nL ret) := by
  have hg : ∀ w ∈ lw_good, w ∈ lw_good ∧ ((w.onTables && w.keeps) = true ∨ ∃ ty, w = .arrayClass ty) := fun w hw => ⟨hw, good_of_word (good_all w hw)⟩
  intro w hw
  rcases List.mem_cons.mp hw with e | hw
  · rw [e]; exact hg _ h
  · exact hg w hw
theorem put_I {ad : Nat → Nat} {M : Mem} {q0 k0 : Nat} {fs : List Nat} {x : Int32} (hk : fs[k0]? = some 0) : (fs.mapIdx (fv ad M q0)).set k0 (.int x) = fs.mapIdx (fv ad (sI M q0 k0 x) q0) := by
  have hlen : k0 < fs.length := (List.getElem?_eq_some_iff.mp hk).1
  apply List.ext_getElem?
  intro j
  rw [List.getElem?_set]
  by_cases hj : k0 = j
  · subst hj
    rw [if_pos rfl, if_pos (by simpa using hlen), List.getElem?_mapIdx, hk]
    simp [fv, sI, upd]
  · rw [if_neg hj]
    simp only [List.getElem?_mapIdx]
    cases hc : fs[j]? with
    | none => rfl
    | some c =>
      have hj2 : j ≠ k0 := fun e => hj e.symm
      rcases c with _ | _ | c <;> simp [fv, sI, upd, hj2]
theorem put_L {ad : Nat → Nat} {M : Mem} {q0 k0 : Nat} {fs : List Nat} {x : Int64} (hk : fs[k0]? = some 1) : (fs.mapIdx (fv ad M q0)).set k0 (.long x) = fs.mapIdx (fv ad (sL M q0 k0 x) q0) := by
  have hlen : k0 < fs.length := (List.getElem?_eq_some_iff.mp hk).1
  apply List.ext_getElem?
  intro j
  rw [List.getElem?_set]
  by_cases hj : k0 = j
  · subst hj
    rw [if_pos rfl, if_pos (by simpa using hlen), List.getElem?_mapIdx, hk]
    simp [fv, sL, vp_updL]
  · rw [if_neg hj]
    simp only [List.getElem?_mapIdx]
    cases hc : fs[j]? with
    | none => rfl
    | some c =>
      have hj2 : j ≠ k0 := fun e => hj e.symm
      rcases c with _ | _ | c <;> simp [fv, sL, vp_updL, hj2]
theorem copy_room {n : Nat} (h : 2 ≤ n) : (([] : List Value).map fun v => v.category).sum + (nativeFrameWords "java/lang/System" "arraycopy" 5 + 11) ≤ (rmL n).locals := by
  have h1 : nativeFrameWords "java/lang/System" "arraycopy" 5 + 11 ≤ 100 := by decide +kernel
  show 0 + (nativeFrameWords "java/lang/System" "arraycopy" 5 + 11) ≤ 50 * n
  omega
theorem itp {c : Prop} [Decidable c] {α : Type} {a b r : α} (hc : c) (h : (if c then a else b) = r) : a = r := by rwa [if_pos hc] at h
theorem ifn {c : Prop} [Decidable c] {α : Type} {a b r : α} (hc : ¬ c) (h : (if c then a else b) = r) : b = r := by rwa [if_neg hc] at h
section RULES
variable {lay : List Kd} {ad : Nat → Nat} {X : XX} {cc : ByteArray} {own : String} {nL lev : Nat} {ret : Option FieldType} {M' : Mem} {v' : Option Value} {M : Mem} {pc : Nat} {lv lv' : List (Nat × Value)} {st : List Value}
theorem Wp_sub {nX : Nat} (ks : List Nat) (hl : lv_pick lv ks = lv') (k : Wp lay ad X M pc lv' st) : Wp lay ad X M pc lv st := by
  obtain ⟨z, p, e, s, m, args, below, meth, c, nL', lev', Mf, vf⟩ := X
  intro H locs ls hP hS hh
  exact k H locs ls hP hS (lv_sub hh ks hl)

theorem R_iconst (h : Cx lay ad X cc own nL lev ret M' v') {n : Int} {v : Int32} (hv : Int32.ofInt n = v) (hd : decode cc pc = .ok (.iconst n, 1)) (k : Wp lay ad X M (pc + 1) lv (.int v :: st)) : Wp lay ad X M pc lv (st) := by
  obtain ⟨⟨l, D, cA, t⟩, p, e, s, m, args, below, meth, c, nL', lev', Mf, vf⟩ := X
  obtain ⟨hx, hb, hr, hml, hown, hts, hlk, hK, hI, hZ, hNW, rfl, rfl, rfl, rfl⟩ := h
  intro H locs ls hP hS hl
  exact lv_iconst hx hb hd hv (k H locs ls hP hS hl)
theorem R_bipush (h : Cx lay ad X cc own nL lev ret M' v') {n : Int} {v : Int32} (hv : (Int8.ofInt n).toInt32 = v) (hd : decode cc pc = .ok (.bipush n, 2)) (k : Wp lay ad X M (pc + 2) lv (.int v :: st)) : Wp lay ad X M pc lv (st) := by
  obtain ⟨⟨l, D, cA, t⟩, p, e, s, m, args, below, meth, c, nL', lev', Mf, vf⟩ := X
  obtain ⟨hx, hb, hr, hml, hown, hts, hlk, hK, hI, hZ, hNW, rfl, rfl, rfl, rfl⟩ := h
  intro H locs ls hP hS hl
  exact lv_bipush hx hb hd hv (k H locs ls hP hS hl)
theorem R_sipush (h : Cx lay ad X cc own nL lev ret M' v') {n : Int} {v : Int32} (hv : (Int16.ofInt n).toInt32 = v) (hd : decode cc pc = .ok (.sipush n, 3)) (k : Wp lay ad X M (pc + 3) lv (.int v :: st)) : Wp lay ad X M pc lv (st) := by
  obtain ⟨⟨l, D, cA, t⟩, p, e, s, m, args, below, meth, c, nL', lev', Mf, vf⟩ := X
  obtain ⟨hx, hb, hr, hml, hown, hts, hlk, hK, hI, hZ, hNW, rfl, rfl, rfl, rfl⟩ := h
  intro H locs ls hP hS hl
  exact lv_sipush hx hb hd hv (k H locs ls hP hS hl)
theorem R_lconst (h : Cx lay ad X cc own nL lev ret M' v') {n : Fin 2} {v : Int64} (hv : Int64.ofNat (n : Nat) = v) (hd : decode cc pc = .ok (.lconst n, 1)) (k : Wp lay ad X M (pc + 1) lv (.long v :: st)) : Wp lay ad X M pc lv (st) := by
  obtain ⟨⟨l, D, cA, t⟩, p, e, s, m, args, below, meth, c, nL', lev', Mf, vf⟩ := X
  obtain ⟨hx, hb, hr, hml, hown, hts, hlk, hK, hI, hZ, hNW, rfl, rfl, rfl, rfl⟩ := h
  intro H locs ls hP hS hl
  exact lv_lconst hx hb hd hv (k H locs ls hP hS hl)
theorem R_iadd (h : Cx lay ad X cc own nL lev ret M' v') {x y : Int32} (hd : decode cc pc = .ok (.iadd, 1)) (k : Wp lay ad X M (pc + 1) lv (.int (x + y) :: st)) : Wp lay ad X M pc lv (.int y :: .int x :: st) := by
  obtain ⟨⟨l, D, cA, t⟩, p, e, s, m, args, below, meth, c, nL', lev', Mf, vf⟩ := X
  obtain ⟨hx, hb, hr, hml, hown, hts, hlk, hK, hI, hZ, hNW, rfl, rfl, rfl, rfl⟩ := h
  intro H locs ls hP hS hl
  exact lv_iadd hx hb hd (k H locs ls hP hS hl)
theorem R_isub (h : Cx lay ad X cc own nL lev ret M' v') {x y : Int32} (hd : decode cc pc = .ok (.isub, 1)) (k : Wp lay ad X M (pc + 1) lv (.int (x - y) :: st)) : Wp lay ad X M pc lv (.int y :: .int x :: st) := by
  obtain ⟨⟨l, D, cA, t⟩, p, e, s, m, args, below, meth, c, nL', lev', Mf, vf⟩ := X
  obtain ⟨hx, hb, hr, hml, hown, hts, hlk, hK, hI, hZ, hNW, rfl, rfl, rfl, rfl⟩ := h
  intro H locs ls hP hS hl
  exact lv_isub hx hb hd (k H locs ls hP hS hl)
theorem R_imul (h : Cx lay ad X cc own nL lev ret M' v') {x y : Int32} (hd : decode cc pc = .ok (.imul, 1)) (k : Wp lay ad X M (pc + 1) lv (.int (x * y) :: st)) : Wp lay ad X M pc lv (.int y :: .int x :: st) := by
  obtain ⟨⟨l, D, cA, t⟩, p, e, s, m, args, below, meth, c, nL', lev', Mf, vf⟩ := X
  obtain ⟨hx, hb, hr, hml, hown, hts, hlk, hK, hI, hZ, hNW, rfl, rfl, rfl, rfl⟩ := h
  intro H locs ls hP hS hl
  exact lv_imul hx hb hd (k H locs ls hP hS hl)
theorem R_iand (h : Cx lay ad X cc own nL lev ret M' v') {x y : Int32} (hd : decode cc pc = .ok (.iand, 1)) (k : Wp lay ad X M (pc + 1) lv (.int (x &&& y) :: st)) : Wp lay ad X M pc lv (.int y :: .int x :: st) := by
  obtain ⟨⟨l, D, cA, t⟩, p, e, s, m, args, below, meth, c, nL', lev', Mf, vf⟩ := X
  obtain ⟨hx, hb, hr, hml, hown, hts, hlk, hK, hI, hZ, hNW, rfl, rfl, rfl, rfl⟩ := h
  intro H locs ls hP hS hl
  exact lv_iand hx hb hd (k H locs ls hP hS hl)
theorem R_ior (h : Cx lay ad X cc own nL lev ret M' v') {x y : Int32} (hd : decode cc pc = .ok (.ior, 1)) (k : Wp lay ad X M (pc + 1) lv (.int (x ||| y) :: st)) : Wp lay ad X M pc lv (.int y :: .int x :: st) := by
  obtain ⟨⟨l, D, cA, t⟩, p, e, s, m, args, below, meth, c, nL', lev', Mf, vf⟩ := X
  obtain ⟨hx, hb, hr, hml, hown, hts, hlk, hK, hI, hZ, hNW, rfl, rfl, rfl, rfl⟩ := h
  intro H locs ls hP hS hl
  exact lv_ior hx hb hd (k H locs ls hP hS hl)
theorem R_ixor (h : Cx lay ad X cc own nL lev ret M' v') {x y : Int32} (hd : decode cc pc = .ok (.ixor, 1)) (k : Wp lay ad X M (pc + 1) lv (.int (x ^^^ y) :: st)) : Wp lay ad X M pc lv (.int y :: .int x :: st) := by
  obtain ⟨⟨l, D, cA, t⟩, p, e, s, m, args, below, meth, c, nL', lev', Mf, vf⟩ := X
  obtain ⟨hx, hb, hr, hml, hown, hts, hlk, hK, hI, hZ, hNW, rfl, rfl, rfl, rfl⟩ := h
  intro H locs ls hP hS hl
  exact lv_ixor hx hb hd (k H locs ls hP hS hl)
theorem R_ishl (h : Cx lay ad X cc own nL lev ret M' v') {x y : Int32} (hd : decode cc pc = .ok (.ishl, 1)) (k : Wp lay ad X M (pc + 1) lv (.int (x <<< (y &&& 31)) :: st)) : Wp lay ad X M pc lv (.int y :: .int x :: st) := by
  obtain ⟨⟨l, D, cA, t⟩, p, e, s, m, args, below, meth, c, nL', lev', Mf, vf⟩ := X
  obtain ⟨hx, hb, hr, hml, hown, hts, hlk, hK, hI, hZ, hNW, rfl, rfl, rfl, rfl⟩ := h
  intro H locs ls hP hS hl
  exact lv_ishl hx hb hd (k H locs ls hP hS hl)
theorem R_ishr (h : Cx lay ad X cc own nL lev ret M' v') {x y : Int32} (hd : decode cc pc = .ok (.ishr, 1)) (k : Wp lay ad X M (pc + 1) lv (.int (x >>> (y &&& 31)) :: st)) : Wp lay ad X M pc lv (.int y :: .int x :: st) := by
  obtain ⟨⟨l, D, cA, t⟩, p, e, s, m, args, below, meth, c, nL', lev', Mf, vf⟩ := X
  obtain ⟨hx, hb, hr, hml, hown, hts, hlk, hK, hI, hZ, hNW, rfl, rfl, rfl, rfl⟩ := h
  intro H locs ls hP hS hl
  exact lv_ishr hx hb hd (k H locs ls hP hS hl)
theorem R_ineg (h : Cx lay ad X cc own nL lev ret M' v') {x : Int32} (hd : decode cc pc = .ok (.ineg, 1)) (k : Wp lay ad X M (pc + 1) lv (.int (-x) :: st)) : Wp lay ad X M pc lv (.int x :: st) := by
  obtain ⟨⟨l, D, cA, t⟩, p, e, s, m, args, below, meth, c, nL', lev', Mf, vf⟩ := X
  obtain ⟨hx, hb, hr, hml, hown, hts, hlk, hK, hI, hZ, hNW, rfl, rfl, rfl, rfl⟩ := h
  intro H locs ls hP hS hl
  exact lv_ineg hx hb hd (k H locs ls hP hS hl)
theorem R_ladd (h : Cx lay ad X cc own nL lev ret M' v') {x y : Int64} (hd : decode cc pc = .ok (.ladd, 1)) (k : Wp lay ad X M (pc + 1) lv (.long (x + y) :: st)) : Wp lay ad X M pc lv (.long y :: .long x :: st) := by
  obtain ⟨⟨l, D, cA, t⟩, p, e, s, m, args, below, meth, c, nL', lev', Mf, vf⟩ := X
  obtain ⟨hx, hb, hr, hml, hown, hts, hlk, hK, hI, hZ, hNW, rfl, rfl, rfl, rfl⟩ := h
  intro H locs ls hP hS hl
  exact lv_ladd hx hb hd (k H locs ls hP hS hl)
theorem R_lsub (h : Cx lay ad X cc own nL lev ret M' v') {x y : Int64} (hd : decode cc pc = .ok (.lsub, 1)) (k : Wp lay ad X M (pc + 1) lv (.long (x - y) :: st)) : Wp lay ad X M pc lv (.long y :: .long x :: st) := by
  obtain ⟨⟨l, D, cA, t⟩, p, e, s, m, args, below, meth, c, nL', lev', Mf, vf⟩ := X
  obtain ⟨hx, hb, hr, hml, hown, hts, hlk, hK, hI, hZ, hNW, rfl, rfl, rfl, rfl⟩ := h
  intro H locs ls hP hS hl
  exact lv_lsub hx hb hd (k H locs ls hP hS hl)
theorem R_lmul (h : Cx lay ad X cc own nL lev ret M' v') {x y : Int64} (hd : decode cc pc = .ok (.lmul, 1)) (k : Wp lay ad X M (pc + 1) lv (.long (x * y) :: st)) : Wp lay ad X M pc lv (.long y :: .long x :: st) := by
  obtain ⟨⟨l, D, cA, t⟩, p, e, s, m, args, below, meth, c, nL', lev', Mf, vf⟩ := X
  obtain ⟨hx, hb, hr, hml, hown, hts, hlk, hK, hI, hZ, hNW, rfl, rfl, rfl, rfl⟩ := h
  intro H locs ls hP hS hl
  exact lv_lmul hx hb hd (k H locs ls hP hS hl)
theorem R_i2l (h : Cx lay ad X cc own nL lev ret M' v') {x : Int32} (hd : decode cc pc = .ok (.i2l, 1)) (k : Wp lay ad X M (pc + 1) lv (.long x.toInt64 :: st)) : Wp lay ad X M pc lv (.int x :: st) := by
  obtain ⟨⟨l, D, cA, t⟩, p, e, s, m, args, below, meth, c, nL', lev', Mf, vf⟩ := X
  obtain ⟨hx, hb, hr, hml, hown, hts, hlk, hK, hI, hZ, hNW, rfl, rfl, rfl, rfl⟩ := h
  intro H locs ls hP hS hl
  exact lv_i2l hx hb hd rfl (k H locs ls hP hS hl)
theorem R_l2i (h : Cx lay ad X cc own nL lev ret M' v') {x : Int64} (hd : decode cc pc = .ok (.l2i, 1)) (k : Wp lay ad X M (pc + 1) lv (.int x.toInt32 :: st)) : Wp lay ad X M pc lv (.long x :: st) := by
  obtain ⟨⟨l, D, cA, t⟩, p, e, s, m, args, below, meth, c, nL', lev', Mf, vf⟩ := X
  obtain ⟨hx, hb, hr, hml, hown, hts, hlk, hK, hI, hZ, hNW, rfl, rfl, rfl, rfl⟩ := h
  intro H locs ls hP hS hl
  exact lv_l2i hx hb hd rfl (k H locs ls hP hS hl)
theorem R_i2b (h : Cx lay ad X cc own nL lev ret M' v') {x : Int32} (hd : decode cc pc = .ok (.i2b, 1)) (k : Wp lay ad X M (pc + 1) lv (.int x.toInt8.toInt32 :: st)) : Wp lay ad X M pc lv (.int x :: st) := by
  obtain ⟨⟨l, D, cA, t⟩, p, e, s, m, args, below, meth, c, nL', lev', Mf, vf⟩ := X
  obtain ⟨hx, hb, hr, hml, hown, hts, hlk, hK, hI, hZ, hNW, rfl, rfl, rfl, rfl⟩ := h
  intro H locs ls hP hS hl
  exact lv_i2b hx hb hd rfl (k H locs ls hP hS hl)
theorem R_iushr (h : Cx lay ad X cc own nL lev ret M' v') {x y : Int32} (hd : decode cc pc = .ok (.iushr, 1)) (k : Wp lay ad X M (pc + 1) lv (.int (x.toUInt32 >>> (y.toUInt32 &&& Int32.toUInt32 31)).toInt32 :: st)) : Wp lay ad X M pc lv (.int y :: .int x :: st) := by
  obtain ⟨⟨l, D, cA, t⟩, p, e, s, m, args, below, meth, c, nL', lev', Mf, vf⟩ := X
  obtain ⟨hx, hb, hr, hml, hown, hts, hlk, hK, hI, hZ, hNW, rfl, rfl, rfl, rfl⟩ := h
  intro H locs ls hP hS hl
  exact lv_iushr hx hb hd rfl (k H locs ls hP hS hl)
theorem R_dup (h : Cx lay ad X cc own nL lev ret M' v') {va : Value} (hva : va.category = 1) (hd : decode cc pc = .ok (.dup, 1)) (k : Wp lay ad X M (pc + 1) lv (va :: va :: st)) : Wp lay ad X M pc lv (va :: st) := by
  obtain ⟨⟨l, D, cA, t⟩, p, e, s, m, args, below, meth, c, nL', lev', Mf, vf⟩ := X
  obtain ⟨hx, hb, hr, hml, hown, hts, hlk, hK, hI, hZ, hNW, rfl, rfl, rfl, rfl⟩ := h
  intro H locs ls hP hS hl
  exact lv_dup hx hb hd hva (k H locs ls hP hS hl)
theorem R_pop (h : Cx lay ad X cc own nL lev ret M' v') {va : Value} (hva : va.category = 1) (hd : decode cc pc = .ok (.pop, 1)) (k : Wp lay ad X M (pc + 1) lv (st)) : Wp lay ad X M pc lv (va :: st) := by
  obtain ⟨⟨l, D, cA, t⟩, p, e, s, m, args, below, meth, c, nL', lev', Mf, vf⟩ := X
  obtain ⟨hx, hb, hr, hml, hown, hts, hlk, hK, hI, hZ, hNW, rfl, rfl, rfl, rfl⟩ := h
  intro H locs ls hP hS hl
  exact lv_pop hx hb hd hva (k H locs ls hP hS hl)
theorem R_dup_x1 (h : Cx lay ad X cc own nL lev ret M' v') {va vb : Value} (hva : va.category = 1) (hvb : vb.category = 1) (hd : decode cc pc = .ok (.dup_x1, 1)) (k : Wp lay ad X M (pc + 1) lv (va :: vb :: va :: st)) : Wp lay ad X M pc lv (va :: vb :: st) := by
  obtain ⟨⟨l, D, cA, t⟩, p, e, s, m, args, below, meth, c, nL', lev', Mf, vf⟩ := X
  obtain ⟨hx, hb, hr, hml, hown, hts, hlk, hK, hI, hZ, hNW, rfl, rfl, rfl, rfl⟩ := h
  intro H locs ls hP hS hl
  exact lv_dup_x1 hx hb hd hva hvb (k H locs ls hP hS hl)
theorem R_dup2 (h : Cx lay ad X cc own nL lev ret M' v') {va vb : Value} (hva : va.category = 1) (hvb : vb.category = 1) (hd : decode cc pc = .ok (.dup2, 1)) (k : Wp lay ad X M (pc + 1) lv (va :: vb :: va :: vb :: st)) : Wp lay ad X M pc lv (va :: vb :: st) := by
  obtain ⟨⟨l, D, cA, t⟩, p, e, s, m, args, below, meth, c, nL', lev', Mf, vf⟩ := X
  obtain ⟨hx, hb, hr, hml, hown, hts, hlk, hK, hI, hZ, hNW, rfl, rfl, rfl, rfl⟩ := h
  intro H locs ls hP hS hl
  exact lv_dup2_11 hx hb hd hva hvb (k H locs ls hP hS hl)
theorem R_dup2L (h : Cx lay ad X cc own nL lev ret M' v') {va : Value} (hva : va.category = 2) (hd : decode cc pc = .ok (.dup2, 1)) (k : Wp lay ad X M (pc + 1) lv (va :: va :: st)) : Wp lay ad X M pc lv (va :: st) := by
  obtain ⟨⟨l, D, cA, t⟩, p, e, s, m, args, below, meth, c, nL', lev', Mf, vf⟩ := X
  obtain ⟨hx, hb, hr, hml, hown, hts, hlk, hK, hI, hZ, hNW, rfl, rfl, rfl, rfl⟩ := h
  intro H locs ls hP hS hl
  exact lv_dup2_2 hx hb hd hva (k H locs ls hP hS hl)
theorem R_pop2L (h : Cx lay ad X cc own nL lev ret M' v') {va : Value} (hva : va.category = 2) (hd : decode cc pc = .ok (.pop2, 1)) (k : Wp lay ad X M (pc + 1) lv (st)) : Wp lay ad X M pc lv (va :: st) := by
  obtain ⟨⟨l, D, cA, t⟩, p, e, s, m, args, below, meth, c, nL', lev', Mf, vf⟩ := X
  obtain ⟨hx, hb, hr, hml, hown, hts, hlk, hK, hI, hZ, hNW, rfl, rfl, rfl, rfl⟩ := h
  intro H locs ls hP hS hl
  exact lv_pop2_2 hx hb hd hva (k H locs ls hP hS hl)
theorem R_null (h : Cx lay ad X cc own nL lev ret M' v')  (hd : decode cc pc = .ok (.aconst_null, 1)) (k : Wp lay ad X M (pc + 1) lv (.null :: st)) : Wp lay ad X M pc lv (st) := by
  obtain ⟨⟨l, D, cA, t⟩, p, e, s, m, args, below, meth, c, nL', lev', Mf, vf⟩ := X
  obtain ⟨hx, hb, hr, hml, hown, hts, hlk, hK, hI, hZ, hNW, rfl, rfl, rfl, rfl⟩ := h
  intro H locs ls hP hS hl
  exact lv_null hx hb hd (k H locs ls hP hS hl)
theorem R_lcmp (h : Cx lay ad X cc own nL lev ret M' v') {x y : Int64} (hd : decode cc pc = .ok (.lcmp, 1)) (k : Wp lay ad X M (pc + 1) lv (.int (lg_cmp x y) :: st)) : Wp lay ad X M pc lv (.long y :: .long x :: st) := by
  obtain ⟨⟨l, D, cA, t⟩, p, e, s, m, args, below, meth, c, nL', lev', Mf, vf⟩ := X
  obtain ⟨hx, hb, hr, hml, hown, hts, hlk, hK, hI, hZ, hNW, rfl, rfl, rfl, rfl⟩ := h
  intro H locs ls hP hS hl
  exact W.lcmp hx hb hd (k H locs ls hP hS hl)
theorem R_idiv (h : Cx lay ad X cc own nL lev ret M' v') {x y q : Int32} (hq : dvI x y = some q) (hd : decode cc pc = .ok (.idiv, 1)) (k : Wp lay ad X M (pc + 1) lv (.int q :: st)) : Wp lay ad X M pc lv (.int y :: .int x :: st) := by
  obtain ⟨⟨l, D, cA, t⟩, p, e, s, m, args, below, meth, c, nL', lev', Mf, vf⟩ := X
  obtain ⟨hx, hb, hr, hml, hown, hts, hlk, hK, hI, hZ, hNW, rfl, rfl, rfl, rfl⟩ := h
  intro H locs ls hP hS hl
  unfold dvI at hq
  by_cases c0 : y = 0
  · rw [if_pos c0] at hq; cases hq
  · rw [if_neg c0] at hq; cases hq; exact lv_idiv hx hb hd c0 (k H locs ls hP hS hl)
theorem R_ldiv (h : Cx lay ad X cc own nL lev ret M' v') {x y q : Int64} (hq : dvL x y = some q) (hd : decode cc pc = .ok (.ldiv, 1)) (k : Wp lay ad X M (pc + 1) lv (.long q :: st)) : Wp lay ad X M pc lv (.long y :: .long x :: st) := by
  obtain ⟨⟨l, D, cA, t⟩, p, e, s, m, args, below, meth, c, nL', lev', Mf, vf⟩ := X
  obtain ⟨hx, hb, hr, hml, hown, hts, hlk, hK, hI, hZ, hNW, rfl, rfl, rfl, rfl⟩ := h
  intro H locs ls hP hS hl
  unfold dvL at hq
  by_cases c0 : y = 0
  · rw [if_pos c0] at hq; cases hq
  · rw [if_neg c0] at hq; cases hq; exact lv_ldiv hx hb hd c0 (k H locs ls hP hS hl)
theorem R_irem (h : Cx lay ad X cc own nL lev ret M' v') {x y q : Int32} (hq : rmI x y = some q) (hd : decode cc pc = .ok (.irem, 1)) (k : Wp lay ad X M (pc + 1) lv (.int q :: st)) : Wp lay ad X M pc lv (.int y :: .int x :: st) := by
  obtain ⟨⟨l, D, cA, t⟩, p, e, s, m, args, below, meth, c, nL', lev', Mf, vf⟩ := X
  obtain ⟨hx, hb, hr, hml, hown, hts, hlk, hK, hI, hZ, hNW, rfl, rfl, rfl, rfl⟩ := h
  intro H locs ls hP hS hl
  unfold rmI at hq
  by_cases c0 : y = 0
  · rw [if_pos c0] at hq; cases hq
  · rw [if_neg c0] at hq; cases hq; exact lv_irem hx hb hd c0 (k H locs ls hP hS hl)
theorem R_lrem (h : Cx lay ad X cc own nL lev ret M' v') {x y q : Int64} (hq : rmLo x y = some q) (hd : decode cc pc = .ok (.lrem, 1)) (k : Wp lay ad X M (pc + 1) lv (.long q :: st)) : Wp lay ad X M pc lv (.long y :: .long x :: st) := by
  obtain ⟨⟨l, D, cA, t⟩, p, e, s, m, args, below, meth, c, nL', lev', Mf, vf⟩ := X
  obtain ⟨hx, hb, hr, hml, hown, hts, hlk, hK, hI, hZ, hNW, rfl, rfl, rfl, rfl⟩ := h
  intro H locs ls hP hS hl
  unfold rmLo at hq
  by_cases c0 : y = 0
  · rw [if_pos c0] at hq; cases hq
  · rw [if_neg c0] at hq; cases hq; exact lv_lrem hx hb hd c0 (k H locs ls hP hS hl)
theorem R_iload_n (h : Cx lay ad X cc own nL lev ret M' v') {k : Fin 4} {i : Nat} {x : Int32} (j : Nat) (hi : (k : Nat) = i) (hk : lv[j]? = some (i, .int x)) (hd : decode cc pc = .ok (.iload_n k, 1)) (k : Wp lay ad X M (pc + 1) lv (.int x :: st)) : Wp lay ad X M pc lv (st) := by
  obtain ⟨⟨l, D, cA, t⟩, p, e, s, m, args, below, meth, c, nL', lev', Mf, vf⟩ := X
  obtain ⟨hx, hb, hr, hml, hown, hts, hlk, hK, hI, hZ, hNW, rfl, rfl, rfl, rfl⟩ := h
  intro H locs ls hP hS hl
  exact lv_iload_n hx hb hd hi (lv_at hl j hk) (k H locs ls hP hS hl)
theorem R_iload (h : Cx lay ad X cc own nL lev ret M' v') {i : Nat} {x : Int32} (j : Nat) (hk : lv[j]? = some (i, .int x)) (hd : decode cc pc = .ok (.iload i, 2)) (k : Wp lay ad X M (pc + 2) lv (.int x :: st)) : Wp lay ad X M pc lv (st) := by
  obtain ⟨⟨l, D, cA, t⟩, p, e, s, m, args, below, meth, c, nL', lev', Mf, vf⟩ := X
  obtain ⟨hx, hb, hr, hml, hown, hts, hlk, hK, hI, hZ, hNW, rfl, rfl, rfl, rfl⟩ := h
  intro H locs ls hP hS hl
  exact lv_iload hx hb hd (lv_at hl j hk) (k H locs ls hP hS hl)
theorem R_lload_n (h : Cx lay ad X cc own nL lev ret M' v') {k : Fin 4} {i : Nat} {x : Int64} (j : Nat) (hi : (k : Nat) = i) (hk : lv[j]? = some (i, .long x)) (hd : decode cc pc = .ok (.lload_n k, 1)) (k : Wp lay ad X M (pc + 1) lv (.long x :: st)) : Wp lay ad X M pc lv (st) := by
  obtain ⟨⟨l, D, cA, t⟩, p, e, s, m, args, below, meth, c, nL', lev', Mf, vf⟩ := X
  obtain ⟨hx, hb, hr, hml, hown, hts, hlk, hK, hI, hZ, hNW, rfl, rfl, rfl, rfl⟩ := h
  intro H locs ls hP hS hl
  exact lv_lload_n hx hb hd hi (lv_at hl j hk) (k H locs ls hP hS hl)
theorem R_lload (h : Cx lay ad X cc own nL lev ret M' v') {i : Nat} {x : Int64} (j : Nat) (hk : lv[j]? = some (i, .long x)) (hd : decode cc pc = .ok (.lload i, 2)) (k : Wp lay ad X M (pc + 2) lv (.long x :: st)) : Wp lay ad X M pc lv (st) := by
  obtain ⟨⟨l, D, cA, t⟩, p, e, s, m, args, below, meth, c, nL', lev', Mf, vf⟩ := X
  obtain ⟨hx, hb, hr, hml, hown, hts, hlk, hK, hI, hZ, hNW, rfl, rfl, rfl, rfl⟩ := h
  intro H locs ls hP hS hl
  exact lv_lload hx hb hd (lv_at hl j hk) (k H locs ls hP hS hl)
theorem R_aload_n (h : Cx lay ad X cc own nL lev ret M' v') {k : Fin 4} {i : Nat} {x : Nat} (j : Nat) (hi : (k : Nat) = i) (hk : lv[j]? = some (i, .ref x)) (hd : decode cc pc = .ok (.aload_n k, 1)) (k : Wp lay ad X M (pc + 1) lv (.ref x :: st)) : Wp lay ad X M pc lv (st) := by
  obtain ⟨⟨l, D, cA, t⟩, p, e, s, m, args, below, meth, c, nL', lev', Mf, vf⟩ := X
  obtain ⟨hx, hb, hr, hml, hown, hts, hlk, hK, hI, hZ, hNW, rfl, rfl, rfl, rfl⟩ := h
  intro H locs ls hP hS hl
  exact lv_aload_n hx hb hd hi (lv_at hl j hk) (k H locs ls hP hS hl)
theorem R_aload (h : Cx lay ad X cc own nL lev ret M' v') {i : Nat} {x : Nat} (j : Nat) (hk : lv[j]? = some (i, .ref x)) (hd : decode cc pc = .ok (.aload i, 2)) (k : Wp lay ad X M (pc + 2) lv (.ref x :: st)) : Wp lay ad X M pc lv (st) := by
  obtain ⟨⟨l, D, cA, t⟩, p, e, s, m, args, below, meth, c, nL', lev', Mf, vf⟩ := X
  obtain ⟨hx, hb, hr, hml, hown, hts, hlk, hK, hI, hZ, hNW, rfl, rfl, rfl, rfl⟩ := h
  intro H locs ls hP hS hl
  exact lv_aload hx hb hd (lv_at hl j hk) (k H locs ls hP hS hl)
theorem R_aload_nN (h : Cx lay ad X cc own nL lev ret M' v') {k : Fin 4} {i : Nat} (j : Nat) (hi : (k : Nat) = i) (hk : lv[j]? = some (i, .null)) (hd : decode cc pc = .ok (.aload_n k, 1)) (k : Wp lay ad X M (pc + 1) lv (.null :: st)) : Wp lay ad X M pc lv (st) := by
  obtain ⟨⟨l, D, cA, t⟩, p, e, s, m, args, below, meth, c, nL', lev', Mf, vf⟩ := X
  obtain ⟨hx, hb, hr, hml, hown, hts, hlk, hK, hI, hZ, hNW, rfl, rfl, rfl, rfl⟩ := h
  intro H locs ls hP hS hl
  exact lv_aload_nN hx hb hd hi (lv_at hl j hk) (k H locs ls hP hS hl)
theorem R_aloadN (h : Cx lay ad X cc own nL lev ret M' v') {i : Nat} (j : Nat) (hk : lv[j]? = some (i, .null)) (hd : decode cc pc = .ok (.aload i, 2)) (k : Wp lay ad X M (pc + 2) lv (.null :: st)) : Wp lay ad X M pc lv (st) := by
  obtain ⟨⟨l, D, cA, t⟩, p, e, s, m, args, below, meth, c, nL', lev', Mf, vf⟩ := X
  obtain ⟨hx, hb, hr, hml, hown, hts, hlk, hK, hI, hZ, hNW, rfl, rfl, rfl, rfl⟩ := h
  intro H locs ls hP hS hl
  exact lv_aloadN hx hb hd (lv_at hl j hk) (k H locs ls hP hS hl)
theorem R_istore_n (h : Cx lay ad X cc own nL lev ret M' v') {k : Fin 4} {i : Nat} {x x' : Int32} (he : x' = x) (hi : (k : Nat) = i) (hn : i < nL) (hf : (i, Value.int x') :: lv.filter (fun q => !(q.1 == i) && !(q.1 + 1 == i && q.2.category == 2)) = lv') (hd : decode cc pc = .ok (.istore_n k, 1)) (k : Wp lay ad X M (pc + 1) lv' (st)) : Wp lay ad X M pc lv (.int x :: st) := by
  obtain ⟨⟨l, D, cA, t⟩, p, e, s, m, args, below, meth, c, nL', lev', Mf, vf⟩ := X
  obtain ⟨hx, hb, hr, hml, hown, hts, hlk, hK, hI, hZ, hNW, rfl, rfl, rfl, rfl⟩ := h
  intro H locs ls hP hS hl
  subst he; exact lv_istore_n hx hb hd hi hl hn hf (fun ls' hl' => k H locs ls' hP hS hl')
theorem R_istore (h : Cx lay ad X cc own nL lev ret M' v') {i : Nat} {x x' : Int32} (he : x' = x) (hn : i < nL) (hf : (i, Value.int x') :: lv.filter (fun q => !(q.1 == i) && !(q.1 + 1 == i && q.2.category == 2)) = lv') (hd : decode cc pc = .ok (.istore i, 2)) (k : Wp lay ad X M (pc + 2) lv' (st)) : Wp lay ad X M pc lv (.int x :: st) := by
  obtain ⟨⟨l, D, cA, t⟩, p, e, s, m, args, below, meth, c, nL', lev', Mf, vf⟩ := X
  obtain ⟨hx, hb, hr, hml, hown, hts, hlk, hK, hI, hZ, hNW, rfl, rfl, rfl, rfl⟩ := h
  intro H locs ls hP hS hl
  subst he; exact lv_istore hx hb hd hl hn hf (fun ls' hl' => k H locs ls' hP hS hl')
theorem R_lstore_n (h : Cx lay ad X cc own nL lev ret M' v') {k : Fin 4} {i : Nat} {x x' : Int64} (he : x' = x) (hi : (k : Nat) = i) (hn : i + 1 < nL) (hf : (i, Value.long x') :: lv.filter (fun q => !(q.1 == i) && (!(q.1 == i + 1) && !(q.1 + 1 == i && q.2.category == 2))) = lv') (hd : decode cc pc = .ok (.lstore_n k, 1)) (k : Wp lay ad X M (pc + 1) lv' (st)) : Wp lay ad X M pc lv (.long x :: st) := by
  obtain ⟨⟨l, D, cA, t⟩, p, e, s, m, args, below, meth, c, nL', lev', Mf, vf⟩ := X
  obtain ⟨hx, hb, hr, hml, hown, hts, hlk, hK, hI, hZ, hNW, rfl, rfl, rfl, rfl⟩ := h
  intro H locs ls hP hS hl
  subst he; exact lv_lstore_n hx hb hd hi hl hn hf (fun ls' hl' => k H locs ls' hP hS hl')
theorem R_lstore (h : Cx lay ad X cc own nL lev ret M' v') {i : Nat} {x x' : Int64} (he : x' = x) (hn : i + 1 < nL) (hf : (i, Value.long x') :: lv.filter (fun q => !(q.1 == i) && (!(q.1 == i + 1) && !(q.1 + 1 == i && q.2.category == 2))) = lv') (hd : decode cc pc = .ok (.lstore i, 2)) (k : Wp lay ad X M (pc + 2) lv' (st)) : Wp lay ad X M pc lv (.long x :: st) := by
  obtain ⟨⟨l, D, cA, t⟩, p, e, s, m, args, below, meth, c, nL', lev', Mf, vf⟩ := X
  obtain ⟨hx, hb, hr, hml, hown, hts, hlk, hK, hI, hZ, hNW, rfl, rfl, rfl, rfl⟩ := h
  intro H locs ls hP hS hl
  subst he; exact lv_lstore hx hb hd hl hn hf (fun ls' hl' => k H locs ls' hP hS hl')
theorem R_astore_n (h : Cx lay ad X cc own nL lev ret M' v') {k : Fin 4} {i : Nat} {x x' : Nat} (he : x' = x) (hi : (k : Nat) = i) (hn : i < nL) (hf : (i, Value.ref x') :: lv.filter (fun q => !(q.1 == i) && !(q.1 + 1 == i && q.2.category == 2)) = lv') (hd : decode cc pc = .ok (.astore_n k, 1)) (k : Wp lay ad X M (pc + 1) lv' (st)) : Wp lay ad X M pc lv (.ref x :: st) := by
  obtain ⟨⟨l, D, cA, t⟩, p, e, s, m, args, below, meth, c, nL', lev', Mf, vf⟩ := X
  obtain ⟨hx, hb, hr, hml, hown, hts, hlk, hK, hI, hZ, hNW, rfl, rfl, rfl, rfl⟩ := h
  intro H locs ls hP hS hl
  subst he; exact lv_astore_n hx hb hd hi hl hn hf (fun ls' hl' => k H locs ls' hP hS hl')
theorem R_astore (h : Cx lay ad X cc own nL lev ret M' v') {i : Nat} {x x' : Nat} (he : x' = x) (hn : i < nL) (hf : (i, Value.ref x') :: lv.filter (fun q => !(q.1 == i) && !(q.1 + 1 == i && q.2.category == 2)) = lv') (hd : decode cc pc = .ok (.astore i, 2)) (k : Wp lay ad X M (pc + 2) lv' (st)) : Wp lay ad X M pc lv (.ref x :: st) := by
  obtain ⟨⟨l, D, cA, t⟩, p, e, s, m, args, below, meth, c, nL', lev', Mf, vf⟩ := X
  obtain ⟨hx, hb, hr, hml, hown, hts, hlk, hK, hI, hZ, hNW, rfl, rfl, rfl, rfl⟩ := h
  intro H locs ls hP hS hl
  subst he; exact lv_astore hx hb hd hl hn hf (fun ls' hl' => k H locs ls' hP hS hl')
theorem R_astore_nN (h : Cx lay ad X cc own nL lev ret M' v') {k : Fin 4} {i : Nat} (hi : (k : Nat) = i) (hn : i < nL) (hf : (i, Value.null) :: lv.filter (fun q => !(q.1 == i) && !(q.1 + 1 == i && q.2.category == 2)) = lv') (hd : decode cc pc = .ok (.astore_n k, 1)) (k : Wp lay ad X M (pc + 1) lv' (st)) : Wp lay ad X M pc lv (.null :: st) := by
  obtain ⟨⟨l, D, cA, t⟩, p, e, s, m, args, below, meth, c, nL', lev', Mf, vf⟩ := X
  obtain ⟨hx, hb, hr, hml, hown, hts, hlk, hK, hI, hZ, hNW, rfl, rfl, rfl, rfl⟩ := h
  intro H locs ls hP hS hl
  exact lv_astore_nN hx hb hd hi hl hn hf (fun ls' hl' => k H locs ls' hP hS hl')
theorem R_astoreN (h : Cx lay ad X cc own nL lev ret M' v') {i : Nat} (hn : i < nL) (hf : (i, Value.null) :: lv.filter (fun q => !(q.1 == i) && !(q.1 + 1 == i && q.2.category == 2)) = lv') (hd : decode cc pc = .ok (.astore i, 2)) (k : Wp lay ad X M (pc + 2) lv' (st)) : Wp lay ad X M pc lv (.null :: st) := by
  obtain ⟨⟨l, D, cA, t⟩, p, e, s, m, args, below, meth, c, nL', lev', Mf, vf⟩ := X
  obtain ⟨hx, hb, hr, hml, hown, hts, hlk, hK, hI, hZ, hNW, rfl, rfl, rfl, rfl⟩ := h
  intro H locs ls hP hS hl
  exact lv_astoreN hx hb hd hl hn hf (fun ls' hl' => k H locs ls' hP hS hl')
theorem R_iinc (h : Cx lay ad X cc own nL lev ret M' v') {i : Nat} {n : Int} {x x' v0 : Int32} (j : Nat) (hk : lv[j]? = some (i, .int x)) (hv : Int32.ofInt n = v0) (he : x' = x + v0) (hn : i < nL) (hf : (i, Value.int x') :: lv.filter (fun q => !(q.1 == i) && !(q.1 + 1 == i && q.2.category == 2)) = lv') (hd : decode cc pc = .ok (.iinc i n, 3)) (k : Wp lay ad X M (pc + 3) lv' (st)) : Wp lay ad X M pc lv (st) := by
  obtain ⟨⟨l, D, cA, t⟩, p, e, s, m, args, below, meth, c, nL', lev', Mf, vf⟩ := X
  obtain ⟨hx, hb, hr, hml, hown, hts, hlk, hK, hI, hZ, hNW, rfl, rfl, rfl, rfl⟩ := h
  intro H locs ls hP hS hl
  exact lv_iinc hx hb hd hl hk (by rw [hv]; exact he.symm) hn hf (fun ls' hl' => k H locs ls' hP hS hl')
theorem R_if_eq (h : Cx lay ad X cc own nL lev ret M' v') {x : Int32} {off : Int} {tgt : Nat} (hd : decode cc pc = .ok (.ifCond .eq off, 3)) (ht : (pc : Int) + off = (tgt : Int)) (kt : x = 0 → Wp lay ad X M tgt lv (st)) (kf : ¬ x = 0 → Wp lay ad X M (pc + 3) lv (st)) : Wp lay ad X M pc lv (.int x :: st) := by
  obtain ⟨⟨l, D, cA, t⟩, p, e, s, m, args, below, meth, c, nL', lev', Mf, vf⟩ := X
  obtain ⟨hx, hb, hr, hml, hown, hts, hlk, hK, hI, hZ, hNW, rfl, rfl, rfl, rfl⟩ := h
  intro H locs ls hP hS hl
  exact lv_if_eq hx hb hd ht (fun c => kt c H locs ls hP hS hl) (fun c => kf c H locs ls hP hS hl)
theorem R_icmp_eq (h : Cx lay ad X cc own nL lev ret M' v') {x y : Int32} {off : Int} {tgt : Nat} (hd : decode cc pc = .ok (.if_icmp .eq off, 3)) (ht : (pc : Int) + off = (tgt : Int)) (kt : x = y → Wp lay ad X M tgt lv (st)) (kf : ¬ x = y → Wp lay ad X M (pc + 3) lv (st)) : Wp lay ad X M pc lv (.int y :: .int x :: st) := by
  obtain ⟨⟨l, D, cA, t⟩, p, e, s, m, args, below, meth, c, nL', lev', Mf, vf⟩ := X
  obtain ⟨hx, hb, hr, hml, hown, hts, hlk, hK, hI, hZ, hNW, rfl, rfl, rfl, rfl⟩ := h
  intro H locs ls hP hS hl
  exact lv_icmp_eq hx hb hd ht (fun c => kt c H locs ls hP hS hl) (fun c => kf c H locs ls hP hS hl)
theorem R_if_ne (h : Cx lay ad X cc own nL lev ret M' v') {x : Int32} {off : Int} {tgt : Nat} (hd : decode cc pc = .ok (.ifCond .ne off, 3)) (ht : (pc : Int) + off = (tgt : Int)) (kt : ¬ x = 0 → Wp lay ad X M tgt lv (st)) (kf : x = 0 → Wp lay ad X M (pc + 3) lv (st)) : Wp lay ad X M pc lv (.int x :: st) := by
  obtain ⟨⟨l, D, cA, t⟩, p, e, s, m, args, below, meth, c, nL', lev', Mf, vf⟩ := X
  obtain ⟨hx, hb, hr, hml, hown, hts, hlk, hK, hI, hZ, hNW, rfl, rfl, rfl, rfl⟩ := h
  intro H locs ls hP hS hl
  exact lv_if_ne hx hb hd ht (fun c => kt c H locs ls hP hS hl) (fun c => kf c H locs ls hP hS hl)
theorem R_icmp_ne (h : Cx lay ad X cc own nL lev ret M' v') {x y : Int32} {off : Int} {tgt : Nat} (hd : decode cc pc = .ok (.if_icmp .ne off, 3)) (ht : (pc : Int) + off = (tgt : Int)) (kt : ¬ x = y → Wp lay ad X M tgt lv (st)) (kf : x = y → Wp lay ad X M (pc + 3) lv (st)) : Wp lay ad X M pc lv (.int y :: .int x :: st) := by
  obtain ⟨⟨l, D, cA, t⟩, p, e, s, m, args, below, meth, c, nL', lev', Mf, vf⟩ := X
  obtain ⟨hx, hb, hr, hml, hown, hts, hlk, hK, hI, hZ, hNW, rfl, rfl, rfl, rfl⟩ := h
  intro H locs ls hP hS hl
  exact lv_icmp_ne hx hb hd ht (fun c => kt c H locs ls hP hS hl) (fun c => kf c H locs ls hP hS hl)
theorem R_if_lt (h : Cx lay ad X cc own nL lev ret M' v') {x : Int32} {off : Int} {tgt : Nat} (hd : decode cc pc = .ok (.ifCond .lt off, 3)) (ht : (pc : Int) + off = (tgt : Int)) (kt : x < 0 → Wp lay ad X M tgt lv (st)) (kf : ¬ x < 0 → Wp lay ad X M (pc + 3) lv (st)) : Wp lay ad X M pc lv (.int x :: st) := by
  obtain ⟨⟨l, D, cA, t⟩, p, e, s, m, args, below, meth, c, nL', lev', Mf, vf⟩ := X
  obtain ⟨hx, hb, hr, hml, hown, hts, hlk, hK, hI, hZ, hNW, rfl, rfl, rfl, rfl⟩ := h
  intro H locs ls hP hS hl
  exact lv_if_lt hx hb hd ht (fun c => kt c H locs ls hP hS hl) (fun c => kf c H locs ls hP hS hl)
theorem R_icmp_lt (h : Cx lay ad X cc own nL lev ret M' v') {x y : Int32} {off : Int} {tgt : Nat} (hd : decode cc pc = .ok (.if_icmp .lt off, 3)) (ht : (pc : Int) + off = (tgt : Int)) (kt : x < y → Wp lay ad X M tgt lv (st)) (kf : ¬ x < y → Wp lay ad X M (pc + 3) lv (st)) : Wp lay ad X M pc lv (.int y :: .int x :: st) := by
  obtain ⟨⟨l, D, cA, t⟩, p, e, s, m, args, below, meth, c, nL', lev', Mf, vf⟩ := X
  obtain ⟨hx, hb, hr, hml, hown, hts, hlk, hK, hI, hZ, hNW, rfl, rfl, rfl, rfl⟩ := h
  intro H locs ls hP hS hl
  exact lv_icmp_lt hx hb hd ht (fun c => kt c H locs ls hP hS hl) (fun c => kf c H locs ls hP hS hl)
theorem R_if_ge (h : Cx lay ad X cc own nL lev ret M' v') {x : Int32} {off : Int} {tgt : Nat} (hd : decode cc pc = .ok (.ifCond .ge off, 3)) (ht : (pc : Int) + off = (tgt : Int)) (kt : 0 ≤ x → Wp lay ad X M tgt lv (st)) (kf : ¬ 0 ≤ x → Wp lay ad X M (pc + 3) lv (st)) : Wp lay ad X M pc lv (.int x :: st) := by
  obtain ⟨⟨l, D, cA, t⟩, p, e, s, m, args, below, meth, c, nL', lev', Mf, vf⟩ := X
  obtain ⟨hx, hb, hr, hml, hown, hts, hlk, hK, hI, hZ, hNW, rfl, rfl, rfl, rfl⟩ := h
  intro H locs ls hP hS hl
  exact lv_if_ge hx hb hd ht (fun c => kt c H locs ls hP hS hl) (fun c => kf c H locs ls hP hS hl)
theorem R_icmp_ge (h : Cx lay ad X cc own nL lev ret M' v') {x y : Int32} {off : Int} {tgt : Nat} (hd : decode cc pc = .ok (.if_icmp .ge off, 3)) (ht : (pc : Int) + off = (tgt : Int)) (kt : y ≤ x → Wp lay ad X M tgt lv (st)) (kf : ¬ y ≤ x → Wp lay ad X M (pc + 3) lv (st)) : Wp lay ad X M pc lv (.int y :: .int x :: st) := by
  obtain ⟨⟨l, D, cA, t⟩, p, e, s, m, args, below, meth, c, nL', lev', Mf, vf⟩ := X
  obtain ⟨hx, hb, hr, hml, hown, hts, hlk, hK, hI, hZ, hNW, rfl, rfl, rfl, rfl⟩ := h
  intro H locs ls hP hS hl
  exact lv_icmp_ge hx hb hd ht (fun c => kt c H locs ls hP hS hl) (fun c => kf c H locs ls hP hS hl)
theorem R_if_gt (h : Cx lay ad X cc own nL lev ret M' v') {x : Int32} {off : Int} {tgt : Nat} (hd : decode cc pc = .ok (.ifCond .gt off, 3)) (ht : (pc : Int) + off = (tgt : Int)) (kt : 0 < x → Wp lay ad X M tgt lv (st)) (kf : ¬ 0 < x → Wp lay ad X M (pc + 3) lv (st)) : Wp lay ad X M pc lv (.int x :: st) := by
  obtain ⟨⟨l, D, cA, t⟩, p, e, s, m, args, below, meth, c, nL', lev', Mf, vf⟩ := X
  obtain ⟨hx, hb, hr, hml, hown, hts, hlk, hK, hI, hZ, hNW, rfl, rfl, rfl, rfl⟩ := h
  intro H locs ls hP hS hl
  exact lv_if_gt hx hb hd ht (fun c => kt c H locs ls hP hS hl) (fun c => kf c H locs ls hP hS hl)
theorem R_icmp_gt (h : Cx lay ad X cc own nL lev ret M' v') {x y : Int32} {off : Int} {tgt : Nat} (hd : decode cc pc = .ok (.if_icmp .gt off, 3)) (ht : (pc : Int) + off = (tgt : Int)) (kt : y < x → Wp lay ad X M tgt lv (st)) (kf : ¬ y < x → Wp lay ad X M (pc + 3) lv (st)) : Wp lay ad X M pc lv (.int y :: .int x :: st) := by
  obtain ⟨⟨l, D, cA, t⟩, p, e, s, m, args, below, meth, c, nL', lev', Mf, vf⟩ := X
  obtain ⟨hx, hb, hr, hml, hown, hts, hlk, hK, hI, hZ, hNW, rfl, rfl, rfl, rfl⟩ := h
  intro H locs ls hP hS hl
  exact lv_icmp_gt hx hb hd ht (fun c => kt c H locs ls hP hS hl) (fun c => kf c H locs ls hP hS hl)
theorem R_if_le (h : Cx lay ad X cc own nL lev ret M' v') {x : Int32} {off : Int} {tgt : Nat} (hd : decode cc pc = .ok (.ifCond .le off, 3)) (ht : (pc : Int) + off = (tgt : Int)) (kt : x ≤ 0 → Wp lay ad X M tgt lv (st)) (kf : ¬ x ≤ 0 → Wp lay ad X M (pc + 3) lv (st)) : Wp lay ad X M pc lv (.int x :: st) := by
  obtain ⟨⟨l, D, cA, t⟩, p, e, s, m, args, below, meth, c, nL', lev', Mf, vf⟩ := X
  obtain ⟨hx, hb, hr, hml, hown, hts, hlk, hK, hI, hZ, hNW, rfl, rfl, rfl, rfl⟩ := h
  intro H locs ls hP hS hl
  exact lv_if_le hx hb hd ht (fun c => kt c H locs ls hP hS hl) (fun c => kf c H locs ls hP hS hl)
theorem R_icmp_le (h : Cx lay ad X cc own nL lev ret M' v') {x y : Int32} {off : Int} {tgt : Nat} (hd : decode cc pc = .ok (.if_icmp .le off, 3)) (ht : (pc : Int) + off = (tgt : Int)) (kt : x ≤ y → Wp lay ad X M tgt lv (st)) (kf : ¬ x ≤ y → Wp lay ad X M (pc + 3) lv (st)) : Wp lay ad X M pc lv (.int y :: .int x :: st) := by
  obtain ⟨⟨l, D, cA, t⟩, p, e, s, m, args, below, meth, c, nL', lev', Mf, vf⟩ := X
  obtain ⟨hx, hb, hr, hml, hown, hts, hlk, hK, hI, hZ, hNW, rfl, rfl, rfl, rfl⟩ := h
  intro H locs ls hP hS hl
  exact lv_icmp_le hx hb hd ht (fun c => kt c H locs ls hP hS hl) (fun c => kf c H locs ls hP hS hl)
theorem R_goto (h : Cx lay ad X cc own nL lev ret M' v') {off : Int} {tgt : Nat} (hd : decode cc pc = .ok (.goto off, 3)) (ht : (pc : Int) + off = (tgt : Int)) (k : Wp lay ad X M tgt lv (st)) : Wp lay ad X M pc lv (st) := by
  obtain ⟨⟨l, D, cA, t⟩, p, e, s, m, args, below, meth, c, nL', lev', Mf, vf⟩ := X
  obtain ⟨hx, hb, hr, hml, hown, hts, hlk, hK, hI, hZ, hNW, rfl, rfl, rfl, rfl⟩ := h
  intro H locs ls hP hS hl
  exact lv_goto hx hb hd ht (k H locs ls hP hS hl)
theorem R_ifnonnull (h : Cx lay ad X cc own nL lev ret M' v') {x : Nat} {off : Int} {tgt : Nat} (hd : decode cc pc = .ok (.ifnonnull off, 3)) (ht : (pc : Int) + off = (tgt : Int)) (k : Wp lay ad X M tgt lv (st)) : Wp lay ad X M pc lv (.ref x :: st) := by
  obtain ⟨⟨l, D, cA, t⟩, p, e, s, m, args, below, meth, c, nL', lev', Mf, vf⟩ := X
  obtain ⟨hx, hb, hr, hml, hown, hts, hlk, hK, hI, hZ, hNW, rfl, rfl, rfl, rfl⟩ := h
  intro H locs ls hP hS hl
  exact lv_ifnonnull hx hb hd ht (k H locs ls hP hS hl)
theorem R_ifnull (h : Cx lay ad X cc own nL lev ret M' v') {x : Nat} {off : Int} (hd : decode cc pc = .ok (.ifnull off, 3)) (k : Wp lay ad X M (pc + 3) lv (st)) : Wp lay ad X M pc lv (.ref x :: st) := by
  obtain ⟨⟨l, D, cA, t⟩, p, e, s, m, args, below, meth, c, nL', lev', Mf, vf⟩ := X
  obtain ⟨hx, hb, hr, hml, hown, hts, hlk, hK, hI, hZ, hNW, rfl, rfl, rfl, rfl⟩ := h
  intro H locs ls hP hS hl
  exact lv_ifnull hx hb hd (k H locs ls hP hS hl)
theorem R_ifnullN (h : Cx lay ad X cc own nL lev ret M' v') {off : Int} {tgt : Nat} (hd : decode cc pc = .ok (.ifnull off, 3)) (ht : (pc : Int) + off = (tgt : Int)) (k : Wp lay ad X M tgt lv (st)) : Wp lay ad X M pc lv (.null :: st) := by
  obtain ⟨⟨l, D, cA, t⟩, p, e, s, m, args, below, meth, c, nL', lev', Mf, vf⟩ := X
  obtain ⟨hx, hb, hr, hml, hown, hts, hlk, hK, hI, hZ, hNW, rfl, rfl, rfl, rfl⟩ := h
  intro H locs ls hP hS hl
  exact lv_ifnullN hx hb hd ht (k H locs ls hP hS hl)
theorem R_ifnonnullN (h : Cx lay ad X cc own nL lev ret M' v') {off : Int} (hd : decode cc pc = .ok (.ifnonnull off, 3)) (k : Wp lay ad X M (pc + 3) lv (st)) : Wp lay ad X M pc lv (.null :: st) := by
  obtain ⟨⟨l, D, cA, t⟩, p, e, s, m, args, below, meth, c, nL', lev', Mf, vf⟩ := X
  obtain ⟨hx, hb, hr, hml, hown, hts, hlk, hK, hI, hZ, hNW, rfl, rfl, rfl, rfl⟩ := h
  intro H locs ls hP hS hl
  exact lv_ifnonnullN hx hb hd (k H locs ls hP hS hl)
theorem R_tableIn (h : Cx lay ad X cc own nL lev ret M' v') {dflt lo hi : Int} {offs : Array Int} {len : Nat} {x : Int32} {off : Int} {tgt : Nat} (hd : decode cc pc = .ok (.tableswitch dflt lo hi offs, len)) (h1 : ¬ x.toInt < lo) (h2 : ¬ hi < x.toInt) (ho : offs[(x.toInt - lo).toNat]? = some off) (ht : (pc : Int) + off = (tgt : Int)) (k : Wp lay ad X M tgt lv (st)) : Wp lay ad X M pc lv (.int x :: st) := by
  obtain ⟨⟨l, D, cA, t⟩, p, e, s, m, args, below, meth, c, nL', lev', Mf, vf⟩ := X
  obtain ⟨hx, hb, hr, hml, hown, hts, hlk, hK, hI, hZ, hNW, rfl, rfl, rfl, rfl⟩ := h
  intro H locs ls hP hS hl
  exact lv_tableIn hx hb hd h1 h2 ho ht (k H locs ls hP hS hl)
theorem R_tableOut (h : Cx lay ad X cc own nL lev ret M' v') {dflt lo hi : Int} {offs : Array Int} {len : Nat} {x : Int32} {tgt : Nat} (hd : decode cc pc = .ok (.tableswitch dflt lo hi offs, len)) (ho : x.toInt < lo ∨ hi < x.toInt) (ht : (pc : Int) + dflt = (tgt : Int)) (k : Wp lay ad X M tgt lv (st)) : Wp lay ad X M pc lv (.int x :: st) := by
  obtain ⟨⟨l, D, cA, t⟩, p, e, s, m, args, below, meth, c, nL', lev', Mf, vf⟩ := X
  obtain ⟨hx, hb, hr, hml, hown, hts, hlk, hK, hI, hZ, hNW, rfl, rfl, rfl, rfl⟩ := h
  intro H locs ls hP hS hl
  exact lv_tableOut hx hb hd ho ht (k H locs ls hP hS hl)
theorem R_lookup (h : Cx lay ad X cc own nL lev ret M' v') {dflt : Int} {ps : Array (Int × Int)} {len : Nat} {x : Int32} {off : Int} {tgt : Nat} (hd : decode cc pc = .ok (.lookupswitch dflt ps, len)) (hp : (ps.toList.zip (ps.toList.drop 1)).all (fun (a, next) => a.1 < next.1) = true) (ho : Op.lookupswitch.offset ps.toList dflt x.toInt = off) (ht : (pc : Int) + off = (tgt : Int)) (k : Wp lay ad X M tgt lv (st)) : Wp lay ad X M pc lv (.int x :: st) := by
  obtain ⟨⟨l, D, cA, t⟩, p, e, s, m, args, below, meth, c, nL', lev', Mf, vf⟩ := X
  obtain ⟨hx, hb, hr, hml, hown, hts, hlk, hK, hI, hZ, hNW, rfl, rfl, rfl, rfl⟩ := h
  intro H locs ls hP hS hl
  exact lv_lookup hx hb hd hp ho ht (k H locs ls hP hS hl)
theorem R_ldc (h : Cx lay ad X cc own nL lev ret M' v') {idx : Nat} {v : Int32} (hw : Cond.constant own idx v ∈ lw_good) (hd : decode cc pc = .ok (.ldc idx, 2)) (k : Wp lay ad X M (pc + 2) lv (.int v :: st)) : Wp lay ad X M pc lv (st) := by
  obtain ⟨⟨l, D, cA, t⟩, p, e, s, m, args, below, meth, c, nL', lev', Mf, vf⟩ := X
  obtain ⟨hx, hb, hr, hml, hown, hts, hlk, hK, hI, hZ, hNW, rfl, rfl, rfl, rfl⟩ := h
  intro H locs ls hP hS hl
  exact lv_ldc hx hb hown (hts _ hw) hd (k H locs ls hP hS hl)
theorem R_ldcw (h : Cx lay ad X cc own nL lev ret M' v') {idx : Nat} {v : Int32} (hw : Cond.constant own idx v ∈ lw_good) (hd : decode cc pc = .ok (.ldc_w idx, 3)) (k : Wp lay ad X M (pc + 3) lv (.int v :: st)) : Wp lay ad X M pc lv (st) := by
  obtain ⟨⟨l, D, cA, t⟩, p, e, s, m, args, below, meth, c, nL', lev', Mf, vf⟩ := X
  obtain ⟨hx, hb, hr, hml, hown, hts, hlk, hK, hI, hZ, hNW, rfl, rfl, rfl, rfl⟩ := h
  intro H locs ls hP hS hl
  exact lv_ldcw hx hb hown (hts _ hw) hd (k H locs ls hP hS hl)
theorem R_ldc2 (h : Cx lay ad X cc own nL lev ret M' v') {idx : Nat} {v : Int64} (hw : Cond.constantLong own idx v ∈ lw_good) (hd : decode cc pc = .ok (.ldc2_w idx, 3)) (k : Wp lay ad X M (pc + 3) lv (.long v :: st)) : Wp lay ad X M pc lv (st) := by
  obtain ⟨⟨l, D, cA, t⟩, p, e, s, m, args, below, meth, c, nL', lev', Mf, vf⟩ := X
  obtain ⟨hx, hb, hr, hml, hown, hts, hlk, hK, hI, hZ, hNW, rfl, rfl, rfl, rfl⟩ := h
  intro H locs ls hP hS hl
  exact lv_ldc2 hx hb hown (hts _ hw) hd (k H locs ls hP hS hl)
theorem R_getI (h : Cx lay ad X cc own nL lev ret M' v') {idx ci k0 q0 : Nat} {fs : List Nat} (hf : FL own idx ci k0) (hly : lay[q0]? = some (.inl (ci, fs))) (hk : fs[k0]? = some 0) (hd : decode cc pc = .ok (.getfield idx, 3)) (k : Wp lay ad X M (pc + 3) lv (.int (M.1 q0 k0) :: st)) : Wp lay ad X M pc lv (.ref (ad q0) :: st) := by
  obtain ⟨⟨l, D, cA, t⟩, p, e, s, m, args, below, meth, c, nL', lev', Mf, vf⟩ := X
  obtain ⟨hx, hb, hr, hml, hown, hts, hlk, hK, hI, hZ, hNW, rfl, rfl, rfl, rfl⟩ := h
  intro H locs ls hP hS hl
  obtain ⟨C, T, N, hc, hkN, hin, hlw⟩ := hf
  exact va_get hx hb hts hin hown hK hP q0 (wsOf_get hly) hc k0 hkN (hts _ hlw) (fun _ h9 => h9) (v := .int (M.1 q0 k0)) (by simp [List.getElem?_mapIdx, hk, fv]) hd (k H locs ls hP hS hl)
theorem R_getL (h : Cx lay ad X cc own nL lev ret M' v') {idx ci k0 q0 : Nat} {fs : List Nat} (hf : FL own idx ci k0) (hly : lay[q0]? = some (.inl (ci, fs))) (hk : fs[k0]? = some 1) (hd : decode cc pc = .ok (.getfield idx, 3)) (k : Wp lay ad X M (pc + 3) lv (.long (M.2 q0 k0) :: st)) : Wp lay ad X M pc lv (.ref (ad q0) :: st) := by
  obtain ⟨⟨l, D, cA, t⟩, p, e, s, m, args, below, meth, c, nL', lev', Mf, vf⟩ := X
  obtain ⟨hx, hb, hr, hml, hown, hts, hlk, hK, hI, hZ, hNW, rfl, rfl, rfl, rfl⟩ := h
  intro H locs ls hP hS hl
  obtain ⟨C, T, N, hc, hkN, hin, hlw⟩ := hf
  exact va_get hx hb hts hin hown hK hP q0 (wsOf_get hly) hc k0 hkN (hts _ hlw) (fun _ h9 => h9) (v := .long (M.2 q0 k0)) (by simp [List.getElem?_mapIdx, hk, fv]) hd (k H locs ls hP hS hl)
theorem R_getR (h : Cx lay ad X cc own nL lev ret M' v') {idx ci k0 q0 q1 : Nat} {fs : List Nat} (hf : FL own idx ci k0) (hly : lay[q0]? = some (.inl (ci, fs))) (hk : fs[k0]? = some (q1 + 2)) (hd : decode cc pc = .ok (.getfield idx, 3)) (k : Wp lay ad X M (pc + 3) lv (.ref (ad q1) :: st)) : Wp lay ad X M pc lv (.ref (ad q0) :: st) := by
  obtain ⟨⟨l, D, cA, t⟩, p, e, s, m, args, below, meth, c, nL', lev', Mf, vf⟩ := X
  obtain ⟨hx, hb, hr, hml, hown, hts, hlk, hK, hI, hZ, hNW, rfl, rfl, rfl, rfl⟩ := h
  intro H locs ls hP hS hl
  obtain ⟨C, T, N, hc, hkN, hin, hlw⟩ := hf
  exact va_get hx hb hts hin hown hK hP q0 (wsOf_get hly) hc k0 hkN (hts _ hlw) (fun _ h9 => h9) (v := .ref (ad q1)) (by simp [List.getElem?_mapIdx, hk, fv]) hd (k H locs ls hP hS hl)
theorem R_putI (h : Cx lay ad X cc own nL lev ret M' v') {idx ci k0 q0 : Nat} {fs : List Nat} {x : Int32} {M1 : Mem} (hM : M1 = sI M q0 k0 x) (hf : FP own idx ci k0 .int) (hly : lay[q0]? = some (.inl (ci, fs))) (hk : fs[k0]? = some 0) (hd : decode cc pc = .ok (.putfield idx, 3)) (k : Wp lay ad X M1 (pc + 3) lv (st)) : Wp lay ad X M pc lv (.int x :: .ref (ad q0) :: st) := by
  obtain ⟨⟨l, D, cA, t⟩, p, e, s, m, args, below, meth, c, nL', lev', Mf, vf⟩ := X
  obtain ⟨hx, hb, hr, hml, hown, hts, hlk, hK, hI, hZ, hNW, rfl, rfl, rfl, rfl⟩ := h
  intro H locs ls hP hS hl
  obtain ⟨C, T, N, ty0, hc, hkN, hin, hlw, hty, hnm, hfin, hpf⟩ := hf
  have hlen : k0 < fs.length := (List.getElem?_eq_some_iff.mp hk).1
  refine va_put hx hb hts hin ty0 hty hnm hown hK hP (wsOf_D hI) hS q0 (wsOf_get hly) hc k0 hkN (hts _ hlw) (fun _ h9 => h9) hfin hpf (v := .int x) rfl rfl (by simpa using hlen) hd (fun H1 locs1 hP1 _ hS1 => ?_)
  have e : (wsOf lay ad cA M).set q0 (ad q0, .inr (ci, (fs.mapIdx (fv ad M q0)).set k0 (.int x))) = wsOf lay ad cA M1 := by
    subst hM
    refine wsOf_set hly sI_ne ?_
    show Sum.inr (ci, (fs.mapIdx (fv ad M q0)).set k0 (.int x)) = Sum.inr (ci, fs.mapIdx (fv ad (sI M q0 k0 x) q0))
    rw [put_I hk]
  rw [e] at hP1
  exact k H1 locs1 ls hP1 hS1 hl
theorem R_putL (h : Cx lay ad X cc own nL lev ret M' v') {idx ci k0 q0 : Nat} {fs : List Nat} {x : Int64} {M1 : Mem} (hM : M1 = sL M q0 k0 x) (hf : FP own idx ci k0 .long) (hly : lay[q0]? = some (.inl (ci, fs))) (hk : fs[k0]? = some 1) (hd : decode cc pc = .ok (.putfield idx, 3)) (k : Wp lay ad X M1 (pc + 3) lv (st)) : Wp lay ad X M pc lv (.long x :: .ref (ad q0) :: st) := by
  obtain ⟨⟨l, D, cA, t⟩, p, e, s, m, args, below, meth, c, nL', lev', Mf, vf⟩ := X
  obtain ⟨hx, hb, hr, hml, hown, hts, hlk, hK, hI, hZ, hNW, rfl, rfl, rfl, rfl⟩ := h
  intro H locs ls hP hS hl
  obtain ⟨C, T, N, ty0, hc, hkN, hin, hlw, hty, hnm, hfin, hpf⟩ := hf
  have hlen : k0 < fs.length := (List.getElem?_eq_some_iff.mp hk).1
  refine va_put hx hb hts hin ty0 hty hnm hown hK hP (wsOf_D hI) hS q0 (wsOf_get hly) hc k0 hkN (hts _ hlw) (fun _ h9 => h9) hfin hpf (v := .long x) rfl rfl (by simpa using hlen) hd (fun H1 locs1 hP1 _ hS1 => ?_)
  have e : (wsOf lay ad cA M).set q0 (ad q0, .inr (ci, (fs.mapIdx (fv ad M q0)).set k0 (.long x))) = wsOf lay ad cA M1 := by
    subst hM
    refine wsOf_set hly sL_ne ?_
    show Sum.inr (ci, (fs.mapIdx (fv ad M q0)).set k0 (.long x)) = Sum.inr (ci, fs.mapIdx (fv ad (sL M q0 k0 x) q0))
    rw [put_L hk]
  rw [e] at hP1
  exact k H1 locs1 ls hP1 hS1 hl
theorem R_iald (h : Cx lay ad X cc own nL lev ret M' v') {q0 n : Nat} {i v : Int32} (hrd : rd M q0 n i = some v) (hly : lay[q0]? = some (.inr (.inl (0, n)))) (hd : decode cc pc = .ok (.iaload, 1)) (k : Wp lay ad X M (pc + 1) lv (.int v :: st)) : Wp lay ad X M pc lv (.int i :: .ref (ad q0) :: st) := by
  obtain ⟨⟨l, D, cA, t⟩, p, e, s, m, args, below, meth, c, nL', lev', Mf, vf⟩ := X
  obtain ⟨hx, hb, hr, hml, hown, hts, hlk, hK, hI, hZ, hNW, rfl, rfl, rfl, rfl⟩ := h
  intro H locs ls hP hS hl
  obtain ⟨h1, rfl⟩ := rd_s hrd
  exact va_iald hx hb hK hP q0 0 (wsOf_get hly) rfl h1 hd (k H locs ls hP hS hl)
theorem R_zald (h : Cx lay ad X cc own nL lev ret M' v') {q0 n : Nat} {i v : Int32} (hrd : rd M q0 n i = some v) (hly : lay[q0]? = some (.inr (.inl (1, n)))) (hd : decode cc pc = .ok (.baload, 1)) (k : Wp lay ad X M (pc + 1) lv (.int v :: st)) : Wp lay ad X M pc lv (.int i :: .ref (ad q0) :: st) := by
  obtain ⟨⟨l, D, cA, t⟩, p, e, s, m, args, below, meth, c, nL', lev', Mf, vf⟩ := X
  obtain ⟨hx, hb, hr, hml, hown, hts, hlk, hK, hI, hZ, hNW, rfl, rfl, rfl, rfl⟩ := h
  intro H locs ls hP hS hl
  obtain ⟨h1, rfl⟩ := rd_s hrd
  exact va_zald hx hb hK hP q0 1 (wsOf_get hly) rfl h1 hd (k H locs ls hP hS hl)
theorem R_iast (h : Cx lay ad X cc own nL lev ret M' v') {q0 n : Nat} {i x : Int32} {M1 : Mem} (hw : wr M q0 n i x = some M1) (hly : lay[q0]? = some (.inr (.inl (0, n)))) (hd : decode cc pc = .ok (.iastore, 1)) (k : Wp lay ad X M1 (pc + 1) lv (st)) : Wp lay ad X M pc lv (.int x :: .int i :: .ref (ad q0) :: st) := by
  obtain ⟨⟨l, D, cA, t⟩, p, e, s, m, args, below, meth, c, nL', lev', Mf, vf⟩ := X
  obtain ⟨hx, hb, hr, hml, hown, hts, hlk, hK, hI, hZ, hNW, rfl, rfl, rfl, rfl⟩ := h
  intro H locs ls hP hS hl
  obtain ⟨h1, h2⟩ := wr_s hw
  refine va_iast hx hb hK hP (wsOf_D hI) hS q0 0 (wsOf_get hly) rfl h1 hd (fun H1 locs1 hP1 _ hS1 => ?_)
  have e : (wsOf lay ad cA M).set q0 (ad q0, .inl (cA 0, n, .inl (upd (M.1 q0) i.toNatClampNeg x))) = wsOf lay ad cA M1 := by
    subst h2
    refine wsOf_set hly sI_ne ?_
    simp [cellOf, sI]
  have hP2 : va_P D vwCl (wsOf lay ad cA M1) H1 := by rw [← e]; exact hP1
  exact k H1 locs1 ls hP2 hS1 hl
theorem R_zast (h : Cx lay ad X cc own nL lev ret M' v') {q0 n : Nat} {i x : Int32} {M1 : Mem} (hw : wr M q0 n i (zb x) = some M1) (hly : lay[q0]? = some (.inr (.inl (1, n)))) (hd : decode cc pc = .ok (.bastore, 1)) (k : Wp lay ad X M1 (pc + 1) lv (st)) : Wp lay ad X M pc lv (.int x :: .int i :: .ref (ad q0) :: st) := by
  obtain ⟨⟨l, D, cA, t⟩, p, e, s, m, args, below, meth, c, nL', lev', Mf, vf⟩ := X
  obtain ⟨hx, hb, hr, hml, hown, hts, hlk, hK, hI, hZ, hNW, rfl, rfl, rfl, rfl⟩ := h
  intro H locs ls hP hS hl
  obtain ⟨h1, h2⟩ := wr_s hw
  refine va_zast hx hb hK hP (wsOf_D hI) hS q0 1 (wsOf_get hly) rfl h1 hd (fun H1 locs1 hP1 _ hS1 => ?_)
  have e : (wsOf lay ad cA M).set q0 (ad q0, .inl (cA 1, n, .inl (upd (M.1 q0) i.toNatClampNeg (zb x)))) = wsOf lay ad cA M1 := by
    subst h2
    refine wsOf_set hly sI_ne ?_
    simp [cellOf, sI]
  have hP2 : va_P D vwCl (wsOf lay ad cA M1) H1 := by rw [← e]; exact hP1
  exact k H1 locs1 ls hP2 hS1 hl
theorem R_alen (h : Cx lay ad X cc own nL lev ret M' v') {q0 tt n : Nat} {v : Int32} (hv : Int32.ofNat n = v) (htt : tt < 4) (hly : lay[q0]? = some (.inr (.inl (tt, n)))) (hd : decode cc pc = .ok (.arraylength, 1)) (k : Wp lay ad X M (pc + 1) lv (.int v :: st)) : Wp lay ad X M pc lv (.ref (ad q0) :: st) := by
  obtain ⟨⟨l, D, cA, t⟩, p, e, s, m, args, below, meth, c, nL', lev', Mf, vf⟩ := X
  obtain ⟨hx, hb, hr, hml, hown, hts, hlk, hK, hI, hZ, hNW, rfl, rfl, rfl, rfl⟩ := h
  intro H locs ls hP hS hl
  obtain ⟨ty, hty⟩ : ∃ ty, (tysOf cA)[tt]? = some (cA tt, ty) := by
    rcases (show tt = 0 ∨ tt = 1 ∨ tt = 2 ∨ tt = 3 by omega) with rfl | rfl | rfl | rfl <;> exact ⟨_, rfl⟩
  exact va_alen hx hb hK hP q0 tt (wsOf_get hly) hty hv hd (k H locs ls hP hS hl)
theorem R_alenR (h : Cx lay ad X cc own nL lev ret M' v') {q0 tt : Nat} {qs : List Nat} {v : Int32} (hv : Int32.ofNat qs.length = v) (htt : tt < 4) (hly : lay[q0]? = some (.inr (.inr (tt, qs)))) (hd : decode cc pc = .ok (.arraylength, 1)) (k : Wp lay ad X M (pc + 1) lv (.int v :: st)) : Wp lay ad X M pc lv (.ref (ad q0) :: st) := by
  obtain ⟨⟨l, D, cA, t⟩, p, e, s, m, args, below, meth, c, nL', lev', Mf, vf⟩ := X
  obtain ⟨hx, hb, hr, hml, hown, hts, hlk, hK, hI, hZ, hNW, rfl, rfl, rfl, rfl⟩ := h
  intro H locs ls hP hS hl
  obtain ⟨ty, hty⟩ : ∃ ty, (tysOf cA)[tt]? = some (cA tt, ty) := by
    rcases (show tt = 0 ∨ tt = 1 ∨ tt = 2 ∨ tt = 3 by omega) with rfl | rfl | rfl | rfl <;> exact ⟨_, rfl⟩
  exact va_alen hx hb hK hP q0 tt (wsOf_get hly) hty hv hd (k H locs ls hP hS hl)
theorem R_aald (h : Cx lay ad X cc own nL lev ret M' v') {q0 tt q : Nat} {qs : List Nat} {i : Int32} (hrd : rdR qs i = some q) (htt : tt = 2 ∨ tt = 3) (hly : lay[q0]? = some (.inr (.inr (tt, qs)))) (hd : decode cc pc = .ok (.aaload, 1)) (k : Wp lay ad X M (pc + 1) lv (.ref (ad q) :: st)) : Wp lay ad X M pc lv (.int i :: .ref (ad q0) :: st) := by
  obtain ⟨⟨l, D, cA, t⟩, p, e, s, m, args, below, meth, c, nL', lev', Mf, vf⟩ := X
  obtain ⟨hx, hb, hr, hml, hown, hts, hlk, hK, hI, hZ, hNW, rfl, rfl, rfl, rfl⟩ := h
  intro H locs ls hP hS hl
  obtain ⟨h1, h2⟩ := rdR_s hrd
  have hv : va_rf ((qs[i.toNatClampNeg]?).map ad) = .ref (ad q) := by rw [h2]; rfl
  have k2 := k H locs ls hP hS hl
  rw [← hv] at k2
  rcases htt with rfl | rfl
  · exact va_aldq (C := RX0) (f := fun i => (qs[i]?).map ad) hx hb hK hP q0 2 (wsOf_get hly) rfl h1 hd k2
  · exact va_aldq (C := RX1) (f := fun i => (qs[i]?).map ad) hx hb hK hP q0 3 (wsOf_get hly) rfl h1 hd k2
def tA (X : XX) : Nat := X.1.2.2.2.1
theorem R_gets (h : Cx lay ad X cc own nL lev ret M' v') {idx : Nat} (hw : Cond.fieldLink own idx "PinDuties" "LETTERS" "[I" ∈ lw_good) (hd : decode cc pc = .ok (.getstatic idx, 3)) (k : Wp lay ad X M (pc + 3) lv (.ref (tA X) :: st)) : Wp lay ad X M pc lv (st) := by
  obtain ⟨⟨l, D, cA, t⟩, p, e, s, m, args, below, meth, c, nL', lev', Mf, vf⟩ := X
  obtain ⟨hx, hb, hr, hml, hown, hts, hlk, hK, hI, hZ, hNW, rfl, rfl, rfl, rfl⟩ := h
  intro H locs ls hP hS hl
  exact va_gets hx hb hZ.1 hS hown (hts _ hw) (fun _ h9 => h9) hd (k H locs ls hP hS hl)
theorem R_tld (h : Cx lay ad X cc own nL lev ret M' v') {i v : Int32} (hrd : rdT i = some v) (hd : decode cc pc = .ok (.iaload, 1)) (k : Wp lay ad X M (pc + 1) lv (.int v :: st)) : Wp lay ad X M pc lv (.int i :: .ref (tA X) :: st) := by
  obtain ⟨⟨l, D, cA, t⟩, p, e, s, m, args, below, meth, c, nL', lev', Mf, vf⟩ := X
  obtain ⟨hx, hb, hr, hml, hown, hts, hlk, hK, hI, hZ, hNW, rfl, rfl, rfl, rfl⟩ := h
  intro H locs ls hP hS hl
  have h1 : vp_in i 6 ∧ v = letF i.toNatClampNeg := by
    unfold rdT at hrd
    by_cases c0 : i < 0 ∨ 6 ≤ i.toNatClampNeg
    · rw [if_pos c0] at hrd; cases hrd
    · rw [if_neg c0] at hrd; cases hrd; exact ⟨c0, rfl⟩
  obtain ⟨h1, rfl⟩ := h1
  exact va_ti hx hb hZ.2.1 hS h1 rfl hd (k H locs ls hP hS hl)
theorem R_slen (h : Cx lay ad X cc own nL lev ret M' v') {v : Int32} (hv : Int32.ofNat (zL X.1) = v) (hd : decode cc pc = .ok (.arraylength, 1)) (k : Wp lay ad X M (pc + 1) lv (.int v :: st)) : Wp lay ad X M pc lv (.ref (zB X.1) :: st) := by
  obtain ⟨⟨l, D, cA, t⟩, p, e, s, m, args, below, meth, c, nL', lev', Mf, vf⟩ := X
  obtain ⟨hx, hb, hr, hml, hown, hts, hlk, hK, hI, hZ, hNW, rfl, rfl, rfl, rfl⟩ := h
  intro H locs ls hP hS hl
  exact va_tlen hx hb hZ.2.2 hS hv hd (k H locs ls hP hS hl)
theorem R_sld (h : Cx lay ad X cc own nL lev ret M' v') {i v : Int32} (hrd : rdS (zL X.1) (zX X.1) i = some v) (hd : decode cc pc = .ok (.iaload, 1)) (k : Wp lay ad X M (pc + 1) lv (.int v :: st)) : Wp lay ad X M pc lv (.int i :: .ref (zB X.1) :: st) := by
  obtain ⟨⟨l, D, cA, t⟩, p, e, s, m, args, below, meth, c, nL', lev', Mf, vf⟩ := X
  obtain ⟨hx, hb, hr, hml, hown, hts, hlk, hK, hI, hZ, hNW, rfl, rfl, rfl, rfl⟩ := h
  intro H locs ls hP hS hl
  obtain ⟨h1, rfl⟩ := rdS_s hrd
  exact va_ti hx hb hZ.2.2 hS h1 rfl hd (k H locs ls hP hS hl)
theorem R_mmax (h : Cx lay ad X cc own nL lev ret M' v') {idx : Nat} {x y : Int32} (hw : Cond.methodLink own idx Lib.Math.max.name ∈ lw_good ∧ Cond.static Lib.Math.max.name ∈ lw_good ∧ Cond.initialized "java/lang/Math" ∈ lw_good ∧ Cond.code Lib.Math.max.name Lib.Math.max.code 2 (some .int) ∈ lw_good) (hlv : 1 ≤ lev) (hst : (st.map fun v => v.category).sum + 13 ≤ 50) (hd : decode cc pc = .ok (.invokestatic idx, 3)) (k : Wp lay ad X M (pc + 3) lv (.int (if x < y then y else x) :: st)) : Wp lay ad X M pc lv (.int y :: .int x :: st) := by
  obtain ⟨⟨l, D, cA, t⟩, p, e, s, m, args, below, meth, c, nL', lev', Mf, vf⟩ := X
  obtain ⟨hx, hb, hr, hml, hown, hts, hlk, hK, hI, hZ, hNW, rfl, rfl, rfl, rfl⟩ := h
  intro H locs ls hP hS hl
  have hrl : (st.map fun v => v.category).sum + 13 ≤ (rmL lev').locals := Nat.le_trans hst (by show 50 ≤ 50 * lev'; omega)
  exact va_mmax hx hb (by rw [hml]; exact hl.1.symm) hown (hts _ hw.1) (hts _ hw.2.1) (hts _ hw.2.2.1) (hts _ hw.2.2.2) hlv hrl (Nat.le_refl _) (Nat.le_refl _) hd (k H locs ls hP hS hl)
theorem R_mmin (h : Cx lay ad X cc own nL lev ret M' v') {idx : Nat} {x y : Int32} (hw : Cond.methodLink own idx Lib.Math.min.name ∈ lw_good ∧ Cond.static Lib.Math.min.name ∈ lw_good ∧ Cond.initialized "java/lang/Math" ∈ lw_good ∧ Cond.code Lib.Math.min.name Lib.Math.min.code 2 (some .int) ∈ lw_good) (hlv : 1 ≤ lev) (hst : (st.map fun v => v.category).sum + 13 ≤ 50) (hd : decode cc pc = .ok (.invokestatic idx, 3)) (k : Wp lay ad X M (pc + 3) lv (.int (if y < x then y else x) :: st)) : Wp lay ad X M pc lv (.int y :: .int x :: st) := by
  obtain ⟨⟨l, D, cA, t⟩, p, e, s, m, args, below, meth, c, nL', lev', Mf, vf⟩ := X
  obtain ⟨hx, hb, hr, hml, hown, hts, hlk, hK, hI, hZ, hNW, rfl, rfl, rfl, rfl⟩ := h
  intro H locs ls hP hS hl
  have hrl : (st.map fun v => v.category).sum + 13 ≤ (rmL lev').locals := Nat.le_trans hst (by show 50 ≤ 50 * lev'; omega)
  exact va_mmin hx hb (by rw [hml]; exact hl.1.symm) hown (hts _ hw.1) (hts _ hw.2.1) (hts _ hw.2.2.1) (hts _ hw.2.2.2) hlv hrl (Nat.le_refl _) (Nat.le_refl _) hd (k H locs ls hP hS hl)
theorem R_mabs (h : Cx lay ad X cc own nL lev ret M' v') {idx : Nat} {x y : Int32} (hw : Cond.methodLink own idx Lib.Math.abs.name ∈ lw_good ∧ Cond.static Lib.Math.abs.name ∈ lw_good ∧ Cond.initialized "java/lang/Math" ∈ lw_good ∧ Cond.code Lib.Math.abs.name Lib.Math.abs.code 1 (some .int) ∈ lw_good) (hlv : 1 ≤ lev) (hst : (st.map fun v => v.category).sum + 13 ≤ 50) (hd : decode cc pc = .ok (.invokestatic idx, 3)) (k : Wp lay ad X M (pc + 3) lv (.int (if 0 ≤ x then x else 0 - x) :: st)) : Wp lay ad X M pc lv (.int x :: st) := by
  obtain ⟨⟨l, D, cA, t⟩, p, e, s, m, args, below, meth, c, nL', lev', Mf, vf⟩ := X
  obtain ⟨hx, hb, hr, hml, hown, hts, hlk, hK, hI, hZ, hNW, rfl, rfl, rfl, rfl⟩ := h
  intro H locs ls hP hS hl
  have hrl : (st.map fun v => v.category).sum + 13 ≤ (rmL lev').locals := Nat.le_trans hst (by show 50 ≤ 50 * lev'; omega)
  exact va_mabs hx hb (by rw [hml]; exact hl.1.symm) hown (hts _ hw.1) (hts _ hw.2.1) (hts _ hw.2.2.1) (hts _ hw.2.2.2) hlv hrl (Nat.le_refl _) (Nat.le_refl _) hd (k H locs ls hP hS hl)
theorem R_copyi (h : Cx lay ad X cc own nL lev ret M' v') {idx p0 n0 p1 n1 : Nat} {sp dp n : Int32} {M1 : Mem} (hw : Cond.methodLink own idx arraycopyName ∈ lw_good ∧ Cond.native arraycopyName ∈ lw_good ∧ Cond.static arraycopyName ∈ lw_good ∧ Cond.initialized "java/lang/System" ∈ lw_good) (hc : cpy M p0 n0 sp p1 n1 dp n = some M1) (hl0 : lay[p0]? = some (.inr (.inl (0, n0)))) (hl1 : lay[p1]? = some (.inr (.inl (0, n1)))) (hlv : 2 ≤ lev) (hst : st = []) (hd : decode cc pc = .ok (.invokestatic idx, 3)) (k : Wp lay ad X M1 (pc + 3) lv (st)) : Wp lay ad X M pc lv (.int n :: .int dp :: .ref (ad p1) :: .int sp :: .ref (ad p0) :: st) := by
  obtain ⟨⟨l, D, cA, t⟩, p, e, s, m, args, below, meth, c, nL', lev', Mf, vf⟩ := X
  obtain ⟨hx, hb, hr, hml, hown, hts, hlk, hK, hI, hZ, hNW, rfl, rfl, rfl, rfl⟩ := h
  intro H locs ls hP hS hl
  subst hst
  unfold cpy at hc
  by_cases c0 : sp < 0 ∨ dp < 0 ∨ n < 0 ∨ n0 < sp.toNatClampNeg + n.toNatClampNeg ∨ n1 < dp.toNatClampNeg + n.toNatClampNeg
  · rw [if_pos c0] at hc; cases hc
  · rw [if_neg c0] at hc
    have c1 : ¬ sp < 0 := fun q => c0 (Or.inl q)
    have c2 : ¬ dp < 0 := fun q => c0 (Or.inr (Or.inl q))
    have c3 : ¬ n < 0 := fun q => c0 (Or.inr (Or.inr (Or.inl q)))
    have c4 : sp.toNatClampNeg + n.toNatClampNeg ≤ n0 := Nat.not_lt.mp fun q => c0 (Or.inr (Or.inr (Or.inr (Or.inl q))))
    have c5 : dp.toNatClampNeg + n.toNatClampNeg ≤ n1 := Nat.not_lt.mp fun q => c0 (Or.inr (Or.inr (Or.inr (Or.inr q))))
    refine va_copyi hx hb (by rw [hml]; exact hl.1.symm) hown (hts _ hw.1) (hts _ hw.2.1) (hts _ hw.2.2.1) (hts _ hw.2.2.2) hK hP (wsOf_D hI) hS p0 p1 0 0 (wsOf_get hl0) (wsOf_get hl1) (ty := .int) rfl rfl rfl c1 c2 c3 c4 c5 (fun _ _ => rfl) (by show 1 ≤ lev'; omega) (copy_room hlv) hd (fun H1 locs1 hP1 _ hS1 => ?_)
    have e : (wsOf lay ad cA M).set p1 (ad p1, .inl (cA 0, n1, .inl (va_cpy (M.1 p0) (M.1 p1) sp.toNatClampNeg dp.toNatClampNeg n.toNatClampNeg))) = wsOf lay ad cA M1 := by
      cases hc
      refine wsOf_set hl1 sF_ne ?_
      simp [cellOf, sF]
    have hP2 : va_P D vwCl (wsOf lay ad cA M1) H1 := by rw [← e]; exact hP1
    exact k H1 locs1 ls hP2 hS1 hl
theorem wp_call {p : Program} {l : Launch} {e : Env} {R : Room} {s : State} {m : MethodId} {args : Array Value} {below : List Frame} {meth : Method} {c : Code} {H : Heap} {locs : List Loc} {Q : State → Prop} {ls : Array Slot} {rest st0 : List Value} {a : Array Value} {z : ZZ} {M1 : Mem} {v : Option Value}
    (hr : va_Run p l e R s m args below meth c H locs 0 0 0 0 (F0 m pc ls st0) rest (QQ lay ad z M1 v a) (AA lay ad)) (hS : va_S (AA lay ad) s.heap H locs)
    (kk : ∀ (H1 : Heap) (locs1 : List Loc), va_P z.2.1 vwCl (wsOf lay ad z.2.2.1 M1) H1 → va_S (AA lay ad) s.heap H1 locs1 → W p l e R s m args below meth c H1 locs1 0 0 Q (F0 m (pc + 3) ls (v.toList ++ rest))) : W p l e R s m args below meth c H locs 0 0 Q (F0 m pc ls st0) := by
  intro T hT X
  obtain ⟨v1, st₀, t, T', L, h0, X', hL, e1, e2, ⟨hv, hp, hz, hk⟩, st⟩ := hr T hT X
  cases hv
  rw [h0] at hz hk
  obtain ⟨t2, a1, b1⟩ := kk T'.heap (locs ++ L) (by rw [e1]; exact hp)
    ⟨Nat.le_trans hS.1 (by rw [e1]; exact hz), fun q h1 h2 => by rw [e1, hk q (Nat.lt_of_lt_of_le h1 hS.1) h2]; exact hS.2.1 q h1 h2, fun q hq => by
      rcases List.mem_append.mp hq with h | h
      · exact hS.2.2 q h
      · exact hL q h⟩ T' rfl X'
  exact ⟨t2, st t2 a1, b1⟩
theorem R_callV (h : Cx lay ad X cc own nL lev ret M' v') {idx n lev2 : Nat} {y : MethodName} {bytes : ByteArray} {maxL : Nat} {rt : Option FieldType} {M1 : Mem} {v : Option Value} {st0 : List Value} (As : List Value) {ci q0 : Nat} {fs : List Nat} (hw : CV own idx y bytes maxL rt n ci) (hc : Con lay ad X.1 y bytes maxL rt lev2 M (.ref (ad q0) :: As) M1 v) (hs0 : st0 = As.reverse ++ .ref (ad q0) :: st) (hn : As.length = n) (hly : lay[q0]? = some (.inl (ci, fs))) (hlv : lev2 + 1 ≤ lev) (hmx : maxL ≤ 30) (hst : (st.map fun v => v.category).sum ≤ 8) (hd : decode cc pc = .ok (.invokevirtual idx, 3)) {st1 : List Value} (h1 : v.toList ++ st = st1) (k : Wp lay ad X M1 (pc + 3) lv (st1)) : Wp lay ad X M pc lv (st0) := by
  obtain ⟨⟨l, D, cA, t⟩, p, e, s, m, args, below, meth, c, nL', lev', Mf, vf⟩ := X
  obtain ⟨hx, hb, hr, hml, hown, hts, hlk, hK, hI, hZ, hNW, rfl, rfl, rfl, rfl⟩ := h
  intro H locs ls hP hS hl
  subst hs0; subst h1
  obtain ⟨w1, w2, w3, w4, w5, w6, T, N, hvc⟩ := hw
  exact wp_call (va_runV (C := y.cls) (As := As) (rest := st) ⟨hx, hb, hml, hown, hts⟩ hc ⟨callB_of n hts (good_wsC w5) rfl rfl rfl (hts _ w4) (hts _ w1) w6 ⟨by show lev2 + 1 ≤ lev'; omega, by show 8 + (maxL + 11) + 50 * lev2 ≤ 50 * lev'; omega⟩, hts _ w2, hts _ w3⟩ ⟨PP_blind, va_recv hK hP (ci := ci) (q0 := q0) hvc (wsOf_get hly), fun U hU hW => ⟨rfl, by rw [hU]; exact hP, va_K.moved hW.alike hK, hI, by rw [hU]; exact SI.moved hW.alike (hZ.kept hS.2.1), NW.warm hW hNW⟩⟩ rfl hn hl.1 rfl (lv_room hst) hd ⟨Nat.le_refl _, Nat.le_refl _⟩) hS (fun H1 locs1 hP1 hS1 => k H1 locs1 ls hP1 hS1 hl)
theorem R_callS (h : Cx lay ad X cc own nL lev ret M' v') {idx n lev2 : Nat} {y : MethodName} {bytes : ByteArray} {maxL : Nat} {rt : Option FieldType} {M1 : Mem} {v : Option Value} {st0 : List Value} (As : List Value) (hw : CS own idx y bytes maxL rt n) (hc : Con lay ad X.1 y bytes maxL rt lev2 M As M1 v) (hs0 : st0 = As.reverse ++ st) (hn : As.length = n) (hlv : lev2 + 1 ≤ lev) (hmx : maxL ≤ 30) (hst : (st.map fun v => v.category).sum ≤ 8) (hd : decode cc pc = .ok (.invokestatic idx, 3)) {st1 : List Value} (h1 : v.toList ++ st = st1) (k : Wp lay ad X M1 (pc + 3) lv (st1)) : Wp lay ad X M pc lv (st0) := by
  obtain ⟨⟨l, D, cA, t⟩, p, e, s, m, args, below, meth, c, nL', lev', Mf, vf⟩ := X
  obtain ⟨hx, hb, hr, hml, hown, hts, hlk, hK, hI, hZ, hNW, rfl, rfl, rfl, rfl⟩ := h
  intro H locs ls hP hS hl
  subst hs0; subst h1
  obtain ⟨w1, w2, w4, w5, w6⟩ := hw
  exact wp_call (va_runS (As := As) (rest := st) ⟨hx, hb, hml, hown, hts⟩ hc ⟨callB_of n hts (good_wsC w5) rfl rfl rfl (hts _ w4) (hts _ w1) w6 ⟨by show lev2 + 1 ≤ lev'; omega, by show 8 + (maxL + 11) + 50 * lev2 ≤ 50 * lev'; omega⟩, hts _ w2⟩ ⟨PP_blind, fun U hU hW => ⟨rfl, by rw [hU]; exact hP, va_K.moved hW.alike hK, hI, by rw [hU]; exact SI.moved hW.alike (hZ.kept hS.2.1), NW.warm hW hNW⟩⟩ rfl hn hl.1 rfl (lv_room hst) hd ⟨Nat.le_refl _, Nat.le_refl _⟩) hS (fun H1 locs1 hP1 hS1 => k H1 locs1 ls hP1 hS1 hl)
theorem R_callN (h : Cx lay ad X cc own nL lev ret M' v') {idx n lev2 : Nat} {y : MethodName} {bytes : ByteArray} {maxL : Nat} {rt : Option FieldType} {M1 : Mem} {v : Option Value} {st0 : List Value} (As : List Value) {host : String} (hw : CN own idx y host bytes maxL rt n) (hc : Con lay ad X.1 y bytes maxL rt lev2 M As M1 v) (hs0 : st0 = As.reverse ++ st) (hn : As.length = n) (hlv : lev2 + 1 ≤ lev) (hmx : maxL ≤ 30) (hst : (st.map fun v => v.category).sum ≤ 8) (hd : decode cc pc = .ok (.invokestatic idx, 3)) {st1 : List Value} (h1 : v.toList ++ st = st1) (k : Wp lay ad X M1 (pc + 3) lv (st1)) : Wp lay ad X M pc lv (st0) := by
  obtain ⟨⟨l, D, cA, t⟩, p, e, s, m, args, below, meth, c, nL', lev', Mf, vf⟩ := X
  obtain ⟨hx, hb, hr, hml, hown, hts, hlk, hK, hI, hZ, hNW, rfl, rfl, rfl, rfl⟩ := h
  intro H locs ls hP hS hl
  subst hs0; subst h1
  obtain ⟨w1, w2, w4, w5, w6⟩ := hw
  exact wp_call (va_runSN (As := As) (rest := st) ⟨hx, hb, hml, hown, hts⟩ hc ⟨va_cnB n hts (good_wsC w5) rfl rfl rfl (hNW _ w1) (hts _ w4) w6 ⟨by show lev2 + 1 ≤ lev'; omega, by show 8 + (maxL + 11) + 50 * lev2 ≤ 50 * lev'; omega⟩, hts _ w2, trivial⟩ ⟨PP_blind, fun U hU hW => ⟨rfl, by rw [hU]; exact hP, va_K.moved hW.alike hK, hI, by rw [hU]; exact SI.moved hW.alike (hZ.kept hS.2.1), NW.warm hW hNW⟩⟩ rfl hn hl.1 rfl (lv_room hst) hd ⟨Nat.le_refl _, Nat.le_refl _⟩) hS (fun H1 locs1 hP1 hS1 => k H1 locs1 ls hP1 hS1 hl)
theorem R_ireturn (h : Cx lay ad X cc own nL lev ret M' v') {v : Int32} (hre : ret = some .int) (hM : M = M') (hv : some (Value.int v) = v') (hd : decode cc pc = .ok (.ireturn, 1)) : Wp lay ad X M pc lv (.int v :: []) := by
  obtain ⟨⟨l, D, cA, t⟩, p, e, s, m, args, below, meth, c, nL', lev', Mf, vf⟩ := X
  obtain ⟨hx, hb, hr, hml, hown, hts, hlk, hK, hI, hZ, hNW, rfl, rfl, rfl, rfl⟩ := h
  intro H locs ls hP hS hl
  subst hM; subst hv
  exact W.iret hx hb (by rw [hr]; exact hre) (fun t ht hW => ⟨rfl, by rw [ht]; exact hP, hS.F ht⟩) hS.2.2 hd
theorem R_zreturn (h : Cx lay ad X cc own nL lev ret M' v') {v w : Int32} (hre : ret = some .boolean) (hz : zr v = some w) (hM : M = M') (hv : some (Value.int w) = v') (hd : decode cc pc = .ok (.ireturn, 1)) : Wp lay ad X M pc lv (.int v :: []) := by
  obtain ⟨⟨l, D, cA, t⟩, p, e, s, m, args, below, meth, c, nL', lev', Mf, vf⟩ := X
  obtain ⟨hx, hb, hr, hml, hown, hts, hlk, hK, hI, hZ, hNW, rfl, rfl, rfl, rfl⟩ := h
  intro H locs ls hP hS hl
  have hw : v = w ∧ narrow .boolean (.int v) = .int v := by
    unfold zr at hz
    by_cases c0 : v = 0 ∨ v = 1
    · rw [if_pos c0] at hz
      cases hz
      exact ⟨rfl, by rcases c0 with rfl | rfl <;> rfl⟩
    · rw [if_neg c0] at hz; cases hz
  obtain ⟨rfl, hnn⟩ := hw
  subst hM; subst hv
  exact W.zret hx hb (by rw [hr]; exact hre) hnn (fun t ht hW => ⟨rfl, by rw [ht]; exact hP, hS.F ht⟩) hS.2.2 hd
theorem R_lreturn (h : Cx lay ad X cc own nL lev ret M' v') {v : Int64} (hre : ret = some .long) (hM : M = M') (hv : some (Value.long v) = v') (hd : decode cc pc = .ok (.lreturn, 1)) : Wp lay ad X M pc lv (.long v :: []) := by
  obtain ⟨⟨l, D, cA, t⟩, p, e, s, m, args, below, meth, c, nL', lev', Mf, vf⟩ := X
  obtain ⟨hx, hb, hr, hml, hown, hts, hlk, hK, hI, hZ, hNW, rfl, rfl, rfl, rfl⟩ := h
  intro H locs ls hP hS hl
  subst hM; subst hv
  exact W.lret hx hb (by rw [hr]; exact hre) (fun t ht hW => ⟨rfl, by rw [ht]; exact hP, hS.F ht⟩) hS.2.2 hd
theorem R_return (h : Cx lay ad X cc own nL lev ret M' v') (hre : ret = none) (hM : M = M') (hv : none = v') (hd : decode cc pc = .ok (.return_, 1)) : Wp lay ad X M pc lv ([]) := by
  obtain ⟨⟨l, D, cA, t⟩, p, e, s, m, args, below, meth, c, nL', lev', Mf, vf⟩ := X
  obtain ⟨hx, hb, hr, hml, hown, hts, hlk, hK, hI, hZ, hNW, rfl, rfl, rfl, rfl⟩ := h
  intro H locs ls hP hS hl
  subst hM; subst hv
  exact W.vret hx hb (by rw [hr]; exact hre) (fun t ht hW => ⟨rfl, by rw [ht]; exact hP, hS.F ht⟩) hS.2.2 hd
theorem R_areturn (h : Cx lay ad X cc own nL lev ret M' v') {v : Value} {C : String} (hre : ret = some (.object C)) (hva : v = .null ∨ ∃ a, v = .ref a) (hM : M = M') (hv : some v = v') (hd : decode cc pc = .ok (.areturn, 1)) : Wp lay ad X M pc lv (v :: []) := by
  obtain ⟨⟨l, D, cA, t⟩, p, e, s, m, args, below, meth, c, nL', lev', Mf, vf⟩ := X
  obtain ⟨hx, hb, hr, hml, hown, hts, hlk, hK, hI, hZ, hNW, rfl, rfl, rfl, rfl⟩ := h
  intro H locs ls hP hS hl
  subst hM; subst hv
  exact W.aret hx hb (by rw [hr]; exact hre) (Or.inl ⟨C, rfl⟩) hva (fun t ht hW => ⟨rfl, by rw [ht]; exact hP, hS.F ht⟩) hS.2.2 hd
end RULES
