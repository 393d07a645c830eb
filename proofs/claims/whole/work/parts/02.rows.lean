/-! my rows: the common shape of all contracts (MP reads only, MM writes its cells), and a row for each kind of call -/
abbrev GG : Type := va_G × ClassId × ClassId × ClassId × ClassId
abbrev tyG (g : GG) : List (ClassId × FieldType) := [(g.2.1, .int), (g.2.2.1, .long), (g.2.2.2.1, .boolean), (g.2.2.2.2, .object RX0)]
def NW (U : State) : Prop := va_Nw (.methodLinkNest RX3 11 yX0_init RX3) U ∧ va_Nw (.methodLinkNest RX3 18 yX1_init RX3) U ∧ va_Nw (.methodLinkNest RX3 25 yX2_init RX3) U ∧ va_Nw (.methodLinkNest RX0 22 yX3_bit RX3) U ∧ va_Nw (.methodLinkNest RX0 28 yX3_isLand RX3) U ∧ va_Nw (.methodLinkNest RX0 47 yX3_around RX3) U ∧ va_Nw (.methodLinkNest RX2 40 yX3_isLand RX3) U ∧ va_Nw (.methodLinkNest RX2 54 yX3_thousandths RX3) U ∧ va_AO RX0 U
theorem NW.warm {s U : State} (hW : s.WarmedH U.vm) (h : NW s) : NW U := ⟨va_Nw.warmM hW h.1, va_Nw.warmM hW h.2.1, va_Nw.warmM hW h.2.2.1, va_Nw.warmM hW h.2.2.2.1, va_Nw.warmM hW h.2.2.2.2.1, va_Nw.warmM hW h.2.2.2.2.2.1, va_Nw.warmM hW h.2.2.2.2.2.2.1, va_Nw.warmM hW h.2.2.2.2.2.2.2.1, va_AO.moved hW.alike h.2.2.2.2.2.2.2.2⟩
theorem NW.same {u U : State} (e : u.vm = U.vm) (h : NW u) : NW U := ⟨va_Nw.same rfl e h.1, va_Nw.same rfl e h.2.1, va_Nw.same rfl e h.2.2.1, va_Nw.same rfl e h.2.2.2.1, va_Nw.same rfl e h.2.2.2.2.1, va_Nw.same rfl e h.2.2.2.2.2.1, va_Nw.same rfl e h.2.2.2.2.2.2.1, va_Nw.same rfl e h.2.2.2.2.2.2.2.1, va_AO.moved (by rw [e]; exact Vm.Alike.refl _) h.2.2.2.2.2.2.2.2⟩
def Kx (g : GG) (U : State) : Prop := va_K g.1 vwCl (tyG g) U ∧ NW U
theorem Kx.warm {g : GG} {s U : State} (hW : s.WarmedH U.vm) (h : Kx g s) : Kx g U := ⟨va_K.moved hW.alike h.1, NW.warm hW h.2⟩
theorem Kx.calling {g : GG} {U : State} {f : JFrame} {mk : MethodId} {a : Array Value} (h : Kx g U) : Kx g (U.calling f mk a) := ⟨va_K.moved (u := U) (U := U.calling f mk a) (Vm.Alike.refl U.vm) h.1, NW.same rfl h.2⟩
/-- a method that only reads: its answer, the heap as it was -/
def MP (l : Launch) (y : MethodName) (ws : List Cond) (rm : Room) (g : GG) (As : List Value) (w : va_W) (r : Value) : Prop :=
  Met l y ws rm (va_Pc As (fun U => va_P g.1 vwCl w U.heap ∧ Kx g U)) (k2_QcV r) 0 0 (fun _ => False)
def QM (g : GG) (r : Option Value) (w' : va_W) (A : Nat → Prop) : Array Value → State → Outcome → State → Prop := fun _ st o t => (o = .returned r ∧ va_P g.1 vwCl w' t.heap ∧ va_D A w') ∧ va_F A st t
/-- a method that writes: its answer, what its cells hold behind it -/
def MM (l : Launch) (y : MethodName) (ws : List Cond) (rm : Room) (g : GG) (As : List Value) (w w' : va_W) (r : Option Value) : Prop :=
  ∀ sz : Nat, Met l y ws rm (va_Pc As (fun U => U.heap.size = sz ∧ va_P g.1 vwCl w U.heap ∧ Kx g U ∧ va_D (fun _ => True) w)) (QM g r w' (va_A w sz)) 0 0 (va_A w sz)
/-- a constructor: it makes cells, at addresses as -/
def QA (g : GG) (w' : List Nat → va_W) (A : Nat → Prop) : Array Value → State → Outcome → State → Prop := fun _ st o t => (o = .returned none ∧ ∃ as : List Nat, va_P g.1 vwCl (w' as) t.heap ∧ va_D A (w' as)) ∧ va_F A st t
def MA (l : Launch) (y : MethodName) (ws : List Cond) (rm : Room) (g : GG) (As : List Value) (w : va_W) (w' : List Nat → va_W) (mc ms : Nat) : Prop :=
  ∀ sz : Nat, Met l y ws rm (va_Pc As (fun U => U.heap.size = sz ∧ va_P g.1 vwCl w U.heap ∧ Kx g U ∧ va_D (fun _ => True) w)) (QA g w' (va_A w sz)) mc ms (va_A w sz)
theorem pk_of {α : Type} {ws ws' : List α} {is : List Nat} (hs : is.map (fun i => ws[i]?) = ws'.map some) {k : Nat} {q : α} (hq : ws'[k]? = some q) : ∃ i, is[k]? = some i ∧ ws[i]? = some q := by
  have h1 : (is.map (fun i => ws[i]?))[k]? = some (some q) := by rw [hs, List.getElem?_map, hq]; rfl
  rw [List.getElem?_map] at h1
  cases hi : is[k]? with
  | none => rw [hi] at h1; cases h1
  | some i => rw [hi] at h1; exact ⟨i, rfl, Option.some.inj h1⟩
theorem va_P.pick {D : va_G} {cl : List vw_C} {ws ws' : va_W} {H : Heap} (h : va_P D cl ws H) (is : List Nat) (hs : is.map (fun i => ws[i]?) = ws'.map some) : va_P D cl ws' H := by
  intro k q hk
  obtain ⟨i, -, hi⟩ := pk_of hs hk
  exact h i q hi
-- what a branch, a guard, a call says of the answer
theorem gdp {α : Type} {c : Prop} {i : Decidable c} {a b r : α} (h : @ite α c i a b = r) (hc : c) : a = r := by rw [if_pos hc] at h; exact h
theorem gdn {α : Type} {c : Prop} {i : Decidable c} {a b r : α} (h : @ite α c i a b = r) (hc : ¬ c) : b = r := by rw [if_neg hc] at h; exact h
/-- the index is in its row -/
def ix (i : Int32) (n : Nat) : Bool := decide (¬ (i < 0 ∨ n ≤ i.toNatClampNeg))
theorem ix_in {i : Int32} {n : Nat} : ix i n = true ↔ vp_in i n := by simp [ix, vp_in]
theorem gdi {α : Type} {i : Int32} {n : Nat} {a : Option α} {r : α} (h : (if ix i n = true then a else none) = some r) : vp_in i n ∧ a = some r := by
  by_cases q : ix i n = true
  · rw [if_pos q] at h; exact ⟨ix_in.mp q, h⟩
  · rw [if_neg q] at h; cases h
theorem gdz {α : Type} {y : Int32} {a : Option α} {r : α} (h : (if y = 0 then none else a) = some r) : ¬ y = 0 ∧ a = some r := by
  by_cases q : y = 0
  · rw [if_pos q] at h; cases h
  · rw [if_neg q] at h; exact ⟨q, h⟩
/-- a truth value -/
def zb (v : Int32) : Bool := decide (v = 0 ∨ v = 1)
theorem gdzb {α : Type} {v : Int32} {a : Option α} {r : α} (h : (if zb v = true then a else none) = some r) : narrow .boolean (.int v) = .int v ∧ a = some r := by
  by_cases q : zb v = true
  · rw [if_pos q] at h
    refine ⟨?_, h⟩
    simp only [zb, decide_eq_true_eq] at q
    rcases q with q | q <;> subst q <;> rfl
  · rw [if_neg q] at h; cases h
theorem gdb {α β : Type} {x : Option α} {k : α → Option β} {r : β} (h : x.bind k = some r) : ∃ a, x = some a ∧ k a = some r := Option.bind_eq_some_iff.mp h
/-- a loop: at most n rounds -/
def wh {S T : Type} (f : S → Option (Sum S T)) : Nat → S → Option T
  | 0, _ => none
  | n + 1, s => match f s with
    | none => none
    | some (.inl s') => wh f n s'
    | some (.inr t) => some t
def wk {S T : Type} (f : S → Option (Sum S T)) (n : Nat) (r : Sum S T) (t : T) : Prop := match r with
  | .inl s' => wh f n s' = some t
  | .inr t' => t' = t
theorem wh_s {S T : Type} {f : S → Option (Sum S T)} {n : Nat} {s : S} {t : T} (h : wh f (n + 1) s = some t) : ∃ r, f s = some r ∧ wk f n r t := by
  unfold wh at h
  cases hf : f s with
  | none => rw [hf] at h; cases h
  | some r =>
    rw [hf] at h
    cases r with
    | inl s' => exact ⟨_, rfl, h⟩
    | inr t' => exact ⟨_, rfl, Option.some.inj h⟩
theorem wh_0 {S T : Type} {f : S → Option (Sum S T)} {s : S} {t : T} (h : wh f 0 s = some t) : False := by unfold wh at h; cases h
def FU : Nat := 10000
section KROWS
variable {p : Program} {l : Launch} {e : Env} {R : Room} {s : State} {m : MethodId} {args : Array Value} {below : List Frame} {meth : Method} {c : Code} {H : Heap} {locs : List Loc} {cells slots : Nat} {Q : State → Prop}
variable {Ts wsc ws' : List Cond} {cc bytes : ByteArray} {nL maxL idx n pc : Nat} {own C host : String} {y : MethodName} {ret : Option FieldType} {rm : Room} {b : Addr} {As rest st0 : List Value} {ls : Array Slot} {g : GG} {w w' : va_W} {r : Value} {ro : Option Value}
theorem mp_blind {As : List Value} : FrameBlind (va_Pc As (fun U => va_P g.1 vwCl w U.heap ∧ Kx g U)) := fun _ _ _ _ q => ⟨q.1, q.2.1, q.2.2.calling⟩
theorem mm_blind {As : List Value} {sz : Nat} : FrameBlind (va_Pc As (fun U => U.heap.size = sz ∧ va_P g.1 vwCl w U.heap ∧ Kx g U ∧ va_D (fun _ => True) w)) := fun _ _ _ _ q => ⟨q.1, q.2.1, q.2.2.1, q.2.2.2.1.calling, q.2.2.2.2⟩
theorem MP.of (maxL : Nat) (ret : Option FieldType) (hy : plainName y.cls = true) (hw : wsc = Cond.code y cc maxL ret :: ws') (hAs : (lg_sl As).length ≤ maxL) (hown : y.cls = own)
    (body : ∀ (p : Program) (e : Env) (s : State) (m : MethodId) (args : Array Value) (below : List Frame) (meth : Method) (c : Code), p.tables.exec = Jvm.exec → c.code = cc → meth.sig.returnType = ret → c.maxLocals = maxL → s.vm.findClass own = some m.cls → (∀ w ∈ wsc, w.before args s = true) → meth.locks = false → va_P g.1 vwCl w s.heap → Kx g s → ∀ ls : Array Slot, lv_has ls maxL (lv_args 0 As) →
      W p l e rm s m args below meth c s.heap [] 0 0 (MQ below (k2_QcV r) args s 0 0 (fun _ => False)) (F0 m 0 ls [])) : MP l y wsc rm g As w r := by
  refine Met.ofW (cc := cc) (maxL := maxL) (ret := ret) hy hw ?_
  intro p e s m args below meth c s₁ B hml hv
  obtain ⟨rfl, hP, hK⟩ := hv
  have hts := atoms_spec (ws := wsc) B.pre
  have ho : s.vm.findClass y.cls = some m.cls := findClass_of_methodNamed B.named
  rw [lg_entry_eq]
  exact body p e s m _ below meth c B.exec B.bytes B.returns hml (hown ▸ ho) hts B.notSynchronized hP hK _ (lv_entry As hAs)
theorem MP.ofF (maxL : Nat) (ret : Option FieldType) (hy : plainFor y = true) (hw : wsc = Cond.code y cc maxL ret :: ws') (hAs : (lg_sl As).length ≤ maxL) (hown : y.cls = own)
    (body : ∀ (p : Program) (e : Env) (s : State) (m : MethodId) (args : Array Value) (below : List Frame) (meth : Method) (c : Code), p.tables.exec = Jvm.exec → c.code = cc → meth.sig.returnType = ret → c.maxLocals = maxL → s.vm.findClass own = some m.cls → (∀ w ∈ wsc, w.before args s = true) → meth.locks = false → va_P g.1 vwCl w s.heap → Kx g s → ∀ ls : Array Slot, lv_has ls maxL (lv_args 0 As) →
      W p l e rm s m args below meth c s.heap [] 0 0 (MQ below (k2_QcV r) args s 0 0 (fun _ => False)) (F0 m 0 ls [])) : MP l y wsc rm g As w r := by
  refine va_MetF (cc := cc) (maxL := maxL) (ret := ret) hy hw ?_
  intro p e s m args below meth c s₁ B hml hv
  obtain ⟨rfl, hP, hK⟩ := hv
  have hts := atoms_spec (ws := wsc) B.pre
  have ho : s.vm.findClass y.cls = some m.cls := findClass_of_methodNamed B.named
  rw [lg_entry_eq]
  exact body p e s m _ below meth c B.exec B.bytes B.returns hml (hown ▸ ho) hts B.notSynchronized hP hK _ (lv_entry As hAs)
theorem MM.of (maxL : Nat) (ret : Option FieldType) (hy : plainName y.cls = true) (hw : wsc = Cond.code y cc maxL ret :: ws') (hAs : (lg_sl As).length ≤ maxL) (hown : y.cls = own)
    (body : ∀ (p : Program) (e : Env) (s : State) (m : MethodId) (args : Array Value) (below : List Frame) (meth : Method) (c : Code), p.tables.exec = Jvm.exec → c.code = cc → meth.sig.returnType = ret → c.maxLocals = maxL → s.vm.findClass own = some m.cls → (∀ w ∈ wsc, w.before args s = true) → meth.locks = false → Kx g s → ∀ A : Nat → Prop, (∀ q, s.heap.size ≤ q → A q) → ∀ ls : Array Slot, lv_has ls maxL (lv_args 0 As) → va_P g.1 vwCl w s.heap → va_D A w → va_S A s.heap s.heap [] →
      W p l e rm s m args below meth c s.heap [] 0 0 (MQ below (QM g ro w' A) args s 0 0 A) (F0 m 0 ls [])) : MM l y wsc rm g As w w' ro := by
  intro sz
  refine Met.ofW (cc := cc) (maxL := maxL) (ret := ret) hy hw ?_
  intro p e s m args below meth c s₁ B hml hv
  obtain ⟨rfl, rfl, hP, hK, hD⟩ := hv
  have hts := atoms_spec (ws := wsc) B.pre
  have ho : s.vm.findClass y.cls = some m.cls := findClass_of_methodNamed B.named
  rw [lg_entry_eq]
  exact body p e s m _ below meth c B.exec B.bytes B.returns hml (hown ▸ ho) hts B.notSynchronized hK _ (fun q h => Or.inr h) _ (lv_entry As hAs) hP hD.self va_S.rf
theorem MA.of {wA : List Nat → va_W} {mc ms : Nat} (maxL : Nat) (ret : Option FieldType) (hy : plainName y.cls = true) (hw : wsc = Cond.code y cc maxL ret :: ws') (hAs : (lg_sl As).length ≤ maxL) (hown : y.cls = own)
    (body : ∀ (p : Program) (e : Env) (s : State) (m : MethodId) (args : Array Value) (below : List Frame) (meth : Method) (c : Code), p.tables.exec = Jvm.exec → c.code = cc → meth.sig.returnType = ret → c.maxLocals = maxL → s.vm.findClass own = some m.cls → (∀ w ∈ wsc, w.before args s = true) → meth.locks = false → meth.name = y.name → Kx g s → ∀ A : Nat → Prop, (∀ q, s.heap.size ≤ q → A q) → ∀ ls : Array Slot, lv_has ls maxL (lv_args 0 As) → va_P g.1 vwCl w s.heap → va_D A w → va_S A s.heap s.heap [] →
      W p l e rm s m args below meth c s.heap [] 0 0 (MQ below (QA g wA A) args s mc ms A) (F0 m 0 ls [])) : MA l y wsc rm g As w wA mc ms := by
  intro sz
  refine Met.ofW (cc := cc) (maxL := maxL) (ret := ret) hy hw ?_
  intro p e s m args below meth c s₁ B hml hv
  obtain ⟨rfl, rfl, hP, hK, hD⟩ := hv
  have hts := atoms_spec (ws := wsc) B.pre
  have ho : s.vm.findClass y.cls = some m.cls := findClass_of_methodNamed B.named
  rw [lg_entry_eq]
  exact body p e s m _ below meth c B.exec B.bytes B.returns hml (hown ▸ ho) hts B.notSynchronized (name_of_methodNamed B.named B.method).1 hK _ (fun q h => Or.inr h) _ (lv_entry As hAs) hP hD.self va_S.rf
/-- a new row of numbers: its class is the one that g names -/
theorem newT {A : Nat → Prop} {H0 : Heap} (hx : p.tables.exec = Jvm.exec) (hb : c.code = cc) {atype : ArrayType} (harr : (Cond.arrayClass (newarray.typeOf atype)).before args s = true) {ty : FieldType} (hty : newarray.typeOf atype = ty) (h3 : ty = .int ∨ ty = .long ∨ ty = .boolean) (hK : Kx g s) (t0 : Nat) {cX : ClassId} (ht : (tyG g)[t0]? = some (cX, ty)) (hP : va_P g.1 vwCl w H) (hD : va_D A w) (hS : va_S A H0 H locs) (hA : ∀ q, H0.size ≤ q → A q)
    {i : Int32} {N' : Nat} {a0 : vp_A} (ha : ∀ cA : ClassId, vp_cell cA a0 = arrV cA N' (fun _ => defaultValue ty)) (hn : ¬ i < 0) (hN : i.toNatClampNeg = N') (hbytes : N' * componentBytes ty ≤ 536870912) (hcells : cells + 1 ≤ R.cells) (hslots : slots + N' ≤ R.slots) (hdg : decode cc pc = .ok (.newarray atype, 2))
    (kk : ∀ (q : Nat) (H1 : Heap), va_P g.1 vwCl (w ++ [(q, .inl (cX, a0))]) H1 → va_D A (w ++ [(q, .inl (cX, a0))]) → va_S A H0 H1 locs → W p l e R s m args below meth c H1 locs (cells + 1) (slots + N') Q (F0 m (pc + 2) ls (.ref q :: rest))) : W p l e R s m args below meth c H locs cells slots Q (F0 m pc ls (.int i :: rest)) := by
  refine va_newa hx hb harr hty hK.1 hP hD hS hA ha hn hN hbytes hcells hslots hdg (fun q cA H1 hK' hP' hD' hS' => ?_)
  have h1 := (hK.1.2 t0 _ ht).2
  have h2 := (hK'.2 4 (cA, ty) rfl).2
  have e0 : cA = cX := by
    rcases h3 with rfl | rfl | rfl <;> exact Option.some.inj (h2.symm.trans h1)
  subst e0
  exact kk q H1 hP' hD' hS'
/-- a new row of grids -/
theorem newQ {A : Nat → Prop} {H0 : Heap} (hx : p.tables.exec = Jvm.exec) (hb : c.code = cc) (hown : s.vm.findClass own = some m.cls) (hcl : (Cond.classLink own idx RX0).before args s = true) (hK : Kx g s) (hP : va_P g.1 vwCl w H) (hD : va_D A w) (hS : va_S A H0 H locs) (hA : ∀ q, H0.size ≤ q → A q)
    {i : Int32} {N' : Nat} (hn : ¬ i < 0) (hN : i.toNatClampNeg = N') (hbytes : N' * 4 ≤ 536870912) (hcells : cells + 1 ≤ R.cells) (hslots : slots + N' ≤ R.slots) (hdg : decode cc pc = .ok (.anewarray idx, 3))
    (kk : ∀ (q : Nat) (H1 : Heap), va_P g.1 vwCl (w ++ [(q, .inl (g.2.2.2.2, N', .inr (.inr (.inr (.inr (fun _ => none))))))]) H1 → va_D A (w ++ [(q, .inl (g.2.2.2.2, N', .inr (.inr (.inr (.inr (fun _ => none))))))]) → va_S A H0 H1 locs → W p l e R s m args below meth c H1 locs (cells + 1) (slots + N') Q (F0 m (pc + 3) ls (.ref q :: rest))) : W p l e R s m args below meth c H locs cells slots Q (F0 m pc ls (.int i :: rest)) := by
  refine va_newq hx hb hown hcl hK.2.2.2.2.2.2.2.2.2 hK.1 hP hD hS hA hn hN hbytes hcells hslots hdg (fun q cA H1 hK' hP' hD' hS' => ?_)
  have h1 := (hK.1.2 3 _ rfl).2
  have h2 := (hK'.2 4 (cA, .object RX0) rfl).2
  have e0 : cA = g.2.2.2.2 := by
    obtain ⟨k1, c1, a1, a2, a3, a4⟩ := h1
    obtain ⟨k2, c2, b1, b2, b3, b4⟩ := h2
    exact Option.some.inj (b4.symm.trans a4)
  subst e0
  exact kk q H1 hP' hD' hS'
/-- a constructor called: its cell goes out, its cells come in behind the rest -/
theorem kIN {A : Nat → Prop} {W0 wr : va_W} {wA : List Nat → va_W} {mc ms : Nat} (S : CallFix p m c cc nL s args Ts own) (hM : MA l y wsc rm g [.ref b] w wA mc ms) (cw : va_CN R s args own idx y host bytes maxL none wsc rm mc ms 0 ∧ y.name = "<init>" ∧ (Cond.instanceMethod y).before args s = true) (hK : Kx g s) (hP : va_P g.1 vwCl W0 H) (hD : va_D A W0) (hS : va_S A s.heap H locs) (hA : ∀ q, s.heap.size ≤ q → A q) (isC isR : List Nat) (hC : isC.map (fun i => W0[i]?) = w.map some) (hcn : va_nd isC = true) (hR : isR.map (fun i => W0[i]?) = wr.map some) (hrn : va_nd isR = true) (hdis : ∀ i ∈ isR, i ∉ isC)
    (hl : ls.size = nL) (hst : st0 = .ref b :: rest) (hroom : (rest.map fun v => v.category).sum ≤ 8) (hdg : decode cc pc = .ok (.invokespecial idx, 3)) (hf : cells + mc ≤ R.cells ∧ slots + ms ≤ R.slots)
    (kk : ∀ (as : List Nat) (H1 : Heap) (locs1 : List Loc), va_P g.1 vwCl (wr ++ wA as) H1 → va_D A (wr ++ wA as) → va_S A s.heap H1 locs1 → W p l e R s m args below meth c H1 locs1 (cells + mc) (slots + ms) Q (F0 m (pc + 3) ls rest)) : W p l e R s m args below meth c H locs cells slots Q (F0 m pc ls st0) := by
  have hPc := hP.pick isC hC
  have hDc := hD.sub isC hcn hC
  have hr := va_runIN (As := []) (rest := rest) S (hM H.size) cw ⟨mm_blind, fun U hU hW => ⟨rfl, by rw [hU], by rw [hU]; exact hPc, hK.warm hW, hDc.weaken (fun _ _ _ _ => trivial)⟩⟩ (g := F0 m pc ls st0) (b := b) (H := H) (locs := locs) (cells := cells) (slots := slots) (below := below) (meth := meth) (e := e) rfl rfl hl hst (lv_room hroom) hdg hf
  intro T hT X
  obtain ⟨v, st₀, t, T', L, h0, X', hL, e1, e2, ⟨⟨hv, as, hp1, hd1⟩, hz, hk⟩, st⟩ := hr T hT X
  cases hv
  rw [h0] at hz hk
  have hF := va_free (wc := w) hD hS hA isC hC
  obtain ⟨hP1, hD1⟩ := va_join hP hD isC isR hC hR hrn hdis hk hF hp1 hd1
  obtain ⟨t2, a1, b1⟩ := kk as T'.heap (locs ++ L) (by rw [e1]; exact hP1) hD1
    ⟨Nat.le_trans hS.1 (by rw [e1]; exact hz), fun q h1 h2 => by rw [e1, hk q (Nat.lt_of_lt_of_le h1 hS.1) (fun z => h2 (hF q z))]; exact hS.2.1 q h1 h2, fun q hq => by
      rcases List.mem_append.mp hq with h | h
      · exact hS.2.2 q h
      · exact hF _ (hL q h)⟩ T' rfl X'
  exact ⟨t2, st t2 a1, b1⟩
theorem kPV (S : CallFix p m c cc nL s args Ts own) (hM : MP l y wsc rm g (.ref b :: As) w r) (cw : CallW R s args own C idx y bytes maxL ret wsc rm 0 0 n) (hK : Kx g s) {W0 : va_W} (hP : va_P g.1 vwCl W0 H) (is : List Nat) (hw : is.map (fun i => W0[i]?) = w.map some) {ci : Nat} {q : vw_C} {fs : List Value} (hc : vwCl[ci]? = some q) (he : w[0]? = some (b, .inr (ci, fs))) (hC : q.1 = C) (hn : As.length = n) (hl : ls.size = nL) (hst : st0 = As.reverse ++ .ref b :: rest) (hroom : (rest.map fun v => v.category).sum ≤ 8) (hdg : decode cc pc = .ok (.invokevirtual idx, 3)) (hf : cells ≤ R.cells ∧ slots ≤ R.slots)
    (kk : W p l e R s m args below meth c H locs cells slots Q (F0 m (pc + 3) ls (r :: rest))) : W p l e R s m args below meth c H locs cells slots Q (F0 m pc ls st0) := by
  have hPc := hP.pick is hw
  have hr := va_recv hK.1 hPc hc he
  rw [hC] at hr
  exact W.callV (W.runV (As := As) (rest := rest) S hM cw ⟨mp_blind, hr, fun U hU hW => ⟨rfl, by rw [hU]; exact hPc, hK.warm hW⟩⟩ rfl hn hl hst (lv_room hroom) hdg hf) kk
theorem kPS (S : CallFix p m c cc nL s args Ts own) (hM : MP l y wsc rm g As w r) (cw : CallB R s args own idx y bytes maxL ret wsc rm 0 0 n ∧ (Cond.static y).before args s = true) (hK : Kx g s) (hw : w = []) (hn : As.length = n) (hl : ls.size = nL) (hst : st0 = As.reverse ++ rest) (hroom : (rest.map fun v => v.category).sum ≤ 8) (hdg : decode cc pc = .ok (.invokestatic idx, 3)) (hf : cells ≤ R.cells ∧ slots ≤ R.slots)
    (kk : W p l e R s m args below meth c H locs cells slots Q (F0 m (pc + 3) ls (r :: rest))) : W p l e R s m args below meth c H locs cells slots Q (F0 m pc ls st0) := by
  subst hw
  exact W.callV (W.runS (As := As) (rest := rest) S hM cw ⟨mp_blind, fun U hU hW => ⟨rfl, (fun k q h => by simp at h), hK.warm hW⟩⟩ rfl hn hl hst (lv_room hroom) hdg hf) kk
theorem kPN (S : CallFix p m c cc nL s args Ts own) (hM : MP l y wsc rm g As w r) (cw : va_CN R s args own idx y host bytes maxL ret wsc rm 0 0 n ∧ (Cond.static y).before args s = true ∧ True) (hK : Kx g s) (hw : w = []) (hn : As.length = n) (hl : ls.size = nL) (hst : st0 = As.reverse ++ rest) (hroom : (rest.map fun v => v.category).sum ≤ 8) (hdg : decode cc pc = .ok (.invokestatic idx, 3)) (hf : cells ≤ R.cells ∧ slots ≤ R.slots)
    (kk : W p l e R s m args below meth c H locs cells slots Q (F0 m (pc + 3) ls (r :: rest))) : W p l e R s m args below meth c H locs cells slots Q (F0 m pc ls st0) := by
  subst hw
  exact W.callV (va_Run.run (va_runSN (As := As) (rest := rest) S hM cw ⟨mp_blind, fun U hU hW => ⟨rfl, (fun k q h => by simp at h), hK.warm hW⟩⟩ rfl hn hl hst (lv_room hroom) hdg hf)) kk
/-- behind a call that writes: the caller's world with the callee's cells anew, in its old order -/
theorem kM {a : Array Value} {A : Nat → Prop} {W0 W1 wr : va_W} (hr : va_Run p l e R s m args below meth c H locs cells slots 0 0 (F0 m pc ls st0) rest (QM g ro w' (va_A w H.size) a) (va_A w H.size)) (hP : va_P g.1 vwCl W0 H) (hD : va_D A W0) (hS : va_S A s.heap H locs) (hA : ∀ q, s.heap.size ≤ q → A q) (isC isR perm : List Nat) (hC : isC.map (fun i => W0[i]?) = w.map some) (hR : isR.map (fun i => W0[i]?) = wr.map some) (hn : va_nd isR = true) (hdis : ∀ i ∈ isR, i ∉ isC) (hp : perm.map (fun i => (wr ++ w')[i]?) = W1.map some) (hpn : va_nd perm = true)
    (kk : ∀ (H1 : Heap) (locs1 : List Loc), va_P g.1 vwCl W1 H1 → va_D A W1 → va_S A s.heap H1 locs1 → W p l e R s m args below meth c H1 locs1 cells slots Q (F0 m (pc + 3) ls (ro.toList ++ rest))) : W p l e R s m args below meth c H locs cells slots Q (F0 m pc ls st0) := by
  intro T hT X
  obtain ⟨v, st₀, t, T', L, h0, X', hL, e1, e2, ⟨⟨hv, hp1, hd1⟩, hz, hk⟩, st⟩ := hr T hT X
  cases hv
  rw [h0] at hz hk
  have hF := va_free (wc := w) hD hS hA isC hC
  obtain ⟨hP1, hD1⟩ := va_join hP hD isC isR hC hR hn hdis hk hF hp1 hd1
  obtain ⟨t2, a1, b1⟩ := kk T'.heap (locs ++ L) (by rw [e1]; exact hP1.pick perm hp) (hD1.sub perm hpn hp)
    ⟨Nat.le_trans hS.1 (by rw [e1]; exact hz), fun q h1 h2 => by rw [e1, hk q (Nat.lt_of_lt_of_le h1 hS.1) (fun z => h2 (hF q z))]; exact hS.2.1 q h1 h2, fun q hq => by
      rcases List.mem_append.mp hq with h | h
      · exact hS.2.2 q h
      · exact hF _ (hL q h)⟩ T' rfl X'
  exact ⟨t2, st t2 a1, b1⟩
theorem kMV {A : Nat → Prop} {W0 W1 wr : va_W} (S : CallFix p m c cc nL s args Ts own) (hM : MM l y wsc rm g (.ref b :: As) w w' ro) (cw : CallW R s args own C idx y bytes maxL ret wsc rm 0 0 n) (hK : Kx g s) (hP : va_P g.1 vwCl W0 H) (hD : va_D A W0) (hS : va_S A s.heap H locs) (hA : ∀ q, s.heap.size ≤ q → A q) (isC isR perm : List Nat) (hC : isC.map (fun i => W0[i]?) = w.map some) (hcn : va_nd isC = true) (hR : isR.map (fun i => W0[i]?) = wr.map some) (hrn : va_nd isR = true) (hdis : ∀ i ∈ isR, i ∉ isC) (hp : perm.map (fun i => (wr ++ w')[i]?) = W1.map some) (hpn : va_nd perm = true)
    {ci : Nat} {q : vw_C} {fs : List Value} (hc : vwCl[ci]? = some q) (he : w[0]? = some (b, .inr (ci, fs))) (hCl : q.1 = C) (hn : As.length = n) (hl : ls.size = nL) (hst : st0 = As.reverse ++ .ref b :: rest) (hroom : (rest.map fun v => v.category).sum ≤ 8) (hdg : decode cc pc = .ok (.invokevirtual idx, 3)) (hf : cells ≤ R.cells ∧ slots ≤ R.slots)
    (kk : ∀ (H1 : Heap) (locs1 : List Loc), va_P g.1 vwCl W1 H1 → va_D A W1 → va_S A s.heap H1 locs1 → W p l e R s m args below meth c H1 locs1 cells slots Q (F0 m (pc + 3) ls (ro.toList ++ rest))) : W p l e R s m args below meth c H locs cells slots Q (F0 m pc ls st0) := by
  have hPc := hP.pick isC hC
  have hDc := hD.sub isC hcn hC
  have hr := va_recv hK.1 hPc hc he
  rw [hCl] at hr
  exact kM (va_runV (As := As) (rest := rest) S (hM H.size) cw ⟨mm_blind, hr, fun U hU hW => ⟨rfl, by rw [hU], by rw [hU]; exact hPc, hK.warm hW, hDc.weaken (fun _ _ _ _ => trivial)⟩⟩ rfl hn hl hst (lv_room hroom) hdg hf) hP hD hS hA isC isR perm hC hR hrn hdis hp hpn kk
-- ends
theorem retPi {v : Int32} (hx : p.tables.exec = Jvm.exec) (hb : c.code = cc) (hr : meth.sig.returnType = some .int) (hlocks : meth.locks = false) (hdg : decode cc pc = .ok (.ireturn, 1)) : W p l e R s m args below meth c s.heap [] 0 0 (MQ below (k2_QcV (.int v)) args s 0 0 (fun _ => False)) (F0 m pc ls [.int v]) := W.iret hx hb hr (fun _ ht _ => ⟨rfl, ht⟩) (fun _ hq => by cases hq) hdg hlocks
theorem retPz {v : Int32} (hx : p.tables.exec = Jvm.exec) (hb : c.code = cc) (hr : meth.sig.returnType = some .boolean) (hlocks : meth.locks = false) (hz : narrow .boolean (.int v) = .int v) (hdg : decode cc pc = .ok (.ireturn, 1)) : W p l e R s m args below meth c s.heap [] 0 0 (MQ below (k2_QcV (.int v)) args s 0 0 (fun _ => False)) (F0 m pc ls [.int v]) := W.zret hx hb hr hz (fun _ ht _ => ⟨rfl, ht⟩) (fun _ hq => by cases hq) hdg hlocks
theorem retPl {v : Int64} (hx : p.tables.exec = Jvm.exec) (hb : c.code = cc) (hr : meth.sig.returnType = some .long) (hlocks : meth.locks = false) (hdg : decode cc pc = .ok (.lreturn, 1)) : W p l e R s m args below meth c s.heap [] 0 0 (MQ below (k2_QcV (.long v)) args s 0 0 (fun _ => False)) (F0 m pc ls [.long v]) := W.lret hx hb hr (fun _ ht _ => ⟨rfl, ht⟩) (fun _ hq => by cases hq) hdg hlocks
theorem retMi {v : Int32} {A : Nat → Prop} (hx : p.tables.exec = Jvm.exec) (hb : c.code = cc) (hr : meth.sig.returnType = some .int) (hlocks : meth.locks = false) (hP : va_P g.1 vwCl w' H) (hD : va_D A w') (hS : va_S A s.heap H locs) (hdg : decode cc pc = .ok (.ireturn, 1)) : W p l e R s m args below meth c H locs cells slots (MQ below (QM g (some (.int v)) w' A) args s cells slots A) (F0 m pc ls [.int v]) := W.iret hx hb hr (fun _ ht _ => ⟨⟨rfl, by rw [ht]; exact hP, hD⟩, hS.F ht⟩) hS.2.2 hdg hlocks
theorem retMz {v : Int32} {A : Nat → Prop} (hx : p.tables.exec = Jvm.exec) (hb : c.code = cc) (hr : meth.sig.returnType = some .boolean) (hlocks : meth.locks = false) (hz : narrow .boolean (.int v) = .int v) (hP : va_P g.1 vwCl w' H) (hD : va_D A w') (hS : va_S A s.heap H locs) (hdg : decode cc pc = .ok (.ireturn, 1)) : W p l e R s m args below meth c H locs cells slots (MQ below (QM g (some (.int v)) w' A) args s cells slots A) (F0 m pc ls [.int v]) := W.zret hx hb hr hz (fun _ ht _ => ⟨⟨rfl, by rw [ht]; exact hP, hD⟩, hS.F ht⟩) hS.2.2 hdg hlocks
theorem retMl {v : Int64} {A : Nat → Prop} (hx : p.tables.exec = Jvm.exec) (hb : c.code = cc) (hr : meth.sig.returnType = some .long) (hlocks : meth.locks = false) (hP : va_P g.1 vwCl w' H) (hD : va_D A w') (hS : va_S A s.heap H locs) (hdg : decode cc pc = .ok (.lreturn, 1)) : W p l e R s m args below meth c H locs cells slots (MQ below (QM g (some (.long v)) w' A) args s cells slots A) (F0 m pc ls [.long v]) := W.lret hx hb hr (fun _ ht _ => ⟨⟨rfl, by rw [ht]; exact hP, hD⟩, hS.F ht⟩) hS.2.2 hdg hlocks
theorem retMv {A : Nat → Prop} (hx : p.tables.exec = Jvm.exec) (hb : c.code = cc) (hr : meth.sig.returnType = none) (hlocks : meth.locks = false) (hP : va_P g.1 vwCl w' H) (hD : va_D A w') (hS : va_S A s.heap H locs) (hdg : decode cc pc = .ok (.return_, 1)) : W p l e R s m args below meth c H locs cells slots (MQ below (QM g none w' A) args s cells slots A) (F0 m pc ls []) := W.vret hx hb hr (fun _ ht _ => ⟨⟨rfl, by rw [ht]; exact hP, hD⟩, hS.F ht⟩) hS.2.2 hdg hlocks
theorem topi {x y : Int32} (e0 : x = y) (k : W p l e R s m args below meth c H locs cells slots Q (F0 m pc ls (.int y :: rest))) : W p l e R s m args below meth c H locs cells slots Q (F0 m pc ls (.int x :: rest)) := e0 ▸ k
theorem topl {x y : Int64} (e0 : x = y) (k : W p l e R s m args below meth c H locs cells slots Q (F0 m pc ls (.long y :: rest))) : W p l e R s m args below meth c H locs cells slots Q (F0 m pc ls (.long x :: rest)) := e0 ▸ k
-- switches
theorem tswIn {dflt lo hi : Int} {offs : Array Int} {len : Nat} {x : Int32} (v : Int32) (hv : x = v) {off : Int} {tgt : Nat} (hx : p.tables.exec = Jvm.exec) (hb : c.code = cc) (hdg : decode cc pc = .ok (.tableswitch dflt lo hi offs, len)) (h1 : ¬ v.toInt < lo) (h2 : ¬ hi < v.toInt) (ho : offs[(v.toInt - lo).toNat]? = some off) (ht : (pc : Int) + off = (tgt : Int)) (k : W p l e R s m args below meth c H locs cells slots Q (F0 m tgt ls rest)) : W p l e R s m args below meth c H locs cells slots Q (F0 m pc ls (.int x :: rest)) := by
  subst hv
  exact lv_tableIn hx hb hdg h1 h2 ho ht k
theorem tsw_out {x : Int32} {n : Nat} (h : ∀ k : Nat, k < n → ¬ x = Int32.ofNat k) (hn : n < 1000) : x.toInt < 0 ∨ (n : Int) - 1 < x.toInt := by
  rcases Int.lt_or_le x.toInt 0 with q | q
  · exact Or.inl q
  · rcases Int.lt_or_le ((n : Int) - 1) x.toInt with q2 | q2
    · exact Or.inr q2
    · refine absurd ?_ (h x.toInt.toNat (by omega))
      apply Int32.toInt_inj.mp
      rw [show Int32.ofNat x.toInt.toNat = nI x.toInt.toNat from rfl, nI_toInt (by omega)]
      omega
end KROWS
