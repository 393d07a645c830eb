theorem topv {p : Program} {l : Launch} {e : Env} {R : Room} {s : State} {m : MethodId} {args : Array Value} {below : List Frame} {meth : Method} {c : Code} {H : Heap} {locs : List Loc} {cells slots : Nat} {Q : State → Prop} {pc : Nat} {ls : Array Slot} {rest : List Value} {x y : Value} (e0 : x = y) (k : W p l e R s m args below meth c H locs cells slots Q (F0 m pc ls (y :: rest))) : W p l e R s m args below meth c H locs cells slots Q (F0 m pc ls (x :: rest)) := e0 ▸ k
def QR (g : GG) (ro : Option Value) (w' : List Nat → va_W) (A : Nat → Prop) : Array Value → State → Outcome → State → Prop := fun _ st o t => (o = .returned ro ∧ ∃ as : List Nat, va_P g.1 vwCl (w' as) t.heap ∧ va_D A (w' as)) ∧ va_F A st t
def MR (l : Launch) (y : MethodName) (ws : List Cond) (rm : Room) (g : GG) (As : List Value) (w : va_W) (w' : List Nat → va_W) (ro : Option Value) (mc ms : Nat) : Prop :=
  ∀ sz : Nat, Met l y ws rm (va_Pc As (fun U => U.heap.size = sz ∧ va_P g.1 vwCl w U.heap ∧ Kx g U ∧ va_D (fun _ => True) w)) (QR g ro w' (va_A w sz)) mc ms (va_A w sz)
section KROWSY
variable {p : Program} {l : Launch} {e : Env} {R : Room} {s : State} {m : MethodId} {args : Array Value} {below : List Frame} {meth : Method} {c : Code} {H : Heap} {locs : List Loc} {cells slots : Nat} {Q : State → Prop}
variable {Ts wsc ws' : List Cond} {cc bytes : ByteArray} {nL maxL idx n pc : Nat} {own C host : String} {y : MethodName} {ret : Option FieldType} {rm : Room} {b : Addr} {As rest st0 : List Value} {ls : Array Slot} {g : GG} {w w' : va_W} {r : Value} {ro : Option Value}
theorem MR.of {wA : List Nat → va_W} {mc ms : Nat} (maxL : Nat) (ret : Option FieldType) (hy : plainName y.cls = true) (hw : wsc = Cond.code y cc maxL ret :: ws') (hAs : (lg_sl As).length ≤ maxL) (hown : y.cls = own)
    (body : ∀ (p : Program) (e : Env) (s : State) (m : MethodId) (args : Array Value) (below : List Frame) (meth : Method) (c : Code), p.tables.exec = Jvm.exec → c.code = cc → meth.sig.returnType = ret → c.maxLocals = maxL → s.vm.findClass own = some m.cls → (∀ w ∈ wsc, w.before args s = true) → meth.locks = false → meth.name = y.name → Kx g s → ∀ A : Nat → Prop, (∀ q, s.heap.size ≤ q → A q) → ∀ ls : Array Slot, lv_has ls maxL (lv_args 0 As) → va_P g.1 vwCl w s.heap → va_D A w → va_S A s.heap s.heap [] →
      W p l e rm s m args below meth c s.heap [] 0 0 (MQ below (QR g ro wA A) args s mc ms A) (F0 m 0 ls [])) : MR l y wsc rm g As w wA ro mc ms := by
  intro sz
  refine Met.ofW (cc := cc) (maxL := maxL) (ret := ret) hy hw ?_
  intro p e s m args below meth c s₁ B hml hv
  obtain ⟨rfl, rfl, hP, hK, hD⟩ := hv
  have hts := atoms_spec (ws := wsc) B.pre
  have ho : s.vm.findClass y.cls = some m.cls := findClass_of_methodNamed B.named
  rw [lg_entry_eq]
  exact body p e s m _ below meth c B.exec B.bytes B.returns hml (hown ▸ ho) hts B.notSynchronized (name_of_methodNamed B.named B.method).1 hK _ (fun q h => Or.inr h) _ (lv_entry As hAs) hP hD.self va_S.rf
end KROWSY
-- LandBoard.keep B
def fX3_keepB (x1 : Int32) : Int32 :=
  (-1 : Int32)
set_option maxHeartbeats 4000000 in
set_option maxRecDepth 100000 in
theorem ctX3_keepB (l : Launch) (g : GG) (a : Nat → Nat) (x1 : Int32) (ask : Int64) (gw : Int32) (gh : Int32) (gl : (Nat → Int64)) (top : Int32) (kep : Int32) (don : Int32) (vc : (Nat → Int32)) (vf : (Nat → Int32)) (bx : Int32) (tt : Int32) (pl : (Nat → Int32)) (we : (Nat → Int32)) (le : (Nat → Int32)) (ab : (Nat → Int32)) (rw : (Nat → Int32)) (ki : (Nat → Int32)) (ow : (Nat → Int32)) (wa : (Nat → Int32)) (yy : (Nat → Option Nat)) (hyr : fX3_isYear x1 = 0) (res : Int32) (h : fX3_keepB x1 = res) : MP l yX3_keep wsX3_keep ({ frames := 1, cells := 0, slots := 0, locals := 20 }) g [.ref (a 0), .int x1] (wBYc g a ask gw gh gl top kep don vc vf bx tt pl we le ab rw ki ow wa yy) (.int res) := by
  refine MP.of (cc := cX3_keep) (own := RX3) 3 (some .int) (by decide +kernel) rfl (Nat.le_of_ble_eq_true rfl) rfl ?_
  intro p e s m args below meth c hx hb hr hml hown hts hlocks hP hK ls hl
  have S : CallFix p m c cX3_keep 3 s args wsX3_keep RX3 := ⟨hx, hb, hml, hown, hts⟩
  have hl : lv_has ls 3 [(0, .ref (a 0)), (1, .int x1)] := hl
  refine lv_iload_n hx hb dX3_keep_0 rfl (lv_at hl 1 rfl) ?_
  refine kPS (As := [.int x1]) (rest := []) S (ctX3_isYear l g x1  (fX3_isYear x1) rfl) (va_cwS 1 hts gX3_keep_X3_isYear rfl rfl rfl (by decide +kernel) ⟨Nat.le_of_ble_eq_true rfl, Nat.le_of_ble_eq_true rfl⟩) hK rfl rfl hl.1 rfl (Nat.le_of_ble_eq_true rfl) dX3_keep_1 ⟨Nat.zero_le _, Nat.zero_le _⟩ ?_
  refine lv_if_ne (tgt := 9) hx hb dX3_keep_4 (by decide) (fun c4 => ?_) (fun c4 => ?_)
  ·
    exact absurd hyr c4
  ·
    refine lv_iconst (v := -1) hx hb dX3_keep_7 (by decide) ?_
    subst h
    exact retPi (v := (-1 : Int32)) hx hb hr hlocks dX3_keep_8
-- LandBoard.keep N
def fX3_keepN (x1 : Int32) (gw : Int32) (gh : Int32) (gl : (Nat → Int64)) : Option (Int32 × Int32 × Int32 × (Nat → Int64)) :=
  (if ix x1 4 = true then (if ix x1 4 = true then ((fX0_copy 0 0 (fun _ => 0) gw gh gl).bind fun r40 => ((fX0_landCells gl).bind fun r47 => (some (r47, r40.1, r40.2.1, r40.2.2)))) else none) else none)
set_option maxHeartbeats 4000000 in
set_option maxRecDepth 100000 in
theorem ctX3_keepN (l : Launch) (g : GG) (a : Nat → Nat) (x1 : Int32) (ask : Int64) (gw : Int32) (gh : Int32) (gl : (Nat → Int64)) (top : Int32) (kep : Int32) (don : Int32) (vc : (Nat → Int32)) (vf : (Nat → Int32)) (bx : Int32) (tt : Int32) (pl : (Nat → Int32)) (we : (Nat → Int32)) (le : (Nat → Int32)) (ab : (Nat → Int32)) (rw : (Nat → Int32)) (ki : (Nat → Int32)) (ow : (Nat → Int32)) (wa : (Nat → Int32)) (yy : (Nat → Option Nat)) (hyr : ¬ fX3_isYear x1 = 0) (hy : yy (x1).toNatClampNeg = none) (res : Int32 × Int32 × Int32 × (Nat → Int64)) (h : fX3_keepN x1 gw gh gl = some res) : MR l yX3_keep wsX3_keep ({ frames := 2, cells := 2, slots := 9, locals := 43 }) g [.ref (a 0), .int x1] (wBYc g a ask gw gh gl top kep don vc vf bx tt pl we le ab rw ki ow wa yy) (fun as => wBYG g a (as.getD 0 0) (as.getD 1 0) ask gw gh gl top kep don vc vf bx tt pl we le ab rw ki ow wa (va_up yy (x1).toNatClampNeg (some (as.getD 0 0))) res.2.1 res.2.2.1 res.2.2.2) (some (.int res.1)) 2 9 := by
  refine MR.of (cc := cX3_keep) (own := RX3) 3 (some .int) (by decide +kernel) rfl (Nat.le_of_ble_eq_true rfl) rfl ?_
  intro p e s m args below meth c hx hb hr hml hown hts hlocks hnm hK A hA ls hl hP hD hS
  have S : CallFix p m c cX3_keep 3 s args wsX3_keep RX3 := ⟨hx, hb, hml, hown, hts⟩
  have hl : lv_has ls 3 [(0, .ref (a 0)), (1, .int x1)] := hl
  have f30 := hts (.fieldLink RX3 30 "LandBoard" "years" "[LLandBoard$Grid;") (by decide +kernel)
  have iX3 := (by decide +kernel : ∀ w ∈ u_ws RX3 TX3 8, w ∈ wsX3_keep)
  have iX0 := (by decide +kernel : ∀ w ∈ u_ws RX0 TX0 3, w ∈ wsX3_keep)
  have f12 := hts (.fieldLink RX3 12 "LandBoard" "now" "LLandBoard$Grid;") (by decide +kernel)
  refine lv_iload_n hx hb dX3_keep_0 rfl (lv_at hl 1 rfl) ?_
  refine kPS (As := [.int x1]) (rest := []) S (ctX3_isYear l g x1  (fX3_isYear x1) rfl) (va_cwS 1 hts gX3_keep_X3_isYear rfl rfl rfl (by decide +kernel) ⟨Nat.le_of_ble_eq_true rfl, Nat.le_of_ble_eq_true rfl⟩) hK rfl rfl hl.1 rfl (Nat.le_of_ble_eq_true rfl) dX3_keep_1 ⟨Nat.le_of_ble_eq_true rfl, Nat.le_of_ble_eq_true rfl⟩ ?_
  refine lv_if_ne (tgt := 9) hx hb dX3_keep_4 (by decide) (fun c4 => ?_) (fun c4 => ?_)
  ·
    refine lv_aload_n hx hb dX3_keep_9 rfl (lv_at hl 0 rfl) ?_
    refine va_get (D := g.1) (ci := 3) (v := .ref (a 12)) (C := RX3) (T := TX3) (N := 8) hx hb hts iX3 hown hK.1 hP 0 rfl rfl 3 (by decide) f30 (fun _ h9 => h9) rfl dX3_keep_10 ?_
    refine lv_iload_n hx hb dX3_keep_13 rfl (lv_at hl 1 rfl) ?_
    obtain ⟨hi, h⟩ := gdi h
    refine va_aldq (D := g.1) hx hb hK.1 hP 15 3 rfl rfl hi dX3_keep_14 ?_
    refine topv (y := .null) (by rw [hy]; rfl) ?_
    refine lv_astore_nN (lv' := [(2, .null), (0, .ref (a 0)), (1, .int x1)]) hx hb dX3_keep_15 rfl hl (by decide) rfl (fun ls hl => ?_)
    refine lv_aload_nN hx hb dX3_keep_16 rfl (lv_at hl 0 rfl) ?_
    refine lv_ifnonnullN hx hb dX3_keep_17 ?_
    refine va_new (D := g.1) (ci := 0) (fs := [.null, .int 0, .int 0]) (C := RX0) (T := TX0) (N := 3) hx hb hts iX0 tyX0 tyX0_ok hown (hts (.classLink RX3 9 RX0) (by decide +kernel)) (hts (.instantiable RX0 3) (by decide +kernel)) (hts (.initialized RX0) (by decide +kernel)) hK.1 hP hD hS hA rfl (fun j hj => by match j, hj with | 0, _ => rfl | 1, _ => rfl | 2, _ => rfl | (z + 3), hj => exact absurd hj (by omega)) (Nat.le_of_ble_eq_true rfl) (Nat.le_of_ble_eq_true rfl) dX3_keep_20 (fun q20 H hP hD hS => ?_)
    refine lv_dup hx hb dX3_keep_23 rfl ?_
    refine kIN (W0 := (wBYc g a ask gw gh gl top kep don vc vf bx tt pl we le ab rw ki ow wa yy) ++ [(q20, .inr (0, [.null, .int 0, .int 0]))]) (rest := [.ref q20]) (wr := [((a 0), .inr (3, [.ref (a 1), .ref (a 3), .ref (a 6), .ref (a 12), .ref (a 13), .ref (a 14), .ref (a 15), .long ask])), ((a 1), .inr (0, [.ref (a 2), .int gw, .int gh])), ((a 2), .inl (g.2.2.1, 6, .inr (.inl gl))), ((a 3), .inr (1, [.ref (a 4), .ref (a 5), .int top, .int kep, .int don])), ((a 4), .inl (g.2.1, 100, .inl vc)), ((a 5), .inl (g.2.1, 100, .inl vf)), ((a 6), .inr (2, [.ref (a 7), .ref (a 8), .ref (a 9), .ref (a 10), .ref (a 11), .int bx, .int tt])), ((a 7), .inl (g.2.1, 6, .inl pl)), ((a 8), .inl (g.2.1, 6, .inl we)), ((a 9), .inl (g.2.1, 6, .inl le)), ((a 10), .inl (g.2.1, 6, .inl ab)), ((a 11), .inl (g.2.1, 6, .inl rw)), ((a 13), .inl (g.2.1, 6, .inl ki)), ((a 14), .inl (g.2.1, 6, .inl ow)), ((a 15), .inl (g.2.1, 6, .inl wa)), ((a 12), .inl (g.2.2.2.2, 4, .inr (.inr (.inr (.inr yy)))))]) S (ctX0_init l g q20) ⟨va_cnB 0 hts gX3_keep_X0_init_n11 rfl rfl rfl hK.2.1 (hts (.initialized RX0) (by decide +kernel)) (by decide +kernel) ⟨(Nat.le_of_ble_eq_true rfl), (Nat.le_of_ble_eq_true rfl)⟩, rfl, hts (.instanceMethod yX0_init) (by decide +kernel)⟩ hK hP hD hS hA [16] [0, 1, 2, 3, 4, 5, 6, 7, 8, 9, 10, 11, 12, 13, 14, 15] rfl (by decide) rfl (by decide) (by decide) hl.1 rfl (Nat.le_of_ble_eq_true rfl) dX3_keep_24 ⟨(Nat.le_of_ble_eq_true rfl), (Nat.le_of_ble_eq_true rfl)⟩ (fun as24 H locs hP hD hS => ?_)
    have hP : va_P g.1 vwCl (wBYG g a q20 (as24.getD 0 0) ask gw gh gl top kep don vc vf bx tt pl we le ab rw ki ow wa yy 0 0 (fun _ => 0)) H := hP
    have hD : va_D A (wBYG g a q20 (as24.getD 0 0) ask gw gh gl top kep don vc vf bx tt pl we le ab rw ki ow wa yy 0 0 (fun _ => 0)) := hD
    refine lv_astore_n (lv' := [(2, .ref q20), (0, .ref (a 0)), (1, .int x1)]) hx hb dX3_keep_27 rfl hl (by decide) rfl (fun ls hl => ?_)
    refine lv_aload_n hx hb dX3_keep_28 rfl (lv_at hl 1 rfl) ?_
    refine va_get (D := g.1) (ci := 3) (v := .ref (a 12)) (C := RX3) (T := TX3) (N := 8) hx hb hts iX3 hown hK.1 hP 0 rfl rfl 3 (by decide) f30 (fun _ h9 => h9) rfl dX3_keep_29 ?_
    refine lv_iload_n hx hb dX3_keep_32 rfl (lv_at hl 2 rfl) ?_
    refine lv_aload_n hx hb dX3_keep_33 rfl (lv_at hl 0 rfl) ?_
    obtain ⟨hi, h⟩ := gdi h
    refine va_astq (D := g.1) (r := (RX0, TX0, 3)) hx hb hK.1 hP hD hS 15 3 16 0 rfl rfl rfl rfl hi dX3_keep_34 (fun H locs hP hD hS => ?_)
    have hP : va_P g.1 vwCl (wBYG g a q20 (as24.getD 0 0) ask gw gh gl top kep don vc vf bx tt pl we le ab rw ki ow wa (va_up yy (x1).toNatClampNeg (some q20)) 0 0 (fun _ => 0)) H := hP
    have hD : va_D A (wBYG g a q20 (as24.getD 0 0) ask gw gh gl top kep don vc vf bx tt pl we le ab rw ki ow wa (va_up yy (x1).toNatClampNeg (some q20)) 0 0 (fun _ => 0)) := hD
    refine lv_aload_n hx hb dX3_keep_35 rfl (lv_at hl 0 rfl) ?_
    refine lv_aload_n hx hb dX3_keep_36 rfl (lv_at hl 1 rfl) ?_
    refine va_get (D := g.1) (ci := 3) (v := .ref (a 1)) (C := RX3) (T := TX3) (N := 8) hx hb hts iX3 hown hK.1 hP 0 rfl rfl 0 (by decide) f12 (fun _ h9 => h9) rfl dX3_keep_37 ?_
    obtain ⟨r40, hr40, h⟩ := gdb h
    refine kMV (As := [.ref (a 1)]) (rest := []) (ci := 0) (W1 := (wBYG g a q20 (as24.getD 0 0) ask gw gh gl top kep don vc vf bx tt pl we le ab rw ki ow wa (va_up yy (x1).toNatClampNeg (some q20)) r40.1 r40.2.1 r40.2.2)) (wr := [((a 0), .inr (3, [.ref (a 1), .ref (a 3), .ref (a 6), .ref (a 12), .ref (a 13), .ref (a 14), .ref (a 15), .long ask])), ((a 3), .inr (1, [.ref (a 4), .ref (a 5), .int top, .int kep, .int don])), ((a 4), .inl (g.2.1, 100, .inl vc)), ((a 5), .inl (g.2.1, 100, .inl vf)), ((a 6), .inr (2, [.ref (a 7), .ref (a 8), .ref (a 9), .ref (a 10), .ref (a 11), .int bx, .int tt])), ((a 7), .inl (g.2.1, 6, .inl pl)), ((a 8), .inl (g.2.1, 6, .inl we)), ((a 9), .inl (g.2.1, 6, .inl le)), ((a 10), .inl (g.2.1, 6, .inl ab)), ((a 11), .inl (g.2.1, 6, .inl rw)), ((a 13), .inl (g.2.1, 6, .inl ki)), ((a 14), .inl (g.2.1, 6, .inl ow)), ((a 15), .inl (g.2.1, 6, .inl wa)), ((a 12), .inl (g.2.2.2.2, 4, .inr (.inr (.inr (.inr (va_up yy (x1).toNatClampNeg (some q20)))))))]) S (ctX0_copy l g q20 (as24.getD 0 0) (a 1) (a 2)  0 0 (fun _ => 0) gw gh gl r40 hr40) (cwV 1 hts gX3_keep_X0_copy rfl rfl rfl (by decide +kernel) ⟨Nat.le_of_ble_eq_true rfl, Nat.le_of_ble_eq_true rfl⟩) hK hP hD hS hA [16, 17, 1, 2] [0, 3, 4, 5, 6, 7, 8, 9, 10, 11, 12, 13, 14, 15] [0, 16, 17, 1, 2, 3, 4, 5, 6, 7, 8, 9, 10, 11, 12, 13, 14, 15] rfl rfl rfl rfl (by decide) rfl rfl rfl rfl rfl rfl hl.1 rfl (Nat.le_of_ble_eq_true rfl) dX3_keep_40 ⟨Nat.le_of_ble_eq_true rfl, Nat.le_of_ble_eq_true rfl⟩ (fun H locs hP hD hS => ?_)
    show W p l e _ s m args below meth c H locs _ _ _ (F0 m 43 ls [])
    refine lv_aload_n hx hb dX3_keep_43 rfl (lv_at hl 1 rfl) ?_
    refine va_get (D := g.1) (ci := 3) (v := .ref (a 1)) (C := RX3) (T := TX3) (N := 8) hx hb hts iX3 hown hK.1 hP 0 rfl rfl 0 (by decide) f12 (fun _ h9 => h9) rfl dX3_keep_44 ?_
    obtain ⟨r47, hr47, h⟩ := gdb h
    refine kPV (As := []) (rest := []) (ci := 0) S (ctX0_landCells l g (a 1) (a 2)  gw gh gl r47 hr47) (cwV 0 hts gX3_keep_X0_landCells rfl rfl rfl (by decide +kernel) ⟨Nat.le_of_ble_eq_true rfl, Nat.le_of_ble_eq_true rfl⟩) hK hP [1, 2] rfl rfl rfl rfl rfl hl.1 rfl (Nat.le_of_ble_eq_true rfl) dX3_keep_47 ⟨Nat.le_of_ble_eq_true rfl, Nat.le_of_ble_eq_true rfl⟩ ?_
    obtain rfl := Option.some.inj h
    exact W.iret (v := r47) hx hb hr (fun t ht hW => ⟨⟨rfl, [q20, (as24.getD 0 0)], by rw [ht]; exact hP, hD⟩, hS.F ht⟩) hS.2.2 dX3_keep_50 hlocks
  ·
    exact absurd c4 hyr
-- LandBoard.keep O
def fX3_keepO (x1 : Int32) (gw : Int32) (gh : Int32) (gl : (Nat → Int64)) (gw2 : Int32) (gh2 : Int32) (gl2 : (Nat → Int64)) : Option (Int32 × Int32 × Int32 × (Nat → Int64)) :=
  (if (fX3_isYear x1) = 0 then (some ((-1 : Int32), gw2, gh2, gl2)) else (if ix x1 4 = true then ((fX0_copy gw2 gh2 gl2 gw gh gl).bind fun r40 => ((fX0_landCells gl).bind fun r47 => (some (r47, r40.1, r40.2.1, r40.2.2)))) else none))
set_option maxHeartbeats 4000000 in
set_option maxRecDepth 100000 in
theorem ctX3_keepO (l : Launch) (g : GG) (a : Nat → Nat) (b0 b1 : Nat) (x1 : Int32) (ask : Int64) (gw : Int32) (gh : Int32) (gl : (Nat → Int64)) (top : Int32) (kep : Int32) (don : Int32) (vc : (Nat → Int32)) (vf : (Nat → Int32)) (bx : Int32) (tt : Int32) (pl : (Nat → Int32)) (we : (Nat → Int32)) (le : (Nat → Int32)) (ab : (Nat → Int32)) (rw : (Nat → Int32)) (ki : (Nat → Int32)) (ow : (Nat → Int32)) (wa : (Nat → Int32)) (yy : (Nat → Option Nat)) (gw2 : Int32) (gh2 : Int32) (gl2 : (Nat → Int64)) (hy : yy (x1).toNatClampNeg = some b0) (res : Int32 × Int32 × Int32 × (Nat → Int64)) (h : fX3_keepO x1 gw gh gl gw2 gh2 gl2 = some res) : MM l yX3_keep wsX3_keep ({ frames := 2, cells := 0, slots := 0, locals := 43 }) g [.ref (a 0), .int x1] (wBYG g a b0 b1 ask gw gh gl top kep don vc vf bx tt pl we le ab rw ki ow wa yy gw2 gh2 gl2) (wBYG g a b0 b1 ask gw gh gl top kep don vc vf bx tt pl we le ab rw ki ow wa yy res.2.1 res.2.2.1 res.2.2.2) (some (.int res.1)) := by
  refine MM.of (cc := cX3_keep) (own := RX3) 3 (some .int) (by decide +kernel) rfl (Nat.le_of_ble_eq_true rfl) rfl ?_
  intro p e s m args below meth c hx hb hr hml hown hts hlocks hK A hA ls hl hP hD hS
  have S : CallFix p m c cX3_keep 3 s args wsX3_keep RX3 := ⟨hx, hb, hml, hown, hts⟩
  have hl : lv_has ls 3 [(0, .ref (a 0)), (1, .int x1)] := hl
  have f30 := hts (.fieldLink RX3 30 "LandBoard" "years" "[LLandBoard$Grid;") (by decide +kernel)
  have iX3 := (by decide +kernel : ∀ w ∈ u_ws RX3 TX3 8, w ∈ wsX3_keep)
  have f12 := hts (.fieldLink RX3 12 "LandBoard" "now" "LLandBoard$Grid;") (by decide +kernel)
  refine lv_iload_n hx hb dX3_keep_0 rfl (lv_at hl 1 rfl) ?_
  refine kPS (As := [.int x1]) (rest := []) S (ctX3_isYear l g x1  (fX3_isYear x1) rfl) (va_cwS 1 hts gX3_keep_X3_isYear rfl rfl rfl (by decide +kernel) ⟨Nat.le_of_ble_eq_true rfl, Nat.le_of_ble_eq_true rfl⟩) hK rfl rfl hl.1 rfl (Nat.le_of_ble_eq_true rfl) dX3_keep_1 ⟨Nat.zero_le _, Nat.zero_le _⟩ ?_
  refine lv_if_ne (tgt := 9) hx hb dX3_keep_4 (by decide) (fun c4 => ?_) (fun c4 => ?_)
  ·
    replace h := gdn h c4
    refine lv_aload_n hx hb dX3_keep_9 rfl (lv_at hl 0 rfl) ?_
    refine va_get (D := g.1) (ci := 3) (v := .ref (a 12)) (C := RX3) (T := TX3) (N := 8) hx hb hts iX3 hown hK.1 hP 0 rfl rfl 3 (by decide) f30 (fun _ h9 => h9) rfl dX3_keep_10 ?_
    refine lv_iload_n hx hb dX3_keep_13 rfl (lv_at hl 1 rfl) ?_
    obtain ⟨hi, h⟩ := gdi h
    refine va_aldq (D := g.1) hx hb hK.1 hP 15 3 rfl rfl hi dX3_keep_14 ?_
    refine topv (y := .ref b0) (by rw [hy]; rfl) ?_
    refine lv_astore_n (lv' := [(2, .ref b0), (0, .ref (a 0)), (1, .int x1)]) hx hb dX3_keep_15 rfl hl (by decide) rfl (fun ls hl => ?_)
    refine lv_aload_n hx hb dX3_keep_16 rfl (lv_at hl 0 rfl) ?_
    refine lv_ifnonnull (tgt := 35) hx hb dX3_keep_17 (by decide) ?_
    refine lv_aload_n hx hb dX3_keep_35 rfl (lv_at hl 0 rfl) ?_
    refine lv_aload_n hx hb dX3_keep_36 rfl (lv_at hl 1 rfl) ?_
    refine va_get (D := g.1) (ci := 3) (v := .ref (a 1)) (C := RX3) (T := TX3) (N := 8) hx hb hts iX3 hown hK.1 hP 0 rfl rfl 0 (by decide) f12 (fun _ h9 => h9) rfl dX3_keep_37 ?_
    obtain ⟨r40, hr40, h⟩ := gdb h
    refine kMV (As := [.ref (a 1)]) (rest := []) (ci := 0) (W1 := (wBYG g a b0 b1 ask gw gh gl top kep don vc vf bx tt pl we le ab rw ki ow wa yy r40.1 r40.2.1 r40.2.2)) (wr := [((a 0), .inr (3, [.ref (a 1), .ref (a 3), .ref (a 6), .ref (a 12), .ref (a 13), .ref (a 14), .ref (a 15), .long ask])), ((a 3), .inr (1, [.ref (a 4), .ref (a 5), .int top, .int kep, .int don])), ((a 4), .inl (g.2.1, 100, .inl vc)), ((a 5), .inl (g.2.1, 100, .inl vf)), ((a 6), .inr (2, [.ref (a 7), .ref (a 8), .ref (a 9), .ref (a 10), .ref (a 11), .int bx, .int tt])), ((a 7), .inl (g.2.1, 6, .inl pl)), ((a 8), .inl (g.2.1, 6, .inl we)), ((a 9), .inl (g.2.1, 6, .inl le)), ((a 10), .inl (g.2.1, 6, .inl ab)), ((a 11), .inl (g.2.1, 6, .inl rw)), ((a 13), .inl (g.2.1, 6, .inl ki)), ((a 14), .inl (g.2.1, 6, .inl ow)), ((a 15), .inl (g.2.1, 6, .inl wa)), ((a 12), .inl (g.2.2.2.2, 4, .inr (.inr (.inr (.inr yy)))))]) S (ctX0_copy l g b0 b1 (a 1) (a 2)  gw2 gh2 gl2 gw gh gl r40 hr40) (cwV 1 hts gX3_keep_X0_copy rfl rfl rfl (by decide +kernel) ⟨Nat.le_of_ble_eq_true rfl, Nat.le_of_ble_eq_true rfl⟩) hK hP hD hS hA [16, 17, 1, 2] [0, 3, 4, 5, 6, 7, 8, 9, 10, 11, 12, 13, 14, 15] [0, 16, 17, 1, 2, 3, 4, 5, 6, 7, 8, 9, 10, 11, 12, 13, 14, 15] rfl rfl rfl rfl (by decide) rfl rfl rfl rfl rfl rfl hl.1 rfl (Nat.le_of_ble_eq_true rfl) dX3_keep_40 ⟨Nat.zero_le _, Nat.zero_le _⟩ (fun H locs hP hD hS => ?_)
    show W p l e _ s m args below meth c H locs _ _ _ (F0 m 43 ls [])
    refine lv_aload_n hx hb dX3_keep_43 rfl (lv_at hl 1 rfl) ?_
    refine va_get (D := g.1) (ci := 3) (v := .ref (a 1)) (C := RX3) (T := TX3) (N := 8) hx hb hts iX3 hown hK.1 hP 0 rfl rfl 0 (by decide) f12 (fun _ h9 => h9) rfl dX3_keep_44 ?_
    obtain ⟨r47, hr47, h⟩ := gdb h
    refine kPV (As := []) (rest := []) (ci := 0) S (ctX0_landCells l g (a 1) (a 2)  gw gh gl r47 hr47) (cwV 0 hts gX3_keep_X0_landCells rfl rfl rfl (by decide +kernel) ⟨Nat.le_of_ble_eq_true rfl, Nat.le_of_ble_eq_true rfl⟩) hK hP [1, 2] rfl rfl rfl rfl rfl hl.1 rfl (Nat.le_of_ble_eq_true rfl) dX3_keep_47 ⟨Nat.zero_le _, Nat.zero_le _⟩ ?_
    obtain rfl := Option.some.inj h
    exact retMi hx hb hr hlocks hP hD hS dX3_keep_50
  ·
    replace h := gdp h c4
    refine lv_iconst (v := -1) hx hb dX3_keep_7 (by decide) ?_
    obtain rfl := Option.some.inj h
    exact retMi (v := (-1 : Int32)) hx hb hr hlocks hP hD hS dX3_keep_8
-- LandBoard.back N
def fX3_backN (x1 : Int32) : Option (Int32) :=
  (if (fX3_isYear x1) = 0 then (some (-1 : Int32)) else (if ix x1 4 = true then (some (-2 : Int32)) else none))
set_option maxHeartbeats 4000000 in
set_option maxRecDepth 100000 in
theorem ctX3_backN (l : Launch) (g : GG) (a : Nat → Nat) (x1 : Int32) (ask : Int64) (gw : Int32) (gh : Int32) (gl : (Nat → Int64)) (top : Int32) (kep : Int32) (don : Int32) (vc : (Nat → Int32)) (vf : (Nat → Int32)) (bx : Int32) (tt : Int32) (pl : (Nat → Int32)) (we : (Nat → Int32)) (le : (Nat → Int32)) (ab : (Nat → Int32)) (rw : (Nat → Int32)) (ki : (Nat → Int32)) (ow : (Nat → Int32)) (wa : (Nat → Int32)) (yy : (Nat → Option Nat)) (hy : yy (x1).toNatClampNeg = none) (res : Int32) (h : fX3_backN x1 = some res) : MP l yX3_back wsX3_back ({ frames := 1, cells := 0, slots := 0, locals := 20 }) g [.ref (a 0), .int x1] (wBYc g a ask gw gh gl top kep don vc vf bx tt pl we le ab rw ki ow wa yy) (.int res) := by
  refine MP.of (cc := cX3_back) (own := RX3) 3 (some .int) (by decide +kernel) rfl (Nat.le_of_ble_eq_true rfl) rfl ?_
  intro p e s m args below meth c hx hb hr hml hown hts hlocks hP hK ls hl
  have S : CallFix p m c cX3_back 3 s args wsX3_back RX3 := ⟨hx, hb, hml, hown, hts⟩
  have hl : lv_has ls 3 [(0, .ref (a 0)), (1, .int x1)] := hl
  have f30 := hts (.fieldLink RX3 30 "LandBoard" "years" "[LLandBoard$Grid;") (by decide +kernel)
  have iX3 := (by decide +kernel : ∀ w ∈ u_ws RX3 TX3 8, w ∈ wsX3_back)
  refine lv_iload_n hx hb dX3_back_0 rfl (lv_at hl 1 rfl) ?_
  refine kPS (As := [.int x1]) (rest := []) S (ctX3_isYear l g x1  (fX3_isYear x1) rfl) (va_cwS 1 hts gX3_back_X3_isYear rfl rfl rfl (by decide +kernel) ⟨Nat.le_of_ble_eq_true rfl, Nat.le_of_ble_eq_true rfl⟩) hK rfl rfl hl.1 rfl (Nat.le_of_ble_eq_true rfl) dX3_back_1 ⟨Nat.zero_le _, Nat.zero_le _⟩ ?_
  refine lv_if_ne (tgt := 9) hx hb dX3_back_4 (by decide) (fun c4 => ?_) (fun c4 => ?_)
  ·
    replace h := gdn h c4
    refine lv_aload_n hx hb dX3_back_9 rfl (lv_at hl 0 rfl) ?_
    refine va_get (D := g.1) (ci := 3) (v := .ref (a 12)) (C := RX3) (T := TX3) (N := 8) hx hb hts iX3 hown hK.1 hP 0 rfl rfl 3 (by decide) f30 (fun _ h9 => h9) rfl dX3_back_10 ?_
    refine lv_iload_n hx hb dX3_back_13 rfl (lv_at hl 1 rfl) ?_
    obtain ⟨hi, h⟩ := gdi h
    refine va_aldq (D := g.1) hx hb hK.1 hP 15 3 rfl rfl hi dX3_back_14 ?_
    refine topv (y := .null) (by rw [hy]; rfl) ?_
    refine lv_astore_nN (lv' := [(2, .null), (0, .ref (a 0)), (1, .int x1)]) hx hb dX3_back_15 rfl hl (by decide) rfl (fun ls hl => ?_)
    refine lv_aload_nN hx hb dX3_back_16 rfl (lv_at hl 0 rfl) ?_
    refine lv_ifnonnullN hx hb dX3_back_17 ?_
    refine lv_bipush (v := -2) hx hb dX3_back_20 (by decide) ?_
    obtain rfl := Option.some.inj h
    exact retPi (v := (-2 : Int32)) hx hb hr hlocks dX3_back_22
  ·
    replace h := gdp h c4
    refine lv_iconst (v := -1) hx hb dX3_back_7 (by decide) ?_
    obtain rfl := Option.some.inj h
    exact retPi (v := (-1 : Int32)) hx hb hr hlocks dX3_back_8
-- LandBoard.back O
def fX3_backO (x1 : Int32) (gw : Int32) (gh : Int32) (gl : (Nat → Int64)) (kep : Int32) (ki : (Nat → Int32)) (ow : (Nat → Int32)) (gw2 : Int32) (gh2 : Int32) (gl2 : (Nat → Int64)) : Option (Int32 × Int32 × Int32 × (Nat → Int64) × Int32 × (Nat → Int32) × (Nat → Int32)) :=
  (if (fX3_isYear x1) = 0 then (some ((-1 : Int32), gw, gh, gl, kep, ki, ow)) else (if ix x1 4 = true then ((fX0_copy gw gh gl gw2 gh2 gl2).bind fun r28 => ((fX3_forgetKinds ki ow).bind fun r32 => ((fX0_landCells r28.2.2).bind fun r46 => (some (r46, r28.1, r28.2.1, r28.2.2, (fX1_forget kep), r32.1, r32.2))))) else none))
set_option maxHeartbeats 4000000 in
set_option maxRecDepth 100000 in
theorem ctX3_backO (l : Launch) (g : GG) (a : Nat → Nat) (b0 b1 : Nat) (x1 : Int32) (ask : Int64) (gw : Int32) (gh : Int32) (gl : (Nat → Int64)) (top : Int32) (kep : Int32) (don : Int32) (vc : (Nat → Int32)) (vf : (Nat → Int32)) (bx : Int32) (tt : Int32) (pl : (Nat → Int32)) (we : (Nat → Int32)) (le : (Nat → Int32)) (ab : (Nat → Int32)) (rw : (Nat → Int32)) (ki : (Nat → Int32)) (ow : (Nat → Int32)) (wa : (Nat → Int32)) (yy : (Nat → Option Nat)) (gw2 : Int32) (gh2 : Int32) (gl2 : (Nat → Int64)) (hy : yy (x1).toNatClampNeg = some b0) (res : Int32 × Int32 × Int32 × (Nat → Int64) × Int32 × (Nat → Int32) × (Nat → Int32)) (h : fX3_backO x1 gw gh gl kep ki ow gw2 gh2 gl2 = some res) : MM l yX3_back wsX3_back ({ frames := 2, cells := 0, slots := 0, locals := 43 }) g [.ref (a 0), .int x1] (wBYG g a b0 b1 ask gw gh gl top kep don vc vf bx tt pl we le ab rw ki ow wa yy gw2 gh2 gl2) (wBYG g a b0 b1 ask res.2.1 res.2.2.1 res.2.2.2.1 top res.2.2.2.2.1 don vc vf bx tt pl we le ab rw res.2.2.2.2.2.1 res.2.2.2.2.2.2 wa yy gw2 gh2 gl2) (some (.int res.1)) := by
  refine MM.of (cc := cX3_back) (own := RX3) 3 (some .int) (by decide +kernel) rfl (Nat.le_of_ble_eq_true rfl) rfl ?_
  intro p e s m args below meth c hx hb hr hml hown hts hlocks hK A hA ls hl hP hD hS
  have S : CallFix p m c cX3_back 3 s args wsX3_back RX3 := ⟨hx, hb, hml, hown, hts⟩
  have hl : lv_has ls 3 [(0, .ref (a 0)), (1, .int x1)] := hl
  have f30 := hts (.fieldLink RX3 30 "LandBoard" "years" "[LLandBoard$Grid;") (by decide +kernel)
  have iX3 := (by decide +kernel : ∀ w ∈ u_ws RX3 TX3 8, w ∈ wsX3_back)
  have f12 := hts (.fieldLink RX3 12 "LandBoard" "now" "LLandBoard$Grid;") (by decide +kernel)
  have f19 := hts (.fieldLink RX3 19 "LandBoard" "moves" "LLandBoard$Moves;") (by decide +kernel)
  refine lv_iload_n hx hb dX3_back_0 rfl (lv_at hl 1 rfl) ?_
  refine kPS (As := [.int x1]) (rest := []) S (ctX3_isYear l g x1  (fX3_isYear x1) rfl) (va_cwS 1 hts gX3_back_X3_isYear rfl rfl rfl (by decide +kernel) ⟨Nat.le_of_ble_eq_true rfl, Nat.le_of_ble_eq_true rfl⟩) hK rfl rfl hl.1 rfl (Nat.le_of_ble_eq_true rfl) dX3_back_1 ⟨Nat.zero_le _, Nat.zero_le _⟩ ?_
  refine lv_if_ne (tgt := 9) hx hb dX3_back_4 (by decide) (fun c4 => ?_) (fun c4 => ?_)
  ·
    replace h := gdn h c4
    refine lv_aload_n hx hb dX3_back_9 rfl (lv_at hl 0 rfl) ?_
    refine va_get (D := g.1) (ci := 3) (v := .ref (a 12)) (C := RX3) (T := TX3) (N := 8) hx hb hts iX3 hown hK.1 hP 0 rfl rfl 3 (by decide) f30 (fun _ h9 => h9) rfl dX3_back_10 ?_
    refine lv_iload_n hx hb dX3_back_13 rfl (lv_at hl 1 rfl) ?_
    obtain ⟨hi, h⟩ := gdi h
    refine va_aldq (D := g.1) hx hb hK.1 hP 15 3 rfl rfl hi dX3_back_14 ?_
    refine topv (y := .ref b0) (by rw [hy]; rfl) ?_
    refine lv_astore_n (lv' := [(2, .ref b0), (0, .ref (a 0)), (1, .int x1)]) hx hb dX3_back_15 rfl hl (by decide) rfl (fun ls hl => ?_)
    refine lv_aload_n hx hb dX3_back_16 rfl (lv_at hl 0 rfl) ?_
    refine lv_ifnonnull (tgt := 23) hx hb dX3_back_17 (by decide) ?_
    refine lv_aload_n hx hb dX3_back_23 rfl (lv_at hl 1 rfl) ?_
    refine va_get (D := g.1) (ci := 3) (v := .ref (a 1)) (C := RX3) (T := TX3) (N := 8) hx hb hts iX3 hown hK.1 hP 0 rfl rfl 0 (by decide) f12 (fun _ h9 => h9) rfl dX3_back_24 ?_
    refine lv_aload_n hx hb dX3_back_27 rfl (lv_at hl 0 rfl) ?_
    obtain ⟨r28, hr28, h⟩ := gdb h
    refine kMV (As := [.ref b0]) (rest := []) (ci := 0) (W1 := (wBYG g a b0 b1 ask r28.1 r28.2.1 r28.2.2 top kep don vc vf bx tt pl we le ab rw ki ow wa yy gw2 gh2 gl2)) (wr := [((a 0), .inr (3, [.ref (a 1), .ref (a 3), .ref (a 6), .ref (a 12), .ref (a 13), .ref (a 14), .ref (a 15), .long ask])), ((a 3), .inr (1, [.ref (a 4), .ref (a 5), .int top, .int kep, .int don])), ((a 4), .inl (g.2.1, 100, .inl vc)), ((a 5), .inl (g.2.1, 100, .inl vf)), ((a 6), .inr (2, [.ref (a 7), .ref (a 8), .ref (a 9), .ref (a 10), .ref (a 11), .int bx, .int tt])), ((a 7), .inl (g.2.1, 6, .inl pl)), ((a 8), .inl (g.2.1, 6, .inl we)), ((a 9), .inl (g.2.1, 6, .inl le)), ((a 10), .inl (g.2.1, 6, .inl ab)), ((a 11), .inl (g.2.1, 6, .inl rw)), ((a 13), .inl (g.2.1, 6, .inl ki)), ((a 14), .inl (g.2.1, 6, .inl ow)), ((a 15), .inl (g.2.1, 6, .inl wa)), ((a 12), .inl (g.2.2.2.2, 4, .inr (.inr (.inr (.inr yy)))))]) S (ctX0_copy l g (a 1) (a 2) b0 b1  gw gh gl gw2 gh2 gl2 r28 hr28) (cwV 1 hts gX3_back_X0_copy rfl rfl rfl (by decide +kernel) ⟨Nat.le_of_ble_eq_true rfl, Nat.le_of_ble_eq_true rfl⟩) hK hP hD hS hA [1, 2, 16, 17] [0, 3, 4, 5, 6, 7, 8, 9, 10, 11, 12, 13, 14, 15] [0, 14, 15, 1, 2, 3, 4, 5, 6, 7, 8, 9, 10, 11, 12, 13, 16, 17] rfl rfl rfl rfl (by decide) rfl rfl rfl rfl rfl rfl hl.1 rfl (Nat.le_of_ble_eq_true rfl) dX3_back_28 ⟨Nat.zero_le _, Nat.zero_le _⟩ (fun H locs hP hD hS => ?_)
    show W p l e _ s m args below meth c H locs _ _ _ (F0 m 31 ls [])
    refine lv_aload_n hx hb dX3_back_31 rfl (lv_at hl 1 rfl) ?_
    obtain ⟨r32, hr32, h⟩ := gdb h
    refine kMV (As := []) (rest := []) (ci := 3) (W1 := (wBYG g a b0 b1 ask r28.1 r28.2.1 r28.2.2 top kep don vc vf bx tt pl we le ab rw r32.1 r32.2 wa yy gw2 gh2 gl2)) (wr := [((a 12), .inl (g.2.2.2.2, 4, .inr (.inr (.inr (.inr yy))))), (b0, .inr (0, [.ref b1, .int gw2, .int gh2])), (b1, .inl (g.2.2.1, 6, .inr (.inl gl2)))]) S (ctX3_forgetKinds l g a  ask r28.1 r28.2.1 r28.2.2 top kep don vc vf bx tt pl we le ab rw ki ow wa r32 hr32) (cwV 0 hts gX3_back_X3_forgetKinds rfl rfl rfl (by decide +kernel) ⟨Nat.le_of_ble_eq_true rfl, Nat.le_of_ble_eq_true rfl⟩) hK hP hD hS hA [0, 1, 2, 3, 4, 5, 6, 7, 8, 9, 10, 11, 12, 13, 14] [15, 16, 17] [3, 4, 5, 6, 7, 8, 9, 10, 11, 12, 13, 14, 15, 16, 17, 0, 1, 2] rfl rfl rfl rfl (by decide) rfl rfl rfl rfl rfl rfl hl.1 rfl (Nat.le_of_ble_eq_true rfl) dX3_back_32 ⟨Nat.zero_le _, Nat.zero_le _⟩ (fun H locs hP hD hS => ?_)
    show W p l e _ s m args below meth c H locs _ _ _ (F0 m 35 ls [])
    refine lv_aload_n hx hb dX3_back_35 rfl (lv_at hl 1 rfl) ?_
    refine va_get (D := g.1) (ci := 3) (v := .ref (a 3)) (C := RX3) (T := TX3) (N := 8) hx hb hts iX3 hown hK.1 hP 0 rfl rfl 1 (by decide) f19 (fun _ h9 => h9) rfl dX3_back_36 ?_
    refine kMV (As := []) (rest := []) (ci := 1) (W1 := (wBYG g a b0 b1 ask r28.1 r28.2.1 r28.2.2 top (fX1_forget kep) don vc vf bx tt pl we le ab rw r32.1 r32.2 wa yy gw2 gh2 gl2)) (wr := [((a 0), .inr (3, [.ref (a 1), .ref (a 3), .ref (a 6), .ref (a 12), .ref (a 13), .ref (a 14), .ref (a 15), .long ask])), ((a 1), .inr (0, [.ref (a 2), .int r28.1, .int r28.2.1])), ((a 2), .inl (g.2.2.1, 6, .inr (.inl r28.2.2))), ((a 6), .inr (2, [.ref (a 7), .ref (a 8), .ref (a 9), .ref (a 10), .ref (a 11), .int bx, .int tt])), ((a 7), .inl (g.2.1, 6, .inl pl)), ((a 8), .inl (g.2.1, 6, .inl we)), ((a 9), .inl (g.2.1, 6, .inl le)), ((a 10), .inl (g.2.1, 6, .inl ab)), ((a 11), .inl (g.2.1, 6, .inl rw)), ((a 13), .inl (g.2.1, 6, .inl r32.1)), ((a 14), .inl (g.2.1, 6, .inl r32.2)), ((a 15), .inl (g.2.1, 6, .inl wa)), ((a 12), .inl (g.2.2.2.2, 4, .inr (.inr (.inr (.inr yy))))), (b0, .inr (0, [.ref b1, .int gw2, .int gh2])), (b1, .inl (g.2.2.1, 6, .inr (.inl gl2)))]) S (ctX1_forget l g (a 3) (a 4) (a 5)  top kep don vc vf (fX1_forget kep) rfl) (cwV 0 hts gX3_back_X1_forget rfl rfl rfl (by decide +kernel) ⟨Nat.le_of_ble_eq_true rfl, Nat.le_of_ble_eq_true rfl⟩) hK hP hD hS hA [3, 4, 5] [0, 1, 2, 6, 7, 8, 9, 10, 11, 12, 13, 14, 15, 16, 17] [0, 1, 2, 15, 16, 17, 3, 4, 5, 6, 7, 8, 9, 10, 11, 12, 13, 14] rfl rfl rfl rfl (by decide) rfl rfl rfl rfl rfl rfl hl.1 rfl (Nat.le_of_ble_eq_true rfl) dX3_back_39 ⟨Nat.zero_le _, Nat.zero_le _⟩ (fun H locs hP hD hS => ?_)
    show W p l e _ s m args below meth c H locs _ _ _ (F0 m 42 ls [])
    refine lv_aload_n hx hb dX3_back_42 rfl (lv_at hl 1 rfl) ?_
    refine va_get (D := g.1) (ci := 3) (v := .ref (a 1)) (C := RX3) (T := TX3) (N := 8) hx hb hts iX3 hown hK.1 hP 0 rfl rfl 0 (by decide) f12 (fun _ h9 => h9) rfl dX3_back_43 ?_
    obtain ⟨r46, hr46, h⟩ := gdb h
    refine kPV (As := []) (rest := []) (ci := 0) S (ctX0_landCells l g (a 1) (a 2)  r28.1 r28.2.1 r28.2.2 r46 hr46) (cwV 0 hts gX3_back_X0_landCells rfl rfl rfl (by decide +kernel) ⟨Nat.le_of_ble_eq_true rfl, Nat.le_of_ble_eq_true rfl⟩) hK hP [1, 2] rfl rfl rfl rfl rfl hl.1 rfl (Nat.le_of_ble_eq_true rfl) dX3_back_46 ⟨Nat.zero_le _, Nat.zero_le _⟩ ?_
    obtain rfl := Option.some.inj h
    exact retMi hx hb hr hlocks hP hD hS dX3_back_49
  ·
    replace h := gdp h c4
    refine lv_iconst (v := -1) hx hb dX3_back_7 (by decide) ?_
    obtain rfl := Option.some.inj h
    exact retMi (v := (-1 : Int32)) hx hb hr hlocks hP hD hS dX3_back_8
-- LandBoard.moved NN
def fX3_movedNN (x1 : Int32) (x2 : Int32) : Option (Int32) :=
  (if (fX3_isYear x1) = 0 then (some (-1 : Int32)) else (if (fX3_isYear x2) = 0 then (some (-1 : Int32)) else (if ix x1 4 = true then (if ix x2 4 = true then (some (-9 : Int32)) else none) else none)))
set_option maxHeartbeats 4000000 in
set_option maxRecDepth 100000 in
theorem ctX3_movedNN (l : Launch) (g : GG) (a : Nat → Nat) (x1 : Int32) (x2 : Int32) (ask : Int64) (gw : Int32) (gh : Int32) (gl : (Nat → Int64)) (top : Int32) (kep : Int32) (don : Int32) (vc : (Nat → Int32)) (vf : (Nat → Int32)) (bx : Int32) (tt : Int32) (pl : (Nat → Int32)) (we : (Nat → Int32)) (le : (Nat → Int32)) (ab : (Nat → Int32)) (rw : (Nat → Int32)) (ki : (Nat → Int32)) (ow : (Nat → Int32)) (wa : (Nat → Int32)) (yy : (Nat → Option Nat)) (hy : yy (x1).toNatClampNeg = none) (hy2 : yy (x2).toNatClampNeg = none) (res : Int32) (h : fX3_movedNN x1 x2 = some res) : MP l yX3_moved wsX3_moved ({ frames := 1, cells := 0, slots := 0, locals := 20 }) g [.ref (a 0), .int x1, .int x2] (wBYc g a ask gw gh gl top kep don vc vf bx tt pl we le ab rw ki ow wa yy) (.int res) := by
  refine MP.of (cc := cX3_moved) (own := RX3) 5 (some .int) (by decide +kernel) rfl (Nat.le_of_ble_eq_true rfl) rfl ?_
  intro p e s m args below meth c hx hb hr hml hown hts hlocks hP hK ls hl
  have S : CallFix p m c cX3_moved 5 s args wsX3_moved RX3 := ⟨hx, hb, hml, hown, hts⟩
  have hl : lv_has ls 5 [(0, .ref (a 0)), (1, .int x1), (2, .int x2)] := hl
  have f30 := hts (.fieldLink RX3 30 "LandBoard" "years" "[LLandBoard$Grid;") (by decide +kernel)
  have iX3 := (by decide +kernel : ∀ w ∈ u_ws RX3 TX3 8, w ∈ wsX3_moved)
  refine lv_iload_n hx hb dX3_moved_0 rfl (lv_at hl 1 rfl) ?_
  refine kPS (As := [.int x1]) (rest := []) S (ctX3_isYear l g x1  (fX3_isYear x1) rfl) (va_cwS 1 hts gX3_moved_X3_isYear rfl rfl rfl (by decide +kernel) ⟨Nat.le_of_ble_eq_true rfl, Nat.le_of_ble_eq_true rfl⟩) hK rfl rfl hl.1 rfl (Nat.le_of_ble_eq_true rfl) dX3_moved_1 ⟨Nat.zero_le _, Nat.zero_le _⟩ ?_
  refine lv_if_eq (tgt := 14) hx hb dX3_moved_4 (by decide) (fun c4 => ?_) (fun c4 => ?_)
  ·
    replace h := gdp h c4
    refine lv_iconst (v := -1) hx hb dX3_moved_14 (by decide) ?_
    obtain rfl := Option.some.inj h
    exact retPi (v := (-1 : Int32)) hx hb hr hlocks dX3_moved_15
  ·
    replace h := gdn h c4
    refine lv_iload_n hx hb dX3_moved_7 rfl (lv_at hl 2 rfl) ?_
    refine kPS (As := [.int x2]) (rest := []) S (ctX3_isYear l g x2  (fX3_isYear x2) rfl) (va_cwS 1 hts gX3_moved_X3_isYear rfl rfl rfl (by decide +kernel) ⟨Nat.le_of_ble_eq_true rfl, Nat.le_of_ble_eq_true rfl⟩) hK rfl rfl hl.1 rfl (Nat.le_of_ble_eq_true rfl) dX3_moved_8 ⟨Nat.zero_le _, Nat.zero_le _⟩ ?_
    refine lv_if_ne (tgt := 16) hx hb dX3_moved_11 (by decide) (fun c11 => ?_) (fun c11 => ?_)
    ·
      replace h := gdn h c11
      refine lv_aload_n hx hb dX3_moved_16 rfl (lv_at hl 0 rfl) ?_
      refine va_get (D := g.1) (ci := 3) (v := .ref (a 12)) (C := RX3) (T := TX3) (N := 8) hx hb hts iX3 hown hK.1 hP 0 rfl rfl 3 (by decide) f30 (fun _ h9 => h9) rfl dX3_moved_17 ?_
      refine lv_iload_n hx hb dX3_moved_20 rfl (lv_at hl 1 rfl) ?_
      obtain ⟨hi, h⟩ := gdi h
      refine va_aldq (D := g.1) hx hb hK.1 hP 15 3 rfl rfl hi dX3_moved_21 ?_
      refine topv (y := .null) (by rw [hy]; rfl) ?_
      refine lv_astore_nN (lv' := [(3, .null), (0, .ref (a 0)), (1, .int x1), (2, .int x2)]) hx hb dX3_moved_22 rfl hl (by decide) rfl (fun ls hl => ?_)
      refine lv_aload_n hx hb dX3_moved_23 rfl (lv_at hl 1 rfl) ?_
      refine va_get (D := g.1) (ci := 3) (v := .ref (a 12)) (C := RX3) (T := TX3) (N := 8) hx hb hts iX3 hown hK.1 hP 0 rfl rfl 3 (by decide) f30 (fun _ h9 => h9) rfl dX3_moved_24 ?_
      refine lv_iload_n hx hb dX3_moved_27 rfl (lv_at hl 3 rfl) ?_
      obtain ⟨hi, h⟩ := gdi h
      refine va_aldq (D := g.1) hx hb hK.1 hP 15 3 rfl rfl hi dX3_moved_28 ?_
      refine topv (y := .null) (by rw [hy2]; rfl) ?_
      refine lv_astoreN (lv' := [(4, .null), (3, .null), (0, .ref (a 0)), (1, .int x1), (2, .int x2)]) hx hb dX3_moved_29 hl (by decide) rfl (fun ls hl => ?_)
      refine lv_aload_nN hx hb dX3_moved_31 rfl (lv_at hl 1 rfl) ?_
      refine lv_ifnullN (tgt := 49) hx hb dX3_moved_32 (by decide) ?_
      refine lv_bipush (v := -9) hx hb dX3_moved_49 (by decide) ?_
      obtain rfl := Option.some.inj h
      exact retPi (v := (-9 : Int32)) hx hb hr hlocks dX3_moved_51
    ·
      replace h := gdp h c11
      refine lv_iconst (v := -1) hx hb dX3_moved_14 (by decide) ?_
      obtain rfl := Option.some.inj h
      exact retPi (v := (-1 : Int32)) hx hb hr hlocks dX3_moved_15
-- LandBoard.moved NO
def fX3_movedNO (x1 : Int32) (x2 : Int32) : Option (Int32) :=
  (if (fX3_isYear x1) = 0 then (some (-1 : Int32)) else (if (fX3_isYear x2) = 0 then (some (-1 : Int32)) else (if ix x1 4 = true then (if ix x2 4 = true then (some (-9 : Int32)) else none) else none)))
set_option maxHeartbeats 4000000 in
set_option maxRecDepth 100000 in
theorem ctX3_movedNO (l : Launch) (g : GG) (a : Nat → Nat) (x1 : Int32) (x2 : Int32) (ask : Int64) (gw : Int32) (gh : Int32) (gl : (Nat → Int64)) (top : Int32) (kep : Int32) (don : Int32) (vc : (Nat → Int32)) (vf : (Nat → Int32)) (bx : Int32) (tt : Int32) (pl : (Nat → Int32)) (we : (Nat → Int32)) (le : (Nat → Int32)) (ab : (Nat → Int32)) (rw : (Nat → Int32)) (ki : (Nat → Int32)) (ow : (Nat → Int32)) (wa : (Nat → Int32)) (yy : (Nat → Option Nat)) (b2 : Nat) (hy : yy (x1).toNatClampNeg = none) (hy2 : yy (x2).toNatClampNeg = some b2) (res : Int32) (h : fX3_movedNO x1 x2 = some res) : MP l yX3_moved wsX3_moved ({ frames := 1, cells := 0, slots := 0, locals := 20 }) g [.ref (a 0), .int x1, .int x2] (wBYc g a ask gw gh gl top kep don vc vf bx tt pl we le ab rw ki ow wa yy) (.int res) := by
  refine MP.of (cc := cX3_moved) (own := RX3) 5 (some .int) (by decide +kernel) rfl (Nat.le_of_ble_eq_true rfl) rfl ?_
  intro p e s m args below meth c hx hb hr hml hown hts hlocks hP hK ls hl
  have S : CallFix p m c cX3_moved 5 s args wsX3_moved RX3 := ⟨hx, hb, hml, hown, hts⟩
  have hl : lv_has ls 5 [(0, .ref (a 0)), (1, .int x1), (2, .int x2)] := hl
  have f30 := hts (.fieldLink RX3 30 "LandBoard" "years" "[LLandBoard$Grid;") (by decide +kernel)
  have iX3 := (by decide +kernel : ∀ w ∈ u_ws RX3 TX3 8, w ∈ wsX3_moved)
  refine lv_iload_n hx hb dX3_moved_0 rfl (lv_at hl 1 rfl) ?_
  refine kPS (As := [.int x1]) (rest := []) S (ctX3_isYear l g x1  (fX3_isYear x1) rfl) (va_cwS 1 hts gX3_moved_X3_isYear rfl rfl rfl (by decide +kernel) ⟨Nat.le_of_ble_eq_true rfl, Nat.le_of_ble_eq_true rfl⟩) hK rfl rfl hl.1 rfl (Nat.le_of_ble_eq_true rfl) dX3_moved_1 ⟨Nat.zero_le _, Nat.zero_le _⟩ ?_
  refine lv_if_eq (tgt := 14) hx hb dX3_moved_4 (by decide) (fun c4 => ?_) (fun c4 => ?_)
  ·
    replace h := gdp h c4
    refine lv_iconst (v := -1) hx hb dX3_moved_14 (by decide) ?_
    obtain rfl := Option.some.inj h
    exact retPi (v := (-1 : Int32)) hx hb hr hlocks dX3_moved_15
  ·
    replace h := gdn h c4
    refine lv_iload_n hx hb dX3_moved_7 rfl (lv_at hl 2 rfl) ?_
    refine kPS (As := [.int x2]) (rest := []) S (ctX3_isYear l g x2  (fX3_isYear x2) rfl) (va_cwS 1 hts gX3_moved_X3_isYear rfl rfl rfl (by decide +kernel) ⟨Nat.le_of_ble_eq_true rfl, Nat.le_of_ble_eq_true rfl⟩) hK rfl rfl hl.1 rfl (Nat.le_of_ble_eq_true rfl) dX3_moved_8 ⟨Nat.zero_le _, Nat.zero_le _⟩ ?_
    refine lv_if_ne (tgt := 16) hx hb dX3_moved_11 (by decide) (fun c11 => ?_) (fun c11 => ?_)
    ·
      replace h := gdn h c11
      refine lv_aload_n hx hb dX3_moved_16 rfl (lv_at hl 0 rfl) ?_
      refine va_get (D := g.1) (ci := 3) (v := .ref (a 12)) (C := RX3) (T := TX3) (N := 8) hx hb hts iX3 hown hK.1 hP 0 rfl rfl 3 (by decide) f30 (fun _ h9 => h9) rfl dX3_moved_17 ?_
      refine lv_iload_n hx hb dX3_moved_20 rfl (lv_at hl 1 rfl) ?_
      obtain ⟨hi, h⟩ := gdi h
      refine va_aldq (D := g.1) hx hb hK.1 hP 15 3 rfl rfl hi dX3_moved_21 ?_
      refine topv (y := .null) (by rw [hy]; rfl) ?_
      refine lv_astore_nN (lv' := [(3, .null), (0, .ref (a 0)), (1, .int x1), (2, .int x2)]) hx hb dX3_moved_22 rfl hl (by decide) rfl (fun ls hl => ?_)
      refine lv_aload_n hx hb dX3_moved_23 rfl (lv_at hl 1 rfl) ?_
      refine va_get (D := g.1) (ci := 3) (v := .ref (a 12)) (C := RX3) (T := TX3) (N := 8) hx hb hts iX3 hown hK.1 hP 0 rfl rfl 3 (by decide) f30 (fun _ h9 => h9) rfl dX3_moved_24 ?_
      refine lv_iload_n hx hb dX3_moved_27 rfl (lv_at hl 3 rfl) ?_
      obtain ⟨hi, h⟩ := gdi h
      refine va_aldq (D := g.1) hx hb hK.1 hP 15 3 rfl rfl hi dX3_moved_28 ?_
      refine topv (y := .ref b2) (by rw [hy2]; rfl) ?_
      refine lv_astore (lv' := [(4, .ref b2), (3, .null), (0, .ref (a 0)), (1, .int x1), (2, .int x2)]) hx hb dX3_moved_29 hl (by decide) rfl (fun ls hl => ?_)
      refine lv_aload_nN hx hb dX3_moved_31 rfl (lv_at hl 1 rfl) ?_
      refine lv_ifnullN (tgt := 49) hx hb dX3_moved_32 (by decide) ?_
      refine lv_bipush (v := -9) hx hb dX3_moved_49 (by decide) ?_
      obtain rfl := Option.some.inj h
      exact retPi (v := (-9 : Int32)) hx hb hr hlocks dX3_moved_51
    ·
      replace h := gdp h c11
      refine lv_iconst (v := -1) hx hb dX3_moved_14 (by decide) ?_
      obtain rfl := Option.some.inj h
      exact retPi (v := (-1 : Int32)) hx hb hr hlocks dX3_moved_15
-- LandBoard.moved ON
def fX3_movedON (x1 : Int32) (x2 : Int32) : Option (Int32) :=
  (if (fX3_isYear x1) = 0 then (some (-1 : Int32)) else (if (fX3_isYear x2) = 0 then (some (-1 : Int32)) else (if ix x1 4 = true then (if ix x2 4 = true then (some (-9 : Int32)) else none) else none)))
set_option maxHeartbeats 4000000 in
set_option maxRecDepth 100000 in
theorem ctX3_movedON (l : Launch) (g : GG) (a : Nat → Nat) (x1 : Int32) (x2 : Int32) (ask : Int64) (gw : Int32) (gh : Int32) (gl : (Nat → Int64)) (top : Int32) (kep : Int32) (don : Int32) (vc : (Nat → Int32)) (vf : (Nat → Int32)) (bx : Int32) (tt : Int32) (pl : (Nat → Int32)) (we : (Nat → Int32)) (le : (Nat → Int32)) (ab : (Nat → Int32)) (rw : (Nat → Int32)) (ki : (Nat → Int32)) (ow : (Nat → Int32)) (wa : (Nat → Int32)) (yy : (Nat → Option Nat)) (b0 : Nat) (hy : yy (x1).toNatClampNeg = some b0) (hy2 : yy (x2).toNatClampNeg = none) (res : Int32) (h : fX3_movedON x1 x2 = some res) : MP l yX3_moved wsX3_moved ({ frames := 1, cells := 0, slots := 0, locals := 20 }) g [.ref (a 0), .int x1, .int x2] (wBYc g a ask gw gh gl top kep don vc vf bx tt pl we le ab rw ki ow wa yy) (.int res) := by
  refine MP.of (cc := cX3_moved) (own := RX3) 5 (some .int) (by decide +kernel) rfl (Nat.le_of_ble_eq_true rfl) rfl ?_
  intro p e s m args below meth c hx hb hr hml hown hts hlocks hP hK ls hl
  have S : CallFix p m c cX3_moved 5 s args wsX3_moved RX3 := ⟨hx, hb, hml, hown, hts⟩
  have hl : lv_has ls 5 [(0, .ref (a 0)), (1, .int x1), (2, .int x2)] := hl
  have f30 := hts (.fieldLink RX3 30 "LandBoard" "years" "[LLandBoard$Grid;") (by decide +kernel)
  have iX3 := (by decide +kernel : ∀ w ∈ u_ws RX3 TX3 8, w ∈ wsX3_moved)
  refine lv_iload_n hx hb dX3_moved_0 rfl (lv_at hl 1 rfl) ?_
  refine kPS (As := [.int x1]) (rest := []) S (ctX3_isYear l g x1  (fX3_isYear x1) rfl) (va_cwS 1 hts gX3_moved_X3_isYear rfl rfl rfl (by decide +kernel) ⟨Nat.le_of_ble_eq_true rfl, Nat.le_of_ble_eq_true rfl⟩) hK rfl rfl hl.1 rfl (Nat.le_of_ble_eq_true rfl) dX3_moved_1 ⟨Nat.zero_le _, Nat.zero_le _⟩ ?_
  refine lv_if_eq (tgt := 14) hx hb dX3_moved_4 (by decide) (fun c4 => ?_) (fun c4 => ?_)
  ·
    replace h := gdp h c4
    refine lv_iconst (v := -1) hx hb dX3_moved_14 (by decide) ?_
    obtain rfl := Option.some.inj h
    exact retPi (v := (-1 : Int32)) hx hb hr hlocks dX3_moved_15
  ·
    replace h := gdn h c4
    refine lv_iload_n hx hb dX3_moved_7 rfl (lv_at hl 2 rfl) ?_
    refine kPS (As := [.int x2]) (rest := []) S (ctX3_isYear l g x2  (fX3_isYear x2) rfl) (va_cwS 1 hts gX3_moved_X3_isYear rfl rfl rfl (by decide +kernel) ⟨Nat.le_of_ble_eq_true rfl, Nat.le_of_ble_eq_true rfl⟩) hK rfl rfl hl.1 rfl (Nat.le_of_ble_eq_true rfl) dX3_moved_8 ⟨Nat.zero_le _, Nat.zero_le _⟩ ?_
    refine lv_if_ne (tgt := 16) hx hb dX3_moved_11 (by decide) (fun c11 => ?_) (fun c11 => ?_)
    ·
      replace h := gdn h c11
      refine lv_aload_n hx hb dX3_moved_16 rfl (lv_at hl 0 rfl) ?_
      refine va_get (D := g.1) (ci := 3) (v := .ref (a 12)) (C := RX3) (T := TX3) (N := 8) hx hb hts iX3 hown hK.1 hP 0 rfl rfl 3 (by decide) f30 (fun _ h9 => h9) rfl dX3_moved_17 ?_
      refine lv_iload_n hx hb dX3_moved_20 rfl (lv_at hl 1 rfl) ?_
      obtain ⟨hi, h⟩ := gdi h
      refine va_aldq (D := g.1) hx hb hK.1 hP 15 3 rfl rfl hi dX3_moved_21 ?_
      refine topv (y := .ref b0) (by rw [hy]; rfl) ?_
      refine lv_astore_n (lv' := [(3, .ref b0), (0, .ref (a 0)), (1, .int x1), (2, .int x2)]) hx hb dX3_moved_22 rfl hl (by decide) rfl (fun ls hl => ?_)
      refine lv_aload_n hx hb dX3_moved_23 rfl (lv_at hl 1 rfl) ?_
      refine va_get (D := g.1) (ci := 3) (v := .ref (a 12)) (C := RX3) (T := TX3) (N := 8) hx hb hts iX3 hown hK.1 hP 0 rfl rfl 3 (by decide) f30 (fun _ h9 => h9) rfl dX3_moved_24 ?_
      refine lv_iload_n hx hb dX3_moved_27 rfl (lv_at hl 3 rfl) ?_
      obtain ⟨hi, h⟩ := gdi h
      refine va_aldq (D := g.1) hx hb hK.1 hP 15 3 rfl rfl hi dX3_moved_28 ?_
      refine topv (y := .null) (by rw [hy2]; rfl) ?_
      refine lv_astoreN (lv' := [(4, .null), (3, .ref b0), (0, .ref (a 0)), (1, .int x1), (2, .int x2)]) hx hb dX3_moved_29 hl (by decide) rfl (fun ls hl => ?_)
      refine lv_aload_n hx hb dX3_moved_31 rfl (lv_at hl 1 rfl) ?_
      refine lv_ifnull hx hb dX3_moved_32 ?_
      refine lv_aloadN hx hb dX3_moved_35 (lv_at hl 0 rfl) ?_
      refine lv_ifnullN (tgt := 49) hx hb dX3_moved_37 (by decide) ?_
      refine lv_bipush (v := -9) hx hb dX3_moved_49 (by decide) ?_
      obtain rfl := Option.some.inj h
      exact retPi (v := (-9 : Int32)) hx hb hr hlocks dX3_moved_51
    ·
      replace h := gdp h c11
      refine lv_iconst (v := -1) hx hb dX3_moved_14 (by decide) ?_
      obtain rfl := Option.some.inj h
      exact retPi (v := (-1 : Int32)) hx hb hr hlocks dX3_moved_15
-- LandBoard.moved OO
def fX3_movedOO (x1 : Int32) (x2 : Int32) (gw2 : Int32) (gh2 : Int32) (gl2 : (Nat → Int64)) (gw3 : Int32) (gh3 : Int32) (gl3 : (Nat → Int64)) : Option (Int32) :=
  (if (fX3_isYear x1) = 0 then (some (-1 : Int32)) else (if (fX3_isYear x2) = 0 then (some (-1 : Int32)) else (if ix x1 4 = true then (if ix x2 4 = true then (if (fX0_isAsLargeAs gw2 gh2 gw3 gh3) = 0 then (some (-9 : Int32)) else ((fX0_unlike gl2 gl3).bind fun r55 => (some r55))) else none) else none)))
set_option maxHeartbeats 4000000 in
set_option maxRecDepth 100000 in
theorem ctX3_movedOO (l : Launch) (g : GG) (a : Nat → Nat) (b0 b1 b2 b3 : Nat) (x1 : Int32) (x2 : Int32) (ask : Int64) (gw : Int32) (gh : Int32) (gl : (Nat → Int64)) (top : Int32) (kep : Int32) (don : Int32) (vc : (Nat → Int32)) (vf : (Nat → Int32)) (bx : Int32) (tt : Int32) (pl : (Nat → Int32)) (we : (Nat → Int32)) (le : (Nat → Int32)) (ab : (Nat → Int32)) (rw : (Nat → Int32)) (ki : (Nat → Int32)) (ow : (Nat → Int32)) (wa : (Nat → Int32)) (yy : (Nat → Option Nat)) (gw2 : Int32) (gh2 : Int32) (gl2 : (Nat → Int64)) (gw3 : Int32) (gh3 : Int32) (gl3 : (Nat → Int64)) (hy : yy (x1).toNatClampNeg = some b0) (hy2 : yy (x2).toNatClampNeg = some b2) (res : Int32) (h : fX3_movedOO x1 x2 gw2 gh2 gl2 gw3 gh3 gl3 = some res) : MP l yX3_moved wsX3_moved ({ frames := 2, cells := 0, slots := 0, locals := 45 }) g [.ref (a 0), .int x1, .int x2] (wBYGG g a b0 b1 b2 b3 ask gw gh gl top kep don vc vf bx tt pl we le ab rw ki ow wa yy gw2 gh2 gl2 gw3 gh3 gl3) (.int res) := by
  refine MP.of (cc := cX3_moved) (own := RX3) 5 (some .int) (by decide +kernel) rfl (Nat.le_of_ble_eq_true rfl) rfl ?_
  intro p e s m args below meth c hx hb hr hml hown hts hlocks hP hK ls hl
  have S : CallFix p m c cX3_moved 5 s args wsX3_moved RX3 := ⟨hx, hb, hml, hown, hts⟩
  have hl : lv_has ls 5 [(0, .ref (a 0)), (1, .int x1), (2, .int x2)] := hl
  have f30 := hts (.fieldLink RX3 30 "LandBoard" "years" "[LLandBoard$Grid;") (by decide +kernel)
  have iX3 := (by decide +kernel : ∀ w ∈ u_ws RX3 TX3 8, w ∈ wsX3_moved)
  refine lv_iload_n hx hb dX3_moved_0 rfl (lv_at hl 1 rfl) ?_
  refine kPS (As := [.int x1]) (rest := []) S (ctX3_isYear l g x1  (fX3_isYear x1) rfl) (va_cwS 1 hts gX3_moved_X3_isYear rfl rfl rfl (by decide +kernel) ⟨Nat.le_of_ble_eq_true rfl, Nat.le_of_ble_eq_true rfl⟩) hK rfl rfl hl.1 rfl (Nat.le_of_ble_eq_true rfl) dX3_moved_1 ⟨Nat.zero_le _, Nat.zero_le _⟩ ?_
  refine lv_if_eq (tgt := 14) hx hb dX3_moved_4 (by decide) (fun c4 => ?_) (fun c4 => ?_)
  ·
    replace h := gdp h c4
    refine lv_iconst (v := -1) hx hb dX3_moved_14 (by decide) ?_
    obtain rfl := Option.some.inj h
    exact retPi (v := (-1 : Int32)) hx hb hr hlocks dX3_moved_15
  ·
    replace h := gdn h c4
    refine lv_iload_n hx hb dX3_moved_7 rfl (lv_at hl 2 rfl) ?_
    refine kPS (As := [.int x2]) (rest := []) S (ctX3_isYear l g x2  (fX3_isYear x2) rfl) (va_cwS 1 hts gX3_moved_X3_isYear rfl rfl rfl (by decide +kernel) ⟨Nat.le_of_ble_eq_true rfl, Nat.le_of_ble_eq_true rfl⟩) hK rfl rfl hl.1 rfl (Nat.le_of_ble_eq_true rfl) dX3_moved_8 ⟨Nat.zero_le _, Nat.zero_le _⟩ ?_
    refine lv_if_ne (tgt := 16) hx hb dX3_moved_11 (by decide) (fun c11 => ?_) (fun c11 => ?_)
    ·
      replace h := gdn h c11
      refine lv_aload_n hx hb dX3_moved_16 rfl (lv_at hl 0 rfl) ?_
      refine va_get (D := g.1) (ci := 3) (v := .ref (a 12)) (C := RX3) (T := TX3) (N := 8) hx hb hts iX3 hown hK.1 hP 0 rfl rfl 3 (by decide) f30 (fun _ h9 => h9) rfl dX3_moved_17 ?_
      refine lv_iload_n hx hb dX3_moved_20 rfl (lv_at hl 1 rfl) ?_
      obtain ⟨hi, h⟩ := gdi h
      refine va_aldq (D := g.1) hx hb hK.1 hP 15 3 rfl rfl hi dX3_moved_21 ?_
      refine topv (y := .ref b0) (by rw [hy]; rfl) ?_
      refine lv_astore_n (lv' := [(3, .ref b0), (0, .ref (a 0)), (1, .int x1), (2, .int x2)]) hx hb dX3_moved_22 rfl hl (by decide) rfl (fun ls hl => ?_)
      refine lv_aload_n hx hb dX3_moved_23 rfl (lv_at hl 1 rfl) ?_
      refine va_get (D := g.1) (ci := 3) (v := .ref (a 12)) (C := RX3) (T := TX3) (N := 8) hx hb hts iX3 hown hK.1 hP 0 rfl rfl 3 (by decide) f30 (fun _ h9 => h9) rfl dX3_moved_24 ?_
      refine lv_iload_n hx hb dX3_moved_27 rfl (lv_at hl 3 rfl) ?_
      obtain ⟨hi, h⟩ := gdi h
      refine va_aldq (D := g.1) hx hb hK.1 hP 15 3 rfl rfl hi dX3_moved_28 ?_
      refine topv (y := .ref b2) (by rw [hy2]; rfl) ?_
      refine lv_astore (lv' := [(4, .ref b2), (3, .ref b0), (0, .ref (a 0)), (1, .int x1), (2, .int x2)]) hx hb dX3_moved_29 hl (by decide) rfl (fun ls hl => ?_)
      refine lv_aload_n hx hb dX3_moved_31 rfl (lv_at hl 1 rfl) ?_
      refine lv_ifnull hx hb dX3_moved_32 ?_
      refine lv_aload hx hb dX3_moved_35 (lv_at hl 0 rfl) ?_
      refine lv_ifnull hx hb dX3_moved_37 ?_
      refine lv_aload_n hx hb dX3_moved_40 rfl (lv_at hl 1 rfl) ?_
      refine lv_aload hx hb dX3_moved_41 (lv_at hl 0 rfl) ?_
      refine kPV (As := [.ref b2]) (rest := []) (ci := 0) S (ctX0_isAsLargeAs l g b0 b1 b2 b3  gw2 gh2 gl2 gw3 gh3 gl3 (fX0_isAsLargeAs gw2 gh2 gw3 gh3) rfl) (cwV 1 hts gX3_moved_X0_isAsLargeAs rfl rfl rfl (by decide +kernel) ⟨Nat.le_of_ble_eq_true rfl, Nat.le_of_ble_eq_true rfl⟩) hK hP [16, 17, 18, 19] rfl rfl rfl rfl rfl hl.1 rfl (Nat.le_of_ble_eq_true rfl) dX3_moved_43 ⟨Nat.zero_le _, Nat.zero_le _⟩ ?_
      refine lv_if_ne (tgt := 52) hx hb dX3_moved_46 (by decide) (fun c46 => ?_) (fun c46 => ?_)
      ·
        replace h := gdn h c46
        refine lv_aload_n hx hb dX3_moved_52 rfl (lv_at hl 1 rfl) ?_
        refine lv_aload hx hb dX3_moved_53 (lv_at hl 0 rfl) ?_
        obtain ⟨r55, hr55, h⟩ := gdb h
        refine kPV (As := [.ref b2]) (rest := []) (ci := 0) S (ctX0_unlike l g b0 b1 b2 b3  gw2 gh2 gl2 gw3 gh3 gl3 r55 hr55) (cwV 1 hts gX3_moved_X0_unlike rfl rfl rfl (by decide +kernel) ⟨Nat.le_of_ble_eq_true rfl, Nat.le_of_ble_eq_true rfl⟩) hK hP [16, 17, 18, 19] rfl rfl rfl rfl rfl hl.1 rfl (Nat.le_of_ble_eq_true rfl) dX3_moved_55 ⟨Nat.zero_le _, Nat.zero_le _⟩ ?_
        obtain rfl := Option.some.inj h
        exact retPi hx hb hr hlocks dX3_moved_58
      ·
        replace h := gdp h c46
        refine lv_bipush (v := -9) hx hb dX3_moved_49 (by decide) ?_
        obtain rfl := Option.some.inj h
        exact retPi (v := (-9 : Int32)) hx hb hr hlocks dX3_moved_51
    ·
      replace h := gdp h c11
      refine lv_iconst (v := -1) hx hb dX3_moved_14 (by decide) ?_
      obtain rfl := Option.some.inj h
      exact retPi (v := (-1 : Int32)) hx hb hr hlocks dX3_moved_15
