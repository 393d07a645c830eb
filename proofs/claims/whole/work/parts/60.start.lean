/-! the law: its start -/
theorem u_prim {s : State} {args : Array Value} {ty : FieldType} (hR : ∀ cA : ClassId, s.vm.findClass ("[" ++ ty.toString) = some cA → va_RA s cA ty) (h : (Cond.arrayClass ty).before args s = true) : ∃ cA : ClassId, ArrOfT s cA ty ∧ va_RA s cA ty := by
  obtain ⟨cA, kA, comp, f1, f2, f3⟩ := Cond.arrayClass_spec h
  exact ⟨cA, fun N z => ⟨(fun k h => by cases h), kA, f2, comp, f3⟩, hR cA f1⟩
theorem u_refs {s : State} {args : Array Value} (h : (Cond.arrayOver (.object RX0)).before args s = true) : ∃ cA : ClassId, ArrOfT s cA (.object RX0) ∧ va_RA s cA (.object RX0) := by
  obtain ⟨comp, cA, kA, f1, f2, f3, f4, f5⟩ := Cond.arrayOver_spec h
  exact ⟨cA, fun N z => ⟨(fun k h => by cases h), kA, f3, comp, f4⟩, kA, comp, f3, f4, f1, f5⟩
theorem law_known {s : State} {args : Array Value} (hts3 : ∀ w ∈ wsX3_init, w.before args s = true) (hts4 : ∀ w ∈ wsX4_init, w.before args s = true) (hi : (Cond.arrayClass .int).before args s = true) (hl : (Cond.arrayClass .long).before args s = true) (hz : (Cond.arrayClass .boolean).before args s = true) (hq : (Cond.arrayOver (.object RX0)).before args s = true)
    (h38 : (Cond.instantiable RX3 8).before args s = true) (h426 : (Cond.instantiable RX4 26).before args s = true) (n0 : (Cond.methodLinkNest RX3 11 yX0_init RX3).before args s = true) (n1 : (Cond.methodLinkNest RX3 18 yX1_init RX3).before args s = true) (n2 : (Cond.methodLinkNest RX3 25 yX2_init RX3).before args s = true) (n3 : (Cond.methodLinkNest RX0 22 yX3_bit RX3).before args s = true) (n4 : (Cond.methodLinkNest RX0 28 yX3_isLand RX3).before args s = true) (n5 : (Cond.methodLinkNest RX0 47 yX3_around RX3).before args s = true) (n6 : (Cond.methodLinkNest RX2 40 yX3_isLand RX3).before args s = true) (n7 : (Cond.methodLinkNest RX2 54 yX3_thousandths RX3).before args s = true) : ∃ g : GG, Kx g s := by
  obtain ⟨c0, i0, k0⟩ := u_known (C := RX0) (T := TX0) (N := 3) (n := 3) hts3 (by decide +kernel) (hts3 (.instantiable RX0 3) (by decide +kernel))
  obtain ⟨c1, i1, k1⟩ := u_known (C := RX1) (T := TX1) (N := 5) (n := 5) hts3 (by decide +kernel) (hts3 (.instantiable RX1 5) (by decide +kernel))
  obtain ⟨c2, i2, k2⟩ := u_known (C := RX2) (T := TX2) (N := 7) (n := 7) hts3 (by decide +kernel) (hts3 (.instantiable RX2 7) (by decide +kernel))
  obtain ⟨c3, i3, k3⟩ := u_known (C := RX3) (T := TX3) (N := 8) (n := 8) hts3 (by decide +kernel) h38
  obtain ⟨c4, i4, k4⟩ := u_known (C := RX4) (T := TX4) (N := 26) (n := 26) hts4 (by decide +kernel) h426
  obtain ⟨ci, ti⟩ := u_prim (s := s) (ty := .int) (fun _ h => h) hi
  obtain ⟨cl, tl⟩ := u_prim (s := s) (ty := .long) (fun _ h => h) hl
  obtain ⟨cz, tz⟩ := u_prim (s := s) (ty := .boolean) (fun _ h => h) hz
  obtain ⟨cq, tq⟩ := u_refs hq
  refine ⟨(((fun k => if k = 0 then c0 else if k = 1 then c1 else if k = 2 then c2 else if k = 3 then c3 else c4), (fun k => if k = 0 then i0 else if k = 1 then i1 else if k = 2 then i2 else if k = 3 then i3 else i4)), ci, cl, cz, cq), ⟨fun k q hq => ?_, fun k q hq => ?_⟩, va_Nw.of rfl n0, va_Nw.of rfl n1, va_Nw.of rfl n2, va_Nw.of rfl n3, va_Nw.of rfl n4, va_Nw.of rfl n5, va_Nw.of rfl n6, va_Nw.of rfl n7, va_AO.of hq⟩
  · match k, hq with
    | 0, hq => cases hq; exact k0
    | 1, hq => cases hq; exact k1
    | 2, hq => cases hq; exact k2
    | 3, hq => cases hq; exact k3
    | 4, hq => cases hq; exact k4
    | k + 5, hq => simp [vwCl] at hq
  · match k, hq with
    | 0, hq => cases hq; exact ti
    | 1, hq => cases hq; exact tl
    | 2, hq => cases hq; exact tz
    | 3, hq => cases hq; exact tq
    | k + 4, hq => simp [tyG] at hq
theorem BoR_0 {r1 : Int32 × Int32 × (Nat → Int64)} (h1 : fX0_clear 4 4 0 0 (fun _ => 0) = some r1) {r79 : (Nat → Int32) × (Nat → Int32)} (h79 : fX3_forgetKinds (fun _ => 0) (fun _ => 0) = some r79) {mo : Nat → Int32} {r157 : Int32 × (Nat → Int32) × (Nat → Int32) × (Nat → Int32)} (h157 : fX4_clears (0) (fun _ => 0) (fun _ => 0) mo = some r157) :
    BoR (64 * 0) 0 r1.1 r1.2.1 r1.2.2 0 0 0 (fun _ => 0) (fun _ => 0) r79.1 r79.2 (fun _ => 0) 4 4 r157.1 0 0 0 r157.2.1 r157.2.2.1 r157.2.2.2 (fun _ => 0) (fun _ => 0) (fun _ => 0) := by
  have hok : WHok 4 4 := ⟨by decide, by decide, by decide, by decide⟩
  have e1 := clear_eq 4 4 0 0 (fun _ => 0)
  rw [show nI 4 = 4 from rfl, h1] at e1
  rw [kinds_eq] at h79
  rw [clears_eq] at h157
  have e1 := Option.some.inj e1
  have e2 := Option.some.inj h79
  have e3 := Option.some.inj h157
  subst e1
  subst e2
  subst e3
  exact ⟨4, 4, fun _ => -4, fun _ => 0, fun _ => 0, rfl, rfl, rfl, rfl, rfl, sea_RB hok _ _, KK0 _, KK0 _, fun l hl => ⟨rfl, Nat.zero_le _⟩, fun l hl => ⟨rfl, Nat.zero_le _⟩, OWN0 4 4 _ _, 0, 0, rfl, Nat.le_refl _, Nat.zero_le _, Nat.le_refl _, rfl, rfl, rfl, rfl, fun j hj => absurd hj (Nat.not_lt_zero _)⟩
section LSTART
variable {p : Program} {l : Launch} {e : Env} {R : Room} {s : State} {m : MethodId} {args : Array Value} {below : List Frame} {meth : Method} {c : Code} {H : Heap} {locs : List Loc} {cells slots : Nat} {Q : State → Prop}
variable {Ts wsc ws' : List Cond} {cc bytes : ByteArray} {nL maxL idx n pc : Nat} {own C host : String} {y : MethodName} {ret : Option FieldType} {rm : Room} {b : Addr} {As rest st0 : List Value} {ls : Array Slot} {g : GG} {w w' : va_W} {r : Value} {ro : Option Value}
theorem lIN {A : Nat → Prop} {W0 wr : va_W} {wA : List Nat → va_W} {mc ms : Nat} (S : CallFix p m c cc nL s args Ts own) (hM : MA l y wsc rm g [.ref b] w wA mc ms) (cw : CallB R s args own idx y bytes maxL none wsc rm mc ms 0 ∧ y.name = "<init>" ∧ (Cond.instanceMethod y).before args s = true) (hK : Kx g s) (hP : va_P g.1 vwCl W0 H) (hD : va_D A W0) (hS : va_S A s.heap H locs) (hA : ∀ q, s.heap.size ≤ q → A q) (isC isR : List Nat) (hC : isC.map (fun i => W0[i]?) = w.map some) (hcn : va_nd isC = true) (hR : isR.map (fun i => W0[i]?) = wr.map some) (hrn : va_nd isR = true) (hdis : ∀ i ∈ isR, i ∉ isC)
    (hl : ls.size = nL) (hst : st0 = .ref b :: rest) (hroom : (rest.map fun v => v.category).sum ≤ 8) (hdg : decode cc pc = .ok (.invokespecial idx, 3)) (hf : cells + mc ≤ R.cells ∧ slots + ms ≤ R.slots)
    (kk : ∀ (as : List Nat) (H1 : Heap) (locs1 : List Loc), va_P g.1 vwCl (wr ++ wA as) H1 → va_D A (wr ++ wA as) → va_S A s.heap H1 locs1 → W p l e R s m args below meth c H1 locs1 (cells + mc) (slots + ms) Q (F0 m (pc + 3) ls rest)) : W p l e R s m args below meth c H locs cells slots Q (F0 m pc ls st0) := by
  have hPc := hP.pick isC hC
  have hDc := hD.sub isC hcn hC
  have hr := va_runI (As := []) (rest := rest) S (hM H.size) cw ⟨mm_blind, fun U hU hW => ⟨rfl, by rw [hU], by rw [hU]; exact hPc, hK.warm hW, hDc.weaken (fun _ _ _ _ => trivial)⟩⟩ (g := F0 m pc ls st0) (b := b) (H := H) (locs := locs) (cells := cells) (slots := slots) (below := below) (meth := meth) (e := e) rfl rfl hl hst (lv_room hroom) hdg hf
  intro T hT X
  obtain ⟨v, st₀, t, T', L, h0, X', hL, e1, e2, ⟨⟨hv, as, hp1, hd1⟩, hz, hk⟩, st⟩ := hr T hT X
  cases hv
  rw [h0] at hz hk
  have hF := va_free (wc := w) hD hS hA isC hC
  obtain ⟨hP1, hD1⟩ := va_join hP hD isC isR hC hR hrn hdis hk hF hp1 hd1
  obtain ⟨t2, a1, b1⟩ := kk as T'.heap (locs ++ L) (by rw [e1]; exact hP1) hD1
    ⟨Nat.le_trans hS.1 (by rw [e1]; exact hz), fun q h1 h2 => by rw [e1, hk q (Nat.lt_of_lt_of_le h1 hS.1) (fun z => h2 (hF q z))]; exact hS.2.1 q h1 h2, fun q hq => by
      rcases List.mem_append.mp hq with h | h
      · exact hS.2.2 q h
      · exact hF _ (hL q h)⟩ T' rfl X'
  exact ⟨t2, st t2 a1, b1⟩
end LSTART
set_option maxHeartbeats 8000000 in
set_option maxRecDepth 100000 in
theorem law_start {p : Program} {e : Env} {s : State} {m : MethodId} {below : List Frame} {meth : Method} {c : Code} {Q : State → Prop} (l : Launch) {b L : Nat} {xs : Nat → Int32} (C0 : LCx p s m #[Value.ref b] c b L xs) (htl : ∀ w ∈ lw_tbl, w.before #[Value.ref b] s = true)
    (kend : ∀ (H1 : Heap) (locs1 : List Loc) (ls : Array Slot), va_S (fun q : Nat => s.heap.size ≤ q) s.heap H1 locs1 → W p l e room_1 s m #[Value.ref b] below meth c H1 locs1 600000 7302250 Q (F0 m 884 ls [.int 1])) : W p l e room_1 s m #[Value.ref b] below meth c s.heap [] 0 0 Q (entryFrame m ([Value.ref b] : List Value).toArray 4) := by
  have C1 := C0
  obtain ⟨hx, hb, hml, hown, hts, hX, hbl, hL⟩ := C0
  have S : CallFix p m c cL_law 4 s #[Value.ref b] wsL_law RL := ⟨hx, hb, hml, hown, hts⟩
  have hA : ∀ q : Nat, s.heap.size ≤ q → (fun q : Nat => s.heap.size ≤ q) q := fun _ h => h
  have hts3 : ∀ w ∈ wsX3_init, w.before #[Value.ref b] s = true := fun w h => hts w (gL_law_X3_init w h).1
  have hts4 : ∀ w ∈ wsX4_init, w.before #[Value.ref b] s = true := fun w h => hts w (gL_law_X4_init w h).1
  have h38 : (Cond.instantiable RX3 8).before #[Value.ref b] s = true := htl (.instantiable RX3 8) (by decide +kernel)
  have h426 : (Cond.instantiable RX4 26).before #[Value.ref b] s = true := htl (.instantiable RX4 26) (by decide +kernel)
  obtain ⟨g, hK⟩ := law_known hts3 hts4 (htl (.arrayClass .int) (by decide +kernel)) (htl (.arrayClass .long) (by decide +kernel)) (htl (.arrayClass .boolean) (by decide +kernel)) (htl (.arrayOver (.object RX0)) (by decide +kernel)) h38 h426 (htl (.methodLinkNest RX3 11 yX0_init RX3) (by decide +kernel)) (htl (.methodLinkNest RX3 18 yX1_init RX3) (by decide +kernel)) (htl (.methodLinkNest RX3 25 yX2_init RX3) (by decide +kernel)) (htl (.methodLinkNest RX0 22 yX3_bit RX3) (by decide +kernel)) (htl (.methodLinkNest RX0 28 yX3_isLand RX3) (by decide +kernel)) (htl (.methodLinkNest RX0 47 yX3_around RX3) (by decide +kernel)) (htl (.methodLinkNest RX2 40 yX3_isLand RX3) (by decide +kernel)) (htl (.methodLinkNest RX2 54 yX3_thousandths RX3) (by decide +kernel))
  obtain ⟨r1, h1⟩ : ∃ r1, fX0_clear 4 4 0 0 (fun _ => 0) = some r1 := ⟨_, clear_eq 4 4 0 0 (fun _ => 0)⟩
  obtain ⟨r79, h79⟩ : ∃ r79, fX3_forgetKinds (fun _ => 0) (fun _ => 0) = some r79 := ⟨_, kinds_eq _ _⟩
  obtain ⟨r157, h157⟩ : ∃ r157, fX4_clears (0) (fun _ => 0) (fun _ => 0) (upd (upd (upd (upd (upd (upd (fun _ => 0) 0 (-1)) 1 (-1)) 2 (-1)) 3 (-1)) 4 (-1)) 5 (-1)) = some r157 := ⟨_, clears_eq _ _ _ _⟩
  have hS : va_S (fun q : Nat => s.heap.size ≤ q) s.heap s.heap [] := va_S.rf
  have hP : va_P g.1 vwCl [] s.heap := fun k q h => by simp at h
  have hD : va_D (fun q : Nat => s.heap.size ≤ q) [] := ⟨fun i j p q h => by simp at h, fun k q h => by simp at h⟩
  have hl := lv_entry ([.ref b]) (n := 4) (Nat.le_of_ble_eq_true rfl)
  rw [lg_entry_eq]
  generalize (lg_sl ([.ref b]) ++ List.replicate (4 - (lg_sl ([.ref b])).length) Slot.unset).toArray = ls at hl ⊢
  have hl : lv_has ls 4 [(0, .ref b)] := hl
  have iX3 := (by decide +kernel : ∀ w ∈ u_ws RX3 TX3 8, w ∈ wsX3_init)
  have iX4 := (by decide +kernel : ∀ w ∈ u_ws RX4 TX4 26, w ∈ wsX4_init)
  refine va_new (D := g.1) (ci := 3) (fs := [.null, .null, .null, .null, .null, .null, .null, .long 0]) (C := RX3) (T := TX3) (N := 8) hx hb hts3 iX3 tyX3 tyX3_ok hown (htl (.classLink RL 7 RX3) (by decide +kernel)) h38 (htl (.initialized RX3) (by decide +kernel)) hK.1 hP hD hS hA rfl (fun j hj => by match j, hj with | 0, _ => rfl | 1, _ => rfl | 2, _ => rfl | 3, _ => rfl | 4, _ => rfl | 5, _ => rfl | 6, _ => rfl | 7, _ => rfl | (z + 8), hj => exact absurd hj (by omega)) (Nat.le_of_ble_eq_true rfl) (Nat.le_of_ble_eq_true rfl) dL_law_0 (fun q0 H hP hD hS => ?_)
  have hP : va_P g.1 vwCl [(q0, .inr (3, [.null, .null, .null, .null, .null, .null, .null, .long 0]))] H := hP
  have hD : va_D (fun q : Nat => s.heap.size ≤ q) [(q0, .inr (3, [.null, .null, .null, .null, .null, .null, .null, .long 0]))] := hD
  refine lv_dup hx hb dL_law_3 rfl ?_
  refine lIN (rest := [.ref q0]) (wr := []) S (ctX3_init l g q0 r1 h1 r79 h79) (cwI 0 hts gL_law_X3_init rfl rfl rfl (htl (.initialized RX3) (by decide +kernel)) (htl (.methodLink RL 9 yX3_init) (by decide +kernel)) (htl (.instanceMethod yX3_init) (by decide +kernel)) rfl (by decide +kernel) ⟨Nat.le_of_ble_eq_true rfl, Nat.le_of_ble_eq_true rfl⟩) hK hP hD hS hA [0] [] rfl (by decide) rfl (by decide) (by decide) hl.1 rfl (Nat.le_of_ble_eq_true rfl) dL_law_4 ⟨Nat.le_of_ble_eq_true rfl, Nat.le_of_ble_eq_true rfl⟩ (fun as H locs hP hD hS => ?_)
  refine lv_astore_n (lv' := [(1, .ref q0), (0, .ref b)]) hx hb dL_law_7 rfl hl (by decide) rfl (fun ls hl => ?_)
  refine va_new (D := g.1) (ci := 4) (fs := [.int 0, .int 0, .null, .null, .null, .null, .int 0, .int 0, .int 0, .null, .null, .null, .null, .null, .null, .long 0, .null, .null, .null, .int 0, .null, .null, .int 0, .int 0, .int 0, .int 0]) (C := RX4) (T := TX4) (N := 26) hx hb hts4 iX4 tyX4 tyX4_ok hown (htl (.classLink RL 10 RX4) (by decide +kernel)) h426 (htl (.initialized RX4) (by decide +kernel)) hK.1 hP hD hS hA rfl (fun j hj => by match j, hj with | 0, _ => rfl | 1, _ => rfl | 2, _ => rfl | 3, _ => rfl | 4, _ => rfl | 5, _ => rfl | 6, _ => rfl | 7, _ => rfl | 8, _ => rfl | 9, _ => rfl | 10, _ => rfl | 11, _ => rfl | 12, _ => rfl | 13, _ => rfl | 14, _ => rfl | 15, _ => rfl | 16, _ => rfl | 17, _ => rfl | 18, _ => rfl | 19, _ => rfl | 20, _ => rfl | 21, _ => rfl | 22, _ => rfl | 23, _ => rfl | 24, _ => rfl | 25, _ => rfl | (z + 26), hj => exact absurd hj (by omega)) (Nat.le_of_ble_eq_true rfl) (Nat.le_of_ble_eq_true rfl) dL_law_8 (fun q2 H hP hD hS => ?_)
  refine lv_dup hx hb dL_law_11 rfl ?_
  refine lIN (rest := [.ref q2]) (wr := (wBYc g (fun k => (q0 :: as).getD k 0) (0) (r1.1) (r1.2.1) r1.2.2 (0) (0) (0) (fun _ => 0) (fun _ => 0) (0) (0) (fun _ => 0) (fun _ => 0) (fun _ => 0) (fun _ => 0) (fun _ => 0) r79.1 r79.2 (fun _ => 0) (fun _ => none))) S (ctX4_init l g q2 r157 h157) (cwI 0 hts gL_law_X4_init rfl rfl rfl (htl (.initialized RX4) (by decide +kernel)) (htl (.methodLink RL 12 yX4_init) (by decide +kernel)) (htl (.instanceMethod yX4_init) (by decide +kernel)) rfl (by decide +kernel) ⟨Nat.le_of_ble_eq_true rfl, Nat.le_of_ble_eq_true rfl⟩) hK hP hD hS hA [16] [0, 1, 2, 3, 4, 5, 6, 7, 8, 9, 10, 11, 12, 13, 14, 15] rfl (by decide) rfl (by decide) (by decide) hl.1 rfl (Nat.le_of_ble_eq_true rfl) dL_law_12 ⟨Nat.le_of_ble_eq_true rfl, Nat.le_of_ble_eq_true rfl⟩ (fun as2 H locs hP hD hS => ?_)
  refine lv_astore_n (lv' := [(2, .ref q2), (1, .ref q0), (0, .ref b)]) hx hb dL_law_15 rfl hl (by decide) rfl (fun ls hl => ?_)
  refine lv_iconst (v := 0) hx hb dL_law_16 (by decide) ?_
  refine lv_istore_n (lv' := [(3, .int 0), (2, .ref q2), (1, .ref q0), (0, .ref b)]) hx hb dL_law_17 rfl hl (by decide) rfl (fun ls hl => ?_)
  have hI : LI g (fun k => (q0 :: as).getD k 0) (fun k => (q2 :: as2).getD k 0) (fun q : Nat => s.heap.size ≤ q) 0 H := ⟨_, _, _, _, _, _, _, _, _, _, _, _, _, _, _, _, _, _, _, _, _, _, _, _, _, _, _, _, _, _, _, _, _, _, _, _, _, _, _, _, _, _, _, _, _, _, (fun _ => none), BoR_0 h1 h79 h157, fun _ => rfl, fun _ _ => rfl, fun _ _ => rfl, hP, hD⟩
  exact law_loop C1 hK kend (L + 1) 0 (Nat.zero_le _) (by omega) H locs ls hI hS (lv_sub hl [3, 2, 1, 0] rfl)
