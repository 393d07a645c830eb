-- LandBoard.forgetKinds
set_option maxHeartbeats 4000000 in
set_option maxRecDepth 100000 in
theorem ctX3_forgetKinds (l : Launch) (g : GG) (a : Nat → Nat)  (ask : Int64) (gw : Int32) (gh : Int32) (gl : (Nat → Int64)) (top : Int32) (kep : Int32) (don : Int32) (vc : (Nat → Int32)) (vf : (Nat → Int32)) (bx : Int32) (tt : Int32) (pl : (Nat → Int32)) (we : (Nat → Int32)) (le : (Nat → Int32)) (ab : (Nat → Int32)) (rw : (Nat → Int32)) (ki : (Nat → Int32)) (ow : (Nat → Int32)) (wa : (Nat → Int32)) (res : (Nat → Int32) × (Nat → Int32)) (h : fX3_forgetKinds ki ow = some res) : MM l yX3_forgetKinds wsX3_forgetKinds ({ frames := 0, cells := 0, slots := 0, locals := 0 }) g [.ref (a 0)] (wB g a ask gw gh gl top kep don vc vf bx tt pl we le ab rw ki ow wa) (wB g a ask gw gh gl top kep don vc vf bx tt pl we le ab rw res.1 res.2 wa) none := by
  refine MM.of (cc := cX3_forgetKinds) (own := RX3) 2 none (by decide +kernel) rfl (Nat.le_of_ble_eq_true rfl) rfl ?_
  intro p e s m args below meth c hx hb hr hml hown hts hlocks hK A hA ls hl hP hD hS
  have S : CallFix p m c cX3_forgetKinds 2 s args wsX3_forgetKinds RX3 := ⟨hx, hb, hml, hown, hts⟩
  have hl : lv_has ls 2 [(0, .ref (a 0))] := hl
  have f34 := hts (.fieldLink RX3 34 "LandBoard" "kinds" "[I") (by decide +kernel)
  have iX3 := (by decide +kernel : ∀ w ∈ u_ws RX3 TX3 8, w ∈ wsX3_forgetKinds)
  have f38 := hts (.fieldLink RX3 38 "LandBoard" "owns" "[I") (by decide +kernel)
  refine lv_iconst (v := 0) hx hb dX3_forgetKinds_0 (by decide) ?_
  refine lv_istore_n (lv' := [(1, .int (0 : Int32)), (0, .ref (a 0))]) hx hb dX3_forgetKinds_1 rfl hl (by decide) rfl (fun ls hl => ?_)
  obtain ⟨t2, hw2, h⟩ := gdb h
  have X2 : ∀ (H : Heap) (locs : List Loc) (ls : Array Slot), va_P g.1 vwCl (wB g a ask gw gh gl top kep don vc vf bx tt pl we le ab rw t2.1 t2.2 wa) H → va_D A (wB g a ask gw gh gl top kep don vc vf bx tt pl we le ab rw t2.1 t2.2 wa) → va_S A s.heap H locs → lv_has ls 2 [] → W p l e ({ frames := 0, cells := 0, slots := 0, locals := 0 }) s m args below meth c H locs 0 0 (MQ below (QM g none (wB g a ask gw gh gl top kep don vc vf bx tt pl we le ab rw res.1 res.2 wa) A) args s 0 0 A) (F0 m 29 ls []) := by
    intro H locs ls hP hD hS hl
    obtain rfl := Option.some.inj h
    exact retMv hx hb hr hlocks hP hD hS dX3_forgetKinds_29
  clear h
  have L2 : ∀ (n : Nat) (s2 : Int32 × (Nat → Int32) × (Nat → Int32)), wh fX3_forgetKinds_2 n s2 = some t2 → ∀ (H : Heap) (locs : List Loc) (ls : Array Slot), va_P g.1 vwCl (wB g a ask gw gh gl top kep don vc vf bx tt pl we le ab rw s2.2.1 s2.2.2 wa) H → va_D A (wB g a ask gw gh gl top kep don vc vf bx tt pl we le ab rw s2.2.1 s2.2.2 wa) → va_S A s.heap H locs → lv_has ls 2 [(0, .ref (a 0)), (1, .int s2.1)] → W p l e ({ frames := 0, cells := 0, slots := 0, locals := 0 }) s m args below meth c H locs 0 0 (MQ below (QM g none (wB g a ask gw gh gl top kep don vc vf bx tt pl we le ab rw res.1 res.2 wa) A) args s 0 0 A) (F0 m 2 ls []) := by
    intro n
    induction n with
    | zero => intro s2 hw; exact (wh_0 hw).elim
    | succ n ih2 =>
      intro s2 hw H locs ls hP hD hS hl
      obtain ⟨r0, h, hr2⟩ := wh_s hw
      refine lv_iload_n hx hb dX3_forgetKinds_2 rfl (lv_at hl 1 rfl) ?_
      refine lv_bipush (v := 6) hx hb dX3_forgetKinds_3 (by decide) ?_
      refine lv_icmp_ge (tgt := 29) hx hb dX3_forgetKinds_5 (by decide) (fun c5 => ?_) (fun c5 => ?_)
      ·
        replace h := gdp h c5
        obtain rfl := Option.some.inj h
        have e0 : (s2.2.1, s2.2.2) = t2 := hr2
        subst e0
        exact X2 _ _ _ hP hD hS (lv_sub hl [] rfl)
      ·
        replace h := gdn h c5
        refine lv_aload_n hx hb dX3_forgetKinds_8 rfl (lv_at hl 0 rfl) ?_
        refine va_get (D := g.1) (ci := 3) (v := .ref (a 13)) (C := RX3) (T := TX3) (N := 8) hx hb hts iX3 hown hK.1 hP 0 rfl rfl 4 (by decide) f34 (fun _ h9 => h9) rfl dX3_forgetKinds_9 ?_
        refine lv_iload_n hx hb dX3_forgetKinds_12 rfl (lv_at hl 1 rfl) ?_
        refine lv_iconst (v := 0) hx hb dX3_forgetKinds_13 (by decide) ?_
        obtain ⟨hi, h⟩ := gdi h
        refine va_iast (D := g.1) hx hb hK.1 hP hD hS 12 0 rfl rfl hi dX3_forgetKinds_14 (fun H locs hP hD hS => ?_)
        have hP : va_P g.1 vwCl (wB g a ask gw gh gl top kep don vc vf bx tt pl we le ab rw (upd s2.2.1 (s2.1).toNatClampNeg (0 : Int32)) s2.2.2 wa) H := hP
        have hD : va_D A (wB g a ask gw gh gl top kep don vc vf bx tt pl we le ab rw (upd s2.2.1 (s2.1).toNatClampNeg (0 : Int32)) s2.2.2 wa) := hD
        refine lv_aload_n hx hb dX3_forgetKinds_15 rfl (lv_at hl 0 rfl) ?_
        refine va_get (D := g.1) (ci := 3) (v := .ref (a 14)) (C := RX3) (T := TX3) (N := 8) hx hb hts iX3 hown hK.1 hP 0 rfl rfl 5 (by decide) f38 (fun _ h9 => h9) rfl dX3_forgetKinds_16 ?_
        refine lv_iload_n hx hb dX3_forgetKinds_19 rfl (lv_at hl 1 rfl) ?_
        refine lv_bipush (v := -9) hx hb dX3_forgetKinds_20 (by decide) ?_
        obtain ⟨hi, h⟩ := gdi h
        refine va_iast (D := g.1) hx hb hK.1 hP hD hS 13 0 rfl rfl hi dX3_forgetKinds_22 (fun H locs hP hD hS => ?_)
        have hP : va_P g.1 vwCl (wB g a ask gw gh gl top kep don vc vf bx tt pl we le ab rw (upd s2.2.1 (s2.1).toNatClampNeg (0 : Int32)) (upd s2.2.2 (s2.1).toNatClampNeg (-9 : Int32)) wa) H := hP
        have hD : va_D A (wB g a ask gw gh gl top kep don vc vf bx tt pl we le ab rw (upd s2.2.1 (s2.1).toNatClampNeg (0 : Int32)) (upd s2.2.2 (s2.1).toNatClampNeg (-9 : Int32)) wa) := hD
        refine lv_iinc (v := (s2.1 + 1)) (lv' := [(1, .int (s2.1 + 1)), (0, .ref (a 0))]) hx hb dX3_forgetKinds_23 hl (k := 1) rfl rfl (by decide) rfl (fun ls hl => ?_)
        refine lv_goto (tgt := 2) hx hb dX3_forgetKinds_26 (by decide) ?_
        obtain rfl := Option.some.inj h
        exact ih2 ((s2.1 + 1), (upd s2.2.1 (s2.1).toNatClampNeg (0 : Int32)), (upd s2.2.2 (s2.1).toNatClampNeg (-9 : Int32))) hr2 _ _ _ hP hD hS (lv_sub hl [1, 0] rfl)
  exact L2 _ ((0 : Int32), ki, ow) hw2 _ _ _ hP hD hS (lv_sub hl [1, 0] rfl)
-- LandBoard.board
set_option maxHeartbeats 4000000 in
set_option maxRecDepth 100000 in
theorem ctX3_board (l : Launch) (g : GG) (a : Nat → Nat) (x1 : Int32) (x2 : Int32) (ask : Int64) (gw : Int32) (gh : Int32) (gl : (Nat → Int64)) (top : Int32) (kep : Int32) (don : Int32) (vc : (Nat → Int32)) (vf : (Nat → Int32)) (bx : Int32) (tt : Int32) (pl : (Nat → Int32)) (we : (Nat → Int32)) (le : (Nat → Int32)) (ab : (Nat → Int32)) (rw : (Nat → Int32)) (ki : (Nat → Int32)) (ow : (Nat → Int32)) (wa : (Nat → Int32)) (res : Int32 × Int32 × Int32 × (Nat → Int64) × Int32 × (Nat → Int32) × (Nat → Int32)) (h : fX3_board x1 x2 gw gh gl kep ki ow = some res) : MM l yX3_board wsX3_board ({ frames := 1, cells := 0, slots := 0, locals := 23 }) g [.ref (a 0), .int x1, .int x2] (wB g a ask gw gh gl top kep don vc vf bx tt pl we le ab rw ki ow wa) (wB g a ask res.2.1 res.2.2.1 res.2.2.2.1 top res.2.2.2.2.1 don vc vf bx tt pl we le ab rw res.2.2.2.2.2.1 res.2.2.2.2.2.2 wa) (some (.int res.1)) := by
  refine MM.of (cc := cX3_board) (own := RX3) 3 (some .int) (by decide +kernel) rfl (Nat.le_of_ble_eq_true rfl) rfl ?_
  intro p e s m args below meth c hx hb hr hml hown hts hlocks hK A hA ls hl hP hD hS
  have S : CallFix p m c cX3_board 3 s args wsX3_board RX3 := ⟨hx, hb, hml, hown, hts⟩
  have hl : lv_has ls 3 [(0, .ref (a 0)), (1, .int x1), (2, .int x2)] := hl
  have f12 := hts (.fieldLink RX3 12 "LandBoard" "now" "LLandBoard$Grid;") (by decide +kernel)
  have iX3 := (by decide +kernel : ∀ w ∈ u_ws RX3 TX3 8, w ∈ wsX3_board)
  have f19 := hts (.fieldLink RX3 19 "LandBoard" "moves" "LLandBoard$Moves;") (by decide +kernel)
  refine lv_iload_n hx hb dX3_board_0 rfl (lv_at hl 1 rfl) ?_
  refine lv_iconst (v := 1) hx hb dX3_board_1 (by decide) ?_
  refine lv_icmp_lt (tgt := 22) hx hb dX3_board_2 (by decide) (fun c2 => ?_) (fun c2 => ?_)
  ·
    replace h := gdp h c2
    refine lv_iconst (v := -1) hx hb dX3_board_22 (by decide) ?_
    obtain rfl := Option.some.inj h
    exact retMi (v := (-1 : Int32)) hx hb hr hlocks hP hD hS dX3_board_23
  ·
    replace h := gdn h c2
    refine lv_iload_n hx hb dX3_board_5 rfl (lv_at hl 1 rfl) ?_
    refine lv_bipush (v := 8) hx hb dX3_board_6 (by decide) ?_
    refine lv_icmp_gt (tgt := 22) hx hb dX3_board_8 (by decide) (fun c8 => ?_) (fun c8 => ?_)
    ·
      replace h := gdp h c8
      refine lv_iconst (v := -1) hx hb dX3_board_22 (by decide) ?_
      obtain rfl := Option.some.inj h
      exact retMi (v := (-1 : Int32)) hx hb hr hlocks hP hD hS dX3_board_23
    ·
      replace h := gdn h c8
      refine lv_iload_n hx hb dX3_board_11 rfl (lv_at hl 2 rfl) ?_
      refine lv_iconst (v := 1) hx hb dX3_board_12 (by decide) ?_
      refine lv_icmp_lt (tgt := 22) hx hb dX3_board_13 (by decide) (fun c13 => ?_) (fun c13 => ?_)
      ·
        replace h := gdp h c13
        refine lv_iconst (v := -1) hx hb dX3_board_22 (by decide) ?_
        obtain rfl := Option.some.inj h
        exact retMi (v := (-1 : Int32)) hx hb hr hlocks hP hD hS dX3_board_23
      ·
        replace h := gdn h c13
        refine lv_iload_n hx hb dX3_board_16 rfl (lv_at hl 2 rfl) ?_
        refine lv_bipush (v := 8) hx hb dX3_board_17 (by decide) ?_
        refine lv_icmp_le (tgt := 24) hx hb dX3_board_19 (by decide) (fun c19 => ?_) (fun c19 => ?_)
        ·
          replace h := gdp h c19
          refine lv_aload_n hx hb dX3_board_24 rfl (lv_at hl 0 rfl) ?_
          refine va_get (D := g.1) (ci := 3) (v := .ref (a 1)) (C := RX3) (T := TX3) (N := 8) hx hb hts iX3 hown hK.1 hP 0 rfl rfl 0 (by decide) f12 (fun _ h9 => h9) rfl dX3_board_25 ?_
          refine lv_iload_n hx hb dX3_board_28 rfl (lv_at hl 1 rfl) ?_
          refine lv_iload_n hx hb dX3_board_29 rfl (lv_at hl 2 rfl) ?_
          obtain ⟨r30, hr30, h⟩ := gdb h
          refine kMV (As := [.int x1, .int x2]) (rest := []) (ci := 0) (W1 := (wB g a ask r30.1 r30.2.1 r30.2.2 top kep don vc vf bx tt pl we le ab rw ki ow wa)) (wr := [((a 0), .inr (3, [.ref (a 1), .ref (a 3), .ref (a 6), .ref (a 12), .ref (a 13), .ref (a 14), .ref (a 15), .long ask])), ((a 3), .inr (1, [.ref (a 4), .ref (a 5), .int top, .int kep, .int don])), ((a 4), .inl (g.2.1, 100, .inl vc)), ((a 5), .inl (g.2.1, 100, .inl vf)), ((a 6), .inr (2, [.ref (a 7), .ref (a 8), .ref (a 9), .ref (a 10), .ref (a 11), .int bx, .int tt])), ((a 7), .inl (g.2.1, 6, .inl pl)), ((a 8), .inl (g.2.1, 6, .inl we)), ((a 9), .inl (g.2.1, 6, .inl le)), ((a 10), .inl (g.2.1, 6, .inl ab)), ((a 11), .inl (g.2.1, 6, .inl rw)), ((a 13), .inl (g.2.1, 6, .inl ki)), ((a 14), .inl (g.2.1, 6, .inl ow)), ((a 15), .inl (g.2.1, 6, .inl wa))]) S (ctX0_clear l g (a 1) (a 2) x1 x2 gw gh gl r30 hr30) (cwV 2 hts gX3_board_X0_clear rfl rfl rfl (by decide +kernel) ⟨Nat.le_of_ble_eq_true rfl, Nat.le_of_ble_eq_true rfl⟩) hK hP hD hS hA [1, 2] [0, 3, 4, 5, 6, 7, 8, 9, 10, 11, 12, 13, 14] [0, 13, 14, 1, 2, 3, 4, 5, 6, 7, 8, 9, 10, 11, 12] rfl rfl rfl rfl (by decide) rfl rfl rfl rfl rfl rfl hl.1 rfl (Nat.le_of_ble_eq_true rfl) dX3_board_30 ⟨Nat.zero_le _, Nat.zero_le _⟩ (fun H locs hP hD hS => ?_)
          show W p l e ({ frames := 1, cells := 0, slots := 0, locals := 23 }) s m args below meth c H locs 0 0 (MQ below (QM g (some (.int res.1)) (wB g a ask res.2.1 res.2.2.1 res.2.2.2.1 top res.2.2.2.2.1 don vc vf bx tt pl we le ab rw res.2.2.2.2.2.1 res.2.2.2.2.2.2 wa) A) args s 0 0 A) (F0 m 33 ls [])
          refine lv_aload_n hx hb dX3_board_33 rfl (lv_at hl 0 rfl) ?_
          obtain ⟨r34, hr34, h⟩ := gdb h
          refine kMV (As := []) (rest := []) (ci := 3) (W1 := (wB g a ask r30.1 r30.2.1 r30.2.2 top kep don vc vf bx tt pl we le ab rw r34.1 r34.2 wa)) (wr := []) S (ctX3_forgetKinds l g a  ask r30.1 r30.2.1 r30.2.2 top kep don vc vf bx tt pl we le ab rw ki ow wa r34 hr34) (cwV 0 hts gX3_board_X3_forgetKinds rfl rfl rfl (by decide +kernel) ⟨Nat.le_of_ble_eq_true rfl, Nat.le_of_ble_eq_true rfl⟩) hK hP hD hS hA [0, 1, 2, 3, 4, 5, 6, 7, 8, 9, 10, 11, 12, 13, 14] [] [0, 1, 2, 3, 4, 5, 6, 7, 8, 9, 10, 11, 12, 13, 14] rfl rfl rfl rfl (by decide) rfl rfl rfl rfl rfl rfl hl.1 rfl (Nat.le_of_ble_eq_true rfl) dX3_board_34 ⟨Nat.zero_le _, Nat.zero_le _⟩ (fun H locs hP hD hS => ?_)
          show W p l e ({ frames := 1, cells := 0, slots := 0, locals := 23 }) s m args below meth c H locs 0 0 (MQ below (QM g (some (.int res.1)) (wB g a ask res.2.1 res.2.2.1 res.2.2.2.1 top res.2.2.2.2.1 don vc vf bx tt pl we le ab rw res.2.2.2.2.2.1 res.2.2.2.2.2.2 wa) A) args s 0 0 A) (F0 m 37 ls [])
          refine lv_aload_n hx hb dX3_board_37 rfl (lv_at hl 0 rfl) ?_
          refine va_get (D := g.1) (ci := 3) (v := .ref (a 3)) (C := RX3) (T := TX3) (N := 8) hx hb hts iX3 hown hK.1 hP 0 rfl rfl 1 (by decide) f19 (fun _ h9 => h9) rfl dX3_board_38 ?_
          refine kMV (As := []) (rest := []) (ci := 1) (W1 := (wB g a ask r30.1 r30.2.1 r30.2.2 top (fX1_forget kep) don vc vf bx tt pl we le ab rw r34.1 r34.2 wa)) (wr := [((a 0), .inr (3, [.ref (a 1), .ref (a 3), .ref (a 6), .ref (a 12), .ref (a 13), .ref (a 14), .ref (a 15), .long ask])), ((a 1), .inr (0, [.ref (a 2), .int r30.1, .int r30.2.1])), ((a 2), .inl (g.2.2.1, 6, .inr (.inl r30.2.2))), ((a 6), .inr (2, [.ref (a 7), .ref (a 8), .ref (a 9), .ref (a 10), .ref (a 11), .int bx, .int tt])), ((a 7), .inl (g.2.1, 6, .inl pl)), ((a 8), .inl (g.2.1, 6, .inl we)), ((a 9), .inl (g.2.1, 6, .inl le)), ((a 10), .inl (g.2.1, 6, .inl ab)), ((a 11), .inl (g.2.1, 6, .inl rw)), ((a 13), .inl (g.2.1, 6, .inl r34.1)), ((a 14), .inl (g.2.1, 6, .inl r34.2)), ((a 15), .inl (g.2.1, 6, .inl wa))]) S (ctX1_forget l g (a 3) (a 4) (a 5)  top kep don vc vf (fX1_forget kep) rfl) (cwV 0 hts gX3_board_X1_forget rfl rfl rfl (by decide +kernel) ⟨Nat.le_of_ble_eq_true rfl, Nat.le_of_ble_eq_true rfl⟩) hK hP hD hS hA [3, 4, 5] [0, 1, 2, 6, 7, 8, 9, 10, 11, 12, 13, 14] [0, 1, 2, 12, 13, 14, 3, 4, 5, 6, 7, 8, 9, 10, 11] rfl rfl rfl rfl (by decide) rfl rfl rfl rfl rfl rfl hl.1 rfl (Nat.le_of_ble_eq_true rfl) dX3_board_41 ⟨Nat.zero_le _, Nat.zero_le _⟩ (fun H locs hP hD hS => ?_)
          show W p l e ({ frames := 1, cells := 0, slots := 0, locals := 23 }) s m args below meth c H locs 0 0 (MQ below (QM g (some (.int res.1)) (wB g a ask res.2.1 res.2.2.1 res.2.2.2.1 top res.2.2.2.2.1 don vc vf bx tt pl we le ab rw res.2.2.2.2.2.1 res.2.2.2.2.2.2 wa) A) args s 0 0 A) (F0 m 44 ls [])
          refine lv_iload_n hx hb dX3_board_44 rfl (lv_at hl 1 rfl) ?_
          refine lv_iload_n hx hb dX3_board_45 rfl (lv_at hl 2 rfl) ?_
          refine lv_imul hx hb dX3_board_46 ?_
          obtain rfl := Option.some.inj h
          exact retMi hx hb hr hlocks hP hD hS dX3_board_47
        ·
          replace h := gdn h c19
          refine lv_iconst (v := -1) hx hb dX3_board_22 (by decide) ?_
          obtain rfl := Option.some.inj h
          exact retMi (v := (-1 : Int32)) hx hb hr hlocks hP hD hS dX3_board_23
-- LandBoard.set
set_option maxHeartbeats 4000000 in
set_option maxRecDepth 100000 in
theorem ctX3_set (l : Launch) (g : GG) (a : Nat → Nat) (x1 : Int32) (x2 : Int32) (x3 : Int32) (ask : Int64) (gw : Int32) (gh : Int32) (gl : (Nat → Int64)) (top : Int32) (kep : Int32) (don : Int32) (vc : (Nat → Int32)) (vf : (Nat → Int32)) (bx : Int32) (tt : Int32) (pl : (Nat → Int32)) (we : (Nat → Int32)) (le : (Nat → Int32)) (ab : (Nat → Int32)) (rw : (Nat → Int32)) (ki : (Nat → Int32)) (ow : (Nat → Int32)) (wa : (Nat → Int32)) (res : Int32 × (Nat → Int64) × Int32) (h : fX3_set x1 x2 x3 gw gh gl kep = some res) : MM l yX3_set wsX3_set ({ frames := 2, cells := 0, slots := 0, locals := 43 }) g [.ref (a 0), .int x1, .int x2, .int x3] (wB g a ask gw gh gl top kep don vc vf bx tt pl we le ab rw ki ow wa) (wB g a ask gw gh res.2.1 top res.2.2 don vc vf bx tt pl we le ab rw ki ow wa) (some (.int res.1)) := by
  refine MM.of (cc := cX3_set) (own := RX3) 5 (some .int) (by decide +kernel) rfl (Nat.le_of_ble_eq_true rfl) rfl ?_
  intro p e s m args below meth c hx hb hr hml hown hts hlocks hK A hA ls hl hP hD hS
  have S : CallFix p m c cX3_set 5 s args wsX3_set RX3 := ⟨hx, hb, hml, hown, hts⟩
  have hl : lv_has ls 5 [(0, .ref (a 0)), (1, .int x1), (2, .int x2), (3, .int x3)] := hl
  have f12 := hts (.fieldLink RX3 12 "LandBoard" "now" "LLandBoard$Grid;") (by decide +kernel)
  have iX3 := (by decide +kernel : ∀ w ∈ u_ws RX3 TX3 8, w ∈ wsX3_set)
  have f19 := hts (.fieldLink RX3 19 "LandBoard" "moves" "LLandBoard$Moves;") (by decide +kernel)
  refine lv_aload_n hx hb dX3_set_0 rfl (lv_at hl 0 rfl) ?_
  refine va_get (D := g.1) (ci := 3) (v := .ref (a 1)) (C := RX3) (T := TX3) (N := 8) hx hb hts iX3 hown hK.1 hP 0 rfl rfl 0 (by decide) f12 (fun _ h9 => h9) rfl dX3_set_1 ?_
  refine lv_iload_n hx hb dX3_set_4 rfl (lv_at hl 1 rfl) ?_
  refine lv_iload_n hx hb dX3_set_5 rfl (lv_at hl 2 rfl) ?_
  refine kPV (As := [.int x1, .int x2]) (rest := []) (ci := 0) S (ctX0_has l g (a 1) (a 2) x1 x2 gw gh gl (fX0_has x1 x2 gw gh) rfl) (cwV 2 hts gX3_set_X0_has rfl rfl rfl (by decide +kernel) ⟨Nat.le_of_ble_eq_true rfl, Nat.le_of_ble_eq_true rfl⟩) hK hP [1, 2] rfl rfl rfl rfl rfl hl.1 rfl (Nat.le_of_ble_eq_true rfl) dX3_set_6 ⟨Nat.zero_le _, Nat.zero_le _⟩ ?_
  refine lv_if_eq (tgt := 19) hx hb dX3_set_9 (by decide) (fun c9 => ?_) (fun c9 => ?_)
  ·
    replace h := gdp h c9
    refine lv_iconst (v := -1) hx hb dX3_set_19 (by decide) ?_
    obtain rfl := Option.some.inj h
    exact retMi (v := (-1 : Int32)) hx hb hr hlocks hP hD hS dX3_set_20
  ·
    replace h := gdn h c9
    refine lv_iload_n hx hb dX3_set_12 rfl (lv_at hl 3 rfl) ?_
    refine kPS (As := [.int x3]) (rest := []) S (ctX3_isLandOrSea l g x3  (fX3_isLandOrSea x3) rfl) (va_cwS 1 hts gX3_set_X3_isLandOrSea rfl rfl rfl (by decide +kernel) ⟨Nat.le_of_ble_eq_true rfl, Nat.le_of_ble_eq_true rfl⟩) hK rfl rfl hl.1 rfl (Nat.le_of_ble_eq_true rfl) dX3_set_13 ⟨Nat.zero_le _, Nat.zero_le _⟩ ?_
    refine lv_if_ne (tgt := 21) hx hb dX3_set_16 (by decide) (fun c16 => ?_) (fun c16 => ?_)
    ·
      replace h := gdn h c16
      refine lv_aload_n hx hb dX3_set_21 rfl (lv_at hl 0 rfl) ?_
      refine va_get (D := g.1) (ci := 3) (v := .ref (a 1)) (C := RX3) (T := TX3) (N := 8) hx hb hts iX3 hown hK.1 hP 0 rfl rfl 0 (by decide) f12 (fun _ h9 => h9) rfl dX3_set_22 ?_
      refine lv_iload_n hx hb dX3_set_25 rfl (lv_at hl 1 rfl) ?_
      refine lv_iload_n hx hb dX3_set_26 rfl (lv_at hl 2 rfl) ?_
      refine kPS (As := [.int x1, .int x2]) (rest := [.ref (a 1)]) S (ctX3_cellAt l g x1 x2  (fX3_cellAt x1 x2) rfl) (va_cwS 2 hts gX3_set_X3_cellAt rfl rfl rfl (by decide +kernel) ⟨Nat.le_of_ble_eq_true rfl, Nat.le_of_ble_eq_true rfl⟩) hK rfl rfl hl.1 rfl (Nat.le_of_ble_eq_true rfl) dX3_set_27 ⟨Nat.zero_le _, Nat.zero_le _⟩ ?_
      obtain ⟨r30, hr30, h⟩ := gdb h
      refine kPV (As := [.int (fX3_cellAt x1 x2)]) (rest := []) (ci := 0) S (ctX0_landOf l g (a 1) (a 2) (fX3_cellAt x1 x2) gw gh gl r30 hr30) (cwV 1 hts gX3_set_X0_landOf rfl rfl rfl (by decide +kernel) ⟨Nat.le_of_ble_eq_true rfl, Nat.le_of_ble_eq_true rfl⟩) hK hP [1, 2] rfl rfl rfl rfl rfl hl.1 rfl (Nat.le_of_ble_eq_true rfl) dX3_set_30 ⟨Nat.zero_le _, Nat.zero_le _⟩ ?_
      refine lv_istore (lv' := [(4, .int r30), (0, .ref (a 0)), (1, .int x1), (2, .int x2), (3, .int x3)]) hx hb dX3_set_33 hl (by decide) rfl (fun ls hl => ?_)
      refine lv_aload_n hx hb dX3_set_35 rfl (lv_at hl 1 rfl) ?_
      refine va_get (D := g.1) (ci := 3) (v := .ref (a 1)) (C := RX3) (T := TX3) (N := 8) hx hb hts iX3 hown hK.1 hP 0 rfl rfl 0 (by decide) f12 (fun _ h9 => h9) rfl dX3_set_36 ?_
      refine lv_iload_n hx hb dX3_set_39 rfl (lv_at hl 2 rfl) ?_
      refine lv_iload_n hx hb dX3_set_40 rfl (lv_at hl 3 rfl) ?_
      refine kPS (As := [.int x1, .int x2]) (rest := [.ref (a 1)]) S (ctX3_cellAt l g x1 x2  (fX3_cellAt x1 x2) rfl) (va_cwS 2 hts gX3_set_X3_cellAt rfl rfl rfl (by decide +kernel) ⟨Nat.le_of_ble_eq_true rfl, Nat.le_of_ble_eq_true rfl⟩) hK rfl rfl hl.1 rfl (Nat.le_of_ble_eq_true rfl) dX3_set_41 ⟨Nat.zero_le _, Nat.zero_le _⟩ ?_
      refine lv_iload_n hx hb dX3_set_44 rfl (lv_at hl 4 rfl) ?_
      obtain ⟨r45, hr45, h⟩ := gdb h
      refine kMV (As := [.int (fX3_cellAt x1 x2), .int x3]) (rest := []) (ci := 0) (W1 := (wB g a ask gw gh r45 top kep don vc vf bx tt pl we le ab rw ki ow wa)) (wr := [((a 0), .inr (3, [.ref (a 1), .ref (a 3), .ref (a 6), .ref (a 12), .ref (a 13), .ref (a 14), .ref (a 15), .long ask])), ((a 3), .inr (1, [.ref (a 4), .ref (a 5), .int top, .int kep, .int don])), ((a 4), .inl (g.2.1, 100, .inl vc)), ((a 5), .inl (g.2.1, 100, .inl vf)), ((a 6), .inr (2, [.ref (a 7), .ref (a 8), .ref (a 9), .ref (a 10), .ref (a 11), .int bx, .int tt])), ((a 7), .inl (g.2.1, 6, .inl pl)), ((a 8), .inl (g.2.1, 6, .inl we)), ((a 9), .inl (g.2.1, 6, .inl le)), ((a 10), .inl (g.2.1, 6, .inl ab)), ((a 11), .inl (g.2.1, 6, .inl rw)), ((a 13), .inl (g.2.1, 6, .inl ki)), ((a 14), .inl (g.2.1, 6, .inl ow)), ((a 15), .inl (g.2.1, 6, .inl wa))]) S (ctX0_put l g (a 1) (a 2) (fX3_cellAt x1 x2) x3 gw gh gl r45 hr45) (cwV 2 hts gX3_set_X0_put rfl rfl rfl (by decide +kernel) ⟨Nat.le_of_ble_eq_true rfl, Nat.le_of_ble_eq_true rfl⟩) hK hP hD hS hA [1, 2] [0, 3, 4, 5, 6, 7, 8, 9, 10, 11, 12, 13, 14] [0, 13, 14, 1, 2, 3, 4, 5, 6, 7, 8, 9, 10, 11, 12] rfl rfl rfl rfl (by decide) rfl rfl rfl rfl rfl rfl hl.1 rfl (Nat.le_of_ble_eq_true rfl) dX3_set_45 ⟨Nat.zero_le _, Nat.zero_le _⟩ (fun H locs hP hD hS => ?_)
      show W p l e ({ frames := 2, cells := 0, slots := 0, locals := 43 }) s m args below meth c H locs 0 0 (MQ below (QM g (some (.int res.1)) (wB g a ask gw gh res.2.1 top res.2.2 don vc vf bx tt pl we le ab rw ki ow wa) A) args s 0 0 A) (F0 m 48 ls [])
      refine lv_aload_n hx hb dX3_set_48 rfl (lv_at hl 1 rfl) ?_
      refine va_get (D := g.1) (ci := 3) (v := .ref (a 3)) (C := RX3) (T := TX3) (N := 8) hx hb hts iX3 hown hK.1 hP 0 rfl rfl 1 (by decide) f19 (fun _ h9 => h9) rfl dX3_set_49 ?_
      refine kMV (As := []) (rest := []) (ci := 1) (W1 := (wB g a ask gw gh r45 top (fX1_forget kep) don vc vf bx tt pl we le ab rw ki ow wa)) (wr := [((a 0), .inr (3, [.ref (a 1), .ref (a 3), .ref (a 6), .ref (a 12), .ref (a 13), .ref (a 14), .ref (a 15), .long ask])), ((a 1), .inr (0, [.ref (a 2), .int gw, .int gh])), ((a 2), .inl (g.2.2.1, 6, .inr (.inl r45))), ((a 6), .inr (2, [.ref (a 7), .ref (a 8), .ref (a 9), .ref (a 10), .ref (a 11), .int bx, .int tt])), ((a 7), .inl (g.2.1, 6, .inl pl)), ((a 8), .inl (g.2.1, 6, .inl we)), ((a 9), .inl (g.2.1, 6, .inl le)), ((a 10), .inl (g.2.1, 6, .inl ab)), ((a 11), .inl (g.2.1, 6, .inl rw)), ((a 13), .inl (g.2.1, 6, .inl ki)), ((a 14), .inl (g.2.1, 6, .inl ow)), ((a 15), .inl (g.2.1, 6, .inl wa))]) S (ctX1_forget l g (a 3) (a 4) (a 5)  top kep don vc vf (fX1_forget kep) rfl) (cwV 0 hts gX3_set_X1_forget rfl rfl rfl (by decide +kernel) ⟨Nat.le_of_ble_eq_true rfl, Nat.le_of_ble_eq_true rfl⟩) hK hP hD hS hA [3, 4, 5] [0, 1, 2, 6, 7, 8, 9, 10, 11, 12, 13, 14] [0, 1, 2, 12, 13, 14, 3, 4, 5, 6, 7, 8, 9, 10, 11] rfl rfl rfl rfl (by decide) rfl rfl rfl rfl rfl rfl hl.1 rfl (Nat.le_of_ble_eq_true rfl) dX3_set_52 ⟨Nat.zero_le _, Nat.zero_le _⟩ (fun H locs hP hD hS => ?_)
      show W p l e ({ frames := 2, cells := 0, slots := 0, locals := 43 }) s m args below meth c H locs 0 0 (MQ below (QM g (some (.int res.1)) (wB g a ask gw gh res.2.1 top res.2.2 don vc vf bx tt pl we le ab rw ki ow wa) A) args s 0 0 A) (F0 m 55 ls [])
      refine lv_iload hx hb dX3_set_55 (lv_at hl 0 rfl) ?_
      obtain rfl := Option.some.inj h
      exact retMi hx hb hr hlocks hP hD hS dX3_set_57
    ·
      replace h := gdp h c16
      refine lv_iconst (v := -1) hx hb dX3_set_19 (by decide) ?_
      obtain rfl := Option.some.inj h
      exact retMi (v := (-1 : Int32)) hx hb hr hlocks hP hD hS dX3_set_20
-- LandBoard.at
set_option maxHeartbeats 4000000 in
set_option maxRecDepth 100000 in
theorem ctX3_at (l : Launch) (g : GG) (a : Nat → Nat) (x1 : Int32) (x2 : Int32) (ask : Int64) (gw : Int32) (gh : Int32) (gl : (Nat → Int64)) (top : Int32) (kep : Int32) (don : Int32) (vc : (Nat → Int32)) (vf : (Nat → Int32)) (bx : Int32) (tt : Int32) (pl : (Nat → Int32)) (we : (Nat → Int32)) (le : (Nat → Int32)) (ab : (Nat → Int32)) (rw : (Nat → Int32)) (ki : (Nat → Int32)) (ow : (Nat → Int32)) (wa : (Nat → Int32)) (res : Int32) (h : fX3_at x1 x2 gw gh gl = some res) : MP l yX3_at wsX3_at ({ frames := 2, cells := 0, slots := 0, locals := 42 }) g [.ref (a 0), .int x1, .int x2] (wB g a ask gw gh gl top kep don vc vf bx tt pl we le ab rw ki ow wa) (.int res) := by
  refine MP.of (cc := cX3_at) (own := RX3) 3 (some .int) (by decide +kernel) rfl (Nat.le_of_ble_eq_true rfl) rfl ?_
  intro p e s m args below meth c hx hb hr hml hown hts hlocks hP hK ls hl
  have S : CallFix p m c cX3_at 3 s args wsX3_at RX3 := ⟨hx, hb, hml, hown, hts⟩
  have hl : lv_has ls 3 [(0, .ref (a 0)), (1, .int x1), (2, .int x2)] := hl
  have f12 := hts (.fieldLink RX3 12 "LandBoard" "now" "LLandBoard$Grid;") (by decide +kernel)
  have iX3 := (by decide +kernel : ∀ w ∈ u_ws RX3 TX3 8, w ∈ wsX3_at)
  refine lv_aload_n hx hb dX3_at_0 rfl (lv_at hl 0 rfl) ?_
  refine va_get (D := g.1) (ci := 3) (v := .ref (a 1)) (C := RX3) (T := TX3) (N := 8) hx hb hts iX3 hown hK.1 hP 0 rfl rfl 0 (by decide) f12 (fun _ h9 => h9) rfl dX3_at_1 ?_
  refine lv_iload_n hx hb dX3_at_4 rfl (lv_at hl 1 rfl) ?_
  refine lv_iload_n hx hb dX3_at_5 rfl (lv_at hl 2 rfl) ?_
  refine kPV (As := [.int x1, .int x2]) (rest := []) (ci := 0) S (ctX0_has l g (a 1) (a 2) x1 x2 gw gh gl (fX0_has x1 x2 gw gh) rfl) (cwV 2 hts gX3_at_X0_has rfl rfl rfl (by decide +kernel) ⟨Nat.le_of_ble_eq_true rfl, Nat.le_of_ble_eq_true rfl⟩) hK hP [1, 2] rfl rfl rfl rfl rfl hl.1 rfl (Nat.le_of_ble_eq_true rfl) dX3_at_6 ⟨Nat.zero_le _, Nat.zero_le _⟩ ?_
  refine lv_if_eq (tgt := 27) hx hb dX3_at_9 (by decide) (fun c9 => ?_) (fun c9 => ?_)
  ·
    replace h := gdp h c9
    refine lv_iconst (v := -1) hx hb dX3_at_27 (by decide) ?_
    obtain rfl := Option.some.inj h
    exact retPi (v := (-1 : Int32)) hx hb hr hlocks dX3_at_28
  ·
    replace h := gdn h c9
    refine lv_aload_n hx hb dX3_at_12 rfl (lv_at hl 0 rfl) ?_
    refine va_get (D := g.1) (ci := 3) (v := .ref (a 1)) (C := RX3) (T := TX3) (N := 8) hx hb hts iX3 hown hK.1 hP 0 rfl rfl 0 (by decide) f12 (fun _ h9 => h9) rfl dX3_at_13 ?_
    refine lv_iload_n hx hb dX3_at_16 rfl (lv_at hl 1 rfl) ?_
    refine lv_iload_n hx hb dX3_at_17 rfl (lv_at hl 2 rfl) ?_
    refine kPS (As := [.int x1, .int x2]) (rest := [.ref (a 1)]) S (ctX3_cellAt l g x1 x2  (fX3_cellAt x1 x2) rfl) (va_cwS 2 hts gX3_at_X3_cellAt rfl rfl rfl (by decide +kernel) ⟨Nat.le_of_ble_eq_true rfl, Nat.le_of_ble_eq_true rfl⟩) hK rfl rfl hl.1 rfl (Nat.le_of_ble_eq_true rfl) dX3_at_18 ⟨Nat.zero_le _, Nat.zero_le _⟩ ?_
    obtain ⟨r21, hr21, h⟩ := gdb h
    refine kPV (As := [.int (fX3_cellAt x1 x2)]) (rest := []) (ci := 0) S (ctX0_landOf l g (a 1) (a 2) (fX3_cellAt x1 x2) gw gh gl r21 hr21) (cwV 1 hts gX3_at_X0_landOf rfl rfl rfl (by decide +kernel) ⟨Nat.le_of_ble_eq_true rfl, Nat.le_of_ble_eq_true rfl⟩) hK hP [1, 2] rfl rfl rfl rfl rfl hl.1 rfl (Nat.le_of_ble_eq_true rfl) dX3_at_21 ⟨Nat.zero_le _, Nat.zero_le _⟩ ?_
    refine lv_goto (tgt := 28) hx hb dX3_at_24 (by decide) ?_
    obtain rfl := Option.some.inj h
    exact retPi hx hb hr hlocks dX3_at_28
-- LandBoard.size
set_option maxHeartbeats 4000000 in
set_option maxRecDepth 100000 in
theorem ctX3_size (l : Launch) (g : GG) (a : Nat → Nat) (x1 : Int32) (ask : Int64) (gw : Int32) (gh : Int32) (gl : (Nat → Int64)) (top : Int32) (kep : Int32) (don : Int32) (vc : (Nat → Int32)) (vf : (Nat → Int32)) (bx : Int32) (tt : Int32) (pl : (Nat → Int32)) (we : (Nat → Int32)) (le : (Nat → Int32)) (ab : (Nat → Int32)) (rw : (Nat → Int32)) (ki : (Nat → Int32)) (ow : (Nat → Int32)) (wa : (Nat → Int32)) (res : Int32) (h : fX3_size x1 gl = some res) : MP l yX3_size wsX3_size ({ frames := 3, cells := 0, slots := 0, locals := 62 }) g [.ref (a 0), .int x1] (wB g a ask gw gh gl top kep don vc vf bx tt pl we le ab rw ki ow wa) (.int res) := by
  refine MP.of (cc := cX3_size) (own := RX3) 2 (some .int) (by decide +kernel) rfl (Nat.le_of_ble_eq_true rfl) rfl ?_
  intro p e s m args below meth c hx hb hr hml hown hts hlocks hP hK ls hl
  have S : CallFix p m c cX3_size 2 s args wsX3_size RX3 := ⟨hx, hb, hml, hown, hts⟩
  have hl : lv_has ls 2 [(0, .ref (a 0)), (1, .int x1)] := hl
  have f12 := hts (.fieldLink RX3 12 "LandBoard" "now" "LLandBoard$Grid;") (by decide +kernel)
  have iX3 := (by decide +kernel : ∀ w ∈ u_ws RX3 TX3 8, w ∈ wsX3_size)
  refine lv_iload_n hx hb dX3_size_0 rfl (lv_at hl 1 rfl) ?_
  refine kPS (As := [.int x1]) (rest := []) S (ctX3_isLand l g x1  (fX3_isLand x1) rfl) (va_cwS 1 hts gX3_size_X3_isLand rfl rfl rfl (by decide +kernel) ⟨Nat.le_of_ble_eq_true rfl, Nat.le_of_ble_eq_true rfl⟩) hK rfl rfl hl.1 rfl (Nat.le_of_ble_eq_true rfl) dX3_size_1 ⟨Nat.zero_le _, Nat.zero_le _⟩ ?_
  refine lv_if_eq (tgt := 18) hx hb dX3_size_4 (by decide) (fun c4 => ?_) (fun c4 => ?_)
  ·
    replace h := gdp h c4
    refine lv_iconst (v := -1) hx hb dX3_size_18 (by decide) ?_
    obtain rfl := Option.some.inj h
    exact retPi (v := (-1 : Int32)) hx hb hr hlocks dX3_size_19
  ·
    replace h := gdn h c4
    refine lv_aload_n hx hb dX3_size_7 rfl (lv_at hl 0 rfl) ?_
    refine va_get (D := g.1) (ci := 3) (v := .ref (a 1)) (C := RX3) (T := TX3) (N := 8) hx hb hts iX3 hown hK.1 hP 0 rfl rfl 0 (by decide) f12 (fun _ h9 => h9) rfl dX3_size_8 ?_
    refine lv_iload_n hx hb dX3_size_11 rfl (lv_at hl 1 rfl) ?_
    obtain ⟨r12, hr12, h⟩ := gdb h
    refine kPV (As := [.int x1]) (rest := []) (ci := 0) S (ctX0_sizeOf l g (a 1) (a 2) x1 gw gh gl r12 hr12) (cwV 1 hts gX3_size_X0_sizeOf rfl rfl rfl (by decide +kernel) ⟨Nat.le_of_ble_eq_true rfl, Nat.le_of_ble_eq_true rfl⟩) hK hP [1, 2] rfl rfl rfl rfl rfl hl.1 rfl (Nat.le_of_ble_eq_true rfl) dX3_size_12 ⟨Nat.zero_le _, Nat.zero_le _⟩ ?_
    refine lv_goto (tgt := 19) hx hb dX3_size_15 (by decide) ?_
    obtain rfl := Option.some.inj h
    exact retPi hx hb hr hlocks dX3_size_19
-- LandBoard.whole
set_option maxHeartbeats 4000000 in
set_option maxRecDepth 100000 in
theorem ctX3_whole (l : Launch) (g : GG) (a : Nat → Nat) (x1 : Int32) (ask : Int64) (gw : Int32) (gh : Int32) (gl : (Nat → Int64)) (top : Int32) (kep : Int32) (don : Int32) (vc : (Nat → Int32)) (vf : (Nat → Int32)) (bx : Int32) (tt : Int32) (pl : (Nat → Int32)) (we : (Nat → Int32)) (le : (Nat → Int32)) (ab : (Nat → Int32)) (rw : (Nat → Int32)) (ki : (Nat → Int32)) (ow : (Nat → Int32)) (wa : (Nat → Int32)) (res : Int32) (h : fX3_whole x1 gl = some res) : MP l yX3_whole wsX3_whole ({ frames := 3, cells := 0, slots := 0, locals := 68 }) g [.ref (a 0), .int x1] (wB g a ask gw gh gl top kep don vc vf bx tt pl we le ab rw ki ow wa) (.int res) := by
  refine MP.of (cc := cX3_whole) (own := RX3) 2 (some .int) (by decide +kernel) rfl (Nat.le_of_ble_eq_true rfl) rfl ?_
  intro p e s m args below meth c hx hb hr hml hown hts hlocks hP hK ls hl
  have S : CallFix p m c cX3_whole 2 s args wsX3_whole RX3 := ⟨hx, hb, hml, hown, hts⟩
  have hl : lv_has ls 2 [(0, .ref (a 0)), (1, .int x1)] := hl
  have f12 := hts (.fieldLink RX3 12 "LandBoard" "now" "LLandBoard$Grid;") (by decide +kernel)
  have iX3 := (by decide +kernel : ∀ w ∈ u_ws RX3 TX3 8, w ∈ wsX3_whole)
  refine lv_iload_n hx hb dX3_whole_0 rfl (lv_at hl 1 rfl) ?_
  refine kPS (As := [.int x1]) (rest := []) S (ctX3_isLand l g x1  (fX3_isLand x1) rfl) (va_cwS 1 hts gX3_whole_X3_isLand rfl rfl rfl (by decide +kernel) ⟨Nat.le_of_ble_eq_true rfl, Nat.le_of_ble_eq_true rfl⟩) hK rfl rfl hl.1 rfl (Nat.le_of_ble_eq_true rfl) dX3_whole_1 ⟨Nat.zero_le _, Nat.zero_le _⟩ ?_
  refine lv_if_eq (tgt := 24) hx hb dX3_whole_4 (by decide) (fun c4 => ?_) (fun c4 => ?_)
  ·
    replace h := gdp h c4
    refine lv_iconst (v := -1) hx hb dX3_whole_24 (by decide) ?_
    obtain rfl := Option.some.inj h
    exact retPi (v := (-1 : Int32)) hx hb hr hlocks dX3_whole_25
  ·
    replace h := gdn h c4
    refine lv_aload_n hx hb dX3_whole_7 rfl (lv_at hl 0 rfl) ?_
    refine va_get (D := g.1) (ci := 3) (v := .ref (a 1)) (C := RX3) (T := TX3) (N := 8) hx hb hts iX3 hown hK.1 hP 0 rfl rfl 0 (by decide) f12 (fun _ h9 => h9) rfl dX3_whole_8 ?_
    refine lv_iload_n hx hb dX3_whole_11 rfl (lv_at hl 1 rfl) ?_
    obtain ⟨r12, hr12, h⟩ := gdb h
    refine kPV (As := [.int x1]) (rest := []) (ci := 0) S (ctX0_cellsOf l g (a 1) (a 2) x1 gw gh gl r12 hr12) (cwV 1 hts gX3_whole_X0_cellsOf rfl rfl rfl (by decide +kernel) ⟨Nat.le_of_ble_eq_true rfl, Nat.le_of_ble_eq_true rfl⟩) hK hP [1, 2] rfl rfl rfl rfl rfl hl.1 rfl (Nat.le_of_ble_eq_true rfl) dX3_whole_12 ⟨Nat.zero_le _, Nat.zero_le _⟩ ?_
    obtain ⟨r15, hr15, h⟩ := gdb h
    refine kPS (As := [.long r12]) (rest := []) S (ctX3_isWhole l g r12  r15 hr15) (va_cwS 1 hts gX3_whole_X3_isWhole rfl rfl rfl (by decide +kernel) ⟨Nat.le_of_ble_eq_true rfl, Nat.le_of_ble_eq_true rfl⟩) hK rfl rfl hl.1 rfl (Nat.le_of_ble_eq_true rfl) dX3_whole_15 ⟨Nat.zero_le _, Nat.zero_le _⟩ ?_
    refine kPS (As := [.int r15]) (rest := []) S (ctX3_answer l g r15  (fX3_answer r15) rfl) (va_cwS 1 hts gX3_whole_X3_answer rfl rfl rfl (by decide +kernel) ⟨Nat.le_of_ble_eq_true rfl, Nat.le_of_ble_eq_true rfl⟩) hK rfl rfl hl.1 rfl (Nat.le_of_ble_eq_true rfl) dX3_whole_18 ⟨Nat.zero_le _, Nat.zero_le _⟩ ?_
    refine lv_goto (tgt := 25) hx hb dX3_whole_21 (by decide) ?_
    obtain rfl := Option.some.inj h
    exact retPi hx hb hr hlocks dX3_whole_25
-- LandBoard.touch
set_option maxHeartbeats 4000000 in
set_option maxRecDepth 100000 in
theorem ctX3_touch (l : Launch) (g : GG) (a : Nat → Nat) (x1 : Int32) (x2 : Int32) (ask : Int64) (gw : Int32) (gh : Int32) (gl : (Nat → Int64)) (top : Int32) (kep : Int32) (don : Int32) (vc : (Nat → Int32)) (vf : (Nat → Int32)) (bx : Int32) (tt : Int32) (pl : (Nat → Int32)) (we : (Nat → Int32)) (le : (Nat → Int32)) (ab : (Nat → Int32)) (rw : (Nat → Int32)) (ki : (Nat → Int32)) (ow : (Nat → Int32)) (wa : (Nat → Int32)) (res : Int32) (h : fX3_touch x1 x2 gl = some res) : MP l yX3_touch wsX3_touch ({ frames := 3, cells := 0, slots := 0, locals := 64 }) g [.ref (a 0), .int x1, .int x2] (wB g a ask gw gh gl top kep don vc vf bx tt pl we le ab rw ki ow wa) (.int res) := by
  refine MP.of (cc := cX3_touch) (own := RX3) 3 (some .int) (by decide +kernel) rfl (Nat.le_of_ble_eq_true rfl) rfl ?_
  intro p e s m args below meth c hx hb hr hml hown hts hlocks hP hK ls hl
  have S : CallFix p m c cX3_touch 3 s args wsX3_touch RX3 := ⟨hx, hb, hml, hown, hts⟩
  have hl : lv_has ls 3 [(0, .ref (a 0)), (1, .int x1), (2, .int x2)] := hl
  have f12 := hts (.fieldLink RX3 12 "LandBoard" "now" "LLandBoard$Grid;") (by decide +kernel)
  have iX3 := (by decide +kernel : ∀ w ∈ u_ws RX3 TX3 8, w ∈ wsX3_touch)
  refine lv_iload_n hx hb dX3_touch_0 rfl (lv_at hl 1 rfl) ?_
  refine kPS (As := [.int x1]) (rest := []) S (ctX3_isLandOrSea l g x1  (fX3_isLandOrSea x1) rfl) (va_cwS 1 hts gX3_touch_X3_isLandOrSea rfl rfl rfl (by decide +kernel) ⟨Nat.le_of_ble_eq_true rfl, Nat.le_of_ble_eq_true rfl⟩) hK rfl rfl hl.1 rfl (Nat.le_of_ble_eq_true rfl) dX3_touch_1 ⟨Nat.zero_le _, Nat.zero_le _⟩ ?_
  refine lv_if_eq (tgt := 19) hx hb dX3_touch_4 (by decide) (fun c4 => ?_) (fun c4 => ?_)
  ·
    replace h := gdp h c4
    refine lv_iconst (v := -1) hx hb dX3_touch_19 (by decide) ?_
    obtain rfl := Option.some.inj h
    exact retPi (v := (-1 : Int32)) hx hb hr hlocks dX3_touch_20
  ·
    replace h := gdn h c4
    refine lv_iload_n hx hb dX3_touch_7 rfl (lv_at hl 2 rfl) ?_
    refine kPS (As := [.int x2]) (rest := []) S (ctX3_isLandOrSea l g x2  (fX3_isLandOrSea x2) rfl) (va_cwS 1 hts gX3_touch_X3_isLandOrSea rfl rfl rfl (by decide +kernel) ⟨Nat.le_of_ble_eq_true rfl, Nat.le_of_ble_eq_true rfl⟩) hK rfl rfl hl.1 rfl (Nat.le_of_ble_eq_true rfl) dX3_touch_8 ⟨Nat.zero_le _, Nat.zero_le _⟩ ?_
    refine lv_if_eq (tgt := 19) hx hb dX3_touch_11 (by decide) (fun c11 => ?_) (fun c11 => ?_)
    ·
      replace h := gdp h c11
      refine lv_iconst (v := -1) hx hb dX3_touch_19 (by decide) ?_
      obtain rfl := Option.some.inj h
      exact retPi (v := (-1 : Int32)) hx hb hr hlocks dX3_touch_20
    ·
      replace h := gdn h c11
      refine lv_iload_n hx hb dX3_touch_14 rfl (lv_at hl 1 rfl) ?_
      refine lv_iload_n hx hb dX3_touch_15 rfl (lv_at hl 2 rfl) ?_
      refine lv_icmp_ne (tgt := 21) hx hb dX3_touch_16 (by decide) (fun c16 => ?_) (fun c16 => ?_)
      ·
        replace h := gdn h c16
        refine lv_iload_n hx hb dX3_touch_21 rfl (lv_at hl 1 rfl) ?_
        refine lv_bipush (v := -4) hx hb dX3_touch_22 (by decide) ?_
        refine lv_icmp_ne (tgt := 46) hx hb dX3_touch_24 (by decide) (fun c24 => ?_) (fun c24 => ?_)
        ·
          replace h := gdn h c24
          refine lv_iload_n hx hb dX3_touch_46 rfl (lv_at hl 2 rfl) ?_
          refine lv_bipush (v := -4) hx hb dX3_touch_47 (by decide) ?_
          refine lv_icmp_ne (tgt := 71) hx hb dX3_touch_49 (by decide) (fun c49 => ?_) (fun c49 => ?_)
          ·
            replace h := gdn h c49
            refine lv_aload_n hx hb dX3_touch_71 rfl (lv_at hl 0 rfl) ?_
            refine va_get (D := g.1) (ci := 3) (v := .ref (a 1)) (C := RX3) (T := TX3) (N := 8) hx hb hts iX3 hown hK.1 hP 0 rfl rfl 0 (by decide) f12 (fun _ h9 => h9) rfl dX3_touch_72 ?_
            refine lv_iload_n hx hb dX3_touch_75 rfl (lv_at hl 1 rfl) ?_
            obtain ⟨r76, hr76, h⟩ := gdb h
            refine kPV (As := [.int x1]) (rest := []) (ci := 0) S (ctX0_cellsOf l g (a 1) (a 2) x1 gw gh gl r76 hr76) (cwV 1 hts gX3_touch_X0_cellsOf rfl rfl rfl (by decide +kernel) ⟨Nat.le_of_ble_eq_true rfl, Nat.le_of_ble_eq_true rfl⟩) hK hP [1, 2] rfl rfl rfl rfl rfl hl.1 rfl (Nat.le_of_ble_eq_true rfl) dX3_touch_76 ⟨Nat.zero_le _, Nat.zero_le _⟩ ?_
            refine kPS (As := [.long r76]) (rest := []) S (ctX3_around l g r76  (fX3_around r76) rfl) (va_cwS 1 hts gX3_touch_X3_around rfl rfl rfl (by decide +kernel) ⟨Nat.le_of_ble_eq_true rfl, Nat.le_of_ble_eq_true rfl⟩) hK rfl rfl hl.1 rfl (Nat.le_of_ble_eq_true rfl) dX3_touch_79 ⟨Nat.zero_le _, Nat.zero_le _⟩ ?_
            refine lv_aload_n hx hb dX3_touch_82 rfl (lv_at hl 0 rfl) ?_
            refine va_get (D := g.1) (ci := 3) (v := .ref (a 1)) (C := RX3) (T := TX3) (N := 8) hx hb hts iX3 hown hK.1 hP 0 rfl rfl 0 (by decide) f12 (fun _ h9 => h9) rfl dX3_touch_83 ?_
            refine lv_iload_n hx hb dX3_touch_86 rfl (lv_at hl 2 rfl) ?_
            obtain ⟨r87, hr87, h⟩ := gdb h
            refine kPV (As := [.int x2]) (rest := [.long (fX3_around r76)]) (ci := 0) S (ctX0_cellsOf l g (a 1) (a 2) x2 gw gh gl r87 hr87) (cwV 1 hts gX3_touch_X0_cellsOf rfl rfl rfl (by decide +kernel) ⟨Nat.le_of_ble_eq_true rfl, Nat.le_of_ble_eq_true rfl⟩) hK hP [1, 2] rfl rfl rfl rfl rfl hl.1 rfl (Nat.le_of_ble_eq_true rfl) dX3_touch_87 ⟨Nat.zero_le _, Nat.zero_le _⟩ ?_
            refine lv_land hx hb dX3_touch_90 ?_
            refine lv_lconst (v := 0) hx hb dX3_touch_91 (by decide) ?_
            refine W.lcmp hx hb dX3_touch_92 ?_
            refine lv_if_eq (tgt := 100) hx hb dX3_touch_93 (by decide) (fun c93 => ?_) (fun c93 => ?_)
            ·
              replace h := gdp h c93
              refine lv_iconst (v := 0) hx hb dX3_touch_100 (by decide) ?_
              refine kPS (As := [.int (0 : Int32)]) (rest := []) S (ctX3_answer l g (0 : Int32)  (fX3_answer (0 : Int32)) rfl) (va_cwS 1 hts gX3_touch_X3_answer rfl rfl rfl (by decide +kernel) ⟨Nat.le_of_ble_eq_true rfl, Nat.le_of_ble_eq_true rfl⟩) hK rfl rfl hl.1 rfl (Nat.le_of_ble_eq_true rfl) dX3_touch_101 ⟨Nat.zero_le _, Nat.zero_le _⟩ ?_
              obtain rfl := Option.some.inj h
              exact retPi hx hb hr hlocks dX3_touch_104
            ·
              replace h := gdn h c93
              refine lv_iconst (v := 1) hx hb dX3_touch_96 (by decide) ?_
              refine lv_goto (tgt := 101) hx hb dX3_touch_97 (by decide) ?_
              refine kPS (As := [.int (1 : Int32)]) (rest := []) S (ctX3_answer l g (1 : Int32)  (fX3_answer (1 : Int32)) rfl) (va_cwS 1 hts gX3_touch_X3_answer rfl rfl rfl (by decide +kernel) ⟨Nat.le_of_ble_eq_true rfl, Nat.le_of_ble_eq_true rfl⟩) hK rfl rfl hl.1 rfl (Nat.le_of_ble_eq_true rfl) dX3_touch_101 ⟨Nat.zero_le _, Nat.zero_le _⟩ ?_
              obtain rfl := Option.some.inj h
              exact retPi hx hb hr hlocks dX3_touch_104
          ·
            replace h := gdp h c49
            refine lv_aload_n hx hb dX3_touch_52 rfl (lv_at hl 0 rfl) ?_
            refine va_get (D := g.1) (ci := 3) (v := .ref (a 1)) (C := RX3) (T := TX3) (N := 8) hx hb hts iX3 hown hK.1 hP 0 rfl rfl 0 (by decide) f12 (fun _ h9 => h9) rfl dX3_touch_53 ?_
            refine lv_aload_n hx hb dX3_touch_56 rfl (lv_at hl 0 rfl) ?_
            refine va_get (D := g.1) (ci := 3) (v := .ref (a 1)) (C := RX3) (T := TX3) (N := 8) hx hb hts iX3 hown hK.1 hP 0 rfl rfl 0 (by decide) f12 (fun _ h9 => h9) rfl dX3_touch_57 ?_
            refine lv_iload_n hx hb dX3_touch_60 rfl (lv_at hl 1 rfl) ?_
            obtain ⟨r61, hr61, h⟩ := gdb h
            refine kPV (As := [.int x1]) (rest := [.ref (a 1)]) (ci := 0) S (ctX0_cellsOf l g (a 1) (a 2) x1 gw gh gl r61 hr61) (cwV 1 hts gX3_touch_X0_cellsOf rfl rfl rfl (by decide +kernel) ⟨Nat.le_of_ble_eq_true rfl, Nat.le_of_ble_eq_true rfl⟩) hK hP [1, 2] rfl rfl rfl rfl rfl hl.1 rfl (Nat.le_of_ble_eq_true rfl) dX3_touch_61 ⟨Nat.zero_le _, Nat.zero_le _⟩ ?_
            obtain ⟨r64, hr64, h⟩ := gdb h
            refine kPV (As := [.long r61]) (rest := []) (ci := 0) S (ctX0_isAtSea l g (a 1) (a 2) r61 gw gh gl r64 hr64) (cwV 1 hts gX3_touch_X0_isAtSea rfl rfl rfl (by decide +kernel) ⟨Nat.le_of_ble_eq_true rfl, Nat.le_of_ble_eq_true rfl⟩) hK hP [1, 2] rfl rfl rfl rfl rfl hl.1 rfl (Nat.le_of_ble_eq_true rfl) dX3_touch_64 ⟨Nat.zero_le _, Nat.zero_le _⟩ ?_
            refine kPS (As := [.int r64]) (rest := []) S (ctX3_answer l g r64  (fX3_answer r64) rfl) (va_cwS 1 hts gX3_touch_X3_answer rfl rfl rfl (by decide +kernel) ⟨Nat.le_of_ble_eq_true rfl, Nat.le_of_ble_eq_true rfl⟩) hK rfl rfl hl.1 rfl (Nat.le_of_ble_eq_true rfl) dX3_touch_67 ⟨Nat.zero_le _, Nat.zero_le _⟩ ?_
            obtain rfl := Option.some.inj h
            exact retPi hx hb hr hlocks dX3_touch_70
        ·
          replace h := gdp h c24
          refine lv_aload_n hx hb dX3_touch_27 rfl (lv_at hl 0 rfl) ?_
          refine va_get (D := g.1) (ci := 3) (v := .ref (a 1)) (C := RX3) (T := TX3) (N := 8) hx hb hts iX3 hown hK.1 hP 0 rfl rfl 0 (by decide) f12 (fun _ h9 => h9) rfl dX3_touch_28 ?_
          refine lv_aload_n hx hb dX3_touch_31 rfl (lv_at hl 0 rfl) ?_
          refine va_get (D := g.1) (ci := 3) (v := .ref (a 1)) (C := RX3) (T := TX3) (N := 8) hx hb hts iX3 hown hK.1 hP 0 rfl rfl 0 (by decide) f12 (fun _ h9 => h9) rfl dX3_touch_32 ?_
          refine lv_iload_n hx hb dX3_touch_35 rfl (lv_at hl 2 rfl) ?_
          obtain ⟨r36, hr36, h⟩ := gdb h
          refine kPV (As := [.int x2]) (rest := [.ref (a 1)]) (ci := 0) S (ctX0_cellsOf l g (a 1) (a 2) x2 gw gh gl r36 hr36) (cwV 1 hts gX3_touch_X0_cellsOf rfl rfl rfl (by decide +kernel) ⟨Nat.le_of_ble_eq_true rfl, Nat.le_of_ble_eq_true rfl⟩) hK hP [1, 2] rfl rfl rfl rfl rfl hl.1 rfl (Nat.le_of_ble_eq_true rfl) dX3_touch_36 ⟨Nat.zero_le _, Nat.zero_le _⟩ ?_
          obtain ⟨r39, hr39, h⟩ := gdb h
          refine kPV (As := [.long r36]) (rest := []) (ci := 0) S (ctX0_isAtSea l g (a 1) (a 2) r36 gw gh gl r39 hr39) (cwV 1 hts gX3_touch_X0_isAtSea rfl rfl rfl (by decide +kernel) ⟨Nat.le_of_ble_eq_true rfl, Nat.le_of_ble_eq_true rfl⟩) hK hP [1, 2] rfl rfl rfl rfl rfl hl.1 rfl (Nat.le_of_ble_eq_true rfl) dX3_touch_39 ⟨Nat.zero_le _, Nat.zero_le _⟩ ?_
          refine kPS (As := [.int r39]) (rest := []) S (ctX3_answer l g r39  (fX3_answer r39) rfl) (va_cwS 1 hts gX3_touch_X3_answer rfl rfl rfl (by decide +kernel) ⟨Nat.le_of_ble_eq_true rfl, Nat.le_of_ble_eq_true rfl⟩) hK rfl rfl hl.1 rfl (Nat.le_of_ble_eq_true rfl) dX3_touch_42 ⟨Nat.zero_le _, Nat.zero_le _⟩ ?_
          obtain rfl := Option.some.inj h
          exact retPi hx hb hr hlocks dX3_touch_45
      ·
        replace h := gdp h c16
        refine lv_iconst (v := -1) hx hb dX3_touch_19 (by decide) ?_
        obtain rfl := Option.some.inj h
        exact retPi (v := (-1 : Int32)) hx hb hr hlocks dX3_touch_20
-- LandBoard.kind
set_option maxHeartbeats 4000000 in
set_option maxRecDepth 100000 in
theorem ctX3_kind (l : Launch) (g : GG) (a : Nat → Nat) (x1 : Int32) (x2 : Int32) (x3 : Int32) (x4 : Int32) (ask : Int64) (gw : Int32) (gh : Int32) (gl : (Nat → Int64)) (top : Int32) (kep : Int32) (don : Int32) (vc : (Nat → Int32)) (vf : (Nat → Int32)) (bx : Int32) (tt : Int32) (pl : (Nat → Int32)) (we : (Nat → Int32)) (le : (Nat → Int32)) (ab : (Nat → Int32)) (rw : (Nat → Int32)) (ki : (Nat → Int32)) (ow : (Nat → Int32)) (wa : (Nat → Int32)) (res : Int32 × (Nat → Int32) × (Nat → Int32)) (h : fX3_kind x1 x2 x3 x4 gw gh gl ki ow = some res) : MM l yX3_kind wsX3_kind ({ frames := 2, cells := 0, slots := 0, locals := 42 }) g [.ref (a 0), .int x1, .int x2, .int x3, .int x4] (wB g a ask gw gh gl top kep don vc vf bx tt pl we le ab rw ki ow wa) (wB g a ask gw gh gl top kep don vc vf bx tt pl we le ab rw res.2.1 res.2.2 wa) (some (.int res.1)) := by
  refine MM.of (cc := cX3_kind) (own := RX3) 5 (some .int) (by decide +kernel) rfl (Nat.le_of_ble_eq_true rfl) rfl ?_
  intro p e s m args below meth c hx hb hr hml hown hts hlocks hK A hA ls hl hP hD hS
  have S : CallFix p m c cX3_kind 5 s args wsX3_kind RX3 := ⟨hx, hb, hml, hown, hts⟩
  have hl : lv_has ls 5 [(0, .ref (a 0)), (1, .int x1), (2, .int x2), (3, .int x3), (4, .int x4)] := hl
  have f34 := hts (.fieldLink RX3 34 "LandBoard" "kinds" "[I") (by decide +kernel)
  have iX3 := (by decide +kernel : ∀ w ∈ u_ws RX3 TX3 8, w ∈ wsX3_kind)
  have f38 := hts (.fieldLink RX3 38 "LandBoard" "owns" "[I") (by decide +kernel)
  have f12 := hts (.fieldLink RX3 12 "LandBoard" "now" "LLandBoard$Grid;") (by decide +kernel)
  refine lv_iload_n hx hb dX3_kind_0 rfl (lv_at hl 1 rfl) ?_
  refine kPS (As := [.int x1]) (rest := []) S (ctX3_isLand l g x1  (fX3_isLand x1) rfl) (va_cwS 1 hts gX3_kind_X3_isLand rfl rfl rfl (by decide +kernel) ⟨Nat.le_of_ble_eq_true rfl, Nat.le_of_ble_eq_true rfl⟩) hK rfl rfl hl.1 rfl (Nat.le_of_ble_eq_true rfl) dX3_kind_1 ⟨Nat.zero_le _, Nat.zero_le _⟩ ?_
  refine lv_if_eq (tgt := 33) hx hb dX3_kind_4 (by decide) (fun c4 => ?_) (fun c4 => ?_)
  ·
    replace h := gdp h c4
    refine lv_iconst (v := -1) hx hb dX3_kind_33 (by decide) ?_
    obtain rfl := Option.some.inj h
    exact retMi (v := (-1 : Int32)) hx hb hr hlocks hP hD hS dX3_kind_34
  ·
    replace h := gdn h c4
    refine lv_iload_n hx hb dX3_kind_7 rfl (lv_at hl 2 rfl) ?_
    refine lv_if_lt (tgt := 33) hx hb dX3_kind_8 (by decide) (fun c8 => ?_) (fun c8 => ?_)
    ·
      replace h := gdp h c8
      refine lv_iconst (v := -1) hx hb dX3_kind_33 (by decide) ?_
      obtain rfl := Option.some.inj h
      exact retMi (v := (-1 : Int32)) hx hb hr hlocks hP hD hS dX3_kind_34
    ·
      replace h := gdn h c8
      refine lv_iload_n hx hb dX3_kind_11 rfl (lv_at hl 2 rfl) ?_
      refine lv_iconst (v := 2) hx hb dX3_kind_12 (by decide) ?_
      refine lv_icmp_gt (tgt := 33) hx hb dX3_kind_13 (by decide) (fun c13 => ?_) (fun c13 => ?_)
      ·
        replace h := gdp h c13
        refine lv_iconst (v := -1) hx hb dX3_kind_33 (by decide) ?_
        obtain rfl := Option.some.inj h
        exact retMi (v := (-1 : Int32)) hx hb hr hlocks hP hD hS dX3_kind_34
      ·
        replace h := gdn h c13
        refine lv_iload_n hx hb dX3_kind_16 rfl (lv_at hl 2 rfl) ?_
        refine lv_if_eq (tgt := 35) hx hb dX3_kind_17 (by decide) (fun c17 => ?_) (fun c17 => ?_)
        ·
          replace h := gdp h c17
          refine lv_iload_n hx hb dX3_kind_35 rfl (lv_at hl 2 rfl) ?_
          refine lv_if_eq (tgt := 59) hx hb dX3_kind_36 (by decide) (fun c36 => ?_) (fun c36 => ?_)
          ·
            replace h := gdp h c36
            refine lv_aload_n hx hb dX3_kind_59 rfl (lv_at hl 0 rfl) ?_
            refine va_get (D := g.1) (ci := 3) (v := .ref (a 13)) (C := RX3) (T := TX3) (N := 8) hx hb hts iX3 hown hK.1 hP 0 rfl rfl 4 (by decide) f34 (fun _ h9 => h9) rfl dX3_kind_60 ?_
            refine lv_iload_n hx hb dX3_kind_63 rfl (lv_at hl 1 rfl) ?_
            refine lv_iload_n hx hb dX3_kind_64 rfl (lv_at hl 2 rfl) ?_
            obtain ⟨hi, h⟩ := gdi h
            refine va_iast (D := g.1) hx hb hK.1 hP hD hS 12 0 rfl rfl hi dX3_kind_65 (fun H locs hP hD hS => ?_)
            have hP : va_P g.1 vwCl (wB g a ask gw gh gl top kep don vc vf bx tt pl we le ab rw (upd ki (x1).toNatClampNeg x2) ow wa) H := hP
            have hD : va_D A (wB g a ask gw gh gl top kep don vc vf bx tt pl we le ab rw (upd ki (x1).toNatClampNeg x2) ow wa) := hD
            refine lv_aload_n hx hb dX3_kind_66 rfl (lv_at hl 0 rfl) ?_
            refine va_get (D := g.1) (ci := 3) (v := .ref (a 14)) (C := RX3) (T := TX3) (N := 8) hx hb hts iX3 hown hK.1 hP 0 rfl rfl 5 (by decide) f38 (fun _ h9 => h9) rfl dX3_kind_67 ?_
            refine lv_iload_n hx hb dX3_kind_70 rfl (lv_at hl 1 rfl) ?_
            refine lv_iload_n hx hb dX3_kind_71 rfl (lv_at hl 2 rfl) ?_
            refine lv_if_ne (tgt := 80) hx hb dX3_kind_72 (by decide) (fun c72 => ?_) (fun c72 => ?_)
            ·
              replace h := gdn h c72
              refine lv_iload_n hx hb dX3_kind_80 rfl (lv_at hl 3 rfl) ?_
              refine lv_iload hx hb dX3_kind_81 (lv_at hl 4 rfl) ?_
              refine kPS (As := [.int x3, .int x4]) (rest := [.int x1, .ref (a 14)]) S (ctX3_cellAt l g x3 x4  (fX3_cellAt x3 x4) rfl) (va_cwS 2 hts gX3_kind_X3_cellAt rfl rfl rfl (by decide +kernel) ⟨Nat.le_of_ble_eq_true rfl, Nat.le_of_ble_eq_true rfl⟩) hK rfl rfl hl.1 rfl (Nat.le_of_ble_eq_true rfl) dX3_kind_83 ⟨Nat.zero_le _, Nat.zero_le _⟩ ?_
              obtain ⟨hi, h⟩ := gdi h
              refine va_iast (D := g.1) hx hb hK.1 hP hD hS 13 0 rfl rfl hi dX3_kind_86 (fun H locs hP hD hS => ?_)
              have hP : va_P g.1 vwCl (wB g a ask gw gh gl top kep don vc vf bx tt pl we le ab rw (upd ki (x1).toNatClampNeg x2) (upd ow (x1).toNatClampNeg (fX3_cellAt x3 x4)) wa) H := hP
              have hD : va_D A (wB g a ask gw gh gl top kep don vc vf bx tt pl we le ab rw (upd ki (x1).toNatClampNeg x2) (upd ow (x1).toNatClampNeg (fX3_cellAt x3 x4)) wa) := hD
              refine lv_iconst (v := 1) hx hb dX3_kind_87 (by decide) ?_
              obtain rfl := Option.some.inj h
              exact retMi (v := (1 : Int32)) hx hb hr hlocks hP hD hS dX3_kind_88
            ·
              replace h := gdp h c72
              refine lv_bipush (v := -9) hx hb dX3_kind_75 (by decide) ?_
              refine lv_goto (tgt := 86) hx hb dX3_kind_77 (by decide) ?_
              obtain ⟨hi, h⟩ := gdi h
              refine va_iast (D := g.1) hx hb hK.1 hP hD hS 13 0 rfl rfl hi dX3_kind_86 (fun H locs hP hD hS => ?_)
              have hP : va_P g.1 vwCl (wB g a ask gw gh gl top kep don vc vf bx tt pl we le ab rw (upd ki (x1).toNatClampNeg x2) (upd ow (x1).toNatClampNeg (-9 : Int32)) wa) H := hP
              have hD : va_D A (wB g a ask gw gh gl top kep don vc vf bx tt pl we le ab rw (upd ki (x1).toNatClampNeg x2) (upd ow (x1).toNatClampNeg (-9 : Int32)) wa) := hD
              refine lv_iconst (v := 1) hx hb dX3_kind_87 (by decide) ?_
              obtain rfl := Option.some.inj h
              exact retMi (v := (1 : Int32)) hx hb hr hlocks hP hD hS dX3_kind_88
          ·
            replace h := gdn h c36
            refine lv_aload_n hx hb dX3_kind_39 rfl (lv_at hl 0 rfl) ?_
            refine va_get (D := g.1) (ci := 3) (v := .ref (a 1)) (C := RX3) (T := TX3) (N := 8) hx hb hts iX3 hown hK.1 hP 0 rfl rfl 0 (by decide) f12 (fun _ h9 => h9) rfl dX3_kind_40 ?_
            refine lv_iload_n hx hb dX3_kind_43 rfl (lv_at hl 3 rfl) ?_
            refine lv_iload hx hb dX3_kind_44 (lv_at hl 4 rfl) ?_
            refine kPS (As := [.int x3, .int x4]) (rest := [.ref (a 1)]) S (ctX3_cellAt l g x3 x4  (fX3_cellAt x3 x4) rfl) (va_cwS 2 hts gX3_kind_X3_cellAt rfl rfl rfl (by decide +kernel) ⟨Nat.le_of_ble_eq_true rfl, Nat.le_of_ble_eq_true rfl⟩) hK rfl rfl hl.1 rfl (Nat.le_of_ble_eq_true rfl) dX3_kind_46 ⟨Nat.zero_le _, Nat.zero_le _⟩ ?_
            obtain ⟨r49, hr49, h⟩ := gdb h
            refine kPV (As := [.int (fX3_cellAt x3 x4)]) (rest := []) (ci := 0) S (ctX0_landOf l g (a 1) (a 2) (fX3_cellAt x3 x4) gw gh gl r49 hr49) (cwV 1 hts gX3_kind_X0_landOf rfl rfl rfl (by decide +kernel) ⟨Nat.le_of_ble_eq_true rfl, Nat.le_of_ble_eq_true rfl⟩) hK hP [1, 2] rfl rfl rfl rfl rfl hl.1 rfl (Nat.le_of_ble_eq_true rfl) dX3_kind_49 ⟨Nat.zero_le _, Nat.zero_le _⟩ ?_
            refine lv_iload_n hx hb dX3_kind_52 rfl (lv_at hl 1 rfl) ?_
            refine lv_icmp_eq (tgt := 59) hx hb dX3_kind_53 (by decide) (fun c53 => ?_) (fun c53 => ?_)
            ·
              replace h := gdp h c53
              refine lv_aload_n hx hb dX3_kind_59 rfl (lv_at hl 0 rfl) ?_
              refine va_get (D := g.1) (ci := 3) (v := .ref (a 13)) (C := RX3) (T := TX3) (N := 8) hx hb hts iX3 hown hK.1 hP 0 rfl rfl 4 (by decide) f34 (fun _ h9 => h9) rfl dX3_kind_60 ?_
              refine lv_iload_n hx hb dX3_kind_63 rfl (lv_at hl 1 rfl) ?_
              refine lv_iload_n hx hb dX3_kind_64 rfl (lv_at hl 2 rfl) ?_
              obtain ⟨hi, h⟩ := gdi h
              refine va_iast (D := g.1) hx hb hK.1 hP hD hS 12 0 rfl rfl hi dX3_kind_65 (fun H locs hP hD hS => ?_)
              have hP : va_P g.1 vwCl (wB g a ask gw gh gl top kep don vc vf bx tt pl we le ab rw (upd ki (x1).toNatClampNeg x2) ow wa) H := hP
              have hD : va_D A (wB g a ask gw gh gl top kep don vc vf bx tt pl we le ab rw (upd ki (x1).toNatClampNeg x2) ow wa) := hD
              refine lv_aload_n hx hb dX3_kind_66 rfl (lv_at hl 0 rfl) ?_
              refine va_get (D := g.1) (ci := 3) (v := .ref (a 14)) (C := RX3) (T := TX3) (N := 8) hx hb hts iX3 hown hK.1 hP 0 rfl rfl 5 (by decide) f38 (fun _ h9 => h9) rfl dX3_kind_67 ?_
              refine lv_iload_n hx hb dX3_kind_70 rfl (lv_at hl 1 rfl) ?_
              refine lv_iload_n hx hb dX3_kind_71 rfl (lv_at hl 2 rfl) ?_
              refine lv_if_ne (tgt := 80) hx hb dX3_kind_72 (by decide) (fun c72 => ?_) (fun c72 => ?_)
              ·
                replace h := gdn h c72
                refine lv_iload_n hx hb dX3_kind_80 rfl (lv_at hl 3 rfl) ?_
                refine lv_iload hx hb dX3_kind_81 (lv_at hl 4 rfl) ?_
                refine kPS (As := [.int x3, .int x4]) (rest := [.int x1, .ref (a 14)]) S (ctX3_cellAt l g x3 x4  (fX3_cellAt x3 x4) rfl) (va_cwS 2 hts gX3_kind_X3_cellAt rfl rfl rfl (by decide +kernel) ⟨Nat.le_of_ble_eq_true rfl, Nat.le_of_ble_eq_true rfl⟩) hK rfl rfl hl.1 rfl (Nat.le_of_ble_eq_true rfl) dX3_kind_83 ⟨Nat.zero_le _, Nat.zero_le _⟩ ?_
                obtain ⟨hi, h⟩ := gdi h
                refine va_iast (D := g.1) hx hb hK.1 hP hD hS 13 0 rfl rfl hi dX3_kind_86 (fun H locs hP hD hS => ?_)
                have hP : va_P g.1 vwCl (wB g a ask gw gh gl top kep don vc vf bx tt pl we le ab rw (upd ki (x1).toNatClampNeg x2) (upd ow (x1).toNatClampNeg (fX3_cellAt x3 x4)) wa) H := hP
                have hD : va_D A (wB g a ask gw gh gl top kep don vc vf bx tt pl we le ab rw (upd ki (x1).toNatClampNeg x2) (upd ow (x1).toNatClampNeg (fX3_cellAt x3 x4)) wa) := hD
                refine lv_iconst (v := 1) hx hb dX3_kind_87 (by decide) ?_
                obtain rfl := Option.some.inj h
                exact retMi (v := (1 : Int32)) hx hb hr hlocks hP hD hS dX3_kind_88
              ·
                replace h := gdp h c72
                refine lv_bipush (v := -9) hx hb dX3_kind_75 (by decide) ?_
                refine lv_goto (tgt := 86) hx hb dX3_kind_77 (by decide) ?_
                obtain ⟨hi, h⟩ := gdi h
                refine va_iast (D := g.1) hx hb hK.1 hP hD hS 13 0 rfl rfl hi dX3_kind_86 (fun H locs hP hD hS => ?_)
                have hP : va_P g.1 vwCl (wB g a ask gw gh gl top kep don vc vf bx tt pl we le ab rw (upd ki (x1).toNatClampNeg x2) (upd ow (x1).toNatClampNeg (-9 : Int32)) wa) H := hP
                have hD : va_D A (wB g a ask gw gh gl top kep don vc vf bx tt pl we le ab rw (upd ki (x1).toNatClampNeg x2) (upd ow (x1).toNatClampNeg (-9 : Int32)) wa) := hD
                refine lv_iconst (v := 1) hx hb dX3_kind_87 (by decide) ?_
                obtain rfl := Option.some.inj h
                exact retMi (v := (1 : Int32)) hx hb hr hlocks hP hD hS dX3_kind_88
            ·
              replace h := gdn h c53
              refine lv_bipush (v := -2) hx hb dX3_kind_56 (by decide) ?_
              obtain rfl := Option.some.inj h
              exact retMi (v := (-2 : Int32)) hx hb hr hlocks hP hD hS dX3_kind_58
        ·
          replace h := gdn h c17
          refine lv_aload_n hx hb dX3_kind_20 rfl (lv_at hl 0 rfl) ?_
          refine va_get (D := g.1) (ci := 3) (v := .ref (a 1)) (C := RX3) (T := TX3) (N := 8) hx hb hts iX3 hown hK.1 hP 0 rfl rfl 0 (by decide) f12 (fun _ h9 => h9) rfl dX3_kind_21 ?_
          refine lv_iload_n hx hb dX3_kind_24 rfl (lv_at hl 3 rfl) ?_
          refine lv_iload hx hb dX3_kind_25 (lv_at hl 4 rfl) ?_
          refine kPV (As := [.int x3, .int x4]) (rest := []) (ci := 0) S (ctX0_has l g (a 1) (a 2) x3 x4 gw gh gl (fX0_has x3 x4 gw gh) rfl) (cwV 2 hts gX3_kind_X0_has rfl rfl rfl (by decide +kernel) ⟨Nat.le_of_ble_eq_true rfl, Nat.le_of_ble_eq_true rfl⟩) hK hP [1, 2] rfl rfl rfl rfl rfl hl.1 rfl (Nat.le_of_ble_eq_true rfl) dX3_kind_27 ⟨Nat.zero_le _, Nat.zero_le _⟩ ?_
          refine lv_if_ne (tgt := 35) hx hb dX3_kind_30 (by decide) (fun c30 => ?_) (fun c30 => ?_)
          ·
            replace h := gdn h c30
            refine lv_iload_n hx hb dX3_kind_35 rfl (lv_at hl 2 rfl) ?_
            refine lv_if_eq (tgt := 59) hx hb dX3_kind_36 (by decide) (fun c36 => ?_) (fun c36 => ?_)
            ·
              replace h := gdp h c36
              refine lv_aload_n hx hb dX3_kind_59 rfl (lv_at hl 0 rfl) ?_
              refine va_get (D := g.1) (ci := 3) (v := .ref (a 13)) (C := RX3) (T := TX3) (N := 8) hx hb hts iX3 hown hK.1 hP 0 rfl rfl 4 (by decide) f34 (fun _ h9 => h9) rfl dX3_kind_60 ?_
              refine lv_iload_n hx hb dX3_kind_63 rfl (lv_at hl 1 rfl) ?_
              refine lv_iload_n hx hb dX3_kind_64 rfl (lv_at hl 2 rfl) ?_
              obtain ⟨hi, h⟩ := gdi h
              refine va_iast (D := g.1) hx hb hK.1 hP hD hS 12 0 rfl rfl hi dX3_kind_65 (fun H locs hP hD hS => ?_)
              have hP : va_P g.1 vwCl (wB g a ask gw gh gl top kep don vc vf bx tt pl we le ab rw (upd ki (x1).toNatClampNeg x2) ow wa) H := hP
              have hD : va_D A (wB g a ask gw gh gl top kep don vc vf bx tt pl we le ab rw (upd ki (x1).toNatClampNeg x2) ow wa) := hD
              refine lv_aload_n hx hb dX3_kind_66 rfl (lv_at hl 0 rfl) ?_
              refine va_get (D := g.1) (ci := 3) (v := .ref (a 14)) (C := RX3) (T := TX3) (N := 8) hx hb hts iX3 hown hK.1 hP 0 rfl rfl 5 (by decide) f38 (fun _ h9 => h9) rfl dX3_kind_67 ?_
              refine lv_iload_n hx hb dX3_kind_70 rfl (lv_at hl 1 rfl) ?_
              refine lv_iload_n hx hb dX3_kind_71 rfl (lv_at hl 2 rfl) ?_
              refine lv_if_ne (tgt := 80) hx hb dX3_kind_72 (by decide) (fun c72 => ?_) (fun c72 => ?_)
              ·
                replace h := gdn h c72
                refine lv_iload_n hx hb dX3_kind_80 rfl (lv_at hl 3 rfl) ?_
                refine lv_iload hx hb dX3_kind_81 (lv_at hl 4 rfl) ?_
                refine kPS (As := [.int x3, .int x4]) (rest := [.int x1, .ref (a 14)]) S (ctX3_cellAt l g x3 x4  (fX3_cellAt x3 x4) rfl) (va_cwS 2 hts gX3_kind_X3_cellAt rfl rfl rfl (by decide +kernel) ⟨Nat.le_of_ble_eq_true rfl, Nat.le_of_ble_eq_true rfl⟩) hK rfl rfl hl.1 rfl (Nat.le_of_ble_eq_true rfl) dX3_kind_83 ⟨Nat.zero_le _, Nat.zero_le _⟩ ?_
                obtain ⟨hi, h⟩ := gdi h
                refine va_iast (D := g.1) hx hb hK.1 hP hD hS 13 0 rfl rfl hi dX3_kind_86 (fun H locs hP hD hS => ?_)
                have hP : va_P g.1 vwCl (wB g a ask gw gh gl top kep don vc vf bx tt pl we le ab rw (upd ki (x1).toNatClampNeg x2) (upd ow (x1).toNatClampNeg (fX3_cellAt x3 x4)) wa) H := hP
                have hD : va_D A (wB g a ask gw gh gl top kep don vc vf bx tt pl we le ab rw (upd ki (x1).toNatClampNeg x2) (upd ow (x1).toNatClampNeg (fX3_cellAt x3 x4)) wa) := hD
                refine lv_iconst (v := 1) hx hb dX3_kind_87 (by decide) ?_
                obtain rfl := Option.some.inj h
                exact retMi (v := (1 : Int32)) hx hb hr hlocks hP hD hS dX3_kind_88
              ·
                replace h := gdp h c72
                refine lv_bipush (v := -9) hx hb dX3_kind_75 (by decide) ?_
                refine lv_goto (tgt := 86) hx hb dX3_kind_77 (by decide) ?_
                obtain ⟨hi, h⟩ := gdi h
                refine va_iast (D := g.1) hx hb hK.1 hP hD hS 13 0 rfl rfl hi dX3_kind_86 (fun H locs hP hD hS => ?_)
                have hP : va_P g.1 vwCl (wB g a ask gw gh gl top kep don vc vf bx tt pl we le ab rw (upd ki (x1).toNatClampNeg x2) (upd ow (x1).toNatClampNeg (-9 : Int32)) wa) H := hP
                have hD : va_D A (wB g a ask gw gh gl top kep don vc vf bx tt pl we le ab rw (upd ki (x1).toNatClampNeg x2) (upd ow (x1).toNatClampNeg (-9 : Int32)) wa) := hD
                refine lv_iconst (v := 1) hx hb dX3_kind_87 (by decide) ?_
                obtain rfl := Option.some.inj h
                exact retMi (v := (1 : Int32)) hx hb hr hlocks hP hD hS dX3_kind_88
            ·
              replace h := gdn h c36
              refine lv_aload_n hx hb dX3_kind_39 rfl (lv_at hl 0 rfl) ?_
              refine va_get (D := g.1) (ci := 3) (v := .ref (a 1)) (C := RX3) (T := TX3) (N := 8) hx hb hts iX3 hown hK.1 hP 0 rfl rfl 0 (by decide) f12 (fun _ h9 => h9) rfl dX3_kind_40 ?_
              refine lv_iload_n hx hb dX3_kind_43 rfl (lv_at hl 3 rfl) ?_
              refine lv_iload hx hb dX3_kind_44 (lv_at hl 4 rfl) ?_
              refine kPS (As := [.int x3, .int x4]) (rest := [.ref (a 1)]) S (ctX3_cellAt l g x3 x4  (fX3_cellAt x3 x4) rfl) (va_cwS 2 hts gX3_kind_X3_cellAt rfl rfl rfl (by decide +kernel) ⟨Nat.le_of_ble_eq_true rfl, Nat.le_of_ble_eq_true rfl⟩) hK rfl rfl hl.1 rfl (Nat.le_of_ble_eq_true rfl) dX3_kind_46 ⟨Nat.zero_le _, Nat.zero_le _⟩ ?_
              obtain ⟨r49, hr49, h⟩ := gdb h
              refine kPV (As := [.int (fX3_cellAt x3 x4)]) (rest := []) (ci := 0) S (ctX0_landOf l g (a 1) (a 2) (fX3_cellAt x3 x4) gw gh gl r49 hr49) (cwV 1 hts gX3_kind_X0_landOf rfl rfl rfl (by decide +kernel) ⟨Nat.le_of_ble_eq_true rfl, Nat.le_of_ble_eq_true rfl⟩) hK hP [1, 2] rfl rfl rfl rfl rfl hl.1 rfl (Nat.le_of_ble_eq_true rfl) dX3_kind_49 ⟨Nat.zero_le _, Nat.zero_le _⟩ ?_
              refine lv_iload_n hx hb dX3_kind_52 rfl (lv_at hl 1 rfl) ?_
              refine lv_icmp_eq (tgt := 59) hx hb dX3_kind_53 (by decide) (fun c53 => ?_) (fun c53 => ?_)
              ·
                replace h := gdp h c53
                refine lv_aload_n hx hb dX3_kind_59 rfl (lv_at hl 0 rfl) ?_
                refine va_get (D := g.1) (ci := 3) (v := .ref (a 13)) (C := RX3) (T := TX3) (N := 8) hx hb hts iX3 hown hK.1 hP 0 rfl rfl 4 (by decide) f34 (fun _ h9 => h9) rfl dX3_kind_60 ?_
                refine lv_iload_n hx hb dX3_kind_63 rfl (lv_at hl 1 rfl) ?_
                refine lv_iload_n hx hb dX3_kind_64 rfl (lv_at hl 2 rfl) ?_
                obtain ⟨hi, h⟩ := gdi h
                refine va_iast (D := g.1) hx hb hK.1 hP hD hS 12 0 rfl rfl hi dX3_kind_65 (fun H locs hP hD hS => ?_)
                have hP : va_P g.1 vwCl (wB g a ask gw gh gl top kep don vc vf bx tt pl we le ab rw (upd ki (x1).toNatClampNeg x2) ow wa) H := hP
                have hD : va_D A (wB g a ask gw gh gl top kep don vc vf bx tt pl we le ab rw (upd ki (x1).toNatClampNeg x2) ow wa) := hD
                refine lv_aload_n hx hb dX3_kind_66 rfl (lv_at hl 0 rfl) ?_
                refine va_get (D := g.1) (ci := 3) (v := .ref (a 14)) (C := RX3) (T := TX3) (N := 8) hx hb hts iX3 hown hK.1 hP 0 rfl rfl 5 (by decide) f38 (fun _ h9 => h9) rfl dX3_kind_67 ?_
                refine lv_iload_n hx hb dX3_kind_70 rfl (lv_at hl 1 rfl) ?_
                refine lv_iload_n hx hb dX3_kind_71 rfl (lv_at hl 2 rfl) ?_
                refine lv_if_ne (tgt := 80) hx hb dX3_kind_72 (by decide) (fun c72 => ?_) (fun c72 => ?_)
                ·
                  replace h := gdn h c72
                  refine lv_iload_n hx hb dX3_kind_80 rfl (lv_at hl 3 rfl) ?_
                  refine lv_iload hx hb dX3_kind_81 (lv_at hl 4 rfl) ?_
                  refine kPS (As := [.int x3, .int x4]) (rest := [.int x1, .ref (a 14)]) S (ctX3_cellAt l g x3 x4  (fX3_cellAt x3 x4) rfl) (va_cwS 2 hts gX3_kind_X3_cellAt rfl rfl rfl (by decide +kernel) ⟨Nat.le_of_ble_eq_true rfl, Nat.le_of_ble_eq_true rfl⟩) hK rfl rfl hl.1 rfl (Nat.le_of_ble_eq_true rfl) dX3_kind_83 ⟨Nat.zero_le _, Nat.zero_le _⟩ ?_
                  obtain ⟨hi, h⟩ := gdi h
                  refine va_iast (D := g.1) hx hb hK.1 hP hD hS 13 0 rfl rfl hi dX3_kind_86 (fun H locs hP hD hS => ?_)
                  have hP : va_P g.1 vwCl (wB g a ask gw gh gl top kep don vc vf bx tt pl we le ab rw (upd ki (x1).toNatClampNeg x2) (upd ow (x1).toNatClampNeg (fX3_cellAt x3 x4)) wa) H := hP
                  have hD : va_D A (wB g a ask gw gh gl top kep don vc vf bx tt pl we le ab rw (upd ki (x1).toNatClampNeg x2) (upd ow (x1).toNatClampNeg (fX3_cellAt x3 x4)) wa) := hD
                  refine lv_iconst (v := 1) hx hb dX3_kind_87 (by decide) ?_
                  obtain rfl := Option.some.inj h
                  exact retMi (v := (1 : Int32)) hx hb hr hlocks hP hD hS dX3_kind_88
                ·
                  replace h := gdp h c72
                  refine lv_bipush (v := -9) hx hb dX3_kind_75 (by decide) ?_
                  refine lv_goto (tgt := 86) hx hb dX3_kind_77 (by decide) ?_
                  obtain ⟨hi, h⟩ := gdi h
                  refine va_iast (D := g.1) hx hb hK.1 hP hD hS 13 0 rfl rfl hi dX3_kind_86 (fun H locs hP hD hS => ?_)
                  have hP : va_P g.1 vwCl (wB g a ask gw gh gl top kep don vc vf bx tt pl we le ab rw (upd ki (x1).toNatClampNeg x2) (upd ow (x1).toNatClampNeg (-9 : Int32)) wa) H := hP
                  have hD : va_D A (wB g a ask gw gh gl top kep don vc vf bx tt pl we le ab rw (upd ki (x1).toNatClampNeg x2) (upd ow (x1).toNatClampNeg (-9 : Int32)) wa) := hD
                  refine lv_iconst (v := 1) hx hb dX3_kind_87 (by decide) ?_
                  obtain rfl := Option.some.inj h
                  exact retMi (v := (1 : Int32)) hx hb hr hlocks hP hD hS dX3_kind_88
              ·
                replace h := gdn h c53
                refine lv_bipush (v := -2) hx hb dX3_kind_56 (by decide) ?_
                obtain rfl := Option.some.inj h
                exact retMi (v := (-2 : Int32)) hx hb hr hlocks hP hD hS dX3_kind_58
          ·
            replace h := gdp h c30
            refine lv_iconst (v := -1) hx hb dX3_kind_33 (by decide) ?_
            obtain rfl := Option.some.inj h
            exact retMi (v := (-1 : Int32)) hx hb hr hlocks hP hD hS dX3_kind_34
-- LandBoard.about
set_option maxHeartbeats 4000000 in
set_option maxRecDepth 100000 in
theorem ctX3_about (l : Launch) (g : GG) (a : Nat → Nat) (x1 : Int32) (x2 : Int32) (ask : Int64) (gw : Int32) (gh : Int32) (gl : (Nat → Int64)) (top : Int32) (kep : Int32) (don : Int32) (vc : (Nat → Int32)) (vf : (Nat → Int32)) (bx : Int32) (tt : Int32) (pl : (Nat → Int32)) (we : (Nat → Int32)) (le : (Nat → Int32)) (ab : (Nat → Int32)) (rw : (Nat → Int32)) (ki : (Nat → Int32)) (ow : (Nat → Int32)) (wa : (Nat → Int32)) (res : Int32) (h : fX3_about x1 x2 ki ow wa = some res) : MP l yX3_about wsX3_about ({ frames := 1, cells := 0, slots := 0, locals := 20 }) g [.ref (a 0), .int x1, .int x2] (wB g a ask gw gh gl top kep don vc vf bx tt pl we le ab rw ki ow wa) (.int res) := by
  refine MP.of (cc := cX3_about) (own := RX3) 3 (some .int) (by decide +kernel) rfl (Nat.le_of_ble_eq_true rfl) rfl ?_
  intro p e s m args below meth c hx hb hr hml hown hts hlocks hP hK ls hl
  have S : CallFix p m c cX3_about 3 s args wsX3_about RX3 := ⟨hx, hb, hml, hown, hts⟩
  have hl : lv_has ls 3 [(0, .ref (a 0)), (1, .int x1), (2, .int x2)] := hl
  have f34 := hts (.fieldLink RX3 34 "LandBoard" "kinds" "[I") (by decide +kernel)
  have iX3 := (by decide +kernel : ∀ w ∈ u_ws RX3 TX3 8, w ∈ wsX3_about)
  have f38 := hts (.fieldLink RX3 38 "LandBoard" "owns" "[I") (by decide +kernel)
  have f41 := hts (.fieldLink RX3 41 "LandBoard" "wants" "[I") (by decide +kernel)
  refine lv_iload_n hx hb dX3_about_0 rfl (lv_at hl 1 rfl) ?_
  refine kPS (As := [.int x1]) (rest := []) S (ctX3_isLand l g x1  (fX3_isLand x1) rfl) (va_cwS 1 hts gX3_about_X3_isLand rfl rfl rfl (by decide +kernel) ⟨Nat.le_of_ble_eq_true rfl, Nat.le_of_ble_eq_true rfl⟩) hK rfl rfl hl.1 rfl (Nat.le_of_ble_eq_true rfl) dX3_about_1 ⟨Nat.zero_le _, Nat.zero_le _⟩ ?_
  refine lv_if_ne (tgt := 9) hx hb dX3_about_4 (by decide) (fun c4 => ?_) (fun c4 => ?_)
  ·
    replace h := gdn h c4
    refine lv_iload_n hx hb dX3_about_9 rfl (lv_at hl 2 rfl) ?_
    by_cases c10_0 : x2 = (0 : Int32)
    ·
      replace h := gdp h c10_0
      refine tswIn (tgt := 40) (off := 30) (0 : Int32) c10_0 hx hb dX3_about_10 (by decide) (by decide) rfl (by decide) ?_
      refine lv_aload_n hx hb dX3_about_40 rfl (lv_at hl 0 rfl) ?_
      refine va_get (D := g.1) (ci := 3) (v := .ref (a 13)) (C := RX3) (T := TX3) (N := 8) hx hb hts iX3 hown hK.1 hP 0 rfl rfl 4 (by decide) f34 (fun _ h9 => h9) rfl dX3_about_41 ?_
      refine lv_iload_n hx hb dX3_about_44 rfl (lv_at hl 1 rfl) ?_
      obtain ⟨hi, h⟩ := gdi h
      refine va_iald (D := g.1) hx hb hK.1 hP 12 0 rfl rfl hi dX3_about_45 ?_
      obtain rfl := Option.some.inj h
      exact retPi hx hb hr hlocks dX3_about_46
    replace h := gdn h c10_0
    by_cases c10_1 : x2 = (1 : Int32)
    ·
      replace h := gdp h c10_1
      refine tswIn (tgt := 47) (off := 37) (1 : Int32) c10_1 hx hb dX3_about_10 (by decide) (by decide) rfl (by decide) ?_
      refine lv_aload_n hx hb dX3_about_47 rfl (lv_at hl 0 rfl) ?_
      refine va_get (D := g.1) (ci := 3) (v := .ref (a 14)) (C := RX3) (T := TX3) (N := 8) hx hb hts iX3 hown hK.1 hP 0 rfl rfl 5 (by decide) f38 (fun _ h9 => h9) rfl dX3_about_48 ?_
      refine lv_iload_n hx hb dX3_about_51 rfl (lv_at hl 1 rfl) ?_
      obtain ⟨hi, h⟩ := gdi h
      refine va_iald (D := g.1) hx hb hK.1 hP 13 0 rfl rfl hi dX3_about_52 ?_
      refine lv_bipush (v := -9) hx hb dX3_about_53 (by decide) ?_
      refine lv_icmp_ne (tgt := 63) hx hb dX3_about_55 (by decide) (fun c55 => ?_) (fun c55 => ?_)
      ·
        replace h := gdn h c55
        refine lv_aload_n hx hb dX3_about_63 rfl (lv_at hl 0 rfl) ?_
        refine va_get (D := g.1) (ci := 3) (v := .ref (a 14)) (C := RX3) (T := TX3) (N := 8) hx hb hts iX3 hown hK.1 hP 0 rfl rfl 5 (by decide) f38 (fun _ h9 => h9) rfl dX3_about_64 ?_
        refine lv_iload_n hx hb dX3_about_67 rfl (lv_at hl 1 rfl) ?_
        obtain ⟨hi, h⟩ := gdi h
        refine va_iald (D := g.1) hx hb hK.1 hP 13 0 rfl rfl hi dX3_about_68 ?_
        refine kPS (As := [.int (ow (x1).toNatClampNeg)]) (rest := []) S (ctX3_columnOf l g (ow (x1).toNatClampNeg)  (fX3_columnOf (ow (x1).toNatClampNeg)) rfl) (va_cwS 1 hts gX3_about_X3_columnOf rfl rfl rfl (by decide +kernel) ⟨Nat.le_of_ble_eq_true rfl, Nat.le_of_ble_eq_true rfl⟩) hK rfl rfl hl.1 rfl (Nat.le_of_ble_eq_true rfl) dX3_about_69 ⟨Nat.zero_le _, Nat.zero_le _⟩ ?_
        obtain rfl := Option.some.inj h
        exact retPi hx hb hr hlocks dX3_about_72
      ·
        replace h := gdp h c55
        refine lv_bipush (v := -9) hx hb dX3_about_58 (by decide) ?_
        refine lv_goto (tgt := 72) hx hb dX3_about_60 (by decide) ?_
        obtain rfl := Option.some.inj h
        exact retPi (v := (-9 : Int32)) hx hb hr hlocks dX3_about_72
    replace h := gdn h c10_1
    by_cases c10_2 : x2 = (2 : Int32)
    ·
      replace h := gdp h c10_2
      refine tswIn (tgt := 73) (off := 63) (2 : Int32) c10_2 hx hb dX3_about_10 (by decide) (by decide) rfl (by decide) ?_
      refine lv_aload_n hx hb dX3_about_73 rfl (lv_at hl 0 rfl) ?_
      refine va_get (D := g.1) (ci := 3) (v := .ref (a 14)) (C := RX3) (T := TX3) (N := 8) hx hb hts iX3 hown hK.1 hP 0 rfl rfl 5 (by decide) f38 (fun _ h9 => h9) rfl dX3_about_74 ?_
      refine lv_iload_n hx hb dX3_about_77 rfl (lv_at hl 1 rfl) ?_
      obtain ⟨hi, h⟩ := gdi h
      refine va_iald (D := g.1) hx hb hK.1 hP 13 0 rfl rfl hi dX3_about_78 ?_
      refine lv_bipush (v := -9) hx hb dX3_about_79 (by decide) ?_
      refine lv_icmp_ne (tgt := 89) hx hb dX3_about_81 (by decide) (fun c81 => ?_) (fun c81 => ?_)
      ·
        replace h := gdn h c81
        refine lv_aload_n hx hb dX3_about_89 rfl (lv_at hl 0 rfl) ?_
        refine va_get (D := g.1) (ci := 3) (v := .ref (a 14)) (C := RX3) (T := TX3) (N := 8) hx hb hts iX3 hown hK.1 hP 0 rfl rfl 5 (by decide) f38 (fun _ h9 => h9) rfl dX3_about_90 ?_
        refine lv_iload_n hx hb dX3_about_93 rfl (lv_at hl 1 rfl) ?_
        obtain ⟨hi, h⟩ := gdi h
        refine va_iald (D := g.1) hx hb hK.1 hP 13 0 rfl rfl hi dX3_about_94 ?_
        refine kPS (As := [.int (ow (x1).toNatClampNeg)]) (rest := []) S (ctX3_rowOf l g (ow (x1).toNatClampNeg)  (fX3_rowOf (ow (x1).toNatClampNeg)) rfl) (va_cwS 1 hts gX3_about_X3_rowOf rfl rfl rfl (by decide +kernel) ⟨Nat.le_of_ble_eq_true rfl, Nat.le_of_ble_eq_true rfl⟩) hK rfl rfl hl.1 rfl (Nat.le_of_ble_eq_true rfl) dX3_about_95 ⟨Nat.zero_le _, Nat.zero_le _⟩ ?_
        obtain rfl := Option.some.inj h
        exact retPi hx hb hr hlocks dX3_about_98
      ·
        replace h := gdp h c81
        refine lv_bipush (v := -9) hx hb dX3_about_84 (by decide) ?_
        refine lv_goto (tgt := 98) hx hb dX3_about_86 (by decide) ?_
        obtain rfl := Option.some.inj h
        exact retPi (v := (-9 : Int32)) hx hb hr hlocks dX3_about_98
    replace h := gdn h c10_2
    by_cases c10_3 : x2 = (3 : Int32)
    ·
      replace h := gdp h c10_3
      refine tswIn (tgt := 99) (off := 89) (3 : Int32) c10_3 hx hb dX3_about_10 (by decide) (by decide) rfl (by decide) ?_
      refine lv_aload_n hx hb dX3_about_99 rfl (lv_at hl 0 rfl) ?_
      refine va_get (D := g.1) (ci := 3) (v := .ref (a 15)) (C := RX3) (T := TX3) (N := 8) hx hb hts iX3 hown hK.1 hP 0 rfl rfl 6 (by decide) f41 (fun _ h9 => h9) rfl dX3_about_100 ?_
      refine lv_iload_n hx hb dX3_about_103 rfl (lv_at hl 1 rfl) ?_
      obtain ⟨hi, h⟩ := gdi h
      refine va_iald (D := g.1) hx hb hK.1 hP 14 0 rfl rfl hi dX3_about_104 ?_
      obtain rfl := Option.some.inj h
      exact retPi hx hb hr hlocks dX3_about_105
    replace h := gdn h c10_3
    refine lv_tableOut (tgt := 106) hx hb dX3_about_10 (tsw_out (n := 4) (fun k hk => by match k, hk with | 0, _ => exact c10_0 | 1, _ => exact c10_1 | 2, _ => exact c10_2 | 3, _ => exact c10_3 | (k + 4), hk => exact absurd hk (by omega)) (by decide)) (by decide) ?_
    refine lv_iconst (v := -1) hx hb dX3_about_106 (by decide) ?_
    obtain rfl := Option.some.inj h
    exact retPi (v := (-1 : Int32)) hx hb hr hlocks dX3_about_107
  ·
    replace h := gdp h c4
    refine lv_iconst (v := -1) hx hb dX3_about_7 (by decide) ?_
    obtain rfl := Option.some.inj h
    exact retPi (v := (-1 : Int32)) hx hb hr hlocks dX3_about_8
-- LandBoard.letsGo
set_option maxHeartbeats 4000000 in
set_option maxRecDepth 100000 in
theorem ctX3_letsGo (l : Launch) (g : GG) (a : Nat → Nat) (x1 : Int32) (x2 : Int32) (ask : Int64) (gw : Int32) (gh : Int32) (gl : (Nat → Int64)) (top : Int32) (kep : Int32) (don : Int32) (vc : (Nat → Int32)) (vf : (Nat → Int32)) (bx : Int32) (tt : Int32) (pl : (Nat → Int32)) (we : (Nat → Int32)) (le : (Nat → Int32)) (ab : (Nat → Int32)) (rw : (Nat → Int32)) (ki : (Nat → Int32)) (ow : (Nat → Int32)) (wa : (Nat → Int32)) (res : Int32) (h : fX3_letsGo x1 x2 gl ki ow = some res) : MP l yX3_letsGo wsX3_letsGo ({ frames := 3, cells := 0, slots := 0, locals := 68 }) g [.ref (a 0), .int x1, .int x2] (wB g a ask gw gh gl top kep don vc vf bx tt pl we le ab rw ki ow wa) (.int res) := by
  refine MP.of (cc := cX3_letsGo) (own := RX3) 8 (some .boolean) (by decide +kernel) rfl (Nat.le_of_ble_eq_true rfl) rfl ?_
  intro p e s m args below meth c hx hb hr hml hown hts hlocks hP hK ls hl
  have S : CallFix p m c cX3_letsGo 8 s args wsX3_letsGo RX3 := ⟨hx, hb, hml, hown, hts⟩
  have hl : lv_has ls 8 [(0, .ref (a 0)), (1, .int x1), (2, .int x2)] := hl
  have f12 := hts (.fieldLink RX3 12 "LandBoard" "now" "LLandBoard$Grid;") (by decide +kernel)
  have iX3 := (by decide +kernel : ∀ w ∈ u_ws RX3 TX3 8, w ∈ wsX3_letsGo)
  have k215 := hts (.constantLong RX3 215 (-1)) (by decide +kernel)
  have f34 := hts (.fieldLink RX3 34 "LandBoard" "kinds" "[I") (by decide +kernel)
  have f38 := hts (.fieldLink RX3 38 "LandBoard" "owns" "[I") (by decide +kernel)
  refine lv_iload_n hx hb dX3_letsGo_0 rfl (lv_at hl 1 rfl) ?_
  refine kPS (As := [.int x1]) (rest := []) S (ctX3_isLand l g x1  (fX3_isLand x1) rfl) (va_cwS 1 hts gX3_letsGo_X3_isLand rfl rfl rfl (by decide +kernel) ⟨Nat.le_of_ble_eq_true rfl, Nat.le_of_ble_eq_true rfl⟩) hK rfl rfl hl.1 rfl (Nat.le_of_ble_eq_true rfl) dX3_letsGo_1 ⟨Nat.zero_le _, Nat.zero_le _⟩ ?_
  refine lv_if_ne (tgt := 9) hx hb dX3_letsGo_4 (by decide) (fun c4 => ?_) (fun c4 => ?_)
  ·
    replace h := gdn h c4
    refine lv_aload_n hx hb dX3_letsGo_9 rfl (lv_at hl 0 rfl) ?_
    refine va_get (D := g.1) (ci := 3) (v := .ref (a 1)) (C := RX3) (T := TX3) (N := 8) hx hb hts iX3 hown hK.1 hP 0 rfl rfl 0 (by decide) f12 (fun _ h9 => h9) rfl dX3_letsGo_10 ?_
    refine lv_iload_n hx hb dX3_letsGo_13 rfl (lv_at hl 1 rfl) ?_
    obtain ⟨r14, hr14, h⟩ := gdb h
    refine kPV (As := [.int x1]) (rest := []) (ci := 0) S (ctX0_cellsOf l g (a 1) (a 2) x1 gw gh gl r14 hr14) (cwV 1 hts gX3_letsGo_X0_cellsOf rfl rfl rfl (by decide +kernel) ⟨Nat.le_of_ble_eq_true rfl, Nat.le_of_ble_eq_true rfl⟩) hK hP [1, 2] rfl rfl rfl rfl rfl hl.1 rfl (Nat.le_of_ble_eq_true rfl) dX3_letsGo_14 ⟨Nat.zero_le _, Nat.zero_le _⟩ ?_
    refine lv_iload_n hx hb dX3_letsGo_17 rfl (lv_at hl 2 rfl) ?_
    refine kPS (As := [.int x2]) (rest := [.long r14]) S (ctX3_bit l g x2  (fX3_bit x2) rfl) (va_cwS 1 hts gX3_letsGo_X3_bit rfl rfl rfl (by decide +kernel) ⟨Nat.le_of_ble_eq_true rfl, Nat.le_of_ble_eq_true rfl⟩) hK rfl rfl hl.1 rfl (Nat.le_of_ble_eq_true rfl) dX3_letsGo_18 ⟨Nat.zero_le _, Nat.zero_le _⟩ ?_
    refine lv_ldc2 hx hb hown k215 dX3_letsGo_21 ?_
    refine lv_lxor hx hb dX3_letsGo_24 ?_
    refine lv_land hx hb dX3_letsGo_25 ?_
    refine lv_lstore_n (lv' := [(3, .long (r14 &&& ((fX3_bit x2) ^^^ (-1 : Int64)))), (0, .ref (a 0)), (1, .int x1), (2, .int x2)]) hx hb dX3_letsGo_26 rfl hl (by decide) rfl (fun ls hl => ?_)
    refine lv_lload_n hx hb dX3_letsGo_27 rfl (lv_at hl 0 rfl) ?_
    obtain ⟨r28, hr28, h⟩ := gdb h
    refine kPS (As := [.long (r14 &&& ((fX3_bit x2) ^^^ (-1 : Int64)))]) (rest := []) S (ctX3_isWhole l g (r14 &&& ((fX3_bit x2) ^^^ (-1 : Int64)))  r28 hr28) (va_cwS 1 hts gX3_letsGo_X3_isWhole rfl rfl rfl (by decide +kernel) ⟨Nat.le_of_ble_eq_true rfl, Nat.le_of_ble_eq_true rfl⟩) hK rfl rfl hl.1 rfl (Nat.le_of_ble_eq_true rfl) dX3_letsGo_28 ⟨Nat.zero_le _, Nat.zero_le _⟩ ?_
    refine lv_istore (lv' := [(5, .int r28), (3, .long (r14 &&& ((fX3_bit x2) ^^^ (-1 : Int64)))), (0, .ref (a 0)), (1, .int x1), (2, .int x2)]) hx hb dX3_letsGo_31 hl (by decide) rfl (fun ls hl => ?_)
    refine lv_iload hx hb dX3_letsGo_33 (lv_at hl 0 rfl) ?_
    refine lv_if_eq (tgt := 52) hx hb dX3_letsGo_35 (by decide) (fun c35 => ?_) (fun c35 => ?_)
    ·
      replace h := gdp h c35
      refine lv_iconst (v := 0) hx hb dX3_letsGo_52 (by decide) ?_
      refine lv_istore (lv' := [(6, .int (0 : Int32)), (5, .int r28), (3, .long (r14 &&& ((fX3_bit x2) ^^^ (-1 : Int64)))), (0, .ref (a 0)), (1, .int x1), (2, .int x2)]) hx hb dX3_letsGo_53 hl (by decide) rfl (fun ls hl => ?_)
      refine lv_iload hx hb dX3_letsGo_55 (lv_at hl 0 rfl) ?_
      refine lv_if_eq (tgt := 75) hx hb dX3_letsGo_57 (by decide) (fun c57 => ?_) (fun c57 => ?_)
      ·
        refine lv_iconst (v := 0) hx hb dX3_letsGo_75 (by decide) ?_
        refine lv_istore (lv' := [(7, .int (0 : Int32)), (6, .int (0 : Int32)), (5, .int r28), (3, .long (r14 &&& ((fX3_bit x2) ^^^ (-1 : Int64)))), (0, .ref (a 0)), (1, .int x1), (2, .int x2)]) hx hb dX3_letsGo_76 hl (by decide) rfl (fun ls hl => ?_)
        refine lv_aload_n hx hb dX3_letsGo_78 rfl (lv_at hl 4 rfl) ?_
        refine va_get (D := g.1) (ci := 3) (v := .ref (a 13)) (C := RX3) (T := TX3) (N := 8) hx hb hts iX3 hown hK.1 hP 0 rfl rfl 4 (by decide) f34 (fun _ h9 => h9) rfl dX3_letsGo_79 ?_
        refine lv_iload_n hx hb dX3_letsGo_82 rfl (lv_at hl 5 rfl) ?_
        obtain ⟨hi, h⟩ := gdi h
        refine va_iald (D := g.1) hx hb hK.1 hP 12 0 rfl rfl hi dX3_letsGo_83 ?_
        refine lv_iconst (v := 2) hx hb dX3_letsGo_84 (by decide) ?_
        refine lv_icmp_ne (tgt := 93) hx hb dX3_letsGo_85 (by decide) (fun c85 => ?_) (fun c85 => ?_)
        ·
          replace h := gdn h c85
          refine lv_aload_n hx hb dX3_letsGo_93 rfl (lv_at hl 4 rfl) ?_
          refine va_get (D := g.1) (ci := 3) (v := .ref (a 13)) (C := RX3) (T := TX3) (N := 8) hx hb hts iX3 hown hK.1 hP 0 rfl rfl 4 (by decide) f34 (fun _ h9 => h9) rfl dX3_letsGo_94 ?_
          refine lv_iload_n hx hb dX3_letsGo_97 rfl (lv_at hl 5 rfl) ?_
          obtain ⟨hi, h⟩ := gdi h
          refine va_iald (D := g.1) hx hb hK.1 hP 12 0 rfl rfl hi dX3_letsGo_98 ?_
          refine lv_iconst (v := 1) hx hb dX3_letsGo_99 (by decide) ?_
          refine lv_icmp_ne (tgt := 108) hx hb dX3_letsGo_100 (by decide) (fun c100 => ?_) (fun c100 => ?_)
          ·
            replace h := gdn h c100
            refine lv_iload hx hb dX3_letsGo_108 (lv_at hl 2 rfl) ?_
            obtain ⟨hz, h⟩ := gdzb h
            obtain rfl := Option.some.inj h
            exact retPz hx hb hr hlocks hz dX3_letsGo_110
          ·
            replace h := gdp h c100
            refine lv_iload hx hb dX3_letsGo_103 (lv_at hl 1 rfl) ?_
            refine lv_goto (tgt := 110) hx hb dX3_letsGo_105 (by decide) ?_
            obtain rfl := Option.some.inj h
            exact retPz (v := (0 : Int32)) hx hb hr hlocks rfl dX3_letsGo_110
        ·
          replace h := gdp h c85
          refine lv_iload hx hb dX3_letsGo_88 (lv_at hl 0 rfl) ?_
          refine lv_goto (tgt := 110) hx hb dX3_letsGo_90 (by decide) ?_
          obtain rfl := Option.some.inj h
          exact retPz (v := (0 : Int32)) hx hb hr hlocks rfl dX3_letsGo_110
      ·
        exact absurd (by decide) c57
    ·
      replace h := gdn h c35
      refine lv_iload_n hx hb dX3_letsGo_38 rfl (lv_at hl 4 rfl) ?_
      refine lv_aload_n hx hb dX3_letsGo_39 rfl (lv_at hl 2 rfl) ?_
      refine va_get (D := g.1) (ci := 3) (v := .ref (a 14)) (C := RX3) (T := TX3) (N := 8) hx hb hts iX3 hown hK.1 hP 0 rfl rfl 5 (by decide) f38 (fun _ h9 => h9) rfl dX3_letsGo_40 ?_
      refine lv_iload_n hx hb dX3_letsGo_43 rfl (lv_at hl 3 rfl) ?_
      obtain ⟨hi, h⟩ := gdi h
      refine va_iald (D := g.1) hx hb hK.1 hP 13 0 rfl rfl hi dX3_letsGo_44 ?_
      refine lv_icmp_eq (tgt := 52) hx hb dX3_letsGo_45 (by decide) (fun c45 => ?_) (fun c45 => ?_)
      ·
        replace h := gdp h c45
        refine lv_iconst (v := 0) hx hb dX3_letsGo_52 (by decide) ?_
        refine lv_istore (lv' := [(6, .int (0 : Int32)), (5, .int r28), (3, .long (r14 &&& ((fX3_bit x2) ^^^ (-1 : Int64)))), (0, .ref (a 0)), (1, .int x1), (2, .int x2)]) hx hb dX3_letsGo_53 hl (by decide) rfl (fun ls hl => ?_)
        refine lv_iload hx hb dX3_letsGo_55 (lv_at hl 0 rfl) ?_
        refine lv_if_eq (tgt := 75) hx hb dX3_letsGo_57 (by decide) (fun c57 => ?_) (fun c57 => ?_)
        ·
          refine lv_iconst (v := 0) hx hb dX3_letsGo_75 (by decide) ?_
          refine lv_istore (lv' := [(7, .int (0 : Int32)), (6, .int (0 : Int32)), (5, .int r28), (3, .long (r14 &&& ((fX3_bit x2) ^^^ (-1 : Int64)))), (0, .ref (a 0)), (1, .int x1), (2, .int x2)]) hx hb dX3_letsGo_76 hl (by decide) rfl (fun ls hl => ?_)
          refine lv_aload_n hx hb dX3_letsGo_78 rfl (lv_at hl 4 rfl) ?_
          refine va_get (D := g.1) (ci := 3) (v := .ref (a 13)) (C := RX3) (T := TX3) (N := 8) hx hb hts iX3 hown hK.1 hP 0 rfl rfl 4 (by decide) f34 (fun _ h9 => h9) rfl dX3_letsGo_79 ?_
          refine lv_iload_n hx hb dX3_letsGo_82 rfl (lv_at hl 5 rfl) ?_
          obtain ⟨hi, h⟩ := gdi h
          refine va_iald (D := g.1) hx hb hK.1 hP 12 0 rfl rfl hi dX3_letsGo_83 ?_
          refine lv_iconst (v := 2) hx hb dX3_letsGo_84 (by decide) ?_
          refine lv_icmp_ne (tgt := 93) hx hb dX3_letsGo_85 (by decide) (fun c85 => ?_) (fun c85 => ?_)
          ·
            replace h := gdn h c85
            refine lv_aload_n hx hb dX3_letsGo_93 rfl (lv_at hl 4 rfl) ?_
            refine va_get (D := g.1) (ci := 3) (v := .ref (a 13)) (C := RX3) (T := TX3) (N := 8) hx hb hts iX3 hown hK.1 hP 0 rfl rfl 4 (by decide) f34 (fun _ h9 => h9) rfl dX3_letsGo_94 ?_
            refine lv_iload_n hx hb dX3_letsGo_97 rfl (lv_at hl 5 rfl) ?_
            obtain ⟨hi, h⟩ := gdi h
            refine va_iald (D := g.1) hx hb hK.1 hP 12 0 rfl rfl hi dX3_letsGo_98 ?_
            refine lv_iconst (v := 1) hx hb dX3_letsGo_99 (by decide) ?_
            refine lv_icmp_ne (tgt := 108) hx hb dX3_letsGo_100 (by decide) (fun c100 => ?_) (fun c100 => ?_)
            ·
              replace h := gdn h c100
              refine lv_iload hx hb dX3_letsGo_108 (lv_at hl 2 rfl) ?_
              obtain ⟨hz, h⟩ := gdzb h
              obtain rfl := Option.some.inj h
              exact retPz hx hb hr hlocks hz dX3_letsGo_110
            ·
              replace h := gdp h c100
              refine lv_iload hx hb dX3_letsGo_103 (lv_at hl 1 rfl) ?_
              refine lv_goto (tgt := 110) hx hb dX3_letsGo_105 (by decide) ?_
              obtain rfl := Option.some.inj h
              exact retPz (v := (0 : Int32)) hx hb hr hlocks rfl dX3_letsGo_110
          ·
            replace h := gdp h c85
            refine lv_iload hx hb dX3_letsGo_88 (lv_at hl 0 rfl) ?_
            refine lv_goto (tgt := 110) hx hb dX3_letsGo_90 (by decide) ?_
            obtain rfl := Option.some.inj h
            exact retPz (v := (0 : Int32)) hx hb hr hlocks rfl dX3_letsGo_110
        ·
          exact absurd (by decide) c57
      ·
        replace h := gdn h c45
        refine lv_iconst (v := 1) hx hb dX3_letsGo_48 (by decide) ?_
        refine lv_goto (tgt := 53) hx hb dX3_letsGo_49 (by decide) ?_
        refine lv_istore (lv' := [(6, .int (1 : Int32)), (5, .int r28), (3, .long (r14 &&& ((fX3_bit x2) ^^^ (-1 : Int64)))), (0, .ref (a 0)), (1, .int x1), (2, .int x2)]) hx hb dX3_letsGo_53 hl (by decide) rfl (fun ls hl => ?_)
        refine lv_iload hx hb dX3_letsGo_55 (lv_at hl 0 rfl) ?_
        refine lv_if_eq (tgt := 75) hx hb dX3_letsGo_57 (by decide) (fun c57 => ?_) (fun c57 => ?_)
        ·
          exact absurd c57 (by decide)
        ·
          refine lv_aload_n hx hb dX3_letsGo_60 rfl (lv_at hl 3 rfl) ?_
          refine va_get (D := g.1) (ci := 3) (v := .ref (a 1)) (C := RX3) (T := TX3) (N := 8) hx hb hts iX3 hown hK.1 hP 0 rfl rfl 0 (by decide) f12 (fun _ h9 => h9) rfl dX3_letsGo_61 ?_
          refine lv_lload_n hx hb dX3_letsGo_64 rfl (lv_at hl 2 rfl) ?_
          obtain ⟨r65, hr65, h⟩ := gdb h
          refine kPV (As := [.long (r14 &&& ((fX3_bit x2) ^^^ (-1 : Int64)))]) (rest := []) (ci := 0) S (ctX0_isAtSea l g (a 1) (a 2) (r14 &&& ((fX3_bit x2) ^^^ (-1 : Int64))) gw gh gl r65 hr65) (cwV 1 hts gX3_letsGo_X0_isAtSea rfl rfl rfl (by decide +kernel) ⟨Nat.le_of_ble_eq_true rfl, Nat.le_of_ble_eq_true rfl⟩) hK hP [1, 2] rfl rfl rfl rfl rfl hl.1 rfl (Nat.le_of_ble_eq_true rfl) dX3_letsGo_65 ⟨Nat.zero_le _, Nat.zero_le _⟩ ?_
          refine lv_if_eq (tgt := 75) hx hb dX3_letsGo_68 (by decide) (fun c68 => ?_) (fun c68 => ?_)
          ·
            replace h := gdp h c68
            refine lv_iconst (v := 0) hx hb dX3_letsGo_75 (by decide) ?_
            refine lv_istore (lv' := [(7, .int (0 : Int32)), (6, .int (1 : Int32)), (5, .int r28), (3, .long (r14 &&& ((fX3_bit x2) ^^^ (-1 : Int64)))), (0, .ref (a 0)), (1, .int x1), (2, .int x2)]) hx hb dX3_letsGo_76 hl (by decide) rfl (fun ls hl => ?_)
            refine lv_aload_n hx hb dX3_letsGo_78 rfl (lv_at hl 4 rfl) ?_
            refine va_get (D := g.1) (ci := 3) (v := .ref (a 13)) (C := RX3) (T := TX3) (N := 8) hx hb hts iX3 hown hK.1 hP 0 rfl rfl 4 (by decide) f34 (fun _ h9 => h9) rfl dX3_letsGo_79 ?_
            refine lv_iload_n hx hb dX3_letsGo_82 rfl (lv_at hl 5 rfl) ?_
            obtain ⟨hi, h⟩ := gdi h
            refine va_iald (D := g.1) hx hb hK.1 hP 12 0 rfl rfl hi dX3_letsGo_83 ?_
            refine lv_iconst (v := 2) hx hb dX3_letsGo_84 (by decide) ?_
            refine lv_icmp_ne (tgt := 93) hx hb dX3_letsGo_85 (by decide) (fun c85 => ?_) (fun c85 => ?_)
            ·
              replace h := gdn h c85
              refine lv_aload_n hx hb dX3_letsGo_93 rfl (lv_at hl 4 rfl) ?_
              refine va_get (D := g.1) (ci := 3) (v := .ref (a 13)) (C := RX3) (T := TX3) (N := 8) hx hb hts iX3 hown hK.1 hP 0 rfl rfl 4 (by decide) f34 (fun _ h9 => h9) rfl dX3_letsGo_94 ?_
              refine lv_iload_n hx hb dX3_letsGo_97 rfl (lv_at hl 5 rfl) ?_
              obtain ⟨hi, h⟩ := gdi h
              refine va_iald (D := g.1) hx hb hK.1 hP 12 0 rfl rfl hi dX3_letsGo_98 ?_
              refine lv_iconst (v := 1) hx hb dX3_letsGo_99 (by decide) ?_
              refine lv_icmp_ne (tgt := 108) hx hb dX3_letsGo_100 (by decide) (fun c100 => ?_) (fun c100 => ?_)
              ·
                replace h := gdn h c100
                refine lv_iload hx hb dX3_letsGo_108 (lv_at hl 2 rfl) ?_
                obtain ⟨hz, h⟩ := gdzb h
                obtain rfl := Option.some.inj h
                exact retPz hx hb hr hlocks hz dX3_letsGo_110
              ·
                replace h := gdp h c100
                refine lv_iload hx hb dX3_letsGo_103 (lv_at hl 1 rfl) ?_
                refine lv_goto (tgt := 110) hx hb dX3_letsGo_105 (by decide) ?_
                obtain rfl := Option.some.inj h
                exact retPz (v := (1 : Int32)) hx hb hr hlocks rfl dX3_letsGo_110
            ·
              replace h := gdp h c85
              refine lv_iload hx hb dX3_letsGo_88 (lv_at hl 0 rfl) ?_
              refine lv_goto (tgt := 110) hx hb dX3_letsGo_90 (by decide) ?_
              obtain rfl := Option.some.inj h
              exact retPz (v := (0 : Int32)) hx hb hr hlocks rfl dX3_letsGo_110
          ·
            replace h := gdn h c68
            refine lv_iconst (v := 1) hx hb dX3_letsGo_71 (by decide) ?_
            refine lv_goto (tgt := 76) hx hb dX3_letsGo_72 (by decide) ?_
            refine lv_istore (lv' := [(7, .int (1 : Int32)), (6, .int (1 : Int32)), (5, .int r28), (3, .long (r14 &&& ((fX3_bit x2) ^^^ (-1 : Int64)))), (0, .ref (a 0)), (1, .int x1), (2, .int x2)]) hx hb dX3_letsGo_76 hl (by decide) rfl (fun ls hl => ?_)
            refine lv_aload_n hx hb dX3_letsGo_78 rfl (lv_at hl 4 rfl) ?_
            refine va_get (D := g.1) (ci := 3) (v := .ref (a 13)) (C := RX3) (T := TX3) (N := 8) hx hb hts iX3 hown hK.1 hP 0 rfl rfl 4 (by decide) f34 (fun _ h9 => h9) rfl dX3_letsGo_79 ?_
            refine lv_iload_n hx hb dX3_letsGo_82 rfl (lv_at hl 5 rfl) ?_
            obtain ⟨hi, h⟩ := gdi h
            refine va_iald (D := g.1) hx hb hK.1 hP 12 0 rfl rfl hi dX3_letsGo_83 ?_
            refine lv_iconst (v := 2) hx hb dX3_letsGo_84 (by decide) ?_
            refine lv_icmp_ne (tgt := 93) hx hb dX3_letsGo_85 (by decide) (fun c85 => ?_) (fun c85 => ?_)
            ·
              replace h := gdn h c85
              refine lv_aload_n hx hb dX3_letsGo_93 rfl (lv_at hl 4 rfl) ?_
              refine va_get (D := g.1) (ci := 3) (v := .ref (a 13)) (C := RX3) (T := TX3) (N := 8) hx hb hts iX3 hown hK.1 hP 0 rfl rfl 4 (by decide) f34 (fun _ h9 => h9) rfl dX3_letsGo_94 ?_
              refine lv_iload_n hx hb dX3_letsGo_97 rfl (lv_at hl 5 rfl) ?_
              obtain ⟨hi, h⟩ := gdi h
              refine va_iald (D := g.1) hx hb hK.1 hP 12 0 rfl rfl hi dX3_letsGo_98 ?_
              refine lv_iconst (v := 1) hx hb dX3_letsGo_99 (by decide) ?_
              refine lv_icmp_ne (tgt := 108) hx hb dX3_letsGo_100 (by decide) (fun c100 => ?_) (fun c100 => ?_)
              ·
                replace h := gdn h c100
                refine lv_iload hx hb dX3_letsGo_108 (lv_at hl 2 rfl) ?_
                obtain ⟨hz, h⟩ := gdzb h
                obtain rfl := Option.some.inj h
                exact retPz hx hb hr hlocks hz dX3_letsGo_110
              ·
                replace h := gdp h c100
                refine lv_iload hx hb dX3_letsGo_103 (lv_at hl 1 rfl) ?_
                refine lv_goto (tgt := 110) hx hb dX3_letsGo_105 (by decide) ?_
                obtain rfl := Option.some.inj h
                exact retPz (v := (1 : Int32)) hx hb hr hlocks rfl dX3_letsGo_110
            ·
              replace h := gdp h c85
              refine lv_iload hx hb dX3_letsGo_88 (lv_at hl 0 rfl) ?_
              refine lv_goto (tgt := 110) hx hb dX3_letsGo_90 (by decide) ?_
              obtain rfl := Option.some.inj h
              exact retPz (v := (1 : Int32)) hx hb hr hlocks rfl dX3_letsGo_110
  ·
    replace h := gdp h c4
    refine lv_iconst (v := 0) hx hb dX3_letsGo_7 (by decide) ?_
    obtain rfl := Option.some.inj h
    exact retPz (v := (0 : Int32)) hx hb hr hlocks rfl dX3_letsGo_8
-- LandBoard.leaves
set_option maxHeartbeats 4000000 in
set_option maxRecDepth 100000 in
theorem ctX3_leaves (l : Launch) (g : GG) (a : Nat → Nat) (x1 : Int32) (x2 : Int32) (ask : Int64) (gw : Int32) (gh : Int32) (gl : (Nat → Int64)) (top : Int32) (kep : Int32) (don : Int32) (vc : (Nat → Int32)) (vf : (Nat → Int32)) (bx : Int32) (tt : Int32) (pl : (Nat → Int32)) (we : (Nat → Int32)) (le : (Nat → Int32)) (ab : (Nat → Int32)) (rw : (Nat → Int32)) (ki : (Nat → Int32)) (ow : (Nat → Int32)) (wa : (Nat → Int32)) (res : Int32 × Int64) (h : fX3_leaves x1 x2 ask gw gh gl ki ow = some res) : MM l yX3_leaves wsX3_leaves ({ frames := 4, cells := 0, slots := 0, locals := 95 }) g [.ref (a 0), .int x1, .int x2] (wB g a ask gw gh gl top kep don vc vf bx tt pl we le ab rw ki ow wa) (wB g a res.2 gw gh gl top kep don vc vf bx tt pl we le ab rw ki ow wa) (some (.int res.1)) := by
  refine MM.of (cc := cX3_leaves) (own := RX3) 4 (some .int) (by decide +kernel) rfl (Nat.le_of_ble_eq_true rfl) rfl ?_
  intro p e s m args below meth c hx hb hr hml hown hts hlocks hK A hA ls hl hP hD hS
  have S : CallFix p m c cX3_leaves 4 s args wsX3_leaves RX3 := ⟨hx, hb, hml, hown, hts⟩
  have hl : lv_has ls 4 [(0, .ref (a 0)), (1, .int x1), (2, .int x2)] := hl
  have f107 := hts (.fieldLink RX3 107 "LandBoard" "asked" "J") (by decide +kernel)
  have iX3 := (by decide +kernel : ∀ w ∈ u_ws RX3 TX3 8, w ∈ wsX3_leaves)
  have f34 := hts (.fieldLink RX3 34 "LandBoard" "kinds" "[I") (by decide +kernel)
  refine lv_aload_n hx hb dX3_leaves_0 rfl (lv_at hl 0 rfl) ?_
  refine lv_iload_n hx hb dX3_leaves_1 rfl (lv_at hl 1 rfl) ?_
  refine lv_iload_n hx hb dX3_leaves_2 rfl (lv_at hl 2 rfl) ?_
  obtain ⟨r3, hr3, h⟩ := gdb h
  refine kPV (As := [.int x1, .int x2]) (rest := []) (ci := 3) S (ctX3_at l g a x1 x2 ask gw gh gl top kep don vc vf bx tt pl we le ab rw ki ow wa r3 hr3) (cwV 2 hts gX3_leaves_X3_at rfl rfl rfl (by decide +kernel) ⟨Nat.le_of_ble_eq_true rfl, Nat.le_of_ble_eq_true rfl⟩) hK hP [0, 1, 2, 3, 4, 5, 6, 7, 8, 9, 10, 11, 12, 13, 14] rfl rfl rfl rfl rfl hl.1 rfl (Nat.le_of_ble_eq_true rfl) dX3_leaves_3 ⟨Nat.zero_le _, Nat.zero_le _⟩ ?_
  refine lv_istore_n (lv' := [(3, .int r3), (0, .ref (a 0)), (1, .int x1), (2, .int x2)]) hx hb dX3_leaves_6 rfl hl (by decide) rfl (fun ls hl => ?_)
  refine lv_iload_n hx hb dX3_leaves_7 rfl (lv_at hl 0 rfl) ?_
  refine kPS (As := [.int r3]) (rest := []) S (ctX3_isLand l g r3  (fX3_isLand r3) rfl) (va_cwS 1 hts gX3_leaves_X3_isLand rfl rfl rfl (by decide +kernel) ⟨Nat.le_of_ble_eq_true rfl, Nat.le_of_ble_eq_true rfl⟩) hK rfl rfl hl.1 rfl (Nat.le_of_ble_eq_true rfl) dX3_leaves_8 ⟨Nat.zero_le _, Nat.zero_le _⟩ ?_
  refine lv_if_ne (tgt := 16) hx hb dX3_leaves_11 (by decide) (fun c11 => ?_) (fun c11 => ?_)
  ·
    replace h := gdn h c11
    refine lv_aload_n hx hb dX3_leaves_16 rfl (lv_at hl 1 rfl) ?_
    refine lv_dup hx hb dX3_leaves_17 rfl ?_
    refine va_get (D := g.1) (ci := 3) (v := .long ask) (C := RX3) (T := TX3) (N := 8) hx hb hts iX3 hown hK.1 hP 0 rfl rfl 7 (by decide) f107 (fun _ h9 => h9) rfl dX3_leaves_18 ?_
    refine lv_aload_n hx hb dX3_leaves_21 rfl (lv_at hl 1 rfl) ?_
    refine va_get (D := g.1) (ci := 3) (v := .ref (a 13)) (C := RX3) (T := TX3) (N := 8) hx hb hts iX3 hown hK.1 hP 0 rfl rfl 4 (by decide) f34 (fun _ h9 => h9) rfl dX3_leaves_22 ?_
    refine lv_iload_n hx hb dX3_leaves_25 rfl (lv_at hl 0 rfl) ?_
    obtain ⟨hi, h⟩ := gdi h
    refine va_iald (D := g.1) hx hb hK.1 hP 12 0 rfl rfl hi dX3_leaves_26 ?_
    refine kPS (As := [.int (ki (r3).toNatClampNeg)]) (rest := [.long ask, .ref (a 0)]) S (ctX3_bodiesAsked l g (ki (r3).toNatClampNeg)  (fX3_bodiesAsked (ki (r3).toNatClampNeg)) rfl) (va_cwS 1 hts gX3_leaves_X3_bodiesAsked rfl rfl rfl (by decide +kernel) ⟨Nat.le_of_ble_eq_true rfl, Nat.le_of_ble_eq_true rfl⟩) hK rfl rfl hl.1 rfl (Nat.le_of_ble_eq_true rfl) dX3_leaves_27 ⟨Nat.zero_le _, Nat.zero_le _⟩ ?_
    refine lv_i2l (v := ((fX3_bodiesAsked (ki (r3).toNatClampNeg))).toInt64) hx hb dX3_leaves_30 rfl ?_
    refine lv_ladd hx hb dX3_leaves_31 ?_
    refine va_put (D := g.1) (ci := 3) (v := .long (ask + ((fX3_bodiesAsked (ki (r3).toNatClampNeg))).toInt64)) (ty := .long) (C := RX3) (T := TX3) (N := 8) hx hb hts iX3 tyX3 tyX3_ok nmX3 hown hK.1 hP hD hS 0 rfl rfl 7 (by decide) f107 (fun _ h9 => h9) rfl (by decide +kernel) rfl rfl (Nat.le_of_ble_eq_true rfl) dX3_leaves_32 (fun H locs hP hD hS => ?_)
    have hP : va_P g.1 vwCl (wB g a (ask + ((fX3_bodiesAsked (ki (r3).toNatClampNeg))).toInt64) gw gh gl top kep don vc vf bx tt pl we le ab rw ki ow wa) H := hP
    have hD : va_D A (wB g a (ask + ((fX3_bodiesAsked (ki (r3).toNatClampNeg))).toInt64) gw gh gl top kep don vc vf bx tt pl we le ab rw ki ow wa) := hD
    refine lv_aload_n hx hb dX3_leaves_35 rfl (lv_at hl 1 rfl) ?_
    refine lv_iload_n hx hb dX3_leaves_36 rfl (lv_at hl 0 rfl) ?_
    refine lv_iload_n hx hb dX3_leaves_37 rfl (lv_at hl 2 rfl) ?_
    refine lv_iload_n hx hb dX3_leaves_38 rfl (lv_at hl 3 rfl) ?_
    refine kPS (As := [.int x1, .int x2]) (rest := [.int r3, .ref (a 0)]) S (ctX3_cellAt l g x1 x2  (fX3_cellAt x1 x2) rfl) (va_cwS 2 hts gX3_leaves_X3_cellAt rfl rfl rfl (by decide +kernel) ⟨Nat.le_of_ble_eq_true rfl, Nat.le_of_ble_eq_true rfl⟩) hK rfl rfl hl.1 rfl (Nat.le_of_ble_eq_true rfl) dX3_leaves_39 ⟨Nat.zero_le _, Nat.zero_le _⟩ ?_
    obtain ⟨r42, hr42, h⟩ := gdb h
    refine kPV (As := [.int r3, .int (fX3_cellAt x1 x2)]) (rest := []) (ci := 3) S (ctX3_letsGo l g a r3 (fX3_cellAt x1 x2) (ask + ((fX3_bodiesAsked (ki (r3).toNatClampNeg))).toInt64) gw gh gl top kep don vc vf bx tt pl we le ab rw ki ow wa r42 hr42) (cwV 2 hts gX3_leaves_X3_letsGo rfl rfl rfl (by decide +kernel) ⟨Nat.le_of_ble_eq_true rfl, Nat.le_of_ble_eq_true rfl⟩) hK hP [0, 1, 2, 3, 4, 5, 6, 7, 8, 9, 10, 11, 12, 13, 14] rfl rfl rfl rfl rfl hl.1 rfl (Nat.le_of_ble_eq_true rfl) dX3_leaves_42 ⟨Nat.zero_le _, Nat.zero_le _⟩ ?_
    refine kPS (As := [.int r42]) (rest := []) S (ctX3_answer l g r42  (fX3_answer r42) rfl) (va_cwS 1 hts gX3_leaves_X3_answer rfl rfl rfl (by decide +kernel) ⟨Nat.le_of_ble_eq_true rfl, Nat.le_of_ble_eq_true rfl⟩) hK rfl rfl hl.1 rfl (Nat.le_of_ble_eq_true rfl) dX3_leaves_45 ⟨Nat.zero_le _, Nat.zero_le _⟩ ?_
    obtain rfl := Option.some.inj h
    exact retMi hx hb hr hlocks hP hD hS dX3_leaves_48
  ·
    replace h := gdp h c11
    refine lv_iconst (v := -1) hx hb dX3_leaves_14 (by decide) ?_
    obtain rfl := Option.some.inj h
    exact retMi (v := (-1 : Int32)) hx hb hr hlocks hP hD hS dX3_leaves_15
-- LandBoard.canGo
set_option maxHeartbeats 4000000 in
set_option maxRecDepth 100000 in
theorem ctX3_canGo (l : Launch) (g : GG) (a : Nat → Nat) (x1 : Int32) (x2 : Int32) (ask : Int64) (gw : Int32) (gh : Int32) (gl : (Nat → Int64)) (top : Int32) (kep : Int32) (don : Int32) (vc : (Nat → Int32)) (vf : (Nat → Int32)) (bx : Int32) (tt : Int32) (pl : (Nat → Int32)) (we : (Nat → Int32)) (le : (Nat → Int32)) (ab : (Nat → Int32)) (rw : (Nat → Int32)) (ki : (Nat → Int32)) (ow : (Nat → Int32)) (wa : (Nat → Int32)) (res : Int32 × (Nat → Int64)) (h : fX3_canGo x1 x2 gl ki ow = some res) : MM l yX3_canGo wsX3_canGo ({ frames := 4, cells := 0, slots := 0, locals := 95 }) g [.ref (a 0), .int x1, .int x2] (wB g a ask gw gh gl top kep don vc vf bx tt pl we le ab rw ki ow wa) (wB g a ask gw gh res.2 top kep don vc vf bx tt pl we le ab rw ki ow wa) (some (.int res.1)) := by
  refine MM.of (cc := cX3_canGo) (own := RX3) 8 (some .boolean) (by decide +kernel) rfl (Nat.le_of_ble_eq_true rfl) rfl ?_
  intro p e s m args below meth c hx hb hr hml hown hts hlocks hK A hA ls hl hP hD hS
  have S : CallFix p m c cX3_canGo 8 s args wsX3_canGo RX3 := ⟨hx, hb, hml, hown, hts⟩
  have hl : lv_has ls 8 [(0, .ref (a 0)), (1, .int x1), (2, .int x2)] := hl
  have f12 := hts (.fieldLink RX3 12 "LandBoard" "now" "LLandBoard$Grid;") (by decide +kernel)
  have iX3 := (by decide +kernel : ∀ w ∈ u_ws RX3 TX3 8, w ∈ wsX3_canGo)
  refine lv_aload_n hx hb dX3_canGo_0 rfl (lv_at hl 0 rfl) ?_
  refine va_get (D := g.1) (ci := 3) (v := .ref (a 1)) (C := RX3) (T := TX3) (N := 8) hx hb hts iX3 hown hK.1 hP 0 rfl rfl 0 (by decide) f12 (fun _ h9 => h9) rfl dX3_canGo_1 ?_
  refine lv_iload_n hx hb dX3_canGo_4 rfl (lv_at hl 1 rfl) ?_
  obtain ⟨r5, hr5, h⟩ := gdb h
  refine kPV (As := [.int x1]) (rest := []) (ci := 0) S (ctX0_landOf l g (a 1) (a 2) x1 gw gh gl r5 hr5) (cwV 1 hts gX3_canGo_X0_landOf rfl rfl rfl (by decide +kernel) ⟨Nat.le_of_ble_eq_true rfl, Nat.le_of_ble_eq_true rfl⟩) hK hP [1, 2] rfl rfl rfl rfl rfl hl.1 rfl (Nat.le_of_ble_eq_true rfl) dX3_canGo_5 ⟨Nat.zero_le _, Nat.zero_le _⟩ ?_
  refine lv_istore_n (lv' := [(3, .int r5), (0, .ref (a 0)), (1, .int x1), (2, .int x2)]) hx hb dX3_canGo_8 rfl hl (by decide) rfl (fun ls hl => ?_)
  refine lv_iload_n hx hb dX3_canGo_9 rfl (lv_at hl 0 rfl) ?_
  refine lv_bipush (v := -4) hx hb dX3_canGo_10 (by decide) ?_
  refine lv_icmp_eq (tgt := 50) hx hb dX3_canGo_12 (by decide) (fun c12 => ?_) (fun c12 => ?_)
  ·
    replace h := gdp h c12
    refine lv_iconst (v := 0) hx hb dX3_canGo_50 (by decide) ?_
    obtain rfl := Option.some.inj h
    exact retMz (v := (0 : Int32)) hx hb hr hlocks rfl hP hD hS dX3_canGo_51
  ·
    replace h := gdn h c12
    refine lv_iload_n hx hb dX3_canGo_15 rfl (lv_at hl 0 rfl) ?_
    refine lv_iload_n hx hb dX3_canGo_16 rfl (lv_at hl 3 rfl) ?_
    refine lv_icmp_eq (tgt := 50) hx hb dX3_canGo_17 (by decide) (fun c17 => ?_) (fun c17 => ?_)
    ·
      replace h := gdp h c17
      refine lv_iconst (v := 0) hx hb dX3_canGo_50 (by decide) ?_
      obtain rfl := Option.some.inj h
      exact retMz (v := (0 : Int32)) hx hb hr hlocks rfl hP hD hS dX3_canGo_51
    ·
      replace h := gdn h c17
      refine lv_iload_n hx hb dX3_canGo_20 rfl (lv_at hl 2 rfl) ?_
      refine kPS (As := [.int x1]) (rest := []) S (ctX3_bit l g x1  (fX3_bit x1) rfl) (va_cwS 1 hts gX3_canGo_X3_bit rfl rfl rfl (by decide +kernel) ⟨Nat.le_of_ble_eq_true rfl, Nat.le_of_ble_eq_true rfl⟩) hK rfl rfl hl.1 rfl (Nat.le_of_ble_eq_true rfl) dX3_canGo_21 ⟨Nat.zero_le _, Nat.zero_le _⟩ ?_
      refine kPS (As := [.long (fX3_bit x1)]) (rest := []) S (ctX3_around l g (fX3_bit x1)  (fX3_around (fX3_bit x1)) rfl) (va_cwS 1 hts gX3_canGo_X3_around rfl rfl rfl (by decide +kernel) ⟨Nat.le_of_ble_eq_true rfl, Nat.le_of_ble_eq_true rfl⟩) hK rfl rfl hl.1 rfl (Nat.le_of_ble_eq_true rfl) dX3_canGo_24 ⟨Nat.zero_le _, Nat.zero_le _⟩ ?_
      refine lv_aload_n hx hb dX3_canGo_27 rfl (lv_at hl 1 rfl) ?_
      refine va_get (D := g.1) (ci := 3) (v := .ref (a 1)) (C := RX3) (T := TX3) (N := 8) hx hb hts iX3 hown hK.1 hP 0 rfl rfl 0 (by decide) f12 (fun _ h9 => h9) rfl dX3_canGo_28 ?_
      refine lv_iload_n hx hb dX3_canGo_31 rfl (lv_at hl 3 rfl) ?_
      obtain ⟨r32, hr32, h⟩ := gdb h
      refine kPV (As := [.int x2]) (rest := [.long (fX3_around (fX3_bit x1))]) (ci := 0) S (ctX0_cellsOf l g (a 1) (a 2) x2 gw gh gl r32 hr32) (cwV 1 hts gX3_canGo_X0_cellsOf rfl rfl rfl (by decide +kernel) ⟨Nat.le_of_ble_eq_true rfl, Nat.le_of_ble_eq_true rfl⟩) hK hP [1, 2] rfl rfl rfl rfl rfl hl.1 rfl (Nat.le_of_ble_eq_true rfl) dX3_canGo_32 ⟨Nat.zero_le _, Nat.zero_le _⟩ ?_
      refine lv_land hx hb dX3_canGo_35 ?_
      refine lv_lconst (v := 0) hx hb dX3_canGo_36 (by decide) ?_
      refine W.lcmp hx hb dX3_canGo_37 ?_
      refine lv_if_eq (tgt := 50) hx hb dX3_canGo_38 (by decide) (fun c38 => ?_) (fun c38 => ?_)
      ·
        replace h := gdp h c38
        refine lv_iconst (v := 0) hx hb dX3_canGo_50 (by decide) ?_
        obtain rfl := Option.some.inj h
        exact retMz (v := (0 : Int32)) hx hb hr hlocks rfl hP hD hS dX3_canGo_51
      ·
        replace h := gdn h c38
        refine lv_aload_n hx hb dX3_canGo_41 rfl (lv_at hl 1 rfl) ?_
        refine lv_iload_n hx hb dX3_canGo_42 rfl (lv_at hl 0 rfl) ?_
        refine lv_iload_n hx hb dX3_canGo_43 rfl (lv_at hl 2 rfl) ?_
        obtain ⟨r44, hr44, h⟩ := gdb h
        refine kPV (As := [.int r5, .int x1]) (rest := []) (ci := 3) S (ctX3_letsGo l g a r5 x1 ask gw gh gl top kep don vc vf bx tt pl we le ab rw ki ow wa r44 hr44) (cwV 2 hts gX3_canGo_X3_letsGo rfl rfl rfl (by decide +kernel) ⟨Nat.le_of_ble_eq_true rfl, Nat.le_of_ble_eq_true rfl⟩) hK hP [0, 1, 2, 3, 4, 5, 6, 7, 8, 9, 10, 11, 12, 13, 14] rfl rfl rfl rfl rfl hl.1 rfl (Nat.le_of_ble_eq_true rfl) dX3_canGo_44 ⟨Nat.zero_le _, Nat.zero_le _⟩ ?_
        refine lv_if_ne (tgt := 52) hx hb dX3_canGo_47 (by decide) (fun c47 => ?_) (fun c47 => ?_)
        ·
          replace h := gdn h c47
          refine lv_aload_n hx hb dX3_canGo_52 rfl (lv_at hl 1 rfl) ?_
          refine va_get (D := g.1) (ci := 3) (v := .ref (a 1)) (C := RX3) (T := TX3) (N := 8) hx hb hts iX3 hown hK.1 hP 0 rfl rfl 0 (by decide) f12 (fun _ h9 => h9) rfl dX3_canGo_53 ?_
          obtain ⟨r56, hr56, h⟩ := gdb h
          refine kPV (As := []) (rest := []) (ci := 0) S (ctX0_touching l g (a 1) (a 2)  gw gh gl r56 hr56) (cwV 0 hts gX3_canGo_X0_touching rfl rfl rfl (by decide +kernel) ⟨Nat.le_of_ble_eq_true rfl, Nat.le_of_ble_eq_true rfl⟩) hK hP [1, 2] rfl rfl rfl rfl rfl hl.1 rfl (Nat.le_of_ble_eq_true rfl) dX3_canGo_56 ⟨Nat.zero_le _, Nat.zero_le _⟩ ?_
          refine lv_lstore (lv' := [(4, .long r56), (3, .int r5), (0, .ref (a 0)), (1, .int x1), (2, .int x2)]) hx hb dX3_canGo_59 hl (by decide) rfl (fun ls hl => ?_)
          refine lv_aload_n hx hb dX3_canGo_61 rfl (lv_at hl 2 rfl) ?_
          refine va_get (D := g.1) (ci := 3) (v := .ref (a 1)) (C := RX3) (T := TX3) (N := 8) hx hb hts iX3 hown hK.1 hP 0 rfl rfl 0 (by decide) f12 (fun _ h9 => h9) rfl dX3_canGo_62 ?_
          refine lv_iload_n hx hb dX3_canGo_65 rfl (lv_at hl 3 rfl) ?_
          refine lv_iload_n hx hb dX3_canGo_66 rfl (lv_at hl 4 rfl) ?_
          obtain ⟨r67, hr67, h⟩ := gdb h
          refine kMV (As := [.int x1, .int x2]) (rest := []) (ci := 0) (W1 := (wB g a ask gw gh r67 top kep don vc vf bx tt pl we le ab rw ki ow wa)) (wr := [((a 0), .inr (3, [.ref (a 1), .ref (a 3), .ref (a 6), .ref (a 12), .ref (a 13), .ref (a 14), .ref (a 15), .long ask])), ((a 3), .inr (1, [.ref (a 4), .ref (a 5), .int top, .int kep, .int don])), ((a 4), .inl (g.2.1, 100, .inl vc)), ((a 5), .inl (g.2.1, 100, .inl vf)), ((a 6), .inr (2, [.ref (a 7), .ref (a 8), .ref (a 9), .ref (a 10), .ref (a 11), .int bx, .int tt])), ((a 7), .inl (g.2.1, 6, .inl pl)), ((a 8), .inl (g.2.1, 6, .inl we)), ((a 9), .inl (g.2.1, 6, .inl le)), ((a 10), .inl (g.2.1, 6, .inl ab)), ((a 11), .inl (g.2.1, 6, .inl rw)), ((a 13), .inl (g.2.1, 6, .inl ki)), ((a 14), .inl (g.2.1, 6, .inl ow)), ((a 15), .inl (g.2.1, 6, .inl wa))]) S (ctX0_put l g (a 1) (a 2) x1 x2 gw gh gl r67 hr67) (cwV 2 hts gX3_canGo_X0_put rfl rfl rfl (by decide +kernel) ⟨Nat.le_of_ble_eq_true rfl, Nat.le_of_ble_eq_true rfl⟩) hK hP hD hS hA [1, 2] [0, 3, 4, 5, 6, 7, 8, 9, 10, 11, 12, 13, 14] [0, 13, 14, 1, 2, 3, 4, 5, 6, 7, 8, 9, 10, 11, 12] rfl rfl rfl rfl (by decide) rfl rfl rfl rfl rfl rfl hl.1 rfl (Nat.le_of_ble_eq_true rfl) dX3_canGo_67 ⟨Nat.zero_le _, Nat.zero_le _⟩ (fun H locs hP hD hS => ?_)
          show W p l e ({ frames := 4, cells := 0, slots := 0, locals := 95 }) s m args below meth c H locs 0 0 (MQ below (QM g (some (.int res.1)) (wB g a ask gw gh res.2 top kep don vc vf bx tt pl we le ab rw ki ow wa) A) args s 0 0 A) (F0 m 70 ls [])
          refine lv_aload_n hx hb dX3_canGo_70 rfl (lv_at hl 2 rfl) ?_
          refine va_get (D := g.1) (ci := 3) (v := .ref (a 1)) (C := RX3) (T := TX3) (N := 8) hx hb hts iX3 hown hK.1 hP 0 rfl rfl 0 (by decide) f12 (fun _ h9 => h9) rfl dX3_canGo_71 ?_
          obtain ⟨r74, hr74, h⟩ := gdb h
          refine kPV (As := []) (rest := []) (ci := 0) S (ctX0_touching l g (a 1) (a 2)  gw gh r67 r74 hr74) (cwV 0 hts gX3_canGo_X0_touching rfl rfl rfl (by decide +kernel) ⟨Nat.le_of_ble_eq_true rfl, Nat.le_of_ble_eq_true rfl⟩) hK hP [1, 2] rfl rfl rfl rfl rfl hl.1 rfl (Nat.le_of_ble_eq_true rfl) dX3_canGo_74 ⟨Nat.zero_le _, Nat.zero_le _⟩ ?_
          refine lv_lstore (lv' := [(6, .long r74), (4, .long r56), (3, .int r5), (0, .ref (a 0)), (1, .int x1), (2, .int x2)]) hx hb dX3_canGo_77 hl (by decide) rfl (fun ls hl => ?_)
          refine lv_aload_n hx hb dX3_canGo_79 rfl (lv_at hl 3 rfl) ?_
          refine va_get (D := g.1) (ci := 3) (v := .ref (a 1)) (C := RX3) (T := TX3) (N := 8) hx hb hts iX3 hown hK.1 hP 0 rfl rfl 0 (by decide) f12 (fun _ h9 => h9) rfl dX3_canGo_80 ?_
          refine lv_iload_n hx hb dX3_canGo_83 rfl (lv_at hl 4 rfl) ?_
          refine lv_iload_n hx hb dX3_canGo_84 rfl (lv_at hl 2 rfl) ?_
          obtain ⟨r85, hr85, h⟩ := gdb h
          refine kMV (As := [.int x1, .int r5]) (rest := []) (ci := 0) (W1 := (wB g a ask gw gh r85 top kep don vc vf bx tt pl we le ab rw ki ow wa)) (wr := [((a 0), .inr (3, [.ref (a 1), .ref (a 3), .ref (a 6), .ref (a 12), .ref (a 13), .ref (a 14), .ref (a 15), .long ask])), ((a 3), .inr (1, [.ref (a 4), .ref (a 5), .int top, .int kep, .int don])), ((a 4), .inl (g.2.1, 100, .inl vc)), ((a 5), .inl (g.2.1, 100, .inl vf)), ((a 6), .inr (2, [.ref (a 7), .ref (a 8), .ref (a 9), .ref (a 10), .ref (a 11), .int bx, .int tt])), ((a 7), .inl (g.2.1, 6, .inl pl)), ((a 8), .inl (g.2.1, 6, .inl we)), ((a 9), .inl (g.2.1, 6, .inl le)), ((a 10), .inl (g.2.1, 6, .inl ab)), ((a 11), .inl (g.2.1, 6, .inl rw)), ((a 13), .inl (g.2.1, 6, .inl ki)), ((a 14), .inl (g.2.1, 6, .inl ow)), ((a 15), .inl (g.2.1, 6, .inl wa))]) S (ctX0_put l g (a 1) (a 2) x1 r5 gw gh r67 r85 hr85) (cwV 2 hts gX3_canGo_X0_put rfl rfl rfl (by decide +kernel) ⟨Nat.le_of_ble_eq_true rfl, Nat.le_of_ble_eq_true rfl⟩) hK hP hD hS hA [1, 2] [0, 3, 4, 5, 6, 7, 8, 9, 10, 11, 12, 13, 14] [0, 13, 14, 1, 2, 3, 4, 5, 6, 7, 8, 9, 10, 11, 12] rfl rfl rfl rfl (by decide) rfl rfl rfl rfl rfl rfl hl.1 rfl (Nat.le_of_ble_eq_true rfl) dX3_canGo_85 ⟨Nat.zero_le _, Nat.zero_le _⟩ (fun H locs hP hD hS => ?_)
          show W p l e ({ frames := 4, cells := 0, slots := 0, locals := 95 }) s m args below meth c H locs 0 0 (MQ below (QM g (some (.int res.1)) (wB g a ask gw gh res.2 top kep don vc vf bx tt pl we le ab rw ki ow wa) A) args s 0 0 A) (F0 m 88 ls [])
          refine lv_lload hx hb dX3_canGo_88 (lv_at hl 1 rfl) ?_
          refine lv_lload hx hb dX3_canGo_90 (lv_at hl 0 rfl) ?_
          refine W.lcmp hx hb dX3_canGo_92 ?_
          refine lv_if_ne (tgt := 100) hx hb dX3_canGo_93 (by decide) (fun c93 => ?_) (fun c93 => ?_)
          ·
            replace h := gdn h c93
            refine lv_iconst (v := 0) hx hb dX3_canGo_100 (by decide) ?_
            obtain rfl := Option.some.inj h
            exact retMz (v := (0 : Int32)) hx hb hr hlocks rfl hP hD hS dX3_canGo_101
          ·
            replace h := gdp h c93
            refine lv_iconst (v := 1) hx hb dX3_canGo_96 (by decide) ?_
            refine lv_goto (tgt := 101) hx hb dX3_canGo_97 (by decide) ?_
            obtain rfl := Option.some.inj h
            exact retMz (v := (1 : Int32)) hx hb hr hlocks rfl hP hD hS dX3_canGo_101
        ·
          replace h := gdp h c47
          refine lv_iconst (v := 0) hx hb dX3_canGo_50 (by decide) ?_
          obtain rfl := Option.some.inj h
          exact retMz (v := (0 : Int32)) hx hb hr hlocks rfl hP hD hS dX3_canGo_51
-- LandBoard.may
set_option maxHeartbeats 4000000 in
set_option maxRecDepth 100000 in
theorem ctX3_may (l : Launch) (g : GG) (a : Nat → Nat) (x1 : Int32) (x2 : Int32) (x3 : Int32) (ask : Int64) (gw : Int32) (gh : Int32) (gl : (Nat → Int64)) (top : Int32) (kep : Int32) (don : Int32) (vc : (Nat → Int32)) (vf : (Nat → Int32)) (bx : Int32) (tt : Int32) (pl : (Nat → Int32)) (we : (Nat → Int32)) (le : (Nat → Int32)) (ab : (Nat → Int32)) (rw : (Nat → Int32)) (ki : (Nat → Int32)) (ow : (Nat → Int32)) (wa : (Nat → Int32)) (res : Int32 × (Nat → Int64)) (h : fX3_may x1 x2 x3 gw gh gl ki ow = some res) : MM l yX3_may wsX3_may ({ frames := 5, cells := 0, slots := 0, locals := 122 }) g [.ref (a 0), .int x1, .int x2, .int x3] (wB g a ask gw gh gl top kep don vc vf bx tt pl we le ab rw ki ow wa) (wB g a ask gw gh res.2 top kep don vc vf bx tt pl we le ab rw ki ow wa) (some (.int res.1)) := by
  refine MM.of (cc := cX3_may) (own := RX3) 4 (some .int) (by decide +kernel) rfl (Nat.le_of_ble_eq_true rfl) rfl ?_
  intro p e s m args below meth c hx hb hr hml hown hts hlocks hK A hA ls hl hP hD hS
  have S : CallFix p m c cX3_may 4 s args wsX3_may RX3 := ⟨hx, hb, hml, hown, hts⟩
  have hl : lv_has ls 4 [(0, .ref (a 0)), (1, .int x1), (2, .int x2), (3, .int x3)] := hl
  have f12 := hts (.fieldLink RX3 12 "LandBoard" "now" "LLandBoard$Grid;") (by decide +kernel)
  have iX3 := (by decide +kernel : ∀ w ∈ u_ws RX3 TX3 8, w ∈ wsX3_may)
  refine lv_aload_n hx hb dX3_may_0 rfl (lv_at hl 0 rfl) ?_
  refine va_get (D := g.1) (ci := 3) (v := .ref (a 1)) (C := RX3) (T := TX3) (N := 8) hx hb hts iX3 hown hK.1 hP 0 rfl rfl 0 (by decide) f12 (fun _ h9 => h9) rfl dX3_may_1 ?_
  refine lv_iload_n hx hb dX3_may_4 rfl (lv_at hl 1 rfl) ?_
  refine lv_iload_n hx hb dX3_may_5 rfl (lv_at hl 2 rfl) ?_
  refine kPV (As := [.int x1, .int x2]) (rest := []) (ci := 0) S (ctX0_has l g (a 1) (a 2) x1 x2 gw gh gl (fX0_has x1 x2 gw gh) rfl) (cwV 2 hts gX3_may_X0_has rfl rfl rfl (by decide +kernel) ⟨Nat.le_of_ble_eq_true rfl, Nat.le_of_ble_eq_true rfl⟩) hK hP [1, 2] rfl rfl rfl rfl rfl hl.1 rfl (Nat.le_of_ble_eq_true rfl) dX3_may_6 ⟨Nat.zero_le _, Nat.zero_le _⟩ ?_
  refine lv_if_eq (tgt := 35) hx hb dX3_may_9 (by decide) (fun c9 => ?_) (fun c9 => ?_)
  ·
    replace h := gdp h c9
    refine lv_iconst (v := -1) hx hb dX3_may_35 (by decide) ?_
    obtain rfl := Option.some.inj h
    exact retMi (v := (-1 : Int32)) hx hb hr hlocks hP hD hS dX3_may_36
  ·
    replace h := gdn h c9
    refine lv_iload_n hx hb dX3_may_12 rfl (lv_at hl 3 rfl) ?_
    refine kPS (As := [.int x3]) (rest := []) S (ctX3_isLand l g x3  (fX3_isLand x3) rfl) (va_cwS 1 hts gX3_may_X3_isLand rfl rfl rfl (by decide +kernel) ⟨Nat.le_of_ble_eq_true rfl, Nat.le_of_ble_eq_true rfl⟩) hK rfl rfl hl.1 rfl (Nat.le_of_ble_eq_true rfl) dX3_may_13 ⟨Nat.zero_le _, Nat.zero_le _⟩ ?_
    refine lv_if_eq (tgt := 35) hx hb dX3_may_16 (by decide) (fun c16 => ?_) (fun c16 => ?_)
    ·
      replace h := gdp h c16
      refine lv_iconst (v := -1) hx hb dX3_may_35 (by decide) ?_
      obtain rfl := Option.some.inj h
      exact retMi (v := (-1 : Int32)) hx hb hr hlocks hP hD hS dX3_may_36
    ·
      replace h := gdn h c16
      refine lv_aload_n hx hb dX3_may_19 rfl (lv_at hl 0 rfl) ?_
      refine lv_iload_n hx hb dX3_may_20 rfl (lv_at hl 1 rfl) ?_
      refine lv_iload_n hx hb dX3_may_21 rfl (lv_at hl 2 rfl) ?_
      refine kPS (As := [.int x1, .int x2]) (rest := [.ref (a 0)]) S (ctX3_cellAt l g x1 x2  (fX3_cellAt x1 x2) rfl) (va_cwS 2 hts gX3_may_X3_cellAt rfl rfl rfl (by decide +kernel) ⟨Nat.le_of_ble_eq_true rfl, Nat.le_of_ble_eq_true rfl⟩) hK rfl rfl hl.1 rfl (Nat.le_of_ble_eq_true rfl) dX3_may_22 ⟨Nat.zero_le _, Nat.zero_le _⟩ ?_
      refine lv_iload_n hx hb dX3_may_25 rfl (lv_at hl 3 rfl) ?_
      obtain ⟨r26, hr26, h⟩ := gdb h
      refine kMV (As := [.int (fX3_cellAt x1 x2), .int x3]) (rest := []) (ci := 3) (W1 := (wB g a ask gw gh r26.2 top kep don vc vf bx tt pl we le ab rw ki ow wa)) (wr := []) S (ctX3_canGo l g a (fX3_cellAt x1 x2) x3 ask gw gh gl top kep don vc vf bx tt pl we le ab rw ki ow wa r26 hr26) (cwV 2 hts gX3_may_X3_canGo rfl rfl rfl (by decide +kernel) ⟨Nat.le_of_ble_eq_true rfl, Nat.le_of_ble_eq_true rfl⟩) hK hP hD hS hA [0, 1, 2, 3, 4, 5, 6, 7, 8, 9, 10, 11, 12, 13, 14] [] [0, 1, 2, 3, 4, 5, 6, 7, 8, 9, 10, 11, 12, 13, 14] rfl rfl rfl rfl (by decide) rfl rfl rfl rfl rfl rfl hl.1 rfl (Nat.le_of_ble_eq_true rfl) dX3_may_26 ⟨Nat.zero_le _, Nat.zero_le _⟩ (fun H locs hP hD hS => ?_)
      show W p l e ({ frames := 5, cells := 0, slots := 0, locals := 122 }) s m args below meth c H locs 0 0 (MQ below (QM g (some (.int res.1)) (wB g a ask gw gh res.2 top kep don vc vf bx tt pl we le ab rw ki ow wa) A) args s 0 0 A) (F0 m 29 ls [.int r26.1])
      refine kPS (As := [.int r26.1]) (rest := []) S (ctX3_answer l g r26.1  (fX3_answer r26.1) rfl) (va_cwS 1 hts gX3_may_X3_answer rfl rfl rfl (by decide +kernel) ⟨Nat.le_of_ble_eq_true rfl, Nat.le_of_ble_eq_true rfl⟩) hK rfl rfl hl.1 rfl (Nat.le_of_ble_eq_true rfl) dX3_may_29 ⟨Nat.zero_le _, Nat.zero_le _⟩ ?_
      refine lv_goto (tgt := 36) hx hb dX3_may_32 (by decide) ?_
      obtain rfl := Option.some.inj h
      exact retMi hx hb hr hlocks hP hD hS dX3_may_36
-- LandBoard.go
set_option maxHeartbeats 4000000 in
set_option maxRecDepth 100000 in
theorem ctX3_go (l : Launch) (g : GG) (a : Nat → Nat) (x1 : Int32) (x2 : Int32) (ask : Int64) (gw : Int32) (gh : Int32) (gl : (Nat → Int64)) (top : Int32) (kep : Int32) (don : Int32) (vc : (Nat → Int32)) (vf : (Nat → Int32)) (bx : Int32) (tt : Int32) (pl : (Nat → Int32)) (we : (Nat → Int32)) (le : (Nat → Int32)) (ab : (Nat → Int32)) (rw : (Nat → Int32)) (ki : (Nat → Int32)) (ow : (Nat → Int32)) (wa : (Nat → Int32)) (res : (Nat → Int64) × Int32 × Int32 × Int32 × (Nat → Int32) × (Nat → Int32)) (h : fX3_go x1 x2 gl top kep don vc vf = some res) : MM l yX3_go wsX3_go ({ frames := 2, cells := 0, slots := 0, locals := 45 }) g [.ref (a 0), .int x1, .int x2] (wB g a ask gw gh gl top kep don vc vf bx tt pl we le ab rw ki ow wa) (wB g a ask gw gh res.1 res.2.1 res.2.2.1 res.2.2.2.1 res.2.2.2.2.1 res.2.2.2.2.2 bx tt pl we le ab rw ki ow wa) none := by
  refine MM.of (cc := cX3_go) (own := RX3) 3 none (by decide +kernel) rfl (Nat.le_of_ble_eq_true rfl) rfl ?_
  intro p e s m args below meth c hx hb hr hml hown hts hlocks hK A hA ls hl hP hD hS
  have S : CallFix p m c cX3_go 3 s args wsX3_go RX3 := ⟨hx, hb, hml, hown, hts⟩
  have hl : lv_has ls 3 [(0, .ref (a 0)), (1, .int x1), (2, .int x2)] := hl
  have f19 := hts (.fieldLink RX3 19 "LandBoard" "moves" "LLandBoard$Moves;") (by decide +kernel)
  have iX3 := (by decide +kernel : ∀ w ∈ u_ws RX3 TX3 8, w ∈ wsX3_go)
  have f12 := hts (.fieldLink RX3 12 "LandBoard" "now" "LLandBoard$Grid;") (by decide +kernel)
  refine lv_aload_n hx hb dX3_go_0 rfl (lv_at hl 0 rfl) ?_
  refine va_get (D := g.1) (ci := 3) (v := .ref (a 3)) (C := RX3) (T := TX3) (N := 8) hx hb hts iX3 hown hK.1 hP 0 rfl rfl 1 (by decide) f19 (fun _ h9 => h9) rfl dX3_go_1 ?_
  refine lv_iload_n hx hb dX3_go_4 rfl (lv_at hl 1 rfl) ?_
  refine lv_aload_n hx hb dX3_go_5 rfl (lv_at hl 0 rfl) ?_
  refine va_get (D := g.1) (ci := 3) (v := .ref (a 1)) (C := RX3) (T := TX3) (N := 8) hx hb hts iX3 hown hK.1 hP 0 rfl rfl 0 (by decide) f12 (fun _ h9 => h9) rfl dX3_go_6 ?_
  refine lv_iload_n hx hb dX3_go_9 rfl (lv_at hl 1 rfl) ?_
  obtain ⟨r10, hr10, h⟩ := gdb h
  refine kPV (As := [.int x1]) (rest := [.int x1, .ref (a 3)]) (ci := 0) S (ctX0_landOf l g (a 1) (a 2) x1 gw gh gl r10 hr10) (cwV 1 hts gX3_go_X0_landOf rfl rfl rfl (by decide +kernel) ⟨Nat.le_of_ble_eq_true rfl, Nat.le_of_ble_eq_true rfl⟩) hK hP [1, 2] rfl rfl rfl rfl rfl hl.1 rfl (Nat.le_of_ble_eq_true rfl) dX3_go_10 ⟨Nat.zero_le _, Nat.zero_le _⟩ ?_
  obtain ⟨r13, hr13, h⟩ := gdb h
  refine kMV (As := [.int x1, .int r10]) (rest := []) (ci := 1) (W1 := (wB g a ask gw gh gl r13.1 r13.2.1 r13.2.2.1 r13.2.2.2.1 r13.2.2.2.2 bx tt pl we le ab rw ki ow wa)) (wr := [((a 0), .inr (3, [.ref (a 1), .ref (a 3), .ref (a 6), .ref (a 12), .ref (a 13), .ref (a 14), .ref (a 15), .long ask])), ((a 1), .inr (0, [.ref (a 2), .int gw, .int gh])), ((a 2), .inl (g.2.2.1, 6, .inr (.inl gl))), ((a 6), .inr (2, [.ref (a 7), .ref (a 8), .ref (a 9), .ref (a 10), .ref (a 11), .int bx, .int tt])), ((a 7), .inl (g.2.1, 6, .inl pl)), ((a 8), .inl (g.2.1, 6, .inl we)), ((a 9), .inl (g.2.1, 6, .inl le)), ((a 10), .inl (g.2.1, 6, .inl ab)), ((a 11), .inl (g.2.1, 6, .inl rw)), ((a 13), .inl (g.2.1, 6, .inl ki)), ((a 14), .inl (g.2.1, 6, .inl ow)), ((a 15), .inl (g.2.1, 6, .inl wa))]) S (ctX1_add l g (a 3) (a 4) (a 5) x1 r10 top kep don vc vf r13 hr13) (cwV 2 hts gX3_go_X1_add rfl rfl rfl (by decide +kernel) ⟨Nat.le_of_ble_eq_true rfl, Nat.le_of_ble_eq_true rfl⟩) hK hP hD hS hA [3, 4, 5] [0, 1, 2, 6, 7, 8, 9, 10, 11, 12, 13, 14] [0, 1, 2, 12, 13, 14, 3, 4, 5, 6, 7, 8, 9, 10, 11] rfl rfl rfl rfl (by decide) rfl rfl rfl rfl rfl rfl hl.1 rfl (Nat.le_of_ble_eq_true rfl) dX3_go_13 ⟨Nat.zero_le _, Nat.zero_le _⟩ (fun H locs hP hD hS => ?_)
  show W p l e ({ frames := 2, cells := 0, slots := 0, locals := 45 }) s m args below meth c H locs 0 0 (MQ below (QM g none (wB g a ask gw gh res.1 res.2.1 res.2.2.1 res.2.2.2.1 res.2.2.2.2.1 res.2.2.2.2.2 bx tt pl we le ab rw ki ow wa) A) args s 0 0 A) (F0 m 16 ls [])
  refine lv_aload_n hx hb dX3_go_16 rfl (lv_at hl 0 rfl) ?_
  refine va_get (D := g.1) (ci := 3) (v := .ref (a 1)) (C := RX3) (T := TX3) (N := 8) hx hb hts iX3 hown hK.1 hP 0 rfl rfl 0 (by decide) f12 (fun _ h9 => h9) rfl dX3_go_17 ?_
  refine lv_iload_n hx hb dX3_go_20 rfl (lv_at hl 1 rfl) ?_
  refine lv_iload_n hx hb dX3_go_21 rfl (lv_at hl 2 rfl) ?_
  obtain ⟨r22, hr22, h⟩ := gdb h
  refine kMV (As := [.int x1, .int x2]) (rest := []) (ci := 0) (W1 := (wB g a ask gw gh r22 r13.1 r13.2.1 r13.2.2.1 r13.2.2.2.1 r13.2.2.2.2 bx tt pl we le ab rw ki ow wa)) (wr := [((a 0), .inr (3, [.ref (a 1), .ref (a 3), .ref (a 6), .ref (a 12), .ref (a 13), .ref (a 14), .ref (a 15), .long ask])), ((a 3), .inr (1, [.ref (a 4), .ref (a 5), .int r13.1, .int r13.2.1, .int r13.2.2.1])), ((a 4), .inl (g.2.1, 100, .inl r13.2.2.2.1)), ((a 5), .inl (g.2.1, 100, .inl r13.2.2.2.2)), ((a 6), .inr (2, [.ref (a 7), .ref (a 8), .ref (a 9), .ref (a 10), .ref (a 11), .int bx, .int tt])), ((a 7), .inl (g.2.1, 6, .inl pl)), ((a 8), .inl (g.2.1, 6, .inl we)), ((a 9), .inl (g.2.1, 6, .inl le)), ((a 10), .inl (g.2.1, 6, .inl ab)), ((a 11), .inl (g.2.1, 6, .inl rw)), ((a 13), .inl (g.2.1, 6, .inl ki)), ((a 14), .inl (g.2.1, 6, .inl ow)), ((a 15), .inl (g.2.1, 6, .inl wa))]) S (ctX0_put l g (a 1) (a 2) x1 x2 gw gh gl r22 hr22) (cwV 2 hts gX3_go_X0_put rfl rfl rfl (by decide +kernel) ⟨Nat.le_of_ble_eq_true rfl, Nat.le_of_ble_eq_true rfl⟩) hK hP hD hS hA [1, 2] [0, 3, 4, 5, 6, 7, 8, 9, 10, 11, 12, 13, 14] [0, 13, 14, 1, 2, 3, 4, 5, 6, 7, 8, 9, 10, 11, 12] rfl rfl rfl rfl (by decide) rfl rfl rfl rfl rfl rfl hl.1 rfl (Nat.le_of_ble_eq_true rfl) dX3_go_22 ⟨Nat.zero_le _, Nat.zero_le _⟩ (fun H locs hP hD hS => ?_)
  show W p l e ({ frames := 2, cells := 0, slots := 0, locals := 45 }) s m args below meth c H locs 0 0 (MQ below (QM g none (wB g a ask gw gh res.1 res.2.1 res.2.2.1 res.2.2.2.1 res.2.2.2.2.1 res.2.2.2.2.2 bx tt pl we le ab rw ki ow wa) A) args s 0 0 A) (F0 m 25 ls [])
  obtain rfl := Option.some.inj h
  exact retMv hx hb hr hlocks hP hD hS dX3_go_25
-- LandBoard.move
set_option maxHeartbeats 4000000 in
set_option maxRecDepth 100000 in
theorem ctX3_move (l : Launch) (g : GG) (a : Nat → Nat) (x1 : Int32) (x2 : Int32) (x3 : Int32) (ask : Int64) (gw : Int32) (gh : Int32) (gl : (Nat → Int64)) (top : Int32) (kep : Int32) (don : Int32) (vc : (Nat → Int32)) (vf : (Nat → Int32)) (bx : Int32) (tt : Int32) (pl : (Nat → Int32)) (we : (Nat → Int32)) (le : (Nat → Int32)) (ab : (Nat → Int32)) (rw : (Nat → Int32)) (ki : (Nat → Int32)) (ow : (Nat → Int32)) (wa : (Nat → Int32)) (res : Int32 × (Nat → Int64) × Int32 × Int32 × Int32 × (Nat → Int32) × (Nat → Int32)) (h : fX3_move x1 x2 x3 gw gh gl top kep don vc vf ki ow = some res) : MM l yX3_move wsX3_move ({ frames := 5, cells := 0, slots := 0, locals := 122 }) g [.ref (a 0), .int x1, .int x2, .int x3] (wB g a ask gw gh gl top kep don vc vf bx tt pl we le ab rw ki ow wa) (wB g a ask gw gh res.2.1 res.2.2.1 res.2.2.2.1 res.2.2.2.2.1 res.2.2.2.2.2.1 res.2.2.2.2.2.2 bx tt pl we le ab rw ki ow wa) (some (.int res.1)) := by
  refine MM.of (cc := cX3_move) (own := RX3) 5 (some .int) (by decide +kernel) rfl (Nat.le_of_ble_eq_true rfl) rfl ?_
  intro p e s m args below meth c hx hb hr hml hown hts hlocks hK A hA ls hl hP hD hS
  have S : CallFix p m c cX3_move 5 s args wsX3_move RX3 := ⟨hx, hb, hml, hown, hts⟩
  have hl : lv_has ls 5 [(0, .ref (a 0)), (1, .int x1), (2, .int x2), (3, .int x3)] := hl
  have f12 := hts (.fieldLink RX3 12 "LandBoard" "now" "LLandBoard$Grid;") (by decide +kernel)
  have iX3 := (by decide +kernel : ∀ w ∈ u_ws RX3 TX3 8, w ∈ wsX3_move)
  refine lv_aload_n hx hb dX3_move_0 rfl (lv_at hl 0 rfl) ?_
  refine va_get (D := g.1) (ci := 3) (v := .ref (a 1)) (C := RX3) (T := TX3) (N := 8) hx hb hts iX3 hown hK.1 hP 0 rfl rfl 0 (by decide) f12 (fun _ h9 => h9) rfl dX3_move_1 ?_
  refine lv_iload_n hx hb dX3_move_4 rfl (lv_at hl 1 rfl) ?_
  refine lv_iload_n hx hb dX3_move_5 rfl (lv_at hl 2 rfl) ?_
  refine kPV (As := [.int x1, .int x2]) (rest := []) (ci := 0) S (ctX0_has l g (a 1) (a 2) x1 x2 gw gh gl (fX0_has x1 x2 gw gh) rfl) (cwV 2 hts gX3_move_X0_has rfl rfl rfl (by decide +kernel) ⟨Nat.le_of_ble_eq_true rfl, Nat.le_of_ble_eq_true rfl⟩) hK hP [1, 2] rfl rfl rfl rfl rfl hl.1 rfl (Nat.le_of_ble_eq_true rfl) dX3_move_6 ⟨Nat.zero_le _, Nat.zero_le _⟩ ?_
  refine lv_if_eq (tgt := 19) hx hb dX3_move_9 (by decide) (fun c9 => ?_) (fun c9 => ?_)
  ·
    replace h := gdp h c9
    refine lv_iconst (v := -1) hx hb dX3_move_19 (by decide) ?_
    obtain rfl := Option.some.inj h
    exact retMi (v := (-1 : Int32)) hx hb hr hlocks hP hD hS dX3_move_20
  ·
    replace h := gdn h c9
    refine lv_iload_n hx hb dX3_move_12 rfl (lv_at hl 3 rfl) ?_
    refine kPS (As := [.int x3]) (rest := []) S (ctX3_isLand l g x3  (fX3_isLand x3) rfl) (va_cwS 1 hts gX3_move_X3_isLand rfl rfl rfl (by decide +kernel) ⟨Nat.le_of_ble_eq_true rfl, Nat.le_of_ble_eq_true rfl⟩) hK rfl rfl hl.1 rfl (Nat.le_of_ble_eq_true rfl) dX3_move_13 ⟨Nat.zero_le _, Nat.zero_le _⟩ ?_
    refine lv_if_ne (tgt := 21) hx hb dX3_move_16 (by decide) (fun c16 => ?_) (fun c16 => ?_)
    ·
      replace h := gdn h c16
      refine lv_aload_n hx hb dX3_move_21 rfl (lv_at hl 0 rfl) ?_
      refine lv_iload_n hx hb dX3_move_22 rfl (lv_at hl 1 rfl) ?_
      refine lv_iload_n hx hb dX3_move_23 rfl (lv_at hl 2 rfl) ?_
      refine kPS (As := [.int x1, .int x2]) (rest := [.ref (a 0)]) S (ctX3_cellAt l g x1 x2  (fX3_cellAt x1 x2) rfl) (va_cwS 2 hts gX3_move_X3_cellAt rfl rfl rfl (by decide +kernel) ⟨Nat.le_of_ble_eq_true rfl, Nat.le_of_ble_eq_true rfl⟩) hK rfl rfl hl.1 rfl (Nat.le_of_ble_eq_true rfl) dX3_move_24 ⟨Nat.zero_le _, Nat.zero_le _⟩ ?_
      refine lv_iload_n hx hb dX3_move_27 rfl (lv_at hl 3 rfl) ?_
      obtain ⟨r28, hr28, h⟩ := gdb h
      refine kMV (As := [.int (fX3_cellAt x1 x2), .int x3]) (rest := []) (ci := 3) (W1 := (wB g a ask gw gh r28.2 top kep don vc vf bx tt pl we le ab rw ki ow wa)) (wr := []) S (ctX3_canGo l g a (fX3_cellAt x1 x2) x3 ask gw gh gl top kep don vc vf bx tt pl we le ab rw ki ow wa r28 hr28) (cwV 2 hts gX3_move_X3_canGo rfl rfl rfl (by decide +kernel) ⟨Nat.le_of_ble_eq_true rfl, Nat.le_of_ble_eq_true rfl⟩) hK hP hD hS hA [0, 1, 2, 3, 4, 5, 6, 7, 8, 9, 10, 11, 12, 13, 14] [] [0, 1, 2, 3, 4, 5, 6, 7, 8, 9, 10, 11, 12, 13, 14] rfl rfl rfl rfl (by decide) rfl rfl rfl rfl rfl rfl hl.1 rfl (Nat.le_of_ble_eq_true rfl) dX3_move_28 ⟨Nat.zero_le _, Nat.zero_le _⟩ (fun H locs hP hD hS => ?_)
      show W p l e ({ frames := 5, cells := 0, slots := 0, locals := 122 }) s m args below meth c H locs 0 0 (MQ below (QM g (some (.int res.1)) (wB g a ask gw gh res.2.1 res.2.2.1 res.2.2.2.1 res.2.2.2.2.1 res.2.2.2.2.2.1 res.2.2.2.2.2.2 bx tt pl we le ab rw ki ow wa) A) args s 0 0 A) (F0 m 31 ls [.int r28.1])
      refine lv_if_ne (tgt := 37) hx hb dX3_move_31 (by decide) (fun c31 => ?_) (fun c31 => ?_)
      ·
        replace h := gdn h c31
        refine lv_aload_n hx hb dX3_move_37 rfl (lv_at hl 0 rfl) ?_
        refine va_get (D := g.1) (ci := 3) (v := .ref (a 1)) (C := RX3) (T := TX3) (N := 8) hx hb hts iX3 hown hK.1 hP 0 rfl rfl 0 (by decide) f12 (fun _ h9 => h9) rfl dX3_move_38 ?_
        refine lv_iload_n hx hb dX3_move_41 rfl (lv_at hl 1 rfl) ?_
        refine lv_iload_n hx hb dX3_move_42 rfl (lv_at hl 2 rfl) ?_
        refine kPS (As := [.int x1, .int x2]) (rest := [.ref (a 1)]) S (ctX3_cellAt l g x1 x2  (fX3_cellAt x1 x2) rfl) (va_cwS 2 hts gX3_move_X3_cellAt rfl rfl rfl (by decide +kernel) ⟨Nat.le_of_ble_eq_true rfl, Nat.le_of_ble_eq_true rfl⟩) hK rfl rfl hl.1 rfl (Nat.le_of_ble_eq_true rfl) dX3_move_43 ⟨Nat.zero_le _, Nat.zero_le _⟩ ?_
        obtain ⟨r46, hr46, h⟩ := gdb h
        refine kPV (As := [.int (fX3_cellAt x1 x2)]) (rest := []) (ci := 0) S (ctX0_landOf l g (a 1) (a 2) (fX3_cellAt x1 x2) gw gh r28.2 r46 hr46) (cwV 1 hts gX3_move_X0_landOf rfl rfl rfl (by decide +kernel) ⟨Nat.le_of_ble_eq_true rfl, Nat.le_of_ble_eq_true rfl⟩) hK hP [1, 2] rfl rfl rfl rfl rfl hl.1 rfl (Nat.le_of_ble_eq_true rfl) dX3_move_46 ⟨Nat.zero_le _, Nat.zero_le _⟩ ?_
        refine lv_istore (lv' := [(4, .int r46), (0, .ref (a 0)), (1, .int x1), (2, .int x2), (3, .int x3)]) hx hb dX3_move_49 hl (by decide) rfl (fun ls hl => ?_)
        refine lv_aload_n hx hb dX3_move_51 rfl (lv_at hl 1 rfl) ?_
        refine lv_iload_n hx hb dX3_move_52 rfl (lv_at hl 2 rfl) ?_
        refine lv_iload_n hx hb dX3_move_53 rfl (lv_at hl 3 rfl) ?_
        refine kPS (As := [.int x1, .int x2]) (rest := [.ref (a 0)]) S (ctX3_cellAt l g x1 x2  (fX3_cellAt x1 x2) rfl) (va_cwS 2 hts gX3_move_X3_cellAt rfl rfl rfl (by decide +kernel) ⟨Nat.le_of_ble_eq_true rfl, Nat.le_of_ble_eq_true rfl⟩) hK rfl rfl hl.1 rfl (Nat.le_of_ble_eq_true rfl) dX3_move_54 ⟨Nat.zero_le _, Nat.zero_le _⟩ ?_
        refine lv_iload_n hx hb dX3_move_57 rfl (lv_at hl 4 rfl) ?_
        obtain ⟨r58, hr58, h⟩ := gdb h
        refine kMV (As := [.int (fX3_cellAt x1 x2), .int x3]) (rest := []) (ci := 3) (W1 := (wB g a ask gw gh r58.1 r58.2.1 r58.2.2.1 r58.2.2.2.1 r58.2.2.2.2.1 r58.2.2.2.2.2 bx tt pl we le ab rw ki ow wa)) (wr := []) S (ctX3_go l g a (fX3_cellAt x1 x2) x3 ask gw gh r28.2 top kep don vc vf bx tt pl we le ab rw ki ow wa r58 hr58) (cwV 2 hts gX3_move_X3_go rfl rfl rfl (by decide +kernel) ⟨Nat.le_of_ble_eq_true rfl, Nat.le_of_ble_eq_true rfl⟩) hK hP hD hS hA [0, 1, 2, 3, 4, 5, 6, 7, 8, 9, 10, 11, 12, 13, 14] [] [0, 1, 2, 3, 4, 5, 6, 7, 8, 9, 10, 11, 12, 13, 14] rfl rfl rfl rfl (by decide) rfl rfl rfl rfl rfl rfl hl.1 rfl (Nat.le_of_ble_eq_true rfl) dX3_move_58 ⟨Nat.zero_le _, Nat.zero_le _⟩ (fun H locs hP hD hS => ?_)
        show W p l e ({ frames := 5, cells := 0, slots := 0, locals := 122 }) s m args below meth c H locs 0 0 (MQ below (QM g (some (.int res.1)) (wB g a ask gw gh res.2.1 res.2.2.1 res.2.2.2.1 res.2.2.2.2.1 res.2.2.2.2.2.1 res.2.2.2.2.2.2 bx tt pl we le ab rw ki ow wa) A) args s 0 0 A) (F0 m 61 ls [])
        refine lv_iload hx hb dX3_move_61 (lv_at hl 0 rfl) ?_
        obtain rfl := Option.some.inj h
        exact retMi hx hb hr hlocks hP hD hS dX3_move_63
      ·
        replace h := gdp h c31
        refine lv_bipush (v := -2) hx hb dX3_move_34 (by decide) ?_
        obtain rfl := Option.some.inj h
        exact retMi (v := (-2 : Int32)) hx hb hr hlocks hP hD hS dX3_move_36
    ·
      replace h := gdp h c16
      refine lv_iconst (v := -1) hx hb dX3_move_19 (by decide) ?_
      obtain rfl := Option.some.inj h
      exact retMi (v := (-1 : Int32)) hx hb hr hlocks hP hD hS dX3_move_20
-- LandBoard.want
set_option maxHeartbeats 4000000 in
set_option maxRecDepth 100000 in
theorem ctX3_want (l : Launch) (g : GG) (a : Nat → Nat) (x1 : Int32) (x2 : Int32) (ask : Int64) (gw : Int32) (gh : Int32) (gl : (Nat → Int64)) (top : Int32) (kep : Int32) (don : Int32) (vc : (Nat → Int32)) (vf : (Nat → Int32)) (bx : Int32) (tt : Int32) (pl : (Nat → Int32)) (we : (Nat → Int32)) (le : (Nat → Int32)) (ab : (Nat → Int32)) (rw : (Nat → Int32)) (ki : (Nat → Int32)) (ow : (Nat → Int32)) (wa : (Nat → Int32)) (res : Int32 × (Nat → Int32)) (h : fX3_want x1 x2 wa = some res) : MM l yX3_want wsX3_want ({ frames := 1, cells := 0, slots := 0, locals := 20 }) g [.ref (a 0), .int x1, .int x2] (wB g a ask gw gh gl top kep don vc vf bx tt pl we le ab rw ki ow wa) (wB g a ask gw gh gl top kep don vc vf bx tt pl we le ab rw ki ow res.2) (some (.int res.1)) := by
  refine MM.of (cc := cX3_want) (own := RX3) 4 (some .int) (by decide +kernel) rfl (Nat.le_of_ble_eq_true rfl) rfl ?_
  intro p e s m args below meth c hx hb hr hml hown hts hlocks hK A hA ls hl hP hD hS
  have S : CallFix p m c cX3_want 4 s args wsX3_want RX3 := ⟨hx, hb, hml, hown, hts⟩
  have hl : lv_has ls 4 [(0, .ref (a 0)), (1, .int x1), (2, .int x2)] := hl
  have f41 := hts (.fieldLink RX3 41 "LandBoard" "wants" "[I") (by decide +kernel)
  have iX3 := (by decide +kernel : ∀ w ∈ u_ws RX3 TX3 8, w ∈ wsX3_want)
  refine lv_iload_n hx hb dX3_want_0 rfl (lv_at hl 1 rfl) ?_
  refine kPS (As := [.int x1]) (rest := []) S (ctX3_isLand l g x1  (fX3_isLand x1) rfl) (va_cwS 1 hts gX3_want_X3_isLand rfl rfl rfl (by decide +kernel) ⟨Nat.le_of_ble_eq_true rfl, Nat.le_of_ble_eq_true rfl⟩) hK rfl rfl hl.1 rfl (Nat.le_of_ble_eq_true rfl) dX3_want_1 ⟨Nat.zero_le _, Nat.zero_le _⟩ ?_
  refine lv_if_eq (tgt := 17) hx hb dX3_want_4 (by decide) (fun c4 => ?_) (fun c4 => ?_)
  ·
    replace h := gdp h c4
    refine lv_iconst (v := -1) hx hb dX3_want_17 (by decide) ?_
    obtain rfl := Option.some.inj h
    exact retMi (v := (-1 : Int32)) hx hb hr hlocks hP hD hS dX3_want_18
  ·
    replace h := gdn h c4
    refine lv_iload_n hx hb dX3_want_7 rfl (lv_at hl 2 rfl) ?_
    refine lv_if_lt (tgt := 17) hx hb dX3_want_8 (by decide) (fun c8 => ?_) (fun c8 => ?_)
    ·
      replace h := gdp h c8
      refine lv_iconst (v := -1) hx hb dX3_want_17 (by decide) ?_
      obtain rfl := Option.some.inj h
      exact retMi (v := (-1 : Int32)) hx hb hr hlocks hP hD hS dX3_want_18
    ·
      replace h := gdn h c8
      refine lv_iload_n hx hb dX3_want_11 rfl (lv_at hl 2 rfl) ?_
      refine lv_bipush (v := 64) hx hb dX3_want_12 (by decide) ?_
      refine lv_icmp_le (tgt := 19) hx hb dX3_want_14 (by decide) (fun c14 => ?_) (fun c14 => ?_)
      ·
        replace h := gdp h c14
        refine lv_aload_n hx hb dX3_want_19 rfl (lv_at hl 0 rfl) ?_
        refine va_get (D := g.1) (ci := 3) (v := .ref (a 15)) (C := RX3) (T := TX3) (N := 8) hx hb hts iX3 hown hK.1 hP 0 rfl rfl 6 (by decide) f41 (fun _ h9 => h9) rfl dX3_want_20 ?_
        refine lv_iload_n hx hb dX3_want_23 rfl (lv_at hl 1 rfl) ?_
        obtain ⟨hi, h⟩ := gdi h
        refine va_iald (D := g.1) hx hb hK.1 hP 14 0 rfl rfl hi dX3_want_24 ?_
        refine lv_istore_n (lv' := [(3, .int (wa (x1).toNatClampNeg)), (0, .ref (a 0)), (1, .int x1), (2, .int x2)]) hx hb dX3_want_25 rfl hl (by decide) rfl (fun ls hl => ?_)
        refine lv_aload_n hx hb dX3_want_26 rfl (lv_at hl 1 rfl) ?_
        refine va_get (D := g.1) (ci := 3) (v := .ref (a 15)) (C := RX3) (T := TX3) (N := 8) hx hb hts iX3 hown hK.1 hP 0 rfl rfl 6 (by decide) f41 (fun _ h9 => h9) rfl dX3_want_27 ?_
        refine lv_iload_n hx hb dX3_want_30 rfl (lv_at hl 2 rfl) ?_
        refine lv_iload_n hx hb dX3_want_31 rfl (lv_at hl 3 rfl) ?_
        obtain ⟨hi, h⟩ := gdi h
        refine va_iast (D := g.1) hx hb hK.1 hP hD hS 14 0 rfl rfl hi dX3_want_32 (fun H locs hP hD hS => ?_)
        have hP : va_P g.1 vwCl (wB g a ask gw gh gl top kep don vc vf bx tt pl we le ab rw ki ow (upd wa (x1).toNatClampNeg x2)) H := hP
        have hD : va_D A (wB g a ask gw gh gl top kep don vc vf bx tt pl we le ab rw ki ow (upd wa (x1).toNatClampNeg x2)) := hD
        refine lv_iload_n hx hb dX3_want_33 rfl (lv_at hl 0 rfl) ?_
        obtain rfl := Option.some.inj h
        exact retMi hx hb hr hlocks hP hD hS dX3_want_34
      ·
        replace h := gdn h c14
        refine lv_iconst (v := -1) hx hb dX3_want_17 (by decide) ?_
        obtain rfl := Option.some.inj h
        exact retMi (v := (-1 : Int32)) hx hb hr hlocks hP hD hS dX3_want_18
-- LandBoard.missWith
set_option maxHeartbeats 4000000 in
set_option maxRecDepth 100000 in
theorem ctX3_missWith (l : Launch) (g : GG) (a : Nat → Nat) (x1 : Int32) (x2 : Int32) (ask : Int64) (gw : Int32) (gh : Int32) (gl : (Nat → Int64)) (top : Int32) (kep : Int32) (don : Int32) (vc : (Nat → Int32)) (vf : (Nat → Int32)) (bx : Int32) (tt : Int32) (pl : (Nat → Int32)) (we : (Nat → Int32)) (le : (Nat → Int32)) (ab : (Nat → Int32)) (rw : (Nat → Int32)) (ki : (Nat → Int32)) (ow : (Nat → Int32)) (wa : (Nat → Int32)) (res : Int32) (h : fX3_missWith x1 x2 wa = some res) : MP l yX3_missWith wsX3_missWith ({ frames := 1, cells := 0, slots := 0, locals := 21 }) g [.ref (a 0), .int x1, .int x2] (wB g a ask gw gh gl top kep don vc vf bx tt pl we le ab rw ki ow wa) (.int res) := by
  refine MP.of (cc := cX3_missWith) (own := RX3) 3 (some .int) (by decide +kernel) rfl (Nat.le_of_ble_eq_true rfl) rfl ?_
  intro p e s m args below meth c hx hb hr hml hown hts hlocks hP hK ls hl
  have S : CallFix p m c cX3_missWith 3 s args wsX3_missWith RX3 := ⟨hx, hb, hml, hown, hts⟩
  have hl : lv_has ls 3 [(0, .ref (a 0)), (1, .int x1), (2, .int x2)] := hl
  have f41 := hts (.fieldLink RX3 41 "LandBoard" "wants" "[I") (by decide +kernel)
  have iX3 := (by decide +kernel : ∀ w ∈ u_ws RX3 TX3 8, w ∈ wsX3_missWith)
  have m224_0 := hts (.methodLink RX3 224 Lib.Math.abs.name) (by decide +kernel)
  have m224_1 := hts (.static Lib.Math.abs.name) (by decide +kernel)
  have m224_2 := hts (.initialized "java/lang/Math") (by decide +kernel)
  have m224_3 := hts (.code Lib.Math.abs.name Lib.Math.abs.code 1 (some .int)) (by decide +kernel)
  refine lv_iload_n hx hb dX3_missWith_0 rfl (lv_at hl 1 rfl) ?_
  refine kPS (As := [.int x1]) (rest := []) S (ctX3_isLand l g x1  (fX3_isLand x1) rfl) (va_cwS 1 hts gX3_missWith_X3_isLand rfl rfl rfl (by decide +kernel) ⟨Nat.le_of_ble_eq_true rfl, Nat.le_of_ble_eq_true rfl⟩) hK rfl rfl hl.1 rfl (Nat.le_of_ble_eq_true rfl) dX3_missWith_1 ⟨Nat.zero_le _, Nat.zero_le _⟩ ?_
  refine lv_if_eq (tgt := 21) hx hb dX3_missWith_4 (by decide) (fun c4 => ?_) (fun c4 => ?_)
  ·
    replace h := gdp h c4
    refine lv_iconst (v := 0) hx hb dX3_missWith_21 (by decide) ?_
    obtain rfl := Option.some.inj h
    exact retPi (v := (0 : Int32)) hx hb hr hlocks dX3_missWith_22
  ·
    replace h := gdn h c4
    refine lv_iload_n hx hb dX3_missWith_7 rfl (lv_at hl 2 rfl) ?_
    refine lv_aload_n hx hb dX3_missWith_8 rfl (lv_at hl 0 rfl) ?_
    refine va_get (D := g.1) (ci := 3) (v := .ref (a 15)) (C := RX3) (T := TX3) (N := 8) hx hb hts iX3 hown hK.1 hP 0 rfl rfl 6 (by decide) f41 (fun _ h9 => h9) rfl dX3_missWith_9 ?_
    refine lv_iload_n hx hb dX3_missWith_12 rfl (lv_at hl 1 rfl) ?_
    obtain ⟨hi, h⟩ := gdi h
    refine va_iald (D := g.1) hx hb hK.1 hP 14 0 rfl rfl hi dX3_missWith_13 ?_
    refine lv_isub hx hb dX3_missWith_14 ?_
    refine va_mabs hx hb (hml.trans hl.1.symm) hown m224_0 m224_1 m224_2 m224_3 (Nat.le_of_ble_eq_true rfl) (Nat.le_of_ble_eq_true rfl) (Nat.zero_le _) (Nat.zero_le _) dX3_missWith_15 ?_
    refine lv_goto (tgt := 22) hx hb dX3_missWith_18 (by decide) ?_
    obtain rfl := Option.some.inj h
    exact retPi hx hb hr hlocks dX3_missWith_22
-- LandBoard.miss
set_option maxHeartbeats 4000000 in
set_option maxRecDepth 100000 in
theorem ctX3_miss (l : Launch) (g : GG) (a : Nat → Nat)  (ask : Int64) (gw : Int32) (gh : Int32) (gl : (Nat → Int64)) (top : Int32) (kep : Int32) (don : Int32) (vc : (Nat → Int32)) (vf : (Nat → Int32)) (bx : Int32) (tt : Int32) (pl : (Nat → Int32)) (we : (Nat → Int32)) (le : (Nat → Int32)) (ab : (Nat → Int32)) (rw : (Nat → Int32)) (ki : (Nat → Int32)) (ow : (Nat → Int32)) (wa : (Nat → Int32)) (res : Int32) (h : fX3_miss gl wa = some res) : MP l yX3_miss wsX3_miss ({ frames := 3, cells := 0, slots := 0, locals := 62 }) g [.ref (a 0)] (wB g a ask gw gh gl top kep don vc vf bx tt pl we le ab rw ki ow wa) (.int res) := by
  refine MP.of (cc := cX3_miss) (own := RX3) 3 (some .int) (by decide +kernel) rfl (Nat.le_of_ble_eq_true rfl) rfl ?_
  intro p e s m args below meth c hx hb hr hml hown hts hlocks hP hK ls hl
  have S : CallFix p m c cX3_miss 3 s args wsX3_miss RX3 := ⟨hx, hb, hml, hown, hts⟩
  have hl : lv_has ls 3 [(0, .ref (a 0))] := hl
  have f12 := hts (.fieldLink RX3 12 "LandBoard" "now" "LLandBoard$Grid;") (by decide +kernel)
  have iX3 := (by decide +kernel : ∀ w ∈ u_ws RX3 TX3 8, w ∈ wsX3_miss)
  refine lv_iconst (v := 0) hx hb dX3_miss_0 (by decide) ?_
  refine lv_istore_n (lv' := [(1, .int (0 : Int32)), (0, .ref (a 0))]) hx hb dX3_miss_1 rfl hl (by decide) rfl (fun ls hl => ?_)
  refine lv_iconst (v := 0) hx hb dX3_miss_2 (by decide) ?_
  refine lv_istore_n (lv' := [(2, .int (0 : Int32)), (1, .int (0 : Int32)), (0, .ref (a 0))]) hx hb dX3_miss_3 rfl hl (by decide) rfl (fun ls hl => ?_)
  obtain ⟨t4, hw4, h⟩ := gdb h
  have X4 : ∀ ls : Array Slot, lv_has ls 3 [(1, .int t4)] → W p l e ({ frames := 3, cells := 0, slots := 0, locals := 62 }) s m args below meth c s.heap [] 0 0 (MQ below (k2_QcV (.int res)) args s 0 0 (fun _ => False)) (F0 m 43 ls []) := by
    intro ls hl
    refine lv_iload_n hx hb dX3_miss_43 rfl (lv_at hl 0 rfl) ?_
    obtain rfl := Option.some.inj h
    exact retPi hx hb hr hlocks dX3_miss_44
  clear h
  have L4 : ∀ (n : Nat) (s4 : Int32 × Int32), wh (fX3_miss_4 gl wa) n s4 = some t4 → ∀ ls : Array Slot, lv_has ls 3 [(0, .ref (a 0)), (1, .int s4.1), (2, .int s4.2)] → W p l e ({ frames := 3, cells := 0, slots := 0, locals := 62 }) s m args below meth c s.heap [] 0 0 (MQ below (k2_QcV (.int res)) args s 0 0 (fun _ => False)) (F0 m 4 ls []) := by
    intro n
    induction n with
    | zero => intro s4 hw; exact (wh_0 hw).elim
    | succ n ih4 =>
      intro s4 hw ls hl
      obtain ⟨r0, h, hr4⟩ := wh_s hw
      refine lv_iload_n hx hb dX3_miss_4 rfl (lv_at hl 2 rfl) ?_
      refine lv_bipush (v := 6) hx hb dX3_miss_5 (by decide) ?_
      refine lv_icmp_ge (tgt := 43) hx hb dX3_miss_7 (by decide) (fun c7 => ?_) (fun c7 => ?_)
      ·
        replace h := gdp h c7
        obtain rfl := Option.some.inj h
        have e0 : s4.1 = t4 := hr4
        subst e0
        exact X4 _ (lv_sub hl [1] rfl)
      ·
        replace h := gdn h c7
        refine lv_aload_n hx hb dX3_miss_10 rfl (lv_at hl 0 rfl) ?_
        refine va_get (D := g.1) (ci := 3) (v := .ref (a 1)) (C := RX3) (T := TX3) (N := 8) hx hb hts iX3 hown hK.1 hP 0 rfl rfl 0 (by decide) f12 (fun _ h9 => h9) rfl dX3_miss_11 ?_
        refine lv_iload_n hx hb dX3_miss_14 rfl (lv_at hl 2 rfl) ?_
        obtain ⟨r15, hr15, h⟩ := gdb h
        refine kPV (As := [.int s4.2]) (rest := []) (ci := 0) S (ctX0_sizeOf l g (a 1) (a 2) s4.2 gw gh gl r15 hr15) (cwV 1 hts gX3_miss_X0_sizeOf rfl rfl rfl (by decide +kernel) ⟨Nat.le_of_ble_eq_true rfl, Nat.le_of_ble_eq_true rfl⟩) hK hP [1, 2] rfl rfl rfl rfl rfl hl.1 rfl (Nat.le_of_ble_eq_true rfl) dX3_miss_15 ⟨Nat.zero_le _, Nat.zero_le _⟩ ?_
        refine lv_if_le (tgt := 37) hx hb dX3_miss_18 (by decide) (fun c18 => ?_) (fun c18 => ?_)
        ·
          replace h := gdp h c18
          refine lv_iinc (v := (s4.2 + 1)) (lv' := [(2, .int (s4.2 + 1)), (0, .ref (a 0)), (1, .int s4.1)]) hx hb dX3_miss_37 hl (k := 2) rfl rfl (by decide) rfl (fun ls hl => ?_)
          refine lv_goto (tgt := 4) hx hb dX3_miss_40 (by decide) ?_
          obtain rfl := Option.some.inj h
          exact ih4 (s4.1, (s4.2 + 1)) hr4 _ (lv_sub hl [1, 2, 0] rfl)
        ·
          replace h := gdn h c18
          refine lv_iload_n hx hb dX3_miss_21 rfl (lv_at hl 1 rfl) ?_
          refine lv_aload_n hx hb dX3_miss_22 rfl (lv_at hl 0 rfl) ?_
          refine lv_iload_n hx hb dX3_miss_23 rfl (lv_at hl 2 rfl) ?_
          refine lv_aload_n hx hb dX3_miss_24 rfl (lv_at hl 0 rfl) ?_
          refine va_get (D := g.1) (ci := 3) (v := .ref (a 1)) (C := RX3) (T := TX3) (N := 8) hx hb hts iX3 hown hK.1 hP 0 rfl rfl 0 (by decide) f12 (fun _ h9 => h9) rfl dX3_miss_25 ?_
          refine lv_iload_n hx hb dX3_miss_28 rfl (lv_at hl 2 rfl) ?_
          obtain ⟨r29, hr29, h⟩ := gdb h
          refine kPV (As := [.int s4.2]) (rest := [.int s4.2, .ref (a 0), .int s4.1]) (ci := 0) S (ctX0_sizeOf l g (a 1) (a 2) s4.2 gw gh gl r29 hr29) (cwV 1 hts gX3_miss_X0_sizeOf rfl rfl rfl (by decide +kernel) ⟨Nat.le_of_ble_eq_true rfl, Nat.le_of_ble_eq_true rfl⟩) hK hP [1, 2] rfl rfl rfl rfl rfl hl.1 rfl (Nat.le_of_ble_eq_true rfl) dX3_miss_29 ⟨Nat.zero_le _, Nat.zero_le _⟩ ?_
          obtain ⟨r32, hr32, h⟩ := gdb h
          refine kPV (As := [.int s4.2, .int r29]) (rest := [.int s4.1]) (ci := 3) S (ctX3_missWith l g a s4.2 r29 ask gw gh gl top kep don vc vf bx tt pl we le ab rw ki ow wa r32 hr32) (cwV 2 hts gX3_miss_X3_missWith rfl rfl rfl (by decide +kernel) ⟨Nat.le_of_ble_eq_true rfl, Nat.le_of_ble_eq_true rfl⟩) hK hP [0, 1, 2, 3, 4, 5, 6, 7, 8, 9, 10, 11, 12, 13, 14] rfl rfl rfl rfl rfl hl.1 rfl (Nat.le_of_ble_eq_true rfl) dX3_miss_32 ⟨Nat.zero_le _, Nat.zero_le _⟩ ?_
          refine lv_iadd hx hb dX3_miss_35 ?_
          refine lv_istore_n (lv' := [(1, .int (s4.1 + r32)), (0, .ref (a 0)), (2, .int s4.2)]) hx hb dX3_miss_36 rfl hl (by decide) rfl (fun ls hl => ?_)
          refine lv_iinc (v := (s4.2 + 1)) (lv' := [(2, .int (s4.2 + 1)), (1, .int (s4.1 + r32)), (0, .ref (a 0))]) hx hb dX3_miss_37 hl (k := 2) rfl rfl (by decide) rfl (fun ls hl => ?_)
          refine lv_goto (tgt := 4) hx hb dX3_miss_40 (by decide) ?_
          obtain rfl := Option.some.inj h
          exact ih4 ((s4.1 + r32), (s4.2 + 1)) hr4 _ (lv_sub hl [2, 1, 0] rfl)
  exact L4 _ ((0 : Int32), (0 : Int32)) hw4 _ (lv_sub hl [2, 1, 0] rfl)
-- LandBoard.missBehind
set_option maxHeartbeats 4000000 in
set_option maxRecDepth 100000 in
theorem ctX3_missBehind (l : Launch) (g : GG) (a : Nat → Nat) (x1 : Int32) (x2 : Int32) (x3 : Int32) (ask : Int64) (gw : Int32) (gh : Int32) (gl : (Nat → Int64)) (top : Int32) (kep : Int32) (don : Int32) (vc : (Nat → Int32)) (vf : (Nat → Int32)) (bx : Int32) (tt : Int32) (pl : (Nat → Int32)) (we : (Nat → Int32)) (le : (Nat → Int32)) (ab : (Nat → Int32)) (rw : (Nat → Int32)) (ki : (Nat → Int32)) (ow : (Nat → Int32)) (wa : (Nat → Int32)) (res : Int32) (h : fX3_missBehind x1 x2 x3 gl wa = some res) : MP l yX3_missBehind wsX3_missBehind ({ frames := 3, cells := 0, slots := 0, locals := 62 }) g [.ref (a 0), .int x1, .int x2, .int x3] (wB g a ask gw gh gl top kep don vc vf bx tt pl we le ab rw ki ow wa) (.int res) := by
  refine MP.of (cc := cX3_missBehind) (own := RX3) 6 (some .int) (by decide +kernel) rfl (Nat.le_of_ble_eq_true rfl) rfl ?_
  intro p e s m args below meth c hx hb hr hml hown hts hlocks hP hK ls hl
  have S : CallFix p m c cX3_missBehind 6 s args wsX3_missBehind RX3 := ⟨hx, hb, hml, hown, hts⟩
  have hl : lv_has ls 6 [(0, .ref (a 0)), (1, .int x1), (2, .int x2), (3, .int x3)] := hl
  have f12 := hts (.fieldLink RX3 12 "LandBoard" "now" "LLandBoard$Grid;") (by decide +kernel)
  have iX3 := (by decide +kernel : ∀ w ∈ u_ws RX3 TX3 8, w ∈ wsX3_missBehind)
  refine lv_aload_n hx hb dX3_missBehind_0 rfl (lv_at hl 0 rfl) ?_
  refine va_get (D := g.1) (ci := 3) (v := .ref (a 1)) (C := RX3) (T := TX3) (N := 8) hx hb hts iX3 hown hK.1 hP 0 rfl rfl 0 (by decide) f12 (fun _ h9 => h9) rfl dX3_missBehind_1 ?_
  refine lv_iload_n hx hb dX3_missBehind_4 rfl (lv_at hl 2 rfl) ?_
  obtain ⟨r5, hr5, h⟩ := gdb h
  refine kPV (As := [.int x2]) (rest := []) (ci := 0) S (ctX0_sizeOf l g (a 1) (a 2) x2 gw gh gl r5 hr5) (cwV 1 hts gX3_missBehind_X0_sizeOf rfl rfl rfl (by decide +kernel) ⟨Nat.le_of_ble_eq_true rfl, Nat.le_of_ble_eq_true rfl⟩) hK hP [1, 2] rfl rfl rfl rfl rfl hl.1 rfl (Nat.le_of_ble_eq_true rfl) dX3_missBehind_5 ⟨Nat.zero_le _, Nat.zero_le _⟩ ?_
  refine lv_istore (lv' := [(4, .int r5), (0, .ref (a 0)), (1, .int x1), (2, .int x2), (3, .int x3)]) hx hb dX3_missBehind_8 hl (by decide) rfl (fun ls hl => ?_)
  refine lv_aload_n hx hb dX3_missBehind_10 rfl (lv_at hl 1 rfl) ?_
  refine va_get (D := g.1) (ci := 3) (v := .ref (a 1)) (C := RX3) (T := TX3) (N := 8) hx hb hts iX3 hown hK.1 hP 0 rfl rfl 0 (by decide) f12 (fun _ h9 => h9) rfl dX3_missBehind_11 ?_
  refine lv_iload_n hx hb dX3_missBehind_14 rfl (lv_at hl 4 rfl) ?_
  obtain ⟨r15, hr15, h⟩ := gdb h
  refine kPV (As := [.int x3]) (rest := []) (ci := 0) S (ctX0_sizeOf l g (a 1) (a 2) x3 gw gh gl r15 hr15) (cwV 1 hts gX3_missBehind_X0_sizeOf rfl rfl rfl (by decide +kernel) ⟨Nat.le_of_ble_eq_true rfl, Nat.le_of_ble_eq_true rfl⟩) hK hP [1, 2] rfl rfl rfl rfl rfl hl.1 rfl (Nat.le_of_ble_eq_true rfl) dX3_missBehind_15 ⟨Nat.zero_le _, Nat.zero_le _⟩ ?_
  refine lv_istore (lv' := [(5, .int r15), (4, .int r5), (0, .ref (a 0)), (1, .int x1), (2, .int x2), (3, .int x3)]) hx hb dX3_missBehind_18 hl (by decide) rfl (fun ls hl => ?_)
  refine lv_iload_n hx hb dX3_missBehind_20 rfl (lv_at hl 3 rfl) ?_
  refine lv_aload_n hx hb dX3_missBehind_21 rfl (lv_at hl 2 rfl) ?_
  refine lv_iload_n hx hb dX3_missBehind_22 rfl (lv_at hl 4 rfl) ?_
  refine lv_iload hx hb dX3_missBehind_23 (lv_at hl 1 rfl) ?_
  obtain ⟨r25, hr25, h⟩ := gdb h
  refine kPV (As := [.int x2, .int r5]) (rest := [.int x1]) (ci := 3) S (ctX3_missWith l g a x2 r5 ask gw gh gl top kep don vc vf bx tt pl we le ab rw ki ow wa r25 hr25) (cwV 2 hts gX3_missBehind_X3_missWith rfl rfl rfl (by decide +kernel) ⟨Nat.le_of_ble_eq_true rfl, Nat.le_of_ble_eq_true rfl⟩) hK hP [0, 1, 2, 3, 4, 5, 6, 7, 8, 9, 10, 11, 12, 13, 14] rfl rfl rfl rfl rfl hl.1 rfl (Nat.le_of_ble_eq_true rfl) dX3_missBehind_25 ⟨Nat.zero_le _, Nat.zero_le _⟩ ?_
  refine lv_isub hx hb dX3_missBehind_28 ?_
  refine lv_aload_n hx hb dX3_missBehind_29 rfl (lv_at hl 2 rfl) ?_
  refine lv_iload_n hx hb dX3_missBehind_30 rfl (lv_at hl 4 rfl) ?_
  refine lv_iload hx hb dX3_missBehind_31 (lv_at hl 1 rfl) ?_
  refine lv_iconst (v := 1) hx hb dX3_missBehind_33 (by decide) ?_
  refine lv_isub hx hb dX3_missBehind_34 ?_
  obtain ⟨r35, hr35, h⟩ := gdb h
  refine kPV (As := [.int x2, .int (r5 - (1 : Int32))]) (rest := [.int (x1 - r25)]) (ci := 3) S (ctX3_missWith l g a x2 (r5 - (1 : Int32)) ask gw gh gl top kep don vc vf bx tt pl we le ab rw ki ow wa r35 hr35) (cwV 2 hts gX3_missBehind_X3_missWith rfl rfl rfl (by decide +kernel) ⟨Nat.le_of_ble_eq_true rfl, Nat.le_of_ble_eq_true rfl⟩) hK hP [0, 1, 2, 3, 4, 5, 6, 7, 8, 9, 10, 11, 12, 13, 14] rfl rfl rfl rfl rfl hl.1 rfl (Nat.le_of_ble_eq_true rfl) dX3_missBehind_35 ⟨Nat.zero_le _, Nat.zero_le _⟩ ?_
  refine lv_iadd hx hb dX3_missBehind_38 ?_
  refine lv_aload_n hx hb dX3_missBehind_39 rfl (lv_at hl 2 rfl) ?_
  refine lv_iload_n hx hb dX3_missBehind_40 rfl (lv_at hl 5 rfl) ?_
  refine lv_iload hx hb dX3_missBehind_41 (lv_at hl 0 rfl) ?_
  obtain ⟨r43, hr43, h⟩ := gdb h
  refine kPV (As := [.int x3, .int r15]) (rest := [.int ((x1 - r25) + r35)]) (ci := 3) S (ctX3_missWith l g a x3 r15 ask gw gh gl top kep don vc vf bx tt pl we le ab rw ki ow wa r43 hr43) (cwV 2 hts gX3_missBehind_X3_missWith rfl rfl rfl (by decide +kernel) ⟨Nat.le_of_ble_eq_true rfl, Nat.le_of_ble_eq_true rfl⟩) hK hP [0, 1, 2, 3, 4, 5, 6, 7, 8, 9, 10, 11, 12, 13, 14] rfl rfl rfl rfl rfl hl.1 rfl (Nat.le_of_ble_eq_true rfl) dX3_missBehind_43 ⟨Nat.zero_le _, Nat.zero_le _⟩ ?_
  refine lv_isub hx hb dX3_missBehind_46 ?_
  refine lv_aload_n hx hb dX3_missBehind_47 rfl (lv_at hl 2 rfl) ?_
  refine lv_iload_n hx hb dX3_missBehind_48 rfl (lv_at hl 5 rfl) ?_
  refine lv_iload hx hb dX3_missBehind_49 (lv_at hl 0 rfl) ?_
  refine lv_iconst (v := 1) hx hb dX3_missBehind_51 (by decide) ?_
  refine lv_iadd hx hb dX3_missBehind_52 ?_
  obtain ⟨r53, hr53, h⟩ := gdb h
  refine kPV (As := [.int x3, .int (r15 + (1 : Int32))]) (rest := [.int (((x1 - r25) + r35) - r43)]) (ci := 3) S (ctX3_missWith l g a x3 (r15 + (1 : Int32)) ask gw gh gl top kep don vc vf bx tt pl we le ab rw ki ow wa r53 hr53) (cwV 2 hts gX3_missBehind_X3_missWith rfl rfl rfl (by decide +kernel) ⟨Nat.le_of_ble_eq_true rfl, Nat.le_of_ble_eq_true rfl⟩) hK hP [0, 1, 2, 3, 4, 5, 6, 7, 8, 9, 10, 11, 12, 13, 14] rfl rfl rfl rfl rfl hl.1 rfl (Nat.le_of_ble_eq_true rfl) dX3_missBehind_53 ⟨Nat.zero_le _, Nat.zero_le _⟩ ?_
  refine lv_iadd hx hb dX3_missBehind_56 ?_
  obtain rfl := Option.some.inj h
  exact retPi hx hb hr hlocks dX3_missBehind_57
-- LandBoard.step
set_option maxHeartbeats 4000000 in
set_option maxRecDepth 100000 in
theorem ctX3_step (l : Launch) (g : GG) (a : Nat → Nat)  (ask : Int64) (gw : Int32) (gh : Int32) (gl : (Nat → Int64)) (top : Int32) (kep : Int32) (don : Int32) (vc : (Nat → Int32)) (vf : (Nat → Int32)) (bx : Int32) (tt : Int32) (pl : (Nat → Int32)) (we : (Nat → Int32)) (le : (Nat → Int32)) (ab : (Nat → Int32)) (rw : (Nat → Int32)) (ki : (Nat → Int32)) (ow : (Nat → Int32)) (wa : (Nat → Int32)) (res : Int32 × (Nat → Int64) × Int32 × Int32 × Int32 × (Nat → Int32) × (Nat → Int32)) (h : fX3_step gl top kep don vc vf ki ow wa = some res) : MM l yX3_step wsX3_step ({ frames := 5, cells := 0, slots := 0, locals := 122 }) g [.ref (a 0)] (wB g a ask gw gh gl top kep don vc vf bx tt pl we le ab rw ki ow wa) (wB g a ask gw gh res.2.1 res.2.2.1 res.2.2.2.1 res.2.2.2.2.1 res.2.2.2.2.2.1 res.2.2.2.2.2.2 bx tt pl we le ab rw ki ow wa) (some (.int res.1)) := by
  refine MM.of (cc := cX3_step) (own := RX3) 9 (some .boolean) (by decide +kernel) rfl (Nat.le_of_ble_eq_true rfl) rfl ?_
  intro p e s m args below meth c hx hb hr hml hown hts hlocks hK A hA ls hl hP hD hS
  have S : CallFix p m c cX3_step 9 s args wsX3_step RX3 := ⟨hx, hb, hml, hown, hts⟩
  have hl : lv_has ls 9 [(0, .ref (a 0))] := hl
  have f12 := hts (.fieldLink RX3 12 "LandBoard" "now" "LLandBoard$Grid;") (by decide +kernel)
  have iX3 := (by decide +kernel : ∀ w ∈ u_ws RX3 TX3 8, w ∈ wsX3_step)
  refine lv_aload_n hx hb dX3_step_0 rfl (lv_at hl 0 rfl) ?_
  obtain ⟨r1, hr1, h⟩ := gdb h
  refine kPV (As := []) (rest := []) (ci := 3) S (ctX3_miss l g a  ask gw gh gl top kep don vc vf bx tt pl we le ab rw ki ow wa r1 hr1) (cwV 0 hts gX3_step_X3_miss rfl rfl rfl (by decide +kernel) ⟨Nat.le_of_ble_eq_true rfl, Nat.le_of_ble_eq_true rfl⟩) hK hP [0, 1, 2, 3, 4, 5, 6, 7, 8, 9, 10, 11, 12, 13, 14] rfl rfl rfl rfl rfl hl.1 rfl (Nat.le_of_ble_eq_true rfl) dX3_step_1 ⟨Nat.zero_le _, Nat.zero_le _⟩ ?_
  refine lv_istore_n (lv' := [(1, .int r1), (0, .ref (a 0))]) hx hb dX3_step_4 rfl hl (by decide) rfl (fun ls hl => ?_)
  refine lv_iload_n hx hb dX3_step_5 rfl (lv_at hl 0 rfl) ?_
  refine lv_istore_n (lv' := [(2, .int r1), (1, .int r1), (0, .ref (a 0))]) hx hb dX3_step_6 rfl hl (by decide) rfl (fun ls hl => ?_)
  refine lv_iconst (v := 0) hx hb dX3_step_7 (by decide) ?_
  refine lv_istore_n (lv' := [(3, .int (0 : Int32)), (2, .int r1), (1, .int r1), (0, .ref (a 0))]) hx hb dX3_step_8 rfl hl (by decide) rfl (fun ls hl => ?_)
  refine lv_iconst (v := 0) hx hb dX3_step_9 (by decide) ?_
  refine lv_istore (lv' := [(4, .int (0 : Int32)), (3, .int (0 : Int32)), (2, .int r1), (1, .int r1), (0, .ref (a 0))]) hx hb dX3_step_10 hl (by decide) rfl (fun ls hl => ?_)
  refine lv_iconst (v := 0) hx hb dX3_step_12 (by decide) ?_
  refine lv_istore (lv' := [(5, .int (0 : Int32)), (4, .int (0 : Int32)), (3, .int (0 : Int32)), (2, .int r1), (1, .int r1), (0, .ref (a 0))]) hx hb dX3_step_13 hl (by decide) rfl (fun ls hl => ?_)
  obtain ⟨t15, hw15, h⟩ := gdb h
  have X15 : ∀ (H : Heap) (locs : List Loc) (ls : Array Slot), va_P g.1 vwCl (wB g a ask gw gh t15.2.2.2 top kep don vc vf bx tt pl we le ab rw ki ow wa) H → va_D A (wB g a ask gw gh t15.2.2.2 top kep don vc vf bx tt pl we le ab rw ki ow wa) → va_S A s.heap H locs → lv_has ls 9 [(0, .ref (a 0)), (1, .int r1), (2, .int t15.1), (3, .int t15.2.1), (4, .int t15.2.2.1)] → W p l e ({ frames := 5, cells := 0, slots := 0, locals := 122 }) s m args below meth c H locs 0 0 (MQ below (QM g (some (.int res.1)) (wB g a ask gw gh res.2.1 res.2.2.1 res.2.2.2.1 res.2.2.2.2.1 res.2.2.2.2.2.1 res.2.2.2.2.2.2 bx tt pl we le ab rw ki ow wa) A) args s 0 0 A) (F0 m 100 ls []) := by
    intro H locs ls hP hD hS hl
    refine lv_iload_n hx hb dX3_step_100 rfl (lv_at hl 2 rfl) ?_
    refine lv_iload_n hx hb dX3_step_101 rfl (lv_at hl 1 rfl) ?_
    refine lv_icmp_ge (tgt := 112) hx hb dX3_step_102 (by decide) (fun c102 => ?_) (fun c102 => ?_)
    ·
      replace h := gdp h c102
      refine lv_iload_n hx hb dX3_step_112 rfl (lv_at hl 2 rfl) ?_
      refine lv_iload_n hx hb dX3_step_113 rfl (lv_at hl 1 rfl) ?_
      refine lv_icmp_ge (tgt := 121) hx hb dX3_step_114 (by decide) (fun c114 => ?_) (fun c114 => ?_)
      ·
        replace h := gdp h c114
        refine lv_iconst (v := 0) hx hb dX3_step_121 (by decide) ?_
        obtain rfl := Option.some.inj h
        exact retMz (v := (0 : Int32)) hx hb hr hlocks rfl hP hD hS dX3_step_122
      ·
        replace h := gdn h c114
        refine lv_iconst (v := 1) hx hb dX3_step_117 (by decide) ?_
        refine lv_goto (tgt := 122) hx hb dX3_step_118 (by decide) ?_
        obtain rfl := Option.some.inj h
        exact retMz (v := (1 : Int32)) hx hb hr hlocks rfl hP hD hS dX3_step_122
    ·
      replace h := gdn h c102
      refine lv_aload_n hx hb dX3_step_105 rfl (lv_at hl 0 rfl) ?_
      refine lv_iload_n hx hb dX3_step_106 rfl (lv_at hl 3 rfl) ?_
      refine lv_iload hx hb dX3_step_107 (lv_at hl 4 rfl) ?_
      obtain ⟨r109, hr109, h⟩ := gdb h
      refine kMV (As := [.int t15.2.1, .int t15.2.2.1]) (rest := []) (ci := 3) (W1 := (wB g a ask gw gh r109.1 r109.2.1 r109.2.2.1 r109.2.2.2.1 r109.2.2.2.2.1 r109.2.2.2.2.2 bx tt pl we le ab rw ki ow wa)) (wr := []) S (ctX3_go l g a t15.2.1 t15.2.2.1 ask gw gh t15.2.2.2 top kep don vc vf bx tt pl we le ab rw ki ow wa r109 hr109) (cwV 2 hts gX3_step_X3_go rfl rfl rfl (by decide +kernel) ⟨Nat.le_of_ble_eq_true rfl, Nat.le_of_ble_eq_true rfl⟩) hK hP hD hS hA [0, 1, 2, 3, 4, 5, 6, 7, 8, 9, 10, 11, 12, 13, 14] [] [0, 1, 2, 3, 4, 5, 6, 7, 8, 9, 10, 11, 12, 13, 14] rfl rfl rfl rfl (by decide) rfl rfl rfl rfl rfl rfl hl.1 rfl (Nat.le_of_ble_eq_true rfl) dX3_step_109 ⟨Nat.zero_le _, Nat.zero_le _⟩ (fun H locs hP hD hS => ?_)
      show W p l e ({ frames := 5, cells := 0, slots := 0, locals := 122 }) s m args below meth c H locs 0 0 (MQ below (QM g (some (.int res.1)) (wB g a ask gw gh res.2.1 res.2.2.1 res.2.2.2.1 res.2.2.2.2.1 res.2.2.2.2.2.1 res.2.2.2.2.2.2 bx tt pl we le ab rw ki ow wa) A) args s 0 0 A) (F0 m 112 ls [])
      refine lv_iload_n hx hb dX3_step_112 rfl (lv_at hl 2 rfl) ?_
      refine lv_iload_n hx hb dX3_step_113 rfl (lv_at hl 1 rfl) ?_
      refine lv_icmp_ge (tgt := 121) hx hb dX3_step_114 (by decide) (fun c114 => ?_) (fun c114 => ?_)
      ·
        replace h := gdp h c114
        refine lv_iconst (v := 0) hx hb dX3_step_121 (by decide) ?_
        obtain rfl := Option.some.inj h
        exact retMz (v := (0 : Int32)) hx hb hr hlocks rfl hP hD hS dX3_step_122
      ·
        replace h := gdn h c114
        refine lv_iconst (v := 1) hx hb dX3_step_117 (by decide) ?_
        refine lv_goto (tgt := 122) hx hb dX3_step_118 (by decide) ?_
        obtain rfl := Option.some.inj h
        exact retMz (v := (1 : Int32)) hx hb hr hlocks rfl hP hD hS dX3_step_122
  clear h
  have L15 : ∀ (n : Nat) (s15 : Int32 × Int32 × Int32 × Int32 × (Nat → Int64)), wh (fX3_step_15 ki ow wa r1) n s15 = some t15 → ∀ (H : Heap) (locs : List Loc) (ls : Array Slot), va_P g.1 vwCl (wB g a ask gw gh s15.2.2.2.2 top kep don vc vf bx tt pl we le ab rw ki ow wa) H → va_D A (wB g a ask gw gh s15.2.2.2.2 top kep don vc vf bx tt pl we le ab rw ki ow wa) → va_S A s.heap H locs → lv_has ls 9 [(0, .ref (a 0)), (1, .int r1), (2, .int s15.1), (3, .int s15.2.1), (4, .int s15.2.2.1), (5, .int s15.2.2.2.1)] → W p l e ({ frames := 5, cells := 0, slots := 0, locals := 122 }) s m args below meth c H locs 0 0 (MQ below (QM g (some (.int res.1)) (wB g a ask gw gh res.2.1 res.2.2.1 res.2.2.2.1 res.2.2.2.2.1 res.2.2.2.2.2.1 res.2.2.2.2.2.2 bx tt pl we le ab rw ki ow wa) A) args s 0 0 A) (F0 m 15 ls []) := by
    intro n
    induction n with
    | zero => intro s15 hw; exact (wh_0 hw).elim
    | succ n ih15 =>
      intro s15 hw H locs ls hP hD hS hl
      obtain ⟨r0, h, hr15⟩ := wh_s hw
      refine lv_iload hx hb dX3_step_15 (lv_at hl 5 rfl) ?_
      refine lv_bipush (v := 64) hx hb dX3_step_17 (by decide) ?_
      refine lv_icmp_ge (tgt := 100) hx hb dX3_step_19 (by decide) (fun c19 => ?_) (fun c19 => ?_)
      ·
        replace h := gdp h c19
        obtain rfl := Option.some.inj h
        have e0 : (s15.1, s15.2.1, s15.2.2.1, s15.2.2.2.2) = t15 := hr15
        subst e0
        exact X15 _ _ _ hP hD hS (lv_sub hl [0, 1, 2, 3, 4] rfl)
      ·
        replace h := gdn h c19
        refine lv_aload_n hx hb dX3_step_22 rfl (lv_at hl 0 rfl) ?_
        refine va_get (D := g.1) (ci := 3) (v := .ref (a 1)) (C := RX3) (T := TX3) (N := 8) hx hb hts iX3 hown hK.1 hP 0 rfl rfl 0 (by decide) f12 (fun _ h9 => h9) rfl dX3_step_23 ?_
        refine lv_iload hx hb dX3_step_26 (lv_at hl 5 rfl) ?_
        obtain ⟨r28, hr28, h⟩ := gdb h
        refine kPV (As := [.int s15.2.2.2.1]) (rest := []) (ci := 0) S (ctX0_landOf l g (a 1) (a 2) s15.2.2.2.1 gw gh s15.2.2.2.2 r28 hr28) (cwV 1 hts gX3_step_X0_landOf rfl rfl rfl (by decide +kernel) ⟨Nat.le_of_ble_eq_true rfl, Nat.le_of_ble_eq_true rfl⟩) hK hP [1, 2] rfl rfl rfl rfl rfl hl.1 rfl (Nat.le_of_ble_eq_true rfl) dX3_step_28 ⟨Nat.zero_le _, Nat.zero_le _⟩ ?_
        refine lv_istore (lv' := [(6, .int r28), (0, .ref (a 0)), (1, .int r1), (2, .int s15.1), (3, .int s15.2.1), (4, .int s15.2.2.1), (5, .int s15.2.2.2.1)]) hx hb dX3_step_31 hl (by decide) rfl (fun ls hl => ?_)
        refine lv_iconst (v := 0) hx hb dX3_step_33 (by decide) ?_
        refine lv_istore (lv' := [(7, .int (0 : Int32)), (6, .int r28), (0, .ref (a 0)), (1, .int r1), (2, .int s15.1), (3, .int s15.2.1), (4, .int s15.2.2.1), (5, .int s15.2.2.2.1)]) hx hb dX3_step_34 hl (by decide) rfl (fun ls hl => ?_)
        obtain ⟨t36, hw36, h⟩ := gdb h
        have X36 : ∀ (H : Heap) (locs : List Loc) (ls : Array Slot), va_P g.1 vwCl (wB g a ask gw gh t36.2.2.2 top kep don vc vf bx tt pl we le ab rw ki ow wa) H → va_D A (wB g a ask gw gh t36.2.2.2 top kep don vc vf bx tt pl we le ab rw ki ow wa) → va_S A s.heap H locs → lv_has ls 9 [(0, .ref (a 0)), (1, .int r1), (2, .int t36.1), (3, .int t36.2.1), (4, .int t36.2.2.1), (5, .int s15.2.2.2.1)] → W p l e ({ frames := 5, cells := 0, slots := 0, locals := 122 }) s m args below meth c H locs 0 0 (MQ below (QM g (some (.int res.1)) (wB g a ask gw gh res.2.1 res.2.2.1 res.2.2.2.1 res.2.2.2.2.1 res.2.2.2.2.2.1 res.2.2.2.2.2.2 bx tt pl we le ab rw ki ow wa) A) args s 0 0 A) (F0 m 94 ls []) := by
          intro H locs ls hP hD hS hl
          refine lv_iinc (v := (s15.2.2.2.1 + 1)) (lv' := [(5, .int (s15.2.2.2.1 + 1)), (0, .ref (a 0)), (1, .int r1), (2, .int t36.1), (3, .int t36.2.1), (4, .int t36.2.2.1)]) hx hb dX3_step_94 hl (k := 5) rfl rfl (by decide) rfl (fun ls hl => ?_)
          refine lv_goto (tgt := 15) hx hb dX3_step_97 (by decide) ?_
          obtain rfl := Option.some.inj h
          exact ih15 (t36.1, t36.2.1, t36.2.2.1, (s15.2.2.2.1 + 1), t36.2.2.2) hr15 _ _ _ hP hD hS (lv_sub hl [1, 2, 3, 4, 5, 0] rfl)
        clear h
        have L36 : ∀ (n : Nat) (s36 : Int32 × Int32 × Int32 × Int32 × (Nat → Int64)), wh (fX3_step_36 ki ow wa r1 s15 r28) n s36 = some t36 → ∀ (H : Heap) (locs : List Loc) (ls : Array Slot), va_P g.1 vwCl (wB g a ask gw gh s36.2.2.2.2 top kep don vc vf bx tt pl we le ab rw ki ow wa) H → va_D A (wB g a ask gw gh s36.2.2.2.2 top kep don vc vf bx tt pl we le ab rw ki ow wa) → va_S A s.heap H locs → lv_has ls 9 [(0, .ref (a 0)), (1, .int r1), (2, .int s36.1), (3, .int s36.2.1), (4, .int s36.2.2.1), (5, .int s15.2.2.2.1), (6, .int r28), (7, .int s36.2.2.2.1)] → W p l e ({ frames := 5, cells := 0, slots := 0, locals := 122 }) s m args below meth c H locs 0 0 (MQ below (QM g (some (.int res.1)) (wB g a ask gw gh res.2.1 res.2.2.1 res.2.2.2.1 res.2.2.2.2.1 res.2.2.2.2.2.1 res.2.2.2.2.2.2 bx tt pl we le ab rw ki ow wa) A) args s 0 0 A) (F0 m 36 ls []) := by
          intro n
          induction n with
          | zero => intro s36 hw; exact (wh_0 hw).elim
          | succ n ih36 =>
            intro s36 hw H locs ls hP hD hS hl
            obtain ⟨r0, h, hr36⟩ := wh_s hw
            refine lv_iload hx hb dX3_step_36 (lv_at hl 7 rfl) ?_
            refine lv_bipush (v := 6) hx hb dX3_step_38 (by decide) ?_
            refine lv_icmp_ge (tgt := 94) hx hb dX3_step_40 (by decide) (fun c40 => ?_) (fun c40 => ?_)
            ·
              replace h := gdp h c40
              obtain rfl := Option.some.inj h
              have e0 : (s36.1, s36.2.1, s36.2.2.1, s36.2.2.2.2) = t36 := hr36
              subst e0
              exact X36 _ _ _ hP hD hS (lv_sub hl [0, 1, 2, 3, 4, 5] rfl)
            ·
              replace h := gdn h c40
              refine lv_iload hx hb dX3_step_43 (lv_at hl 6 rfl) ?_
              refine lv_bipush (v := -4) hx hb dX3_step_45 (by decide) ?_
              refine lv_icmp_eq (tgt := 94) hx hb dX3_step_47 (by decide) (fun c47 => ?_) (fun c47 => ?_)
              ·
                replace h := gdp h c47
                obtain rfl := Option.some.inj h
                have e0 : (s36.1, s36.2.1, s36.2.2.1, s36.2.2.2.2) = t36 := hr36
                subst e0
                exact X36 _ _ _ hP hD hS (lv_sub hl [0, 1, 2, 3, 4, 5] rfl)
              ·
                replace h := gdn h c47
                refine lv_aload_n hx hb dX3_step_50 rfl (lv_at hl 0 rfl) ?_
                refine lv_iload_n hx hb dX3_step_51 rfl (lv_at hl 1 rfl) ?_
                refine lv_iload hx hb dX3_step_52 (lv_at hl 6 rfl) ?_
                refine lv_iload hx hb dX3_step_54 (lv_at hl 7 rfl) ?_
                obtain ⟨r56, hr56, h⟩ := gdb h
                refine kPV (As := [.int r1, .int r28, .int s36.2.2.2.1]) (rest := []) (ci := 3) S (ctX3_missBehind l g a r1 r28 s36.2.2.2.1 ask gw gh s36.2.2.2.2 top kep don vc vf bx tt pl we le ab rw ki ow wa r56 hr56) (cwV 3 hts gX3_step_X3_missBehind rfl rfl rfl (by decide +kernel) ⟨Nat.le_of_ble_eq_true rfl, Nat.le_of_ble_eq_true rfl⟩) hK hP [0, 1, 2, 3, 4, 5, 6, 7, 8, 9, 10, 11, 12, 13, 14] rfl rfl rfl rfl rfl hl.1 rfl (Nat.le_of_ble_eq_true rfl) dX3_step_56 ⟨Nat.zero_le _, Nat.zero_le _⟩ ?_
                refine lv_istore (lv' := [(8, .int r56), (0, .ref (a 0)), (1, .int r1), (2, .int s36.1), (3, .int s36.2.1), (4, .int s36.2.2.1), (5, .int s15.2.2.2.1), (6, .int r28), (7, .int s36.2.2.2.1)]) hx hb dX3_step_59 hl (by decide) rfl (fun ls hl => ?_)
                refine lv_iload hx hb dX3_step_61 (lv_at hl 0 rfl) ?_
                refine lv_iload_n hx hb dX3_step_63 rfl (lv_at hl 3 rfl) ?_
                refine lv_icmp_ge (tgt := 88) hx hb dX3_step_64 (by decide) (fun c64 => ?_) (fun c64 => ?_)
                ·
                  replace h := gdp h c64
                  refine lv_iinc (v := (s36.2.2.2.1 + 1)) (lv' := [(7, .int (s36.2.2.2.1 + 1)), (8, .int r56), (0, .ref (a 0)), (1, .int r1), (2, .int s36.1), (3, .int s36.2.1), (4, .int s36.2.2.1), (5, .int s15.2.2.2.1), (6, .int r28)]) hx hb dX3_step_88 hl (k := 8) rfl rfl (by decide) rfl (fun ls hl => ?_)
                  refine lv_goto (tgt := 36) hx hb dX3_step_91 (by decide) ?_
                  obtain rfl := Option.some.inj h
                  exact ih36 (s36.1, s36.2.1, s36.2.2.1, (s36.2.2.2.1 + 1), s36.2.2.2.2) hr36 _ _ _ hP hD hS (lv_sub hl [2, 3, 4, 5, 6, 7, 8, 0] rfl)
                ·
                  replace h := gdn h c64
                  refine lv_aload_n hx hb dX3_step_67 rfl (lv_at hl 1 rfl) ?_
                  refine lv_iload hx hb dX3_step_68 (lv_at hl 6 rfl) ?_
                  refine lv_iload hx hb dX3_step_70 (lv_at hl 8 rfl) ?_
                  obtain ⟨r72, hr72, h⟩ := gdb h
                  refine kMV (As := [.int s15.2.2.2.1, .int s36.2.2.2.1]) (rest := []) (ci := 3) (W1 := (wB g a ask gw gh r72.2 top kep don vc vf bx tt pl we le ab rw ki ow wa)) (wr := []) S (ctX3_canGo l g a s15.2.2.2.1 s36.2.2.2.1 ask gw gh s36.2.2.2.2 top kep don vc vf bx tt pl we le ab rw ki ow wa r72 hr72) (cwV 2 hts gX3_step_X3_canGo rfl rfl rfl (by decide +kernel) ⟨Nat.le_of_ble_eq_true rfl, Nat.le_of_ble_eq_true rfl⟩) hK hP hD hS hA [0, 1, 2, 3, 4, 5, 6, 7, 8, 9, 10, 11, 12, 13, 14] [] [0, 1, 2, 3, 4, 5, 6, 7, 8, 9, 10, 11, 12, 13, 14] rfl rfl rfl rfl (by decide) rfl rfl rfl rfl rfl rfl hl.1 rfl (Nat.le_of_ble_eq_true rfl) dX3_step_72 ⟨Nat.zero_le _, Nat.zero_le _⟩ (fun H locs hP hD hS => ?_)
                  show W p l e ({ frames := 5, cells := 0, slots := 0, locals := 122 }) s m args below meth c H locs 0 0 (MQ below (QM g (some (.int res.1)) (wB g a ask gw gh res.2.1 res.2.2.1 res.2.2.2.1 res.2.2.2.2.1 res.2.2.2.2.2.1 res.2.2.2.2.2.2 bx tt pl we le ab rw ki ow wa) A) args s 0 0 A) (F0 m 75 ls [.int r72.1])
                  refine lv_if_eq (tgt := 88) hx hb dX3_step_75 (by decide) (fun c75 => ?_) (fun c75 => ?_)
                  ·
                    replace h := gdp h c75
                    refine lv_iinc (v := (s36.2.2.2.1 + 1)) (lv' := [(7, .int (s36.2.2.2.1 + 1)), (8, .int r56), (0, .ref (a 0)), (1, .int r1), (2, .int s36.1), (3, .int s36.2.1), (4, .int s36.2.2.1), (5, .int s15.2.2.2.1), (6, .int r28)]) hx hb dX3_step_88 hl (k := 8) rfl rfl (by decide) rfl (fun ls hl => ?_)
                    refine lv_goto (tgt := 36) hx hb dX3_step_91 (by decide) ?_
                    obtain rfl := Option.some.inj h
                    exact ih36 (s36.1, s36.2.1, s36.2.2.1, (s36.2.2.2.1 + 1), r72.2) hr36 _ _ _ hP hD hS (lv_sub hl [2, 3, 4, 5, 6, 7, 8, 0] rfl)
                  ·
                    replace h := gdn h c75
                    refine lv_iload hx hb dX3_step_78 (lv_at hl 0 rfl) ?_
                    refine lv_istore_n (lv' := [(2, .int r56), (8, .int r56), (0, .ref (a 0)), (1, .int r1), (3, .int s36.2.1), (4, .int s36.2.2.1), (5, .int s15.2.2.2.1), (6, .int r28), (7, .int s36.2.2.2.1)]) hx hb dX3_step_80 rfl hl (by decide) rfl (fun ls hl => ?_)
                    refine lv_iload hx hb dX3_step_81 (lv_at hl 6 rfl) ?_
                    refine lv_istore_n (lv' := [(3, .int s15.2.2.2.1), (2, .int r56), (8, .int r56), (0, .ref (a 0)), (1, .int r1), (4, .int s36.2.2.1), (5, .int s15.2.2.2.1), (6, .int r28), (7, .int s36.2.2.2.1)]) hx hb dX3_step_83 rfl hl (by decide) rfl (fun ls hl => ?_)
                    refine lv_iload hx hb dX3_step_84 (lv_at hl 8 rfl) ?_
                    refine lv_istore (lv' := [(4, .int s36.2.2.2.1), (3, .int s15.2.2.2.1), (2, .int r56), (8, .int r56), (0, .ref (a 0)), (1, .int r1), (5, .int s15.2.2.2.1), (6, .int r28), (7, .int s36.2.2.2.1)]) hx hb dX3_step_86 hl (by decide) rfl (fun ls hl => ?_)
                    refine lv_iinc (v := (s36.2.2.2.1 + 1)) (lv' := [(7, .int (s36.2.2.2.1 + 1)), (4, .int s36.2.2.2.1), (3, .int s15.2.2.2.1), (2, .int r56), (8, .int r56), (0, .ref (a 0)), (1, .int r1), (5, .int s15.2.2.2.1), (6, .int r28)]) hx hb dX3_step_88 hl (k := 8) rfl rfl (by decide) rfl (fun ls hl => ?_)
                    refine lv_goto (tgt := 36) hx hb dX3_step_91 (by decide) ?_
                    obtain rfl := Option.some.inj h
                    exact ih36 (r56, s15.2.2.2.1, s36.2.2.2.1, (s36.2.2.2.1 + 1), r72.2) hr36 _ _ _ hP hD hS (lv_sub hl [5, 6, 3, 2, 1, 7, 8, 0] rfl)
        exact L36 _ (s15.1, s15.2.1, s15.2.2.1, (0 : Int32), s15.2.2.2.2) hw36 _ _ _ hP hD hS (lv_sub hl [2, 3, 4, 5, 6, 7, 1, 0] rfl)
  exact L15 _ (r1, (0 : Int32), (0 : Int32), (0 : Int32), gl) hw15 _ _ _ hP hD hS (lv_sub hl [5, 4, 3, 2, 1, 0] rfl)
-- LandBoard.steps
set_option maxHeartbeats 4000000 in
set_option maxRecDepth 100000 in
theorem ctX3_steps (l : Launch) (g : GG) (a : Nat → Nat) (x1 : Int32) (ask : Int64) (gw : Int32) (gh : Int32) (gl : (Nat → Int64)) (top : Int32) (kep : Int32) (don : Int32) (vc : (Nat → Int32)) (vf : (Nat → Int32)) (bx : Int32) (tt : Int32) (pl : (Nat → Int32)) (we : (Nat → Int32)) (le : (Nat → Int32)) (ab : (Nat → Int32)) (rw : (Nat → Int32)) (ki : (Nat → Int32)) (ow : (Nat → Int32)) (wa : (Nat → Int32)) (res : Int32 × (Nat → Int64) × Int32 × Int32 × Int32 × (Nat → Int32) × (Nat → Int32)) (h : fX3_steps x1 gl top kep don vc vf ki ow wa = some res) : MM l yX3_steps wsX3_steps ({ frames := 6, cells := 0, slots := 0, locals := 150 }) g [.ref (a 0), .int x1] (wB g a ask gw gh gl top kep don vc vf bx tt pl we le ab rw ki ow wa) (wB g a ask gw gh res.2.1 res.2.2.1 res.2.2.2.1 res.2.2.2.2.1 res.2.2.2.2.2.1 res.2.2.2.2.2.2 bx tt pl we le ab rw ki ow wa) (some (.int res.1)) := by
  refine MM.of (cc := cX3_steps) (own := RX3) 3 (some .int) (by decide +kernel) rfl (Nat.le_of_ble_eq_true rfl) rfl ?_
  intro p e s m args below meth c hx hb hr hml hown hts hlocks hK A hA ls hl hP hD hS
  have S : CallFix p m c cX3_steps 3 s args wsX3_steps RX3 := ⟨hx, hb, hml, hown, hts⟩
  have hl : lv_has ls 3 [(0, .ref (a 0)), (1, .int x1)] := hl
  refine lv_iload_n hx hb dX3_steps_0 rfl (lv_at hl 1 rfl) ?_
  refine lv_iconst (v := 1) hx hb dX3_steps_1 (by decide) ?_
  refine lv_icmp_lt (tgt := 11) hx hb dX3_steps_2 (by decide) (fun c2 => ?_) (fun c2 => ?_)
  ·
    replace h := gdp h c2
    refine lv_iconst (v := -1) hx hb dX3_steps_11 (by decide) ?_
    obtain rfl := Option.some.inj h
    exact retMi (v := (-1 : Int32)) hx hb hr hlocks hP hD hS dX3_steps_12
  ·
    replace h := gdn h c2
    refine lv_iload_n hx hb dX3_steps_5 rfl (lv_at hl 1 rfl) ?_
    refine lv_bipush (v := 64) hx hb dX3_steps_6 (by decide) ?_
    refine lv_icmp_le (tgt := 13) hx hb dX3_steps_8 (by decide) (fun c8 => ?_) (fun c8 => ?_)
    ·
      replace h := gdp h c8
      refine lv_iconst (v := 0) hx hb dX3_steps_13 (by decide) ?_
      refine lv_istore_n (lv' := [(2, .int (0 : Int32)), (0, .ref (a 0)), (1, .int x1)]) hx hb dX3_steps_14 rfl hl (by decide) rfl (fun ls hl => ?_)
      obtain ⟨t15, hw15, h⟩ := gdb h
      have X15 : ∀ (H : Heap) (locs : List Loc) (ls : Array Slot), va_P g.1 vwCl (wB g a ask gw gh t15.2.1 t15.2.2.1 t15.2.2.2.1 t15.2.2.2.2.1 t15.2.2.2.2.2.1 t15.2.2.2.2.2.2 bx tt pl we le ab rw ki ow wa) H → va_D A (wB g a ask gw gh t15.2.1 t15.2.2.1 t15.2.2.2.1 t15.2.2.2.2.1 t15.2.2.2.2.2.1 t15.2.2.2.2.2.2 bx tt pl we le ab rw ki ow wa) → va_S A s.heap H locs → lv_has ls 3 [(2, .int t15.1)] → W p l e ({ frames := 6, cells := 0, slots := 0, locals := 150 }) s m args below meth c H locs 0 0 (MQ below (QM g (some (.int res.1)) (wB g a ask gw gh res.2.1 res.2.2.1 res.2.2.2.1 res.2.2.2.2.1 res.2.2.2.2.2.1 res.2.2.2.2.2.2 bx tt pl we le ab rw ki ow wa) A) args s 0 0 A) (F0 m 33 ls []) := by
        intro H locs ls hP hD hS hl
        refine lv_iload_n hx hb dX3_steps_33 rfl (lv_at hl 0 rfl) ?_
        obtain rfl := Option.some.inj h
        exact retMi hx hb hr hlocks hP hD hS dX3_steps_34
      clear h
      have L15 : ∀ (n : Nat) (s15 : Int32 × (Nat → Int64) × Int32 × Int32 × Int32 × (Nat → Int32) × (Nat → Int32)), wh (fX3_steps_15 x1 ki ow wa) n s15 = some t15 → ∀ (H : Heap) (locs : List Loc) (ls : Array Slot), va_P g.1 vwCl (wB g a ask gw gh s15.2.1 s15.2.2.1 s15.2.2.2.1 s15.2.2.2.2.1 s15.2.2.2.2.2.1 s15.2.2.2.2.2.2 bx tt pl we le ab rw ki ow wa) H → va_D A (wB g a ask gw gh s15.2.1 s15.2.2.1 s15.2.2.2.1 s15.2.2.2.2.1 s15.2.2.2.2.2.1 s15.2.2.2.2.2.2 bx tt pl we le ab rw ki ow wa) → va_S A s.heap H locs → lv_has ls 3 [(0, .ref (a 0)), (1, .int x1), (2, .int s15.1)] → W p l e ({ frames := 6, cells := 0, slots := 0, locals := 150 }) s m args below meth c H locs 0 0 (MQ below (QM g (some (.int res.1)) (wB g a ask gw gh res.2.1 res.2.2.1 res.2.2.2.1 res.2.2.2.2.1 res.2.2.2.2.2.1 res.2.2.2.2.2.2 bx tt pl we le ab rw ki ow wa) A) args s 0 0 A) (F0 m 15 ls []) := by
        intro n
        induction n with
        | zero => intro s15 hw; exact (wh_0 hw).elim
        | succ n ih15 =>
          intro s15 hw H locs ls hP hD hS hl
          obtain ⟨r0, h, hr15⟩ := wh_s hw
          refine lv_iload_n hx hb dX3_steps_15 rfl (lv_at hl 2 rfl) ?_
          refine lv_iload_n hx hb dX3_steps_16 rfl (lv_at hl 1 rfl) ?_
          refine lv_icmp_ge (tgt := 33) hx hb dX3_steps_17 (by decide) (fun c17 => ?_) (fun c17 => ?_)
          ·
            replace h := gdp h c17
            obtain rfl := Option.some.inj h
            have e0 : (s15.1, s15.2.1, s15.2.2.1, s15.2.2.2.1, s15.2.2.2.2.1, s15.2.2.2.2.2.1, s15.2.2.2.2.2.2) = t15 := hr15
            subst e0
            exact X15 _ _ _ hP hD hS (lv_sub hl [2] rfl)
          ·
            replace h := gdn h c17
            refine lv_aload_n hx hb dX3_steps_20 rfl (lv_at hl 0 rfl) ?_
            obtain ⟨r21, hr21, h⟩ := gdb h
            refine kMV (As := []) (rest := []) (ci := 3) (W1 := (wB g a ask gw gh r21.2.1 r21.2.2.1 r21.2.2.2.1 r21.2.2.2.2.1 r21.2.2.2.2.2.1 r21.2.2.2.2.2.2 bx tt pl we le ab rw ki ow wa)) (wr := []) S (ctX3_step l g a  ask gw gh s15.2.1 s15.2.2.1 s15.2.2.2.1 s15.2.2.2.2.1 s15.2.2.2.2.2.1 s15.2.2.2.2.2.2 bx tt pl we le ab rw ki ow wa r21 hr21) (cwV 0 hts gX3_steps_X3_step rfl rfl rfl (by decide +kernel) ⟨Nat.le_of_ble_eq_true rfl, Nat.le_of_ble_eq_true rfl⟩) hK hP hD hS hA [0, 1, 2, 3, 4, 5, 6, 7, 8, 9, 10, 11, 12, 13, 14] [] [0, 1, 2, 3, 4, 5, 6, 7, 8, 9, 10, 11, 12, 13, 14] rfl rfl rfl rfl (by decide) rfl rfl rfl rfl rfl rfl hl.1 rfl (Nat.le_of_ble_eq_true rfl) dX3_steps_21 ⟨Nat.zero_le _, Nat.zero_le _⟩ (fun H locs hP hD hS => ?_)
            show W p l e ({ frames := 6, cells := 0, slots := 0, locals := 150 }) s m args below meth c H locs 0 0 (MQ below (QM g (some (.int res.1)) (wB g a ask gw gh res.2.1 res.2.2.1 res.2.2.2.1 res.2.2.2.2.1 res.2.2.2.2.2.1 res.2.2.2.2.2.2 bx tt pl we le ab rw ki ow wa) A) args s 0 0 A) (F0 m 24 ls [.int r21.1])
            refine lv_if_eq (tgt := 33) hx hb dX3_steps_24 (by decide) (fun c24 => ?_) (fun c24 => ?_)
            ·
              replace h := gdp h c24
              obtain rfl := Option.some.inj h
              have e0 : (s15.1, r21.2.1, r21.2.2.1, r21.2.2.2.1, r21.2.2.2.2.1, r21.2.2.2.2.2.1, r21.2.2.2.2.2.2) = t15 := hr15
              subst e0
              exact X15 _ _ _ hP hD hS (lv_sub hl [2] rfl)
            ·
              replace h := gdn h c24
              refine lv_iinc (v := (s15.1 + 1)) (lv' := [(2, .int (s15.1 + 1)), (0, .ref (a 0)), (1, .int x1)]) hx hb dX3_steps_27 hl (k := 2) rfl rfl (by decide) rfl (fun ls hl => ?_)
              refine lv_goto (tgt := 15) hx hb dX3_steps_30 (by decide) ?_
              obtain rfl := Option.some.inj h
              exact ih15 ((s15.1 + 1), r21.2.1, r21.2.2.1, r21.2.2.2.1, r21.2.2.2.2.1, r21.2.2.2.2.2.1, r21.2.2.2.2.2.2) hr15 _ _ _ hP hD hS (lv_sub hl [1, 2, 0] rfl)
      exact L15 _ ((0 : Int32), gl, top, kep, don, vc, vf) hw15 _ _ _ hP hD hS (lv_sub hl [1, 2, 0] rfl)
    ·
      replace h := gdn h c8
      refine lv_iconst (v := -1) hx hb dX3_steps_11 (by decide) ?_
      obtain rfl := Option.some.inj h
      exact retMi (v := (-1 : Int32)) hx hb hr hlocks hP hD hS dX3_steps_12
-- LandBoard.undo
set_option maxHeartbeats 4000000 in
set_option maxRecDepth 100000 in
theorem ctX3_undo (l : Launch) (g : GG) (a : Nat → Nat) (x1 : Int32) (ask : Int64) (gw : Int32) (gh : Int32) (gl : (Nat → Int64)) (top : Int32) (kep : Int32) (don : Int32) (vc : (Nat → Int32)) (vf : (Nat → Int32)) (bx : Int32) (tt : Int32) (pl : (Nat → Int32)) (we : (Nat → Int32)) (le : (Nat → Int32)) (ab : (Nat → Int32)) (rw : (Nat → Int32)) (ki : (Nat → Int32)) (ow : (Nat → Int32)) (wa : (Nat → Int32)) (res : Int32 × (Nat → Int64) × Int32 × Int32) (h : fX3_undo x1 gl top kep vc vf = some res) : MM l yX3_undo wsX3_undo ({ frames := 2, cells := 0, slots := 0, locals := 43 }) g [.ref (a 0), .int x1] (wB g a ask gw gh gl top kep don vc vf bx tt pl we le ab rw ki ow wa) (wB g a ask gw gh res.2.1 res.2.2.1 res.2.2.2 don vc vf bx tt pl we le ab rw ki ow wa) (some (.int res.1)) := by
  refine MM.of (cc := cX3_undo) (own := RX3) 3 (some .int) (by decide +kernel) rfl (Nat.le_of_ble_eq_true rfl) rfl ?_
  intro p e s m args below meth c hx hb hr hml hown hts hlocks hK A hA ls hl hP hD hS
  have S : CallFix p m c cX3_undo 3 s args wsX3_undo RX3 := ⟨hx, hb, hml, hown, hts⟩
  have hl : lv_has ls 3 [(0, .ref (a 0)), (1, .int x1)] := hl
  have f19 := hts (.fieldLink RX3 19 "LandBoard" "moves" "LLandBoard$Moves;") (by decide +kernel)
  have iX3 := (by decide +kernel : ∀ w ∈ u_ws RX3 TX3 8, w ∈ wsX3_undo)
  have f130 := hts (.fieldLink RX3 130 "LandBoard$Moves" "kept" "I") (by decide +kernel)
  have iX1 := (by decide +kernel : ∀ w ∈ u_ws RX1 TX1 5, w ∈ wsX3_undo)
  have f12 := hts (.fieldLink RX3 12 "LandBoard" "now" "LLandBoard$Grid;") (by decide +kernel)
  refine lv_iload_n hx hb dX3_undo_0 rfl (lv_at hl 1 rfl) ?_
  refine lv_iconst (v := 1) hx hb dX3_undo_1 (by decide) ?_
  refine lv_icmp_lt (tgt := 11) hx hb dX3_undo_2 (by decide) (fun c2 => ?_) (fun c2 => ?_)
  ·
    replace h := gdp h c2
    refine lv_iconst (v := -1) hx hb dX3_undo_11 (by decide) ?_
    obtain rfl := Option.some.inj h
    exact retMi (v := (-1 : Int32)) hx hb hr hlocks hP hD hS dX3_undo_12
  ·
    replace h := gdn h c2
    refine lv_iload_n hx hb dX3_undo_5 rfl (lv_at hl 1 rfl) ?_
    refine lv_bipush (v := 100) hx hb dX3_undo_6 (by decide) ?_
    refine lv_icmp_le (tgt := 13) hx hb dX3_undo_8 (by decide) (fun c8 => ?_) (fun c8 => ?_)
    ·
      replace h := gdp h c8
      refine lv_iconst (v := 0) hx hb dX3_undo_13 (by decide) ?_
      refine lv_istore_n (lv' := [(2, .int (0 : Int32)), (0, .ref (a 0)), (1, .int x1)]) hx hb dX3_undo_14 rfl hl (by decide) rfl (fun ls hl => ?_)
      obtain ⟨t15, hw15, h⟩ := gdb h
      have X15 : ∀ (H : Heap) (locs : List Loc) (ls : Array Slot), va_P g.1 vwCl (wB g a ask gw gh t15.2.1 t15.2.2.1 t15.2.2.2 don vc vf bx tt pl we le ab rw ki ow wa) H → va_D A (wB g a ask gw gh t15.2.1 t15.2.2.1 t15.2.2.2 don vc vf bx tt pl we le ab rw ki ow wa) → va_S A s.heap H locs → lv_has ls 3 [(2, .int t15.1)] → W p l e ({ frames := 2, cells := 0, slots := 0, locals := 43 }) s m args below meth c H locs 0 0 (MQ below (QM g (some (.int res.1)) (wB g a ask gw gh res.2.1 res.2.2.1 res.2.2.2 don vc vf bx tt pl we le ab rw ki ow wa) A) args s 0 0 A) (F0 m 64 ls []) := by
        intro H locs ls hP hD hS hl
        refine lv_iload_n hx hb dX3_undo_64 rfl (lv_at hl 0 rfl) ?_
        obtain rfl := Option.some.inj h
        exact retMi hx hb hr hlocks hP hD hS dX3_undo_65
      clear h
      have L15 : ∀ (n : Nat) (s15 : Int32 × (Nat → Int64) × Int32 × Int32), wh (fX3_undo_15 x1 vc vf) n s15 = some t15 → ∀ (H : Heap) (locs : List Loc) (ls : Array Slot), va_P g.1 vwCl (wB g a ask gw gh s15.2.1 s15.2.2.1 s15.2.2.2 don vc vf bx tt pl we le ab rw ki ow wa) H → va_D A (wB g a ask gw gh s15.2.1 s15.2.2.1 s15.2.2.2 don vc vf bx tt pl we le ab rw ki ow wa) → va_S A s.heap H locs → lv_has ls 3 [(0, .ref (a 0)), (1, .int x1), (2, .int s15.1)] → W p l e ({ frames := 2, cells := 0, slots := 0, locals := 43 }) s m args below meth c H locs 0 0 (MQ below (QM g (some (.int res.1)) (wB g a ask gw gh res.2.1 res.2.2.1 res.2.2.2 don vc vf bx tt pl we le ab rw ki ow wa) A) args s 0 0 A) (F0 m 15 ls []) := by
        intro n
        induction n with
        | zero => intro s15 hw; exact (wh_0 hw).elim
        | succ n ih15 =>
          intro s15 hw H locs ls hP hD hS hl
          obtain ⟨r0, h, hr15⟩ := wh_s hw
          refine lv_iload_n hx hb dX3_undo_15 rfl (lv_at hl 2 rfl) ?_
          refine lv_iload_n hx hb dX3_undo_16 rfl (lv_at hl 1 rfl) ?_
          refine lv_icmp_ge (tgt := 64) hx hb dX3_undo_17 (by decide) (fun c17 => ?_) (fun c17 => ?_)
          ·
            replace h := gdp h c17
            obtain rfl := Option.some.inj h
            have e0 : (s15.1, s15.2.1, s15.2.2.1, s15.2.2.2) = t15 := hr15
            subst e0
            exact X15 _ _ _ hP hD hS (lv_sub hl [2] rfl)
          ·
            replace h := gdn h c17
            refine lv_aload_n hx hb dX3_undo_20 rfl (lv_at hl 0 rfl) ?_
            refine va_get (D := g.1) (ci := 3) (v := .ref (a 3)) (C := RX3) (T := TX3) (N := 8) hx hb hts iX3 hown hK.1 hP 0 rfl rfl 1 (by decide) f19 (fun _ h9 => h9) rfl dX3_undo_21 ?_
            refine va_get (D := g.1) (ci := 1) (v := .int s15.2.2.2) (C := RX1) (T := TX1) (N := 5) hx hb hts iX1 hown hK.1 hP 3 rfl rfl 3 (by decide) f130 (fun _ h9 => h9) rfl dX3_undo_24 ?_
            refine lv_if_le (tgt := 64) hx hb dX3_undo_27 (by decide) (fun c27 => ?_) (fun c27 => ?_)
            ·
              replace h := gdp h c27
              obtain rfl := Option.some.inj h
              have e0 : (s15.1, s15.2.1, s15.2.2.1, s15.2.2.2) = t15 := hr15
              subst e0
              exact X15 _ _ _ hP hD hS (lv_sub hl [2] rfl)
            ·
              replace h := gdn h c27
              refine lv_aload_n hx hb dX3_undo_30 rfl (lv_at hl 0 rfl) ?_
              refine va_get (D := g.1) (ci := 3) (v := .ref (a 1)) (C := RX3) (T := TX3) (N := 8) hx hb hts iX3 hown hK.1 hP 0 rfl rfl 0 (by decide) f12 (fun _ h9 => h9) rfl dX3_undo_31 ?_
              refine lv_aload_n hx hb dX3_undo_34 rfl (lv_at hl 0 rfl) ?_
              refine va_get (D := g.1) (ci := 3) (v := .ref (a 3)) (C := RX3) (T := TX3) (N := 8) hx hb hts iX3 hown hK.1 hP 0 rfl rfl 1 (by decide) f19 (fun _ h9 => h9) rfl dX3_undo_35 ?_
              obtain ⟨r38, hr38, h⟩ := gdb h
              refine kPV (As := []) (rest := [.ref (a 1)]) (ci := 1) S (ctX1_latestCell l g (a 3) (a 4) (a 5)  s15.2.2.1 s15.2.2.2 don vc vf r38 hr38) (cwV 0 hts gX3_undo_X1_latestCell rfl rfl rfl (by decide +kernel) ⟨Nat.le_of_ble_eq_true rfl, Nat.le_of_ble_eq_true rfl⟩) hK hP [3, 4, 5] rfl rfl rfl rfl rfl hl.1 rfl (Nat.le_of_ble_eq_true rfl) dX3_undo_38 ⟨Nat.zero_le _, Nat.zero_le _⟩ ?_
              refine lv_aload_n hx hb dX3_undo_41 rfl (lv_at hl 0 rfl) ?_
              refine va_get (D := g.1) (ci := 3) (v := .ref (a 3)) (C := RX3) (T := TX3) (N := 8) hx hb hts iX3 hown hK.1 hP 0 rfl rfl 1 (by decide) f19 (fun _ h9 => h9) rfl dX3_undo_42 ?_
              obtain ⟨r45, hr45, h⟩ := gdb h
              refine kPV (As := []) (rest := [.int r38, .ref (a 1)]) (ci := 1) S (ctX1_latestFrom l g (a 3) (a 4) (a 5)  s15.2.2.1 s15.2.2.2 don vc vf r45 hr45) (cwV 0 hts gX3_undo_X1_latestFrom rfl rfl rfl (by decide +kernel) ⟨Nat.le_of_ble_eq_true rfl, Nat.le_of_ble_eq_true rfl⟩) hK hP [3, 4, 5] rfl rfl rfl rfl rfl hl.1 rfl (Nat.le_of_ble_eq_true rfl) dX3_undo_45 ⟨Nat.zero_le _, Nat.zero_le _⟩ ?_
              obtain ⟨r48, hr48, h⟩ := gdb h
              refine kMV (As := [.int r38, .int r45]) (rest := []) (ci := 0) (W1 := (wB g a ask gw gh r48 s15.2.2.1 s15.2.2.2 don vc vf bx tt pl we le ab rw ki ow wa)) (wr := [((a 0), .inr (3, [.ref (a 1), .ref (a 3), .ref (a 6), .ref (a 12), .ref (a 13), .ref (a 14), .ref (a 15), .long ask])), ((a 3), .inr (1, [.ref (a 4), .ref (a 5), .int s15.2.2.1, .int s15.2.2.2, .int don])), ((a 4), .inl (g.2.1, 100, .inl vc)), ((a 5), .inl (g.2.1, 100, .inl vf)), ((a 6), .inr (2, [.ref (a 7), .ref (a 8), .ref (a 9), .ref (a 10), .ref (a 11), .int bx, .int tt])), ((a 7), .inl (g.2.1, 6, .inl pl)), ((a 8), .inl (g.2.1, 6, .inl we)), ((a 9), .inl (g.2.1, 6, .inl le)), ((a 10), .inl (g.2.1, 6, .inl ab)), ((a 11), .inl (g.2.1, 6, .inl rw)), ((a 13), .inl (g.2.1, 6, .inl ki)), ((a 14), .inl (g.2.1, 6, .inl ow)), ((a 15), .inl (g.2.1, 6, .inl wa))]) S (ctX0_put l g (a 1) (a 2) r38 r45 gw gh s15.2.1 r48 hr48) (cwV 2 hts gX3_undo_X0_put rfl rfl rfl (by decide +kernel) ⟨Nat.le_of_ble_eq_true rfl, Nat.le_of_ble_eq_true rfl⟩) hK hP hD hS hA [1, 2] [0, 3, 4, 5, 6, 7, 8, 9, 10, 11, 12, 13, 14] [0, 13, 14, 1, 2, 3, 4, 5, 6, 7, 8, 9, 10, 11, 12] rfl rfl rfl rfl (by decide) rfl rfl rfl rfl rfl rfl hl.1 rfl (Nat.le_of_ble_eq_true rfl) dX3_undo_48 ⟨Nat.zero_le _, Nat.zero_le _⟩ (fun H locs hP hD hS => ?_)
              show W p l e ({ frames := 2, cells := 0, slots := 0, locals := 43 }) s m args below meth c H locs 0 0 (MQ below (QM g (some (.int res.1)) (wB g a ask gw gh res.2.1 res.2.2.1 res.2.2.2 don vc vf bx tt pl we le ab rw ki ow wa) A) args s 0 0 A) (F0 m 51 ls [])
              refine lv_aload_n hx hb dX3_undo_51 rfl (lv_at hl 0 rfl) ?_
              refine va_get (D := g.1) (ci := 3) (v := .ref (a 3)) (C := RX3) (T := TX3) (N := 8) hx hb hts iX3 hown hK.1 hP 0 rfl rfl 1 (by decide) f19 (fun _ h9 => h9) rfl dX3_undo_52 ?_
              refine kMV (As := []) (rest := []) (ci := 1) (W1 := (wB g a ask gw gh r48 (fX1_dropLatest s15.2.2.1 s15.2.2.2).1 (fX1_dropLatest s15.2.2.1 s15.2.2.2).2 don vc vf bx tt pl we le ab rw ki ow wa)) (wr := [((a 0), .inr (3, [.ref (a 1), .ref (a 3), .ref (a 6), .ref (a 12), .ref (a 13), .ref (a 14), .ref (a 15), .long ask])), ((a 1), .inr (0, [.ref (a 2), .int gw, .int gh])), ((a 2), .inl (g.2.2.1, 6, .inr (.inl r48))), ((a 6), .inr (2, [.ref (a 7), .ref (a 8), .ref (a 9), .ref (a 10), .ref (a 11), .int bx, .int tt])), ((a 7), .inl (g.2.1, 6, .inl pl)), ((a 8), .inl (g.2.1, 6, .inl we)), ((a 9), .inl (g.2.1, 6, .inl le)), ((a 10), .inl (g.2.1, 6, .inl ab)), ((a 11), .inl (g.2.1, 6, .inl rw)), ((a 13), .inl (g.2.1, 6, .inl ki)), ((a 14), .inl (g.2.1, 6, .inl ow)), ((a 15), .inl (g.2.1, 6, .inl wa))]) S (ctX1_dropLatest l g (a 3) (a 4) (a 5)  s15.2.2.1 s15.2.2.2 don vc vf (fX1_dropLatest s15.2.2.1 s15.2.2.2) rfl) (cwV 0 hts gX3_undo_X1_dropLatest rfl rfl rfl (by decide +kernel) ⟨Nat.le_of_ble_eq_true rfl, Nat.le_of_ble_eq_true rfl⟩) hK hP hD hS hA [3, 4, 5] [0, 1, 2, 6, 7, 8, 9, 10, 11, 12, 13, 14] [0, 1, 2, 12, 13, 14, 3, 4, 5, 6, 7, 8, 9, 10, 11] rfl rfl rfl rfl (by decide) rfl rfl rfl rfl rfl rfl hl.1 rfl (Nat.le_of_ble_eq_true rfl) dX3_undo_55 ⟨Nat.zero_le _, Nat.zero_le _⟩ (fun H locs hP hD hS => ?_)
              show W p l e ({ frames := 2, cells := 0, slots := 0, locals := 43 }) s m args below meth c H locs 0 0 (MQ below (QM g (some (.int res.1)) (wB g a ask gw gh res.2.1 res.2.2.1 res.2.2.2 don vc vf bx tt pl we le ab rw ki ow wa) A) args s 0 0 A) (F0 m 58 ls [])
              refine lv_iinc (v := (s15.1 + 1)) (lv' := [(2, .int (s15.1 + 1)), (0, .ref (a 0)), (1, .int x1)]) hx hb dX3_undo_58 hl (k := 2) rfl rfl (by decide) rfl (fun ls hl => ?_)
              refine lv_goto (tgt := 15) hx hb dX3_undo_61 (by decide) ?_
              obtain rfl := Option.some.inj h
              exact ih15 ((s15.1 + 1), r48, (fX1_dropLatest s15.2.2.1 s15.2.2.2).1, (fX1_dropLatest s15.2.2.1 s15.2.2.2).2) hr15 _ _ _ hP hD hS (lv_sub hl [1, 2, 0] rfl)
      exact L15 _ ((0 : Int32), gl, top, kep) hw15 _ _ _ hP hD hS (lv_sub hl [1, 2, 0] rfl)
    ·
      replace h := gdn h c8
      refine lv_iconst (v := -1) hx hb dX3_undo_11 (by decide) ?_
      obtain rfl := Option.some.inj h
      exact retMi (v := (-1 : Int32)) hx hb hr hlocks hP hD hS dX3_undo_12
-- LandBoard.label
set_option maxHeartbeats 4000000 in
set_option maxRecDepth 100000 in
theorem ctX3_label (l : Launch) (g : GG) (a : Nat → Nat) (x1 : Int32) (x2 : Int32) (ask : Int64) (gw : Int32) (gh : Int32) (gl : (Nat → Int64)) (top : Int32) (kep : Int32) (don : Int32) (vc : (Nat → Int32)) (vf : (Nat → Int32)) (bx : Int32) (tt : Int32) (pl : (Nat → Int32)) (we : (Nat → Int32)) (le : (Nat → Int32)) (ab : (Nat → Int32)) (rw : (Nat → Int32)) (ki : (Nat → Int32)) (ow : (Nat → Int32)) (wa : (Nat → Int32)) (res : Int32) (h : fX3_label x1 x2 gl = some res) : MP l yX3_label wsX3_label ({ frames := 2, cells := 0, slots := 0, locals := 42 }) g [.ref (a 0), .int x1, .int x2] (wB g a ask gw gh gl top kep don vc vf bx tt pl we le ab rw ki ow wa) (.int res) := by
  refine MP.of (cc := cX3_label) (own := RX3) 7 (some .int) (by decide +kernel) rfl (Nat.le_of_ble_eq_true rfl) rfl ?_
  intro p e s m args below meth c hx hb hr hml hown hts hlocks hP hK ls hl
  have S : CallFix p m c cX3_label 7 s args wsX3_label RX3 := ⟨hx, hb, hml, hown, hts⟩
  have hl : lv_has ls 7 [(0, .ref (a 0)), (1, .int x1), (2, .int x2)] := hl
  have f12 := hts (.fieldLink RX3 12 "LandBoard" "now" "LLandBoard$Grid;") (by decide +kernel)
  have iX3 := (by decide +kernel : ∀ w ∈ u_ws RX3 TX3 8, w ∈ wsX3_label)
  refine lv_iload_n hx hb dX3_label_0 rfl (lv_at hl 1 rfl) ?_
  refine kPS (As := [.int x1]) (rest := []) S (ctX3_isLand l g x1  (fX3_isLand x1) rfl) (va_cwS 1 hts gX3_label_X3_isLand rfl rfl rfl (by decide +kernel) ⟨Nat.le_of_ble_eq_true rfl, Nat.le_of_ble_eq_true rfl⟩) hK rfl rfl hl.1 rfl (Nat.le_of_ble_eq_true rfl) dX3_label_1 ⟨Nat.zero_le _, Nat.zero_le _⟩ ?_
  refine lv_if_eq (tgt := 16) hx hb dX3_label_4 (by decide) (fun c4 => ?_) (fun c4 => ?_)
  ·
    replace h := gdp h c4
    refine lv_iconst (v := -1) hx hb dX3_label_16 (by decide) ?_
    obtain rfl := Option.some.inj h
    exact retPi (v := (-1 : Int32)) hx hb hr hlocks dX3_label_17
  ·
    replace h := gdn h c4
    refine lv_iload_n hx hb dX3_label_7 rfl (lv_at hl 2 rfl) ?_
    refine lv_if_lt (tgt := 16) hx hb dX3_label_8 (by decide) (fun c8 => ?_) (fun c8 => ?_)
    ·
      replace h := gdp h c8
      refine lv_iconst (v := -1) hx hb dX3_label_16 (by decide) ?_
      obtain rfl := Option.some.inj h
      exact retPi (v := (-1 : Int32)) hx hb hr hlocks dX3_label_17
    ·
      replace h := gdn h c8
      refine lv_iload_n hx hb dX3_label_11 rfl (lv_at hl 2 rfl) ?_
      refine lv_iconst (v := 2) hx hb dX3_label_12 (by decide) ?_
      refine lv_icmp_le (tgt := 18) hx hb dX3_label_13 (by decide) (fun c13 => ?_) (fun c13 => ?_)
      ·
        replace h := gdp h c13
        refine lv_aload_n hx hb dX3_label_18 rfl (lv_at hl 0 rfl) ?_
        refine va_get (D := g.1) (ci := 3) (v := .ref (a 1)) (C := RX3) (T := TX3) (N := 8) hx hb hts iX3 hown hK.1 hP 0 rfl rfl 0 (by decide) f12 (fun _ h9 => h9) rfl dX3_label_19 ?_
        refine lv_iload_n hx hb dX3_label_22 rfl (lv_at hl 1 rfl) ?_
        obtain ⟨r23, hr23, h⟩ := gdb h
        refine kPV (As := [.int x1]) (rest := []) (ci := 0) S (ctX0_cellsOf l g (a 1) (a 2) x1 gw gh gl r23 hr23) (cwV 1 hts gX3_label_X0_cellsOf rfl rfl rfl (by decide +kernel) ⟨Nat.le_of_ble_eq_true rfl, Nat.le_of_ble_eq_true rfl⟩) hK hP [1, 2] rfl rfl rfl rfl rfl hl.1 rfl (Nat.le_of_ble_eq_true rfl) dX3_label_23 ⟨Nat.zero_le _, Nat.zero_le _⟩ ?_
        refine lv_lstore_n (lv' := [(3, .long r23), (0, .ref (a 0)), (1, .int x1), (2, .int x2)]) hx hb dX3_label_26 rfl hl (by decide) rfl (fun ls hl => ?_)
        refine lv_lload_n hx hb dX3_label_27 rfl (lv_at hl 0 rfl) ?_
        refine lv_lconst (v := 0) hx hb dX3_label_28 (by decide) ?_
        refine W.lcmp hx hb dX3_label_29 ?_
        refine lv_if_ne (tgt := 36) hx hb dX3_label_30 (by decide) (fun c30 => ?_) (fun c30 => ?_)
        ·
          replace h := gdn h c30
          refine lv_iconst (v := 1) hx hb dX3_label_36 (by decide) ?_
          refine lv_istore (lv' := [(5, .int (1 : Int32)), (3, .long r23), (0, .ref (a 0)), (1, .int x1), (2, .int x2)]) hx hb dX3_label_37 hl (by decide) rfl (fun ls hl => ?_)
          refine lv_iconst (v := 0) hx hb dX3_label_39 (by decide) ?_
          refine lv_istore (lv' := [(6, .int (0 : Int32)), (5, .int (1 : Int32)), (3, .long r23), (0, .ref (a 0)), (1, .int x1), (2, .int x2)]) hx hb dX3_label_40 hl (by decide) rfl (fun ls hl => ?_)
          obtain ⟨t42, hw42, h⟩ := gdb h
          have X42 : ∀ ls : Array Slot, lv_has ls 7 [(2, .int x2), (3, .long t42.1), (5, .int t42.2)] → W p l e ({ frames := 2, cells := 0, slots := 0, locals := 42 }) s m args below meth c s.heap [] 0 0 (MQ below (k2_QcV (.int res)) args s 0 0 (fun _ => False)) (F0 m 72 ls []) := by
            intro ls hl
            refine lv_lload_n hx hb dX3_label_72 rfl (lv_at hl 1 rfl) ?_
            obtain ⟨r73, hr73, h⟩ := gdb h
            refine kPS (As := [.long t42.1]) (rest := []) S (ctX3_firstOf l g t42.1  r73 hr73) (va_cwS 1 hts gX3_label_X3_firstOf rfl rfl rfl (by decide +kernel) ⟨Nat.le_of_ble_eq_true rfl, Nat.le_of_ble_eq_true rfl⟩) hK rfl rfl hl.1 rfl (Nat.le_of_ble_eq_true rfl) dX3_label_73 ⟨Nat.zero_le _, Nat.zero_le _⟩ ?_
            refine lv_istore (lv' := [(6, .int r73), (2, .int x2), (3, .long t42.1), (5, .int t42.2)]) hx hb dX3_label_76 hl (by decide) rfl (fun ls hl => ?_)
            refine lv_iload_n hx hb dX3_label_78 rfl (lv_at hl 1 rfl) ?_
            refine lv_if_ne (tgt := 90) hx hb dX3_label_79 (by decide) (fun c79 => ?_) (fun c79 => ?_)
            ·
              replace h := gdn h c79
              refine lv_iload_n hx hb dX3_label_90 rfl (lv_at hl 1 rfl) ?_
              refine lv_iconst (v := 1) hx hb dX3_label_91 (by decide) ?_
              refine lv_icmp_ne (tgt := 103) hx hb dX3_label_92 (by decide) (fun c92 => ?_) (fun c92 => ?_)
              ·
                replace h := gdn h c92
                refine lv_iload hx hb dX3_label_103 (lv_at hl 3 rfl) ?_
                obtain rfl := Option.some.inj h
                exact retPi hx hb hr hlocks dX3_label_105
              ·
                replace h := gdp h c92
                refine lv_iload hx hb dX3_label_95 (lv_at hl 0 rfl) ?_
                refine kPS (As := [.int r73]) (rest := []) S (ctX3_rowOf l g r73  (fX3_rowOf r73) rfl) (va_cwS 1 hts gX3_label_X3_rowOf rfl rfl rfl (by decide +kernel) ⟨Nat.le_of_ble_eq_true rfl, Nat.le_of_ble_eq_true rfl⟩) hK rfl rfl hl.1 rfl (Nat.le_of_ble_eq_true rfl) dX3_label_97 ⟨Nat.zero_le _, Nat.zero_le _⟩ ?_
                refine lv_goto (tgt := 105) hx hb dX3_label_100 (by decide) ?_
                obtain rfl := Option.some.inj h
                exact retPi hx hb hr hlocks dX3_label_105
            ·
              replace h := gdp h c79
              refine lv_iload hx hb dX3_label_82 (lv_at hl 0 rfl) ?_
              refine kPS (As := [.int r73]) (rest := []) S (ctX3_columnOf l g r73  (fX3_columnOf r73) rfl) (va_cwS 1 hts gX3_label_X3_columnOf rfl rfl rfl (by decide +kernel) ⟨Nat.le_of_ble_eq_true rfl, Nat.le_of_ble_eq_true rfl⟩) hK rfl rfl hl.1 rfl (Nat.le_of_ble_eq_true rfl) dX3_label_84 ⟨Nat.zero_le _, Nat.zero_le _⟩ ?_
              refine lv_goto (tgt := 105) hx hb dX3_label_87 (by decide) ?_
              obtain rfl := Option.some.inj h
              exact retPi hx hb hr hlocks dX3_label_105
          clear h
          have L42 : ∀ (n : Nat) (s42 : Int64 × Int32 × Int32), wh fX3_label_42 n s42 = some t42 → ∀ ls : Array Slot, lv_has ls 7 [(2, .int x2), (3, .long s42.1), (5, .int s42.2.1), (6, .int s42.2.2)] → W p l e ({ frames := 2, cells := 0, slots := 0, locals := 42 }) s m args below meth c s.heap [] 0 0 (MQ below (k2_QcV (.int res)) args s 0 0 (fun _ => False)) (F0 m 42 ls []) := by
            intro n
            induction n with
            | zero => intro s42 hw; exact (wh_0 hw).elim
            | succ n ih42 =>
              intro s42 hw ls hl
              obtain ⟨r0, h, hr42⟩ := wh_s hw
              refine lv_iload hx hb dX3_label_42 (lv_at hl 3 rfl) ?_
              refine lv_bipush (v := 8) hx hb dX3_label_44 (by decide) ?_
              refine lv_icmp_ge (tgt := 72) hx hb dX3_label_46 (by decide) (fun c46 => ?_) (fun c46 => ?_)
              ·
                replace h := gdp h c46
                obtain rfl := Option.some.inj h
                have e0 : (s42.1, s42.2.1) = t42 := hr42
                subst e0
                exact X42 _ (lv_sub hl [0, 1, 2] rfl)
              ·
                replace h := gdn h c46
                refine lv_lload_n hx hb dX3_label_49 rfl (lv_at hl 1 rfl) ?_
                refine kPS (As := [.long s42.1]) (rest := []) S (ctX3_inside l g s42.1  (fX3_inside s42.1) rfl) (va_cwS 1 hts gX3_label_X3_inside rfl rfl rfl (by decide +kernel) ⟨Nat.le_of_ble_eq_true rfl, Nat.le_of_ble_eq_true rfl⟩) hK rfl rfl hl.1 rfl (Nat.le_of_ble_eq_true rfl) dX3_label_50 ⟨Nat.zero_le _, Nat.zero_le _⟩ ?_
                refine lv_lconst (v := 0) hx hb dX3_label_53 (by decide) ?_
                refine W.lcmp hx hb dX3_label_54 ?_
                refine lv_if_eq (tgt := 72) hx hb dX3_label_55 (by decide) (fun c55 => ?_) (fun c55 => ?_)
                ·
                  replace h := gdp h c55
                  obtain rfl := Option.some.inj h
                  have e0 : (s42.1, s42.2.1) = t42 := hr42
                  subst e0
                  exact X42 _ (lv_sub hl [0, 1, 2] rfl)
                ·
                  replace h := gdn h c55
                  refine lv_lload_n hx hb dX3_label_58 rfl (lv_at hl 1 rfl) ?_
                  refine kPS (As := [.long s42.1]) (rest := []) S (ctX3_inside l g s42.1  (fX3_inside s42.1) rfl) (va_cwS 1 hts gX3_label_X3_inside rfl rfl rfl (by decide +kernel) ⟨Nat.le_of_ble_eq_true rfl, Nat.le_of_ble_eq_true rfl⟩) hK rfl rfl hl.1 rfl (Nat.le_of_ble_eq_true rfl) dX3_label_59 ⟨Nat.zero_le _, Nat.zero_le _⟩ ?_
                  refine lv_lstore_n (lv' := [(3, .long (fX3_inside s42.1)), (2, .int x2), (5, .int s42.2.1), (6, .int s42.2.2)]) hx hb dX3_label_62 rfl hl (by decide) rfl (fun ls hl => ?_)
                  refine lv_iinc (v := (s42.2.1 + 1)) (lv' := [(5, .int (s42.2.1 + 1)), (3, .long (fX3_inside s42.1)), (2, .int x2), (6, .int s42.2.2)]) hx hb dX3_label_63 hl (k := 2) rfl rfl (by decide) rfl (fun ls hl => ?_)
                  refine lv_iinc (v := (s42.2.2 + 1)) (lv' := [(6, .int (s42.2.2 + 1)), (5, .int (s42.2.1 + 1)), (3, .long (fX3_inside s42.1)), (2, .int x2)]) hx hb dX3_label_66 hl (k := 3) rfl rfl (by decide) rfl (fun ls hl => ?_)
                  refine lv_goto (tgt := 42) hx hb dX3_label_69 (by decide) ?_
                  obtain rfl := Option.some.inj h
                  exact ih42 ((fX3_inside s42.1), (s42.2.1 + 1), (s42.2.2 + 1)) hr42 _ (lv_sub hl [3, 2, 1, 0] rfl)
          exact L42 _ (r23, (1 : Int32), (0 : Int32)) hw42 _ (lv_sub hl [5, 2, 1, 0] rfl)
        ·
          replace h := gdp h c30
          refine lv_bipush (v := -9) hx hb dX3_label_33 (by decide) ?_
          obtain rfl := Option.some.inj h
          exact retPi (v := (-9 : Int32)) hx hb hr hlocks dX3_label_35
      ·
        replace h := gdn h c13
        refine lv_iconst (v := -1) hx hb dX3_label_16 (by decide) ?_
        obtain rfl := Option.some.inj h
        exact retPi (v := (-1 : Int32)) hx hb hr hlocks dX3_label_17
-- LandBoard.hasBox
set_option maxHeartbeats 4000000 in
set_option maxRecDepth 100000 in
theorem ctX3_hasBox (l : Launch) (g : GG) (a : Nat → Nat) (x1 : Int32) (x2 : Int32) (ask : Int64) (gw : Int32) (gh : Int32) (gl : (Nat → Int64)) (top : Int32) (kep : Int32) (don : Int32) (vc : (Nat → Int32)) (vf : (Nat → Int32)) (bx : Int32) (tt : Int32) (pl : (Nat → Int32)) (we : (Nat → Int32)) (le : (Nat → Int32)) (ab : (Nat → Int32)) (rw : (Nat → Int32)) (ki : (Nat → Int32)) (ow : (Nat → Int32)) (wa : (Nat → Int32)) (res : Int32) (h : fX3_hasBox x1 x2 gl = some res) : MP l yX3_hasBox wsX3_hasBox ({ frames := 3, cells := 0, slots := 0, locals := 62 }) g [.ref (a 0), .int x1, .int x2] (wB g a ask gw gh gl top kep don vc vf bx tt pl we le ab rw ki ow wa) (.int res) := by
  refine MP.of (cc := cX3_hasBox) (own := RX3) 3 (some .boolean) (by decide +kernel) rfl (Nat.le_of_ble_eq_true rfl) rfl ?_
  intro p e s m args below meth c hx hb hr hml hown hts hlocks hP hK ls hl
  have S : CallFix p m c cX3_hasBox 3 s args wsX3_hasBox RX3 := ⟨hx, hb, hml, hown, hts⟩
  have hl : lv_has ls 3 [(0, .ref (a 0)), (1, .int x1), (2, .int x2)] := hl
  have f12 := hts (.fieldLink RX3 12 "LandBoard" "now" "LLandBoard$Grid;") (by decide +kernel)
  have iX3 := (by decide +kernel : ∀ w ∈ u_ws RX3 TX3 8, w ∈ wsX3_hasBox)
  refine lv_iload_n hx hb dX3_hasBox_0 rfl (lv_at hl 2 rfl) ?_
  refine kPS (As := [.int x2]) (rest := []) S (ctX3_isLand l g x2  (fX3_isLand x2) rfl) (va_cwS 1 hts gX3_hasBox_X3_isLand rfl rfl rfl (by decide +kernel) ⟨Nat.le_of_ble_eq_true rfl, Nat.le_of_ble_eq_true rfl⟩) hK rfl rfl hl.1 rfl (Nat.le_of_ble_eq_true rfl) dX3_hasBox_1 ⟨Nat.zero_le _, Nat.zero_le _⟩ ?_
  refine lv_if_eq (tgt := 41) hx hb dX3_hasBox_4 (by decide) (fun c4 => ?_) (fun c4 => ?_)
  ·
    replace h := gdp h c4
    refine lv_iconst (v := 0) hx hb dX3_hasBox_41 (by decide) ?_
    obtain rfl := Option.some.inj h
    exact retPz (v := (0 : Int32)) hx hb hr hlocks rfl dX3_hasBox_42
  ·
    replace h := gdn h c4
    refine lv_aload_n hx hb dX3_hasBox_7 rfl (lv_at hl 0 rfl) ?_
    refine va_get (D := g.1) (ci := 3) (v := .ref (a 1)) (C := RX3) (T := TX3) (N := 8) hx hb hts iX3 hown hK.1 hP 0 rfl rfl 0 (by decide) f12 (fun _ h9 => h9) rfl dX3_hasBox_8 ?_
    refine lv_iload_n hx hb dX3_hasBox_11 rfl (lv_at hl 2 rfl) ?_
    obtain ⟨r12, hr12, h⟩ := gdb h
    refine kPV (As := [.int x2]) (rest := []) (ci := 0) S (ctX0_sizeOf l g (a 1) (a 2) x2 gw gh gl r12 hr12) (cwV 1 hts gX3_hasBox_X0_sizeOf rfl rfl rfl (by decide +kernel) ⟨Nat.le_of_ble_eq_true rfl, Nat.le_of_ble_eq_true rfl⟩) hK hP [1, 2] rfl rfl rfl rfl rfl hl.1 rfl (Nat.le_of_ble_eq_true rfl) dX3_hasBox_12 ⟨Nat.zero_le _, Nat.zero_le _⟩ ?_
    refine lv_if_le (tgt := 41) hx hb dX3_hasBox_15 (by decide) (fun c15 => ?_) (fun c15 => ?_)
    ·
      replace h := gdp h c15
      refine lv_iconst (v := 0) hx hb dX3_hasBox_41 (by decide) ?_
      obtain rfl := Option.some.inj h
      exact retPz (v := (0 : Int32)) hx hb hr hlocks rfl dX3_hasBox_42
    ·
      replace h := gdn h c15
      refine lv_iload_n hx hb dX3_hasBox_18 rfl (lv_at hl 1 rfl) ?_
      refine lv_if_lt (tgt := 41) hx hb dX3_hasBox_19 (by decide) (fun c19 => ?_) (fun c19 => ?_)
      ·
        replace h := gdp h c19
        refine lv_iconst (v := 0) hx hb dX3_hasBox_41 (by decide) ?_
        obtain rfl := Option.some.inj h
        exact retPz (v := (0 : Int32)) hx hb hr hlocks rfl dX3_hasBox_42
      ·
        replace h := gdn h c19
        refine lv_iload_n hx hb dX3_hasBox_22 rfl (lv_at hl 1 rfl) ?_
        refine lv_iconst (v := 1) hx hb dX3_hasBox_23 (by decide) ?_
        refine lv_aload_n hx hb dX3_hasBox_24 rfl (lv_at hl 0 rfl) ?_
        refine va_get (D := g.1) (ci := 3) (v := .ref (a 1)) (C := RX3) (T := TX3) (N := 8) hx hb hts iX3 hown hK.1 hP 0 rfl rfl 0 (by decide) f12 (fun _ h9 => h9) rfl dX3_hasBox_25 ?_
        obtain ⟨r28, hr28, h⟩ := gdb h
        refine kPV (As := []) (rest := [.int (1 : Int32), .int x1]) (ci := 0) S (ctX0_peopled l g (a 1) (a 2)  gw gh gl r28 hr28) (cwV 0 hts gX3_hasBox_X0_peopled rfl rfl rfl (by decide +kernel) ⟨Nat.le_of_ble_eq_true rfl, Nat.le_of_ble_eq_true rfl⟩) hK hP [1, 2] rfl rfl rfl rfl rfl hl.1 rfl (Nat.le_of_ble_eq_true rfl) dX3_hasBox_28 ⟨Nat.zero_le _, Nat.zero_le _⟩ ?_
        refine lv_iconst (v := 1) hx hb dX3_hasBox_31 (by decide) ?_
        refine lv_isub hx hb dX3_hasBox_32 ?_
        refine lv_ishl hx hb dX3_hasBox_33 ?_
        refine lv_icmp_ge (tgt := 41) hx hb dX3_hasBox_34 (by decide) (fun c34 => ?_) (fun c34 => ?_)
        ·
          replace h := gdp h c34
          refine lv_iconst (v := 0) hx hb dX3_hasBox_41 (by decide) ?_
          obtain rfl := Option.some.inj h
          exact retPz (v := (0 : Int32)) hx hb hr hlocks rfl dX3_hasBox_42
        ·
          replace h := gdn h c34
          refine lv_iconst (v := 1) hx hb dX3_hasBox_37 (by decide) ?_
          refine lv_goto (tgt := 42) hx hb dX3_hasBox_38 (by decide) ?_
          obtain rfl := Option.some.inj h
          exact retPz (v := (1 : Int32)) hx hb hr hlocks rfl dX3_hasBox_42
-- LandBoard.longer
set_option maxHeartbeats 4000000 in
set_option maxRecDepth 100000 in
theorem ctX3_longer (l : Launch) (g : GG) (a : Nat → Nat) (x1 : Int32) (x2 : Int32) (x3 : Int32) (ask : Int64) (gw : Int32) (gh : Int32) (gl : (Nat → Int64)) (top : Int32) (kep : Int32) (don : Int32) (vc : (Nat → Int32)) (vf : (Nat → Int32)) (bx : Int32) (tt : Int32) (pl : (Nat → Int32)) (we : (Nat → Int32)) (le : (Nat → Int32)) (ab : (Nat → Int32)) (rw : (Nat → Int32)) (ki : (Nat → Int32)) (ow : (Nat → Int32)) (wa : (Nat → Int32)) (res : Int32 × Int32 × Int32 × (Nat → Int32) × (Nat → Int32) × (Nat → Int32) × (Nat → Int32) × (Nat → Int32)) (h : fX3_longer x1 x2 x3 gl bx tt pl we le ab rw = some res) : MM l yX3_longer wsX3_longer ({ frames := 4, cells := 0, slots := 0, locals := 84 }) g [.ref (a 0), .int x1, .int x2, .int x3] (wB g a ask gw gh gl top kep don vc vf bx tt pl we le ab rw ki ow wa) (wB g a ask gw gh gl top kep don vc vf res.2.1 res.2.2.1 res.2.2.2.1 res.2.2.2.2.1 res.2.2.2.2.2.1 res.2.2.2.2.2.2.1 res.2.2.2.2.2.2.2 ki ow wa) (some (.int res.1)) := by
  refine MM.of (cc := cX3_longer) (own := RX3) 7 (some .int) (by decide +kernel) rfl (Nat.le_of_ble_eq_true rfl) rfl ?_
  intro p e s m args below meth c hx hb hr hml hown hts hlocks hK A hA ls hl hP hD hS
  have S : CallFix p m c cX3_longer 7 s args wsX3_longer RX3 := ⟨hx, hb, hml, hown, hts⟩
  have hl : lv_has ls 7 [(0, .ref (a 0)), (1, .int x1), (2, .int x2), (3, .int x3)] := hl
  have f26 := hts (.fieldLink RX3 26 "LandBoard" "rows" "LLandBoard$Rows;") (by decide +kernel)
  have iX3 := (by decide +kernel : ∀ w ∈ u_ws RX3 TX3 8, w ∈ wsX3_longer)
  have f12 := hts (.fieldLink RX3 12 "LandBoard" "now" "LLandBoard$Grid;") (by decide +kernel)
  refine lv_iload_n hx hb dX3_longer_0 rfl (lv_at hl 3 rfl) ?_
  refine lv_if_lt (tgt := 18) hx hb dX3_longer_1 (by decide) (fun c1 => ?_) (fun c1 => ?_)
  ·
    replace h := gdp h c1
    refine lv_iconst (v := -1) hx hb dX3_longer_18 (by decide) ?_
    obtain rfl := Option.some.inj h
    exact retMi (v := (-1 : Int32)) hx hb hr hlocks hP hD hS dX3_longer_19
  ·
    replace h := gdn h c1
    refine lv_iload_n hx hb dX3_longer_4 rfl (lv_at hl 3 rfl) ?_
    refine lv_iconst (v := 1) hx hb dX3_longer_5 (by decide) ?_
    refine lv_icmp_gt (tgt := 18) hx hb dX3_longer_6 (by decide) (fun c6 => ?_) (fun c6 => ?_)
    ·
      replace h := gdp h c6
      refine lv_iconst (v := -1) hx hb dX3_longer_18 (by decide) ?_
      obtain rfl := Option.some.inj h
      exact retMi (v := (-1 : Int32)) hx hb hr hlocks hP hD hS dX3_longer_19
    ·
      replace h := gdn h c6
      refine lv_aload_n hx hb dX3_longer_9 rfl (lv_at hl 0 rfl) ?_
      refine lv_iload_n hx hb dX3_longer_10 rfl (lv_at hl 1 rfl) ?_
      refine lv_iload_n hx hb dX3_longer_11 rfl (lv_at hl 2 rfl) ?_
      obtain ⟨r12, hr12, h⟩ := gdb h
      refine kPV (As := [.int x1, .int x2]) (rest := []) (ci := 3) S (ctX3_hasBox l g a x1 x2 ask gw gh gl top kep don vc vf bx tt pl we le ab rw ki ow wa r12 hr12) (cwV 2 hts gX3_longer_X3_hasBox rfl rfl rfl (by decide +kernel) ⟨Nat.le_of_ble_eq_true rfl, Nat.le_of_ble_eq_true rfl⟩) hK hP [0, 1, 2, 3, 4, 5, 6, 7, 8, 9, 10, 11, 12, 13, 14] rfl rfl rfl rfl rfl hl.1 rfl (Nat.le_of_ble_eq_true rfl) dX3_longer_12 ⟨Nat.zero_le _, Nat.zero_le _⟩ ?_
      refine lv_if_ne (tgt := 20) hx hb dX3_longer_15 (by decide) (fun c15 => ?_) (fun c15 => ?_)
      ·
        replace h := gdn h c15
        refine lv_aload_n hx hb dX3_longer_20 rfl (lv_at hl 0 rfl) ?_
        refine va_get (D := g.1) (ci := 3) (v := .ref (a 6)) (C := RX3) (T := TX3) (N := 8) hx hb hts iX3 hown hK.1 hP 0 rfl rfl 2 (by decide) f26 (fun _ h9 => h9) rfl dX3_longer_21 ?_
        refine lv_aload_n hx hb dX3_longer_24 rfl (lv_at hl 0 rfl) ?_
        refine va_get (D := g.1) (ci := 3) (v := .ref (a 1)) (C := RX3) (T := TX3) (N := 8) hx hb hts iX3 hown hK.1 hP 0 rfl rfl 0 (by decide) f12 (fun _ h9 => h9) rfl dX3_longer_25 ?_
        obtain ⟨r28, hr28, h⟩ := gdb h
        refine kMV (As := [.ref (a 1)]) (rest := []) (ci := 2) (W1 := (wB g a ask gw gh gl top kep don vc vf r28.1 r28.2.1 r28.2.2.1 r28.2.2.2 le ab rw ki ow wa)) (wr := [((a 0), .inr (3, [.ref (a 1), .ref (a 3), .ref (a 6), .ref (a 12), .ref (a 13), .ref (a 14), .ref (a 15), .long ask])), ((a 3), .inr (1, [.ref (a 4), .ref (a 5), .int top, .int kep, .int don])), ((a 4), .inl (g.2.1, 100, .inl vc)), ((a 5), .inl (g.2.1, 100, .inl vf)), ((a 13), .inl (g.2.1, 6, .inl ki)), ((a 14), .inl (g.2.1, 6, .inl ow)), ((a 15), .inl (g.2.1, 6, .inl wa))]) S (ctX2_read l g (a 6) (a 7) (a 8) (a 9) (a 10) (a 11) (a 1) (a 2)  bx tt pl we le ab rw gw gh gl r28 hr28) (cwV 1 hts gX3_longer_X2_read rfl rfl rfl (by decide +kernel) ⟨Nat.le_of_ble_eq_true rfl, Nat.le_of_ble_eq_true rfl⟩) hK hP hD hS hA [6, 7, 8, 9, 10, 11, 1, 2] [0, 3, 4, 5, 12, 13, 14] [0, 13, 14, 1, 2, 3, 7, 8, 9, 10, 11, 12, 4, 5, 6] rfl rfl rfl rfl (by decide) rfl rfl rfl rfl rfl rfl hl.1 rfl (Nat.le_of_ble_eq_true rfl) dX3_longer_28 ⟨Nat.zero_le _, Nat.zero_le _⟩ (fun H locs hP hD hS => ?_)
        show W p l e ({ frames := 4, cells := 0, slots := 0, locals := 84 }) s m args below meth c H locs 0 0 (MQ below (QM g (some (.int res.1)) (wB g a ask gw gh gl top kep don vc vf res.2.1 res.2.2.1 res.2.2.2.1 res.2.2.2.2.1 res.2.2.2.2.2.1 res.2.2.2.2.2.2.1 res.2.2.2.2.2.2.2 ki ow wa) A) args s 0 0 A) (F0 m 31 ls [])
        refine lv_aload_n hx hb dX3_longer_31 rfl (lv_at hl 0 rfl) ?_
        refine va_get (D := g.1) (ci := 3) (v := .ref (a 6)) (C := RX3) (T := TX3) (N := 8) hx hb hts iX3 hown hK.1 hP 0 rfl rfl 2 (by decide) f26 (fun _ h9 => h9) rfl dX3_longer_32 ?_
        refine lv_iload_n hx hb dX3_longer_35 rfl (lv_at hl 1 rfl) ?_
        obtain ⟨r36, hr36, h⟩ := gdb h
        refine kMV (As := [.int x1]) (rest := []) (ci := 2) (W1 := (wB g a ask gw gh gl top kep don vc vf r28.1 r28.2.1 r28.2.2.1 r28.2.2.2 r36.1 r36.2.1 r36.2.2 ki ow wa)) (wr := [((a 0), .inr (3, [.ref (a 1), .ref (a 3), .ref (a 6), .ref (a 12), .ref (a 13), .ref (a 14), .ref (a 15), .long ask])), ((a 1), .inr (0, [.ref (a 2), .int gw, .int gh])), ((a 2), .inl (g.2.2.1, 6, .inr (.inl gl))), ((a 3), .inr (1, [.ref (a 4), .ref (a 5), .int top, .int kep, .int don])), ((a 4), .inl (g.2.1, 100, .inl vc)), ((a 5), .inl (g.2.1, 100, .inl vf)), ((a 13), .inl (g.2.1, 6, .inl ki)), ((a 14), .inl (g.2.1, 6, .inl ow)), ((a 15), .inl (g.2.1, 6, .inl wa))]) S (ctX2_lay l g (a 6) (a 7) (a 8) (a 9) (a 10) (a 11) x1 r28.1 r28.2.1 r28.2.2.1 r28.2.2.2 le ab rw r36 hr36) (cwV 1 hts gX3_longer_X2_lay rfl rfl rfl (by decide +kernel) ⟨Nat.le_of_ble_eq_true rfl, Nat.le_of_ble_eq_true rfl⟩) hK hP hD hS hA [6, 7, 8, 9, 10, 11] [0, 1, 2, 3, 4, 5, 12, 13, 14] [0, 1, 2, 3, 4, 5, 9, 10, 11, 12, 13, 14, 6, 7, 8] rfl rfl rfl rfl (by decide) rfl rfl rfl rfl rfl rfl hl.1 rfl (Nat.le_of_ble_eq_true rfl) dX3_longer_36 ⟨Nat.zero_le _, Nat.zero_le _⟩ (fun H locs hP hD hS => ?_)
        show W p l e ({ frames := 4, cells := 0, slots := 0, locals := 84 }) s m args below meth c H locs 0 0 (MQ below (QM g (some (.int res.1)) (wB g a ask gw gh gl top kep don vc vf res.2.1 res.2.2.1 res.2.2.2.1 res.2.2.2.2.1 res.2.2.2.2.2.1 res.2.2.2.2.2.2.1 res.2.2.2.2.2.2.2 ki ow wa) A) args s 0 0 A) (F0 m 39 ls [])
        refine lv_aload_n hx hb dX3_longer_39 rfl (lv_at hl 0 rfl) ?_
        refine va_get (D := g.1) (ci := 3) (v := .ref (a 6)) (C := RX3) (T := TX3) (N := 8) hx hb hts iX3 hown hK.1 hP 0 rfl rfl 2 (by decide) f26 (fun _ h9 => h9) rfl dX3_longer_40 ?_
        refine lv_aload_n hx hb dX3_longer_43 rfl (lv_at hl 0 rfl) ?_
        refine va_get (D := g.1) (ci := 3) (v := .ref (a 6)) (C := RX3) (T := TX3) (N := 8) hx hb hts iX3 hown hK.1 hP 0 rfl rfl 2 (by decide) f26 (fun _ h9 => h9) rfl dX3_longer_44 ?_
        refine lv_iload_n hx hb dX3_longer_47 rfl (lv_at hl 2 rfl) ?_
        obtain ⟨r48, hr48, h⟩ := gdb h
        refine kPV (As := [.int x2]) (rest := [.ref (a 6)]) (ci := 2) S (ctX2_placeOf l g (a 6) (a 7) (a 8) (a 9) (a 10) (a 11) x2 r28.1 r28.2.1 r28.2.2.1 r28.2.2.2 r36.1 r36.2.1 r36.2.2 r48 hr48) (cwV 1 hts gX3_longer_X2_placeOf rfl rfl rfl (by decide +kernel) ⟨Nat.le_of_ble_eq_true rfl, Nat.le_of_ble_eq_true rfl⟩) hK hP [6, 7, 8, 9, 10, 11] rfl rfl rfl rfl rfl hl.1 rfl (Nat.le_of_ble_eq_true rfl) dX3_longer_48 ⟨Nat.zero_le _, Nat.zero_le _⟩ ?_
        obtain ⟨r51, hr51, h⟩ := gdb h
        refine kPV (As := [.int r48]) (rest := []) (ci := 2) S (ctX2_longUpper l g (a 6) (a 7) (a 8) (a 9) (a 10) (a 11) r48 r28.1 r28.2.1 r28.2.2.1 r28.2.2.2 r36.1 r36.2.1 r36.2.2 r51 hr51) (cwV 1 hts gX3_longer_X2_longUpper rfl rfl rfl (by decide +kernel) ⟨Nat.le_of_ble_eq_true rfl, Nat.le_of_ble_eq_true rfl⟩) hK hP [6, 7, 8, 9, 10, 11] rfl rfl rfl rfl rfl hl.1 rfl (Nat.le_of_ble_eq_true rfl) dX3_longer_51 ⟨Nat.zero_le _, Nat.zero_le _⟩ ?_
        refine lv_istore (lv' := [(4, .int r51), (0, .ref (a 0)), (1, .int x1), (2, .int x2), (3, .int x3)]) hx hb dX3_longer_54 hl (by decide) rfl (fun ls hl => ?_)
        refine lv_aload_n hx hb dX3_longer_56 rfl (lv_at hl 1 rfl) ?_
        refine va_get (D := g.1) (ci := 3) (v := .ref (a 6)) (C := RX3) (T := TX3) (N := 8) hx hb hts iX3 hown hK.1 hP 0 rfl rfl 2 (by decide) f26 (fun _ h9 => h9) rfl dX3_longer_57 ?_
        refine lv_aload_n hx hb dX3_longer_60 rfl (lv_at hl 1 rfl) ?_
        refine va_get (D := g.1) (ci := 3) (v := .ref (a 6)) (C := RX3) (T := TX3) (N := 8) hx hb hts iX3 hown hK.1 hP 0 rfl rfl 2 (by decide) f26 (fun _ h9 => h9) rfl dX3_longer_61 ?_
        refine lv_iload_n hx hb dX3_longer_64 rfl (lv_at hl 3 rfl) ?_
        obtain ⟨r65, hr65, h⟩ := gdb h
        refine kPV (As := [.int x2]) (rest := [.ref (a 6)]) (ci := 2) S (ctX2_placeOf l g (a 6) (a 7) (a 8) (a 9) (a 10) (a 11) x2 r28.1 r28.2.1 r28.2.2.1 r28.2.2.2 r36.1 r36.2.1 r36.2.2 r65 hr65) (cwV 1 hts gX3_longer_X2_placeOf rfl rfl rfl (by decide +kernel) ⟨Nat.le_of_ble_eq_true rfl, Nat.le_of_ble_eq_true rfl⟩) hK hP [6, 7, 8, 9, 10, 11] rfl rfl rfl rfl rfl hl.1 rfl (Nat.le_of_ble_eq_true rfl) dX3_longer_65 ⟨Nat.zero_le _, Nat.zero_le _⟩ ?_
        obtain ⟨r68, hr68, h⟩ := gdb h
        refine kPV (As := [.int r65]) (rest := []) (ci := 2) S (ctX2_longLower l g (a 6) (a 7) (a 8) (a 9) (a 10) (a 11) r65 r28.1 r28.2.1 r28.2.2.1 r28.2.2.2 r36.1 r36.2.1 r36.2.2 r68 hr68) (cwV 1 hts gX3_longer_X2_longLower rfl rfl rfl (by decide +kernel) ⟨Nat.le_of_ble_eq_true rfl, Nat.le_of_ble_eq_true rfl⟩) hK hP [6, 7, 8, 9, 10, 11] rfl rfl rfl rfl rfl hl.1 rfl (Nat.le_of_ble_eq_true rfl) dX3_longer_68 ⟨Nat.zero_le _, Nat.zero_le _⟩ ?_
        refine lv_istore (lv' := [(5, .int r68), (4, .int r51), (0, .ref (a 0)), (1, .int x1), (2, .int x2), (3, .int x3)]) hx hb dX3_longer_71 hl (by decide) rfl (fun ls hl => ?_)
        refine lv_iload hx hb dX3_longer_73 (lv_at hl 1 rfl) ?_
        refine lv_iload hx hb dX3_longer_75 (lv_at hl 0 rfl) ?_
        obtain ⟨r77, hr77, h⟩ := gdb h
        refine kPS (As := [.int r51, .int r68]) (rest := []) S (ctX3_commonDivisor l g r51 r68  r77 hr77) (va_cwS 2 hts gX3_longer_X3_commonDivisor rfl rfl rfl (by decide +kernel) ⟨Nat.le_of_ble_eq_true rfl, Nat.le_of_ble_eq_true rfl⟩) hK rfl rfl hl.1 rfl (Nat.le_of_ble_eq_true rfl) dX3_longer_77 ⟨Nat.zero_le _, Nat.zero_le _⟩ ?_
        refine lv_istore (lv' := [(6, .int r77), (5, .int r68), (4, .int r51), (0, .ref (a 0)), (1, .int x1), (2, .int x2), (3, .int x3)]) hx hb dX3_longer_80 hl (by decide) rfl (fun ls hl => ?_)
        refine lv_iload hx hb dX3_longer_82 (lv_at hl 0 rfl) ?_
        refine lv_iconst (v := 1) hx hb dX3_longer_84 (by decide) ?_
        refine lv_icmp_ge (tgt := 92) hx hb dX3_longer_85 (by decide) (fun c85 => ?_) (fun c85 => ?_)
        ·
          replace h := gdp h c85
          refine lv_iload_n hx hb dX3_longer_92 rfl (lv_at hl 6 rfl) ?_
          refine lv_if_ne (tgt := 101) hx hb dX3_longer_93 (by decide) (fun c93 => ?_) (fun c93 => ?_)
          ·
            replace h := gdn h c93
            refine lv_iload hx hb dX3_longer_101 (lv_at hl 1 rfl) ?_
            refine lv_iload hx hb dX3_longer_103 (lv_at hl 0 rfl) ?_
            obtain ⟨hz, h⟩ := gdz h
            refine lv_idiv hx hb dX3_longer_105 hz ?_
            obtain rfl := Option.some.inj h
            exact retMi hx hb hr hlocks hP hD hS dX3_longer_106
          ·
            replace h := gdp h c93
            refine lv_iload hx hb dX3_longer_96 (lv_at hl 2 rfl) ?_
            refine lv_goto (tgt := 103) hx hb dX3_longer_98 (by decide) ?_
            refine lv_iload hx hb dX3_longer_103 (lv_at hl 0 rfl) ?_
            obtain ⟨hz, h⟩ := gdz h
            refine lv_idiv hx hb dX3_longer_105 hz ?_
            obtain rfl := Option.some.inj h
            exact retMi hx hb hr hlocks hP hD hS dX3_longer_106
        ·
          replace h := gdn h c85
          refine lv_iconst (v := -1) hx hb dX3_longer_88 (by decide) ?_
          refine lv_goto (tgt := 106) hx hb dX3_longer_89 (by decide) ?_
          obtain rfl := Option.some.inj h
          exact retMi (v := (-1 : Int32)) hx hb hr hlocks hP hD hS dX3_longer_106
      ·
        replace h := gdp h c15
        refine lv_iconst (v := -1) hx hb dX3_longer_18 (by decide) ?_
        obtain rfl := Option.some.inj h
        exact retMi (v := (-1 : Int32)) hx hb hr hlocks hP hD hS dX3_longer_19
-- LandBoard.box
set_option maxHeartbeats 4000000 in
set_option maxRecDepth 100000 in
theorem ctX3_box (l : Launch) (g : GG) (a : Nat → Nat) (x1 : Int32) (x2 : Int32) (x3 : Int32) (ask : Int64) (gw : Int32) (gh : Int32) (gl : (Nat → Int64)) (top : Int32) (kep : Int32) (don : Int32) (vc : (Nat → Int32)) (vf : (Nat → Int32)) (bx : Int32) (tt : Int32) (pl : (Nat → Int32)) (we : (Nat → Int32)) (le : (Nat → Int32)) (ab : (Nat → Int32)) (rw : (Nat → Int32)) (ki : (Nat → Int32)) (ow : (Nat → Int32)) (wa : (Nat → Int32)) (res : Int32 × Int32 × Int32 × (Nat → Int32) × (Nat → Int32) × (Nat → Int32) × (Nat → Int32) × (Nat → Int32)) (h : fX3_box x1 x2 x3 gl bx tt pl we le ab rw = some res) : MM l yX3_box wsX3_box ({ frames := 4, cells := 0, slots := 0, locals := 84 }) g [.ref (a 0), .int x1, .int x2, .int x3] (wB g a ask gw gh gl top kep don vc vf bx tt pl we le ab rw ki ow wa) (wB g a ask gw gh gl top kep don vc vf res.2.1 res.2.2.1 res.2.2.2.1 res.2.2.2.2.1 res.2.2.2.2.2.1 res.2.2.2.2.2.2.1 res.2.2.2.2.2.2.2 ki ow wa) (some (.int res.1)) := by
  refine MM.of (cc := cX3_box) (own := RX3) 4 (some .int) (by decide +kernel) rfl (Nat.le_of_ble_eq_true rfl) rfl ?_
  intro p e s m args below meth c hx hb hr hml hown hts hlocks hK A hA ls hl hP hD hS
  have S : CallFix p m c cX3_box 4 s args wsX3_box RX3 := ⟨hx, hb, hml, hown, hts⟩
  have hl : lv_has ls 4 [(0, .ref (a 0)), (1, .int x1), (2, .int x2), (3, .int x3)] := hl
  have f26 := hts (.fieldLink RX3 26 "LandBoard" "rows" "LLandBoard$Rows;") (by decide +kernel)
  have iX3 := (by decide +kernel : ∀ w ∈ u_ws RX3 TX3 8, w ∈ wsX3_box)
  have f12 := hts (.fieldLink RX3 12 "LandBoard" "now" "LLandBoard$Grid;") (by decide +kernel)
  refine lv_iload_n hx hb dX3_box_0 rfl (lv_at hl 3 rfl) ?_
  refine lv_if_lt (tgt := 18) hx hb dX3_box_1 (by decide) (fun c1 => ?_) (fun c1 => ?_)
  ·
    replace h := gdp h c1
    refine lv_iconst (v := -1) hx hb dX3_box_18 (by decide) ?_
    obtain rfl := Option.some.inj h
    exact retMi (v := (-1 : Int32)) hx hb hr hlocks hP hD hS dX3_box_19
  ·
    replace h := gdn h c1
    refine lv_iload_n hx hb dX3_box_4 rfl (lv_at hl 3 rfl) ?_
    refine lv_iconst (v := 3) hx hb dX3_box_5 (by decide) ?_
    refine lv_icmp_gt (tgt := 18) hx hb dX3_box_6 (by decide) (fun c6 => ?_) (fun c6 => ?_)
    ·
      replace h := gdp h c6
      refine lv_iconst (v := -1) hx hb dX3_box_18 (by decide) ?_
      obtain rfl := Option.some.inj h
      exact retMi (v := (-1 : Int32)) hx hb hr hlocks hP hD hS dX3_box_19
    ·
      replace h := gdn h c6
      refine lv_aload_n hx hb dX3_box_9 rfl (lv_at hl 0 rfl) ?_
      refine lv_iload_n hx hb dX3_box_10 rfl (lv_at hl 1 rfl) ?_
      refine lv_iload_n hx hb dX3_box_11 rfl (lv_at hl 2 rfl) ?_
      obtain ⟨r12, hr12, h⟩ := gdb h
      refine kPV (As := [.int x1, .int x2]) (rest := []) (ci := 3) S (ctX3_hasBox l g a x1 x2 ask gw gh gl top kep don vc vf bx tt pl we le ab rw ki ow wa r12 hr12) (cwV 2 hts gX3_box_X3_hasBox rfl rfl rfl (by decide +kernel) ⟨Nat.le_of_ble_eq_true rfl, Nat.le_of_ble_eq_true rfl⟩) hK hP [0, 1, 2, 3, 4, 5, 6, 7, 8, 9, 10, 11, 12, 13, 14] rfl rfl rfl rfl rfl hl.1 rfl (Nat.le_of_ble_eq_true rfl) dX3_box_12 ⟨Nat.zero_le _, Nat.zero_le _⟩ ?_
      refine lv_if_ne (tgt := 20) hx hb dX3_box_15 (by decide) (fun c15 => ?_) (fun c15 => ?_)
      ·
        replace h := gdn h c15
        refine lv_aload_n hx hb dX3_box_20 rfl (lv_at hl 0 rfl) ?_
        refine va_get (D := g.1) (ci := 3) (v := .ref (a 6)) (C := RX3) (T := TX3) (N := 8) hx hb hts iX3 hown hK.1 hP 0 rfl rfl 2 (by decide) f26 (fun _ h9 => h9) rfl dX3_box_21 ?_
        refine lv_aload_n hx hb dX3_box_24 rfl (lv_at hl 0 rfl) ?_
        refine va_get (D := g.1) (ci := 3) (v := .ref (a 1)) (C := RX3) (T := TX3) (N := 8) hx hb hts iX3 hown hK.1 hP 0 rfl rfl 0 (by decide) f12 (fun _ h9 => h9) rfl dX3_box_25 ?_
        obtain ⟨r28, hr28, h⟩ := gdb h
        refine kMV (As := [.ref (a 1)]) (rest := []) (ci := 2) (W1 := (wB g a ask gw gh gl top kep don vc vf r28.1 r28.2.1 r28.2.2.1 r28.2.2.2 le ab rw ki ow wa)) (wr := [((a 0), .inr (3, [.ref (a 1), .ref (a 3), .ref (a 6), .ref (a 12), .ref (a 13), .ref (a 14), .ref (a 15), .long ask])), ((a 3), .inr (1, [.ref (a 4), .ref (a 5), .int top, .int kep, .int don])), ((a 4), .inl (g.2.1, 100, .inl vc)), ((a 5), .inl (g.2.1, 100, .inl vf)), ((a 13), .inl (g.2.1, 6, .inl ki)), ((a 14), .inl (g.2.1, 6, .inl ow)), ((a 15), .inl (g.2.1, 6, .inl wa))]) S (ctX2_read l g (a 6) (a 7) (a 8) (a 9) (a 10) (a 11) (a 1) (a 2)  bx tt pl we le ab rw gw gh gl r28 hr28) (cwV 1 hts gX3_box_X2_read rfl rfl rfl (by decide +kernel) ⟨Nat.le_of_ble_eq_true rfl, Nat.le_of_ble_eq_true rfl⟩) hK hP hD hS hA [6, 7, 8, 9, 10, 11, 1, 2] [0, 3, 4, 5, 12, 13, 14] [0, 13, 14, 1, 2, 3, 7, 8, 9, 10, 11, 12, 4, 5, 6] rfl rfl rfl rfl (by decide) rfl rfl rfl rfl rfl rfl hl.1 rfl (Nat.le_of_ble_eq_true rfl) dX3_box_28 ⟨Nat.zero_le _, Nat.zero_le _⟩ (fun H locs hP hD hS => ?_)
        show W p l e ({ frames := 4, cells := 0, slots := 0, locals := 84 }) s m args below meth c H locs 0 0 (MQ below (QM g (some (.int res.1)) (wB g a ask gw gh gl top kep don vc vf res.2.1 res.2.2.1 res.2.2.2.1 res.2.2.2.2.1 res.2.2.2.2.2.1 res.2.2.2.2.2.2.1 res.2.2.2.2.2.2.2 ki ow wa) A) args s 0 0 A) (F0 m 31 ls [])
        refine lv_aload_n hx hb dX3_box_31 rfl (lv_at hl 0 rfl) ?_
        refine va_get (D := g.1) (ci := 3) (v := .ref (a 6)) (C := RX3) (T := TX3) (N := 8) hx hb hts iX3 hown hK.1 hP 0 rfl rfl 2 (by decide) f26 (fun _ h9 => h9) rfl dX3_box_32 ?_
        refine lv_iload_n hx hb dX3_box_35 rfl (lv_at hl 1 rfl) ?_
        obtain ⟨r36, hr36, h⟩ := gdb h
        refine kMV (As := [.int x1]) (rest := []) (ci := 2) (W1 := (wB g a ask gw gh gl top kep don vc vf r28.1 r28.2.1 r28.2.2.1 r28.2.2.2 r36.1 r36.2.1 r36.2.2 ki ow wa)) (wr := [((a 0), .inr (3, [.ref (a 1), .ref (a 3), .ref (a 6), .ref (a 12), .ref (a 13), .ref (a 14), .ref (a 15), .long ask])), ((a 1), .inr (0, [.ref (a 2), .int gw, .int gh])), ((a 2), .inl (g.2.2.1, 6, .inr (.inl gl))), ((a 3), .inr (1, [.ref (a 4), .ref (a 5), .int top, .int kep, .int don])), ((a 4), .inl (g.2.1, 100, .inl vc)), ((a 5), .inl (g.2.1, 100, .inl vf)), ((a 13), .inl (g.2.1, 6, .inl ki)), ((a 14), .inl (g.2.1, 6, .inl ow)), ((a 15), .inl (g.2.1, 6, .inl wa))]) S (ctX2_lay l g (a 6) (a 7) (a 8) (a 9) (a 10) (a 11) x1 r28.1 r28.2.1 r28.2.2.1 r28.2.2.2 le ab rw r36 hr36) (cwV 1 hts gX3_box_X2_lay rfl rfl rfl (by decide +kernel) ⟨Nat.le_of_ble_eq_true rfl, Nat.le_of_ble_eq_true rfl⟩) hK hP hD hS hA [6, 7, 8, 9, 10, 11] [0, 1, 2, 3, 4, 5, 12, 13, 14] [0, 1, 2, 3, 4, 5, 9, 10, 11, 12, 13, 14, 6, 7, 8] rfl rfl rfl rfl (by decide) rfl rfl rfl rfl rfl rfl hl.1 rfl (Nat.le_of_ble_eq_true rfl) dX3_box_36 ⟨Nat.zero_le _, Nat.zero_le _⟩ (fun H locs hP hD hS => ?_)
        show W p l e ({ frames := 4, cells := 0, slots := 0, locals := 84 }) s m args below meth c H locs 0 0 (MQ below (QM g (some (.int res.1)) (wB g a ask gw gh gl top kep don vc vf res.2.1 res.2.2.1 res.2.2.2.1 res.2.2.2.2.1 res.2.2.2.2.2.1 res.2.2.2.2.2.2.1 res.2.2.2.2.2.2.2 ki ow wa) A) args s 0 0 A) (F0 m 39 ls [])
        refine lv_aload_n hx hb dX3_box_39 rfl (lv_at hl 0 rfl) ?_
        refine va_get (D := g.1) (ci := 3) (v := .ref (a 6)) (C := RX3) (T := TX3) (N := 8) hx hb hts iX3 hown hK.1 hP 0 rfl rfl 2 (by decide) f26 (fun _ h9 => h9) rfl dX3_box_40 ?_
        refine lv_aload_n hx hb dX3_box_43 rfl (lv_at hl 0 rfl) ?_
        refine va_get (D := g.1) (ci := 3) (v := .ref (a 6)) (C := RX3) (T := TX3) (N := 8) hx hb hts iX3 hown hK.1 hP 0 rfl rfl 2 (by decide) f26 (fun _ h9 => h9) rfl dX3_box_44 ?_
        refine lv_iload_n hx hb dX3_box_47 rfl (lv_at hl 2 rfl) ?_
        obtain ⟨r48, hr48, h⟩ := gdb h
        refine kPV (As := [.int x2]) (rest := [.ref (a 6)]) (ci := 2) S (ctX2_placeOf l g (a 6) (a 7) (a 8) (a 9) (a 10) (a 11) x2 r28.1 r28.2.1 r28.2.2.1 r28.2.2.2 r36.1 r36.2.1 r36.2.2 r48 hr48) (cwV 1 hts gX3_box_X2_placeOf rfl rfl rfl (by decide +kernel) ⟨Nat.le_of_ble_eq_true rfl, Nat.le_of_ble_eq_true rfl⟩) hK hP [6, 7, 8, 9, 10, 11] rfl rfl rfl rfl rfl hl.1 rfl (Nat.le_of_ble_eq_true rfl) dX3_box_48 ⟨Nat.zero_le _, Nat.zero_le _⟩ ?_
        refine lv_iload_n hx hb dX3_box_51 rfl (lv_at hl 3 rfl) ?_
        obtain ⟨r52, hr52, h⟩ := gdb h
        refine kPV (As := [.int r48, .int x3]) (rest := []) (ci := 2) S (ctX2_side l g (a 6) (a 7) (a 8) (a 9) (a 10) (a 11) r48 x3 r28.1 r28.2.1 r28.2.2.1 r28.2.2.2 r36.1 r36.2.1 r36.2.2 r52 hr52) (cwV 2 hts gX3_box_X2_side rfl rfl rfl (by decide +kernel) ⟨Nat.le_of_ble_eq_true rfl, Nat.le_of_ble_eq_true rfl⟩) hK hP [6, 7, 8, 9, 10, 11] rfl rfl rfl rfl rfl hl.1 rfl (Nat.le_of_ble_eq_true rfl) dX3_box_52 ⟨Nat.zero_le _, Nat.zero_le _⟩ ?_
        obtain rfl := Option.some.inj h
        exact retMi hx hb hr hlocks hP hD hS dX3_box_55
      ·
        replace h := gdp h c15
        refine lv_iconst (v := -1) hx hb dX3_box_18 (by decide) ?_
        obtain rfl := Option.some.inj h
        exact retMi (v := (-1 : Int32)) hx hb hr hlocks hP hD hS dX3_box_19
-- LandBoard.best
set_option maxHeartbeats 4000000 in
set_option maxRecDepth 100000 in
theorem ctX3_best (l : Launch) (g : GG) (a : Nat → Nat)  (ask : Int64) (gw : Int32) (gh : Int32) (gl : (Nat → Int64)) (top : Int32) (kep : Int32) (don : Int32) (vc : (Nat → Int32)) (vf : (Nat → Int32)) (bx : Int32) (tt : Int32) (pl : (Nat → Int32)) (we : (Nat → Int32)) (le : (Nat → Int32)) (ab : (Nat → Int32)) (rw : (Nat → Int32)) (ki : (Nat → Int32)) (ow : (Nat → Int32)) (wa : (Nat → Int32)) (res : Int32 × Int32 × Int32 × (Nat → Int32) × (Nat → Int32) × (Nat → Int32) × (Nat → Int32) × (Nat → Int32)) (h : fX3_best gl bx tt pl we le ab rw = some res) : MM l yX3_best wsX3_best ({ frames := 4, cells := 0, slots := 0, locals := 96 }) g [.ref (a 0)] (wB g a ask gw gh gl top kep don vc vf bx tt pl we le ab rw ki ow wa) (wB g a ask gw gh gl top kep don vc vf res.2.1 res.2.2.1 res.2.2.2.1 res.2.2.2.2.1 res.2.2.2.2.2.1 res.2.2.2.2.2.2.1 res.2.2.2.2.2.2.2 ki ow wa) (some (.int res.1)) := by
  refine MM.of (cc := cX3_best) (own := RX3) 1 (some .int) (by decide +kernel) rfl (Nat.le_of_ble_eq_true rfl) rfl ?_
  intro p e s m args below meth c hx hb hr hml hown hts hlocks hK A hA ls hl hP hD hS
  have S : CallFix p m c cX3_best 1 s args wsX3_best RX3 := ⟨hx, hb, hml, hown, hts⟩
  have hl : lv_has ls 1 [(0, .ref (a 0))] := hl
  have f26 := hts (.fieldLink RX3 26 "LandBoard" "rows" "LLandBoard$Rows;") (by decide +kernel)
  have iX3 := (by decide +kernel : ∀ w ∈ u_ws RX3 TX3 8, w ∈ wsX3_best)
  have f12 := hts (.fieldLink RX3 12 "LandBoard" "now" "LLandBoard$Grid;") (by decide +kernel)
  have f177 := hts (.fieldLink RX3 177 "LandBoard$Rows" "boxes" "I") (by decide +kernel)
  have iX2 := (by decide +kernel : ∀ w ∈ u_ws RX2 TX2 7, w ∈ wsX3_best)
  refine lv_aload_n hx hb dX3_best_0 rfl (lv_at hl 0 rfl) ?_
  refine va_get (D := g.1) (ci := 3) (v := .ref (a 6)) (C := RX3) (T := TX3) (N := 8) hx hb hts iX3 hown hK.1 hP 0 rfl rfl 2 (by decide) f26 (fun _ h9 => h9) rfl dX3_best_1 ?_
  refine lv_aload_n hx hb dX3_best_4 rfl (lv_at hl 0 rfl) ?_
  refine va_get (D := g.1) (ci := 3) (v := .ref (a 1)) (C := RX3) (T := TX3) (N := 8) hx hb hts iX3 hown hK.1 hP 0 rfl rfl 0 (by decide) f12 (fun _ h9 => h9) rfl dX3_best_5 ?_
  obtain ⟨r8, hr8, h⟩ := gdb h
  refine kMV (As := [.ref (a 1)]) (rest := []) (ci := 2) (W1 := (wB g a ask gw gh gl top kep don vc vf r8.1 r8.2.1 r8.2.2.1 r8.2.2.2 le ab rw ki ow wa)) (wr := [((a 0), .inr (3, [.ref (a 1), .ref (a 3), .ref (a 6), .ref (a 12), .ref (a 13), .ref (a 14), .ref (a 15), .long ask])), ((a 3), .inr (1, [.ref (a 4), .ref (a 5), .int top, .int kep, .int don])), ((a 4), .inl (g.2.1, 100, .inl vc)), ((a 5), .inl (g.2.1, 100, .inl vf)), ((a 13), .inl (g.2.1, 6, .inl ki)), ((a 14), .inl (g.2.1, 6, .inl ow)), ((a 15), .inl (g.2.1, 6, .inl wa))]) S (ctX2_read l g (a 6) (a 7) (a 8) (a 9) (a 10) (a 11) (a 1) (a 2)  bx tt pl we le ab rw gw gh gl r8 hr8) (cwV 1 hts gX3_best_X2_read rfl rfl rfl (by decide +kernel) ⟨Nat.le_of_ble_eq_true rfl, Nat.le_of_ble_eq_true rfl⟩) hK hP hD hS hA [6, 7, 8, 9, 10, 11, 1, 2] [0, 3, 4, 5, 12, 13, 14] [0, 13, 14, 1, 2, 3, 7, 8, 9, 10, 11, 12, 4, 5, 6] rfl rfl rfl rfl (by decide) rfl rfl rfl rfl rfl rfl hl.1 rfl (Nat.le_of_ble_eq_true rfl) dX3_best_8 ⟨Nat.zero_le _, Nat.zero_le _⟩ (fun H locs hP hD hS => ?_)
  show W p l e ({ frames := 4, cells := 0, slots := 0, locals := 96 }) s m args below meth c H locs 0 0 (MQ below (QM g (some (.int res.1)) (wB g a ask gw gh gl top kep don vc vf res.2.1 res.2.2.1 res.2.2.2.1 res.2.2.2.2.1 res.2.2.2.2.2.1 res.2.2.2.2.2.2.1 res.2.2.2.2.2.2.2 ki ow wa) A) args s 0 0 A) (F0 m 11 ls [])
  refine lv_aload_n hx hb dX3_best_11 rfl (lv_at hl 0 rfl) ?_
  refine va_get (D := g.1) (ci := 3) (v := .ref (a 6)) (C := RX3) (T := TX3) (N := 8) hx hb hts iX3 hown hK.1 hP 0 rfl rfl 2 (by decide) f26 (fun _ h9 => h9) rfl dX3_best_12 ?_
  refine va_get (D := g.1) (ci := 2) (v := .int r8.1) (C := RX2) (T := TX2) (N := 7) hx hb hts iX2 hown hK.1 hP 6 rfl rfl 5 (by decide) f177 (fun _ h9 => h9) rfl dX3_best_15 ?_
  refine lv_if_ne (tgt := 26) hx hb dX3_best_18 (by decide) (fun c18 => ?_) (fun c18 => ?_)
  ·
    replace h := gdn h c18
    refine lv_aload_n hx hb dX3_best_26 rfl (lv_at hl 0 rfl) ?_
    refine va_get (D := g.1) (ci := 3) (v := .ref (a 6)) (C := RX3) (T := TX3) (N := 8) hx hb hts iX3 hown hK.1 hP 0 rfl rfl 2 (by decide) f26 (fun _ h9 => h9) rfl dX3_best_27 ?_
    obtain ⟨r30, hr30, h⟩ := gdb h
    refine kMV (As := []) (rest := []) (ci := 2) (W1 := (wB g a ask gw gh gl top kep don vc vf r8.1 r8.2.1 r8.2.2.1 r8.2.2.2 r30.2.1 r30.2.2.1 r30.2.2.2 ki ow wa)) (wr := [((a 0), .inr (3, [.ref (a 1), .ref (a 3), .ref (a 6), .ref (a 12), .ref (a 13), .ref (a 14), .ref (a 15), .long ask])), ((a 1), .inr (0, [.ref (a 2), .int gw, .int gh])), ((a 2), .inl (g.2.2.1, 6, .inr (.inl gl))), ((a 3), .inr (1, [.ref (a 4), .ref (a 5), .int top, .int kep, .int don])), ((a 4), .inl (g.2.1, 100, .inl vc)), ((a 5), .inl (g.2.1, 100, .inl vf)), ((a 13), .inl (g.2.1, 6, .inl ki)), ((a 14), .inl (g.2.1, 6, .inl ow)), ((a 15), .inl (g.2.1, 6, .inl wa))]) S (ctX2_bestCuts l g (a 6) (a 7) (a 8) (a 9) (a 10) (a 11)  r8.1 r8.2.1 r8.2.2.1 r8.2.2.2 le ab rw r30 hr30) (cwV 0 hts gX3_best_X2_bestCuts rfl rfl rfl (by decide +kernel) ⟨Nat.le_of_ble_eq_true rfl, Nat.le_of_ble_eq_true rfl⟩) hK hP hD hS hA [6, 7, 8, 9, 10, 11] [0, 1, 2, 3, 4, 5, 12, 13, 14] [0, 1, 2, 3, 4, 5, 9, 10, 11, 12, 13, 14, 6, 7, 8] rfl rfl rfl rfl (by decide) rfl rfl rfl rfl rfl rfl hl.1 rfl (Nat.le_of_ble_eq_true rfl) dX3_best_30 ⟨Nat.zero_le _, Nat.zero_le _⟩ (fun H locs hP hD hS => ?_)
    show W p l e ({ frames := 4, cells := 0, slots := 0, locals := 96 }) s m args below meth c H locs 0 0 (MQ below (QM g (some (.int res.1)) (wB g a ask gw gh gl top kep don vc vf res.2.1 res.2.2.1 res.2.2.2.1 res.2.2.2.2.1 res.2.2.2.2.2.1 res.2.2.2.2.2.2.1 res.2.2.2.2.2.2.2 ki ow wa) A) args s 0 0 A) (F0 m 33 ls [.int r30.1])
    obtain rfl := Option.some.inj h
    exact retMi hx hb hr hlocks hP hD hS dX3_best_33
  ·
    replace h := gdp h c18
    refine lv_bipush (v := -9) hx hb dX3_best_21 (by decide) ?_
    refine lv_goto (tgt := 33) hx hb dX3_best_23 (by decide) ?_
    obtain rfl := Option.some.inj h
    exact retMi (v := (-9 : Int32)) hx hb hr hlocks hP hD hS dX3_best_33
-- LandBoard.count
set_option maxHeartbeats 4000000 in
set_option maxRecDepth 100000 in
theorem ctX3_count (l : Launch) (g : GG) (a : Nat → Nat) (x1 : Int32) (ask : Int64) (gw : Int32) (gh : Int32) (gl : (Nat → Int64)) (top : Int32) (kep : Int32) (don : Int32) (vc : (Nat → Int32)) (vf : (Nat → Int32)) (bx : Int32) (tt : Int32) (pl : (Nat → Int32)) (we : (Nat → Int32)) (le : (Nat → Int32)) (ab : (Nat → Int32)) (rw : (Nat → Int32)) (ki : (Nat → Int32)) (ow : (Nat → Int32)) (wa : (Nat → Int32)) (res : Int32) (h : fX3_count x1 gw gh gl kep don = some res) : MP l yX3_count wsX3_count ({ frames := 1, cells := 0, slots := 0, locals := 22 }) g [.ref (a 0), .int x1] (wB g a ask gw gh gl top kep don vc vf bx tt pl we le ab rw ki ow wa) (.int res) := by
  refine MP.of (cc := cX3_count) (own := RX3) 2 (some .int) (by decide +kernel) rfl (Nat.le_of_ble_eq_true rfl) rfl ?_
  intro p e s m args below meth c hx hb hr hml hown hts hlocks hP hK ls hl
  have S : CallFix p m c cX3_count 2 s args wsX3_count RX3 := ⟨hx, hb, hml, hown, hts⟩
  have hl : lv_has ls 2 [(0, .ref (a 0)), (1, .int x1)] := hl
  have f12 := hts (.fieldLink RX3 12 "LandBoard" "now" "LLandBoard$Grid;") (by decide +kernel)
  have iX3 := (by decide +kernel : ∀ w ∈ u_ws RX3 TX3 8, w ∈ wsX3_count)
  have f200 := hts (.fieldLink RX3 200 "LandBoard$Grid" "width" "I") (by decide +kernel)
  have iX0 := (by decide +kernel : ∀ w ∈ u_ws RX0 TX0 3, w ∈ wsX3_count)
  have f203 := hts (.fieldLink RX3 203 "LandBoard$Grid" "height" "I") (by decide +kernel)
  have f19 := hts (.fieldLink RX3 19 "LandBoard" "moves" "LLandBoard$Moves;") (by decide +kernel)
  have f130 := hts (.fieldLink RX3 130 "LandBoard$Moves" "kept" "I") (by decide +kernel)
  have iX1 := (by decide +kernel : ∀ w ∈ u_ws RX1 TX1 5, w ∈ wsX3_count)
  have f209 := hts (.fieldLink RX3 209 "LandBoard$Moves" "done" "I") (by decide +kernel)
  refine lv_iload_n hx hb dX3_count_0 rfl (lv_at hl 1 rfl) ?_
  by_cases c1_0 : x1 = (0 : Int32)
  ·
    replace h := gdp h c1_0
    refine tswIn (tgt := 36) (off := 35) (0 : Int32) c1_0 hx hb dX3_count_1 (by decide) (by decide) rfl (by decide) ?_
    refine lv_aload_n hx hb dX3_count_36 rfl (lv_at hl 0 rfl) ?_
    refine va_get (D := g.1) (ci := 3) (v := .ref (a 1)) (C := RX3) (T := TX3) (N := 8) hx hb hts iX3 hown hK.1 hP 0 rfl rfl 0 (by decide) f12 (fun _ h9 => h9) rfl dX3_count_37 ?_
    refine va_get (D := g.1) (ci := 0) (v := .int gw) (C := RX0) (T := TX0) (N := 3) hx hb hts iX0 hown hK.1 hP 1 rfl rfl 1 (by decide) f200 (fun _ h9 => h9) rfl dX3_count_40 ?_
    obtain rfl := Option.some.inj h
    exact retPi hx hb hr hlocks dX3_count_43
  replace h := gdn h c1_0
  by_cases c1_1 : x1 = (1 : Int32)
  ·
    replace h := gdp h c1_1
    refine tswIn (tgt := 44) (off := 43) (1 : Int32) c1_1 hx hb dX3_count_1 (by decide) (by decide) rfl (by decide) ?_
    refine lv_aload_n hx hb dX3_count_44 rfl (lv_at hl 0 rfl) ?_
    refine va_get (D := g.1) (ci := 3) (v := .ref (a 1)) (C := RX3) (T := TX3) (N := 8) hx hb hts iX3 hown hK.1 hP 0 rfl rfl 0 (by decide) f12 (fun _ h9 => h9) rfl dX3_count_45 ?_
    refine va_get (D := g.1) (ci := 0) (v := .int gh) (C := RX0) (T := TX0) (N := 3) hx hb hts iX0 hown hK.1 hP 1 rfl rfl 2 (by decide) f203 (fun _ h9 => h9) rfl dX3_count_48 ?_
    obtain rfl := Option.some.inj h
    exact retPi hx hb hr hlocks dX3_count_51
  replace h := gdn h c1_1
  by_cases c1_2 : x1 = (2 : Int32)
  ·
    replace h := gdp h c1_2
    refine tswIn (tgt := 52) (off := 51) (2 : Int32) c1_2 hx hb dX3_count_1 (by decide) (by decide) rfl (by decide) ?_
    refine lv_aload_n hx hb dX3_count_52 rfl (lv_at hl 0 rfl) ?_
    refine va_get (D := g.1) (ci := 3) (v := .ref (a 1)) (C := RX3) (T := TX3) (N := 8) hx hb hts iX3 hown hK.1 hP 0 rfl rfl 0 (by decide) f12 (fun _ h9 => h9) rfl dX3_count_53 ?_
    obtain ⟨r56, hr56, h⟩ := gdb h
    refine kPV (As := []) (rest := []) (ci := 0) S (ctX0_peopled l g (a 1) (a 2)  gw gh gl r56 hr56) (cwV 0 hts gX3_count_X0_peopled rfl rfl rfl (by decide +kernel) ⟨Nat.le_of_ble_eq_true rfl, Nat.le_of_ble_eq_true rfl⟩) hK hP [1, 2] rfl rfl rfl rfl rfl hl.1 rfl (Nat.le_of_ble_eq_true rfl) dX3_count_56 ⟨Nat.zero_le _, Nat.zero_le _⟩ ?_
    obtain rfl := Option.some.inj h
    exact retPi hx hb hr hlocks dX3_count_59
  replace h := gdn h c1_2
  by_cases c1_3 : x1 = (3 : Int32)
  ·
    replace h := gdp h c1_3
    refine tswIn (tgt := 60) (off := 59) (3 : Int32) c1_3 hx hb dX3_count_1 (by decide) (by decide) rfl (by decide) ?_
    refine lv_aload_n hx hb dX3_count_60 rfl (lv_at hl 0 rfl) ?_
    refine va_get (D := g.1) (ci := 3) (v := .ref (a 3)) (C := RX3) (T := TX3) (N := 8) hx hb hts iX3 hown hK.1 hP 0 rfl rfl 1 (by decide) f19 (fun _ h9 => h9) rfl dX3_count_61 ?_
    refine va_get (D := g.1) (ci := 1) (v := .int kep) (C := RX1) (T := TX1) (N := 5) hx hb hts iX1 hown hK.1 hP 3 rfl rfl 3 (by decide) f130 (fun _ h9 => h9) rfl dX3_count_64 ?_
    obtain rfl := Option.some.inj h
    exact retPi hx hb hr hlocks dX3_count_67
  replace h := gdn h c1_3
  by_cases c1_4 : x1 = (4 : Int32)
  ·
    replace h := gdp h c1_4
    refine tswIn (tgt := 68) (off := 67) (4 : Int32) c1_4 hx hb dX3_count_1 (by decide) (by decide) rfl (by decide) ?_
    refine lv_aload_n hx hb dX3_count_68 rfl (lv_at hl 0 rfl) ?_
    refine va_get (D := g.1) (ci := 3) (v := .ref (a 3)) (C := RX3) (T := TX3) (N := 8) hx hb hts iX3 hown hK.1 hP 0 rfl rfl 1 (by decide) f19 (fun _ h9 => h9) rfl dX3_count_69 ?_
    refine va_get (D := g.1) (ci := 1) (v := .int don) (C := RX1) (T := TX1) (N := 5) hx hb hts iX1 hown hK.1 hP 3 rfl rfl 4 (by decide) f209 (fun _ h9 => h9) rfl dX3_count_72 ?_
    obtain rfl := Option.some.inj h
    exact retPi hx hb hr hlocks dX3_count_75
  replace h := gdn h c1_4
  refine lv_tableOut (tgt := 76) hx hb dX3_count_1 (tsw_out (n := 5) (fun k hk => by match k, hk with | 0, _ => exact c1_0 | 1, _ => exact c1_1 | 2, _ => exact c1_2 | 3, _ => exact c1_3 | 4, _ => exact c1_4 | (k + 5), hk => exact absurd hk (by omega)) (by decide)) (by decide) ?_
  refine lv_iconst (v := -1) hx hb dX3_count_76 (by decide) ?_
  obtain rfl := Option.some.inj h
  exact retPi (v := (-1 : Int32)) hx hb hr hlocks dX3_count_77
-- LandBoard.trace
set_option maxHeartbeats 4000000 in
set_option maxRecDepth 100000 in
theorem ctX3_trace (l : Launch) (g : GG) (a : Nat → Nat)  (ask : Int64) (gw : Int32) (gh : Int32) (gl : (Nat → Int64)) (top : Int32) (kep : Int32) (don : Int32) (vc : (Nat → Int32)) (vf : (Nat → Int32)) (bx : Int32) (tt : Int32) (pl : (Nat → Int32)) (we : (Nat → Int32)) (le : (Nat → Int32)) (ab : (Nat → Int32)) (rw : (Nat → Int32)) (ki : (Nat → Int32)) (ow : (Nat → Int32)) (wa : (Nat → Int32)) (res : Int64) (h : fX3_trace ask = res) : MP l yX3_trace wsX3_trace ({ frames := 0, cells := 0, slots := 0, locals := 0 }) g [.ref (a 0)] (wB g a ask gw gh gl top kep don vc vf bx tt pl we le ab rw ki ow wa) (.long res) := by
  refine MP.of (cc := cX3_trace) (own := RX3) 1 (some .long) (by decide +kernel) rfl (Nat.le_of_ble_eq_true rfl) rfl ?_
  intro p e s m args below meth c hx hb hr hml hown hts hlocks hP hK ls hl
  have S : CallFix p m c cX3_trace 1 s args wsX3_trace RX3 := ⟨hx, hb, hml, hown, hts⟩
  have hl : lv_has ls 1 [(0, .ref (a 0))] := hl
  have f107 := hts (.fieldLink RX3 107 "LandBoard" "asked" "J") (by decide +kernel)
  have iX3 := (by decide +kernel : ∀ w ∈ u_ws RX3 TX3 8, w ∈ wsX3_trace)
  refine lv_aload_n hx hb dX3_trace_0 rfl (lv_at hl 0 rfl) ?_
  refine va_get (D := g.1) (ci := 3) (v := .long ask) (C := RX3) (T := TX3) (N := 8) hx hb hts iX3 hown hK.1 hP 0 rfl rfl 7 (by decide) f107 (fun _ h9 => h9) rfl dX3_trace_1 ?_
  subst h
  exact retPl hx hb hr hlocks dX3_trace_4
