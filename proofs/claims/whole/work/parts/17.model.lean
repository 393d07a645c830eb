theorem z_in {a b c : Int32} : narrow .boolean (.int (fX4_in a b c)) = .int (fX4_in a b c) := by unfold fX4_in; split <;> (try split) <;> rfl
theorem z_X4_isLand {a : Int32} : narrow .boolean (.int (fX4_in a (0 : Int32) (5 : Int32))) = .int (fX4_in a (0 : Int32) (5 : Int32)) := z_in
theorem z_X4_isYear {a b : Int32} : narrow .boolean (.int (fX4_in a (0 : Int32) b)) = .int (fX4_in a (0 : Int32) b) := z_in
-- LandBoardModel.in
set_option maxHeartbeats 4000000 in
set_option maxRecDepth 100000 in
theorem ctX4_in (l : Launch) (g : GG) (x0 : Int32) (x1 : Int32) (x2 : Int32)  (res : Int32) (h : fX4_in x0 x1 x2 = res) : MP l yX4_in wsX4_in ({ frames := 0, cells := 0, slots := 0, locals := 0 }) g [.int x0, .int x1, .int x2] (wN g) (.int res) := by
  refine MP.of (cc := cX4_in) (own := RX4) 3 (some .boolean) (by decide +kernel) rfl (Nat.le_of_ble_eq_true rfl) rfl ?_
  intro p e s m args below meth c hx hb hr hml hown hts hlocks hP hK ls hl
  have S : CallFix p m c cX4_in 3 s args wsX4_in RX4 := ⟨hx, hb, hml, hown, hts⟩
  have hl : lv_has ls 3 [(0, .int x0), (1, .int x1), (2, .int x2)] := hl
  refine lv_iload_n hx hb dX4_in_0 rfl (lv_at hl 0 rfl) ?_
  refine lv_iload_n hx hb dX4_in_1 rfl (lv_at hl 1 rfl) ?_
  refine lv_icmp_lt (tgt := 14) hx hb dX4_in_2 (by decide) (fun c2 => ?_) (fun c2 => ?_)
  ·
    replace h := gdp h c2
    refine lv_iconst (v := 0) hx hb dX4_in_14 (by decide) ?_
    subst h
    exact retPz (v := (0 : Int32)) hx hb hr hlocks rfl dX4_in_15
  ·
    replace h := gdn h c2
    refine lv_iload_n hx hb dX4_in_5 rfl (lv_at hl 0 rfl) ?_
    refine lv_iload_n hx hb dX4_in_6 rfl (lv_at hl 2 rfl) ?_
    refine lv_icmp_gt (tgt := 14) hx hb dX4_in_7 (by decide) (fun c7 => ?_) (fun c7 => ?_)
    ·
      replace h := gdp h c7
      refine lv_iconst (v := 0) hx hb dX4_in_14 (by decide) ?_
      subst h
      exact retPz (v := (0 : Int32)) hx hb hr hlocks rfl dX4_in_15
    ·
      replace h := gdn h c7
      refine lv_iconst (v := 1) hx hb dX4_in_10 (by decide) ?_
      refine lv_goto (tgt := 15) hx hb dX4_in_11 (by decide) ?_
      subst h
      exact retPz (v := (1 : Int32)) hx hb hr hlocks rfl dX4_in_15
-- LandBoardModel.plain
set_option maxHeartbeats 4000000 in
set_option maxRecDepth 100000 in
theorem ctX4_plain (l : Launch) (g : GG) (a : Nat → Nat)  (mw : Int32) (mh : Int32) (mke : Int32) (mnx : Int32) (mdo : Int32) (mtr : Int64) (mma : Int32) (mto : Int32) (mah : Int32) (mrs : Int32) (mab : Int32) (ce : (Nat → Int32)) (mk : (Nat → Int32)) (mo : (Nat → Int32)) (mwa : (Nat → Int32)) (mmc : (Nat → Int32)) (mmf : (Nat → Int32)) (mhy : (Nat → Int32)) (myw : (Nat → Int32)) (myh : (Nat → Int32)) (myr : (Nat → Int32)) (mpi : (Nat → Int32)) (mme : (Nat → Int32)) (mde : (Nat → Int32)) (mwe : (Nat → Int32)) (mla : (Nat → Int32)) (res : Int32 × (Nat → Int32) × (Nat → Int32)) (h : fX4_plain mke mk mo = some res) : MM l yX4_plain wsX4_plain ({ frames := 0, cells := 0, slots := 0, locals := 0 }) g [.ref (a 0)] (wM g a mw mh mke mnx mdo mtr mma mto mah mrs mab ce mk mo mwa mmc mmf mhy myw myh myr mpi mme mde mwe mla) (wM g a mw mh res.1 mnx mdo mtr mma mto mah mrs mab ce res.2.1 res.2.2 mwa mmc mmf mhy myw myh myr mpi mme mde mwe mla) none := by
  refine MM.of (cc := cX4_plain) (own := RX4) 2 none (by decide +kernel) rfl (Nat.le_of_ble_eq_true rfl) rfl ?_
  intro p e s m args below meth c hx hb hr hml hown hts hlocks hK A hA ls hl hP hD hS
  have S : CallFix p m c cX4_plain 2 s args wsX4_plain RX4 := ⟨hx, hb, hml, hown, hts⟩
  have hl : lv_has ls 2 [(0, .ref (a 0))] := hl
  have f69 := hts (.fieldLink RX4 69 "LandBoardModel" "kept" "I") (by decide +kernel)
  have iX4 := (by decide +kernel : ∀ w ∈ u_ws RX4 TX4 26, w ∈ wsX4_plain)
  have f20 := hts (.fieldLink RX4 20 "LandBoardModel" "kind" "[I") (by decide +kernel)
  have f23 := hts (.fieldLink RX4 23 "LandBoardModel" "own" "[I") (by decide +kernel)
  refine lv_iconst (v := 0) hx hb dX4_plain_0 (by decide) ?_
  refine lv_istore_n (lv' := [(1, .int (0 : Int32)), (0, .ref (a 0))]) hx hb dX4_plain_1 rfl hl (by decide) rfl (fun ls hl => ?_)
  obtain ⟨t2, hw2, h⟩ := gdb h
  have X2 : ∀ (H : Heap) (locs : List Loc) (ls : Array Slot), va_P g.1 vwCl (wM g a mw mh mke mnx mdo mtr mma mto mah mrs mab ce t2.1 t2.2 mwa mmc mmf mhy myw myh myr mpi mme mde mwe mla) H → va_D A (wM g a mw mh mke mnx mdo mtr mma mto mah mrs mab ce t2.1 t2.2 mwa mmc mmf mhy myw myh myr mpi mme mde mwe mla) → va_S A s.heap H locs → lv_has ls 2 [(0, .ref (a 0))] → W p l e ({ frames := 0, cells := 0, slots := 0, locals := 0 }) s m args below meth c H locs 0 0 (MQ below (QM g none (wM g a mw mh res.1 mnx mdo mtr mma mto mah mrs mab ce res.2.1 res.2.2 mwa mmc mmf mhy myw myh myr mpi mme mde mwe mla) A) args s 0 0 A) (F0 m 28 ls []) := by
    intro H locs ls hP hD hS hl
    refine lv_aload_n hx hb dX4_plain_28 rfl (lv_at hl 0 rfl) ?_
    refine lv_iconst (v := 0) hx hb dX4_plain_29 (by decide) ?_
    refine va_put (D := g.1) (ci := 4) (v := .int (0 : Int32)) (ty := .int) (C := RX4) (T := TX4) (N := 26) hx hb hts iX4 tyX4 tyX4_ok nmX4 hown hK.1 hP hD hS 0 rfl rfl 6 (by decide) f69 (fun _ h9 => h9) rfl (by decide +kernel) rfl rfl (Nat.le_of_ble_eq_true rfl) dX4_plain_30 (fun H locs hP hD hS => ?_)
    have hP : va_P g.1 vwCl (wM g a mw mh (0 : Int32) mnx mdo mtr mma mto mah mrs mab ce t2.1 t2.2 mwa mmc mmf mhy myw myh myr mpi mme mde mwe mla) H := hP
    have hD : va_D A (wM g a mw mh (0 : Int32) mnx mdo mtr mma mto mah mrs mab ce t2.1 t2.2 mwa mmc mmf mhy myw myh myr mpi mme mde mwe mla) := hD
    obtain rfl := Option.some.inj h
    exact retMv hx hb hr hlocks hP hD hS dX4_plain_33
  clear h
  have L2 : ∀ (n : Nat) (s2 : Int32 × (Nat → Int32) × (Nat → Int32)), wh fX4_plain_2 n s2 = some t2 → ∀ (H : Heap) (locs : List Loc) (ls : Array Slot), va_P g.1 vwCl (wM g a mw mh mke mnx mdo mtr mma mto mah mrs mab ce s2.2.1 s2.2.2 mwa mmc mmf mhy myw myh myr mpi mme mde mwe mla) H → va_D A (wM g a mw mh mke mnx mdo mtr mma mto mah mrs mab ce s2.2.1 s2.2.2 mwa mmc mmf mhy myw myh myr mpi mme mde mwe mla) → va_S A s.heap H locs → lv_has ls 2 [(0, .ref (a 0)), (1, .int s2.1)] → W p l e ({ frames := 0, cells := 0, slots := 0, locals := 0 }) s m args below meth c H locs 0 0 (MQ below (QM g none (wM g a mw mh res.1 mnx mdo mtr mma mto mah mrs mab ce res.2.1 res.2.2 mwa mmc mmf mhy myw myh myr mpi mme mde mwe mla) A) args s 0 0 A) (F0 m 2 ls []) := by
    intro n
    induction n with
    | zero => intro s2 hw; exact (wh_0 hw).elim
    | succ n ih2 =>
      intro s2 hw H locs ls hP hD hS hl
      obtain ⟨r0, h, hr2⟩ := wh_s hw
      refine lv_iload_n hx hb dX4_plain_2 rfl (lv_at hl 1 rfl) ?_
      refine lv_bipush (v := 6) hx hb dX4_plain_3 (by decide) ?_
      refine lv_icmp_ge (tgt := 28) hx hb dX4_plain_5 (by decide) (fun c5 => ?_) (fun c5 => ?_)
      ·
        replace h := gdp h c5
        obtain rfl := Option.some.inj h
        have e0 : (s2.2.1, s2.2.2) = t2 := hr2
        subst e0
        exact X2 _ _ _ hP hD hS (lv_sub hl [0] rfl)
      ·
        replace h := gdn h c5
        refine lv_aload_n hx hb dX4_plain_8 rfl (lv_at hl 0 rfl) ?_
        refine va_get (D := g.1) (ci := 4) (v := .ref (a 2)) (C := RX4) (T := TX4) (N := 26) hx hb hts iX4 hown hK.1 hP 0 rfl rfl 3 (by decide) f20 (fun _ h9 => h9) rfl dX4_plain_9 ?_
        refine lv_iload_n hx hb dX4_plain_12 rfl (lv_at hl 1 rfl) ?_
        refine lv_iconst (v := 0) hx hb dX4_plain_13 (by decide) ?_
        obtain ⟨hi, h⟩ := gdi h
        refine va_iast (D := g.1) hx hb hK.1 hP hD hS 2 0 rfl rfl hi dX4_plain_14 (fun H locs hP hD hS => ?_)
        have hP : va_P g.1 vwCl (wM g a mw mh mke mnx mdo mtr mma mto mah mrs mab ce (upd s2.2.1 (s2.1).toNatClampNeg (0 : Int32)) s2.2.2 mwa mmc mmf mhy myw myh myr mpi mme mde mwe mla) H := hP
        have hD : va_D A (wM g a mw mh mke mnx mdo mtr mma mto mah mrs mab ce (upd s2.2.1 (s2.1).toNatClampNeg (0 : Int32)) s2.2.2 mwa mmc mmf mhy myw myh myr mpi mme mde mwe mla) := hD
        refine lv_aload_n hx hb dX4_plain_15 rfl (lv_at hl 0 rfl) ?_
        refine va_get (D := g.1) (ci := 4) (v := .ref (a 3)) (C := RX4) (T := TX4) (N := 26) hx hb hts iX4 hown hK.1 hP 0 rfl rfl 4 (by decide) f23 (fun _ h9 => h9) rfl dX4_plain_16 ?_
        refine lv_iload_n hx hb dX4_plain_19 rfl (lv_at hl 1 rfl) ?_
        refine lv_iconst (v := -1) hx hb dX4_plain_20 (by decide) ?_
        obtain ⟨hi, h⟩ := gdi h
        refine va_iast (D := g.1) hx hb hK.1 hP hD hS 3 0 rfl rfl hi dX4_plain_21 (fun H locs hP hD hS => ?_)
        have hP : va_P g.1 vwCl (wM g a mw mh mke mnx mdo mtr mma mto mah mrs mab ce (upd s2.2.1 (s2.1).toNatClampNeg (0 : Int32)) (upd s2.2.2 (s2.1).toNatClampNeg (-1 : Int32)) mwa mmc mmf mhy myw myh myr mpi mme mde mwe mla) H := hP
        have hD : va_D A (wM g a mw mh mke mnx mdo mtr mma mto mah mrs mab ce (upd s2.2.1 (s2.1).toNatClampNeg (0 : Int32)) (upd s2.2.2 (s2.1).toNatClampNeg (-1 : Int32)) mwa mmc mmf mhy myw myh myr mpi mme mde mwe mla) := hD
        refine lv_iinc (v := (s2.1 + 1)) (lv' := [(1, .int (s2.1 + 1)), (0, .ref (a 0))]) hx hb dX4_plain_22 hl (k := 1) rfl rfl (by decide) rfl (fun ls hl => ?_)
        refine lv_goto (tgt := 2) hx hb dX4_plain_25 (by decide) ?_
        obtain rfl := Option.some.inj h
        exact ih2 ((s2.1 + 1), (upd s2.2.1 (s2.1).toNatClampNeg (0 : Int32)), (upd s2.2.2 (s2.1).toNatClampNeg (-1 : Int32))) hr2 _ _ _ hP hD hS (lv_sub hl [1, 0] rfl)
  exact L2 _ ((0 : Int32), mk, mo) hw2 _ _ _ hP hD hS (lv_sub hl [1, 0] rfl)
-- LandBoardModel.clears
set_option maxHeartbeats 4000000 in
set_option maxRecDepth 100000 in
theorem ctX4_clears (l : Launch) (g : GG) (a : Nat → Nat)  (mw : Int32) (mh : Int32) (mke : Int32) (mnx : Int32) (mdo : Int32) (mtr : Int64) (mma : Int32) (mto : Int32) (mah : Int32) (mrs : Int32) (mab : Int32) (ce : (Nat → Int32)) (mk : (Nat → Int32)) (mo : (Nat → Int32)) (mwa : (Nat → Int32)) (mmc : (Nat → Int32)) (mmf : (Nat → Int32)) (mhy : (Nat → Int32)) (myw : (Nat → Int32)) (myh : (Nat → Int32)) (myr : (Nat → Int32)) (mpi : (Nat → Int32)) (mme : (Nat → Int32)) (mde : (Nat → Int32)) (mwe : (Nat → Int32)) (mla : (Nat → Int32)) (res : Int32 × (Nat → Int32) × (Nat → Int32) × (Nat → Int32)) (h : fX4_clears mke ce mk mo = some res) : MM l yX4_clears wsX4_clears ({ frames := 1, cells := 0, slots := 0, locals := 21 }) g [.ref (a 0)] (wM g a mw mh mke mnx mdo mtr mma mto mah mrs mab ce mk mo mwa mmc mmf mhy myw myh myr mpi mme mde mwe mla) (wM g a mw mh res.1 mnx mdo mtr mma mto mah mrs mab res.2.1 res.2.2.1 res.2.2.2 mwa mmc mmf mhy myw myh myr mpi mme mde mwe mla) none := by
  refine MM.of (cc := cX4_clears) (own := RX4) 2 none (by decide +kernel) rfl (Nat.le_of_ble_eq_true rfl) rfl ?_
  intro p e s m args below meth c hx hb hr hml hown hts hlocks hK A hA ls hl hP hD hS
  have S : CallFix p m c cX4_clears 2 s args wsX4_clears RX4 := ⟨hx, hb, hml, hown, hts⟩
  have hl : lv_has ls 2 [(0, .ref (a 0))] := hl
  have f16 := hts (.fieldLink RX4 16 "LandBoardModel" "cells" "[I") (by decide +kernel)
  have iX4 := (by decide +kernel : ∀ w ∈ u_ws RX4 TX4 26, w ∈ wsX4_clears)
  refine lv_iconst (v := 0) hx hb dX4_clears_0 (by decide) ?_
  refine lv_istore_n (lv' := [(1, .int (0 : Int32)), (0, .ref (a 0))]) hx hb dX4_clears_1 rfl hl (by decide) rfl (fun ls hl => ?_)
  obtain ⟨t2, hw2, h⟩ := gdb h
  have X2 : ∀ (H : Heap) (locs : List Loc) (ls : Array Slot), va_P g.1 vwCl (wM g a mw mh mke mnx mdo mtr mma mto mah mrs mab t2 mk mo mwa mmc mmf mhy myw myh myr mpi mme mde mwe mla) H → va_D A (wM g a mw mh mke mnx mdo mtr mma mto mah mrs mab t2 mk mo mwa mmc mmf mhy myw myh myr mpi mme mde mwe mla) → va_S A s.heap H locs → lv_has ls 2 [(0, .ref (a 0))] → W p l e ({ frames := 1, cells := 0, slots := 0, locals := 21 }) s m args below meth c H locs 0 0 (MQ below (QM g none (wM g a mw mh res.1 mnx mdo mtr mma mto mah mrs mab res.2.1 res.2.2.1 res.2.2.2 mwa mmc mmf mhy myw myh myr mpi mme mde mwe mla) A) args s 0 0 A) (F0 m 22 ls []) := by
    intro H locs ls hP hD hS hl
    refine lv_aload_n hx hb dX4_clears_22 rfl (lv_at hl 0 rfl) ?_
    obtain ⟨r23, hr23, h⟩ := gdb h
    refine kMV (As := []) (rest := []) (ci := 4) (W1 := (wM g a mw mh r23.1 mnx mdo mtr mma mto mah mrs mab t2 r23.2.1 r23.2.2 mwa mmc mmf mhy myw myh myr mpi mme mde mwe mla)) (wr := []) S (ctX4_plain l g a  mw mh mke mnx mdo mtr mma mto mah mrs mab t2 mk mo mwa mmc mmf mhy myw myh myr mpi mme mde mwe mla r23 hr23) (cwV 0 hts gX4_clears_X4_plain rfl rfl rfl (by decide +kernel) ⟨Nat.le_of_ble_eq_true rfl, Nat.le_of_ble_eq_true rfl⟩) hK hP hD hS hA [0, 1, 2, 3, 4, 5, 6, 7, 8, 9, 10, 11, 12, 13, 14, 15] [] [0, 1, 2, 3, 4, 5, 6, 7, 8, 9, 10, 11, 12, 13, 14, 15] rfl rfl rfl rfl (by decide) rfl rfl rfl rfl rfl rfl hl.1 rfl (Nat.le_of_ble_eq_true rfl) dX4_clears_23 ⟨Nat.zero_le _, Nat.zero_le _⟩ (fun H locs hP hD hS => ?_)
    show W p l e ({ frames := 1, cells := 0, slots := 0, locals := 21 }) s m args below meth c H locs 0 0 (MQ below (QM g none (wM g a mw mh res.1 mnx mdo mtr mma mto mah mrs mab res.2.1 res.2.2.1 res.2.2.2 mwa mmc mmf mhy myw myh myr mpi mme mde mwe mla) A) args s 0 0 A) (F0 m 26 ls [])
    obtain rfl := Option.some.inj h
    exact retMv hx hb hr hlocks hP hD hS dX4_clears_26
  clear h
  have L2 : ∀ (n : Nat) (s2 : Int32 × (Nat → Int32)), wh fX4_clears_2 n s2 = some t2 → ∀ (H : Heap) (locs : List Loc) (ls : Array Slot), va_P g.1 vwCl (wM g a mw mh mke mnx mdo mtr mma mto mah mrs mab s2.2 mk mo mwa mmc mmf mhy myw myh myr mpi mme mde mwe mla) H → va_D A (wM g a mw mh mke mnx mdo mtr mma mto mah mrs mab s2.2 mk mo mwa mmc mmf mhy myw myh myr mpi mme mde mwe mla) → va_S A s.heap H locs → lv_has ls 2 [(0, .ref (a 0)), (1, .int s2.1)] → W p l e ({ frames := 1, cells := 0, slots := 0, locals := 21 }) s m args below meth c H locs 0 0 (MQ below (QM g none (wM g a mw mh res.1 mnx mdo mtr mma mto mah mrs mab res.2.1 res.2.2.1 res.2.2.2 mwa mmc mmf mhy myw myh myr mpi mme mde mwe mla) A) args s 0 0 A) (F0 m 2 ls []) := by
    intro n
    induction n with
    | zero => intro s2 hw; exact (wh_0 hw).elim
    | succ n ih2 =>
      intro s2 hw H locs ls hP hD hS hl
      obtain ⟨r0, h, hr2⟩ := wh_s hw
      refine lv_iload_n hx hb dX4_clears_2 rfl (lv_at hl 1 rfl) ?_
      refine lv_bipush (v := 64) hx hb dX4_clears_3 (by decide) ?_
      refine lv_icmp_ge (tgt := 22) hx hb dX4_clears_5 (by decide) (fun c5 => ?_) (fun c5 => ?_)
      ·
        replace h := gdp h c5
        obtain rfl := Option.some.inj h
        have e0 : s2.2 = t2 := hr2
        subst e0
        exact X2 _ _ _ hP hD hS (lv_sub hl [0] rfl)
      ·
        replace h := gdn h c5
        refine lv_aload_n hx hb dX4_clears_8 rfl (lv_at hl 0 rfl) ?_
        refine va_get (D := g.1) (ci := 4) (v := .ref (a 1)) (C := RX4) (T := TX4) (N := 26) hx hb hts iX4 hown hK.1 hP 0 rfl rfl 2 (by decide) f16 (fun _ h9 => h9) rfl dX4_clears_9 ?_
        refine lv_iload_n hx hb dX4_clears_12 rfl (lv_at hl 1 rfl) ?_
        refine lv_bipush (v := -4) hx hb dX4_clears_13 (by decide) ?_
        obtain ⟨hi, h⟩ := gdi h
        refine va_iast (D := g.1) hx hb hK.1 hP hD hS 1 0 rfl rfl hi dX4_clears_15 (fun H locs hP hD hS => ?_)
        have hP : va_P g.1 vwCl (wM g a mw mh mke mnx mdo mtr mma mto mah mrs mab (upd s2.2 (s2.1).toNatClampNeg (-4 : Int32)) mk mo mwa mmc mmf mhy myw myh myr mpi mme mde mwe mla) H := hP
        have hD : va_D A (wM g a mw mh mke mnx mdo mtr mma mto mah mrs mab (upd s2.2 (s2.1).toNatClampNeg (-4 : Int32)) mk mo mwa mmc mmf mhy myw myh myr mpi mme mde mwe mla) := hD
        refine lv_iinc (v := (s2.1 + 1)) (lv' := [(1, .int (s2.1 + 1)), (0, .ref (a 0))]) hx hb dX4_clears_16 hl (k := 1) rfl rfl (by decide) rfl (fun ls hl => ?_)
        refine lv_goto (tgt := 2) hx hb dX4_clears_19 (by decide) ?_
        obtain rfl := Option.some.inj h
        exact ih2 ((s2.1 + 1), (upd s2.2 (s2.1).toNatClampNeg (-4 : Int32))) hr2 _ _ _ hP hD hS (lv_sub hl [1, 0] rfl)
  exact L2 _ ((0 : Int32), ce) hw2 _ _ _ hP hD hS (lv_sub hl [1, 0] rfl)
-- LandBoardModel.isLand
set_option maxHeartbeats 4000000 in
set_option maxRecDepth 100000 in
theorem ctX4_isLand (l : Launch) (g : GG) (x0 : Int32)  (res : Int32) (h : fX4_isLand x0 = res) : MP l yX4_isLand wsX4_isLand ({ frames := 1, cells := 0, slots := 0, locals := 22 }) g [.int x0] (wN g) (.int res) := by
  refine MP.of (cc := cX4_isLand) (own := RX4) 1 (some .boolean) (by decide +kernel) rfl (Nat.le_of_ble_eq_true rfl) rfl ?_
  intro p e s m args below meth c hx hb hr hml hown hts hlocks hP hK ls hl
  have S : CallFix p m c cX4_isLand 1 s args wsX4_isLand RX4 := ⟨hx, hb, hml, hown, hts⟩
  have hl : lv_has ls 1 [(0, .int x0)] := hl
  refine lv_iload_n hx hb dX4_isLand_0 rfl (lv_at hl 0 rfl) ?_
  refine lv_iconst (v := 0) hx hb dX4_isLand_1 (by decide) ?_
  refine lv_iconst (v := 5) hx hb dX4_isLand_2 (by decide) ?_
  refine kPS (As := [.int x0, .int (0 : Int32), .int (5 : Int32)]) (rest := []) S (ctX4_in l g x0 (0 : Int32) (5 : Int32)  (fX4_in x0 (0 : Int32) (5 : Int32)) rfl) (va_cwS 3 hts gX4_isLand_X4_in rfl rfl rfl (by decide +kernel) ⟨Nat.le_of_ble_eq_true rfl, Nat.le_of_ble_eq_true rfl⟩) hK rfl rfl hl.1 rfl (Nat.le_of_ble_eq_true rfl) dX4_isLand_3 ⟨Nat.zero_le _, Nat.zero_le _⟩ ?_
  subst h
  exact retPz hx hb hr hlocks z_X4_isLand dX4_isLand_6
-- LandBoardModel.isOn
set_option maxHeartbeats 4000000 in
set_option maxRecDepth 100000 in
theorem ctX4_isOn (l : Launch) (g : GG) (a : Nat → Nat) (x1 : Int32) (x2 : Int32) (mw : Int32) (mh : Int32) (mke : Int32) (mnx : Int32) (mdo : Int32) (mtr : Int64) (mma : Int32) (mto : Int32) (mah : Int32) (mrs : Int32) (mab : Int32) (ce : (Nat → Int32)) (mk : (Nat → Int32)) (mo : (Nat → Int32)) (mwa : (Nat → Int32)) (mmc : (Nat → Int32)) (mmf : (Nat → Int32)) (mhy : (Nat → Int32)) (myw : (Nat → Int32)) (myh : (Nat → Int32)) (myr : (Nat → Int32)) (mpi : (Nat → Int32)) (mme : (Nat → Int32)) (mde : (Nat → Int32)) (mwe : (Nat → Int32)) (mla : (Nat → Int32)) (res : Int32) (h : fX4_isOn x1 x2 mw mh = res) : MP l yX4_isOn wsX4_isOn ({ frames := 1, cells := 0, slots := 0, locals := 22 }) g [.ref (a 0), .int x1, .int x2] (wM g a mw mh mke mnx mdo mtr mma mto mah mrs mab ce mk mo mwa mmc mmf mhy myw myh myr mpi mme mde mwe mla) (.int res) := by
  refine MP.of (cc := cX4_isOn) (own := RX4) 3 (some .boolean) (by decide +kernel) rfl (Nat.le_of_ble_eq_true rfl) rfl ?_
  intro p e s m args below meth c hx hb hr hml hown hts hlocks hP hK ls hl
  have S : CallFix p m c cX4_isOn 3 s args wsX4_isOn RX4 := ⟨hx, hb, hml, hown, hts⟩
  have hl : lv_has ls 3 [(0, .ref (a 0)), (1, .int x1), (2, .int x2)] := hl
  have f7 := hts (.fieldLink RX4 7 "LandBoardModel" "w" "I") (by decide +kernel)
  have iX4 := (by decide +kernel : ∀ w ∈ u_ws RX4 TX4 26, w ∈ wsX4_isOn)
  have f13 := hts (.fieldLink RX4 13 "LandBoardModel" "h" "I") (by decide +kernel)
  refine lv_iload_n hx hb dX4_isOn_0 rfl (lv_at hl 1 rfl) ?_
  refine lv_iconst (v := 0) hx hb dX4_isOn_1 (by decide) ?_
  refine lv_aload_n hx hb dX4_isOn_2 rfl (lv_at hl 0 rfl) ?_
  refine va_get (D := g.1) (ci := 4) (v := .int mw) (C := RX4) (T := TX4) (N := 26) hx hb hts iX4 hown hK.1 hP 0 rfl rfl 0 (by decide) f7 (fun _ h9 => h9) rfl dX4_isOn_3 ?_
  refine lv_iconst (v := 1) hx hb dX4_isOn_6 (by decide) ?_
  refine lv_isub hx hb dX4_isOn_7 ?_
  refine kPS (As := [.int x1, .int (0 : Int32), .int (mw - (1 : Int32))]) (rest := []) S (ctX4_in l g x1 (0 : Int32) (mw - (1 : Int32))  (fX4_in x1 (0 : Int32) (mw - (1 : Int32))) rfl) (va_cwS 3 hts gX4_isOn_X4_in rfl rfl rfl (by decide +kernel) ⟨Nat.le_of_ble_eq_true rfl, Nat.le_of_ble_eq_true rfl⟩) hK rfl rfl hl.1 rfl (Nat.le_of_ble_eq_true rfl) dX4_isOn_8 ⟨Nat.zero_le _, Nat.zero_le _⟩ ?_
  refine lv_if_eq (tgt := 32) hx hb dX4_isOn_11 (by decide) (fun c11 => ?_) (fun c11 => ?_)
  ·
    replace h := gdp h c11
    refine lv_iconst (v := 0) hx hb dX4_isOn_32 (by decide) ?_
    subst h
    exact retPz (v := (0 : Int32)) hx hb hr hlocks rfl dX4_isOn_33
  ·
    replace h := gdn h c11
    refine lv_iload_n hx hb dX4_isOn_14 rfl (lv_at hl 2 rfl) ?_
    refine lv_iconst (v := 0) hx hb dX4_isOn_15 (by decide) ?_
    refine lv_aload_n hx hb dX4_isOn_16 rfl (lv_at hl 0 rfl) ?_
    refine va_get (D := g.1) (ci := 4) (v := .int mh) (C := RX4) (T := TX4) (N := 26) hx hb hts iX4 hown hK.1 hP 0 rfl rfl 1 (by decide) f13 (fun _ h9 => h9) rfl dX4_isOn_17 ?_
    refine lv_iconst (v := 1) hx hb dX4_isOn_20 (by decide) ?_
    refine lv_isub hx hb dX4_isOn_21 ?_
    refine kPS (As := [.int x2, .int (0 : Int32), .int (mh - (1 : Int32))]) (rest := []) S (ctX4_in l g x2 (0 : Int32) (mh - (1 : Int32))  (fX4_in x2 (0 : Int32) (mh - (1 : Int32))) rfl) (va_cwS 3 hts gX4_isOn_X4_in rfl rfl rfl (by decide +kernel) ⟨Nat.le_of_ble_eq_true rfl, Nat.le_of_ble_eq_true rfl⟩) hK rfl rfl hl.1 rfl (Nat.le_of_ble_eq_true rfl) dX4_isOn_22 ⟨Nat.zero_le _, Nat.zero_le _⟩ ?_
    refine lv_if_eq (tgt := 32) hx hb dX4_isOn_25 (by decide) (fun c25 => ?_) (fun c25 => ?_)
    ·
      replace h := gdp h c25
      refine lv_iconst (v := 0) hx hb dX4_isOn_32 (by decide) ?_
      subst h
      exact retPz (v := (0 : Int32)) hx hb hr hlocks rfl dX4_isOn_33
    ·
      replace h := gdn h c25
      refine lv_iconst (v := 1) hx hb dX4_isOn_28 (by decide) ?_
      refine lv_goto (tgt := 33) hx hb dX4_isOn_29 (by decide) ?_
      subst h
      exact retPz (v := (1 : Int32)) hx hb hr hlocks rfl dX4_isOn_33
-- LandBoardModel.cellAt
set_option maxHeartbeats 4000000 in
set_option maxRecDepth 100000 in
theorem ctX4_cellAt (l : Launch) (g : GG) (a : Nat → Nat) (x1 : Int32) (x2 : Int32) (mw : Int32) (mh : Int32) (mke : Int32) (mnx : Int32) (mdo : Int32) (mtr : Int64) (mma : Int32) (mto : Int32) (mah : Int32) (mrs : Int32) (mab : Int32) (ce : (Nat → Int32)) (mk : (Nat → Int32)) (mo : (Nat → Int32)) (mwa : (Nat → Int32)) (mmc : (Nat → Int32)) (mmf : (Nat → Int32)) (mhy : (Nat → Int32)) (myw : (Nat → Int32)) (myh : (Nat → Int32)) (myr : (Nat → Int32)) (mpi : (Nat → Int32)) (mme : (Nat → Int32)) (mde : (Nat → Int32)) (mwe : (Nat → Int32)) (mla : (Nat → Int32)) (res : Int32) (h : fX4_cellAt x1 x2 mw mh = res) : MP l yX4_cellAt wsX4_cellAt ({ frames := 2, cells := 0, slots := 0, locals := 44 }) g [.ref (a 0), .int x1, .int x2] (wM g a mw mh mke mnx mdo mtr mma mto mah mrs mab ce mk mo mwa mmc mmf mhy myw myh myr mpi mme mde mwe mla) (.int res) := by
  refine MP.of (cc := cX4_cellAt) (own := RX4) 3 (some .int) (by decide +kernel) rfl (Nat.le_of_ble_eq_true rfl) rfl ?_
  intro p e s m args below meth c hx hb hr hml hown hts hlocks hP hK ls hl
  have S : CallFix p m c cX4_cellAt 3 s args wsX4_cellAt RX4 := ⟨hx, hb, hml, hown, hts⟩
  have hl : lv_has ls 3 [(0, .ref (a 0)), (1, .int x1), (2, .int x2)] := hl
  have f7 := hts (.fieldLink RX4 7 "LandBoardModel" "w" "I") (by decide +kernel)
  have iX4 := (by decide +kernel : ∀ w ∈ u_ws RX4 TX4 26, w ∈ wsX4_cellAt)
  refine lv_aload_n hx hb dX4_cellAt_0 rfl (lv_at hl 0 rfl) ?_
  refine lv_iload_n hx hb dX4_cellAt_1 rfl (lv_at hl 1 rfl) ?_
  refine lv_iload_n hx hb dX4_cellAt_2 rfl (lv_at hl 2 rfl) ?_
  refine kPV (As := [.int x1, .int x2]) (rest := []) (ci := 4) S (ctX4_isOn l g a x1 x2 mw mh mke mnx mdo mtr mma mto mah mrs mab ce mk mo mwa mmc mmf mhy myw myh myr mpi mme mde mwe mla (fX4_isOn x1 x2 mw mh) rfl) (cwV 2 hts gX4_cellAt_X4_isOn rfl rfl rfl (by decide +kernel) ⟨Nat.le_of_ble_eq_true rfl, Nat.le_of_ble_eq_true rfl⟩) hK hP [0, 1, 2, 3, 4, 5, 6, 7, 8, 9, 10, 11, 12, 13, 14, 15] rfl rfl rfl rfl rfl hl.1 rfl (Nat.le_of_ble_eq_true rfl) dX4_cellAt_3 ⟨Nat.zero_le _, Nat.zero_le _⟩ ?_
  refine lv_if_eq (tgt := 20) hx hb dX4_cellAt_6 (by decide) (fun c6 => ?_) (fun c6 => ?_)
  ·
    replace h := gdp h c6
    refine lv_iconst (v := -1) hx hb dX4_cellAt_20 (by decide) ?_
    subst h
    exact retPi (v := (-1 : Int32)) hx hb hr hlocks dX4_cellAt_21
  ·
    replace h := gdn h c6
    refine lv_iload_n hx hb dX4_cellAt_9 rfl (lv_at hl 2 rfl) ?_
    refine lv_aload_n hx hb dX4_cellAt_10 rfl (lv_at hl 0 rfl) ?_
    refine va_get (D := g.1) (ci := 4) (v := .int mw) (C := RX4) (T := TX4) (N := 26) hx hb hts iX4 hown hK.1 hP 0 rfl rfl 0 (by decide) f7 (fun _ h9 => h9) rfl dX4_cellAt_11 ?_
    refine lv_imul hx hb dX4_cellAt_14 ?_
    refine lv_iload_n hx hb dX4_cellAt_15 rfl (lv_at hl 1 rfl) ?_
    refine lv_iadd hx hb dX4_cellAt_16 ?_
    refine lv_goto (tgt := 21) hx hb dX4_cellAt_17 (by decide) ?_
    subst h
    exact retPi hx hb hr hlocks dX4_cellAt_21
-- LandBoardModel.beside
set_option maxHeartbeats 4000000 in
set_option maxRecDepth 100000 in
theorem ctX4_beside (l : Launch) (g : GG) (a : Nat → Nat) (x1 : Int32) (x2 : Int32) (mw : Int32) (mh : Int32) (mke : Int32) (mnx : Int32) (mdo : Int32) (mtr : Int64) (mma : Int32) (mto : Int32) (mah : Int32) (mrs : Int32) (mab : Int32) (ce : (Nat → Int32)) (mk : (Nat → Int32)) (mo : (Nat → Int32)) (mwa : (Nat → Int32)) (mmc : (Nat → Int32)) (mmf : (Nat → Int32)) (mhy : (Nat → Int32)) (myw : (Nat → Int32)) (myh : (Nat → Int32)) (myr : (Nat → Int32)) (mpi : (Nat → Int32)) (mme : (Nat → Int32)) (mde : (Nat → Int32)) (mwe : (Nat → Int32)) (mla : (Nat → Int32)) (res : Int32) (h : fX4_beside x1 x2 mw mh = some res) : MP l yX4_beside wsX4_beside ({ frames := 3, cells := 0, slots := 0, locals := 66 }) g [.ref (a 0), .int x1, .int x2] (wM g a mw mh mke mnx mdo mtr mma mto mah mrs mab ce mk mo mwa mmc mmf mhy myw myh myr mpi mme mde mwe mla) (.int res) := by
  refine MP.of (cc := cX4_beside) (own := RX4) 5 (some .int) (by decide +kernel) rfl (Nat.le_of_ble_eq_true rfl) rfl ?_
  intro p e s m args below meth c hx hb hr hml hown hts hlocks hP hK ls hl
  have S : CallFix p m c cX4_beside 5 s args wsX4_beside RX4 := ⟨hx, hb, hml, hown, hts⟩
  have hl : lv_has ls 5 [(0, .ref (a 0)), (1, .int x1), (2, .int x2)] := hl
  have f7 := hts (.fieldLink RX4 7 "LandBoardModel" "w" "I") (by decide +kernel)
  have iX4 := (by decide +kernel : ∀ w ∈ u_ws RX4 TX4 26, w ∈ wsX4_beside)
  refine lv_iload_n hx hb dX4_beside_0 rfl (lv_at hl 1 rfl) ?_
  refine lv_aload_n hx hb dX4_beside_1 rfl (lv_at hl 0 rfl) ?_
  refine va_get (D := g.1) (ci := 4) (v := .int mw) (C := RX4) (T := TX4) (N := 26) hx hb hts iX4 hown hK.1 hP 0 rfl rfl 0 (by decide) f7 (fun _ h9 => h9) rfl dX4_beside_2 ?_
  obtain ⟨hz, h⟩ := gdz h
  refine lv_irem hx hb dX4_beside_5 hz ?_
  refine lv_iload_n hx hb dX4_beside_6 rfl (lv_at hl 2 rfl) ?_
  refine lv_if_ne (tgt := 14) hx hb dX4_beside_7 (by decide) (fun c7 => ?_) (fun c7 => ?_)
  ·
    replace h := gdn h c7
    refine lv_iload_n hx hb dX4_beside_14 rfl (lv_at hl 2 rfl) ?_
    refine lv_iconst (v := 1) hx hb dX4_beside_15 (by decide) ?_
    refine lv_icmp_ne (tgt := 23) hx hb dX4_beside_16 (by decide) (fun c16 => ?_) (fun c16 => ?_)
    ·
      replace h := gdn h c16
      refine lv_iconst (v := 0) hx hb dX4_beside_23 (by decide) ?_
      refine lv_iadd hx hb dX4_beside_24 ?_
      refine lv_istore_n (lv' := [(3, .int ((x1 - x1 / mw * mw) + (0 : Int32))), (0, .ref (a 0)), (1, .int x1), (2, .int x2)]) hx hb dX4_beside_25 rfl hl (by decide) rfl (fun ls hl => ?_)
      refine lv_iload_n hx hb dX4_beside_26 rfl (lv_at hl 2 rfl) ?_
      refine lv_aload_n hx hb dX4_beside_27 rfl (lv_at hl 1 rfl) ?_
      refine va_get (D := g.1) (ci := 4) (v := .int mw) (C := RX4) (T := TX4) (N := 26) hx hb hts iX4 hown hK.1 hP 0 rfl rfl 0 (by decide) f7 (fun _ h9 => h9) rfl dX4_beside_28 ?_
      obtain ⟨hz, h⟩ := gdz h
      refine lv_idiv hx hb dX4_beside_31 hz ?_
      refine lv_iload_n hx hb dX4_beside_32 rfl (lv_at hl 3 rfl) ?_
      refine lv_iconst (v := 2) hx hb dX4_beside_33 (by decide) ?_
      refine lv_icmp_ne (tgt := 41) hx hb dX4_beside_34 (by decide) (fun c34 => ?_) (fun c34 => ?_)
      ·
        replace h := gdn h c34
        refine lv_iload_n hx hb dX4_beside_41 rfl (lv_at hl 3 rfl) ?_
        refine lv_iconst (v := 3) hx hb dX4_beside_42 (by decide) ?_
        refine lv_icmp_ne (tgt := 50) hx hb dX4_beside_43 (by decide) (fun c43 => ?_) (fun c43 => ?_)
        ·
          replace h := gdn h c43
          refine lv_iconst (v := 0) hx hb dX4_beside_50 (by decide) ?_
          refine lv_iadd hx hb dX4_beside_51 ?_
          refine lv_istore (lv' := [(4, .int ((x1 / mw) + (0 : Int32))), (3, .int ((x1 - x1 / mw * mw) + (0 : Int32))), (0, .ref (a 0)), (1, .int x1), (2, .int x2)]) hx hb dX4_beside_52 hl (by decide) rfl (fun ls hl => ?_)
          refine lv_aload_n hx hb dX4_beside_54 rfl (lv_at hl 2 rfl) ?_
          refine lv_iload_n hx hb dX4_beside_55 rfl (lv_at hl 1 rfl) ?_
          refine lv_iload hx hb dX4_beside_56 (lv_at hl 0 rfl) ?_
          refine kPV (As := [.int ((x1 - x1 / mw * mw) + (0 : Int32)), .int ((x1 / mw) + (0 : Int32))]) (rest := []) (ci := 4) S (ctX4_cellAt l g a ((x1 - x1 / mw * mw) + (0 : Int32)) ((x1 / mw) + (0 : Int32)) mw mh mke mnx mdo mtr mma mto mah mrs mab ce mk mo mwa mmc mmf mhy myw myh myr mpi mme mde mwe mla (fX4_cellAt ((x1 - x1 / mw * mw) + (0 : Int32)) ((x1 / mw) + (0 : Int32)) mw mh) rfl) (cwV 2 hts gX4_beside_X4_cellAt rfl rfl rfl (by decide +kernel) ⟨Nat.le_of_ble_eq_true rfl, Nat.le_of_ble_eq_true rfl⟩) hK hP [0, 1, 2, 3, 4, 5, 6, 7, 8, 9, 10, 11, 12, 13, 14, 15] rfl rfl rfl rfl rfl hl.1 rfl (Nat.le_of_ble_eq_true rfl) dX4_beside_58 ⟨Nat.zero_le _, Nat.zero_le _⟩ ?_
          obtain rfl := Option.some.inj h
          exact retPi hx hb hr hlocks dX4_beside_61
        ·
          replace h := gdp h c43
          refine lv_iconst (v := -1) hx hb dX4_beside_46 (by decide) ?_
          refine lv_goto (tgt := 51) hx hb dX4_beside_47 (by decide) ?_
          refine lv_iadd hx hb dX4_beside_51 ?_
          refine lv_istore (lv' := [(4, .int ((x1 / mw) + (-1 : Int32))), (3, .int ((x1 - x1 / mw * mw) + (0 : Int32))), (0, .ref (a 0)), (1, .int x1), (2, .int x2)]) hx hb dX4_beside_52 hl (by decide) rfl (fun ls hl => ?_)
          refine lv_aload_n hx hb dX4_beside_54 rfl (lv_at hl 2 rfl) ?_
          refine lv_iload_n hx hb dX4_beside_55 rfl (lv_at hl 1 rfl) ?_
          refine lv_iload hx hb dX4_beside_56 (lv_at hl 0 rfl) ?_
          refine kPV (As := [.int ((x1 - x1 / mw * mw) + (0 : Int32)), .int ((x1 / mw) + (-1 : Int32))]) (rest := []) (ci := 4) S (ctX4_cellAt l g a ((x1 - x1 / mw * mw) + (0 : Int32)) ((x1 / mw) + (-1 : Int32)) mw mh mke mnx mdo mtr mma mto mah mrs mab ce mk mo mwa mmc mmf mhy myw myh myr mpi mme mde mwe mla (fX4_cellAt ((x1 - x1 / mw * mw) + (0 : Int32)) ((x1 / mw) + (-1 : Int32)) mw mh) rfl) (cwV 2 hts gX4_beside_X4_cellAt rfl rfl rfl (by decide +kernel) ⟨Nat.le_of_ble_eq_true rfl, Nat.le_of_ble_eq_true rfl⟩) hK hP [0, 1, 2, 3, 4, 5, 6, 7, 8, 9, 10, 11, 12, 13, 14, 15] rfl rfl rfl rfl rfl hl.1 rfl (Nat.le_of_ble_eq_true rfl) dX4_beside_58 ⟨Nat.zero_le _, Nat.zero_le _⟩ ?_
          obtain rfl := Option.some.inj h
          exact retPi hx hb hr hlocks dX4_beside_61
      ·
        replace h := gdp h c34
        refine lv_iconst (v := 1) hx hb dX4_beside_37 (by decide) ?_
        refine lv_goto (tgt := 51) hx hb dX4_beside_38 (by decide) ?_
        refine lv_iadd hx hb dX4_beside_51 ?_
        refine lv_istore (lv' := [(4, .int ((x1 / mw) + (1 : Int32))), (3, .int ((x1 - x1 / mw * mw) + (0 : Int32))), (0, .ref (a 0)), (1, .int x1), (2, .int x2)]) hx hb dX4_beside_52 hl (by decide) rfl (fun ls hl => ?_)
        refine lv_aload_n hx hb dX4_beside_54 rfl (lv_at hl 2 rfl) ?_
        refine lv_iload_n hx hb dX4_beside_55 rfl (lv_at hl 1 rfl) ?_
        refine lv_iload hx hb dX4_beside_56 (lv_at hl 0 rfl) ?_
        refine kPV (As := [.int ((x1 - x1 / mw * mw) + (0 : Int32)), .int ((x1 / mw) + (1 : Int32))]) (rest := []) (ci := 4) S (ctX4_cellAt l g a ((x1 - x1 / mw * mw) + (0 : Int32)) ((x1 / mw) + (1 : Int32)) mw mh mke mnx mdo mtr mma mto mah mrs mab ce mk mo mwa mmc mmf mhy myw myh myr mpi mme mde mwe mla (fX4_cellAt ((x1 - x1 / mw * mw) + (0 : Int32)) ((x1 / mw) + (1 : Int32)) mw mh) rfl) (cwV 2 hts gX4_beside_X4_cellAt rfl rfl rfl (by decide +kernel) ⟨Nat.le_of_ble_eq_true rfl, Nat.le_of_ble_eq_true rfl⟩) hK hP [0, 1, 2, 3, 4, 5, 6, 7, 8, 9, 10, 11, 12, 13, 14, 15] rfl rfl rfl rfl rfl hl.1 rfl (Nat.le_of_ble_eq_true rfl) dX4_beside_58 ⟨Nat.zero_le _, Nat.zero_le _⟩ ?_
        obtain rfl := Option.some.inj h
        exact retPi hx hb hr hlocks dX4_beside_61
    ·
      replace h := gdp h c16
      refine lv_iconst (v := -1) hx hb dX4_beside_19 (by decide) ?_
      refine lv_goto (tgt := 24) hx hb dX4_beside_20 (by decide) ?_
      refine lv_iadd hx hb dX4_beside_24 ?_
      refine lv_istore_n (lv' := [(3, .int ((x1 - x1 / mw * mw) + (-1 : Int32))), (0, .ref (a 0)), (1, .int x1), (2, .int x2)]) hx hb dX4_beside_25 rfl hl (by decide) rfl (fun ls hl => ?_)
      refine lv_iload_n hx hb dX4_beside_26 rfl (lv_at hl 2 rfl) ?_
      refine lv_aload_n hx hb dX4_beside_27 rfl (lv_at hl 1 rfl) ?_
      refine va_get (D := g.1) (ci := 4) (v := .int mw) (C := RX4) (T := TX4) (N := 26) hx hb hts iX4 hown hK.1 hP 0 rfl rfl 0 (by decide) f7 (fun _ h9 => h9) rfl dX4_beside_28 ?_
      obtain ⟨hz, h⟩ := gdz h
      refine lv_idiv hx hb dX4_beside_31 hz ?_
      refine lv_iload_n hx hb dX4_beside_32 rfl (lv_at hl 3 rfl) ?_
      refine lv_iconst (v := 2) hx hb dX4_beside_33 (by decide) ?_
      refine lv_icmp_ne (tgt := 41) hx hb dX4_beside_34 (by decide) (fun c34 => ?_) (fun c34 => ?_)
      ·
        replace h := gdn h c34
        refine lv_iload_n hx hb dX4_beside_41 rfl (lv_at hl 3 rfl) ?_
        refine lv_iconst (v := 3) hx hb dX4_beside_42 (by decide) ?_
        refine lv_icmp_ne (tgt := 50) hx hb dX4_beside_43 (by decide) (fun c43 => ?_) (fun c43 => ?_)
        ·
          replace h := gdn h c43
          refine lv_iconst (v := 0) hx hb dX4_beside_50 (by decide) ?_
          refine lv_iadd hx hb dX4_beside_51 ?_
          refine lv_istore (lv' := [(4, .int ((x1 / mw) + (0 : Int32))), (3, .int ((x1 - x1 / mw * mw) + (-1 : Int32))), (0, .ref (a 0)), (1, .int x1), (2, .int x2)]) hx hb dX4_beside_52 hl (by decide) rfl (fun ls hl => ?_)
          refine lv_aload_n hx hb dX4_beside_54 rfl (lv_at hl 2 rfl) ?_
          refine lv_iload_n hx hb dX4_beside_55 rfl (lv_at hl 1 rfl) ?_
          refine lv_iload hx hb dX4_beside_56 (lv_at hl 0 rfl) ?_
          refine kPV (As := [.int ((x1 - x1 / mw * mw) + (-1 : Int32)), .int ((x1 / mw) + (0 : Int32))]) (rest := []) (ci := 4) S (ctX4_cellAt l g a ((x1 - x1 / mw * mw) + (-1 : Int32)) ((x1 / mw) + (0 : Int32)) mw mh mke mnx mdo mtr mma mto mah mrs mab ce mk mo mwa mmc mmf mhy myw myh myr mpi mme mde mwe mla (fX4_cellAt ((x1 - x1 / mw * mw) + (-1 : Int32)) ((x1 / mw) + (0 : Int32)) mw mh) rfl) (cwV 2 hts gX4_beside_X4_cellAt rfl rfl rfl (by decide +kernel) ⟨Nat.le_of_ble_eq_true rfl, Nat.le_of_ble_eq_true rfl⟩) hK hP [0, 1, 2, 3, 4, 5, 6, 7, 8, 9, 10, 11, 12, 13, 14, 15] rfl rfl rfl rfl rfl hl.1 rfl (Nat.le_of_ble_eq_true rfl) dX4_beside_58 ⟨Nat.zero_le _, Nat.zero_le _⟩ ?_
          obtain rfl := Option.some.inj h
          exact retPi hx hb hr hlocks dX4_beside_61
        ·
          replace h := gdp h c43
          refine lv_iconst (v := -1) hx hb dX4_beside_46 (by decide) ?_
          refine lv_goto (tgt := 51) hx hb dX4_beside_47 (by decide) ?_
          refine lv_iadd hx hb dX4_beside_51 ?_
          refine lv_istore (lv' := [(4, .int ((x1 / mw) + (-1 : Int32))), (3, .int ((x1 - x1 / mw * mw) + (-1 : Int32))), (0, .ref (a 0)), (1, .int x1), (2, .int x2)]) hx hb dX4_beside_52 hl (by decide) rfl (fun ls hl => ?_)
          refine lv_aload_n hx hb dX4_beside_54 rfl (lv_at hl 2 rfl) ?_
          refine lv_iload_n hx hb dX4_beside_55 rfl (lv_at hl 1 rfl) ?_
          refine lv_iload hx hb dX4_beside_56 (lv_at hl 0 rfl) ?_
          refine kPV (As := [.int ((x1 - x1 / mw * mw) + (-1 : Int32)), .int ((x1 / mw) + (-1 : Int32))]) (rest := []) (ci := 4) S (ctX4_cellAt l g a ((x1 - x1 / mw * mw) + (-1 : Int32)) ((x1 / mw) + (-1 : Int32)) mw mh mke mnx mdo mtr mma mto mah mrs mab ce mk mo mwa mmc mmf mhy myw myh myr mpi mme mde mwe mla (fX4_cellAt ((x1 - x1 / mw * mw) + (-1 : Int32)) ((x1 / mw) + (-1 : Int32)) mw mh) rfl) (cwV 2 hts gX4_beside_X4_cellAt rfl rfl rfl (by decide +kernel) ⟨Nat.le_of_ble_eq_true rfl, Nat.le_of_ble_eq_true rfl⟩) hK hP [0, 1, 2, 3, 4, 5, 6, 7, 8, 9, 10, 11, 12, 13, 14, 15] rfl rfl rfl rfl rfl hl.1 rfl (Nat.le_of_ble_eq_true rfl) dX4_beside_58 ⟨Nat.zero_le _, Nat.zero_le _⟩ ?_
          obtain rfl := Option.some.inj h
          exact retPi hx hb hr hlocks dX4_beside_61
      ·
        replace h := gdp h c34
        refine lv_iconst (v := 1) hx hb dX4_beside_37 (by decide) ?_
        refine lv_goto (tgt := 51) hx hb dX4_beside_38 (by decide) ?_
        refine lv_iadd hx hb dX4_beside_51 ?_
        refine lv_istore (lv' := [(4, .int ((x1 / mw) + (1 : Int32))), (3, .int ((x1 - x1 / mw * mw) + (-1 : Int32))), (0, .ref (a 0)), (1, .int x1), (2, .int x2)]) hx hb dX4_beside_52 hl (by decide) rfl (fun ls hl => ?_)
        refine lv_aload_n hx hb dX4_beside_54 rfl (lv_at hl 2 rfl) ?_
        refine lv_iload_n hx hb dX4_beside_55 rfl (lv_at hl 1 rfl) ?_
        refine lv_iload hx hb dX4_beside_56 (lv_at hl 0 rfl) ?_
        refine kPV (As := [.int ((x1 - x1 / mw * mw) + (-1 : Int32)), .int ((x1 / mw) + (1 : Int32))]) (rest := []) (ci := 4) S (ctX4_cellAt l g a ((x1 - x1 / mw * mw) + (-1 : Int32)) ((x1 / mw) + (1 : Int32)) mw mh mke mnx mdo mtr mma mto mah mrs mab ce mk mo mwa mmc mmf mhy myw myh myr mpi mme mde mwe mla (fX4_cellAt ((x1 - x1 / mw * mw) + (-1 : Int32)) ((x1 / mw) + (1 : Int32)) mw mh) rfl) (cwV 2 hts gX4_beside_X4_cellAt rfl rfl rfl (by decide +kernel) ⟨Nat.le_of_ble_eq_true rfl, Nat.le_of_ble_eq_true rfl⟩) hK hP [0, 1, 2, 3, 4, 5, 6, 7, 8, 9, 10, 11, 12, 13, 14, 15] rfl rfl rfl rfl rfl hl.1 rfl (Nat.le_of_ble_eq_true rfl) dX4_beside_58 ⟨Nat.zero_le _, Nat.zero_le _⟩ ?_
        obtain rfl := Option.some.inj h
        exact retPi hx hb hr hlocks dX4_beside_61
  ·
    replace h := gdp h c7
    refine lv_iconst (v := 1) hx hb dX4_beside_10 (by decide) ?_
    refine lv_goto (tgt := 24) hx hb dX4_beside_11 (by decide) ?_
    refine lv_iadd hx hb dX4_beside_24 ?_
    refine lv_istore_n (lv' := [(3, .int ((x1 - x1 / mw * mw) + (1 : Int32))), (0, .ref (a 0)), (1, .int x1), (2, .int x2)]) hx hb dX4_beside_25 rfl hl (by decide) rfl (fun ls hl => ?_)
    refine lv_iload_n hx hb dX4_beside_26 rfl (lv_at hl 2 rfl) ?_
    refine lv_aload_n hx hb dX4_beside_27 rfl (lv_at hl 1 rfl) ?_
    refine va_get (D := g.1) (ci := 4) (v := .int mw) (C := RX4) (T := TX4) (N := 26) hx hb hts iX4 hown hK.1 hP 0 rfl rfl 0 (by decide) f7 (fun _ h9 => h9) rfl dX4_beside_28 ?_
    obtain ⟨hz, h⟩ := gdz h
    refine lv_idiv hx hb dX4_beside_31 hz ?_
    refine lv_iload_n hx hb dX4_beside_32 rfl (lv_at hl 3 rfl) ?_
    refine lv_iconst (v := 2) hx hb dX4_beside_33 (by decide) ?_
    refine lv_icmp_ne (tgt := 41) hx hb dX4_beside_34 (by decide) (fun c34 => ?_) (fun c34 => ?_)
    ·
      replace h := gdn h c34
      refine lv_iload_n hx hb dX4_beside_41 rfl (lv_at hl 3 rfl) ?_
      refine lv_iconst (v := 3) hx hb dX4_beside_42 (by decide) ?_
      refine lv_icmp_ne (tgt := 50) hx hb dX4_beside_43 (by decide) (fun c43 => ?_) (fun c43 => ?_)
      ·
        replace h := gdn h c43
        refine lv_iconst (v := 0) hx hb dX4_beside_50 (by decide) ?_
        refine lv_iadd hx hb dX4_beside_51 ?_
        refine lv_istore (lv' := [(4, .int ((x1 / mw) + (0 : Int32))), (3, .int ((x1 - x1 / mw * mw) + (1 : Int32))), (0, .ref (a 0)), (1, .int x1), (2, .int x2)]) hx hb dX4_beside_52 hl (by decide) rfl (fun ls hl => ?_)
        refine lv_aload_n hx hb dX4_beside_54 rfl (lv_at hl 2 rfl) ?_
        refine lv_iload_n hx hb dX4_beside_55 rfl (lv_at hl 1 rfl) ?_
        refine lv_iload hx hb dX4_beside_56 (lv_at hl 0 rfl) ?_
        refine kPV (As := [.int ((x1 - x1 / mw * mw) + (1 : Int32)), .int ((x1 / mw) + (0 : Int32))]) (rest := []) (ci := 4) S (ctX4_cellAt l g a ((x1 - x1 / mw * mw) + (1 : Int32)) ((x1 / mw) + (0 : Int32)) mw mh mke mnx mdo mtr mma mto mah mrs mab ce mk mo mwa mmc mmf mhy myw myh myr mpi mme mde mwe mla (fX4_cellAt ((x1 - x1 / mw * mw) + (1 : Int32)) ((x1 / mw) + (0 : Int32)) mw mh) rfl) (cwV 2 hts gX4_beside_X4_cellAt rfl rfl rfl (by decide +kernel) ⟨Nat.le_of_ble_eq_true rfl, Nat.le_of_ble_eq_true rfl⟩) hK hP [0, 1, 2, 3, 4, 5, 6, 7, 8, 9, 10, 11, 12, 13, 14, 15] rfl rfl rfl rfl rfl hl.1 rfl (Nat.le_of_ble_eq_true rfl) dX4_beside_58 ⟨Nat.zero_le _, Nat.zero_le _⟩ ?_
        obtain rfl := Option.some.inj h
        exact retPi hx hb hr hlocks dX4_beside_61
      ·
        replace h := gdp h c43
        refine lv_iconst (v := -1) hx hb dX4_beside_46 (by decide) ?_
        refine lv_goto (tgt := 51) hx hb dX4_beside_47 (by decide) ?_
        refine lv_iadd hx hb dX4_beside_51 ?_
        refine lv_istore (lv' := [(4, .int ((x1 / mw) + (-1 : Int32))), (3, .int ((x1 - x1 / mw * mw) + (1 : Int32))), (0, .ref (a 0)), (1, .int x1), (2, .int x2)]) hx hb dX4_beside_52 hl (by decide) rfl (fun ls hl => ?_)
        refine lv_aload_n hx hb dX4_beside_54 rfl (lv_at hl 2 rfl) ?_
        refine lv_iload_n hx hb dX4_beside_55 rfl (lv_at hl 1 rfl) ?_
        refine lv_iload hx hb dX4_beside_56 (lv_at hl 0 rfl) ?_
        refine kPV (As := [.int ((x1 - x1 / mw * mw) + (1 : Int32)), .int ((x1 / mw) + (-1 : Int32))]) (rest := []) (ci := 4) S (ctX4_cellAt l g a ((x1 - x1 / mw * mw) + (1 : Int32)) ((x1 / mw) + (-1 : Int32)) mw mh mke mnx mdo mtr mma mto mah mrs mab ce mk mo mwa mmc mmf mhy myw myh myr mpi mme mde mwe mla (fX4_cellAt ((x1 - x1 / mw * mw) + (1 : Int32)) ((x1 / mw) + (-1 : Int32)) mw mh) rfl) (cwV 2 hts gX4_beside_X4_cellAt rfl rfl rfl (by decide +kernel) ⟨Nat.le_of_ble_eq_true rfl, Nat.le_of_ble_eq_true rfl⟩) hK hP [0, 1, 2, 3, 4, 5, 6, 7, 8, 9, 10, 11, 12, 13, 14, 15] rfl rfl rfl rfl rfl hl.1 rfl (Nat.le_of_ble_eq_true rfl) dX4_beside_58 ⟨Nat.zero_le _, Nat.zero_le _⟩ ?_
        obtain rfl := Option.some.inj h
        exact retPi hx hb hr hlocks dX4_beside_61
    ·
      replace h := gdp h c34
      refine lv_iconst (v := 1) hx hb dX4_beside_37 (by decide) ?_
      refine lv_goto (tgt := 51) hx hb dX4_beside_38 (by decide) ?_
      refine lv_iadd hx hb dX4_beside_51 ?_
      refine lv_istore (lv' := [(4, .int ((x1 / mw) + (1 : Int32))), (3, .int ((x1 - x1 / mw * mw) + (1 : Int32))), (0, .ref (a 0)), (1, .int x1), (2, .int x2)]) hx hb dX4_beside_52 hl (by decide) rfl (fun ls hl => ?_)
      refine lv_aload_n hx hb dX4_beside_54 rfl (lv_at hl 2 rfl) ?_
      refine lv_iload_n hx hb dX4_beside_55 rfl (lv_at hl 1 rfl) ?_
      refine lv_iload hx hb dX4_beside_56 (lv_at hl 0 rfl) ?_
      refine kPV (As := [.int ((x1 - x1 / mw * mw) + (1 : Int32)), .int ((x1 / mw) + (1 : Int32))]) (rest := []) (ci := 4) S (ctX4_cellAt l g a ((x1 - x1 / mw * mw) + (1 : Int32)) ((x1 / mw) + (1 : Int32)) mw mh mke mnx mdo mtr mma mto mah mrs mab ce mk mo mwa mmc mmf mhy myw myh myr mpi mme mde mwe mla (fX4_cellAt ((x1 - x1 / mw * mw) + (1 : Int32)) ((x1 / mw) + (1 : Int32)) mw mh) rfl) (cwV 2 hts gX4_beside_X4_cellAt rfl rfl rfl (by decide +kernel) ⟨Nat.le_of_ble_eq_true rfl, Nat.le_of_ble_eq_true rfl⟩) hK hP [0, 1, 2, 3, 4, 5, 6, 7, 8, 9, 10, 11, 12, 13, 14, 15] rfl rfl rfl rfl rfl hl.1 rfl (Nat.le_of_ble_eq_true rfl) dX4_beside_58 ⟨Nat.zero_le _, Nat.zero_le _⟩ ?_
      obtain rfl := Option.some.inj h
      exact retPi hx hb hr hlocks dX4_beside_61
-- LandBoardModel.board
set_option maxHeartbeats 4000000 in
set_option maxRecDepth 100000 in
theorem ctX4_board (l : Launch) (g : GG) (a : Nat → Nat) (x1 : Int32) (x2 : Int32) (mw : Int32) (mh : Int32) (mke : Int32) (mnx : Int32) (mdo : Int32) (mtr : Int64) (mma : Int32) (mto : Int32) (mah : Int32) (mrs : Int32) (mab : Int32) (ce : (Nat → Int32)) (mk : (Nat → Int32)) (mo : (Nat → Int32)) (mwa : (Nat → Int32)) (mmc : (Nat → Int32)) (mmf : (Nat → Int32)) (mhy : (Nat → Int32)) (myw : (Nat → Int32)) (myh : (Nat → Int32)) (myr : (Nat → Int32)) (mpi : (Nat → Int32)) (mme : (Nat → Int32)) (mde : (Nat → Int32)) (mwe : (Nat → Int32)) (mla : (Nat → Int32)) (res : Int32 × Int32 × Int32 × Int32 × (Nat → Int32) × (Nat → Int32) × (Nat → Int32)) (h : fX4_board x1 x2 mw mh mke ce mk mo = some res) : MM l yX4_board wsX4_board ({ frames := 2, cells := 0, slots := 0, locals := 42 }) g [.ref (a 0), .int x1, .int x2] (wM g a mw mh mke mnx mdo mtr mma mto mah mrs mab ce mk mo mwa mmc mmf mhy myw myh myr mpi mme mde mwe mla) (wM g a res.2.1 res.2.2.1 res.2.2.2.1 mnx mdo mtr mma mto mah mrs mab res.2.2.2.2.1 res.2.2.2.2.2.1 res.2.2.2.2.2.2 mwa mmc mmf mhy myw myh myr mpi mme mde mwe mla) (some (.int res.1)) := by
  refine MM.of (cc := cX4_board) (own := RX4) 3 (some .int) (by decide +kernel) rfl (Nat.le_of_ble_eq_true rfl) rfl ?_
  intro p e s m args below meth c hx hb hr hml hown hts hlocks hK A hA ls hl hP hD hS
  have S : CallFix p m c cX4_board 3 s args wsX4_board RX4 := ⟨hx, hb, hml, hown, hts⟩
  have hl : lv_has ls 3 [(0, .ref (a 0)), (1, .int x1), (2, .int x2)] := hl
  have f7 := hts (.fieldLink RX4 7 "LandBoardModel" "w" "I") (by decide +kernel)
  have iX4 := (by decide +kernel : ∀ w ∈ u_ws RX4 TX4 26, w ∈ wsX4_board)
  have f13 := hts (.fieldLink RX4 13 "LandBoardModel" "h" "I") (by decide +kernel)
  refine lv_iload_n hx hb dX4_board_0 rfl (lv_at hl 1 rfl) ?_
  refine lv_iconst (v := 1) hx hb dX4_board_1 (by decide) ?_
  refine lv_bipush (v := 8) hx hb dX4_board_2 (by decide) ?_
  refine kPS (As := [.int x1, .int (1 : Int32), .int (8 : Int32)]) (rest := []) S (ctX4_in l g x1 (1 : Int32) (8 : Int32)  (fX4_in x1 (1 : Int32) (8 : Int32)) rfl) (va_cwS 3 hts gX4_board_X4_in rfl rfl rfl (by decide +kernel) ⟨Nat.le_of_ble_eq_true rfl, Nat.le_of_ble_eq_true rfl⟩) hK rfl rfl hl.1 rfl (Nat.le_of_ble_eq_true rfl) dX4_board_4 ⟨Nat.zero_le _, Nat.zero_le _⟩ ?_
  refine lv_if_eq (tgt := 20) hx hb dX4_board_7 (by decide) (fun c7 => ?_) (fun c7 => ?_)
  ·
    replace h := gdp h c7
    refine lv_iconst (v := -1) hx hb dX4_board_20 (by decide) ?_
    obtain rfl := Option.some.inj h
    exact retMi (v := (-1 : Int32)) hx hb hr hlocks hP hD hS dX4_board_21
  ·
    replace h := gdn h c7
    refine lv_iload_n hx hb dX4_board_10 rfl (lv_at hl 2 rfl) ?_
    refine lv_iconst (v := 1) hx hb dX4_board_11 (by decide) ?_
    refine lv_bipush (v := 8) hx hb dX4_board_12 (by decide) ?_
    refine kPS (As := [.int x2, .int (1 : Int32), .int (8 : Int32)]) (rest := []) S (ctX4_in l g x2 (1 : Int32) (8 : Int32)  (fX4_in x2 (1 : Int32) (8 : Int32)) rfl) (va_cwS 3 hts gX4_board_X4_in rfl rfl rfl (by decide +kernel) ⟨Nat.le_of_ble_eq_true rfl, Nat.le_of_ble_eq_true rfl⟩) hK rfl rfl hl.1 rfl (Nat.le_of_ble_eq_true rfl) dX4_board_14 ⟨Nat.zero_le _, Nat.zero_le _⟩ ?_
    refine lv_if_ne (tgt := 22) hx hb dX4_board_17 (by decide) (fun c17 => ?_) (fun c17 => ?_)
    ·
      replace h := gdn h c17
      refine lv_aload_n hx hb dX4_board_22 rfl (lv_at hl 0 rfl) ?_
      refine lv_iload_n hx hb dX4_board_23 rfl (lv_at hl 1 rfl) ?_
      refine va_put (D := g.1) (ci := 4) (v := .int x1) (ty := .int) (C := RX4) (T := TX4) (N := 26) hx hb hts iX4 tyX4 tyX4_ok nmX4 hown hK.1 hP hD hS 0 rfl rfl 0 (by decide) f7 (fun _ h9 => h9) rfl (by decide +kernel) rfl rfl (Nat.le_of_ble_eq_true rfl) dX4_board_24 (fun H locs hP hD hS => ?_)
      have hP : va_P g.1 vwCl (wM g a x1 mh mke mnx mdo mtr mma mto mah mrs mab ce mk mo mwa mmc mmf mhy myw myh myr mpi mme mde mwe mla) H := hP
      have hD : va_D A (wM g a x1 mh mke mnx mdo mtr mma mto mah mrs mab ce mk mo mwa mmc mmf mhy myw myh myr mpi mme mde mwe mla) := hD
      refine lv_aload_n hx hb dX4_board_27 rfl (lv_at hl 0 rfl) ?_
      refine lv_iload_n hx hb dX4_board_28 rfl (lv_at hl 2 rfl) ?_
      refine va_put (D := g.1) (ci := 4) (v := .int x2) (ty := .int) (C := RX4) (T := TX4) (N := 26) hx hb hts iX4 tyX4 tyX4_ok nmX4 hown hK.1 hP hD hS 0 rfl rfl 1 (by decide) f13 (fun _ h9 => h9) rfl (by decide +kernel) rfl rfl (Nat.le_of_ble_eq_true rfl) dX4_board_29 (fun H locs hP hD hS => ?_)
      have hP : va_P g.1 vwCl (wM g a x1 x2 mke mnx mdo mtr mma mto mah mrs mab ce mk mo mwa mmc mmf mhy myw myh myr mpi mme mde mwe mla) H := hP
      have hD : va_D A (wM g a x1 x2 mke mnx mdo mtr mma mto mah mrs mab ce mk mo mwa mmc mmf mhy myw myh myr mpi mme mde mwe mla) := hD
      refine lv_aload_n hx hb dX4_board_32 rfl (lv_at hl 0 rfl) ?_
      obtain ⟨r33, hr33, h⟩ := gdb h
      refine kMV (As := []) (rest := []) (ci := 4) (W1 := (wM g a x1 x2 r33.1 mnx mdo mtr mma mto mah mrs mab r33.2.1 r33.2.2.1 r33.2.2.2 mwa mmc mmf mhy myw myh myr mpi mme mde mwe mla)) (wr := []) S (ctX4_clears l g a  x1 x2 mke mnx mdo mtr mma mto mah mrs mab ce mk mo mwa mmc mmf mhy myw myh myr mpi mme mde mwe mla r33 hr33) (cwV 0 hts gX4_board_X4_clears rfl rfl rfl (by decide +kernel) ⟨Nat.le_of_ble_eq_true rfl, Nat.le_of_ble_eq_true rfl⟩) hK hP hD hS hA [0, 1, 2, 3, 4, 5, 6, 7, 8, 9, 10, 11, 12, 13, 14, 15] [] [0, 1, 2, 3, 4, 5, 6, 7, 8, 9, 10, 11, 12, 13, 14, 15] rfl rfl rfl rfl (by decide) rfl rfl rfl rfl rfl rfl hl.1 rfl (Nat.le_of_ble_eq_true rfl) dX4_board_33 ⟨Nat.zero_le _, Nat.zero_le _⟩ (fun H locs hP hD hS => ?_)
      show W p l e ({ frames := 2, cells := 0, slots := 0, locals := 42 }) s m args below meth c H locs 0 0 (MQ below (QM g (some (.int res.1)) (wM g a res.2.1 res.2.2.1 res.2.2.2.1 mnx mdo mtr mma mto mah mrs mab res.2.2.2.2.1 res.2.2.2.2.2.1 res.2.2.2.2.2.2 mwa mmc mmf mhy myw myh myr mpi mme mde mwe mla) A) args s 0 0 A) (F0 m 36 ls [])
      refine lv_aload_n hx hb dX4_board_36 rfl (lv_at hl 0 rfl) ?_
      refine va_get (D := g.1) (ci := 4) (v := .int x1) (C := RX4) (T := TX4) (N := 26) hx hb hts iX4 hown hK.1 hP 0 rfl rfl 0 (by decide) f7 (fun _ h9 => h9) rfl dX4_board_37 ?_
      refine lv_aload_n hx hb dX4_board_40 rfl (lv_at hl 0 rfl) ?_
      refine va_get (D := g.1) (ci := 4) (v := .int x2) (C := RX4) (T := TX4) (N := 26) hx hb hts iX4 hown hK.1 hP 0 rfl rfl 1 (by decide) f13 (fun _ h9 => h9) rfl dX4_board_41 ?_
      refine lv_imul hx hb dX4_board_44 ?_
      obtain rfl := Option.some.inj h
      exact retMi hx hb hr hlocks hP hD hS dX4_board_45
    ·
      replace h := gdp h c17
      refine lv_iconst (v := -1) hx hb dX4_board_20 (by decide) ?_
      obtain rfl := Option.some.inj h
      exact retMi (v := (-1 : Int32)) hx hb hr hlocks hP hD hS dX4_board_21
-- LandBoardModel.set
set_option maxHeartbeats 4000000 in
set_option maxRecDepth 100000 in
theorem ctX4_set (l : Launch) (g : GG) (a : Nat → Nat) (x1 : Int32) (x2 : Int32) (x3 : Int32) (mw : Int32) (mh : Int32) (mke : Int32) (mnx : Int32) (mdo : Int32) (mtr : Int64) (mma : Int32) (mto : Int32) (mah : Int32) (mrs : Int32) (mab : Int32) (ce : (Nat → Int32)) (mk : (Nat → Int32)) (mo : (Nat → Int32)) (mwa : (Nat → Int32)) (mmc : (Nat → Int32)) (mmf : (Nat → Int32)) (mhy : (Nat → Int32)) (myw : (Nat → Int32)) (myh : (Nat → Int32)) (myr : (Nat → Int32)) (mpi : (Nat → Int32)) (mme : (Nat → Int32)) (mde : (Nat → Int32)) (mwe : (Nat → Int32)) (mla : (Nat → Int32)) (res : Int32 × Int32 × (Nat → Int32)) (h : fX4_set x1 x2 x3 mw mh mke ce = some res) : MM l yX4_set wsX4_set ({ frames := 3, cells := 0, slots := 0, locals := 66 }) g [.ref (a 0), .int x1, .int x2, .int x3] (wM g a mw mh mke mnx mdo mtr mma mto mah mrs mab ce mk mo mwa mmc mmf mhy myw myh myr mpi mme mde mwe mla) (wM g a mw mh res.2.1 mnx mdo mtr mma mto mah mrs mab res.2.2 mk mo mwa mmc mmf mhy myw myh myr mpi mme mde mwe mla) (some (.int res.1)) := by
  refine MM.of (cc := cX4_set) (own := RX4) 6 (some .int) (by decide +kernel) rfl (Nat.le_of_ble_eq_true rfl) rfl ?_
  intro p e s m args below meth c hx hb hr hml hown hts hlocks hK A hA ls hl hP hD hS
  have S : CallFix p m c cX4_set 6 s args wsX4_set RX4 := ⟨hx, hb, hml, hown, hts⟩
  have hl : lv_has ls 6 [(0, .ref (a 0)), (1, .int x1), (2, .int x2), (3, .int x3)] := hl
  have f16 := hts (.fieldLink RX4 16 "LandBoardModel" "cells" "[I") (by decide +kernel)
  have iX4 := (by decide +kernel : ∀ w ∈ u_ws RX4 TX4 26, w ∈ wsX4_set)
  have f69 := hts (.fieldLink RX4 69 "LandBoardModel" "kept" "I") (by decide +kernel)
  refine lv_aload_n hx hb dX4_set_0 rfl (lv_at hl 0 rfl) ?_
  refine lv_iload_n hx hb dX4_set_1 rfl (lv_at hl 1 rfl) ?_
  refine lv_iload_n hx hb dX4_set_2 rfl (lv_at hl 2 rfl) ?_
  refine kPV (As := [.int x1, .int x2]) (rest := []) (ci := 4) S (ctX4_cellAt l g a x1 x2 mw mh mke mnx mdo mtr mma mto mah mrs mab ce mk mo mwa mmc mmf mhy myw myh myr mpi mme mde mwe mla (fX4_cellAt x1 x2 mw mh) rfl) (cwV 2 hts gX4_set_X4_cellAt rfl rfl rfl (by decide +kernel) ⟨Nat.le_of_ble_eq_true rfl, Nat.le_of_ble_eq_true rfl⟩) hK hP [0, 1, 2, 3, 4, 5, 6, 7, 8, 9, 10, 11, 12, 13, 14, 15] rfl rfl rfl rfl rfl hl.1 rfl (Nat.le_of_ble_eq_true rfl) dX4_set_3 ⟨Nat.zero_le _, Nat.zero_le _⟩ ?_
  refine lv_istore (lv' := [(4, .int (fX4_cellAt x1 x2 mw mh)), (0, .ref (a 0)), (1, .int x1), (2, .int x2), (3, .int x3)]) hx hb dX4_set_6 hl (by decide) rfl (fun ls hl => ?_)
  refine lv_iload hx hb dX4_set_8 (lv_at hl 0 rfl) ?_
  refine lv_if_lt (tgt := 26) hx hb dX4_set_10 (by decide) (fun c10 => ?_) (fun c10 => ?_)
  ·
    replace h := gdp h c10
    refine lv_iconst (v := -1) hx hb dX4_set_26 (by decide) ?_
    obtain rfl := Option.some.inj h
    exact retMi (v := (-1 : Int32)) hx hb hr hlocks hP hD hS dX4_set_27
  ·
    replace h := gdn h c10
    refine lv_iload_n hx hb dX4_set_13 rfl (lv_at hl 4 rfl) ?_
    refine lv_bipush (v := -4) hx hb dX4_set_14 (by decide) ?_
    refine lv_icmp_eq (tgt := 28) hx hb dX4_set_16 (by decide) (fun c16 => ?_) (fun c16 => ?_)
    ·
      replace h := gdp h c16
      refine lv_aload_n hx hb dX4_set_28 rfl (lv_at hl 1 rfl) ?_
      refine va_get (D := g.1) (ci := 4) (v := .ref (a 1)) (C := RX4) (T := TX4) (N := 26) hx hb hts iX4 hown hK.1 hP 0 rfl rfl 2 (by decide) f16 (fun _ h9 => h9) rfl dX4_set_29 ?_
      refine lv_iload hx hb dX4_set_32 (lv_at hl 0 rfl) ?_
      obtain ⟨hi, h⟩ := gdi h
      refine va_iald (D := g.1) hx hb hK.1 hP 1 0 rfl rfl hi dX4_set_34 ?_
      obtain ⟨v35, ev35, h⟩ := gdl h
      refine topi ev35 ?_
      refine lv_istore (lv' := [(5, .int v35), (4, .int (fX4_cellAt x1 x2 mw mh)), (0, .ref (a 0)), (1, .int x1), (2, .int x2), (3, .int x3)]) hx hb dX4_set_35 hl (by decide) rfl (fun ls hl => ?_)
      refine lv_aload_n hx hb dX4_set_37 rfl (lv_at hl 2 rfl) ?_
      refine va_get (D := g.1) (ci := 4) (v := .ref (a 1)) (C := RX4) (T := TX4) (N := 26) hx hb hts iX4 hown hK.1 hP 0 rfl rfl 2 (by decide) f16 (fun _ h9 => h9) rfl dX4_set_38 ?_
      refine lv_iload hx hb dX4_set_41 (lv_at hl 1 rfl) ?_
      refine lv_iload_n hx hb dX4_set_43 rfl (lv_at hl 5 rfl) ?_
      obtain ⟨hi, h⟩ := gdi h
      refine va_iast (D := g.1) hx hb hK.1 hP hD hS 1 0 rfl rfl hi dX4_set_44 (fun H locs hP hD hS => ?_)
      have hP : va_P g.1 vwCl (wM g a mw mh mke mnx mdo mtr mma mto mah mrs mab (upd ce ((fX4_cellAt x1 x2 mw mh)).toNatClampNeg x3) mk mo mwa mmc mmf mhy myw myh myr mpi mme mde mwe mla) H := hP
      have hD : va_D A (wM g a mw mh mke mnx mdo mtr mma mto mah mrs mab (upd ce ((fX4_cellAt x1 x2 mw mh)).toNatClampNeg x3) mk mo mwa mmc mmf mhy myw myh myr mpi mme mde mwe mla) := hD
      refine lv_aload_n hx hb dX4_set_45 rfl (lv_at hl 2 rfl) ?_
      refine lv_iconst (v := 0) hx hb dX4_set_46 (by decide) ?_
      refine va_put (D := g.1) (ci := 4) (v := .int (0 : Int32)) (ty := .int) (C := RX4) (T := TX4) (N := 26) hx hb hts iX4 tyX4 tyX4_ok nmX4 hown hK.1 hP hD hS 0 rfl rfl 6 (by decide) f69 (fun _ h9 => h9) rfl (by decide +kernel) rfl rfl (Nat.le_of_ble_eq_true rfl) dX4_set_47 (fun H locs hP hD hS => ?_)
      have hP : va_P g.1 vwCl (wM g a mw mh (0 : Int32) mnx mdo mtr mma mto mah mrs mab (upd ce ((fX4_cellAt x1 x2 mw mh)).toNatClampNeg x3) mk mo mwa mmc mmf mhy myw myh myr mpi mme mde mwe mla) H := hP
      have hD : va_D A (wM g a mw mh (0 : Int32) mnx mdo mtr mma mto mah mrs mab (upd ce ((fX4_cellAt x1 x2 mw mh)).toNatClampNeg x3) mk mo mwa mmc mmf mhy myw myh myr mpi mme mde mwe mla) := hD
      refine lv_iload hx hb dX4_set_50 (lv_at hl 0 rfl) ?_
      obtain rfl := Option.some.inj h
      exact retMi hx hb hr hlocks hP hD hS dX4_set_52
    ·
      replace h := gdn h c16
      refine lv_iload_n hx hb dX4_set_19 rfl (lv_at hl 4 rfl) ?_
      refine kPS (As := [.int x3]) (rest := []) S (ctX4_isLand l g x3  (fX4_isLand x3) rfl) (va_cwS 1 hts gX4_set_X4_isLand rfl rfl rfl (by decide +kernel) ⟨Nat.le_of_ble_eq_true rfl, Nat.le_of_ble_eq_true rfl⟩) hK rfl rfl hl.1 rfl (Nat.le_of_ble_eq_true rfl) dX4_set_20 ⟨Nat.zero_le _, Nat.zero_le _⟩ ?_
      refine lv_if_ne (tgt := 28) hx hb dX4_set_23 (by decide) (fun c23 => ?_) (fun c23 => ?_)
      ·
        replace h := gdn h c23
        refine lv_aload_n hx hb dX4_set_28 rfl (lv_at hl 1 rfl) ?_
        refine va_get (D := g.1) (ci := 4) (v := .ref (a 1)) (C := RX4) (T := TX4) (N := 26) hx hb hts iX4 hown hK.1 hP 0 rfl rfl 2 (by decide) f16 (fun _ h9 => h9) rfl dX4_set_29 ?_
        refine lv_iload hx hb dX4_set_32 (lv_at hl 0 rfl) ?_
        obtain ⟨hi, h⟩ := gdi h
        refine va_iald (D := g.1) hx hb hK.1 hP 1 0 rfl rfl hi dX4_set_34 ?_
        obtain ⟨v35, ev35, h⟩ := gdl h
        refine topi ev35 ?_
        refine lv_istore (lv' := [(5, .int v35), (4, .int (fX4_cellAt x1 x2 mw mh)), (0, .ref (a 0)), (1, .int x1), (2, .int x2), (3, .int x3)]) hx hb dX4_set_35 hl (by decide) rfl (fun ls hl => ?_)
        refine lv_aload_n hx hb dX4_set_37 rfl (lv_at hl 2 rfl) ?_
        refine va_get (D := g.1) (ci := 4) (v := .ref (a 1)) (C := RX4) (T := TX4) (N := 26) hx hb hts iX4 hown hK.1 hP 0 rfl rfl 2 (by decide) f16 (fun _ h9 => h9) rfl dX4_set_38 ?_
        refine lv_iload hx hb dX4_set_41 (lv_at hl 1 rfl) ?_
        refine lv_iload_n hx hb dX4_set_43 rfl (lv_at hl 5 rfl) ?_
        obtain ⟨hi, h⟩ := gdi h
        refine va_iast (D := g.1) hx hb hK.1 hP hD hS 1 0 rfl rfl hi dX4_set_44 (fun H locs hP hD hS => ?_)
        have hP : va_P g.1 vwCl (wM g a mw mh mke mnx mdo mtr mma mto mah mrs mab (upd ce ((fX4_cellAt x1 x2 mw mh)).toNatClampNeg x3) mk mo mwa mmc mmf mhy myw myh myr mpi mme mde mwe mla) H := hP
        have hD : va_D A (wM g a mw mh mke mnx mdo mtr mma mto mah mrs mab (upd ce ((fX4_cellAt x1 x2 mw mh)).toNatClampNeg x3) mk mo mwa mmc mmf mhy myw myh myr mpi mme mde mwe mla) := hD
        refine lv_aload_n hx hb dX4_set_45 rfl (lv_at hl 2 rfl) ?_
        refine lv_iconst (v := 0) hx hb dX4_set_46 (by decide) ?_
        refine va_put (D := g.1) (ci := 4) (v := .int (0 : Int32)) (ty := .int) (C := RX4) (T := TX4) (N := 26) hx hb hts iX4 tyX4 tyX4_ok nmX4 hown hK.1 hP hD hS 0 rfl rfl 6 (by decide) f69 (fun _ h9 => h9) rfl (by decide +kernel) rfl rfl (Nat.le_of_ble_eq_true rfl) dX4_set_47 (fun H locs hP hD hS => ?_)
        have hP : va_P g.1 vwCl (wM g a mw mh (0 : Int32) mnx mdo mtr mma mto mah mrs mab (upd ce ((fX4_cellAt x1 x2 mw mh)).toNatClampNeg x3) mk mo mwa mmc mmf mhy myw myh myr mpi mme mde mwe mla) H := hP
        have hD : va_D A (wM g a mw mh (0 : Int32) mnx mdo mtr mma mto mah mrs mab (upd ce ((fX4_cellAt x1 x2 mw mh)).toNatClampNeg x3) mk mo mwa mmc mmf mhy myw myh myr mpi mme mde mwe mla) := hD
        refine lv_iload hx hb dX4_set_50 (lv_at hl 0 rfl) ?_
        obtain rfl := Option.some.inj h
        exact retMi hx hb hr hlocks hP hD hS dX4_set_52
      ·
        replace h := gdp h c23
        refine lv_iconst (v := -1) hx hb dX4_set_26 (by decide) ?_
        obtain rfl := Option.some.inj h
        exact retMi (v := (-1 : Int32)) hx hb hr hlocks hP hD hS dX4_set_27
-- LandBoardModel.at
set_option maxHeartbeats 4000000 in
set_option maxRecDepth 100000 in
theorem ctX4_at (l : Launch) (g : GG) (a : Nat → Nat) (x1 : Int32) (x2 : Int32) (mw : Int32) (mh : Int32) (mke : Int32) (mnx : Int32) (mdo : Int32) (mtr : Int64) (mma : Int32) (mto : Int32) (mah : Int32) (mrs : Int32) (mab : Int32) (ce : (Nat → Int32)) (mk : (Nat → Int32)) (mo : (Nat → Int32)) (mwa : (Nat → Int32)) (mmc : (Nat → Int32)) (mmf : (Nat → Int32)) (mhy : (Nat → Int32)) (myw : (Nat → Int32)) (myh : (Nat → Int32)) (myr : (Nat → Int32)) (mpi : (Nat → Int32)) (mme : (Nat → Int32)) (mde : (Nat → Int32)) (mwe : (Nat → Int32)) (mla : (Nat → Int32)) (res : Int32) (h : fX4_at x1 x2 mw mh ce = some res) : MP l yX4_at wsX4_at ({ frames := 3, cells := 0, slots := 0, locals := 66 }) g [.ref (a 0), .int x1, .int x2] (wM g a mw mh mke mnx mdo mtr mma mto mah mrs mab ce mk mo mwa mmc mmf mhy myw myh myr mpi mme mde mwe mla) (.int res) := by
  refine MP.of (cc := cX4_at) (own := RX4) 4 (some .int) (by decide +kernel) rfl (Nat.le_of_ble_eq_true rfl) rfl ?_
  intro p e s m args below meth c hx hb hr hml hown hts hlocks hP hK ls hl
  have S : CallFix p m c cX4_at 4 s args wsX4_at RX4 := ⟨hx, hb, hml, hown, hts⟩
  have hl : lv_has ls 4 [(0, .ref (a 0)), (1, .int x1), (2, .int x2)] := hl
  have f16 := hts (.fieldLink RX4 16 "LandBoardModel" "cells" "[I") (by decide +kernel)
  have iX4 := (by decide +kernel : ∀ w ∈ u_ws RX4 TX4 26, w ∈ wsX4_at)
  refine lv_aload_n hx hb dX4_at_0 rfl (lv_at hl 0 rfl) ?_
  refine lv_iload_n hx hb dX4_at_1 rfl (lv_at hl 1 rfl) ?_
  refine lv_iload_n hx hb dX4_at_2 rfl (lv_at hl 2 rfl) ?_
  refine kPV (As := [.int x1, .int x2]) (rest := []) (ci := 4) S (ctX4_cellAt l g a x1 x2 mw mh mke mnx mdo mtr mma mto mah mrs mab ce mk mo mwa mmc mmf mhy myw myh myr mpi mme mde mwe mla (fX4_cellAt x1 x2 mw mh) rfl) (cwV 2 hts gX4_at_X4_cellAt rfl rfl rfl (by decide +kernel) ⟨Nat.le_of_ble_eq_true rfl, Nat.le_of_ble_eq_true rfl⟩) hK hP [0, 1, 2, 3, 4, 5, 6, 7, 8, 9, 10, 11, 12, 13, 14, 15] rfl rfl rfl rfl rfl hl.1 rfl (Nat.le_of_ble_eq_true rfl) dX4_at_3 ⟨Nat.zero_le _, Nat.zero_le _⟩ ?_
  refine lv_istore_n (lv' := [(3, .int (fX4_cellAt x1 x2 mw mh)), (0, .ref (a 0)), (1, .int x1), (2, .int x2)]) hx hb dX4_at_6 rfl hl (by decide) rfl (fun ls hl => ?_)
  refine lv_iload_n hx hb dX4_at_7 rfl (lv_at hl 0 rfl) ?_
  refine lv_if_ge (tgt := 15) hx hb dX4_at_8 (by decide) (fun c8 => ?_) (fun c8 => ?_)
  ·
    replace h := gdp h c8
    refine lv_aload_n hx hb dX4_at_15 rfl (lv_at hl 1 rfl) ?_
    refine va_get (D := g.1) (ci := 4) (v := .ref (a 1)) (C := RX4) (T := TX4) (N := 26) hx hb hts iX4 hown hK.1 hP 0 rfl rfl 2 (by decide) f16 (fun _ h9 => h9) rfl dX4_at_16 ?_
    refine lv_iload_n hx hb dX4_at_19 rfl (lv_at hl 0 rfl) ?_
    obtain ⟨hi, h⟩ := gdi h
    refine va_iald (D := g.1) hx hb hK.1 hP 1 0 rfl rfl hi dX4_at_20 ?_
    obtain rfl := Option.some.inj h
    exact retPi hx hb hr hlocks dX4_at_21
  ·
    replace h := gdn h c8
    refine lv_iconst (v := -1) hx hb dX4_at_11 (by decide) ?_
    refine lv_goto (tgt := 21) hx hb dX4_at_12 (by decide) ?_
    obtain rfl := Option.some.inj h
    exact retPi (v := (-1 : Int32)) hx hb hr hlocks dX4_at_21
-- LandBoardModel.sizeOf
set_option maxHeartbeats 4000000 in
set_option maxRecDepth 100000 in
theorem ctX4_sizeOf (l : Launch) (g : GG) (a : Nat → Nat) (x1 : Int32) (mw : Int32) (mh : Int32) (mke : Int32) (mnx : Int32) (mdo : Int32) (mtr : Int64) (mma : Int32) (mto : Int32) (mah : Int32) (mrs : Int32) (mab : Int32) (ce : (Nat → Int32)) (mk : (Nat → Int32)) (mo : (Nat → Int32)) (mwa : (Nat → Int32)) (mmc : (Nat → Int32)) (mmf : (Nat → Int32)) (mhy : (Nat → Int32)) (myw : (Nat → Int32)) (myh : (Nat → Int32)) (myr : (Nat → Int32)) (mpi : (Nat → Int32)) (mme : (Nat → Int32)) (mde : (Nat → Int32)) (mwe : (Nat → Int32)) (mla : (Nat → Int32)) (res : Int32) (h : fX4_sizeOf x1 mw mh ce = some res) : MP l yX4_sizeOf wsX4_sizeOf ({ frames := 0, cells := 0, slots := 0, locals := 0 }) g [.ref (a 0), .int x1] (wM g a mw mh mke mnx mdo mtr mma mto mah mrs mab ce mk mo mwa mmc mmf mhy myw myh myr mpi mme mde mwe mla) (.int res) := by
  refine MP.of (cc := cX4_sizeOf) (own := RX4) 4 (some .int) (by decide +kernel) rfl (Nat.le_of_ble_eq_true rfl) rfl ?_
  intro p e s m args below meth c hx hb hr hml hown hts hlocks hP hK ls hl
  have S : CallFix p m c cX4_sizeOf 4 s args wsX4_sizeOf RX4 := ⟨hx, hb, hml, hown, hts⟩
  have hl : lv_has ls 4 [(0, .ref (a 0)), (1, .int x1)] := hl
  have f7 := hts (.fieldLink RX4 7 "LandBoardModel" "w" "I") (by decide +kernel)
  have iX4 := (by decide +kernel : ∀ w ∈ u_ws RX4 TX4 26, w ∈ wsX4_sizeOf)
  have f13 := hts (.fieldLink RX4 13 "LandBoardModel" "h" "I") (by decide +kernel)
  have f16 := hts (.fieldLink RX4 16 "LandBoardModel" "cells" "[I") (by decide +kernel)
  refine lv_iconst (v := 0) hx hb dX4_sizeOf_0 (by decide) ?_
  refine lv_istore_n (lv' := [(2, .int (0 : Int32)), (0, .ref (a 0)), (1, .int x1)]) hx hb dX4_sizeOf_1 rfl hl (by decide) rfl (fun ls hl => ?_)
  refine lv_iconst (v := 0) hx hb dX4_sizeOf_2 (by decide) ?_
  refine lv_istore_n (lv' := [(3, .int (0 : Int32)), (2, .int (0 : Int32)), (0, .ref (a 0)), (1, .int x1)]) hx hb dX4_sizeOf_3 rfl hl (by decide) rfl (fun ls hl => ?_)
  obtain ⟨t4, hw4, h⟩ := gdb h
  have X4 : ∀ ls : Array Slot, lv_has ls 4 [(2, .int t4)] → W p l e ({ frames := 0, cells := 0, slots := 0, locals := 0 }) s m args below meth c s.heap [] 0 0 (MQ below (k2_QcV (.int res)) args s 0 0 (fun _ => False)) (F0 m 41 ls []) := by
    intro ls hl
    refine lv_iload_n hx hb dX4_sizeOf_41 rfl (lv_at hl 0 rfl) ?_
    obtain rfl := Option.some.inj h
    exact retPi hx hb hr hlocks dX4_sizeOf_42
  clear h
  have L4 : ∀ (n : Nat) (s4 : Int32 × Int32), wh (fX4_sizeOf_4 x1 mw mh ce) n s4 = some t4 → ∀ ls : Array Slot, lv_has ls 4 [(0, .ref (a 0)), (1, .int x1), (2, .int s4.1), (3, .int s4.2)] → W p l e ({ frames := 0, cells := 0, slots := 0, locals := 0 }) s m args below meth c s.heap [] 0 0 (MQ below (k2_QcV (.int res)) args s 0 0 (fun _ => False)) (F0 m 4 ls []) := by
    intro n
    induction n with
    | zero => intro s4 hw; exact (wh_0 hw).elim
    | succ n ih4 =>
      intro s4 hw ls hl
      obtain ⟨r0, h, hr4⟩ := wh_s hw
      refine lv_iload_n hx hb dX4_sizeOf_4 rfl (lv_at hl 3 rfl) ?_
      refine lv_aload_n hx hb dX4_sizeOf_5 rfl (lv_at hl 0 rfl) ?_
      refine va_get (D := g.1) (ci := 4) (v := .int mw) (C := RX4) (T := TX4) (N := 26) hx hb hts iX4 hown hK.1 hP 0 rfl rfl 0 (by decide) f7 (fun _ h9 => h9) rfl dX4_sizeOf_6 ?_
      refine lv_aload_n hx hb dX4_sizeOf_9 rfl (lv_at hl 0 rfl) ?_
      refine va_get (D := g.1) (ci := 4) (v := .int mh) (C := RX4) (T := TX4) (N := 26) hx hb hts iX4 hown hK.1 hP 0 rfl rfl 1 (by decide) f13 (fun _ h9 => h9) rfl dX4_sizeOf_10 ?_
      refine lv_imul hx hb dX4_sizeOf_13 ?_
      refine lv_icmp_ge (tgt := 41) hx hb dX4_sizeOf_14 (by decide) (fun c14 => ?_) (fun c14 => ?_)
      ·
        replace h := gdp h c14
        obtain rfl := Option.some.inj h
        have e0 : s4.1 = t4 := hr4
        subst e0
        exact X4 _ (lv_sub hl [2] rfl)
      ·
        replace h := gdn h c14
        refine lv_iload_n hx hb dX4_sizeOf_17 rfl (lv_at hl 2 rfl) ?_
        refine lv_aload_n hx hb dX4_sizeOf_18 rfl (lv_at hl 0 rfl) ?_
        refine va_get (D := g.1) (ci := 4) (v := .ref (a 1)) (C := RX4) (T := TX4) (N := 26) hx hb hts iX4 hown hK.1 hP 0 rfl rfl 2 (by decide) f16 (fun _ h9 => h9) rfl dX4_sizeOf_19 ?_
        refine lv_iload_n hx hb dX4_sizeOf_22 rfl (lv_at hl 3 rfl) ?_
        obtain ⟨hi, h⟩ := gdi h
        refine va_iald (D := g.1) hx hb hK.1 hP 1 0 rfl rfl hi dX4_sizeOf_23 ?_
        refine lv_iload_n hx hb dX4_sizeOf_24 rfl (lv_at hl 1 rfl) ?_
        refine lv_icmp_ne (tgt := 32) hx hb dX4_sizeOf_25 (by decide) (fun c25 => ?_) (fun c25 => ?_)
        ·
          replace h := gdn h c25
          refine lv_iconst (v := 0) hx hb dX4_sizeOf_32 (by decide) ?_
          refine lv_iadd hx hb dX4_sizeOf_33 ?_
          refine lv_istore_n (lv' := [(2, .int (s4.1 + (0 : Int32))), (0, .ref (a 0)), (1, .int x1), (3, .int s4.2)]) hx hb dX4_sizeOf_34 rfl hl (by decide) rfl (fun ls hl => ?_)
          refine lv_iinc (v := (s4.2 + 1)) (lv' := [(3, .int (s4.2 + 1)), (2, .int (s4.1 + (0 : Int32))), (0, .ref (a 0)), (1, .int x1)]) hx hb dX4_sizeOf_35 hl (k := 3) rfl rfl (by decide) rfl (fun ls hl => ?_)
          refine lv_goto (tgt := 4) hx hb dX4_sizeOf_38 (by decide) ?_
          obtain rfl := Option.some.inj h
          exact ih4 ((s4.1 + (0 : Int32)), (s4.2 + 1)) hr4 _ (lv_sub hl [2, 3, 1, 0] rfl)
        ·
          replace h := gdp h c25
          refine lv_iconst (v := 1) hx hb dX4_sizeOf_28 (by decide) ?_
          refine lv_goto (tgt := 33) hx hb dX4_sizeOf_29 (by decide) ?_
          refine lv_iadd hx hb dX4_sizeOf_33 ?_
          refine lv_istore_n (lv' := [(2, .int (s4.1 + (1 : Int32))), (0, .ref (a 0)), (1, .int x1), (3, .int s4.2)]) hx hb dX4_sizeOf_34 rfl hl (by decide) rfl (fun ls hl => ?_)
          refine lv_iinc (v := (s4.2 + 1)) (lv' := [(3, .int (s4.2 + 1)), (2, .int (s4.1 + (1 : Int32))), (0, .ref (a 0)), (1, .int x1)]) hx hb dX4_sizeOf_35 hl (k := 3) rfl rfl (by decide) rfl (fun ls hl => ?_)
          refine lv_goto (tgt := 4) hx hb dX4_sizeOf_38 (by decide) ?_
          obtain rfl := Option.some.inj h
          exact ih4 ((s4.1 + (1 : Int32)), (s4.2 + 1)) hr4 _ (lv_sub hl [2, 3, 1, 0] rfl)
  exact L4 _ ((0 : Int32), (0 : Int32)) hw4 _ (lv_sub hl [2, 3, 1, 0] rfl)
-- LandBoardModel.size
set_option maxHeartbeats 4000000 in
set_option maxRecDepth 100000 in
theorem ctX4_size (l : Launch) (g : GG) (a : Nat → Nat) (x1 : Int32) (mw : Int32) (mh : Int32) (mke : Int32) (mnx : Int32) (mdo : Int32) (mtr : Int64) (mma : Int32) (mto : Int32) (mah : Int32) (mrs : Int32) (mab : Int32) (ce : (Nat → Int32)) (mk : (Nat → Int32)) (mo : (Nat → Int32)) (mwa : (Nat → Int32)) (mmc : (Nat → Int32)) (mmf : (Nat → Int32)) (mhy : (Nat → Int32)) (myw : (Nat → Int32)) (myh : (Nat → Int32)) (myr : (Nat → Int32)) (mpi : (Nat → Int32)) (mme : (Nat → Int32)) (mde : (Nat → Int32)) (mwe : (Nat → Int32)) (mla : (Nat → Int32)) (res : Int32) (h : fX4_size x1 mw mh ce = some res) : MP l yX4_size wsX4_size ({ frames := 2, cells := 0, slots := 0, locals := 42 }) g [.ref (a 0), .int x1] (wM g a mw mh mke mnx mdo mtr mma mto mah mrs mab ce mk mo mwa mmc mmf mhy myw myh myr mpi mme mde mwe mla) (.int res) := by
  refine MP.of (cc := cX4_size) (own := RX4) 2 (some .int) (by decide +kernel) rfl (Nat.le_of_ble_eq_true rfl) rfl ?_
  intro p e s m args below meth c hx hb hr hml hown hts hlocks hP hK ls hl
  have S : CallFix p m c cX4_size 2 s args wsX4_size RX4 := ⟨hx, hb, hml, hown, hts⟩
  have hl : lv_has ls 2 [(0, .ref (a 0)), (1, .int x1)] := hl
  refine lv_iload_n hx hb dX4_size_0 rfl (lv_at hl 1 rfl) ?_
  refine kPS (As := [.int x1]) (rest := []) S (ctX4_isLand l g x1  (fX4_isLand x1) rfl) (va_cwS 1 hts gX4_size_X4_isLand rfl rfl rfl (by decide +kernel) ⟨Nat.le_of_ble_eq_true rfl, Nat.le_of_ble_eq_true rfl⟩) hK rfl rfl hl.1 rfl (Nat.le_of_ble_eq_true rfl) dX4_size_1 ⟨Nat.zero_le _, Nat.zero_le _⟩ ?_
  refine lv_if_eq (tgt := 15) hx hb dX4_size_4 (by decide) (fun c4 => ?_) (fun c4 => ?_)
  ·
    replace h := gdp h c4
    refine lv_iconst (v := -1) hx hb dX4_size_15 (by decide) ?_
    obtain rfl := Option.some.inj h
    exact retPi (v := (-1 : Int32)) hx hb hr hlocks dX4_size_16
  ·
    replace h := gdn h c4
    refine lv_aload_n hx hb dX4_size_7 rfl (lv_at hl 0 rfl) ?_
    refine lv_iload_n hx hb dX4_size_8 rfl (lv_at hl 1 rfl) ?_
    obtain ⟨r9, hr9, h⟩ := gdb h
    refine kPV (As := [.int x1]) (rest := []) (ci := 4) S (ctX4_sizeOf l g a x1 mw mh mke mnx mdo mtr mma mto mah mrs mab ce mk mo mwa mmc mmf mhy myw myh myr mpi mme mde mwe mla r9 hr9) (cwV 1 hts gX4_size_X4_sizeOf rfl rfl rfl (by decide +kernel) ⟨Nat.le_of_ble_eq_true rfl, Nat.le_of_ble_eq_true rfl⟩) hK hP [0, 1, 2, 3, 4, 5, 6, 7, 8, 9, 10, 11, 12, 13, 14, 15] rfl rfl rfl rfl rfl hl.1 rfl (Nat.le_of_ble_eq_true rfl) dX4_size_9 ⟨Nat.zero_le _, Nat.zero_le _⟩ ?_
    refine lv_goto (tgt := 16) hx hb dX4_size_12 (by decide) ?_
    obtain rfl := Option.some.inj h
    exact retPi hx hb hr hlocks dX4_size_16
-- LandBoardModel.isWhole
set_option maxHeartbeats 4000000 in
set_option maxRecDepth 100000 in
theorem ctX4_isWhole (l : Launch) (g : GG) (a : Nat → Nat) (x1 : Int32) (mw : Int32) (mh : Int32) (mke : Int32) (mnx : Int32) (mdo : Int32) (mtr : Int64) (mma : Int32) (mto : Int32) (mah : Int32) (mrs : Int32) (mab : Int32) (ce : (Nat → Int32)) (mk : (Nat → Int32)) (mo : (Nat → Int32)) (mwa : (Nat → Int32)) (mmc : (Nat → Int32)) (mmf : (Nat → Int32)) (mhy : (Nat → Int32)) (myw : (Nat → Int32)) (myh : (Nat → Int32)) (myr : (Nat → Int32)) (mpi : (Nat → Int32)) (mme : (Nat → Int32)) (mde : (Nat → Int32)) (mwe : (Nat → Int32)) (mla : (Nat → Int32)) (res : Int32 × (Nat → Int32) × (Nat → Int32)) (h : fX4_isWhole x1 mw mh ce mpi mme = some res) : MM l yX4_isWhole wsX4_isWhole ({ frames := 4, cells := 0, slots := 0, locals := 90 }) g [.ref (a 0), .int x1] (wM g a mw mh mke mnx mdo mtr mma mto mah mrs mab ce mk mo mwa mmc mmf mhy myw myh myr mpi mme mde mwe mla) (wM g a mw mh mke mnx mdo mtr mma mto mah mrs mab ce mk mo mwa mmc mmf mhy myw myh myr res.2.1 res.2.2 mde mwe mla) (some (.int res.1)) := by
  refine MM.of (cc := cX4_isWhole) (own := RX4) 8 (some .boolean) (by decide +kernel) rfl (Nat.le_of_ble_eq_true rfl) rfl ?_
  intro p e s m args below meth c hx hb hr hml hown hts hlocks hK A hA ls hl hP hD hS
  have S : CallFix p m c cX4_isWhole 8 s args wsX4_isWhole RX4 := ⟨hx, hb, hml, hown, hts⟩
  have hl : lv_has ls 8 [(0, .ref (a 0)), (1, .int x1)] := hl
  have f7 := hts (.fieldLink RX4 7 "LandBoardModel" "w" "I") (by decide +kernel)
  have iX4 := (by decide +kernel : ∀ w ∈ u_ws RX4 TX4 26, w ∈ wsX4_isWhole)
  have f13 := hts (.fieldLink RX4 13 "LandBoardModel" "h" "I") (by decide +kernel)
  have f51 := hts (.fieldLink RX4 51 "LandBoardModel" "isMet" "[Z") (by decide +kernel)
  have f48 := hts (.fieldLink RX4 48 "LandBoardModel" "pile" "[I") (by decide +kernel)
  have f16 := hts (.fieldLink RX4 16 "LandBoardModel" "cells" "[I") (by decide +kernel)
  refine lv_iconst (v := 0) hx hb dX4_isWhole_0 (by decide) ?_
  refine lv_istore_n (lv' := [(2, .int (0 : Int32)), (0, .ref (a 0)), (1, .int x1)]) hx hb dX4_isWhole_1 rfl hl (by decide) rfl (fun ls hl => ?_)
  obtain ⟨t2, hw2, h⟩ := gdb h
  have X2 : ∀ (H : Heap) (locs : List Loc) (ls : Array Slot), va_P g.1 vwCl (wM g a mw mh mke mnx mdo mtr mma mto mah mrs mab ce mk mo mwa mmc mmf mhy myw myh myr mpi mme mde mwe mla) H → va_D A (wM g a mw mh mke mnx mdo mtr mma mto mah mrs mab ce mk mo mwa mmc mmf mhy myw myh myr mpi mme mde mwe mla) → va_S A s.heap H locs → lv_has ls 8 [(0, .ref (a 0)), (1, .int x1), (2, .int t2)] → W p l e ({ frames := 4, cells := 0, slots := 0, locals := 90 }) s m args below meth c H locs 0 0 (MQ below (QM g (some (.int res.1)) (wM g a mw mh mke mnx mdo mtr mma mto mah mrs mab ce mk mo mwa mmc mmf mhy myw myh myr res.2.1 res.2.2 mde mwe mla) A) args s 0 0 A) (F0 m 31 ls []) := by
    intro H locs ls hP hD hS hl
    refine lv_iload_n hx hb dX4_isWhole_31 rfl (lv_at hl 2 rfl) ?_
    refine lv_aload_n hx hb dX4_isWhole_32 rfl (lv_at hl 0 rfl) ?_
    refine va_get (D := g.1) (ci := 4) (v := .int mw) (C := RX4) (T := TX4) (N := 26) hx hb hts iX4 hown hK.1 hP 0 rfl rfl 0 (by decide) f7 (fun _ h9 => h9) rfl dX4_isWhole_33 ?_
    refine lv_aload_n hx hb dX4_isWhole_36 rfl (lv_at hl 0 rfl) ?_
    refine va_get (D := g.1) (ci := 4) (v := .int mh) (C := RX4) (T := TX4) (N := 26) hx hb hts iX4 hown hK.1 hP 0 rfl rfl 1 (by decide) f13 (fun _ h9 => h9) rfl dX4_isWhole_37 ?_
    refine lv_imul hx hb dX4_isWhole_40 ?_
    refine lv_icmp_ne (tgt := 46) hx hb dX4_isWhole_41 (by decide) (fun c41 => ?_) (fun c41 => ?_)
    ·
      replace h := gdn h c41
      refine lv_iconst (v := 0) hx hb dX4_isWhole_46 (by decide) ?_
      refine lv_istore_n (lv' := [(3, .int (0 : Int32)), (0, .ref (a 0)), (1, .int x1), (2, .int t2)]) hx hb dX4_isWhole_47 rfl hl (by decide) rfl (fun ls hl => ?_)
      obtain ⟨t48, hw48, h⟩ := gdb h
      have X48 : ∀ (H : Heap) (locs : List Loc) (ls : Array Slot), va_P g.1 vwCl (wM g a mw mh mke mnx mdo mtr mma mto mah mrs mab ce mk mo mwa mmc mmf mhy myw myh myr mpi t48 mde mwe mla) H → va_D A (wM g a mw mh mke mnx mdo mtr mma mto mah mrs mab ce mk mo mwa mmc mmf mhy myw myh myr mpi t48 mde mwe mla) → va_S A s.heap H locs → lv_has ls 8 [(0, .ref (a 0)), (1, .int x1), (2, .int t2)] → W p l e ({ frames := 4, cells := 0, slots := 0, locals := 90 }) s m args below meth c H locs 0 0 (MQ below (QM g (some (.int res.1)) (wM g a mw mh mke mnx mdo mtr mma mto mah mrs mab ce mk mo mwa mmc mmf mhy myw myh myr res.2.1 res.2.2 mde mwe mla) A) args s 0 0 A) (F0 m 67 ls []) := by
        intro H locs ls hP hD hS hl
        refine lv_aload_n hx hb dX4_isWhole_67 rfl (lv_at hl 0 rfl) ?_
        refine va_get (D := g.1) (ci := 4) (v := .ref (a 12)) (C := RX4) (T := TX4) (N := 26) hx hb hts iX4 hown hK.1 hP 0 rfl rfl 17 (by decide) f51 (fun _ h9 => h9) rfl dX4_isWhole_68 ?_
        refine lv_iload_n hx hb dX4_isWhole_71 rfl (lv_at hl 2 rfl) ?_
        refine lv_iconst (v := 1) hx hb dX4_isWhole_72 (by decide) ?_
        obtain ⟨hi, h⟩ := gdi h
        refine va_zast (D := g.1) hx hb hK.1 hP hD hS 12 2 rfl rfl hi dX4_isWhole_73 (fun H locs hP hD hS => ?_)
        have hP : va_P g.1 vwCl (wM g a mw mh mke mnx mdo mtr mma mto mah mrs mab ce mk mo mwa mmc mmf mhy myw myh myr mpi (upd t48 (t2).toNatClampNeg (1 : Int32)) mde mwe mla) H := hP
        have hD : va_D A (wM g a mw mh mke mnx mdo mtr mma mto mah mrs mab ce mk mo mwa mmc mmf mhy myw myh myr mpi (upd t48 (t2).toNatClampNeg (1 : Int32)) mde mwe mla) := hD
        refine lv_aload_n hx hb dX4_isWhole_74 rfl (lv_at hl 0 rfl) ?_
        refine va_get (D := g.1) (ci := 4) (v := .ref (a 11)) (C := RX4) (T := TX4) (N := 26) hx hb hts iX4 hown hK.1 hP 0 rfl rfl 16 (by decide) f48 (fun _ h9 => h9) rfl dX4_isWhole_75 ?_
        refine lv_iconst (v := 0) hx hb dX4_isWhole_78 (by decide) ?_
        refine lv_iload_n hx hb dX4_isWhole_79 rfl (lv_at hl 2 rfl) ?_
        refine va_iast (D := g.1) hx hb hK.1 hP hD hS 11 0 rfl rfl (ix_in.mp (by decide +kernel)) dX4_isWhole_80 (fun H locs hP hD hS => ?_)
        have hP : va_P g.1 vwCl (wM g a mw mh mke mnx mdo mtr mma mto mah mrs mab ce mk mo mwa mmc mmf mhy myw myh myr (upd mpi ((0 : Int32)).toNatClampNeg t2) (upd t48 (t2).toNatClampNeg (1 : Int32)) mde mwe mla) H := hP
        have hD : va_D A (wM g a mw mh mke mnx mdo mtr mma mto mah mrs mab ce mk mo mwa mmc mmf mhy myw myh myr (upd mpi ((0 : Int32)).toNatClampNeg t2) (upd t48 (t2).toNatClampNeg (1 : Int32)) mde mwe mla) := hD
        refine lv_iconst (v := 1) hx hb dX4_isWhole_81 (by decide) ?_
        refine lv_istore_n (lv' := [(3, .int (1 : Int32)), (0, .ref (a 0)), (1, .int x1), (2, .int t2)]) hx hb dX4_isWhole_82 rfl hl (by decide) rfl (fun ls hl => ?_)
        refine lv_iconst (v := 1) hx hb dX4_isWhole_83 (by decide) ?_
        refine lv_istore (lv' := [(4, .int (1 : Int32)), (3, .int (1 : Int32)), (0, .ref (a 0)), (1, .int x1), (2, .int t2)]) hx hb dX4_isWhole_84 hl (by decide) rfl (fun ls hl => ?_)
        obtain ⟨t86, hw86, h⟩ := gdb h
        have X86 : ∀ (H : Heap) (locs : List Loc) (ls : Array Slot), va_P g.1 vwCl (wM g a mw mh mke mnx mdo mtr mma mto mah mrs mab ce mk mo mwa mmc mmf mhy myw myh myr t86.2.1 t86.2.2 mde mwe mla) H → va_D A (wM g a mw mh mke mnx mdo mtr mma mto mah mrs mab ce mk mo mwa mmc mmf mhy myw myh myr t86.2.1 t86.2.2 mde mwe mla) → va_S A s.heap H locs → lv_has ls 8 [(0, .ref (a 0)), (1, .int x1), (4, .int t86.1)] → W p l e ({ frames := 4, cells := 0, slots := 0, locals := 90 }) s m args below meth c H locs 0 0 (MQ below (QM g (some (.int res.1)) (wM g a mw mh mke mnx mdo mtr mma mto mah mrs mab ce mk mo mwa mmc mmf mhy myw myh myr res.2.1 res.2.2 mde mwe mla) A) args s 0 0 A) (F0 m 177 ls []) := by
          intro H locs ls hP hD hS hl
          refine lv_iload hx hb dX4_isWhole_177 (lv_at hl 2 rfl) ?_
          refine lv_aload_n hx hb dX4_isWhole_179 rfl (lv_at hl 0 rfl) ?_
          refine lv_iload_n hx hb dX4_isWhole_180 rfl (lv_at hl 1 rfl) ?_
          obtain ⟨r181, hr181, h⟩ := gdb h
          refine kPV (As := [.int x1]) (rest := [.int t86.1]) (ci := 4) S (ctX4_sizeOf l g a x1 mw mh mke mnx mdo mtr mma mto mah mrs mab ce mk mo mwa mmc mmf mhy myw myh myr t86.2.1 t86.2.2 mde mwe mla r181 hr181) (cwV 1 hts gX4_isWhole_X4_sizeOf rfl rfl rfl (by decide +kernel) ⟨Nat.le_of_ble_eq_true rfl, Nat.le_of_ble_eq_true rfl⟩) hK hP [0, 1, 2, 3, 4, 5, 6, 7, 8, 9, 10, 11, 12, 13, 14, 15] rfl rfl rfl rfl rfl hl.1 rfl (Nat.le_of_ble_eq_true rfl) dX4_isWhole_181 ⟨Nat.zero_le _, Nat.zero_le _⟩ ?_
          refine lv_icmp_ne (tgt := 191) hx hb dX4_isWhole_184 (by decide) (fun c184 => ?_) (fun c184 => ?_)
          ·
            replace h := gdn h c184
            refine lv_iconst (v := 0) hx hb dX4_isWhole_191 (by decide) ?_
            obtain rfl := Option.some.inj h
            exact retMz (v := (0 : Int32)) hx hb hr hlocks rfl hP hD hS dX4_isWhole_192
          ·
            replace h := gdp h c184
            refine lv_iconst (v := 1) hx hb dX4_isWhole_187 (by decide) ?_
            refine lv_goto (tgt := 192) hx hb dX4_isWhole_188 (by decide) ?_
            obtain rfl := Option.some.inj h
            exact retMz (v := (1 : Int32)) hx hb hr hlocks rfl hP hD hS dX4_isWhole_192
        clear h
        have L86 : ∀ (n : Nat) (s86 : Int32 × Int32 × (Nat → Int32) × (Nat → Int32)), wh (fX4_isWhole_86 x1 mw mh ce) n s86 = some t86 → ∀ (H : Heap) (locs : List Loc) (ls : Array Slot), va_P g.1 vwCl (wM g a mw mh mke mnx mdo mtr mma mto mah mrs mab ce mk mo mwa mmc mmf mhy myw myh myr s86.2.2.1 s86.2.2.2 mde mwe mla) H → va_D A (wM g a mw mh mke mnx mdo mtr mma mto mah mrs mab ce mk mo mwa mmc mmf mhy myw myh myr s86.2.2.1 s86.2.2.2 mde mwe mla) → va_S A s.heap H locs → lv_has ls 8 [(0, .ref (a 0)), (1, .int x1), (3, .int s86.1), (4, .int s86.2.1)] → W p l e ({ frames := 4, cells := 0, slots := 0, locals := 90 }) s m args below meth c H locs 0 0 (MQ below (QM g (some (.int res.1)) (wM g a mw mh mke mnx mdo mtr mma mto mah mrs mab ce mk mo mwa mmc mmf mhy myw myh myr res.2.1 res.2.2 mde mwe mla) A) args s 0 0 A) (F0 m 86 ls []) := by
          intro n
          induction n with
          | zero => intro s86 hw; exact (wh_0 hw).elim
          | succ n ih86 =>
            intro s86 hw H locs ls hP hD hS hl
            obtain ⟨r0, h, hr86⟩ := wh_s hw
            refine lv_iload_n hx hb dX4_isWhole_86 rfl (lv_at hl 2 rfl) ?_
            refine lv_if_le (tgt := 177) hx hb dX4_isWhole_87 (by decide) (fun c87 => ?_) (fun c87 => ?_)
            ·
              replace h := gdp h c87
              obtain rfl := Option.some.inj h
              have e0 : (s86.2.1, s86.2.2.1, s86.2.2.2) = t86 := hr86
              subst e0
              exact X86 _ _ _ hP hD hS (lv_sub hl [0, 1, 3] rfl)
            ·
              replace h := gdn h c87
              refine lv_iinc (v := (s86.1 + (-1))) (lv' := [(3, .int (s86.1 + (-1))), (0, .ref (a 0)), (1, .int x1), (4, .int s86.2.1)]) hx hb dX4_isWhole_90 hl (k := 2) rfl rfl (by decide) rfl (fun ls hl => ?_)
              refine lv_aload_n hx hb dX4_isWhole_93 rfl (lv_at hl 1 rfl) ?_
              refine va_get (D := g.1) (ci := 4) (v := .ref (a 11)) (C := RX4) (T := TX4) (N := 26) hx hb hts iX4 hown hK.1 hP 0 rfl rfl 16 (by decide) f48 (fun _ h9 => h9) rfl dX4_isWhole_94 ?_
              refine lv_iload_n hx hb dX4_isWhole_97 rfl (lv_at hl 0 rfl) ?_
              obtain ⟨hi, h⟩ := gdi h
              refine va_iald (D := g.1) hx hb hK.1 hP 11 0 rfl rfl hi dX4_isWhole_98 ?_
              refine lv_istore (lv' := [(5, .int (s86.2.2.1 ((s86.1 + (-1))).toNatClampNeg)), (3, .int (s86.1 + (-1))), (0, .ref (a 0)), (1, .int x1), (4, .int s86.2.1)]) hx hb dX4_isWhole_99 hl (by decide) rfl (fun ls hl => ?_)
              refine lv_iconst (v := 0) hx hb dX4_isWhole_101 (by decide) ?_
              refine lv_istore (lv' := [(6, .int (0 : Int32)), (5, .int (s86.2.2.1 ((s86.1 + (-1))).toNatClampNeg)), (3, .int (s86.1 + (-1))), (0, .ref (a 0)), (1, .int x1), (4, .int s86.2.1)]) hx hb dX4_isWhole_102 hl (by decide) rfl (fun ls hl => ?_)
              obtain ⟨t104, hw104, h⟩ := gdb h
              have X104 : ∀ (H : Heap) (locs : List Loc) (ls : Array Slot), va_P g.1 vwCl (wM g a mw mh mke mnx mdo mtr mma mto mah mrs mab ce mk mo mwa mmc mmf mhy myw myh myr t104.2.2.1 t104.2.2.2 mde mwe mla) H → va_D A (wM g a mw mh mke mnx mdo mtr mma mto mah mrs mab ce mk mo mwa mmc mmf mhy myw myh myr t104.2.2.1 t104.2.2.2 mde mwe mla) → va_S A s.heap H locs → lv_has ls 8 [(0, .ref (a 0)), (1, .int x1), (3, .int t104.1), (4, .int t104.2.1)] → W p l e ({ frames := 4, cells := 0, slots := 0, locals := 90 }) s m args below meth c H locs 0 0 (MQ below (QM g (some (.int res.1)) (wM g a mw mh mke mnx mdo mtr mma mto mah mrs mab ce mk mo mwa mmc mmf mhy myw myh myr res.2.1 res.2.2 mde mwe mla) A) args s 0 0 A) (F0 m 174 ls []) := by
                intro H locs ls hP hD hS hl
                refine lv_goto (tgt := 86) hx hb dX4_isWhole_174 (by decide) ?_
                obtain rfl := Option.some.inj h
                exact ih86 (t104.1, t104.2.1, t104.2.2.1, t104.2.2.2) hr86 _ _ _ hP hD hS (lv_sub hl [0, 1, 2, 3] rfl)
              clear h
              have L104 : ∀ (n : Nat) (s104 : Int32 × Int32 × Int32 × (Nat → Int32) × (Nat → Int32)), wh (fX4_isWhole_104 x1 mw mh ce s86) n s104 = some t104 → ∀ (H : Heap) (locs : List Loc) (ls : Array Slot), va_P g.1 vwCl (wM g a mw mh mke mnx mdo mtr mma mto mah mrs mab ce mk mo mwa mmc mmf mhy myw myh myr s104.2.2.2.1 s104.2.2.2.2 mde mwe mla) H → va_D A (wM g a mw mh mke mnx mdo mtr mma mto mah mrs mab ce mk mo mwa mmc mmf mhy myw myh myr s104.2.2.2.1 s104.2.2.2.2 mde mwe mla) → va_S A s.heap H locs → lv_has ls 8 [(0, .ref (a 0)), (1, .int x1), (3, .int s104.1), (4, .int s104.2.1), (5, .int (s86.2.2.1 ((s86.1 + (-1))).toNatClampNeg)), (6, .int s104.2.2.1)] → W p l e ({ frames := 4, cells := 0, slots := 0, locals := 90 }) s m args below meth c H locs 0 0 (MQ below (QM g (some (.int res.1)) (wM g a mw mh mke mnx mdo mtr mma mto mah mrs mab ce mk mo mwa mmc mmf mhy myw myh myr res.2.1 res.2.2 mde mwe mla) A) args s 0 0 A) (F0 m 104 ls []) := by
                intro n
                induction n with
                | zero => intro s104 hw; exact (wh_0 hw).elim
                | succ n ih104 =>
                  intro s104 hw H locs ls hP hD hS hl
                  obtain ⟨r0, h, hr104⟩ := wh_s hw
                  refine lv_iload hx hb dX4_isWhole_104 (lv_at hl 5 rfl) ?_
                  refine lv_iconst (v := 4) hx hb dX4_isWhole_106 (by decide) ?_
                  refine lv_icmp_ge (tgt := 174) hx hb dX4_isWhole_107 (by decide) (fun c107 => ?_) (fun c107 => ?_)
                  ·
                    replace h := gdp h c107
                    obtain rfl := Option.some.inj h
                    have e0 : (s104.1, s104.2.1, s104.2.2.2.1, s104.2.2.2.2) = t104 := hr104
                    subst e0
                    exact X104 _ _ _ hP hD hS (lv_sub hl [0, 1, 2, 3] rfl)
                  ·
                    replace h := gdn h c107
                    refine lv_aload_n hx hb dX4_isWhole_110 rfl (lv_at hl 0 rfl) ?_
                    refine lv_iload hx hb dX4_isWhole_111 (lv_at hl 4 rfl) ?_
                    refine lv_iload hx hb dX4_isWhole_113 (lv_at hl 5 rfl) ?_
                    obtain ⟨r115, hr115, h⟩ := gdb h
                    refine kPV (As := [.int (s86.2.2.1 ((s86.1 + (-1))).toNatClampNeg), .int s104.2.2.1]) (rest := []) (ci := 4) S (ctX4_beside l g a (s86.2.2.1 ((s86.1 + (-1))).toNatClampNeg) s104.2.2.1 mw mh mke mnx mdo mtr mma mto mah mrs mab ce mk mo mwa mmc mmf mhy myw myh myr s104.2.2.2.1 s104.2.2.2.2 mde mwe mla r115 hr115) (cwV 2 hts gX4_isWhole_X4_beside rfl rfl rfl (by decide +kernel) ⟨Nat.le_of_ble_eq_true rfl, Nat.le_of_ble_eq_true rfl⟩) hK hP [0, 1, 2, 3, 4, 5, 6, 7, 8, 9, 10, 11, 12, 13, 14, 15] rfl rfl rfl rfl rfl hl.1 rfl (Nat.le_of_ble_eq_true rfl) dX4_isWhole_115 ⟨Nat.zero_le _, Nat.zero_le _⟩ ?_
                    refine lv_istore (lv' := [(7, .int r115), (0, .ref (a 0)), (1, .int x1), (3, .int s104.1), (4, .int s104.2.1), (5, .int (s86.2.2.1 ((s86.1 + (-1))).toNatClampNeg)), (6, .int s104.2.2.1)]) hx hb dX4_isWhole_118 hl (by decide) rfl (fun ls hl => ?_)
                    refine lv_iload hx hb dX4_isWhole_120 (lv_at hl 0 rfl) ?_
                    refine lv_if_lt (tgt := 168) hx hb dX4_isWhole_122 (by decide) (fun c122 => ?_) (fun c122 => ?_)
                    ·
                      replace h := gdp h c122
                      refine lv_iinc (v := (s104.2.2.1 + 1)) (lv' := [(6, .int (s104.2.2.1 + 1)), (7, .int r115), (0, .ref (a 0)), (1, .int x1), (3, .int s104.1), (4, .int s104.2.1), (5, .int (s86.2.2.1 ((s86.1 + (-1))).toNatClampNeg))]) hx hb dX4_isWhole_168 hl (k := 6) rfl rfl (by decide) rfl (fun ls hl => ?_)
                      refine lv_goto (tgt := 104) hx hb dX4_isWhole_171 (by decide) ?_
                      obtain rfl := Option.some.inj h
                      exact ih104 (s104.1, s104.2.1, (s104.2.2.1 + 1), s104.2.2.2.1, s104.2.2.2.2) hr104 _ _ _ hP hD hS (lv_sub hl [2, 3, 4, 5, 6, 0] rfl)
                    ·
                      replace h := gdn h c122
                      refine lv_aload_n hx hb dX4_isWhole_125 rfl (lv_at hl 1 rfl) ?_
                      refine va_get (D := g.1) (ci := 4) (v := .ref (a 1)) (C := RX4) (T := TX4) (N := 26) hx hb hts iX4 hown hK.1 hP 0 rfl rfl 2 (by decide) f16 (fun _ h9 => h9) rfl dX4_isWhole_126 ?_
                      refine lv_iload hx hb dX4_isWhole_129 (lv_at hl 0 rfl) ?_
                      obtain ⟨hi, h⟩ := gdi h
                      refine va_iald (D := g.1) hx hb hK.1 hP 1 0 rfl rfl hi dX4_isWhole_131 ?_
                      refine lv_iload_n hx hb dX4_isWhole_132 rfl (lv_at hl 2 rfl) ?_
                      refine lv_icmp_ne (tgt := 168) hx hb dX4_isWhole_133 (by decide) (fun c133 => ?_) (fun c133 => ?_)
                      ·
                        replace h := gdn h c133
                        refine lv_iinc (v := (s104.2.2.1 + 1)) (lv' := [(6, .int (s104.2.2.1 + 1)), (7, .int r115), (0, .ref (a 0)), (1, .int x1), (3, .int s104.1), (4, .int s104.2.1), (5, .int (s86.2.2.1 ((s86.1 + (-1))).toNatClampNeg))]) hx hb dX4_isWhole_168 hl (k := 6) rfl rfl (by decide) rfl (fun ls hl => ?_)
                        refine lv_goto (tgt := 104) hx hb dX4_isWhole_171 (by decide) ?_
                        obtain rfl := Option.some.inj h
                        exact ih104 (s104.1, s104.2.1, (s104.2.2.1 + 1), s104.2.2.2.1, s104.2.2.2.2) hr104 _ _ _ hP hD hS (lv_sub hl [2, 3, 4, 5, 6, 0] rfl)
                      ·
                        replace h := gdp h c133
                        refine lv_aload_n hx hb dX4_isWhole_136 rfl (lv_at hl 1 rfl) ?_
                        refine va_get (D := g.1) (ci := 4) (v := .ref (a 12)) (C := RX4) (T := TX4) (N := 26) hx hb hts iX4 hown hK.1 hP 0 rfl rfl 17 (by decide) f51 (fun _ h9 => h9) rfl dX4_isWhole_137 ?_
                        refine lv_iload hx hb dX4_isWhole_140 (lv_at hl 0 rfl) ?_
                        obtain ⟨hi, h⟩ := gdi h
                        refine va_zald (D := g.1) hx hb hK.1 hP 12 2 rfl rfl hi dX4_isWhole_142 ?_
                        refine lv_if_ne (tgt := 168) hx hb dX4_isWhole_143 (by decide) (fun c143 => ?_) (fun c143 => ?_)
                        ·
                          replace h := gdn h c143
                          refine lv_iinc (v := (s104.2.2.1 + 1)) (lv' := [(6, .int (s104.2.2.1 + 1)), (7, .int r115), (0, .ref (a 0)), (1, .int x1), (3, .int s104.1), (4, .int s104.2.1), (5, .int (s86.2.2.1 ((s86.1 + (-1))).toNatClampNeg))]) hx hb dX4_isWhole_168 hl (k := 6) rfl rfl (by decide) rfl (fun ls hl => ?_)
                          refine lv_goto (tgt := 104) hx hb dX4_isWhole_171 (by decide) ?_
                          obtain rfl := Option.some.inj h
                          exact ih104 (s104.1, s104.2.1, (s104.2.2.1 + 1), s104.2.2.2.1, s104.2.2.2.2) hr104 _ _ _ hP hD hS (lv_sub hl [2, 3, 4, 5, 6, 0] rfl)
                        ·
                          replace h := gdp h c143
                          refine lv_aload_n hx hb dX4_isWhole_146 rfl (lv_at hl 1 rfl) ?_
                          refine va_get (D := g.1) (ci := 4) (v := .ref (a 12)) (C := RX4) (T := TX4) (N := 26) hx hb hts iX4 hown hK.1 hP 0 rfl rfl 17 (by decide) f51 (fun _ h9 => h9) rfl dX4_isWhole_147 ?_
                          refine lv_iload hx hb dX4_isWhole_150 (lv_at hl 0 rfl) ?_
                          refine lv_iconst (v := 1) hx hb dX4_isWhole_152 (by decide) ?_
                          obtain ⟨hi, h⟩ := gdi h
                          refine va_zast (D := g.1) hx hb hK.1 hP hD hS 12 2 rfl rfl hi dX4_isWhole_153 (fun H locs hP hD hS => ?_)
                          have hP : va_P g.1 vwCl (wM g a mw mh mke mnx mdo mtr mma mto mah mrs mab ce mk mo mwa mmc mmf mhy myw myh myr s104.2.2.2.1 (upd s104.2.2.2.2 (r115).toNatClampNeg (1 : Int32)) mde mwe mla) H := hP
                          have hD : va_D A (wM g a mw mh mke mnx mdo mtr mma mto mah mrs mab ce mk mo mwa mmc mmf mhy myw myh myr s104.2.2.2.1 (upd s104.2.2.2.2 (r115).toNatClampNeg (1 : Int32)) mde mwe mla) := hD
                          refine lv_aload_n hx hb dX4_isWhole_154 rfl (lv_at hl 1 rfl) ?_
                          refine va_get (D := g.1) (ci := 4) (v := .ref (a 11)) (C := RX4) (T := TX4) (N := 26) hx hb hts iX4 hown hK.1 hP 0 rfl rfl 16 (by decide) f48 (fun _ h9 => h9) rfl dX4_isWhole_155 ?_
                          refine lv_iload_n hx hb dX4_isWhole_158 rfl (lv_at hl 3 rfl) ?_
                          refine lv_iload hx hb dX4_isWhole_159 (lv_at hl 0 rfl) ?_
                          obtain ⟨hi, h⟩ := gdi h
                          refine va_iast (D := g.1) hx hb hK.1 hP hD hS 11 0 rfl rfl hi dX4_isWhole_161 (fun H locs hP hD hS => ?_)
                          have hP : va_P g.1 vwCl (wM g a mw mh mke mnx mdo mtr mma mto mah mrs mab ce mk mo mwa mmc mmf mhy myw myh myr (upd s104.2.2.2.1 (s104.1).toNatClampNeg r115) (upd s104.2.2.2.2 (r115).toNatClampNeg (1 : Int32)) mde mwe mla) H := hP
                          have hD : va_D A (wM g a mw mh mke mnx mdo mtr mma mto mah mrs mab ce mk mo mwa mmc mmf mhy myw myh myr (upd s104.2.2.2.1 (s104.1).toNatClampNeg r115) (upd s104.2.2.2.2 (r115).toNatClampNeg (1 : Int32)) mde mwe mla) := hD
                          refine lv_iinc (v := (s104.1 + 1)) (lv' := [(3, .int (s104.1 + 1)), (7, .int r115), (0, .ref (a 0)), (1, .int x1), (4, .int s104.2.1), (5, .int (s86.2.2.1 ((s86.1 + (-1))).toNatClampNeg)), (6, .int s104.2.2.1)]) hx hb dX4_isWhole_162 hl (k := 3) rfl rfl (by decide) rfl (fun ls hl => ?_)
                          refine lv_iinc (v := (s104.2.1 + 1)) (lv' := [(4, .int (s104.2.1 + 1)), (3, .int (s104.1 + 1)), (7, .int r115), (0, .ref (a 0)), (1, .int x1), (5, .int (s86.2.2.1 ((s86.1 + (-1))).toNatClampNeg)), (6, .int s104.2.2.1)]) hx hb dX4_isWhole_165 hl (k := 4) rfl rfl (by decide) rfl (fun ls hl => ?_)
                          refine lv_iinc (v := (s104.2.2.1 + 1)) (lv' := [(6, .int (s104.2.2.1 + 1)), (4, .int (s104.2.1 + 1)), (3, .int (s104.1 + 1)), (7, .int r115), (0, .ref (a 0)), (1, .int x1), (5, .int (s86.2.2.1 ((s86.1 + (-1))).toNatClampNeg))]) hx hb dX4_isWhole_168 hl (k := 6) rfl rfl (by decide) rfl (fun ls hl => ?_)
                          refine lv_goto (tgt := 104) hx hb dX4_isWhole_171 (by decide) ?_
                          obtain rfl := Option.some.inj h
                          exact ih104 ((s104.1 + 1), (s104.2.1 + 1), (s104.2.2.1 + 1), (upd s104.2.2.2.1 (s104.1).toNatClampNeg r115), (upd s104.2.2.2.2 (r115).toNatClampNeg (1 : Int32))) hr104 _ _ _ hP hD hS (lv_sub hl [4, 5, 2, 1, 6, 0] rfl)
              exact L104 _ ((s86.1 + (-1)), s86.2.1, (0 : Int32), s86.2.2.1, s86.2.2.2) hw104 _ _ _ hP hD hS (lv_sub hl [3, 4, 2, 5, 1, 0] rfl)
        exact L86 _ ((1 : Int32), (1 : Int32), (upd mpi ((0 : Int32)).toNatClampNeg t2), (upd t48 (t2).toNatClampNeg (1 : Int32))) hw86 _ _ _ hP hD hS (lv_sub hl [2, 3, 1, 0] rfl)
      clear h
      have L48 : ∀ (n : Nat) (s48 : Int32 × (Nat → Int32)), wh fX4_isWhole_48 n s48 = some t48 → ∀ (H : Heap) (locs : List Loc) (ls : Array Slot), va_P g.1 vwCl (wM g a mw mh mke mnx mdo mtr mma mto mah mrs mab ce mk mo mwa mmc mmf mhy myw myh myr mpi s48.2 mde mwe mla) H → va_D A (wM g a mw mh mke mnx mdo mtr mma mto mah mrs mab ce mk mo mwa mmc mmf mhy myw myh myr mpi s48.2 mde mwe mla) → va_S A s.heap H locs → lv_has ls 8 [(0, .ref (a 0)), (1, .int x1), (2, .int t2), (3, .int s48.1)] → W p l e ({ frames := 4, cells := 0, slots := 0, locals := 90 }) s m args below meth c H locs 0 0 (MQ below (QM g (some (.int res.1)) (wM g a mw mh mke mnx mdo mtr mma mto mah mrs mab ce mk mo mwa mmc mmf mhy myw myh myr res.2.1 res.2.2 mde mwe mla) A) args s 0 0 A) (F0 m 48 ls []) := by
        intro n
        induction n with
        | zero => intro s48 hw; exact (wh_0 hw).elim
        | succ n ih48 =>
          intro s48 hw H locs ls hP hD hS hl
          obtain ⟨r0, h, hr48⟩ := wh_s hw
          refine lv_iload_n hx hb dX4_isWhole_48 rfl (lv_at hl 3 rfl) ?_
          refine lv_bipush (v := 64) hx hb dX4_isWhole_49 (by decide) ?_
          refine lv_icmp_ge (tgt := 67) hx hb dX4_isWhole_51 (by decide) (fun c51 => ?_) (fun c51 => ?_)
          ·
            replace h := gdp h c51
            obtain rfl := Option.some.inj h
            have e0 : s48.2 = t48 := hr48
            subst e0
            exact X48 _ _ _ hP hD hS (lv_sub hl [0, 1, 2] rfl)
          ·
            replace h := gdn h c51
            refine lv_aload_n hx hb dX4_isWhole_54 rfl (lv_at hl 0 rfl) ?_
            refine va_get (D := g.1) (ci := 4) (v := .ref (a 12)) (C := RX4) (T := TX4) (N := 26) hx hb hts iX4 hown hK.1 hP 0 rfl rfl 17 (by decide) f51 (fun _ h9 => h9) rfl dX4_isWhole_55 ?_
            refine lv_iload_n hx hb dX4_isWhole_58 rfl (lv_at hl 3 rfl) ?_
            refine lv_iconst (v := 0) hx hb dX4_isWhole_59 (by decide) ?_
            obtain ⟨hi, h⟩ := gdi h
            refine va_zast (D := g.1) hx hb hK.1 hP hD hS 12 2 rfl rfl hi dX4_isWhole_60 (fun H locs hP hD hS => ?_)
            have hP : va_P g.1 vwCl (wM g a mw mh mke mnx mdo mtr mma mto mah mrs mab ce mk mo mwa mmc mmf mhy myw myh myr mpi (upd s48.2 (s48.1).toNatClampNeg (0 : Int32)) mde mwe mla) H := hP
            have hD : va_D A (wM g a mw mh mke mnx mdo mtr mma mto mah mrs mab ce mk mo mwa mmc mmf mhy myw myh myr mpi (upd s48.2 (s48.1).toNatClampNeg (0 : Int32)) mde mwe mla) := hD
            refine lv_iinc (v := (s48.1 + 1)) (lv' := [(3, .int (s48.1 + 1)), (0, .ref (a 0)), (1, .int x1), (2, .int t2)]) hx hb dX4_isWhole_61 hl (k := 3) rfl rfl (by decide) rfl (fun ls hl => ?_)
            refine lv_goto (tgt := 48) hx hb dX4_isWhole_64 (by decide) ?_
            obtain rfl := Option.some.inj h
            exact ih48 ((s48.1 + 1), (upd s48.2 (s48.1).toNatClampNeg (0 : Int32))) hr48 _ _ _ hP hD hS (lv_sub hl [1, 2, 3, 0] rfl)
      exact L48 _ ((0 : Int32), mme) hw48 _ _ _ hP hD hS (lv_sub hl [1, 2, 3, 0] rfl)
    ·
      replace h := gdp h c41
      refine lv_iconst (v := 0) hx hb dX4_isWhole_44 (by decide) ?_
      obtain rfl := Option.some.inj h
      exact retMz (v := (0 : Int32)) hx hb hr hlocks rfl hP hD hS dX4_isWhole_45
  clear h
  have L2 : ∀ (n : Nat) (s2 : Int32), wh (fX4_isWhole_2 x1 mw mh ce) n s2 = some t2 → ∀ (H : Heap) (locs : List Loc) (ls : Array Slot), va_P g.1 vwCl (wM g a mw mh mke mnx mdo mtr mma mto mah mrs mab ce mk mo mwa mmc mmf mhy myw myh myr mpi mme mde mwe mla) H → va_D A (wM g a mw mh mke mnx mdo mtr mma mto mah mrs mab ce mk mo mwa mmc mmf mhy myw myh myr mpi mme mde mwe mla) → va_S A s.heap H locs → lv_has ls 8 [(0, .ref (a 0)), (1, .int x1), (2, .int s2)] → W p l e ({ frames := 4, cells := 0, slots := 0, locals := 90 }) s m args below meth c H locs 0 0 (MQ below (QM g (some (.int res.1)) (wM g a mw mh mke mnx mdo mtr mma mto mah mrs mab ce mk mo mwa mmc mmf mhy myw myh myr res.2.1 res.2.2 mde mwe mla) A) args s 0 0 A) (F0 m 2 ls []) := by
    intro n
    induction n with
    | zero => intro s2 hw; exact (wh_0 hw).elim
    | succ n ih2 =>
      intro s2 hw H locs ls hP hD hS hl
      obtain ⟨r0, h, hr2⟩ := wh_s hw
      refine lv_iload_n hx hb dX4_isWhole_2 rfl (lv_at hl 2 rfl) ?_
      refine lv_aload_n hx hb dX4_isWhole_3 rfl (lv_at hl 0 rfl) ?_
      refine va_get (D := g.1) (ci := 4) (v := .int mw) (C := RX4) (T := TX4) (N := 26) hx hb hts iX4 hown hK.1 hP 0 rfl rfl 0 (by decide) f7 (fun _ h9 => h9) rfl dX4_isWhole_4 ?_
      refine lv_aload_n hx hb dX4_isWhole_7 rfl (lv_at hl 0 rfl) ?_
      refine va_get (D := g.1) (ci := 4) (v := .int mh) (C := RX4) (T := TX4) (N := 26) hx hb hts iX4 hown hK.1 hP 0 rfl rfl 1 (by decide) f13 (fun _ h9 => h9) rfl dX4_isWhole_8 ?_
      refine lv_imul hx hb dX4_isWhole_11 ?_
      refine lv_icmp_ge (tgt := 31) hx hb dX4_isWhole_12 (by decide) (fun c12 => ?_) (fun c12 => ?_)
      ·
        replace h := gdp h c12
        obtain rfl := Option.some.inj h
        have e0 : s2 = t2 := hr2
        subst e0
        exact X2 _ _ _ hP hD hS (lv_sub hl [0, 1, 2] rfl)
      ·
        replace h := gdn h c12
        refine lv_aload_n hx hb dX4_isWhole_15 rfl (lv_at hl 0 rfl) ?_
        refine va_get (D := g.1) (ci := 4) (v := .ref (a 1)) (C := RX4) (T := TX4) (N := 26) hx hb hts iX4 hown hK.1 hP 0 rfl rfl 2 (by decide) f16 (fun _ h9 => h9) rfl dX4_isWhole_16 ?_
        refine lv_iload_n hx hb dX4_isWhole_19 rfl (lv_at hl 2 rfl) ?_
        obtain ⟨hi, h⟩ := gdi h
        refine va_iald (D := g.1) hx hb hK.1 hP 1 0 rfl rfl hi dX4_isWhole_20 ?_
        refine lv_iload_n hx hb dX4_isWhole_21 rfl (lv_at hl 1 rfl) ?_
        refine lv_icmp_eq (tgt := 31) hx hb dX4_isWhole_22 (by decide) (fun c22 => ?_) (fun c22 => ?_)
        ·
          replace h := gdp h c22
          obtain rfl := Option.some.inj h
          have e0 : s2 = t2 := hr2
          subst e0
          exact X2 _ _ _ hP hD hS (lv_sub hl [0, 1, 2] rfl)
        ·
          replace h := gdn h c22
          refine lv_iinc (v := (s2 + 1)) (lv' := [(2, .int (s2 + 1)), (0, .ref (a 0)), (1, .int x1)]) hx hb dX4_isWhole_25 hl (k := 2) rfl rfl (by decide) rfl (fun ls hl => ?_)
          refine lv_goto (tgt := 2) hx hb dX4_isWhole_28 (by decide) ?_
          obtain rfl := Option.some.inj h
          exact ih2 (s2 + 1) hr2 _ _ _ hP hD hS (lv_sub hl [1, 2, 0] rfl)
  exact L2 _ (0 : Int32) hw2 _ _ _ hP hD hS (lv_sub hl [1, 2, 0] rfl)
-- LandBoardModel.whole
set_option maxHeartbeats 4000000 in
set_option maxRecDepth 100000 in
theorem ctX4_whole (l : Launch) (g : GG) (a : Nat → Nat) (x1 : Int32) (mw : Int32) (mh : Int32) (mke : Int32) (mnx : Int32) (mdo : Int32) (mtr : Int64) (mma : Int32) (mto : Int32) (mah : Int32) (mrs : Int32) (mab : Int32) (ce : (Nat → Int32)) (mk : (Nat → Int32)) (mo : (Nat → Int32)) (mwa : (Nat → Int32)) (mmc : (Nat → Int32)) (mmf : (Nat → Int32)) (mhy : (Nat → Int32)) (myw : (Nat → Int32)) (myh : (Nat → Int32)) (myr : (Nat → Int32)) (mpi : (Nat → Int32)) (mme : (Nat → Int32)) (mde : (Nat → Int32)) (mwe : (Nat → Int32)) (mla : (Nat → Int32)) (res : Int32 × (Nat → Int32) × (Nat → Int32)) (h : fX4_whole x1 mw mh ce mpi mme = some res) : MM l yX4_whole wsX4_whole ({ frames := 5, cells := 0, slots := 0, locals := 117 }) g [.ref (a 0), .int x1] (wM g a mw mh mke mnx mdo mtr mma mto mah mrs mab ce mk mo mwa mmc mmf mhy myw myh myr mpi mme mde mwe mla) (wM g a mw mh mke mnx mdo mtr mma mto mah mrs mab ce mk mo mwa mmc mmf mhy myw myh myr res.2.1 res.2.2 mde mwe mla) (some (.int res.1)) := by
  refine MM.of (cc := cX4_whole) (own := RX4) 2 (some .int) (by decide +kernel) rfl (Nat.le_of_ble_eq_true rfl) rfl ?_
  intro p e s m args below meth c hx hb hr hml hown hts hlocks hK A hA ls hl hP hD hS
  have S : CallFix p m c cX4_whole 2 s args wsX4_whole RX4 := ⟨hx, hb, hml, hown, hts⟩
  have hl : lv_has ls 2 [(0, .ref (a 0)), (1, .int x1)] := hl
  refine lv_iload_n hx hb dX4_whole_0 rfl (lv_at hl 1 rfl) ?_
  refine kPS (As := [.int x1]) (rest := []) S (ctX4_isLand l g x1  (fX4_isLand x1) rfl) (va_cwS 1 hts gX4_whole_X4_isLand rfl rfl rfl (by decide +kernel) ⟨Nat.le_of_ble_eq_true rfl, Nat.le_of_ble_eq_true rfl⟩) hK rfl rfl hl.1 rfl (Nat.le_of_ble_eq_true rfl) dX4_whole_1 ⟨Nat.zero_le _, Nat.zero_le _⟩ ?_
  refine lv_if_ne (tgt := 11) hx hb dX4_whole_4 (by decide) (fun c4 => ?_) (fun c4 => ?_)
  ·
    replace h := gdn h c4
    refine lv_aload_n hx hb dX4_whole_11 rfl (lv_at hl 0 rfl) ?_
    refine lv_iload_n hx hb dX4_whole_12 rfl (lv_at hl 1 rfl) ?_
    obtain ⟨r13, hr13, h⟩ := gdb h
    refine kMV (As := [.int x1]) (rest := []) (ci := 4) (W1 := (wM g a mw mh mke mnx mdo mtr mma mto mah mrs mab ce mk mo mwa mmc mmf mhy myw myh myr r13.2.1 r13.2.2 mde mwe mla)) (wr := []) S (ctX4_isWhole l g a x1 mw mh mke mnx mdo mtr mma mto mah mrs mab ce mk mo mwa mmc mmf mhy myw myh myr mpi mme mde mwe mla r13 hr13) (cwV 1 hts gX4_whole_X4_isWhole rfl rfl rfl (by decide +kernel) ⟨Nat.le_of_ble_eq_true rfl, Nat.le_of_ble_eq_true rfl⟩) hK hP hD hS hA [0, 1, 2, 3, 4, 5, 6, 7, 8, 9, 10, 11, 12, 13, 14, 15] [] [0, 1, 2, 3, 4, 5, 6, 7, 8, 9, 10, 11, 12, 13, 14, 15] rfl rfl rfl rfl (by decide) rfl rfl rfl rfl rfl rfl hl.1 rfl (Nat.le_of_ble_eq_true rfl) dX4_whole_13 ⟨Nat.zero_le _, Nat.zero_le _⟩ (fun H locs hP hD hS => ?_)
    show W p l e ({ frames := 5, cells := 0, slots := 0, locals := 117 }) s m args below meth c H locs 0 0 (MQ below (QM g (some (.int res.1)) (wM g a mw mh mke mnx mdo mtr mma mto mah mrs mab ce mk mo mwa mmc mmf mhy myw myh myr res.2.1 res.2.2 mde mwe mla) A) args s 0 0 A) (F0 m 16 ls [.int r13.1])
    refine lv_if_eq (tgt := 23) hx hb dX4_whole_16 (by decide) (fun c16 => ?_) (fun c16 => ?_)
    ·
      replace h := gdp h c16
      refine lv_iconst (v := 0) hx hb dX4_whole_23 (by decide) ?_
      obtain rfl := Option.some.inj h
      exact retMi (v := (0 : Int32)) hx hb hr hlocks hP hD hS dX4_whole_24
    ·
      replace h := gdn h c16
      refine lv_iconst (v := 1) hx hb dX4_whole_19 (by decide) ?_
      refine lv_goto (tgt := 24) hx hb dX4_whole_20 (by decide) ?_
      obtain rfl := Option.some.inj h
      exact retMi (v := (1 : Int32)) hx hb hr hlocks hP hD hS dX4_whole_24
  ·
    replace h := gdp h c4
    refine lv_iconst (v := -1) hx hb dX4_whole_7 (by decide) ?_
    refine lv_goto (tgt := 24) hx hb dX4_whole_8 (by decide) ?_
    obtain rfl := Option.some.inj h
    exact retMi (v := (-1 : Int32)) hx hb hr hlocks hP hD hS dX4_whole_24
-- LandBoardModel.numberOf
set_option maxHeartbeats 4000000 in
set_option maxRecDepth 100000 in
theorem ctX4_numberOf (l : Launch) (g : GG) (x0 : Int32)  (res : Int32) (h : fX4_numberOf x0 = res) : MP l yX4_numberOf wsX4_numberOf ({ frames := 0, cells := 0, slots := 0, locals := 0 }) g [.int x0] (wN g) (.int res) := by
  refine MP.of (cc := cX4_numberOf) (own := RX4) 1 (some .int) (by decide +kernel) rfl (Nat.le_of_ble_eq_true rfl) rfl ?_
  intro p e s m args below meth c hx hb hr hml hown hts hlocks hP hK ls hl
  have S : CallFix p m c cX4_numberOf 1 s args wsX4_numberOf RX4 := ⟨hx, hb, hml, hown, hts⟩
  have hl : lv_has ls 1 [(0, .int x0)] := hl
  refine lv_iload_n hx hb dX4_numberOf_0 rfl (lv_at hl 0 rfl) ?_
  refine lv_bipush (v := -4) hx hb dX4_numberOf_1 (by decide) ?_
  refine lv_icmp_ne (tgt := 11) hx hb dX4_numberOf_3 (by decide) (fun c3 => ?_) (fun c3 => ?_)
  ·
    replace h := gdn h c3
    refine lv_iload_n hx hb dX4_numberOf_11 rfl (lv_at hl 0 rfl) ?_
    subst h
    exact retPi hx hb hr hlocks dX4_numberOf_12
  ·
    replace h := gdp h c3
    refine lv_bipush (v := 6) hx hb dX4_numberOf_6 (by decide) ?_
    refine lv_goto (tgt := 12) hx hb dX4_numberOf_8 (by decide) ?_
    subst h
    exact retPi (v := (6 : Int32)) hx hb hr hlocks dX4_numberOf_12
-- LandBoardModel.touches
set_option maxHeartbeats 4000000 in
set_option maxRecDepth 100000 in
theorem ctX4_touches (l : Launch) (g : GG) (a : Nat → Nat)  (mw : Int32) (mh : Int32) (mke : Int32) (mnx : Int32) (mdo : Int32) (mtr : Int64) (mma : Int32) (mto : Int32) (mah : Int32) (mrs : Int32) (mab : Int32) (ce : (Nat → Int32)) (mk : (Nat → Int32)) (mo : (Nat → Int32)) (mwa : (Nat → Int32)) (mmc : (Nat → Int32)) (mmf : (Nat → Int32)) (mhy : (Nat → Int32)) (myw : (Nat → Int32)) (myh : (Nat → Int32)) (myr : (Nat → Int32)) (mpi : (Nat → Int32)) (mme : (Nat → Int32)) (mde : (Nat → Int32)) (mwe : (Nat → Int32)) (mla : (Nat → Int32)) (res : Int64) (h : fX4_touches mw mh ce = some res) : MP l yX4_touches wsX4_touches ({ frames := 4, cells := 0, slots := 0, locals := 90 }) g [.ref (a 0)] (wM g a mw mh mke mnx mdo mtr mma mto mah mrs mab ce mk mo mwa mmc mmf mhy myw myh myr mpi mme mde mwe mla) (.long res) := by
  refine MP.of (cc := cX4_touches) (own := RX4) 8 (some .long) (by decide +kernel) rfl (Nat.le_of_ble_eq_true rfl) rfl ?_
  intro p e s m args below meth c hx hb hr hml hown hts hlocks hP hK ls hl
  have S : CallFix p m c cX4_touches 8 s args wsX4_touches RX4 := ⟨hx, hb, hml, hown, hts⟩
  have hl : lv_has ls 8 [(0, .ref (a 0))] := hl
  have f7 := hts (.fieldLink RX4 7 "LandBoardModel" "w" "I") (by decide +kernel)
  have iX4 := (by decide +kernel : ∀ w ∈ u_ws RX4 TX4 26, w ∈ wsX4_touches)
  have f13 := hts (.fieldLink RX4 13 "LandBoardModel" "h" "I") (by decide +kernel)
  have f16 := hts (.fieldLink RX4 16 "LandBoardModel" "cells" "[I") (by decide +kernel)
  refine lv_lconst (v := 0) hx hb dX4_touches_0 (by decide) ?_
  refine lv_lstore_n (lv' := [(1, .long (0 : Int64)), (0, .ref (a 0))]) hx hb dX4_touches_1 rfl hl (by decide) rfl (fun ls hl => ?_)
  refine lv_iconst (v := 0) hx hb dX4_touches_2 (by decide) ?_
  refine lv_istore_n (lv' := [(3, .int (0 : Int32)), (1, .long (0 : Int64)), (0, .ref (a 0))]) hx hb dX4_touches_3 rfl hl (by decide) rfl (fun ls hl => ?_)
  obtain ⟨t4, hw4, h⟩ := gdb h
  have X4 : ∀ ls : Array Slot, lv_has ls 8 [(1, .long t4)] → W p l e ({ frames := 4, cells := 0, slots := 0, locals := 90 }) s m args below meth c s.heap [] 0 0 (MQ below (k2_QcV (.long res)) args s 0 0 (fun _ => False)) (F0 m 113 ls []) := by
    intro ls hl
    refine lv_lload_n hx hb dX4_touches_113 rfl (lv_at hl 0 rfl) ?_
    obtain rfl := Option.some.inj h
    exact retPl hx hb hr hlocks dX4_touches_114
  clear h
  have L4 : ∀ (n : Nat) (s4 : Int64 × Int32), wh (fX4_touches_4 mw mh ce) n s4 = some t4 → ∀ ls : Array Slot, lv_has ls 8 [(0, .ref (a 0)), (1, .long s4.1), (3, .int s4.2)] → W p l e ({ frames := 4, cells := 0, slots := 0, locals := 90 }) s m args below meth c s.heap [] 0 0 (MQ below (k2_QcV (.long res)) args s 0 0 (fun _ => False)) (F0 m 4 ls []) := by
    intro n
    induction n with
    | zero => intro s4 hw; exact (wh_0 hw).elim
    | succ n ih4 =>
      intro s4 hw ls hl
      obtain ⟨r0, h, hr4⟩ := wh_s hw
      refine lv_iload_n hx hb dX4_touches_4 rfl (lv_at hl 2 rfl) ?_
      refine lv_aload_n hx hb dX4_touches_5 rfl (lv_at hl 0 rfl) ?_
      refine va_get (D := g.1) (ci := 4) (v := .int mw) (C := RX4) (T := TX4) (N := 26) hx hb hts iX4 hown hK.1 hP 0 rfl rfl 0 (by decide) f7 (fun _ h9 => h9) rfl dX4_touches_6 ?_
      refine lv_aload_n hx hb dX4_touches_9 rfl (lv_at hl 0 rfl) ?_
      refine va_get (D := g.1) (ci := 4) (v := .int mh) (C := RX4) (T := TX4) (N := 26) hx hb hts iX4 hown hK.1 hP 0 rfl rfl 1 (by decide) f13 (fun _ h9 => h9) rfl dX4_touches_10 ?_
      refine lv_imul hx hb dX4_touches_13 ?_
      refine lv_icmp_ge (tgt := 113) hx hb dX4_touches_14 (by decide) (fun c14 => ?_) (fun c14 => ?_)
      ·
        replace h := gdp h c14
        obtain rfl := Option.some.inj h
        have e0 : s4.1 = t4 := hr4
        subst e0
        exact X4 _ (lv_sub hl [1] rfl)
      ·
        replace h := gdn h c14
        refine lv_iconst (v := 0) hx hb dX4_touches_17 (by decide) ?_
        refine lv_istore (lv' := [(4, .int (0 : Int32)), (0, .ref (a 0)), (1, .long s4.1), (3, .int s4.2)]) hx hb dX4_touches_18 hl (by decide) rfl (fun ls hl => ?_)
        obtain ⟨t20, hw20, h⟩ := gdb h
        have X20 : ∀ ls : Array Slot, lv_has ls 8 [(0, .ref (a 0)), (1, .long t20), (3, .int s4.2)] → W p l e ({ frames := 4, cells := 0, slots := 0, locals := 90 }) s m args below meth c s.heap [] 0 0 (MQ below (k2_QcV (.long res)) args s 0 0 (fun _ => False)) (F0 m 107 ls []) := by
          intro ls hl
          refine lv_iinc (v := (s4.2 + 1)) (lv' := [(3, .int (s4.2 + 1)), (0, .ref (a 0)), (1, .long t20)]) hx hb dX4_touches_107 hl (k := 2) rfl rfl (by decide) rfl (fun ls hl => ?_)
          refine lv_goto (tgt := 4) hx hb dX4_touches_110 (by decide) ?_
          obtain rfl := Option.some.inj h
          exact ih4 (t20, (s4.2 + 1)) hr4 _ (lv_sub hl [1, 2, 0] rfl)
        clear h
        have L20 : ∀ (n : Nat) (s20 : Int64 × Int32), wh (fX4_touches_20 mw mh ce s4) n s20 = some t20 → ∀ ls : Array Slot, lv_has ls 8 [(0, .ref (a 0)), (1, .long s20.1), (3, .int s4.2), (4, .int s20.2)] → W p l e ({ frames := 4, cells := 0, slots := 0, locals := 90 }) s m args below meth c s.heap [] 0 0 (MQ below (k2_QcV (.long res)) args s 0 0 (fun _ => False)) (F0 m 20 ls []) := by
          intro n
          induction n with
          | zero => intro s20 hw; exact (wh_0 hw).elim
          | succ n ih20 =>
            intro s20 hw ls hl
            obtain ⟨r0, h, hr20⟩ := wh_s hw
            refine lv_iload hx hb dX4_touches_20 (lv_at hl 3 rfl) ?_
            refine lv_iconst (v := 4) hx hb dX4_touches_22 (by decide) ?_
            refine lv_icmp_ge (tgt := 107) hx hb dX4_touches_23 (by decide) (fun c23 => ?_) (fun c23 => ?_)
            ·
              replace h := gdp h c23
              obtain rfl := Option.some.inj h
              have e0 : s20.1 = t20 := hr20
              subst e0
              exact X20 _ (lv_sub hl [0, 1, 2] rfl)
            ·
              replace h := gdn h c23
              refine lv_aload_n hx hb dX4_touches_26 rfl (lv_at hl 0 rfl) ?_
              refine lv_iload_n hx hb dX4_touches_27 rfl (lv_at hl 2 rfl) ?_
              refine lv_iload hx hb dX4_touches_28 (lv_at hl 3 rfl) ?_
              obtain ⟨r30, hr30, h⟩ := gdb h
              refine kPV (As := [.int s4.2, .int s20.2]) (rest := []) (ci := 4) S (ctX4_beside l g a s4.2 s20.2 mw mh mke mnx mdo mtr mma mto mah mrs mab ce mk mo mwa mmc mmf mhy myw myh myr mpi mme mde mwe mla r30 hr30) (cwV 2 hts gX4_touches_X4_beside rfl rfl rfl (by decide +kernel) ⟨Nat.le_of_ble_eq_true rfl, Nat.le_of_ble_eq_true rfl⟩) hK hP [0, 1, 2, 3, 4, 5, 6, 7, 8, 9, 10, 11, 12, 13, 14, 15] rfl rfl rfl rfl rfl hl.1 rfl (Nat.le_of_ble_eq_true rfl) dX4_touches_30 ⟨Nat.zero_le _, Nat.zero_le _⟩ ?_
              refine lv_istore (lv' := [(5, .int r30), (0, .ref (a 0)), (1, .long s20.1), (3, .int s4.2), (4, .int s20.2)]) hx hb dX4_touches_33 hl (by decide) rfl (fun ls hl => ?_)
              refine lv_aload_n hx hb dX4_touches_35 rfl (lv_at hl 1 rfl) ?_
              refine va_get (D := g.1) (ci := 4) (v := .ref (a 1)) (C := RX4) (T := TX4) (N := 26) hx hb hts iX4 hown hK.1 hP 0 rfl rfl 2 (by decide) f16 (fun _ h9 => h9) rfl dX4_touches_36 ?_
              refine lv_iload_n hx hb dX4_touches_39 rfl (lv_at hl 3 rfl) ?_
              obtain ⟨hi, h⟩ := gdi h
              refine va_iald (D := g.1) hx hb hK.1 hP 1 0 rfl rfl hi dX4_touches_40 ?_
              refine kPS (As := [.int (ce (s4.2).toNatClampNeg)]) (rest := []) S (ctX4_numberOf l g (ce (s4.2).toNatClampNeg)  (fX4_numberOf (ce (s4.2).toNatClampNeg)) rfl) (va_cwS 1 hts gX4_touches_X4_numberOf rfl rfl rfl (by decide +kernel) ⟨Nat.le_of_ble_eq_true rfl, Nat.le_of_ble_eq_true rfl⟩) hK rfl rfl hl.1 rfl (Nat.le_of_ble_eq_true rfl) dX4_touches_41 ⟨Nat.zero_le _, Nat.zero_le _⟩ ?_
              refine lv_istore (lv' := [(6, .int (fX4_numberOf (ce (s4.2).toNatClampNeg))), (5, .int r30), (0, .ref (a 0)), (1, .long s20.1), (3, .int s4.2), (4, .int s20.2)]) hx hb dX4_touches_44 hl (by decide) rfl (fun ls hl => ?_)
              refine lv_iload hx hb dX4_touches_46 (lv_at hl 1 rfl) ?_
              refine lv_if_ge (tgt := 56) hx hb dX4_touches_48 (by decide) (fun c48 => ?_) (fun c48 => ?_)
              ·
                replace h := gdp h c48
                refine lv_aload_n hx hb dX4_touches_56 rfl (lv_at hl 2 rfl) ?_
                refine va_get (D := g.1) (ci := 4) (v := .ref (a 1)) (C := RX4) (T := TX4) (N := 26) hx hb hts iX4 hown hK.1 hP 0 rfl rfl 2 (by decide) f16 (fun _ h9 => h9) rfl dX4_touches_57 ?_
                refine lv_iload hx hb dX4_touches_60 (lv_at hl 1 rfl) ?_
                obtain ⟨hi, h⟩ := gdi h
                refine va_iald (D := g.1) hx hb hK.1 hP 1 0 rfl rfl hi dX4_touches_62 ?_
                refine kPS (As := [.int (ce (r30).toNatClampNeg)]) (rest := []) S (ctX4_numberOf l g (ce (r30).toNatClampNeg)  (fX4_numberOf (ce (r30).toNatClampNeg)) rfl) (va_cwS 1 hts gX4_touches_X4_numberOf rfl rfl rfl (by decide +kernel) ⟨Nat.le_of_ble_eq_true rfl, Nat.le_of_ble_eq_true rfl⟩) hK rfl rfl hl.1 rfl (Nat.le_of_ble_eq_true rfl) dX4_touches_63 ⟨Nat.zero_le _, Nat.zero_le _⟩ ?_
                refine lv_istore (lv' := [(7, .int (fX4_numberOf (ce (r30).toNatClampNeg))), (6, .int (fX4_numberOf (ce (s4.2).toNatClampNeg))), (5, .int r30), (0, .ref (a 0)), (1, .long s20.1), (3, .int s4.2), (4, .int s20.2)]) hx hb dX4_touches_66 hl (by decide) rfl (fun ls hl => ?_)
                refine lv_iload hx hb dX4_touches_68 (lv_at hl 1 rfl) ?_
                refine lv_iload hx hb dX4_touches_70 (lv_at hl 0 rfl) ?_
                refine lv_icmp_eq (tgt := 101) hx hb dX4_touches_72 (by decide) (fun c72 => ?_) (fun c72 => ?_)
                ·
                  replace h := gdp h c72
                  refine lv_iinc (v := (s20.2 + 1)) (lv' := [(4, .int (s20.2 + 1)), (7, .int (fX4_numberOf (ce (r30).toNatClampNeg))), (6, .int (fX4_numberOf (ce (s4.2).toNatClampNeg))), (5, .int r30), (0, .ref (a 0)), (1, .long s20.1), (3, .int s4.2)]) hx hb dX4_touches_101 hl (k := 6) rfl rfl (by decide) rfl (fun ls hl => ?_)
                  refine lv_goto (tgt := 20) hx hb dX4_touches_104 (by decide) ?_
                  obtain rfl := Option.some.inj h
                  exact ih20 (s20.1, (s20.2 + 1)) hr20 _ (lv_sub hl [4, 5, 6, 0] rfl)
                ·
                  replace h := gdn h c72
                  refine lv_lload_n hx hb dX4_touches_75 rfl (lv_at hl 4 rfl) ?_
                  refine lv_lconst (v := 1) hx hb dX4_touches_76 (by decide) ?_
                  refine lv_bipush (v := 7) hx hb dX4_touches_77 (by decide) ?_
                  refine lv_iload hx hb dX4_touches_79 (lv_at hl 1 rfl) ?_
                  refine lv_imul hx hb dX4_touches_81 ?_
                  refine lv_iload hx hb dX4_touches_82 (lv_at hl 0 rfl) ?_
                  refine lv_iadd hx hb dX4_touches_84 ?_
                  refine lv_lshl (v := ((1 : Int64) <<< ((((7 : Int32) * (fX4_numberOf (ce (s4.2).toNatClampNeg))) + (fX4_numberOf (ce (r30).toNatClampNeg))).toInt64 &&& 63))) hx hb dX4_touches_85 rfl ?_
                  refine lv_lor hx hb dX4_touches_86 ?_
                  obtain ⟨v87, ev87, h⟩ := gdl h
                  refine topl ev87 ?_
                  refine lv_lstore_n (lv' := [(1, .long v87), (7, .int (fX4_numberOf (ce (r30).toNatClampNeg))), (6, .int (fX4_numberOf (ce (s4.2).toNatClampNeg))), (5, .int r30), (0, .ref (a 0)), (3, .int s4.2), (4, .int s20.2)]) hx hb dX4_touches_87 rfl hl (by decide) rfl (fun ls hl => ?_)
                  refine lv_lload_n hx hb dX4_touches_88 rfl (lv_at hl 0 rfl) ?_
                  refine lv_lconst (v := 1) hx hb dX4_touches_89 (by decide) ?_
                  refine lv_bipush (v := 7) hx hb dX4_touches_90 (by decide) ?_
                  refine lv_iload hx hb dX4_touches_92 (lv_at hl 1 rfl) ?_
                  refine lv_imul hx hb dX4_touches_94 ?_
                  refine lv_iload hx hb dX4_touches_95 (lv_at hl 2 rfl) ?_
                  refine lv_iadd hx hb dX4_touches_97 ?_
                  refine lv_lshl (v := ((1 : Int64) <<< ((((7 : Int32) * (fX4_numberOf (ce (r30).toNatClampNeg))) + (fX4_numberOf (ce (s4.2).toNatClampNeg))).toInt64 &&& 63))) hx hb dX4_touches_98 rfl ?_
                  refine lv_lor hx hb dX4_touches_99 ?_
                  obtain ⟨v100, ev100, h⟩ := gdl h
                  refine topl ev100 ?_
                  refine lv_lstore_n (lv' := [(1, .long v100), (7, .int (fX4_numberOf (ce (r30).toNatClampNeg))), (6, .int (fX4_numberOf (ce (s4.2).toNatClampNeg))), (5, .int r30), (0, .ref (a 0)), (3, .int s4.2), (4, .int s20.2)]) hx hb dX4_touches_100 rfl hl (by decide) rfl (fun ls hl => ?_)
                  refine lv_iinc (v := (s20.2 + 1)) (lv' := [(4, .int (s20.2 + 1)), (1, .long v100), (7, .int (fX4_numberOf (ce (r30).toNatClampNeg))), (6, .int (fX4_numberOf (ce (s4.2).toNatClampNeg))), (5, .int r30), (0, .ref (a 0)), (3, .int s4.2)]) hx hb dX4_touches_101 hl (k := 6) rfl rfl (by decide) rfl (fun ls hl => ?_)
                  refine lv_goto (tgt := 20) hx hb dX4_touches_104 (by decide) ?_
                  obtain rfl := Option.some.inj h
                  exact ih20 (v100, (s20.2 + 1)) hr20 _ (lv_sub hl [5, 1, 6, 0] rfl)
              ·
                replace h := gdn h c48
                refine lv_bipush (v := 6) hx hb dX4_touches_51 (by decide) ?_
                refine lv_goto (tgt := 66) hx hb dX4_touches_53 (by decide) ?_
                refine lv_istore (lv' := [(7, .int (6 : Int32)), (6, .int (fX4_numberOf (ce (s4.2).toNatClampNeg))), (5, .int r30), (0, .ref (a 0)), (1, .long s20.1), (3, .int s4.2), (4, .int s20.2)]) hx hb dX4_touches_66 hl (by decide) rfl (fun ls hl => ?_)
                refine lv_iload hx hb dX4_touches_68 (lv_at hl 1 rfl) ?_
                refine lv_iload hx hb dX4_touches_70 (lv_at hl 0 rfl) ?_
                refine lv_icmp_eq (tgt := 101) hx hb dX4_touches_72 (by decide) (fun c72 => ?_) (fun c72 => ?_)
                ·
                  replace h := gdp h c72
                  refine lv_iinc (v := (s20.2 + 1)) (lv' := [(4, .int (s20.2 + 1)), (7, .int (6 : Int32)), (6, .int (fX4_numberOf (ce (s4.2).toNatClampNeg))), (5, .int r30), (0, .ref (a 0)), (1, .long s20.1), (3, .int s4.2)]) hx hb dX4_touches_101 hl (k := 6) rfl rfl (by decide) rfl (fun ls hl => ?_)
                  refine lv_goto (tgt := 20) hx hb dX4_touches_104 (by decide) ?_
                  obtain rfl := Option.some.inj h
                  exact ih20 (s20.1, (s20.2 + 1)) hr20 _ (lv_sub hl [4, 5, 6, 0] rfl)
                ·
                  replace h := gdn h c72
                  refine lv_lload_n hx hb dX4_touches_75 rfl (lv_at hl 4 rfl) ?_
                  refine lv_lconst (v := 1) hx hb dX4_touches_76 (by decide) ?_
                  refine lv_bipush (v := 7) hx hb dX4_touches_77 (by decide) ?_
                  refine lv_iload hx hb dX4_touches_79 (lv_at hl 1 rfl) ?_
                  refine lv_imul hx hb dX4_touches_81 ?_
                  refine lv_iload hx hb dX4_touches_82 (lv_at hl 0 rfl) ?_
                  refine lv_iadd hx hb dX4_touches_84 ?_
                  refine lv_lshl (v := ((1 : Int64) <<< ((((7 : Int32) * (fX4_numberOf (ce (s4.2).toNatClampNeg))) + (6 : Int32)).toInt64 &&& 63))) hx hb dX4_touches_85 rfl ?_
                  refine lv_lor hx hb dX4_touches_86 ?_
                  obtain ⟨v87, ev87, h⟩ := gdl h
                  refine topl ev87 ?_
                  refine lv_lstore_n (lv' := [(1, .long v87), (7, .int (6 : Int32)), (6, .int (fX4_numberOf (ce (s4.2).toNatClampNeg))), (5, .int r30), (0, .ref (a 0)), (3, .int s4.2), (4, .int s20.2)]) hx hb dX4_touches_87 rfl hl (by decide) rfl (fun ls hl => ?_)
                  refine lv_lload_n hx hb dX4_touches_88 rfl (lv_at hl 0 rfl) ?_
                  refine lv_lconst (v := 1) hx hb dX4_touches_89 (by decide) ?_
                  refine lv_bipush (v := 7) hx hb dX4_touches_90 (by decide) ?_
                  refine lv_iload hx hb dX4_touches_92 (lv_at hl 1 rfl) ?_
                  refine lv_imul hx hb dX4_touches_94 ?_
                  refine lv_iload hx hb dX4_touches_95 (lv_at hl 2 rfl) ?_
                  refine lv_iadd hx hb dX4_touches_97 ?_
                  refine lv_lshl (v := ((1 : Int64) <<< ((((7 : Int32) * (6 : Int32)) + (fX4_numberOf (ce (s4.2).toNatClampNeg))).toInt64 &&& 63))) hx hb dX4_touches_98 rfl ?_
                  refine lv_lor hx hb dX4_touches_99 ?_
                  obtain ⟨v100, ev100, h⟩ := gdl h
                  refine topl ev100 ?_
                  refine lv_lstore_n (lv' := [(1, .long v100), (7, .int (6 : Int32)), (6, .int (fX4_numberOf (ce (s4.2).toNatClampNeg))), (5, .int r30), (0, .ref (a 0)), (3, .int s4.2), (4, .int s20.2)]) hx hb dX4_touches_100 rfl hl (by decide) rfl (fun ls hl => ?_)
                  refine lv_iinc (v := (s20.2 + 1)) (lv' := [(4, .int (s20.2 + 1)), (1, .long v100), (7, .int (6 : Int32)), (6, .int (fX4_numberOf (ce (s4.2).toNatClampNeg))), (5, .int r30), (0, .ref (a 0)), (3, .int s4.2)]) hx hb dX4_touches_101 hl (k := 6) rfl rfl (by decide) rfl (fun ls hl => ?_)
                  refine lv_goto (tgt := 20) hx hb dX4_touches_104 (by decide) ?_
                  obtain rfl := Option.some.inj h
                  exact ih20 (v100, (s20.2 + 1)) hr20 _ (lv_sub hl [5, 1, 6, 0] rfl)
        exact L20 _ (s4.1, (0 : Int32)) hw20 _ (lv_sub hl [1, 2, 3, 0] rfl)
  exact L4 _ ((0 : Int64), (0 : Int32)) hw4 _ (lv_sub hl [2, 1, 0] rfl)
-- LandBoardModel.areTouching
set_option maxHeartbeats 4000000 in
set_option maxRecDepth 100000 in
theorem ctX4_areTouching (l : Launch) (g : GG) (a : Nat → Nat) (x1 : Int32) (x2 : Int32) (mw : Int32) (mh : Int32) (mke : Int32) (mnx : Int32) (mdo : Int32) (mtr : Int64) (mma : Int32) (mto : Int32) (mah : Int32) (mrs : Int32) (mab : Int32) (ce : (Nat → Int32)) (mk : (Nat → Int32)) (mo : (Nat → Int32)) (mwa : (Nat → Int32)) (mmc : (Nat → Int32)) (mmf : (Nat → Int32)) (mhy : (Nat → Int32)) (myw : (Nat → Int32)) (myh : (Nat → Int32)) (myr : (Nat → Int32)) (mpi : (Nat → Int32)) (mme : (Nat → Int32)) (mde : (Nat → Int32)) (mwe : (Nat → Int32)) (mla : (Nat → Int32)) (res : Int32) (h : fX4_areTouching x1 x2 mw mh ce = some res) : MP l yX4_areTouching wsX4_areTouching ({ frames := 5, cells := 0, slots := 0, locals := 117 }) g [.ref (a 0), .int x1, .int x2] (wM g a mw mh mke mnx mdo mtr mma mto mah mrs mab ce mk mo mwa mmc mmf mhy myw myh myr mpi mme mde mwe mla) (.int res) := by
  refine MP.of (cc := cX4_areTouching) (own := RX4) 3 (some .boolean) (by decide +kernel) rfl (Nat.le_of_ble_eq_true rfl) rfl ?_
  intro p e s m args below meth c hx hb hr hml hown hts hlocks hP hK ls hl
  have S : CallFix p m c cX4_areTouching 3 s args wsX4_areTouching RX4 := ⟨hx, hb, hml, hown, hts⟩
  have hl : lv_has ls 3 [(0, .ref (a 0)), (1, .int x1), (2, .int x2)] := hl
  refine lv_aload_n hx hb dX4_areTouching_0 rfl (lv_at hl 0 rfl) ?_
  obtain ⟨r1, hr1, h⟩ := gdb h
  refine kPV (As := []) (rest := []) (ci := 4) S (ctX4_touches l g a  mw mh mke mnx mdo mtr mma mto mah mrs mab ce mk mo mwa mmc mmf mhy myw myh myr mpi mme mde mwe mla r1 hr1) (cwV 0 hts gX4_areTouching_X4_touches rfl rfl rfl (by decide +kernel) ⟨Nat.le_of_ble_eq_true rfl, Nat.le_of_ble_eq_true rfl⟩) hK hP [0, 1, 2, 3, 4, 5, 6, 7, 8, 9, 10, 11, 12, 13, 14, 15] rfl rfl rfl rfl rfl hl.1 rfl (Nat.le_of_ble_eq_true rfl) dX4_areTouching_1 ⟨Nat.zero_le _, Nat.zero_le _⟩ ?_
  refine lv_bipush (v := 7) hx hb dX4_areTouching_4 (by decide) ?_
  refine lv_iload_n hx hb dX4_areTouching_6 rfl (lv_at hl 1 rfl) ?_
  refine kPS (As := [.int x1]) (rest := [.int (7 : Int32), .long r1]) S (ctX4_numberOf l g x1  (fX4_numberOf x1) rfl) (va_cwS 1 hts gX4_areTouching_X4_numberOf rfl rfl rfl (by decide +kernel) ⟨Nat.le_of_ble_eq_true rfl, Nat.le_of_ble_eq_true rfl⟩) hK rfl rfl hl.1 rfl (Nat.le_of_ble_eq_true rfl) dX4_areTouching_7 ⟨Nat.zero_le _, Nat.zero_le _⟩ ?_
  refine lv_imul hx hb dX4_areTouching_10 ?_
  refine lv_iload_n hx hb dX4_areTouching_11 rfl (lv_at hl 2 rfl) ?_
  refine kPS (As := [.int x2]) (rest := [.int ((7 : Int32) * (fX4_numberOf x1)), .long r1]) S (ctX4_numberOf l g x2  (fX4_numberOf x2) rfl) (va_cwS 1 hts gX4_areTouching_X4_numberOf rfl rfl rfl (by decide +kernel) ⟨Nat.le_of_ble_eq_true rfl, Nat.le_of_ble_eq_true rfl⟩) hK rfl rfl hl.1 rfl (Nat.le_of_ble_eq_true rfl) dX4_areTouching_12 ⟨Nat.zero_le _, Nat.zero_le _⟩ ?_
  refine lv_iadd hx hb dX4_areTouching_15 ?_
  refine lv_lshr (v := (r1 >>> ((((7 : Int32) * (fX4_numberOf x1)) + (fX4_numberOf x2)).toInt64 &&& 63))) hx hb dX4_areTouching_16 rfl ?_
  refine lv_lconst (v := 1) hx hb dX4_areTouching_17 (by decide) ?_
  refine lv_land hx hb dX4_areTouching_18 ?_
  refine lv_lconst (v := 1) hx hb dX4_areTouching_19 (by decide) ?_
  refine W.lcmp hx hb dX4_areTouching_20 ?_
  refine lv_if_ne (tgt := 28) hx hb dX4_areTouching_21 (by decide) (fun c21 => ?_) (fun c21 => ?_)
  ·
    replace h := gdn h c21
    refine lv_iconst (v := 0) hx hb dX4_areTouching_28 (by decide) ?_
    obtain rfl := Option.some.inj h
    exact retPz (v := (0 : Int32)) hx hb hr hlocks rfl dX4_areTouching_29
  ·
    replace h := gdp h c21
    refine lv_iconst (v := 1) hx hb dX4_areTouching_24 (by decide) ?_
    refine lv_goto (tgt := 29) hx hb dX4_areTouching_25 (by decide) ?_
    obtain rfl := Option.some.inj h
    exact retPz (v := (1 : Int32)) hx hb hr hlocks rfl dX4_areTouching_29
-- LandBoardModel.touch
set_option maxHeartbeats 4000000 in
set_option maxRecDepth 100000 in
theorem ctX4_touch (l : Launch) (g : GG) (a : Nat → Nat) (x1 : Int32) (x2 : Int32) (mw : Int32) (mh : Int32) (mke : Int32) (mnx : Int32) (mdo : Int32) (mtr : Int64) (mma : Int32) (mto : Int32) (mah : Int32) (mrs : Int32) (mab : Int32) (ce : (Nat → Int32)) (mk : (Nat → Int32)) (mo : (Nat → Int32)) (mwa : (Nat → Int32)) (mmc : (Nat → Int32)) (mmf : (Nat → Int32)) (mhy : (Nat → Int32)) (myw : (Nat → Int32)) (myh : (Nat → Int32)) (myr : (Nat → Int32)) (mpi : (Nat → Int32)) (mme : (Nat → Int32)) (mde : (Nat → Int32)) (mwe : (Nat → Int32)) (mla : (Nat → Int32)) (res : Int32) (h : fX4_touch x1 x2 mw mh ce = some res) : MP l yX4_touch wsX4_touch ({ frames := 6, cells := 0, slots := 0, locals := 139 }) g [.ref (a 0), .int x1, .int x2] (wM g a mw mh mke mnx mdo mtr mma mto mah mrs mab ce mk mo mwa mmc mmf mhy myw myh myr mpi mme mde mwe mla) (.int res) := by
  refine MP.of (cc := cX4_touch) (own := RX4) 4 (some .int) (by decide +kernel) rfl (Nat.le_of_ble_eq_true rfl) rfl ?_
  intro p e s m args below meth c hx hb hr hml hown hts hlocks hP hK ls hl
  have S : CallFix p m c cX4_touch 4 s args wsX4_touch RX4 := ⟨hx, hb, hml, hown, hts⟩
  have hl : lv_has ls 4 [(0, .ref (a 0)), (1, .int x1), (2, .int x2)] := hl
  refine lv_iload_n hx hb dX4_touch_0 rfl (lv_at hl 1 rfl) ?_
  refine lv_bipush (v := -4) hx hb dX4_touch_1 (by decide) ?_
  refine lv_icmp_eq (tgt := 13) hx hb dX4_touch_3 (by decide) (fun c3 => ?_) (fun c3 => ?_)
  ·
    replace h := gdp h c3
    refine lv_iload_n hx hb dX4_touch_13 rfl (lv_at hl 2 rfl) ?_
    refine lv_bipush (v := -4) hx hb dX4_touch_14 (by decide) ?_
    refine lv_icmp_eq (tgt := 26) hx hb dX4_touch_16 (by decide) (fun c16 => ?_) (fun c16 => ?_)
    ·
      replace h := gdp h c16
      refine lv_iload_n hx hb dX4_touch_26 rfl (lv_at hl 1 rfl) ?_
      refine lv_iload_n hx hb dX4_touch_27 rfl (lv_at hl 2 rfl) ?_
      refine lv_icmp_eq (tgt := 35) hx hb dX4_touch_28 (by decide) (fun c28 => ?_) (fun c28 => ?_)
      ·
        replace h := gdp h c28
        refine lv_iconst (v := 0) hx hb dX4_touch_35 (by decide) ?_
        refine lv_istore_n (lv' := [(3, .int (0 : Int32)), (0, .ref (a 0)), (1, .int x1), (2, .int x2)]) hx hb dX4_touch_36 rfl hl (by decide) rfl (fun ls hl => ?_)
        refine lv_iload_n hx hb dX4_touch_37 rfl (lv_at hl 0 rfl) ?_
        refine lv_if_ne (tgt := 45) hx hb dX4_touch_38 (by decide) (fun c38 => ?_) (fun c38 => ?_)
        ·
          exact absurd c38 (by decide)
        ·
          refine lv_iconst (v := -1) hx hb dX4_touch_41 (by decide) ?_
          refine lv_goto (tgt := 59) hx hb dX4_touch_42 (by decide) ?_
          obtain rfl := Option.some.inj h
          exact retPi (v := (-1 : Int32)) hx hb hr hlocks dX4_touch_59
      ·
        replace h := gdn h c28
        refine lv_iconst (v := 1) hx hb dX4_touch_31 (by decide) ?_
        refine lv_goto (tgt := 36) hx hb dX4_touch_32 (by decide) ?_
        refine lv_istore_n (lv' := [(3, .int (1 : Int32)), (0, .ref (a 0)), (1, .int x1), (2, .int x2)]) hx hb dX4_touch_36 rfl hl (by decide) rfl (fun ls hl => ?_)
        refine lv_iload_n hx hb dX4_touch_37 rfl (lv_at hl 0 rfl) ?_
        refine lv_if_ne (tgt := 45) hx hb dX4_touch_38 (by decide) (fun c38 => ?_) (fun c38 => ?_)
        ·
          refine lv_aload_n hx hb dX4_touch_45 rfl (lv_at hl 1 rfl) ?_
          refine lv_iload_n hx hb dX4_touch_46 rfl (lv_at hl 2 rfl) ?_
          refine lv_iload_n hx hb dX4_touch_47 rfl (lv_at hl 3 rfl) ?_
          obtain ⟨r48, hr48, h⟩ := gdb h
          refine kPV (As := [.int x1, .int x2]) (rest := []) (ci := 4) S (ctX4_areTouching l g a x1 x2 mw mh mke mnx mdo mtr mma mto mah mrs mab ce mk mo mwa mmc mmf mhy myw myh myr mpi mme mde mwe mla r48 hr48) (cwV 2 hts gX4_touch_X4_areTouching rfl rfl rfl (by decide +kernel) ⟨Nat.le_of_ble_eq_true rfl, Nat.le_of_ble_eq_true rfl⟩) hK hP [0, 1, 2, 3, 4, 5, 6, 7, 8, 9, 10, 11, 12, 13, 14, 15] rfl rfl rfl rfl rfl hl.1 rfl (Nat.le_of_ble_eq_true rfl) dX4_touch_48 ⟨Nat.zero_le _, Nat.zero_le _⟩ ?_
          refine lv_if_eq (tgt := 58) hx hb dX4_touch_51 (by decide) (fun c51 => ?_) (fun c51 => ?_)
          ·
            replace h := gdp h c51
            refine lv_iconst (v := 0) hx hb dX4_touch_58 (by decide) ?_
            obtain rfl := Option.some.inj h
            exact retPi (v := (0 : Int32)) hx hb hr hlocks dX4_touch_59
          ·
            replace h := gdn h c51
            refine lv_iconst (v := 1) hx hb dX4_touch_54 (by decide) ?_
            refine lv_goto (tgt := 59) hx hb dX4_touch_55 (by decide) ?_
            obtain rfl := Option.some.inj h
            exact retPi (v := (1 : Int32)) hx hb hr hlocks dX4_touch_59
        ·
          exact absurd c38 (by decide)
    ·
      replace h := gdn h c16
      refine lv_iload_n hx hb dX4_touch_19 rfl (lv_at hl 2 rfl) ?_
      refine kPS (As := [.int x2]) (rest := []) S (ctX4_isLand l g x2  (fX4_isLand x2) rfl) (va_cwS 1 hts gX4_touch_X4_isLand rfl rfl rfl (by decide +kernel) ⟨Nat.le_of_ble_eq_true rfl, Nat.le_of_ble_eq_true rfl⟩) hK rfl rfl hl.1 rfl (Nat.le_of_ble_eq_true rfl) dX4_touch_20 ⟨Nat.zero_le _, Nat.zero_le _⟩ ?_
      refine lv_if_eq (tgt := 35) hx hb dX4_touch_23 (by decide) (fun c23 => ?_) (fun c23 => ?_)
      ·
        replace h := gdp h c23
        refine lv_iconst (v := 0) hx hb dX4_touch_35 (by decide) ?_
        refine lv_istore_n (lv' := [(3, .int (0 : Int32)), (0, .ref (a 0)), (1, .int x1), (2, .int x2)]) hx hb dX4_touch_36 rfl hl (by decide) rfl (fun ls hl => ?_)
        refine lv_iload_n hx hb dX4_touch_37 rfl (lv_at hl 0 rfl) ?_
        refine lv_if_ne (tgt := 45) hx hb dX4_touch_38 (by decide) (fun c38 => ?_) (fun c38 => ?_)
        ·
          exact absurd c38 (by decide)
        ·
          refine lv_iconst (v := -1) hx hb dX4_touch_41 (by decide) ?_
          refine lv_goto (tgt := 59) hx hb dX4_touch_42 (by decide) ?_
          obtain rfl := Option.some.inj h
          exact retPi (v := (-1 : Int32)) hx hb hr hlocks dX4_touch_59
      ·
        replace h := gdn h c23
        refine lv_iload_n hx hb dX4_touch_26 rfl (lv_at hl 1 rfl) ?_
        refine lv_iload_n hx hb dX4_touch_27 rfl (lv_at hl 2 rfl) ?_
        refine lv_icmp_eq (tgt := 35) hx hb dX4_touch_28 (by decide) (fun c28 => ?_) (fun c28 => ?_)
        ·
          replace h := gdp h c28
          refine lv_iconst (v := 0) hx hb dX4_touch_35 (by decide) ?_
          refine lv_istore_n (lv' := [(3, .int (0 : Int32)), (0, .ref (a 0)), (1, .int x1), (2, .int x2)]) hx hb dX4_touch_36 rfl hl (by decide) rfl (fun ls hl => ?_)
          refine lv_iload_n hx hb dX4_touch_37 rfl (lv_at hl 0 rfl) ?_
          refine lv_if_ne (tgt := 45) hx hb dX4_touch_38 (by decide) (fun c38 => ?_) (fun c38 => ?_)
          ·
            exact absurd c38 (by decide)
          ·
            refine lv_iconst (v := -1) hx hb dX4_touch_41 (by decide) ?_
            refine lv_goto (tgt := 59) hx hb dX4_touch_42 (by decide) ?_
            obtain rfl := Option.some.inj h
            exact retPi (v := (-1 : Int32)) hx hb hr hlocks dX4_touch_59
        ·
          replace h := gdn h c28
          refine lv_iconst (v := 1) hx hb dX4_touch_31 (by decide) ?_
          refine lv_goto (tgt := 36) hx hb dX4_touch_32 (by decide) ?_
          refine lv_istore_n (lv' := [(3, .int (1 : Int32)), (0, .ref (a 0)), (1, .int x1), (2, .int x2)]) hx hb dX4_touch_36 rfl hl (by decide) rfl (fun ls hl => ?_)
          refine lv_iload_n hx hb dX4_touch_37 rfl (lv_at hl 0 rfl) ?_
          refine lv_if_ne (tgt := 45) hx hb dX4_touch_38 (by decide) (fun c38 => ?_) (fun c38 => ?_)
          ·
            refine lv_aload_n hx hb dX4_touch_45 rfl (lv_at hl 1 rfl) ?_
            refine lv_iload_n hx hb dX4_touch_46 rfl (lv_at hl 2 rfl) ?_
            refine lv_iload_n hx hb dX4_touch_47 rfl (lv_at hl 3 rfl) ?_
            obtain ⟨r48, hr48, h⟩ := gdb h
            refine kPV (As := [.int x1, .int x2]) (rest := []) (ci := 4) S (ctX4_areTouching l g a x1 x2 mw mh mke mnx mdo mtr mma mto mah mrs mab ce mk mo mwa mmc mmf mhy myw myh myr mpi mme mde mwe mla r48 hr48) (cwV 2 hts gX4_touch_X4_areTouching rfl rfl rfl (by decide +kernel) ⟨Nat.le_of_ble_eq_true rfl, Nat.le_of_ble_eq_true rfl⟩) hK hP [0, 1, 2, 3, 4, 5, 6, 7, 8, 9, 10, 11, 12, 13, 14, 15] rfl rfl rfl rfl rfl hl.1 rfl (Nat.le_of_ble_eq_true rfl) dX4_touch_48 ⟨Nat.zero_le _, Nat.zero_le _⟩ ?_
            refine lv_if_eq (tgt := 58) hx hb dX4_touch_51 (by decide) (fun c51 => ?_) (fun c51 => ?_)
            ·
              replace h := gdp h c51
              refine lv_iconst (v := 0) hx hb dX4_touch_58 (by decide) ?_
              obtain rfl := Option.some.inj h
              exact retPi (v := (0 : Int32)) hx hb hr hlocks dX4_touch_59
            ·
              replace h := gdn h c51
              refine lv_iconst (v := 1) hx hb dX4_touch_54 (by decide) ?_
              refine lv_goto (tgt := 59) hx hb dX4_touch_55 (by decide) ?_
              obtain rfl := Option.some.inj h
              exact retPi (v := (1 : Int32)) hx hb hr hlocks dX4_touch_59
          ·
            exact absurd c38 (by decide)
  ·
    replace h := gdn h c3
    refine lv_iload_n hx hb dX4_touch_6 rfl (lv_at hl 1 rfl) ?_
    refine kPS (As := [.int x1]) (rest := []) S (ctX4_isLand l g x1  (fX4_isLand x1) rfl) (va_cwS 1 hts gX4_touch_X4_isLand rfl rfl rfl (by decide +kernel) ⟨Nat.le_of_ble_eq_true rfl, Nat.le_of_ble_eq_true rfl⟩) hK rfl rfl hl.1 rfl (Nat.le_of_ble_eq_true rfl) dX4_touch_7 ⟨Nat.zero_le _, Nat.zero_le _⟩ ?_
    refine lv_if_eq (tgt := 35) hx hb dX4_touch_10 (by decide) (fun c10 => ?_) (fun c10 => ?_)
    ·
      replace h := gdp h c10
      refine lv_iconst (v := 0) hx hb dX4_touch_35 (by decide) ?_
      refine lv_istore_n (lv' := [(3, .int (0 : Int32)), (0, .ref (a 0)), (1, .int x1), (2, .int x2)]) hx hb dX4_touch_36 rfl hl (by decide) rfl (fun ls hl => ?_)
      refine lv_iload_n hx hb dX4_touch_37 rfl (lv_at hl 0 rfl) ?_
      refine lv_if_ne (tgt := 45) hx hb dX4_touch_38 (by decide) (fun c38 => ?_) (fun c38 => ?_)
      ·
        exact absurd c38 (by decide)
      ·
        refine lv_iconst (v := -1) hx hb dX4_touch_41 (by decide) ?_
        refine lv_goto (tgt := 59) hx hb dX4_touch_42 (by decide) ?_
        obtain rfl := Option.some.inj h
        exact retPi (v := (-1 : Int32)) hx hb hr hlocks dX4_touch_59
    ·
      replace h := gdn h c10
      refine lv_iload_n hx hb dX4_touch_13 rfl (lv_at hl 2 rfl) ?_
      refine lv_bipush (v := -4) hx hb dX4_touch_14 (by decide) ?_
      refine lv_icmp_eq (tgt := 26) hx hb dX4_touch_16 (by decide) (fun c16 => ?_) (fun c16 => ?_)
      ·
        replace h := gdp h c16
        refine lv_iload_n hx hb dX4_touch_26 rfl (lv_at hl 1 rfl) ?_
        refine lv_iload_n hx hb dX4_touch_27 rfl (lv_at hl 2 rfl) ?_
        refine lv_icmp_eq (tgt := 35) hx hb dX4_touch_28 (by decide) (fun c28 => ?_) (fun c28 => ?_)
        ·
          replace h := gdp h c28
          refine lv_iconst (v := 0) hx hb dX4_touch_35 (by decide) ?_
          refine lv_istore_n (lv' := [(3, .int (0 : Int32)), (0, .ref (a 0)), (1, .int x1), (2, .int x2)]) hx hb dX4_touch_36 rfl hl (by decide) rfl (fun ls hl => ?_)
          refine lv_iload_n hx hb dX4_touch_37 rfl (lv_at hl 0 rfl) ?_
          refine lv_if_ne (tgt := 45) hx hb dX4_touch_38 (by decide) (fun c38 => ?_) (fun c38 => ?_)
          ·
            exact absurd c38 (by decide)
          ·
            refine lv_iconst (v := -1) hx hb dX4_touch_41 (by decide) ?_
            refine lv_goto (tgt := 59) hx hb dX4_touch_42 (by decide) ?_
            obtain rfl := Option.some.inj h
            exact retPi (v := (-1 : Int32)) hx hb hr hlocks dX4_touch_59
        ·
          replace h := gdn h c28
          refine lv_iconst (v := 1) hx hb dX4_touch_31 (by decide) ?_
          refine lv_goto (tgt := 36) hx hb dX4_touch_32 (by decide) ?_
          refine lv_istore_n (lv' := [(3, .int (1 : Int32)), (0, .ref (a 0)), (1, .int x1), (2, .int x2)]) hx hb dX4_touch_36 rfl hl (by decide) rfl (fun ls hl => ?_)
          refine lv_iload_n hx hb dX4_touch_37 rfl (lv_at hl 0 rfl) ?_
          refine lv_if_ne (tgt := 45) hx hb dX4_touch_38 (by decide) (fun c38 => ?_) (fun c38 => ?_)
          ·
            refine lv_aload_n hx hb dX4_touch_45 rfl (lv_at hl 1 rfl) ?_
            refine lv_iload_n hx hb dX4_touch_46 rfl (lv_at hl 2 rfl) ?_
            refine lv_iload_n hx hb dX4_touch_47 rfl (lv_at hl 3 rfl) ?_
            obtain ⟨r48, hr48, h⟩ := gdb h
            refine kPV (As := [.int x1, .int x2]) (rest := []) (ci := 4) S (ctX4_areTouching l g a x1 x2 mw mh mke mnx mdo mtr mma mto mah mrs mab ce mk mo mwa mmc mmf mhy myw myh myr mpi mme mde mwe mla r48 hr48) (cwV 2 hts gX4_touch_X4_areTouching rfl rfl rfl (by decide +kernel) ⟨Nat.le_of_ble_eq_true rfl, Nat.le_of_ble_eq_true rfl⟩) hK hP [0, 1, 2, 3, 4, 5, 6, 7, 8, 9, 10, 11, 12, 13, 14, 15] rfl rfl rfl rfl rfl hl.1 rfl (Nat.le_of_ble_eq_true rfl) dX4_touch_48 ⟨Nat.zero_le _, Nat.zero_le _⟩ ?_
            refine lv_if_eq (tgt := 58) hx hb dX4_touch_51 (by decide) (fun c51 => ?_) (fun c51 => ?_)
            ·
              replace h := gdp h c51
              refine lv_iconst (v := 0) hx hb dX4_touch_58 (by decide) ?_
              obtain rfl := Option.some.inj h
              exact retPi (v := (0 : Int32)) hx hb hr hlocks dX4_touch_59
            ·
              replace h := gdn h c51
              refine lv_iconst (v := 1) hx hb dX4_touch_54 (by decide) ?_
              refine lv_goto (tgt := 59) hx hb dX4_touch_55 (by decide) ?_
              obtain rfl := Option.some.inj h
              exact retPi (v := (1 : Int32)) hx hb hr hlocks dX4_touch_59
          ·
            exact absurd c38 (by decide)
      ·
        replace h := gdn h c16
        refine lv_iload_n hx hb dX4_touch_19 rfl (lv_at hl 2 rfl) ?_
        refine kPS (As := [.int x2]) (rest := []) S (ctX4_isLand l g x2  (fX4_isLand x2) rfl) (va_cwS 1 hts gX4_touch_X4_isLand rfl rfl rfl (by decide +kernel) ⟨Nat.le_of_ble_eq_true rfl, Nat.le_of_ble_eq_true rfl⟩) hK rfl rfl hl.1 rfl (Nat.le_of_ble_eq_true rfl) dX4_touch_20 ⟨Nat.zero_le _, Nat.zero_le _⟩ ?_
        refine lv_if_eq (tgt := 35) hx hb dX4_touch_23 (by decide) (fun c23 => ?_) (fun c23 => ?_)
        ·
          replace h := gdp h c23
          refine lv_iconst (v := 0) hx hb dX4_touch_35 (by decide) ?_
          refine lv_istore_n (lv' := [(3, .int (0 : Int32)), (0, .ref (a 0)), (1, .int x1), (2, .int x2)]) hx hb dX4_touch_36 rfl hl (by decide) rfl (fun ls hl => ?_)
          refine lv_iload_n hx hb dX4_touch_37 rfl (lv_at hl 0 rfl) ?_
          refine lv_if_ne (tgt := 45) hx hb dX4_touch_38 (by decide) (fun c38 => ?_) (fun c38 => ?_)
          ·
            exact absurd c38 (by decide)
          ·
            refine lv_iconst (v := -1) hx hb dX4_touch_41 (by decide) ?_
            refine lv_goto (tgt := 59) hx hb dX4_touch_42 (by decide) ?_
            obtain rfl := Option.some.inj h
            exact retPi (v := (-1 : Int32)) hx hb hr hlocks dX4_touch_59
        ·
          replace h := gdn h c23
          refine lv_iload_n hx hb dX4_touch_26 rfl (lv_at hl 1 rfl) ?_
          refine lv_iload_n hx hb dX4_touch_27 rfl (lv_at hl 2 rfl) ?_
          refine lv_icmp_eq (tgt := 35) hx hb dX4_touch_28 (by decide) (fun c28 => ?_) (fun c28 => ?_)
          ·
            replace h := gdp h c28
            refine lv_iconst (v := 0) hx hb dX4_touch_35 (by decide) ?_
            refine lv_istore_n (lv' := [(3, .int (0 : Int32)), (0, .ref (a 0)), (1, .int x1), (2, .int x2)]) hx hb dX4_touch_36 rfl hl (by decide) rfl (fun ls hl => ?_)
            refine lv_iload_n hx hb dX4_touch_37 rfl (lv_at hl 0 rfl) ?_
            refine lv_if_ne (tgt := 45) hx hb dX4_touch_38 (by decide) (fun c38 => ?_) (fun c38 => ?_)
            ·
              exact absurd c38 (by decide)
            ·
              refine lv_iconst (v := -1) hx hb dX4_touch_41 (by decide) ?_
              refine lv_goto (tgt := 59) hx hb dX4_touch_42 (by decide) ?_
              obtain rfl := Option.some.inj h
              exact retPi (v := (-1 : Int32)) hx hb hr hlocks dX4_touch_59
          ·
            replace h := gdn h c28
            refine lv_iconst (v := 1) hx hb dX4_touch_31 (by decide) ?_
            refine lv_goto (tgt := 36) hx hb dX4_touch_32 (by decide) ?_
            refine lv_istore_n (lv' := [(3, .int (1 : Int32)), (0, .ref (a 0)), (1, .int x1), (2, .int x2)]) hx hb dX4_touch_36 rfl hl (by decide) rfl (fun ls hl => ?_)
            refine lv_iload_n hx hb dX4_touch_37 rfl (lv_at hl 0 rfl) ?_
            refine lv_if_ne (tgt := 45) hx hb dX4_touch_38 (by decide) (fun c38 => ?_) (fun c38 => ?_)
            ·
              refine lv_aload_n hx hb dX4_touch_45 rfl (lv_at hl 1 rfl) ?_
              refine lv_iload_n hx hb dX4_touch_46 rfl (lv_at hl 2 rfl) ?_
              refine lv_iload_n hx hb dX4_touch_47 rfl (lv_at hl 3 rfl) ?_
              obtain ⟨r48, hr48, h⟩ := gdb h
              refine kPV (As := [.int x1, .int x2]) (rest := []) (ci := 4) S (ctX4_areTouching l g a x1 x2 mw mh mke mnx mdo mtr mma mto mah mrs mab ce mk mo mwa mmc mmf mhy myw myh myr mpi mme mde mwe mla r48 hr48) (cwV 2 hts gX4_touch_X4_areTouching rfl rfl rfl (by decide +kernel) ⟨Nat.le_of_ble_eq_true rfl, Nat.le_of_ble_eq_true rfl⟩) hK hP [0, 1, 2, 3, 4, 5, 6, 7, 8, 9, 10, 11, 12, 13, 14, 15] rfl rfl rfl rfl rfl hl.1 rfl (Nat.le_of_ble_eq_true rfl) dX4_touch_48 ⟨Nat.zero_le _, Nat.zero_le _⟩ ?_
              refine lv_if_eq (tgt := 58) hx hb dX4_touch_51 (by decide) (fun c51 => ?_) (fun c51 => ?_)
              ·
                replace h := gdp h c51
                refine lv_iconst (v := 0) hx hb dX4_touch_58 (by decide) ?_
                obtain rfl := Option.some.inj h
                exact retPi (v := (0 : Int32)) hx hb hr hlocks dX4_touch_59
              ·
                replace h := gdn h c51
                refine lv_iconst (v := 1) hx hb dX4_touch_54 (by decide) ?_
                refine lv_goto (tgt := 59) hx hb dX4_touch_55 (by decide) ?_
                obtain rfl := Option.some.inj h
                exact retPi (v := (1 : Int32)) hx hb hr hlocks dX4_touch_59
            ·
              exact absurd c38 (by decide)
-- LandBoardModel.kind
set_option maxHeartbeats 4000000 in
set_option maxRecDepth 100000 in
theorem ctX4_kind (l : Launch) (g : GG) (a : Nat → Nat) (x1 : Int32) (x2 : Int32) (x3 : Int32) (x4 : Int32) (mw : Int32) (mh : Int32) (mke : Int32) (mnx : Int32) (mdo : Int32) (mtr : Int64) (mma : Int32) (mto : Int32) (mah : Int32) (mrs : Int32) (mab : Int32) (ce : (Nat → Int32)) (mk : (Nat → Int32)) (mo : (Nat → Int32)) (mwa : (Nat → Int32)) (mmc : (Nat → Int32)) (mmf : (Nat → Int32)) (mhy : (Nat → Int32)) (myw : (Nat → Int32)) (myh : (Nat → Int32)) (myr : (Nat → Int32)) (mpi : (Nat → Int32)) (mme : (Nat → Int32)) (mde : (Nat → Int32)) (mwe : (Nat → Int32)) (mla : (Nat → Int32)) (res : Int32 × (Nat → Int32) × (Nat → Int32)) (h : fX4_kind x1 x2 x3 x4 mw mh ce mk mo = some res) : MM l yX4_kind wsX4_kind ({ frames := 3, cells := 0, slots := 0, locals := 66 }) g [.ref (a 0), .int x1, .int x2, .int x3, .int x4] (wM g a mw mh mke mnx mdo mtr mma mto mah mrs mab ce mk mo mwa mmc mmf mhy myw myh myr mpi mme mde mwe mla) (wM g a mw mh mke mnx mdo mtr mma mto mah mrs mab ce res.2.1 res.2.2 mwa mmc mmf mhy myw myh myr mpi mme mde mwe mla) (some (.int res.1)) := by
  refine MM.of (cc := cX4_kind) (own := RX4) 5 (some .int) (by decide +kernel) rfl (Nat.le_of_ble_eq_true rfl) rfl ?_
  intro p e s m args below meth c hx hb hr hml hown hts hlocks hK A hA ls hl hP hD hS
  have S : CallFix p m c cX4_kind 5 s args wsX4_kind RX4 := ⟨hx, hb, hml, hown, hts⟩
  have hl : lv_has ls 5 [(0, .ref (a 0)), (1, .int x1), (2, .int x2), (3, .int x3), (4, .int x4)] := hl
  have f20 := hts (.fieldLink RX4 20 "LandBoardModel" "kind" "[I") (by decide +kernel)
  have iX4 := (by decide +kernel : ∀ w ∈ u_ws RX4 TX4 26, w ∈ wsX4_kind)
  have f23 := hts (.fieldLink RX4 23 "LandBoardModel" "own" "[I") (by decide +kernel)
  have f16 := hts (.fieldLink RX4 16 "LandBoardModel" "cells" "[I") (by decide +kernel)
  refine lv_iload_n hx hb dX4_kind_0 rfl (lv_at hl 1 rfl) ?_
  refine kPS (As := [.int x1]) (rest := []) S (ctX4_isLand l g x1  (fX4_isLand x1) rfl) (va_cwS 1 hts gX4_kind_X4_isLand rfl rfl rfl (by decide +kernel) ⟨Nat.le_of_ble_eq_true rfl, Nat.le_of_ble_eq_true rfl⟩) hK rfl rfl hl.1 rfl (Nat.le_of_ble_eq_true rfl) dX4_kind_1 ⟨Nat.zero_le _, Nat.zero_le _⟩ ?_
  refine lv_if_eq (tgt := 30) hx hb dX4_kind_4 (by decide) (fun c4 => ?_) (fun c4 => ?_)
  ·
    replace h := gdp h c4
    refine lv_iconst (v := -1) hx hb dX4_kind_30 (by decide) ?_
    obtain rfl := Option.some.inj h
    exact retMi (v := (-1 : Int32)) hx hb hr hlocks hP hD hS dX4_kind_31
  ·
    replace h := gdn h c4
    refine lv_iload_n hx hb dX4_kind_7 rfl (lv_at hl 2 rfl) ?_
    refine lv_iconst (v := 0) hx hb dX4_kind_8 (by decide) ?_
    refine lv_iconst (v := 2) hx hb dX4_kind_9 (by decide) ?_
    refine kPS (As := [.int x2, .int (0 : Int32), .int (2 : Int32)]) (rest := []) S (ctX4_in l g x2 (0 : Int32) (2 : Int32)  (fX4_in x2 (0 : Int32) (2 : Int32)) rfl) (va_cwS 3 hts gX4_kind_X4_in rfl rfl rfl (by decide +kernel) ⟨Nat.le_of_ble_eq_true rfl, Nat.le_of_ble_eq_true rfl⟩) hK rfl rfl hl.1 rfl (Nat.le_of_ble_eq_true rfl) dX4_kind_10 ⟨Nat.zero_le _, Nat.zero_le _⟩ ?_
    refine lv_if_eq (tgt := 30) hx hb dX4_kind_13 (by decide) (fun c13 => ?_) (fun c13 => ?_)
    ·
      replace h := gdp h c13
      refine lv_iconst (v := -1) hx hb dX4_kind_30 (by decide) ?_
      obtain rfl := Option.some.inj h
      exact retMi (v := (-1 : Int32)) hx hb hr hlocks hP hD hS dX4_kind_31
    ·
      replace h := gdn h c13
      refine lv_iload_n hx hb dX4_kind_16 rfl (lv_at hl 2 rfl) ?_
      refine lv_if_le (tgt := 32) hx hb dX4_kind_17 (by decide) (fun c17 => ?_) (fun c17 => ?_)
      ·
        replace h := gdp h c17
        refine lv_iload_n hx hb dX4_kind_32 rfl (lv_at hl 2 rfl) ?_
        refine lv_if_le (tgt := 55) hx hb dX4_kind_33 (by decide) (fun c33 => ?_) (fun c33 => ?_)
        ·
          replace h := gdp h c33
          refine lv_aload_n hx hb dX4_kind_55 rfl (lv_at hl 0 rfl) ?_
          refine va_get (D := g.1) (ci := 4) (v := .ref (a 2)) (C := RX4) (T := TX4) (N := 26) hx hb hts iX4 hown hK.1 hP 0 rfl rfl 3 (by decide) f20 (fun _ h9 => h9) rfl dX4_kind_56 ?_
          refine lv_iload_n hx hb dX4_kind_59 rfl (lv_at hl 1 rfl) ?_
          refine lv_iload_n hx hb dX4_kind_60 rfl (lv_at hl 2 rfl) ?_
          obtain ⟨hi, h⟩ := gdi h
          refine va_iast (D := g.1) hx hb hK.1 hP hD hS 2 0 rfl rfl hi dX4_kind_61 (fun H locs hP hD hS => ?_)
          have hP : va_P g.1 vwCl (wM g a mw mh mke mnx mdo mtr mma mto mah mrs mab ce (upd mk (x1).toNatClampNeg x2) mo mwa mmc mmf mhy myw myh myr mpi mme mde mwe mla) H := hP
          have hD : va_D A (wM g a mw mh mke mnx mdo mtr mma mto mah mrs mab ce (upd mk (x1).toNatClampNeg x2) mo mwa mmc mmf mhy myw myh myr mpi mme mde mwe mla) := hD
          refine lv_aload_n hx hb dX4_kind_62 rfl (lv_at hl 0 rfl) ?_
          refine va_get (D := g.1) (ci := 4) (v := .ref (a 3)) (C := RX4) (T := TX4) (N := 26) hx hb hts iX4 hown hK.1 hP 0 rfl rfl 4 (by decide) f23 (fun _ h9 => h9) rfl dX4_kind_63 ?_
          refine lv_iload_n hx hb dX4_kind_66 rfl (lv_at hl 1 rfl) ?_
          refine lv_iload_n hx hb dX4_kind_67 rfl (lv_at hl 2 rfl) ?_
          refine lv_if_ne (tgt := 75) hx hb dX4_kind_68 (by decide) (fun c68 => ?_) (fun c68 => ?_)
          ·
            replace h := gdn h c68
            refine lv_aload_n hx hb dX4_kind_75 rfl (lv_at hl 0 rfl) ?_
            refine lv_iload_n hx hb dX4_kind_76 rfl (lv_at hl 3 rfl) ?_
            refine lv_iload hx hb dX4_kind_77 (lv_at hl 4 rfl) ?_
            refine kPV (As := [.int x3, .int x4]) (rest := [.int x1, .ref (a 3)]) (ci := 4) S (ctX4_cellAt l g a x3 x4 mw mh mke mnx mdo mtr mma mto mah mrs mab ce (upd mk (x1).toNatClampNeg x2) mo mwa mmc mmf mhy myw myh myr mpi mme mde mwe mla (fX4_cellAt x3 x4 mw mh) rfl) (cwV 2 hts gX4_kind_X4_cellAt rfl rfl rfl (by decide +kernel) ⟨Nat.le_of_ble_eq_true rfl, Nat.le_of_ble_eq_true rfl⟩) hK hP [0, 1, 2, 3, 4, 5, 6, 7, 8, 9, 10, 11, 12, 13, 14, 15] rfl rfl rfl rfl rfl hl.1 rfl (Nat.le_of_ble_eq_true rfl) dX4_kind_79 ⟨Nat.zero_le _, Nat.zero_le _⟩ ?_
            obtain ⟨hi, h⟩ := gdi h
            refine va_iast (D := g.1) hx hb hK.1 hP hD hS 3 0 rfl rfl hi dX4_kind_82 (fun H locs hP hD hS => ?_)
            have hP : va_P g.1 vwCl (wM g a mw mh mke mnx mdo mtr mma mto mah mrs mab ce (upd mk (x1).toNatClampNeg x2) (upd mo (x1).toNatClampNeg (fX4_cellAt x3 x4 mw mh)) mwa mmc mmf mhy myw myh myr mpi mme mde mwe mla) H := hP
            have hD : va_D A (wM g a mw mh mke mnx mdo mtr mma mto mah mrs mab ce (upd mk (x1).toNatClampNeg x2) (upd mo (x1).toNatClampNeg (fX4_cellAt x3 x4 mw mh)) mwa mmc mmf mhy myw myh myr mpi mme mde mwe mla) := hD
            refine lv_iconst (v := 1) hx hb dX4_kind_83 (by decide) ?_
            obtain rfl := Option.some.inj h
            exact retMi (v := (1 : Int32)) hx hb hr hlocks hP hD hS dX4_kind_84
          ·
            replace h := gdp h c68
            refine lv_iconst (v := -1) hx hb dX4_kind_71 (by decide) ?_
            refine lv_goto (tgt := 82) hx hb dX4_kind_72 (by decide) ?_
            obtain ⟨hi, h⟩ := gdi h
            refine va_iast (D := g.1) hx hb hK.1 hP hD hS 3 0 rfl rfl hi dX4_kind_82 (fun H locs hP hD hS => ?_)
            have hP : va_P g.1 vwCl (wM g a mw mh mke mnx mdo mtr mma mto mah mrs mab ce (upd mk (x1).toNatClampNeg x2) (upd mo (x1).toNatClampNeg (-1 : Int32)) mwa mmc mmf mhy myw myh myr mpi mme mde mwe mla) H := hP
            have hD : va_D A (wM g a mw mh mke mnx mdo mtr mma mto mah mrs mab ce (upd mk (x1).toNatClampNeg x2) (upd mo (x1).toNatClampNeg (-1 : Int32)) mwa mmc mmf mhy myw myh myr mpi mme mde mwe mla) := hD
            refine lv_iconst (v := 1) hx hb dX4_kind_83 (by decide) ?_
            obtain rfl := Option.some.inj h
            exact retMi (v := (1 : Int32)) hx hb hr hlocks hP hD hS dX4_kind_84
        ·
          replace h := gdn h c33
          refine lv_aload_n hx hb dX4_kind_36 rfl (lv_at hl 0 rfl) ?_
          refine va_get (D := g.1) (ci := 4) (v := .ref (a 1)) (C := RX4) (T := TX4) (N := 26) hx hb hts iX4 hown hK.1 hP 0 rfl rfl 2 (by decide) f16 (fun _ h9 => h9) rfl dX4_kind_37 ?_
          refine lv_aload_n hx hb dX4_kind_40 rfl (lv_at hl 0 rfl) ?_
          refine lv_iload_n hx hb dX4_kind_41 rfl (lv_at hl 3 rfl) ?_
          refine lv_iload hx hb dX4_kind_42 (lv_at hl 4 rfl) ?_
          refine kPV (As := [.int x3, .int x4]) (rest := [.ref (a 1)]) (ci := 4) S (ctX4_cellAt l g a x3 x4 mw mh mke mnx mdo mtr mma mto mah mrs mab ce mk mo mwa mmc mmf mhy myw myh myr mpi mme mde mwe mla (fX4_cellAt x3 x4 mw mh) rfl) (cwV 2 hts gX4_kind_X4_cellAt rfl rfl rfl (by decide +kernel) ⟨Nat.le_of_ble_eq_true rfl, Nat.le_of_ble_eq_true rfl⟩) hK hP [0, 1, 2, 3, 4, 5, 6, 7, 8, 9, 10, 11, 12, 13, 14, 15] rfl rfl rfl rfl rfl hl.1 rfl (Nat.le_of_ble_eq_true rfl) dX4_kind_44 ⟨Nat.zero_le _, Nat.zero_le _⟩ ?_
          obtain ⟨hi, h⟩ := gdi h
          refine va_iald (D := g.1) hx hb hK.1 hP 1 0 rfl rfl hi dX4_kind_47 ?_
          refine lv_iload_n hx hb dX4_kind_48 rfl (lv_at hl 1 rfl) ?_
          refine lv_icmp_eq (tgt := 55) hx hb dX4_kind_49 (by decide) (fun c49 => ?_) (fun c49 => ?_)
          ·
            replace h := gdp h c49
            refine lv_aload_n hx hb dX4_kind_55 rfl (lv_at hl 0 rfl) ?_
            refine va_get (D := g.1) (ci := 4) (v := .ref (a 2)) (C := RX4) (T := TX4) (N := 26) hx hb hts iX4 hown hK.1 hP 0 rfl rfl 3 (by decide) f20 (fun _ h9 => h9) rfl dX4_kind_56 ?_
            refine lv_iload_n hx hb dX4_kind_59 rfl (lv_at hl 1 rfl) ?_
            refine lv_iload_n hx hb dX4_kind_60 rfl (lv_at hl 2 rfl) ?_
            obtain ⟨hi, h⟩ := gdi h
            refine va_iast (D := g.1) hx hb hK.1 hP hD hS 2 0 rfl rfl hi dX4_kind_61 (fun H locs hP hD hS => ?_)
            have hP : va_P g.1 vwCl (wM g a mw mh mke mnx mdo mtr mma mto mah mrs mab ce (upd mk (x1).toNatClampNeg x2) mo mwa mmc mmf mhy myw myh myr mpi mme mde mwe mla) H := hP
            have hD : va_D A (wM g a mw mh mke mnx mdo mtr mma mto mah mrs mab ce (upd mk (x1).toNatClampNeg x2) mo mwa mmc mmf mhy myw myh myr mpi mme mde mwe mla) := hD
            refine lv_aload_n hx hb dX4_kind_62 rfl (lv_at hl 0 rfl) ?_
            refine va_get (D := g.1) (ci := 4) (v := .ref (a 3)) (C := RX4) (T := TX4) (N := 26) hx hb hts iX4 hown hK.1 hP 0 rfl rfl 4 (by decide) f23 (fun _ h9 => h9) rfl dX4_kind_63 ?_
            refine lv_iload_n hx hb dX4_kind_66 rfl (lv_at hl 1 rfl) ?_
            refine lv_iload_n hx hb dX4_kind_67 rfl (lv_at hl 2 rfl) ?_
            refine lv_if_ne (tgt := 75) hx hb dX4_kind_68 (by decide) (fun c68 => ?_) (fun c68 => ?_)
            ·
              replace h := gdn h c68
              refine lv_aload_n hx hb dX4_kind_75 rfl (lv_at hl 0 rfl) ?_
              refine lv_iload_n hx hb dX4_kind_76 rfl (lv_at hl 3 rfl) ?_
              refine lv_iload hx hb dX4_kind_77 (lv_at hl 4 rfl) ?_
              refine kPV (As := [.int x3, .int x4]) (rest := [.int x1, .ref (a 3)]) (ci := 4) S (ctX4_cellAt l g a x3 x4 mw mh mke mnx mdo mtr mma mto mah mrs mab ce (upd mk (x1).toNatClampNeg x2) mo mwa mmc mmf mhy myw myh myr mpi mme mde mwe mla (fX4_cellAt x3 x4 mw mh) rfl) (cwV 2 hts gX4_kind_X4_cellAt rfl rfl rfl (by decide +kernel) ⟨Nat.le_of_ble_eq_true rfl, Nat.le_of_ble_eq_true rfl⟩) hK hP [0, 1, 2, 3, 4, 5, 6, 7, 8, 9, 10, 11, 12, 13, 14, 15] rfl rfl rfl rfl rfl hl.1 rfl (Nat.le_of_ble_eq_true rfl) dX4_kind_79 ⟨Nat.zero_le _, Nat.zero_le _⟩ ?_
              obtain ⟨hi, h⟩ := gdi h
              refine va_iast (D := g.1) hx hb hK.1 hP hD hS 3 0 rfl rfl hi dX4_kind_82 (fun H locs hP hD hS => ?_)
              have hP : va_P g.1 vwCl (wM g a mw mh mke mnx mdo mtr mma mto mah mrs mab ce (upd mk (x1).toNatClampNeg x2) (upd mo (x1).toNatClampNeg (fX4_cellAt x3 x4 mw mh)) mwa mmc mmf mhy myw myh myr mpi mme mde mwe mla) H := hP
              have hD : va_D A (wM g a mw mh mke mnx mdo mtr mma mto mah mrs mab ce (upd mk (x1).toNatClampNeg x2) (upd mo (x1).toNatClampNeg (fX4_cellAt x3 x4 mw mh)) mwa mmc mmf mhy myw myh myr mpi mme mde mwe mla) := hD
              refine lv_iconst (v := 1) hx hb dX4_kind_83 (by decide) ?_
              obtain rfl := Option.some.inj h
              exact retMi (v := (1 : Int32)) hx hb hr hlocks hP hD hS dX4_kind_84
            ·
              replace h := gdp h c68
              refine lv_iconst (v := -1) hx hb dX4_kind_71 (by decide) ?_
              refine lv_goto (tgt := 82) hx hb dX4_kind_72 (by decide) ?_
              obtain ⟨hi, h⟩ := gdi h
              refine va_iast (D := g.1) hx hb hK.1 hP hD hS 3 0 rfl rfl hi dX4_kind_82 (fun H locs hP hD hS => ?_)
              have hP : va_P g.1 vwCl (wM g a mw mh mke mnx mdo mtr mma mto mah mrs mab ce (upd mk (x1).toNatClampNeg x2) (upd mo (x1).toNatClampNeg (-1 : Int32)) mwa mmc mmf mhy myw myh myr mpi mme mde mwe mla) H := hP
              have hD : va_D A (wM g a mw mh mke mnx mdo mtr mma mto mah mrs mab ce (upd mk (x1).toNatClampNeg x2) (upd mo (x1).toNatClampNeg (-1 : Int32)) mwa mmc mmf mhy myw myh myr mpi mme mde mwe mla) := hD
              refine lv_iconst (v := 1) hx hb dX4_kind_83 (by decide) ?_
              obtain rfl := Option.some.inj h
              exact retMi (v := (1 : Int32)) hx hb hr hlocks hP hD hS dX4_kind_84
          ·
            replace h := gdn h c49
            refine lv_bipush (v := -2) hx hb dX4_kind_52 (by decide) ?_
            obtain rfl := Option.some.inj h
            exact retMi (v := (-2 : Int32)) hx hb hr hlocks hP hD hS dX4_kind_54
      ·
        replace h := gdn h c17
        refine lv_aload_n hx hb dX4_kind_20 rfl (lv_at hl 0 rfl) ?_
        refine lv_iload_n hx hb dX4_kind_21 rfl (lv_at hl 3 rfl) ?_
        refine lv_iload hx hb dX4_kind_22 (lv_at hl 4 rfl) ?_
        refine kPV (As := [.int x3, .int x4]) (rest := []) (ci := 4) S (ctX4_isOn l g a x3 x4 mw mh mke mnx mdo mtr mma mto mah mrs mab ce mk mo mwa mmc mmf mhy myw myh myr mpi mme mde mwe mla (fX4_isOn x3 x4 mw mh) rfl) (cwV 2 hts gX4_kind_X4_isOn rfl rfl rfl (by decide +kernel) ⟨Nat.le_of_ble_eq_true rfl, Nat.le_of_ble_eq_true rfl⟩) hK hP [0, 1, 2, 3, 4, 5, 6, 7, 8, 9, 10, 11, 12, 13, 14, 15] rfl rfl rfl rfl rfl hl.1 rfl (Nat.le_of_ble_eq_true rfl) dX4_kind_24 ⟨Nat.zero_le _, Nat.zero_le _⟩ ?_
        refine lv_if_ne (tgt := 32) hx hb dX4_kind_27 (by decide) (fun c27 => ?_) (fun c27 => ?_)
        ·
          replace h := gdn h c27
          refine lv_iload_n hx hb dX4_kind_32 rfl (lv_at hl 2 rfl) ?_
          refine lv_if_le (tgt := 55) hx hb dX4_kind_33 (by decide) (fun c33 => ?_) (fun c33 => ?_)
          ·
            replace h := gdp h c33
            refine lv_aload_n hx hb dX4_kind_55 rfl (lv_at hl 0 rfl) ?_
            refine va_get (D := g.1) (ci := 4) (v := .ref (a 2)) (C := RX4) (T := TX4) (N := 26) hx hb hts iX4 hown hK.1 hP 0 rfl rfl 3 (by decide) f20 (fun _ h9 => h9) rfl dX4_kind_56 ?_
            refine lv_iload_n hx hb dX4_kind_59 rfl (lv_at hl 1 rfl) ?_
            refine lv_iload_n hx hb dX4_kind_60 rfl (lv_at hl 2 rfl) ?_
            obtain ⟨hi, h⟩ := gdi h
            refine va_iast (D := g.1) hx hb hK.1 hP hD hS 2 0 rfl rfl hi dX4_kind_61 (fun H locs hP hD hS => ?_)
            have hP : va_P g.1 vwCl (wM g a mw mh mke mnx mdo mtr mma mto mah mrs mab ce (upd mk (x1).toNatClampNeg x2) mo mwa mmc mmf mhy myw myh myr mpi mme mde mwe mla) H := hP
            have hD : va_D A (wM g a mw mh mke mnx mdo mtr mma mto mah mrs mab ce (upd mk (x1).toNatClampNeg x2) mo mwa mmc mmf mhy myw myh myr mpi mme mde mwe mla) := hD
            refine lv_aload_n hx hb dX4_kind_62 rfl (lv_at hl 0 rfl) ?_
            refine va_get (D := g.1) (ci := 4) (v := .ref (a 3)) (C := RX4) (T := TX4) (N := 26) hx hb hts iX4 hown hK.1 hP 0 rfl rfl 4 (by decide) f23 (fun _ h9 => h9) rfl dX4_kind_63 ?_
            refine lv_iload_n hx hb dX4_kind_66 rfl (lv_at hl 1 rfl) ?_
            refine lv_iload_n hx hb dX4_kind_67 rfl (lv_at hl 2 rfl) ?_
            refine lv_if_ne (tgt := 75) hx hb dX4_kind_68 (by decide) (fun c68 => ?_) (fun c68 => ?_)
            ·
              replace h := gdn h c68
              refine lv_aload_n hx hb dX4_kind_75 rfl (lv_at hl 0 rfl) ?_
              refine lv_iload_n hx hb dX4_kind_76 rfl (lv_at hl 3 rfl) ?_
              refine lv_iload hx hb dX4_kind_77 (lv_at hl 4 rfl) ?_
              refine kPV (As := [.int x3, .int x4]) (rest := [.int x1, .ref (a 3)]) (ci := 4) S (ctX4_cellAt l g a x3 x4 mw mh mke mnx mdo mtr mma mto mah mrs mab ce (upd mk (x1).toNatClampNeg x2) mo mwa mmc mmf mhy myw myh myr mpi mme mde mwe mla (fX4_cellAt x3 x4 mw mh) rfl) (cwV 2 hts gX4_kind_X4_cellAt rfl rfl rfl (by decide +kernel) ⟨Nat.le_of_ble_eq_true rfl, Nat.le_of_ble_eq_true rfl⟩) hK hP [0, 1, 2, 3, 4, 5, 6, 7, 8, 9, 10, 11, 12, 13, 14, 15] rfl rfl rfl rfl rfl hl.1 rfl (Nat.le_of_ble_eq_true rfl) dX4_kind_79 ⟨Nat.zero_le _, Nat.zero_le _⟩ ?_
              obtain ⟨hi, h⟩ := gdi h
              refine va_iast (D := g.1) hx hb hK.1 hP hD hS 3 0 rfl rfl hi dX4_kind_82 (fun H locs hP hD hS => ?_)
              have hP : va_P g.1 vwCl (wM g a mw mh mke mnx mdo mtr mma mto mah mrs mab ce (upd mk (x1).toNatClampNeg x2) (upd mo (x1).toNatClampNeg (fX4_cellAt x3 x4 mw mh)) mwa mmc mmf mhy myw myh myr mpi mme mde mwe mla) H := hP
              have hD : va_D A (wM g a mw mh mke mnx mdo mtr mma mto mah mrs mab ce (upd mk (x1).toNatClampNeg x2) (upd mo (x1).toNatClampNeg (fX4_cellAt x3 x4 mw mh)) mwa mmc mmf mhy myw myh myr mpi mme mde mwe mla) := hD
              refine lv_iconst (v := 1) hx hb dX4_kind_83 (by decide) ?_
              obtain rfl := Option.some.inj h
              exact retMi (v := (1 : Int32)) hx hb hr hlocks hP hD hS dX4_kind_84
            ·
              replace h := gdp h c68
              refine lv_iconst (v := -1) hx hb dX4_kind_71 (by decide) ?_
              refine lv_goto (tgt := 82) hx hb dX4_kind_72 (by decide) ?_
              obtain ⟨hi, h⟩ := gdi h
              refine va_iast (D := g.1) hx hb hK.1 hP hD hS 3 0 rfl rfl hi dX4_kind_82 (fun H locs hP hD hS => ?_)
              have hP : va_P g.1 vwCl (wM g a mw mh mke mnx mdo mtr mma mto mah mrs mab ce (upd mk (x1).toNatClampNeg x2) (upd mo (x1).toNatClampNeg (-1 : Int32)) mwa mmc mmf mhy myw myh myr mpi mme mde mwe mla) H := hP
              have hD : va_D A (wM g a mw mh mke mnx mdo mtr mma mto mah mrs mab ce (upd mk (x1).toNatClampNeg x2) (upd mo (x1).toNatClampNeg (-1 : Int32)) mwa mmc mmf mhy myw myh myr mpi mme mde mwe mla) := hD
              refine lv_iconst (v := 1) hx hb dX4_kind_83 (by decide) ?_
              obtain rfl := Option.some.inj h
              exact retMi (v := (1 : Int32)) hx hb hr hlocks hP hD hS dX4_kind_84
          ·
            replace h := gdn h c33
            refine lv_aload_n hx hb dX4_kind_36 rfl (lv_at hl 0 rfl) ?_
            refine va_get (D := g.1) (ci := 4) (v := .ref (a 1)) (C := RX4) (T := TX4) (N := 26) hx hb hts iX4 hown hK.1 hP 0 rfl rfl 2 (by decide) f16 (fun _ h9 => h9) rfl dX4_kind_37 ?_
            refine lv_aload_n hx hb dX4_kind_40 rfl (lv_at hl 0 rfl) ?_
            refine lv_iload_n hx hb dX4_kind_41 rfl (lv_at hl 3 rfl) ?_
            refine lv_iload hx hb dX4_kind_42 (lv_at hl 4 rfl) ?_
            refine kPV (As := [.int x3, .int x4]) (rest := [.ref (a 1)]) (ci := 4) S (ctX4_cellAt l g a x3 x4 mw mh mke mnx mdo mtr mma mto mah mrs mab ce mk mo mwa mmc mmf mhy myw myh myr mpi mme mde mwe mla (fX4_cellAt x3 x4 mw mh) rfl) (cwV 2 hts gX4_kind_X4_cellAt rfl rfl rfl (by decide +kernel) ⟨Nat.le_of_ble_eq_true rfl, Nat.le_of_ble_eq_true rfl⟩) hK hP [0, 1, 2, 3, 4, 5, 6, 7, 8, 9, 10, 11, 12, 13, 14, 15] rfl rfl rfl rfl rfl hl.1 rfl (Nat.le_of_ble_eq_true rfl) dX4_kind_44 ⟨Nat.zero_le _, Nat.zero_le _⟩ ?_
            obtain ⟨hi, h⟩ := gdi h
            refine va_iald (D := g.1) hx hb hK.1 hP 1 0 rfl rfl hi dX4_kind_47 ?_
            refine lv_iload_n hx hb dX4_kind_48 rfl (lv_at hl 1 rfl) ?_
            refine lv_icmp_eq (tgt := 55) hx hb dX4_kind_49 (by decide) (fun c49 => ?_) (fun c49 => ?_)
            ·
              replace h := gdp h c49
              refine lv_aload_n hx hb dX4_kind_55 rfl (lv_at hl 0 rfl) ?_
              refine va_get (D := g.1) (ci := 4) (v := .ref (a 2)) (C := RX4) (T := TX4) (N := 26) hx hb hts iX4 hown hK.1 hP 0 rfl rfl 3 (by decide) f20 (fun _ h9 => h9) rfl dX4_kind_56 ?_
              refine lv_iload_n hx hb dX4_kind_59 rfl (lv_at hl 1 rfl) ?_
              refine lv_iload_n hx hb dX4_kind_60 rfl (lv_at hl 2 rfl) ?_
              obtain ⟨hi, h⟩ := gdi h
              refine va_iast (D := g.1) hx hb hK.1 hP hD hS 2 0 rfl rfl hi dX4_kind_61 (fun H locs hP hD hS => ?_)
              have hP : va_P g.1 vwCl (wM g a mw mh mke mnx mdo mtr mma mto mah mrs mab ce (upd mk (x1).toNatClampNeg x2) mo mwa mmc mmf mhy myw myh myr mpi mme mde mwe mla) H := hP
              have hD : va_D A (wM g a mw mh mke mnx mdo mtr mma mto mah mrs mab ce (upd mk (x1).toNatClampNeg x2) mo mwa mmc mmf mhy myw myh myr mpi mme mde mwe mla) := hD
              refine lv_aload_n hx hb dX4_kind_62 rfl (lv_at hl 0 rfl) ?_
              refine va_get (D := g.1) (ci := 4) (v := .ref (a 3)) (C := RX4) (T := TX4) (N := 26) hx hb hts iX4 hown hK.1 hP 0 rfl rfl 4 (by decide) f23 (fun _ h9 => h9) rfl dX4_kind_63 ?_
              refine lv_iload_n hx hb dX4_kind_66 rfl (lv_at hl 1 rfl) ?_
              refine lv_iload_n hx hb dX4_kind_67 rfl (lv_at hl 2 rfl) ?_
              refine lv_if_ne (tgt := 75) hx hb dX4_kind_68 (by decide) (fun c68 => ?_) (fun c68 => ?_)
              ·
                replace h := gdn h c68
                refine lv_aload_n hx hb dX4_kind_75 rfl (lv_at hl 0 rfl) ?_
                refine lv_iload_n hx hb dX4_kind_76 rfl (lv_at hl 3 rfl) ?_
                refine lv_iload hx hb dX4_kind_77 (lv_at hl 4 rfl) ?_
                refine kPV (As := [.int x3, .int x4]) (rest := [.int x1, .ref (a 3)]) (ci := 4) S (ctX4_cellAt l g a x3 x4 mw mh mke mnx mdo mtr mma mto mah mrs mab ce (upd mk (x1).toNatClampNeg x2) mo mwa mmc mmf mhy myw myh myr mpi mme mde mwe mla (fX4_cellAt x3 x4 mw mh) rfl) (cwV 2 hts gX4_kind_X4_cellAt rfl rfl rfl (by decide +kernel) ⟨Nat.le_of_ble_eq_true rfl, Nat.le_of_ble_eq_true rfl⟩) hK hP [0, 1, 2, 3, 4, 5, 6, 7, 8, 9, 10, 11, 12, 13, 14, 15] rfl rfl rfl rfl rfl hl.1 rfl (Nat.le_of_ble_eq_true rfl) dX4_kind_79 ⟨Nat.zero_le _, Nat.zero_le _⟩ ?_
                obtain ⟨hi, h⟩ := gdi h
                refine va_iast (D := g.1) hx hb hK.1 hP hD hS 3 0 rfl rfl hi dX4_kind_82 (fun H locs hP hD hS => ?_)
                have hP : va_P g.1 vwCl (wM g a mw mh mke mnx mdo mtr mma mto mah mrs mab ce (upd mk (x1).toNatClampNeg x2) (upd mo (x1).toNatClampNeg (fX4_cellAt x3 x4 mw mh)) mwa mmc mmf mhy myw myh myr mpi mme mde mwe mla) H := hP
                have hD : va_D A (wM g a mw mh mke mnx mdo mtr mma mto mah mrs mab ce (upd mk (x1).toNatClampNeg x2) (upd mo (x1).toNatClampNeg (fX4_cellAt x3 x4 mw mh)) mwa mmc mmf mhy myw myh myr mpi mme mde mwe mla) := hD
                refine lv_iconst (v := 1) hx hb dX4_kind_83 (by decide) ?_
                obtain rfl := Option.some.inj h
                exact retMi (v := (1 : Int32)) hx hb hr hlocks hP hD hS dX4_kind_84
              ·
                replace h := gdp h c68
                refine lv_iconst (v := -1) hx hb dX4_kind_71 (by decide) ?_
                refine lv_goto (tgt := 82) hx hb dX4_kind_72 (by decide) ?_
                obtain ⟨hi, h⟩ := gdi h
                refine va_iast (D := g.1) hx hb hK.1 hP hD hS 3 0 rfl rfl hi dX4_kind_82 (fun H locs hP hD hS => ?_)
                have hP : va_P g.1 vwCl (wM g a mw mh mke mnx mdo mtr mma mto mah mrs mab ce (upd mk (x1).toNatClampNeg x2) (upd mo (x1).toNatClampNeg (-1 : Int32)) mwa mmc mmf mhy myw myh myr mpi mme mde mwe mla) H := hP
                have hD : va_D A (wM g a mw mh mke mnx mdo mtr mma mto mah mrs mab ce (upd mk (x1).toNatClampNeg x2) (upd mo (x1).toNatClampNeg (-1 : Int32)) mwa mmc mmf mhy myw myh myr mpi mme mde mwe mla) := hD
                refine lv_iconst (v := 1) hx hb dX4_kind_83 (by decide) ?_
                obtain rfl := Option.some.inj h
                exact retMi (v := (1 : Int32)) hx hb hr hlocks hP hD hS dX4_kind_84
            ·
              replace h := gdn h c49
              refine lv_bipush (v := -2) hx hb dX4_kind_52 (by decide) ?_
              obtain rfl := Option.some.inj h
              exact retMi (v := (-2 : Int32)) hx hb hr hlocks hP hD hS dX4_kind_54
        ·
          replace h := gdp h c27
          refine lv_iconst (v := -1) hx hb dX4_kind_30 (by decide) ?_
          obtain rfl := Option.some.inj h
          exact retMi (v := (-1 : Int32)) hx hb hr hlocks hP hD hS dX4_kind_31
-- LandBoardModel.about
set_option maxHeartbeats 4000000 in
set_option maxRecDepth 100000 in
theorem ctX4_about (l : Launch) (g : GG) (a : Nat → Nat) (x1 : Int32) (x2 : Int32) (mw : Int32) (mh : Int32) (mke : Int32) (mnx : Int32) (mdo : Int32) (mtr : Int64) (mma : Int32) (mto : Int32) (mah : Int32) (mrs : Int32) (mab : Int32) (ce : (Nat → Int32)) (mk : (Nat → Int32)) (mo : (Nat → Int32)) (mwa : (Nat → Int32)) (mmc : (Nat → Int32)) (mmf : (Nat → Int32)) (mhy : (Nat → Int32)) (myw : (Nat → Int32)) (myh : (Nat → Int32)) (myr : (Nat → Int32)) (mpi : (Nat → Int32)) (mme : (Nat → Int32)) (mde : (Nat → Int32)) (mwe : (Nat → Int32)) (mla : (Nat → Int32)) (res : Int32) (h : fX4_about x1 x2 mw mk mo mwa = some res) : MP l yX4_about wsX4_about ({ frames := 2, cells := 0, slots := 0, locals := 42 }) g [.ref (a 0), .int x1, .int x2] (wM g a mw mh mke mnx mdo mtr mma mto mah mrs mab ce mk mo mwa mmc mmf mhy myw myh myr mpi mme mde mwe mla) (.int res) := by
  refine MP.of (cc := cX4_about) (own := RX4) 3 (some .int) (by decide +kernel) rfl (Nat.le_of_ble_eq_true rfl) rfl ?_
  intro p e s m args below meth c hx hb hr hml hown hts hlocks hP hK ls hl
  have S : CallFix p m c cX4_about 3 s args wsX4_about RX4 := ⟨hx, hb, hml, hown, hts⟩
  have hl : lv_has ls 3 [(0, .ref (a 0)), (1, .int x1), (2, .int x2)] := hl
  have f20 := hts (.fieldLink RX4 20 "LandBoardModel" "kind" "[I") (by decide +kernel)
  have iX4 := (by decide +kernel : ∀ w ∈ u_ws RX4 TX4 26, w ∈ wsX4_about)
  have f23 := hts (.fieldLink RX4 23 "LandBoardModel" "own" "[I") (by decide +kernel)
  have f7 := hts (.fieldLink RX4 7 "LandBoardModel" "w" "I") (by decide +kernel)
  have f26 := hts (.fieldLink RX4 26 "LandBoardModel" "wanted" "[I") (by decide +kernel)
  refine lv_iload_n hx hb dX4_about_0 rfl (lv_at hl 1 rfl) ?_
  refine kPS (As := [.int x1]) (rest := []) S (ctX4_isLand l g x1  (fX4_isLand x1) rfl) (va_cwS 1 hts gX4_about_X4_isLand rfl rfl rfl (by decide +kernel) ⟨Nat.le_of_ble_eq_true rfl, Nat.le_of_ble_eq_true rfl⟩) hK rfl rfl hl.1 rfl (Nat.le_of_ble_eq_true rfl) dX4_about_1 ⟨Nat.zero_le _, Nat.zero_le _⟩ ?_
  refine lv_if_ne (tgt := 9) hx hb dX4_about_4 (by decide) (fun c4 => ?_) (fun c4 => ?_)
  ·
    replace h := gdn h c4
    refine lv_iload_n hx hb dX4_about_9 rfl (lv_at hl 2 rfl) ?_
    by_cases c10_0 : x2 = (0 : Int32)
    ·
      replace h := gdp h c10_0
      refine tswIn (tgt := 40) (off := 30) (0 : Int32) c10_0 hx hb dX4_about_10 (by decide) (by decide) rfl (by decide) ?_
      refine lv_aload_n hx hb dX4_about_40 rfl (lv_at hl 0 rfl) ?_
      refine va_get (D := g.1) (ci := 4) (v := .ref (a 2)) (C := RX4) (T := TX4) (N := 26) hx hb hts iX4 hown hK.1 hP 0 rfl rfl 3 (by decide) f20 (fun _ h9 => h9) rfl dX4_about_41 ?_
      refine lv_iload_n hx hb dX4_about_44 rfl (lv_at hl 1 rfl) ?_
      obtain ⟨hi, h⟩ := gdi h
      refine va_iald (D := g.1) hx hb hK.1 hP 2 0 rfl rfl hi dX4_about_45 ?_
      obtain rfl := Option.some.inj h
      exact retPi hx hb hr hlocks dX4_about_46
    replace h := gdn h c10_0
    by_cases c10_1 : x2 = (1 : Int32)
    ·
      replace h := gdp h c10_1
      refine tswIn (tgt := 47) (off := 37) (1 : Int32) c10_1 hx hb dX4_about_10 (by decide) (by decide) rfl (by decide) ?_
      refine lv_aload_n hx hb dX4_about_47 rfl (lv_at hl 0 rfl) ?_
      refine va_get (D := g.1) (ci := 4) (v := .ref (a 3)) (C := RX4) (T := TX4) (N := 26) hx hb hts iX4 hown hK.1 hP 0 rfl rfl 4 (by decide) f23 (fun _ h9 => h9) rfl dX4_about_48 ?_
      refine lv_iload_n hx hb dX4_about_51 rfl (lv_at hl 1 rfl) ?_
      obtain ⟨hi, h⟩ := gdi h
      refine va_iald (D := g.1) hx hb hK.1 hP 3 0 rfl rfl hi dX4_about_52 ?_
      refine lv_if_ge (tgt := 61) hx hb dX4_about_53 (by decide) (fun c53 => ?_) (fun c53 => ?_)
      ·
        replace h := gdp h c53
        refine lv_aload_n hx hb dX4_about_61 rfl (lv_at hl 0 rfl) ?_
        refine va_get (D := g.1) (ci := 4) (v := .ref (a 3)) (C := RX4) (T := TX4) (N := 26) hx hb hts iX4 hown hK.1 hP 0 rfl rfl 4 (by decide) f23 (fun _ h9 => h9) rfl dX4_about_62 ?_
        refine lv_iload_n hx hb dX4_about_65 rfl (lv_at hl 1 rfl) ?_
        obtain ⟨hi, h⟩ := gdi h
        refine va_iald (D := g.1) hx hb hK.1 hP 3 0 rfl rfl hi dX4_about_66 ?_
        refine lv_aload_n hx hb dX4_about_67 rfl (lv_at hl 0 rfl) ?_
        refine va_get (D := g.1) (ci := 4) (v := .int mw) (C := RX4) (T := TX4) (N := 26) hx hb hts iX4 hown hK.1 hP 0 rfl rfl 0 (by decide) f7 (fun _ h9 => h9) rfl dX4_about_68 ?_
        obtain ⟨hz, h⟩ := gdz h
        refine lv_irem hx hb dX4_about_71 hz ?_
        obtain rfl := Option.some.inj h
        exact retPi hx hb hr hlocks dX4_about_72
      ·
        replace h := gdn h c53
        refine lv_bipush (v := -9) hx hb dX4_about_56 (by decide) ?_
        refine lv_goto (tgt := 72) hx hb dX4_about_58 (by decide) ?_
        obtain rfl := Option.some.inj h
        exact retPi (v := (-9 : Int32)) hx hb hr hlocks dX4_about_72
    replace h := gdn h c10_1
    by_cases c10_2 : x2 = (2 : Int32)
    ·
      replace h := gdp h c10_2
      refine tswIn (tgt := 73) (off := 63) (2 : Int32) c10_2 hx hb dX4_about_10 (by decide) (by decide) rfl (by decide) ?_
      refine lv_aload_n hx hb dX4_about_73 rfl (lv_at hl 0 rfl) ?_
      refine va_get (D := g.1) (ci := 4) (v := .ref (a 3)) (C := RX4) (T := TX4) (N := 26) hx hb hts iX4 hown hK.1 hP 0 rfl rfl 4 (by decide) f23 (fun _ h9 => h9) rfl dX4_about_74 ?_
      refine lv_iload_n hx hb dX4_about_77 rfl (lv_at hl 1 rfl) ?_
      obtain ⟨hi, h⟩ := gdi h
      refine va_iald (D := g.1) hx hb hK.1 hP 3 0 rfl rfl hi dX4_about_78 ?_
      refine lv_if_ge (tgt := 87) hx hb dX4_about_79 (by decide) (fun c79 => ?_) (fun c79 => ?_)
      ·
        replace h := gdp h c79
        refine lv_aload_n hx hb dX4_about_87 rfl (lv_at hl 0 rfl) ?_
        refine va_get (D := g.1) (ci := 4) (v := .ref (a 3)) (C := RX4) (T := TX4) (N := 26) hx hb hts iX4 hown hK.1 hP 0 rfl rfl 4 (by decide) f23 (fun _ h9 => h9) rfl dX4_about_88 ?_
        refine lv_iload_n hx hb dX4_about_91 rfl (lv_at hl 1 rfl) ?_
        obtain ⟨hi, h⟩ := gdi h
        refine va_iald (D := g.1) hx hb hK.1 hP 3 0 rfl rfl hi dX4_about_92 ?_
        refine lv_aload_n hx hb dX4_about_93 rfl (lv_at hl 0 rfl) ?_
        refine va_get (D := g.1) (ci := 4) (v := .int mw) (C := RX4) (T := TX4) (N := 26) hx hb hts iX4 hown hK.1 hP 0 rfl rfl 0 (by decide) f7 (fun _ h9 => h9) rfl dX4_about_94 ?_
        obtain ⟨hz, h⟩ := gdz h
        refine lv_idiv hx hb dX4_about_97 hz ?_
        obtain rfl := Option.some.inj h
        exact retPi hx hb hr hlocks dX4_about_98
      ·
        replace h := gdn h c79
        refine lv_bipush (v := -9) hx hb dX4_about_82 (by decide) ?_
        refine lv_goto (tgt := 98) hx hb dX4_about_84 (by decide) ?_
        obtain rfl := Option.some.inj h
        exact retPi (v := (-9 : Int32)) hx hb hr hlocks dX4_about_98
    replace h := gdn h c10_2
    by_cases c10_3 : x2 = (3 : Int32)
    ·
      replace h := gdp h c10_3
      refine tswIn (tgt := 99) (off := 89) (3 : Int32) c10_3 hx hb dX4_about_10 (by decide) (by decide) rfl (by decide) ?_
      refine lv_aload_n hx hb dX4_about_99 rfl (lv_at hl 0 rfl) ?_
      refine va_get (D := g.1) (ci := 4) (v := .ref (a 4)) (C := RX4) (T := TX4) (N := 26) hx hb hts iX4 hown hK.1 hP 0 rfl rfl 5 (by decide) f26 (fun _ h9 => h9) rfl dX4_about_100 ?_
      refine lv_iload_n hx hb dX4_about_103 rfl (lv_at hl 1 rfl) ?_
      obtain ⟨hi, h⟩ := gdi h
      refine va_iald (D := g.1) hx hb hK.1 hP 4 0 rfl rfl hi dX4_about_104 ?_
      obtain rfl := Option.some.inj h
      exact retPi hx hb hr hlocks dX4_about_105
    replace h := gdn h c10_3
    refine lv_tableOut (tgt := 106) hx hb dX4_about_10 (tsw_out (n := 4) (fun k hk => by match k, hk with | 0, _ => exact c10_0 | 1, _ => exact c10_1 | 2, _ => exact c10_2 | 3, _ => exact c10_3 | (k + 4), hk => exact absurd hk (by omega)) (by decide)) (by decide) ?_
    refine lv_iconst (v := -1) hx hb dX4_about_106 (by decide) ?_
    obtain rfl := Option.some.inj h
    exact retPi (v := (-1 : Int32)) hx hb hr hlocks dX4_about_107
  ·
    replace h := gdp h c4
    refine lv_iconst (v := -1) hx hb dX4_about_7 (by decide) ?_
    obtain rfl := Option.some.inj h
    exact retPi (v := (-1 : Int32)) hx hb hr hlocks dX4_about_8
-- LandBoardModel.doesLeave
set_option maxHeartbeats 4000000 in
set_option maxRecDepth 100000 in
theorem ctX4_doesLeave (l : Launch) (g : GG) (a : Nat → Nat) (x1 : Int32) (mw : Int32) (mh : Int32) (mke : Int32) (mnx : Int32) (mdo : Int32) (mtr : Int64) (mma : Int32) (mto : Int32) (mah : Int32) (mrs : Int32) (mab : Int32) (ce : (Nat → Int32)) (mk : (Nat → Int32)) (mo : (Nat → Int32)) (mwa : (Nat → Int32)) (mmc : (Nat → Int32)) (mmf : (Nat → Int32)) (mhy : (Nat → Int32)) (myw : (Nat → Int32)) (myh : (Nat → Int32)) (myr : (Nat → Int32)) (mpi : (Nat → Int32)) (mme : (Nat → Int32)) (mde : (Nat → Int32)) (mwe : (Nat → Int32)) (mla : (Nat → Int32)) (res : Int32 × (Nat → Int32) × (Nat → Int32) × (Nat → Int32)) (h : fX4_doesLeave x1 mw mh ce mk mo mpi mme = some res) : MM l yX4_doesLeave wsX4_doesLeave ({ frames := 5, cells := 0, slots := 0, locals := 117 }) g [.ref (a 0), .int x1] (wM g a mw mh mke mnx mdo mtr mma mto mah mrs mab ce mk mo mwa mmc mmf mhy myw myh myr mpi mme mde mwe mla) (wM g a mw mh mke mnx mdo mtr mma mto mah mrs mab res.2.1 mk mo mwa mmc mmf mhy myw myh myr res.2.2.1 res.2.2.2 mde mwe mla) (some (.int res.1)) := by
  refine MM.of (cc := cX4_doesLeave) (own := RX4) 8 (some .boolean) (by decide +kernel) rfl (Nat.le_of_ble_eq_true rfl) rfl ?_
  intro p e s m args below meth c hx hb hr hml hown hts hlocks hK A hA ls hl hP hD hS
  have S : CallFix p m c cX4_doesLeave 8 s args wsX4_doesLeave RX4 := ⟨hx, hb, hml, hown, hts⟩
  have hl : lv_has ls 8 [(0, .ref (a 0)), (1, .int x1)] := hl
  have f16 := hts (.fieldLink RX4 16 "LandBoardModel" "cells" "[I") (by decide +kernel)
  have iX4 := (by decide +kernel : ∀ w ∈ u_ws RX4 TX4 26, w ∈ wsX4_doesLeave)
  have f20 := hts (.fieldLink RX4 20 "LandBoardModel" "kind" "[I") (by decide +kernel)
  have f23 := hts (.fieldLink RX4 23 "LandBoardModel" "own" "[I") (by decide +kernel)
  have f7 := hts (.fieldLink RX4 7 "LandBoardModel" "w" "I") (by decide +kernel)
  have f13 := hts (.fieldLink RX4 13 "LandBoardModel" "h" "I") (by decide +kernel)
  refine lv_aload_n hx hb dX4_doesLeave_0 rfl (lv_at hl 0 rfl) ?_
  refine va_get (D := g.1) (ci := 4) (v := .ref (a 1)) (C := RX4) (T := TX4) (N := 26) hx hb hts iX4 hown hK.1 hP 0 rfl rfl 2 (by decide) f16 (fun _ h9 => h9) rfl dX4_doesLeave_1 ?_
  refine lv_iload_n hx hb dX4_doesLeave_4 rfl (lv_at hl 1 rfl) ?_
  obtain ⟨hi, h⟩ := gdi h
  refine va_iald (D := g.1) hx hb hK.1 hP 1 0 rfl rfl hi dX4_doesLeave_5 ?_
  refine lv_istore_n (lv' := [(2, .int (ce (x1).toNatClampNeg)), (0, .ref (a 0)), (1, .int x1)]) hx hb dX4_doesLeave_6 rfl hl (by decide) rfl (fun ls hl => ?_)
  refine lv_aload_n hx hb dX4_doesLeave_7 rfl (lv_at hl 1 rfl) ?_
  refine va_get (D := g.1) (ci := 4) (v := .ref (a 1)) (C := RX4) (T := TX4) (N := 26) hx hb hts iX4 hown hK.1 hP 0 rfl rfl 2 (by decide) f16 (fun _ h9 => h9) rfl dX4_doesLeave_8 ?_
  refine lv_iload_n hx hb dX4_doesLeave_11 rfl (lv_at hl 2 rfl) ?_
  refine lv_bipush (v := 7) hx hb dX4_doesLeave_12 (by decide) ?_
  obtain ⟨hi, h⟩ := gdi h
  refine va_iast (D := g.1) hx hb hK.1 hP hD hS 1 0 rfl rfl hi dX4_doesLeave_14 (fun H locs hP hD hS => ?_)
  have hP : va_P g.1 vwCl (wM g a mw mh mke mnx mdo mtr mma mto mah mrs mab (upd ce (x1).toNatClampNeg (7 : Int32)) mk mo mwa mmc mmf mhy myw myh myr mpi mme mde mwe mla) H := hP
  have hD : va_D A (wM g a mw mh mke mnx mdo mtr mma mto mah mrs mab (upd ce (x1).toNatClampNeg (7 : Int32)) mk mo mwa mmc mmf mhy myw myh myr mpi mme mde mwe mla) := hD
  refine lv_aload_n hx hb dX4_doesLeave_15 rfl (lv_at hl 1 rfl) ?_
  refine lv_iload_n hx hb dX4_doesLeave_16 rfl (lv_at hl 0 rfl) ?_
  obtain ⟨r17, hr17, h⟩ := gdb h
  refine kMV (As := [.int (ce (x1).toNatClampNeg)]) (rest := []) (ci := 4) (W1 := (wM g a mw mh mke mnx mdo mtr mma mto mah mrs mab (upd ce (x1).toNatClampNeg (7 : Int32)) mk mo mwa mmc mmf mhy myw myh myr r17.2.1 r17.2.2 mde mwe mla)) (wr := []) S (ctX4_isWhole l g a (ce (x1).toNatClampNeg) mw mh mke mnx mdo mtr mma mto mah mrs mab (upd ce (x1).toNatClampNeg (7 : Int32)) mk mo mwa mmc mmf mhy myw myh myr mpi mme mde mwe mla r17 hr17) (cwV 1 hts gX4_doesLeave_X4_isWhole rfl rfl rfl (by decide +kernel) ⟨Nat.le_of_ble_eq_true rfl, Nat.le_of_ble_eq_true rfl⟩) hK hP hD hS hA [0, 1, 2, 3, 4, 5, 6, 7, 8, 9, 10, 11, 12, 13, 14, 15] [] [0, 1, 2, 3, 4, 5, 6, 7, 8, 9, 10, 11, 12, 13, 14, 15] rfl rfl rfl rfl (by decide) rfl rfl rfl rfl rfl rfl hl.1 rfl (Nat.le_of_ble_eq_true rfl) dX4_doesLeave_17 ⟨Nat.zero_le _, Nat.zero_le _⟩ (fun H locs hP hD hS => ?_)
  show W p l e ({ frames := 5, cells := 0, slots := 0, locals := 117 }) s m args below meth c H locs 0 0 (MQ below (QM g (some (.int res.1)) (wM g a mw mh mke mnx mdo mtr mma mto mah mrs mab res.2.1 mk mo mwa mmc mmf mhy myw myh myr res.2.2.1 res.2.2.2 mde mwe mla) A) args s 0 0 A) (F0 m 20 ls [.int r17.1])
  refine lv_istore_n (lv' := [(3, .int r17.1), (2, .int (ce (x1).toNatClampNeg)), (0, .ref (a 0)), (1, .int x1)]) hx hb dX4_doesLeave_20 rfl hl (by decide) rfl (fun ls hl => ?_)
  refine lv_iconst (v := 0) hx hb dX4_doesLeave_21 (by decide) ?_
  refine lv_istore (lv' := [(4, .int (0 : Int32)), (3, .int r17.1), (2, .int (ce (x1).toNatClampNeg)), (0, .ref (a 0)), (1, .int x1)]) hx hb dX4_doesLeave_22 hl (by decide) rfl (fun ls hl => ?_)
  refine lv_iconst (v := 0) hx hb dX4_doesLeave_24 (by decide) ?_
  refine lv_istore (lv' := [(5, .int (0 : Int32)), (4, .int (0 : Int32)), (3, .int r17.1), (2, .int (ce (x1).toNatClampNeg)), (0, .ref (a 0)), (1, .int x1)]) hx hb dX4_doesLeave_25 hl (by decide) rfl (fun ls hl => ?_)
  obtain ⟨t27, hw27, h⟩ := gdb h
  have X27 : ∀ (H : Heap) (locs : List Loc) (ls : Array Slot), va_P g.1 vwCl (wM g a mw mh mke mnx mdo mtr mma mto mah mrs mab (upd ce (x1).toNatClampNeg (7 : Int32)) mk mo mwa mmc mmf mhy myw myh myr r17.2.1 r17.2.2 mde mwe mla) H → va_D A (wM g a mw mh mke mnx mdo mtr mma mto mah mrs mab (upd ce (x1).toNatClampNeg (7 : Int32)) mk mo mwa mmc mmf mhy myw myh myr r17.2.1 r17.2.2 mde mwe mla) → va_S A s.heap H locs → lv_has ls 8 [(0, .ref (a 0)), (1, .int x1), (2, .int (ce (x1).toNatClampNeg)), (3, .int r17.1), (4, .int t27)] → W p l e ({ frames := 5, cells := 0, slots := 0, locals := 117 }) s m args below meth c H locs 0 0 (MQ below (QM g (some (.int res.1)) (wM g a mw mh mke mnx mdo mtr mma mto mah mrs mab res.2.1 mk mo mwa mmc mmf mhy myw myh myr res.2.2.1 res.2.2.2 mde mwe mla) A) args s 0 0 A) (F0 m 112 ls []) := by
    intro H locs ls hP hD hS hl
    refine lv_aload_n hx hb dX4_doesLeave_112 rfl (lv_at hl 0 rfl) ?_
    refine va_get (D := g.1) (ci := 4) (v := .ref (a 1)) (C := RX4) (T := TX4) (N := 26) hx hb hts iX4 hown hK.1 hP 0 rfl rfl 2 (by decide) f16 (fun _ h9 => h9) rfl dX4_doesLeave_113 ?_
    refine lv_iload_n hx hb dX4_doesLeave_116 rfl (lv_at hl 1 rfl) ?_
    refine lv_iload_n hx hb dX4_doesLeave_117 rfl (lv_at hl 2 rfl) ?_
    obtain ⟨hi, h⟩ := gdi h
    refine va_iast (D := g.1) hx hb hK.1 hP hD hS 1 0 rfl rfl hi dX4_doesLeave_118 (fun H locs hP hD hS => ?_)
    have hP : va_P g.1 vwCl (wM g a mw mh mke mnx mdo mtr mma mto mah mrs mab (upd (upd ce (x1).toNatClampNeg (7 : Int32)) (x1).toNatClampNeg (ce (x1).toNatClampNeg)) mk mo mwa mmc mmf mhy myw myh myr r17.2.1 r17.2.2 mde mwe mla) H := hP
    have hD : va_D A (wM g a mw mh mke mnx mdo mtr mma mto mah mrs mab (upd (upd ce (x1).toNatClampNeg (7 : Int32)) (x1).toNatClampNeg (ce (x1).toNatClampNeg)) mk mo mwa mmc mmf mhy myw myh myr r17.2.1 r17.2.2 mde mwe mla) := hD
    refine lv_iload_n hx hb dX4_doesLeave_119 rfl (lv_at hl 3 rfl) ?_
    refine lv_if_eq (tgt := 161) hx hb dX4_doesLeave_120 (by decide) (fun c120 => ?_) (fun c120 => ?_)
    ·
      replace h := gdp h c120
      refine lv_iconst (v := 0) hx hb dX4_doesLeave_161 (by decide) ?_
      obtain rfl := Option.some.inj h
      exact retMz (v := (0 : Int32)) hx hb hr hlocks rfl hP hD hS dX4_doesLeave_162
    ·
      replace h := gdn h c120
      refine lv_aload_n hx hb dX4_doesLeave_123 rfl (lv_at hl 0 rfl) ?_
      refine va_get (D := g.1) (ci := 4) (v := .ref (a 2)) (C := RX4) (T := TX4) (N := 26) hx hb hts iX4 hown hK.1 hP 0 rfl rfl 3 (by decide) f20 (fun _ h9 => h9) rfl dX4_doesLeave_124 ?_
      refine lv_iload_n hx hb dX4_doesLeave_127 rfl (lv_at hl 2 rfl) ?_
      obtain ⟨hi, h⟩ := gdi h
      refine va_iald (D := g.1) hx hb hK.1 hP 2 0 rfl rfl hi dX4_doesLeave_128 ?_
      refine lv_if_eq (tgt := 142) hx hb dX4_doesLeave_129 (by decide) (fun c129 => ?_) (fun c129 => ?_)
      ·
        replace h := gdp h c129
        refine lv_aload_n hx hb dX4_doesLeave_142 rfl (lv_at hl 0 rfl) ?_
        refine va_get (D := g.1) (ci := 4) (v := .ref (a 2)) (C := RX4) (T := TX4) (N := 26) hx hb hts iX4 hown hK.1 hP 0 rfl rfl 3 (by decide) f20 (fun _ h9 => h9) rfl dX4_doesLeave_143 ?_
        refine lv_iload_n hx hb dX4_doesLeave_146 rfl (lv_at hl 2 rfl) ?_
        obtain ⟨hi, h⟩ := gdi h
        refine va_iald (D := g.1) hx hb hK.1 hP 2 0 rfl rfl hi dX4_doesLeave_147 ?_
        refine lv_iconst (v := 2) hx hb dX4_doesLeave_148 (by decide) ?_
        refine lv_icmp_lt (tgt := 157) hx hb dX4_doesLeave_149 (by decide) (fun c149 => ?_) (fun c149 => ?_)
        ·
          replace h := gdp h c149
          refine lv_iconst (v := 1) hx hb dX4_doesLeave_157 (by decide) ?_
          refine lv_goto (tgt := 162) hx hb dX4_doesLeave_158 (by decide) ?_
          obtain rfl := Option.some.inj h
          exact retMz (v := (1 : Int32)) hx hb hr hlocks rfl hP hD hS dX4_doesLeave_162
        ·
          replace h := gdn h c149
          refine lv_iload hx hb dX4_doesLeave_152 (lv_at hl 4 rfl) ?_
          refine lv_if_eq (tgt := 161) hx hb dX4_doesLeave_154 (by decide) (fun c154 => ?_) (fun c154 => ?_)
          ·
            replace h := gdp h c154
            refine lv_iconst (v := 0) hx hb dX4_doesLeave_161 (by decide) ?_
            obtain rfl := Option.some.inj h
            exact retMz (v := (0 : Int32)) hx hb hr hlocks rfl hP hD hS dX4_doesLeave_162
          ·
            replace h := gdn h c154
            refine lv_iconst (v := 1) hx hb dX4_doesLeave_157 (by decide) ?_
            refine lv_goto (tgt := 162) hx hb dX4_doesLeave_158 (by decide) ?_
            obtain rfl := Option.some.inj h
            exact retMz (v := (1 : Int32)) hx hb hr hlocks rfl hP hD hS dX4_doesLeave_162
      ·
        replace h := gdn h c129
        refine lv_aload_n hx hb dX4_doesLeave_132 rfl (lv_at hl 0 rfl) ?_
        refine va_get (D := g.1) (ci := 4) (v := .ref (a 3)) (C := RX4) (T := TX4) (N := 26) hx hb hts iX4 hown hK.1 hP 0 rfl rfl 4 (by decide) f23 (fun _ h9 => h9) rfl dX4_doesLeave_133 ?_
        refine lv_iload_n hx hb dX4_doesLeave_136 rfl (lv_at hl 2 rfl) ?_
        obtain ⟨hi, h⟩ := gdi h
        refine va_iald (D := g.1) hx hb hK.1 hP 3 0 rfl rfl hi dX4_doesLeave_137 ?_
        refine lv_iload_n hx hb dX4_doesLeave_138 rfl (lv_at hl 1 rfl) ?_
        refine lv_icmp_eq (tgt := 161) hx hb dX4_doesLeave_139 (by decide) (fun c139 => ?_) (fun c139 => ?_)
        ·
          replace h := gdp h c139
          refine lv_iconst (v := 0) hx hb dX4_doesLeave_161 (by decide) ?_
          obtain rfl := Option.some.inj h
          exact retMz (v := (0 : Int32)) hx hb hr hlocks rfl hP hD hS dX4_doesLeave_162
        ·
          replace h := gdn h c139
          refine lv_aload_n hx hb dX4_doesLeave_142 rfl (lv_at hl 0 rfl) ?_
          refine va_get (D := g.1) (ci := 4) (v := .ref (a 2)) (C := RX4) (T := TX4) (N := 26) hx hb hts iX4 hown hK.1 hP 0 rfl rfl 3 (by decide) f20 (fun _ h9 => h9) rfl dX4_doesLeave_143 ?_
          refine lv_iload_n hx hb dX4_doesLeave_146 rfl (lv_at hl 2 rfl) ?_
          obtain ⟨hi, h⟩ := gdi h
          refine va_iald (D := g.1) hx hb hK.1 hP 2 0 rfl rfl hi dX4_doesLeave_147 ?_
          refine lv_iconst (v := 2) hx hb dX4_doesLeave_148 (by decide) ?_
          refine lv_icmp_lt (tgt := 157) hx hb dX4_doesLeave_149 (by decide) (fun c149 => ?_) (fun c149 => ?_)
          ·
            replace h := gdp h c149
            refine lv_iconst (v := 1) hx hb dX4_doesLeave_157 (by decide) ?_
            refine lv_goto (tgt := 162) hx hb dX4_doesLeave_158 (by decide) ?_
            obtain rfl := Option.some.inj h
            exact retMz (v := (1 : Int32)) hx hb hr hlocks rfl hP hD hS dX4_doesLeave_162
          ·
            replace h := gdn h c149
            refine lv_iload hx hb dX4_doesLeave_152 (lv_at hl 4 rfl) ?_
            refine lv_if_eq (tgt := 161) hx hb dX4_doesLeave_154 (by decide) (fun c154 => ?_) (fun c154 => ?_)
            ·
              replace h := gdp h c154
              refine lv_iconst (v := 0) hx hb dX4_doesLeave_161 (by decide) ?_
              obtain rfl := Option.some.inj h
              exact retMz (v := (0 : Int32)) hx hb hr hlocks rfl hP hD hS dX4_doesLeave_162
            ·
              replace h := gdn h c154
              refine lv_iconst (v := 1) hx hb dX4_doesLeave_157 (by decide) ?_
              refine lv_goto (tgt := 162) hx hb dX4_doesLeave_158 (by decide) ?_
              obtain rfl := Option.some.inj h
              exact retMz (v := (1 : Int32)) hx hb hr hlocks rfl hP hD hS dX4_doesLeave_162
  clear h
  have L27 : ∀ (n : Nat) (s27 : Int32 × Int32), wh (fX4_doesLeave_27 x1 mw mh ce) n s27 = some t27 → ∀ (H : Heap) (locs : List Loc) (ls : Array Slot), va_P g.1 vwCl (wM g a mw mh mke mnx mdo mtr mma mto mah mrs mab (upd ce (x1).toNatClampNeg (7 : Int32)) mk mo mwa mmc mmf mhy myw myh myr r17.2.1 r17.2.2 mde mwe mla) H → va_D A (wM g a mw mh mke mnx mdo mtr mma mto mah mrs mab (upd ce (x1).toNatClampNeg (7 : Int32)) mk mo mwa mmc mmf mhy myw myh myr r17.2.1 r17.2.2 mde mwe mla) → va_S A s.heap H locs → lv_has ls 8 [(0, .ref (a 0)), (1, .int x1), (2, .int (ce (x1).toNatClampNeg)), (3, .int r17.1), (4, .int s27.1), (5, .int s27.2)] → W p l e ({ frames := 5, cells := 0, slots := 0, locals := 117 }) s m args below meth c H locs 0 0 (MQ below (QM g (some (.int res.1)) (wM g a mw mh mke mnx mdo mtr mma mto mah mrs mab res.2.1 mk mo mwa mmc mmf mhy myw myh myr res.2.2.1 res.2.2.2 mde mwe mla) A) args s 0 0 A) (F0 m 27 ls []) := by
    intro n
    induction n with
    | zero => intro s27 hw; exact (wh_0 hw).elim
    | succ n ih27 =>
      intro s27 hw H locs ls hP hD hS hl
      obtain ⟨r0, h, hr27⟩ := wh_s hw
      refine lv_iload hx hb dX4_doesLeave_27 (lv_at hl 5 rfl) ?_
      refine lv_aload_n hx hb dX4_doesLeave_29 rfl (lv_at hl 0 rfl) ?_
      refine va_get (D := g.1) (ci := 4) (v := .int mw) (C := RX4) (T := TX4) (N := 26) hx hb hts iX4 hown hK.1 hP 0 rfl rfl 0 (by decide) f7 (fun _ h9 => h9) rfl dX4_doesLeave_30 ?_
      refine lv_aload_n hx hb dX4_doesLeave_33 rfl (lv_at hl 0 rfl) ?_
      refine va_get (D := g.1) (ci := 4) (v := .int mh) (C := RX4) (T := TX4) (N := 26) hx hb hts iX4 hown hK.1 hP 0 rfl rfl 1 (by decide) f13 (fun _ h9 => h9) rfl dX4_doesLeave_34 ?_
      refine lv_imul hx hb dX4_doesLeave_37 ?_
      refine lv_icmp_ge (tgt := 112) hx hb dX4_doesLeave_38 (by decide) (fun c38 => ?_) (fun c38 => ?_)
      ·
        replace h := gdp h c38
        obtain rfl := Option.some.inj h
        have e0 : s27.1 = t27 := hr27
        subst e0
        exact X27 _ _ _ hP hD hS (lv_sub hl [0, 1, 2, 3, 4] rfl)
      ·
        replace h := gdn h c38
        refine lv_iconst (v := 0) hx hb dX4_doesLeave_41 (by decide) ?_
        refine lv_istore (lv' := [(6, .int (0 : Int32)), (0, .ref (a 0)), (1, .int x1), (2, .int (ce (x1).toNatClampNeg)), (3, .int r17.1), (4, .int s27.1), (5, .int s27.2)]) hx hb dX4_doesLeave_42 hl (by decide) rfl (fun ls hl => ?_)
        obtain ⟨t44, hw44, h⟩ := gdb h
        have X44 : ∀ (H : Heap) (locs : List Loc) (ls : Array Slot), va_P g.1 vwCl (wM g a mw mh mke mnx mdo mtr mma mto mah mrs mab (upd ce (x1).toNatClampNeg (7 : Int32)) mk mo mwa mmc mmf mhy myw myh myr r17.2.1 r17.2.2 mde mwe mla) H → va_D A (wM g a mw mh mke mnx mdo mtr mma mto mah mrs mab (upd ce (x1).toNatClampNeg (7 : Int32)) mk mo mwa mmc mmf mhy myw myh myr r17.2.1 r17.2.2 mde mwe mla) → va_S A s.heap H locs → lv_has ls 8 [(0, .ref (a 0)), (1, .int x1), (2, .int (ce (x1).toNatClampNeg)), (3, .int r17.1), (4, .int t44), (5, .int s27.2)] → W p l e ({ frames := 5, cells := 0, slots := 0, locals := 117 }) s m args below meth c H locs 0 0 (MQ below (QM g (some (.int res.1)) (wM g a mw mh mke mnx mdo mtr mma mto mah mrs mab res.2.1 mk mo mwa mmc mmf mhy myw myh myr res.2.2.1 res.2.2.2 mde mwe mla) A) args s 0 0 A) (F0 m 106 ls []) := by
          intro H locs ls hP hD hS hl
          refine lv_iinc (v := (s27.2 + 1)) (lv' := [(5, .int (s27.2 + 1)), (0, .ref (a 0)), (1, .int x1), (2, .int (ce (x1).toNatClampNeg)), (3, .int r17.1), (4, .int t44)]) hx hb dX4_doesLeave_106 hl (k := 5) rfl rfl (by decide) rfl (fun ls hl => ?_)
          refine lv_goto (tgt := 27) hx hb dX4_doesLeave_109 (by decide) ?_
          obtain rfl := Option.some.inj h
          exact ih27 (t44, (s27.2 + 1)) hr27 _ _ _ hP hD hS (lv_sub hl [1, 2, 3, 4, 5, 0] rfl)
        clear h
        have L44 : ∀ (n : Nat) (s44 : Int32 × Int32), wh (fX4_doesLeave_44 x1 mw mh ce s27) n s44 = some t44 → ∀ (H : Heap) (locs : List Loc) (ls : Array Slot), va_P g.1 vwCl (wM g a mw mh mke mnx mdo mtr mma mto mah mrs mab (upd ce (x1).toNatClampNeg (7 : Int32)) mk mo mwa mmc mmf mhy myw myh myr r17.2.1 r17.2.2 mde mwe mla) H → va_D A (wM g a mw mh mke mnx mdo mtr mma mto mah mrs mab (upd ce (x1).toNatClampNeg (7 : Int32)) mk mo mwa mmc mmf mhy myw myh myr r17.2.1 r17.2.2 mde mwe mla) → va_S A s.heap H locs → lv_has ls 8 [(0, .ref (a 0)), (1, .int x1), (2, .int (ce (x1).toNatClampNeg)), (3, .int r17.1), (4, .int s44.1), (5, .int s27.2), (6, .int s44.2)] → W p l e ({ frames := 5, cells := 0, slots := 0, locals := 117 }) s m args below meth c H locs 0 0 (MQ below (QM g (some (.int res.1)) (wM g a mw mh mke mnx mdo mtr mma mto mah mrs mab res.2.1 mk mo mwa mmc mmf mhy myw myh myr res.2.2.1 res.2.2.2 mde mwe mla) A) args s 0 0 A) (F0 m 44 ls []) := by
          intro n
          induction n with
          | zero => intro s44 hw; exact (wh_0 hw).elim
          | succ n ih44 =>
            intro s44 hw H locs ls hP hD hS hl
            obtain ⟨r0, h, hr44⟩ := wh_s hw
            refine lv_iload hx hb dX4_doesLeave_44 (lv_at hl 6 rfl) ?_
            refine lv_iconst (v := 4) hx hb dX4_doesLeave_46 (by decide) ?_
            refine lv_icmp_ge (tgt := 106) hx hb dX4_doesLeave_47 (by decide) (fun c47 => ?_) (fun c47 => ?_)
            ·
              replace h := gdp h c47
              obtain rfl := Option.some.inj h
              have e0 : s44.1 = t44 := hr44
              subst e0
              exact X44 _ _ _ hP hD hS (lv_sub hl [0, 1, 2, 3, 4, 5] rfl)
            ·
              replace h := gdn h c47
              refine lv_aload_n hx hb dX4_doesLeave_50 rfl (lv_at hl 0 rfl) ?_
              refine lv_iload hx hb dX4_doesLeave_51 (lv_at hl 5 rfl) ?_
              refine lv_iload hx hb dX4_doesLeave_53 (lv_at hl 6 rfl) ?_
              obtain ⟨r55, hr55, h⟩ := gdb h
              refine kPV (As := [.int s27.2, .int s44.2]) (rest := []) (ci := 4) S (ctX4_beside l g a s27.2 s44.2 mw mh mke mnx mdo mtr mma mto mah mrs mab (upd ce (x1).toNatClampNeg (7 : Int32)) mk mo mwa mmc mmf mhy myw myh myr r17.2.1 r17.2.2 mde mwe mla r55 hr55) (cwV 2 hts gX4_doesLeave_X4_beside rfl rfl rfl (by decide +kernel) ⟨Nat.le_of_ble_eq_true rfl, Nat.le_of_ble_eq_true rfl⟩) hK hP [0, 1, 2, 3, 4, 5, 6, 7, 8, 9, 10, 11, 12, 13, 14, 15] rfl rfl rfl rfl rfl hl.1 rfl (Nat.le_of_ble_eq_true rfl) dX4_doesLeave_55 ⟨Nat.zero_le _, Nat.zero_le _⟩ ?_
              refine lv_istore (lv' := [(7, .int r55), (0, .ref (a 0)), (1, .int x1), (2, .int (ce (x1).toNatClampNeg)), (3, .int r17.1), (4, .int s44.1), (5, .int s27.2), (6, .int s44.2)]) hx hb dX4_doesLeave_58 hl (by decide) rfl (fun ls hl => ?_)
              refine lv_iload hx hb dX4_doesLeave_60 (lv_at hl 5 rfl) ?_
              refine lv_if_ne (tgt := 93) hx hb dX4_doesLeave_62 (by decide) (fun c62 => ?_) (fun c62 => ?_)
              ·
                replace h := gdn h c62
                refine lv_iconst (v := 1) hx hb dX4_doesLeave_93 (by decide) ?_
                refine lv_goto (tgt := 98) hx hb dX4_doesLeave_94 (by decide) ?_
                refine lv_istore (lv' := [(4, .int (1 : Int32)), (7, .int r55), (0, .ref (a 0)), (1, .int x1), (2, .int (ce (x1).toNatClampNeg)), (3, .int r17.1), (5, .int s27.2), (6, .int s44.2)]) hx hb dX4_doesLeave_98 hl (by decide) rfl (fun ls hl => ?_)
                refine lv_iinc (v := (s44.2 + 1)) (lv' := [(6, .int (s44.2 + 1)), (4, .int (1 : Int32)), (7, .int r55), (0, .ref (a 0)), (1, .int x1), (2, .int (ce (x1).toNatClampNeg)), (3, .int r17.1), (5, .int s27.2)]) hx hb dX4_doesLeave_100 hl (k := 7) rfl rfl (by decide) rfl (fun ls hl => ?_)
                refine lv_goto (tgt := 44) hx hb dX4_doesLeave_103 (by decide) ?_
                obtain rfl := Option.some.inj h
                exact ih44 ((1 : Int32), (s44.2 + 1)) hr44 _ _ _ hP hD hS (lv_sub hl [3, 4, 5, 6, 1, 7, 0] rfl)
              ·
                replace h := gdp h c62
                refine lv_aload_n hx hb dX4_doesLeave_65 rfl (lv_at hl 1 rfl) ?_
                refine va_get (D := g.1) (ci := 4) (v := .ref (a 1)) (C := RX4) (T := TX4) (N := 26) hx hb hts iX4 hown hK.1 hP 0 rfl rfl 2 (by decide) f16 (fun _ h9 => h9) rfl dX4_doesLeave_66 ?_
                refine lv_iload hx hb dX4_doesLeave_69 (lv_at hl 6 rfl) ?_
                obtain ⟨hi, h⟩ := gdi h
                refine va_iald (D := g.1) hx hb hK.1 hP 1 0 rfl rfl hi dX4_doesLeave_71 ?_
                refine lv_iload_n hx hb dX4_doesLeave_72 rfl (lv_at hl 3 rfl) ?_
                refine lv_icmp_ne (tgt := 97) hx hb dX4_doesLeave_73 (by decide) (fun c73 => ?_) (fun c73 => ?_)
                ·
                  replace h := gdn h c73
                  refine lv_iconst (v := 0) hx hb dX4_doesLeave_97 (by decide) ?_
                  refine lv_istore (lv' := [(4, .int (0 : Int32)), (7, .int r55), (0, .ref (a 0)), (1, .int x1), (2, .int (ce (x1).toNatClampNeg)), (3, .int r17.1), (5, .int s27.2), (6, .int s44.2)]) hx hb dX4_doesLeave_98 hl (by decide) rfl (fun ls hl => ?_)
                  refine lv_iinc (v := (s44.2 + 1)) (lv' := [(6, .int (s44.2 + 1)), (4, .int (0 : Int32)), (7, .int r55), (0, .ref (a 0)), (1, .int x1), (2, .int (ce (x1).toNatClampNeg)), (3, .int r17.1), (5, .int s27.2)]) hx hb dX4_doesLeave_100 hl (k := 7) rfl rfl (by decide) rfl (fun ls hl => ?_)
                  refine lv_goto (tgt := 44) hx hb dX4_doesLeave_103 (by decide) ?_
                  obtain rfl := Option.some.inj h
                  exact ih44 ((0 : Int32), (s44.2 + 1)) hr44 _ _ _ hP hD hS (lv_sub hl [3, 4, 5, 6, 1, 7, 0] rfl)
                ·
                  replace h := gdp h c73
                  refine lv_iload hx hb dX4_doesLeave_76 (lv_at hl 0 rfl) ?_
                  refine lv_if_lt (tgt := 93) hx hb dX4_doesLeave_78 (by decide) (fun c78 => ?_) (fun c78 => ?_)
                  ·
                    replace h := gdp h c78
                    refine lv_iconst (v := 1) hx hb dX4_doesLeave_93 (by decide) ?_
                    refine lv_goto (tgt := 98) hx hb dX4_doesLeave_94 (by decide) ?_
                    refine lv_istore (lv' := [(4, .int (1 : Int32)), (7, .int r55), (0, .ref (a 0)), (1, .int x1), (2, .int (ce (x1).toNatClampNeg)), (3, .int r17.1), (5, .int s27.2), (6, .int s44.2)]) hx hb dX4_doesLeave_98 hl (by decide) rfl (fun ls hl => ?_)
                    refine lv_iinc (v := (s44.2 + 1)) (lv' := [(6, .int (s44.2 + 1)), (4, .int (1 : Int32)), (7, .int r55), (0, .ref (a 0)), (1, .int x1), (2, .int (ce (x1).toNatClampNeg)), (3, .int r17.1), (5, .int s27.2)]) hx hb dX4_doesLeave_100 hl (k := 7) rfl rfl (by decide) rfl (fun ls hl => ?_)
                    refine lv_goto (tgt := 44) hx hb dX4_doesLeave_103 (by decide) ?_
                    obtain rfl := Option.some.inj h
                    exact ih44 ((1 : Int32), (s44.2 + 1)) hr44 _ _ _ hP hD hS (lv_sub hl [3, 4, 5, 6, 1, 7, 0] rfl)
                  ·
                    replace h := gdn h c78
                    refine lv_aload_n hx hb dX4_doesLeave_81 rfl (lv_at hl 1 rfl) ?_
                    refine va_get (D := g.1) (ci := 4) (v := .ref (a 1)) (C := RX4) (T := TX4) (N := 26) hx hb hts iX4 hown hK.1 hP 0 rfl rfl 2 (by decide) f16 (fun _ h9 => h9) rfl dX4_doesLeave_82 ?_
                    refine lv_iload hx hb dX4_doesLeave_85 (lv_at hl 0 rfl) ?_
                    obtain ⟨hi, h⟩ := gdi h
                    refine va_iald (D := g.1) hx hb hK.1 hP 1 0 rfl rfl hi dX4_doesLeave_87 ?_
                    refine lv_bipush (v := -4) hx hb dX4_doesLeave_88 (by decide) ?_
                    refine lv_icmp_ne (tgt := 97) hx hb dX4_doesLeave_90 (by decide) (fun c90 => ?_) (fun c90 => ?_)
                    ·
                      replace h := gdn h c90
                      refine lv_iconst (v := 0) hx hb dX4_doesLeave_97 (by decide) ?_
                      refine lv_istore (lv' := [(4, .int (0 : Int32)), (7, .int r55), (0, .ref (a 0)), (1, .int x1), (2, .int (ce (x1).toNatClampNeg)), (3, .int r17.1), (5, .int s27.2), (6, .int s44.2)]) hx hb dX4_doesLeave_98 hl (by decide) rfl (fun ls hl => ?_)
                      refine lv_iinc (v := (s44.2 + 1)) (lv' := [(6, .int (s44.2 + 1)), (4, .int (0 : Int32)), (7, .int r55), (0, .ref (a 0)), (1, .int x1), (2, .int (ce (x1).toNatClampNeg)), (3, .int r17.1), (5, .int s27.2)]) hx hb dX4_doesLeave_100 hl (k := 7) rfl rfl (by decide) rfl (fun ls hl => ?_)
                      refine lv_goto (tgt := 44) hx hb dX4_doesLeave_103 (by decide) ?_
                      obtain rfl := Option.some.inj h
                      exact ih44 ((0 : Int32), (s44.2 + 1)) hr44 _ _ _ hP hD hS (lv_sub hl [3, 4, 5, 6, 1, 7, 0] rfl)
                    ·
                      replace h := gdp h c90
                      refine lv_iconst (v := 1) hx hb dX4_doesLeave_93 (by decide) ?_
                      refine lv_goto (tgt := 98) hx hb dX4_doesLeave_94 (by decide) ?_
                      refine lv_istore (lv' := [(4, .int (1 : Int32)), (7, .int r55), (0, .ref (a 0)), (1, .int x1), (2, .int (ce (x1).toNatClampNeg)), (3, .int r17.1), (5, .int s27.2), (6, .int s44.2)]) hx hb dX4_doesLeave_98 hl (by decide) rfl (fun ls hl => ?_)
                      refine lv_iinc (v := (s44.2 + 1)) (lv' := [(6, .int (s44.2 + 1)), (4, .int (1 : Int32)), (7, .int r55), (0, .ref (a 0)), (1, .int x1), (2, .int (ce (x1).toNatClampNeg)), (3, .int r17.1), (5, .int s27.2)]) hx hb dX4_doesLeave_100 hl (k := 7) rfl rfl (by decide) rfl (fun ls hl => ?_)
                      refine lv_goto (tgt := 44) hx hb dX4_doesLeave_103 (by decide) ?_
                      obtain rfl := Option.some.inj h
                      exact ih44 ((1 : Int32), (s44.2 + 1)) hr44 _ _ _ hP hD hS (lv_sub hl [3, 4, 5, 6, 1, 7, 0] rfl)
        exact L44 _ (s27.1, (0 : Int32)) hw44 _ _ _ hP hD hS (lv_sub hl [1, 2, 3, 4, 5, 6, 0] rfl)
  exact L27 _ ((0 : Int32), (0 : Int32)) hw27 _ _ _ hP hD hS (lv_sub hl [4, 5, 3, 2, 1, 0] rfl)
-- LandBoardModel.leaves
set_option maxHeartbeats 4000000 in
set_option maxRecDepth 100000 in
theorem ctX4_leaves (l : Launch) (g : GG) (a : Nat → Nat) (x1 : Int32) (x2 : Int32) (mw : Int32) (mh : Int32) (mke : Int32) (mnx : Int32) (mdo : Int32) (mtr : Int64) (mma : Int32) (mto : Int32) (mah : Int32) (mrs : Int32) (mab : Int32) (ce : (Nat → Int32)) (mk : (Nat → Int32)) (mo : (Nat → Int32)) (mwa : (Nat → Int32)) (mmc : (Nat → Int32)) (mmf : (Nat → Int32)) (mhy : (Nat → Int32)) (myw : (Nat → Int32)) (myh : (Nat → Int32)) (myr : (Nat → Int32)) (mpi : (Nat → Int32)) (mme : (Nat → Int32)) (mde : (Nat → Int32)) (mwe : (Nat → Int32)) (mla : (Nat → Int32)) (res : Int32 × Int64 × (Nat → Int32) × (Nat → Int32) × (Nat → Int32)) (h : fX4_leaves x1 x2 mw mh mtr ce mk mo mpi mme = some res) : MM l yX4_leaves wsX4_leaves ({ frames := 6, cells := 0, slots := 0, locals := 144 }) g [.ref (a 0), .int x1, .int x2] (wM g a mw mh mke mnx mdo mtr mma mto mah mrs mab ce mk mo mwa mmc mmf mhy myw myh myr mpi mme mde mwe mla) (wM g a mw mh mke mnx mdo res.2.1 mma mto mah mrs mab res.2.2.1 mk mo mwa mmc mmf mhy myw myh myr res.2.2.2.1 res.2.2.2.2 mde mwe mla) (some (.int res.1)) := by
  refine MM.of (cc := cX4_leaves) (own := RX4) 5 (some .int) (by decide +kernel) rfl (Nat.le_of_ble_eq_true rfl) rfl ?_
  intro p e s m args below meth c hx hb hr hml hown hts hlocks hK A hA ls hl hP hD hS
  have S : CallFix p m c cX4_leaves 5 s args wsX4_leaves RX4 := ⟨hx, hb, hml, hown, hts⟩
  have hl : lv_has ls 5 [(0, .ref (a 0)), (1, .int x1), (2, .int x2)] := hl
  have f16 := hts (.fieldLink RX4 16 "LandBoardModel" "cells" "[I") (by decide +kernel)
  have iX4 := (by decide +kernel : ∀ w ∈ u_ws RX4 TX4 26, w ∈ wsX4_leaves)
  have f20 := hts (.fieldLink RX4 20 "LandBoardModel" "kind" "[I") (by decide +kernel)
  have f108 := hts (.fieldLink RX4 108 "LandBoardModel" "trace" "J") (by decide +kernel)
  have k114 := hts (.constantLong RX4 114 (111)) (by decide +kernel)
  have k112 := hts (.constantLong RX4 112 (11)) (by decide +kernel)
  refine lv_aload_n hx hb dX4_leaves_0 rfl (lv_at hl 0 rfl) ?_
  refine lv_iload_n hx hb dX4_leaves_1 rfl (lv_at hl 1 rfl) ?_
  refine lv_iload_n hx hb dX4_leaves_2 rfl (lv_at hl 2 rfl) ?_
  refine kPV (As := [.int x1, .int x2]) (rest := []) (ci := 4) S (ctX4_cellAt l g a x1 x2 mw mh mke mnx mdo mtr mma mto mah mrs mab ce mk mo mwa mmc mmf mhy myw myh myr mpi mme mde mwe mla (fX4_cellAt x1 x2 mw mh) rfl) (cwV 2 hts gX4_leaves_X4_cellAt rfl rfl rfl (by decide +kernel) ⟨Nat.le_of_ble_eq_true rfl, Nat.le_of_ble_eq_true rfl⟩) hK hP [0, 1, 2, 3, 4, 5, 6, 7, 8, 9, 10, 11, 12, 13, 14, 15] rfl rfl rfl rfl rfl hl.1 rfl (Nat.le_of_ble_eq_true rfl) dX4_leaves_3 ⟨Nat.zero_le _, Nat.zero_le _⟩ ?_
  refine lv_istore_n (lv' := [(3, .int (fX4_cellAt x1 x2 mw mh)), (0, .ref (a 0)), (1, .int x1), (2, .int x2)]) hx hb dX4_leaves_6 rfl hl (by decide) rfl (fun ls hl => ?_)
  refine lv_iload_n hx hb dX4_leaves_7 rfl (lv_at hl 0 rfl) ?_
  refine lv_if_lt (tgt := 22) hx hb dX4_leaves_8 (by decide) (fun c8 => ?_) (fun c8 => ?_)
  ·
    replace h := gdp h c8
    refine lv_iconst (v := -1) hx hb dX4_leaves_22 (by decide) ?_
    obtain rfl := Option.some.inj h
    exact retMi (v := (-1 : Int32)) hx hb hr hlocks hP hD hS dX4_leaves_23
  ·
    replace h := gdn h c8
    refine lv_aload_n hx hb dX4_leaves_11 rfl (lv_at hl 1 rfl) ?_
    refine va_get (D := g.1) (ci := 4) (v := .ref (a 1)) (C := RX4) (T := TX4) (N := 26) hx hb hts iX4 hown hK.1 hP 0 rfl rfl 2 (by decide) f16 (fun _ h9 => h9) rfl dX4_leaves_12 ?_
    refine lv_iload_n hx hb dX4_leaves_15 rfl (lv_at hl 0 rfl) ?_
    obtain ⟨hi, h⟩ := gdi h
    refine va_iald (D := g.1) hx hb hK.1 hP 1 0 rfl rfl hi dX4_leaves_16 ?_
    refine lv_bipush (v := -4) hx hb dX4_leaves_17 (by decide) ?_
    refine lv_icmp_ne (tgt := 24) hx hb dX4_leaves_19 (by decide) (fun c19 => ?_) (fun c19 => ?_)
    ·
      replace h := gdn h c19
      refine lv_aload_n hx hb dX4_leaves_24 rfl (lv_at hl 1 rfl) ?_
      refine va_get (D := g.1) (ci := 4) (v := .ref (a 2)) (C := RX4) (T := TX4) (N := 26) hx hb hts iX4 hown hK.1 hP 0 rfl rfl 3 (by decide) f20 (fun _ h9 => h9) rfl dX4_leaves_25 ?_
      refine lv_aload_n hx hb dX4_leaves_28 rfl (lv_at hl 1 rfl) ?_
      refine va_get (D := g.1) (ci := 4) (v := .ref (a 1)) (C := RX4) (T := TX4) (N := 26) hx hb hts iX4 hown hK.1 hP 0 rfl rfl 2 (by decide) f16 (fun _ h9 => h9) rfl dX4_leaves_29 ?_
      refine lv_iload_n hx hb dX4_leaves_32 rfl (lv_at hl 0 rfl) ?_
      obtain ⟨hi, h⟩ := gdi h
      refine va_iald (D := g.1) hx hb hK.1 hP 1 0 rfl rfl hi dX4_leaves_33 ?_
      obtain ⟨hi, h⟩ := gdi h
      refine va_iald (D := g.1) hx hb hK.1 hP 2 0 rfl rfl hi dX4_leaves_34 ?_
      obtain ⟨v35, ev35, h⟩ := gdl h
      refine topi ev35 ?_
      refine lv_istore (lv' := [(4, .int v35), (3, .int (fX4_cellAt x1 x2 mw mh)), (0, .ref (a 0)), (1, .int x1), (2, .int x2)]) hx hb dX4_leaves_35 hl (by decide) rfl (fun ls hl => ?_)
      refine lv_aload_n hx hb dX4_leaves_37 rfl (lv_at hl 2 rfl) ?_
      refine lv_dup hx hb dX4_leaves_38 rfl ?_
      refine va_get (D := g.1) (ci := 4) (v := .long mtr) (C := RX4) (T := TX4) (N := 26) hx hb hts iX4 hown hK.1 hP 0 rfl rfl 15 (by decide) f108 (fun _ h9 => h9) rfl dX4_leaves_39 ?_
      refine lv_iload hx hb dX4_leaves_42 (lv_at hl 0 rfl) ?_
      refine lv_if_ne (tgt := 51) hx hb dX4_leaves_44 (by decide) (fun c44 => ?_) (fun c44 => ?_)
      ·
        replace h := gdn h c44
        refine lv_iload hx hb dX4_leaves_51 (lv_at hl 0 rfl) ?_
        refine lv_iconst (v := 1) hx hb dX4_leaves_53 (by decide) ?_
        refine lv_icmp_ne (tgt := 63) hx hb dX4_leaves_54 (by decide) (fun c54 => ?_) (fun c54 => ?_)
        ·
          replace h := gdn h c54
          refine lv_ldc2 hx hb hown k114 dX4_leaves_63 ?_
          refine lv_ladd hx hb dX4_leaves_66 ?_
          refine va_put (D := g.1) (ci := 4) (v := .long (mtr + (111 : Int64))) (ty := .long) (C := RX4) (T := TX4) (N := 26) hx hb hts iX4 tyX4 tyX4_ok nmX4 hown hK.1 hP hD hS 0 rfl rfl 15 (by decide) f108 (fun _ h9 => h9) rfl (by decide +kernel) rfl rfl (Nat.le_of_ble_eq_true rfl) dX4_leaves_67 (fun H locs hP hD hS => ?_)
          have hP : va_P g.1 vwCl (wM g a mw mh mke mnx mdo (mtr + (111 : Int64)) mma mto mah mrs mab ce mk mo mwa mmc mmf mhy myw myh myr mpi mme mde mwe mla) H := hP
          have hD : va_D A (wM g a mw mh mke mnx mdo (mtr + (111 : Int64)) mma mto mah mrs mab ce mk mo mwa mmc mmf mhy myw myh myr mpi mme mde mwe mla) := hD
          refine lv_aload_n hx hb dX4_leaves_70 rfl (lv_at hl 2 rfl) ?_
          refine lv_iload_n hx hb dX4_leaves_71 rfl (lv_at hl 1 rfl) ?_
          obtain ⟨r72, hr72, h⟩ := gdb h
          refine kMV (As := [.int (fX4_cellAt x1 x2 mw mh)]) (rest := []) (ci := 4) (W1 := (wM g a mw mh mke mnx mdo (mtr + (111 : Int64)) mma mto mah mrs mab r72.2.1 mk mo mwa mmc mmf mhy myw myh myr r72.2.2.1 r72.2.2.2 mde mwe mla)) (wr := []) S (ctX4_doesLeave l g a (fX4_cellAt x1 x2 mw mh) mw mh mke mnx mdo (mtr + (111 : Int64)) mma mto mah mrs mab ce mk mo mwa mmc mmf mhy myw myh myr mpi mme mde mwe mla r72 hr72) (cwV 1 hts gX4_leaves_X4_doesLeave rfl rfl rfl (by decide +kernel) ⟨Nat.le_of_ble_eq_true rfl, Nat.le_of_ble_eq_true rfl⟩) hK hP hD hS hA [0, 1, 2, 3, 4, 5, 6, 7, 8, 9, 10, 11, 12, 13, 14, 15] [] [0, 1, 2, 3, 4, 5, 6, 7, 8, 9, 10, 11, 12, 13, 14, 15] rfl rfl rfl rfl (by decide) rfl rfl rfl rfl rfl rfl hl.1 rfl (Nat.le_of_ble_eq_true rfl) dX4_leaves_72 ⟨Nat.zero_le _, Nat.zero_le _⟩ (fun H locs hP hD hS => ?_)
          show W p l e ({ frames := 6, cells := 0, slots := 0, locals := 144 }) s m args below meth c H locs 0 0 (MQ below (QM g (some (.int res.1)) (wM g a mw mh mke mnx mdo res.2.1 mma mto mah mrs mab res.2.2.1 mk mo mwa mmc mmf mhy myw myh myr res.2.2.2.1 res.2.2.2.2 mde mwe mla) A) args s 0 0 A) (F0 m 75 ls [.int r72.1])
          refine lv_if_eq (tgt := 82) hx hb dX4_leaves_75 (by decide) (fun c75 => ?_) (fun c75 => ?_)
          ·
            replace h := gdp h c75
            refine lv_iconst (v := 0) hx hb dX4_leaves_82 (by decide) ?_
            obtain rfl := Option.some.inj h
            exact retMi (v := (0 : Int32)) hx hb hr hlocks hP hD hS dX4_leaves_83
          ·
            replace h := gdn h c75
            refine lv_iconst (v := 1) hx hb dX4_leaves_78 (by decide) ?_
            refine lv_goto (tgt := 83) hx hb dX4_leaves_79 (by decide) ?_
            obtain rfl := Option.some.inj h
            exact retMi (v := (1 : Int32)) hx hb hr hlocks hP hD hS dX4_leaves_83
        ·
          replace h := gdp h c54
          refine lv_ldc2 hx hb hown k112 dX4_leaves_57 ?_
          refine lv_goto (tgt := 66) hx hb dX4_leaves_60 (by decide) ?_
          refine lv_ladd hx hb dX4_leaves_66 ?_
          refine va_put (D := g.1) (ci := 4) (v := .long (mtr + (11 : Int64))) (ty := .long) (C := RX4) (T := TX4) (N := 26) hx hb hts iX4 tyX4 tyX4_ok nmX4 hown hK.1 hP hD hS 0 rfl rfl 15 (by decide) f108 (fun _ h9 => h9) rfl (by decide +kernel) rfl rfl (Nat.le_of_ble_eq_true rfl) dX4_leaves_67 (fun H locs hP hD hS => ?_)
          have hP : va_P g.1 vwCl (wM g a mw mh mke mnx mdo (mtr + (11 : Int64)) mma mto mah mrs mab ce mk mo mwa mmc mmf mhy myw myh myr mpi mme mde mwe mla) H := hP
          have hD : va_D A (wM g a mw mh mke mnx mdo (mtr + (11 : Int64)) mma mto mah mrs mab ce mk mo mwa mmc mmf mhy myw myh myr mpi mme mde mwe mla) := hD
          refine lv_aload_n hx hb dX4_leaves_70 rfl (lv_at hl 2 rfl) ?_
          refine lv_iload_n hx hb dX4_leaves_71 rfl (lv_at hl 1 rfl) ?_
          obtain ⟨r72, hr72, h⟩ := gdb h
          refine kMV (As := [.int (fX4_cellAt x1 x2 mw mh)]) (rest := []) (ci := 4) (W1 := (wM g a mw mh mke mnx mdo (mtr + (11 : Int64)) mma mto mah mrs mab r72.2.1 mk mo mwa mmc mmf mhy myw myh myr r72.2.2.1 r72.2.2.2 mde mwe mla)) (wr := []) S (ctX4_doesLeave l g a (fX4_cellAt x1 x2 mw mh) mw mh mke mnx mdo (mtr + (11 : Int64)) mma mto mah mrs mab ce mk mo mwa mmc mmf mhy myw myh myr mpi mme mde mwe mla r72 hr72) (cwV 1 hts gX4_leaves_X4_doesLeave rfl rfl rfl (by decide +kernel) ⟨Nat.le_of_ble_eq_true rfl, Nat.le_of_ble_eq_true rfl⟩) hK hP hD hS hA [0, 1, 2, 3, 4, 5, 6, 7, 8, 9, 10, 11, 12, 13, 14, 15] [] [0, 1, 2, 3, 4, 5, 6, 7, 8, 9, 10, 11, 12, 13, 14, 15] rfl rfl rfl rfl (by decide) rfl rfl rfl rfl rfl rfl hl.1 rfl (Nat.le_of_ble_eq_true rfl) dX4_leaves_72 ⟨Nat.zero_le _, Nat.zero_le _⟩ (fun H locs hP hD hS => ?_)
          show W p l e ({ frames := 6, cells := 0, slots := 0, locals := 144 }) s m args below meth c H locs 0 0 (MQ below (QM g (some (.int res.1)) (wM g a mw mh mke mnx mdo res.2.1 mma mto mah mrs mab res.2.2.1 mk mo mwa mmc mmf mhy myw myh myr res.2.2.2.1 res.2.2.2.2 mde mwe mla) A) args s 0 0 A) (F0 m 75 ls [.int r72.1])
          refine lv_if_eq (tgt := 82) hx hb dX4_leaves_75 (by decide) (fun c75 => ?_) (fun c75 => ?_)
          ·
            replace h := gdp h c75
            refine lv_iconst (v := 0) hx hb dX4_leaves_82 (by decide) ?_
            obtain rfl := Option.some.inj h
            exact retMi (v := (0 : Int32)) hx hb hr hlocks hP hD hS dX4_leaves_83
          ·
            replace h := gdn h c75
            refine lv_iconst (v := 1) hx hb dX4_leaves_78 (by decide) ?_
            refine lv_goto (tgt := 83) hx hb dX4_leaves_79 (by decide) ?_
            obtain rfl := Option.some.inj h
            exact retMi (v := (1 : Int32)) hx hb hr hlocks hP hD hS dX4_leaves_83
      ·
        replace h := gdp h c44
        refine lv_lconst (v := 1) hx hb dX4_leaves_47 (by decide) ?_
        refine lv_goto (tgt := 66) hx hb dX4_leaves_48 (by decide) ?_
        refine lv_ladd hx hb dX4_leaves_66 ?_
        refine va_put (D := g.1) (ci := 4) (v := .long (mtr + (1 : Int64))) (ty := .long) (C := RX4) (T := TX4) (N := 26) hx hb hts iX4 tyX4 tyX4_ok nmX4 hown hK.1 hP hD hS 0 rfl rfl 15 (by decide) f108 (fun _ h9 => h9) rfl (by decide +kernel) rfl rfl (Nat.le_of_ble_eq_true rfl) dX4_leaves_67 (fun H locs hP hD hS => ?_)
        have hP : va_P g.1 vwCl (wM g a mw mh mke mnx mdo (mtr + (1 : Int64)) mma mto mah mrs mab ce mk mo mwa mmc mmf mhy myw myh myr mpi mme mde mwe mla) H := hP
        have hD : va_D A (wM g a mw mh mke mnx mdo (mtr + (1 : Int64)) mma mto mah mrs mab ce mk mo mwa mmc mmf mhy myw myh myr mpi mme mde mwe mla) := hD
        refine lv_aload_n hx hb dX4_leaves_70 rfl (lv_at hl 2 rfl) ?_
        refine lv_iload_n hx hb dX4_leaves_71 rfl (lv_at hl 1 rfl) ?_
        obtain ⟨r72, hr72, h⟩ := gdb h
        refine kMV (As := [.int (fX4_cellAt x1 x2 mw mh)]) (rest := []) (ci := 4) (W1 := (wM g a mw mh mke mnx mdo (mtr + (1 : Int64)) mma mto mah mrs mab r72.2.1 mk mo mwa mmc mmf mhy myw myh myr r72.2.2.1 r72.2.2.2 mde mwe mla)) (wr := []) S (ctX4_doesLeave l g a (fX4_cellAt x1 x2 mw mh) mw mh mke mnx mdo (mtr + (1 : Int64)) mma mto mah mrs mab ce mk mo mwa mmc mmf mhy myw myh myr mpi mme mde mwe mla r72 hr72) (cwV 1 hts gX4_leaves_X4_doesLeave rfl rfl rfl (by decide +kernel) ⟨Nat.le_of_ble_eq_true rfl, Nat.le_of_ble_eq_true rfl⟩) hK hP hD hS hA [0, 1, 2, 3, 4, 5, 6, 7, 8, 9, 10, 11, 12, 13, 14, 15] [] [0, 1, 2, 3, 4, 5, 6, 7, 8, 9, 10, 11, 12, 13, 14, 15] rfl rfl rfl rfl (by decide) rfl rfl rfl rfl rfl rfl hl.1 rfl (Nat.le_of_ble_eq_true rfl) dX4_leaves_72 ⟨Nat.zero_le _, Nat.zero_le _⟩ (fun H locs hP hD hS => ?_)
        show W p l e ({ frames := 6, cells := 0, slots := 0, locals := 144 }) s m args below meth c H locs 0 0 (MQ below (QM g (some (.int res.1)) (wM g a mw mh mke mnx mdo res.2.1 mma mto mah mrs mab res.2.2.1 mk mo mwa mmc mmf mhy myw myh myr res.2.2.2.1 res.2.2.2.2 mde mwe mla) A) args s 0 0 A) (F0 m 75 ls [.int r72.1])
        refine lv_if_eq (tgt := 82) hx hb dX4_leaves_75 (by decide) (fun c75 => ?_) (fun c75 => ?_)
        ·
          replace h := gdp h c75
          refine lv_iconst (v := 0) hx hb dX4_leaves_82 (by decide) ?_
          obtain rfl := Option.some.inj h
          exact retMi (v := (0 : Int32)) hx hb hr hlocks hP hD hS dX4_leaves_83
        ·
          replace h := gdn h c75
          refine lv_iconst (v := 1) hx hb dX4_leaves_78 (by decide) ?_
          refine lv_goto (tgt := 83) hx hb dX4_leaves_79 (by decide) ?_
          obtain rfl := Option.some.inj h
          exact retMi (v := (1 : Int32)) hx hb hr hlocks hP hD hS dX4_leaves_83
    ·
      replace h := gdp h c19
      refine lv_iconst (v := -1) hx hb dX4_leaves_22 (by decide) ?_
      obtain rfl := Option.some.inj h
      exact retMi (v := (-1 : Int32)) hx hb hr hlocks hP hD hS dX4_leaves_23
-- LandBoardModel.mayGo
set_option maxHeartbeats 4000000 in
set_option maxRecDepth 100000 in
theorem ctX4_mayGo (l : Launch) (g : GG) (a : Nat → Nat) (x1 : Int32) (x2 : Int32) (mw : Int32) (mh : Int32) (mke : Int32) (mnx : Int32) (mdo : Int32) (mtr : Int64) (mma : Int32) (mto : Int32) (mah : Int32) (mrs : Int32) (mab : Int32) (ce : (Nat → Int32)) (mk : (Nat → Int32)) (mo : (Nat → Int32)) (mwa : (Nat → Int32)) (mmc : (Nat → Int32)) (mmf : (Nat → Int32)) (mhy : (Nat → Int32)) (myw : (Nat → Int32)) (myh : (Nat → Int32)) (myr : (Nat → Int32)) (mpi : (Nat → Int32)) (mme : (Nat → Int32)) (mde : (Nat → Int32)) (mwe : (Nat → Int32)) (mla : (Nat → Int32)) (res : Int32 × (Nat → Int32) × (Nat → Int32) × (Nat → Int32)) (h : fX4_mayGo x1 x2 mw mh ce mk mo mpi mme = some res) : MM l yX4_mayGo wsX4_mayGo ({ frames := 6, cells := 0, slots := 0, locals := 144 }) g [.ref (a 0), .int x1, .int x2] (wM g a mw mh mke mnx mdo mtr mma mto mah mrs mab ce mk mo mwa mmc mmf mhy myw myh myr mpi mme mde mwe mla) (wM g a mw mh mke mnx mdo mtr mma mto mah mrs mab res.2.1 mk mo mwa mmc mmf mhy myw myh myr res.2.2.1 res.2.2.2 mde mwe mla) (some (.int res.1)) := by
  refine MM.of (cc := cX4_mayGo) (own := RX4) 8 (some .boolean) (by decide +kernel) rfl (Nat.le_of_ble_eq_true rfl) rfl ?_
  intro p e s m args below meth c hx hb hr hml hown hts hlocks hK A hA ls hl hP hD hS
  have S : CallFix p m c cX4_mayGo 8 s args wsX4_mayGo RX4 := ⟨hx, hb, hml, hown, hts⟩
  have hl : lv_has ls 8 [(0, .ref (a 0)), (1, .int x1), (2, .int x2)] := hl
  have f16 := hts (.fieldLink RX4 16 "LandBoardModel" "cells" "[I") (by decide +kernel)
  have iX4 := (by decide +kernel : ∀ w ∈ u_ws RX4 TX4 26, w ∈ wsX4_mayGo)
  refine lv_aload_n hx hb dX4_mayGo_0 rfl (lv_at hl 0 rfl) ?_
  refine va_get (D := g.1) (ci := 4) (v := .ref (a 1)) (C := RX4) (T := TX4) (N := 26) hx hb hts iX4 hown hK.1 hP 0 rfl rfl 2 (by decide) f16 (fun _ h9 => h9) rfl dX4_mayGo_1 ?_
  refine lv_iload_n hx hb dX4_mayGo_4 rfl (lv_at hl 1 rfl) ?_
  obtain ⟨hi, h⟩ := gdi h
  refine va_iald (D := g.1) hx hb hK.1 hP 1 0 rfl rfl hi dX4_mayGo_5 ?_
  refine lv_istore_n (lv' := [(3, .int (ce (x1).toNatClampNeg)), (0, .ref (a 0)), (1, .int x1), (2, .int x2)]) hx hb dX4_mayGo_6 rfl hl (by decide) rfl (fun ls hl => ?_)
  refine lv_iload_n hx hb dX4_mayGo_7 rfl (lv_at hl 0 rfl) ?_
  refine lv_bipush (v := -4) hx hb dX4_mayGo_8 (by decide) ?_
  refine lv_icmp_eq (tgt := 18) hx hb dX4_mayGo_10 (by decide) (fun c10 => ?_) (fun c10 => ?_)
  ·
    replace h := gdp h c10
    refine lv_iconst (v := 0) hx hb dX4_mayGo_18 (by decide) ?_
    obtain rfl := Option.some.inj h
    exact retMz (v := (0 : Int32)) hx hb hr hlocks rfl hP hD hS dX4_mayGo_19
  ·
    replace h := gdn h c10
    refine lv_iload_n hx hb dX4_mayGo_13 rfl (lv_at hl 0 rfl) ?_
    refine lv_iload_n hx hb dX4_mayGo_14 rfl (lv_at hl 3 rfl) ?_
    refine lv_icmp_ne (tgt := 20) hx hb dX4_mayGo_15 (by decide) (fun c15 => ?_) (fun c15 => ?_)
    ·
      replace h := gdn h c15
      refine lv_iconst (v := 0) hx hb dX4_mayGo_20 (by decide) ?_
      refine lv_istore (lv' := [(4, .int (0 : Int32)), (3, .int (ce (x1).toNatClampNeg)), (0, .ref (a 0)), (1, .int x1), (2, .int x2)]) hx hb dX4_mayGo_21 hl (by decide) rfl (fun ls hl => ?_)
      refine lv_iconst (v := 0) hx hb dX4_mayGo_23 (by decide) ?_
      refine lv_istore (lv' := [(5, .int (0 : Int32)), (4, .int (0 : Int32)), (3, .int (ce (x1).toNatClampNeg)), (0, .ref (a 0)), (1, .int x1), (2, .int x2)]) hx hb dX4_mayGo_24 hl (by decide) rfl (fun ls hl => ?_)
      obtain ⟨t26, hw26, h⟩ := gdb h
      have X26 : ∀ (H : Heap) (locs : List Loc) (ls : Array Slot), va_P g.1 vwCl (wM g a mw mh mke mnx mdo mtr mma mto mah mrs mab ce mk mo mwa mmc mmf mhy myw myh myr mpi mme mde mwe mla) H → va_D A (wM g a mw mh mke mnx mdo mtr mma mto mah mrs mab ce mk mo mwa mmc mmf mhy myw myh myr mpi mme mde mwe mla) → va_S A s.heap H locs → lv_has ls 8 [(0, .ref (a 0)), (1, .int x1), (2, .int x2), (3, .int (ce (x1).toNatClampNeg)), (4, .int t26)] → W p l e ({ frames := 6, cells := 0, slots := 0, locals := 144 }) s m args below meth c H locs 0 0 (MQ below (QM g (some (.int res.1)) (wM g a mw mh mke mnx mdo mtr mma mto mah mrs mab res.2.1 mk mo mwa mmc mmf mhy myw myh myr res.2.2.1 res.2.2.2 mde mwe mla) A) args s 0 0 A) (F0 m 75 ls []) := by
        intro H locs ls hP hD hS hl
        refine lv_iload hx hb dX4_mayGo_75 (lv_at hl 4 rfl) ?_
        refine lv_if_eq (tgt := 88) hx hb dX4_mayGo_77 (by decide) (fun c77 => ?_) (fun c77 => ?_)
        ·
          replace h := gdp h c77
          refine lv_iconst (v := 0) hx hb dX4_mayGo_88 (by decide) ?_
          obtain rfl := Option.some.inj h
          exact retMz (v := (0 : Int32)) hx hb hr hlocks rfl hP hD hS dX4_mayGo_89
        ·
          replace h := gdn h c77
          refine lv_aload_n hx hb dX4_mayGo_80 rfl (lv_at hl 0 rfl) ?_
          refine lv_iload_n hx hb dX4_mayGo_81 rfl (lv_at hl 1 rfl) ?_
          obtain ⟨r82, hr82, h⟩ := gdb h
          refine kMV (As := [.int x1]) (rest := []) (ci := 4) (W1 := (wM g a mw mh mke mnx mdo mtr mma mto mah mrs mab r82.2.1 mk mo mwa mmc mmf mhy myw myh myr r82.2.2.1 r82.2.2.2 mde mwe mla)) (wr := []) S (ctX4_doesLeave l g a x1 mw mh mke mnx mdo mtr mma mto mah mrs mab ce mk mo mwa mmc mmf mhy myw myh myr mpi mme mde mwe mla r82 hr82) (cwV 1 hts gX4_mayGo_X4_doesLeave rfl rfl rfl (by decide +kernel) ⟨Nat.le_of_ble_eq_true rfl, Nat.le_of_ble_eq_true rfl⟩) hK hP hD hS hA [0, 1, 2, 3, 4, 5, 6, 7, 8, 9, 10, 11, 12, 13, 14, 15] [] [0, 1, 2, 3, 4, 5, 6, 7, 8, 9, 10, 11, 12, 13, 14, 15] rfl rfl rfl rfl (by decide) rfl rfl rfl rfl rfl rfl hl.1 rfl (Nat.le_of_ble_eq_true rfl) dX4_mayGo_82 ⟨Nat.zero_le _, Nat.zero_le _⟩ (fun H locs hP hD hS => ?_)
          show W p l e ({ frames := 6, cells := 0, slots := 0, locals := 144 }) s m args below meth c H locs 0 0 (MQ below (QM g (some (.int res.1)) (wM g a mw mh mke mnx mdo mtr mma mto mah mrs mab res.2.1 mk mo mwa mmc mmf mhy myw myh myr res.2.2.1 res.2.2.2 mde mwe mla) A) args s 0 0 A) (F0 m 85 ls [.int r82.1])
          refine lv_if_ne (tgt := 90) hx hb dX4_mayGo_85 (by decide) (fun c85 => ?_) (fun c85 => ?_)
          ·
            replace h := gdn h c85
            refine lv_aload_n hx hb dX4_mayGo_90 rfl (lv_at hl 0 rfl) ?_
            obtain ⟨r91, hr91, h⟩ := gdb h
            refine kPV (As := []) (rest := []) (ci := 4) S (ctX4_touches l g a  mw mh mke mnx mdo mtr mma mto mah mrs mab r82.2.1 mk mo mwa mmc mmf mhy myw myh myr r82.2.2.1 r82.2.2.2 mde mwe mla r91 hr91) (cwV 0 hts gX4_mayGo_X4_touches rfl rfl rfl (by decide +kernel) ⟨Nat.le_of_ble_eq_true rfl, Nat.le_of_ble_eq_true rfl⟩) hK hP [0, 1, 2, 3, 4, 5, 6, 7, 8, 9, 10, 11, 12, 13, 14, 15] rfl rfl rfl rfl rfl hl.1 rfl (Nat.le_of_ble_eq_true rfl) dX4_mayGo_91 ⟨Nat.zero_le _, Nat.zero_le _⟩ ?_
            refine lv_lstore (lv' := [(5, .long r91), (0, .ref (a 0)), (1, .int x1), (2, .int x2), (3, .int (ce (x1).toNatClampNeg)), (4, .int t26)]) hx hb dX4_mayGo_94 hl (by decide) rfl (fun ls hl => ?_)
            refine lv_aload_n hx hb dX4_mayGo_96 rfl (lv_at hl 1 rfl) ?_
            refine va_get (D := g.1) (ci := 4) (v := .ref (a 1)) (C := RX4) (T := TX4) (N := 26) hx hb hts iX4 hown hK.1 hP 0 rfl rfl 2 (by decide) f16 (fun _ h9 => h9) rfl dX4_mayGo_97 ?_
            refine lv_iload_n hx hb dX4_mayGo_100 rfl (lv_at hl 2 rfl) ?_
            refine lv_iload_n hx hb dX4_mayGo_101 rfl (lv_at hl 3 rfl) ?_
            obtain ⟨hi, h⟩ := gdi h
            refine va_iast (D := g.1) hx hb hK.1 hP hD hS 1 0 rfl rfl hi dX4_mayGo_102 (fun H locs hP hD hS => ?_)
            have hP : va_P g.1 vwCl (wM g a mw mh mke mnx mdo mtr mma mto mah mrs mab (upd r82.2.1 (x1).toNatClampNeg x2) mk mo mwa mmc mmf mhy myw myh myr r82.2.2.1 r82.2.2.2 mde mwe mla) H := hP
            have hD : va_D A (wM g a mw mh mke mnx mdo mtr mma mto mah mrs mab (upd r82.2.1 (x1).toNatClampNeg x2) mk mo mwa mmc mmf mhy myw myh myr r82.2.2.1 r82.2.2.2 mde mwe mla) := hD
            refine lv_aload_n hx hb dX4_mayGo_103 rfl (lv_at hl 1 rfl) ?_
            obtain ⟨r104, hr104, h⟩ := gdb h
            refine kPV (As := []) (rest := []) (ci := 4) S (ctX4_touches l g a  mw mh mke mnx mdo mtr mma mto mah mrs mab (upd r82.2.1 (x1).toNatClampNeg x2) mk mo mwa mmc mmf mhy myw myh myr r82.2.2.1 r82.2.2.2 mde mwe mla r104 hr104) (cwV 0 hts gX4_mayGo_X4_touches rfl rfl rfl (by decide +kernel) ⟨Nat.le_of_ble_eq_true rfl, Nat.le_of_ble_eq_true rfl⟩) hK hP [0, 1, 2, 3, 4, 5, 6, 7, 8, 9, 10, 11, 12, 13, 14, 15] rfl rfl rfl rfl rfl hl.1 rfl (Nat.le_of_ble_eq_true rfl) dX4_mayGo_104 ⟨Nat.zero_le _, Nat.zero_le _⟩ ?_
            refine lv_lload hx hb dX4_mayGo_107 (lv_at hl 0 rfl) ?_
            refine W.lcmp hx hb dX4_mayGo_109 ?_
            refine lv_if_ne (tgt := 117) hx hb dX4_mayGo_110 (by decide) (fun c110 => ?_) (fun c110 => ?_)
            ·
              replace h := gdn h c110
              refine lv_iconst (v := 0) hx hb dX4_mayGo_117 (by decide) ?_
              refine lv_istore (lv' := [(7, .int (0 : Int32)), (5, .long r91), (0, .ref (a 0)), (1, .int x1), (2, .int x2), (3, .int (ce (x1).toNatClampNeg)), (4, .int t26)]) hx hb dX4_mayGo_118 hl (by decide) rfl (fun ls hl => ?_)
              refine lv_aload_n hx hb dX4_mayGo_120 rfl (lv_at hl 2 rfl) ?_
              refine va_get (D := g.1) (ci := 4) (v := .ref (a 1)) (C := RX4) (T := TX4) (N := 26) hx hb hts iX4 hown hK.1 hP 0 rfl rfl 2 (by decide) f16 (fun _ h9 => h9) rfl dX4_mayGo_121 ?_
              refine lv_iload_n hx hb dX4_mayGo_124 rfl (lv_at hl 3 rfl) ?_
              refine lv_iload_n hx hb dX4_mayGo_125 rfl (lv_at hl 5 rfl) ?_
              obtain ⟨hi, h⟩ := gdi h
              refine va_iast (D := g.1) hx hb hK.1 hP hD hS 1 0 rfl rfl hi dX4_mayGo_126 (fun H locs hP hD hS => ?_)
              have hP : va_P g.1 vwCl (wM g a mw mh mke mnx mdo mtr mma mto mah mrs mab (upd (upd r82.2.1 (x1).toNatClampNeg x2) (x1).toNatClampNeg (ce (x1).toNatClampNeg)) mk mo mwa mmc mmf mhy myw myh myr r82.2.2.1 r82.2.2.2 mde mwe mla) H := hP
              have hD : va_D A (wM g a mw mh mke mnx mdo mtr mma mto mah mrs mab (upd (upd r82.2.1 (x1).toNatClampNeg x2) (x1).toNatClampNeg (ce (x1).toNatClampNeg)) mk mo mwa mmc mmf mhy myw myh myr r82.2.2.1 r82.2.2.2 mde mwe mla) := hD
              refine lv_iload hx hb dX4_mayGo_127 (lv_at hl 0 rfl) ?_
              obtain rfl := Option.some.inj h
              exact retMz (v := (0 : Int32)) hx hb hr hlocks rfl hP hD hS dX4_mayGo_129
            ·
              replace h := gdp h c110
              refine lv_iconst (v := 1) hx hb dX4_mayGo_113 (by decide) ?_
              refine lv_goto (tgt := 118) hx hb dX4_mayGo_114 (by decide) ?_
              refine lv_istore (lv' := [(7, .int (1 : Int32)), (5, .long r91), (0, .ref (a 0)), (1, .int x1), (2, .int x2), (3, .int (ce (x1).toNatClampNeg)), (4, .int t26)]) hx hb dX4_mayGo_118 hl (by decide) rfl (fun ls hl => ?_)
              refine lv_aload_n hx hb dX4_mayGo_120 rfl (lv_at hl 2 rfl) ?_
              refine va_get (D := g.1) (ci := 4) (v := .ref (a 1)) (C := RX4) (T := TX4) (N := 26) hx hb hts iX4 hown hK.1 hP 0 rfl rfl 2 (by decide) f16 (fun _ h9 => h9) rfl dX4_mayGo_121 ?_
              refine lv_iload_n hx hb dX4_mayGo_124 rfl (lv_at hl 3 rfl) ?_
              refine lv_iload_n hx hb dX4_mayGo_125 rfl (lv_at hl 5 rfl) ?_
              obtain ⟨hi, h⟩ := gdi h
              refine va_iast (D := g.1) hx hb hK.1 hP hD hS 1 0 rfl rfl hi dX4_mayGo_126 (fun H locs hP hD hS => ?_)
              have hP : va_P g.1 vwCl (wM g a mw mh mke mnx mdo mtr mma mto mah mrs mab (upd (upd r82.2.1 (x1).toNatClampNeg x2) (x1).toNatClampNeg (ce (x1).toNatClampNeg)) mk mo mwa mmc mmf mhy myw myh myr r82.2.2.1 r82.2.2.2 mde mwe mla) H := hP
              have hD : va_D A (wM g a mw mh mke mnx mdo mtr mma mto mah mrs mab (upd (upd r82.2.1 (x1).toNatClampNeg x2) (x1).toNatClampNeg (ce (x1).toNatClampNeg)) mk mo mwa mmc mmf mhy myw myh myr r82.2.2.1 r82.2.2.2 mde mwe mla) := hD
              refine lv_iload hx hb dX4_mayGo_127 (lv_at hl 0 rfl) ?_
              obtain rfl := Option.some.inj h
              exact retMz (v := (1 : Int32)) hx hb hr hlocks rfl hP hD hS dX4_mayGo_129
          ·
            replace h := gdp h c85
            refine lv_iconst (v := 0) hx hb dX4_mayGo_88 (by decide) ?_
            obtain rfl := Option.some.inj h
            exact retMz (v := (0 : Int32)) hx hb hr hlocks rfl hP hD hS dX4_mayGo_89
      clear h
      have L26 : ∀ (n : Nat) (s26 : Int32 × Int32), wh (fX4_mayGo_26 x1 x2 mw mh ce) n s26 = some t26 → ∀ (H : Heap) (locs : List Loc) (ls : Array Slot), va_P g.1 vwCl (wM g a mw mh mke mnx mdo mtr mma mto mah mrs mab ce mk mo mwa mmc mmf mhy myw myh myr mpi mme mde mwe mla) H → va_D A (wM g a mw mh mke mnx mdo mtr mma mto mah mrs mab ce mk mo mwa mmc mmf mhy myw myh myr mpi mme mde mwe mla) → va_S A s.heap H locs → lv_has ls 8 [(0, .ref (a 0)), (1, .int x1), (2, .int x2), (3, .int (ce (x1).toNatClampNeg)), (4, .int s26.1), (5, .int s26.2)] → W p l e ({ frames := 6, cells := 0, slots := 0, locals := 144 }) s m args below meth c H locs 0 0 (MQ below (QM g (some (.int res.1)) (wM g a mw mh mke mnx mdo mtr mma mto mah mrs mab res.2.1 mk mo mwa mmc mmf mhy myw myh myr res.2.2.1 res.2.2.2 mde mwe mla) A) args s 0 0 A) (F0 m 26 ls []) := by
        intro n
        induction n with
        | zero => intro s26 hw; exact (wh_0 hw).elim
        | succ n ih26 =>
          intro s26 hw H locs ls hP hD hS hl
          obtain ⟨r0, h, hr26⟩ := wh_s hw
          refine lv_iload hx hb dX4_mayGo_26 (lv_at hl 5 rfl) ?_
          refine lv_iconst (v := 4) hx hb dX4_mayGo_28 (by decide) ?_
          refine lv_icmp_ge (tgt := 75) hx hb dX4_mayGo_29 (by decide) (fun c29 => ?_) (fun c29 => ?_)
          ·
            replace h := gdp h c29
            obtain rfl := Option.some.inj h
            have e0 : s26.1 = t26 := hr26
            subst e0
            exact X26 _ _ _ hP hD hS (lv_sub hl [0, 1, 2, 3, 4] rfl)
          ·
            replace h := gdn h c29
            refine lv_aload_n hx hb dX4_mayGo_32 rfl (lv_at hl 0 rfl) ?_
            refine lv_iload_n hx hb dX4_mayGo_33 rfl (lv_at hl 1 rfl) ?_
            refine lv_iload hx hb dX4_mayGo_34 (lv_at hl 5 rfl) ?_
            obtain ⟨r36, hr36, h⟩ := gdb h
            refine kPV (As := [.int x1, .int s26.2]) (rest := []) (ci := 4) S (ctX4_beside l g a x1 s26.2 mw mh mke mnx mdo mtr mma mto mah mrs mab ce mk mo mwa mmc mmf mhy myw myh myr mpi mme mde mwe mla r36 hr36) (cwV 2 hts gX4_mayGo_X4_beside rfl rfl rfl (by decide +kernel) ⟨Nat.le_of_ble_eq_true rfl, Nat.le_of_ble_eq_true rfl⟩) hK hP [0, 1, 2, 3, 4, 5, 6, 7, 8, 9, 10, 11, 12, 13, 14, 15] rfl rfl rfl rfl rfl hl.1 rfl (Nat.le_of_ble_eq_true rfl) dX4_mayGo_36 ⟨Nat.zero_le _, Nat.zero_le _⟩ ?_
            refine lv_istore (lv' := [(6, .int r36), (0, .ref (a 0)), (1, .int x1), (2, .int x2), (3, .int (ce (x1).toNatClampNeg)), (4, .int s26.1), (5, .int s26.2)]) hx hb dX4_mayGo_39 hl (by decide) rfl (fun ls hl => ?_)
            refine lv_iload hx hb dX4_mayGo_41 (lv_at hl 5 rfl) ?_
            refine lv_if_ne (tgt := 62) hx hb dX4_mayGo_43 (by decide) (fun c43 => ?_) (fun c43 => ?_)
            ·
              replace h := gdn h c43
              refine lv_iconst (v := 1) hx hb dX4_mayGo_62 (by decide) ?_
              refine lv_goto (tgt := 67) hx hb dX4_mayGo_63 (by decide) ?_
              refine lv_istore (lv' := [(4, .int (1 : Int32)), (6, .int r36), (0, .ref (a 0)), (1, .int x1), (2, .int x2), (3, .int (ce (x1).toNatClampNeg)), (5, .int s26.2)]) hx hb dX4_mayGo_67 hl (by decide) rfl (fun ls hl => ?_)
              refine lv_iinc (v := (s26.2 + 1)) (lv' := [(5, .int (s26.2 + 1)), (4, .int (1 : Int32)), (6, .int r36), (0, .ref (a 0)), (1, .int x1), (2, .int x2), (3, .int (ce (x1).toNatClampNeg))]) hx hb dX4_mayGo_69 hl (k := 6) rfl rfl (by decide) rfl (fun ls hl => ?_)
              refine lv_goto (tgt := 26) hx hb dX4_mayGo_72 (by decide) ?_
              obtain rfl := Option.some.inj h
              exact ih26 ((1 : Int32), (s26.2 + 1)) hr26 _ _ _ hP hD hS (lv_sub hl [3, 4, 5, 6, 1, 0] rfl)
            ·
              replace h := gdp h c43
              refine lv_iload hx hb dX4_mayGo_46 (lv_at hl 0 rfl) ?_
              refine lv_if_lt (tgt := 66) hx hb dX4_mayGo_48 (by decide) (fun c48 => ?_) (fun c48 => ?_)
              ·
                replace h := gdp h c48
                refine lv_iconst (v := 0) hx hb dX4_mayGo_66 (by decide) ?_
                refine lv_istore (lv' := [(4, .int (0 : Int32)), (6, .int r36), (0, .ref (a 0)), (1, .int x1), (2, .int x2), (3, .int (ce (x1).toNatClampNeg)), (5, .int s26.2)]) hx hb dX4_mayGo_67 hl (by decide) rfl (fun ls hl => ?_)
                refine lv_iinc (v := (s26.2 + 1)) (lv' := [(5, .int (s26.2 + 1)), (4, .int (0 : Int32)), (6, .int r36), (0, .ref (a 0)), (1, .int x1), (2, .int x2), (3, .int (ce (x1).toNatClampNeg))]) hx hb dX4_mayGo_69 hl (k := 6) rfl rfl (by decide) rfl (fun ls hl => ?_)
                refine lv_goto (tgt := 26) hx hb dX4_mayGo_72 (by decide) ?_
                obtain rfl := Option.some.inj h
                exact ih26 ((0 : Int32), (s26.2 + 1)) hr26 _ _ _ hP hD hS (lv_sub hl [3, 4, 5, 6, 1, 0] rfl)
              ·
                replace h := gdn h c48
                refine lv_aload_n hx hb dX4_mayGo_51 rfl (lv_at hl 1 rfl) ?_
                refine va_get (D := g.1) (ci := 4) (v := .ref (a 1)) (C := RX4) (T := TX4) (N := 26) hx hb hts iX4 hown hK.1 hP 0 rfl rfl 2 (by decide) f16 (fun _ h9 => h9) rfl dX4_mayGo_52 ?_
                refine lv_iload hx hb dX4_mayGo_55 (lv_at hl 0 rfl) ?_
                obtain ⟨hi, h⟩ := gdi h
                refine va_iald (D := g.1) hx hb hK.1 hP 1 0 rfl rfl hi dX4_mayGo_57 ?_
                refine lv_iload_n hx hb dX4_mayGo_58 rfl (lv_at hl 3 rfl) ?_
                refine lv_icmp_ne (tgt := 66) hx hb dX4_mayGo_59 (by decide) (fun c59 => ?_) (fun c59 => ?_)
                ·
                  replace h := gdn h c59
                  refine lv_iconst (v := 0) hx hb dX4_mayGo_66 (by decide) ?_
                  refine lv_istore (lv' := [(4, .int (0 : Int32)), (6, .int r36), (0, .ref (a 0)), (1, .int x1), (2, .int x2), (3, .int (ce (x1).toNatClampNeg)), (5, .int s26.2)]) hx hb dX4_mayGo_67 hl (by decide) rfl (fun ls hl => ?_)
                  refine lv_iinc (v := (s26.2 + 1)) (lv' := [(5, .int (s26.2 + 1)), (4, .int (0 : Int32)), (6, .int r36), (0, .ref (a 0)), (1, .int x1), (2, .int x2), (3, .int (ce (x1).toNatClampNeg))]) hx hb dX4_mayGo_69 hl (k := 6) rfl rfl (by decide) rfl (fun ls hl => ?_)
                  refine lv_goto (tgt := 26) hx hb dX4_mayGo_72 (by decide) ?_
                  obtain rfl := Option.some.inj h
                  exact ih26 ((0 : Int32), (s26.2 + 1)) hr26 _ _ _ hP hD hS (lv_sub hl [3, 4, 5, 6, 1, 0] rfl)
                ·
                  replace h := gdp h c59
                  refine lv_iconst (v := 1) hx hb dX4_mayGo_62 (by decide) ?_
                  refine lv_goto (tgt := 67) hx hb dX4_mayGo_63 (by decide) ?_
                  refine lv_istore (lv' := [(4, .int (1 : Int32)), (6, .int r36), (0, .ref (a 0)), (1, .int x1), (2, .int x2), (3, .int (ce (x1).toNatClampNeg)), (5, .int s26.2)]) hx hb dX4_mayGo_67 hl (by decide) rfl (fun ls hl => ?_)
                  refine lv_iinc (v := (s26.2 + 1)) (lv' := [(5, .int (s26.2 + 1)), (4, .int (1 : Int32)), (6, .int r36), (0, .ref (a 0)), (1, .int x1), (2, .int x2), (3, .int (ce (x1).toNatClampNeg))]) hx hb dX4_mayGo_69 hl (k := 6) rfl rfl (by decide) rfl (fun ls hl => ?_)
                  refine lv_goto (tgt := 26) hx hb dX4_mayGo_72 (by decide) ?_
                  obtain rfl := Option.some.inj h
                  exact ih26 ((1 : Int32), (s26.2 + 1)) hr26 _ _ _ hP hD hS (lv_sub hl [3, 4, 5, 6, 1, 0] rfl)
      exact L26 _ ((0 : Int32), (0 : Int32)) hw26 _ _ _ hP hD hS (lv_sub hl [3, 4, 5, 2, 1, 0] rfl)
    ·
      replace h := gdp h c15
      refine lv_iconst (v := 0) hx hb dX4_mayGo_18 (by decide) ?_
      obtain rfl := Option.some.inj h
      exact retMz (v := (0 : Int32)) hx hb hr hlocks rfl hP hD hS dX4_mayGo_19
-- LandBoardModel.may
set_option maxHeartbeats 4000000 in
set_option maxRecDepth 100000 in
theorem ctX4_may (l : Launch) (g : GG) (a : Nat → Nat) (x1 : Int32) (x2 : Int32) (x3 : Int32) (mw : Int32) (mh : Int32) (mke : Int32) (mnx : Int32) (mdo : Int32) (mtr : Int64) (mma : Int32) (mto : Int32) (mah : Int32) (mrs : Int32) (mab : Int32) (ce : (Nat → Int32)) (mk : (Nat → Int32)) (mo : (Nat → Int32)) (mwa : (Nat → Int32)) (mmc : (Nat → Int32)) (mmf : (Nat → Int32)) (mhy : (Nat → Int32)) (myw : (Nat → Int32)) (myh : (Nat → Int32)) (myr : (Nat → Int32)) (mpi : (Nat → Int32)) (mme : (Nat → Int32)) (mde : (Nat → Int32)) (mwe : (Nat → Int32)) (mla : (Nat → Int32)) (res : Int32 × (Nat → Int32) × (Nat → Int32) × (Nat → Int32)) (h : fX4_may x1 x2 x3 mw mh ce mk mo mpi mme = some res) : MM l yX4_may wsX4_may ({ frames := 7, cells := 0, slots := 0, locals := 171 }) g [.ref (a 0), .int x1, .int x2, .int x3] (wM g a mw mh mke mnx mdo mtr mma mto mah mrs mab ce mk mo mwa mmc mmf mhy myw myh myr mpi mme mde mwe mla) (wM g a mw mh mke mnx mdo mtr mma mto mah mrs mab res.2.1 mk mo mwa mmc mmf mhy myw myh myr res.2.2.1 res.2.2.2 mde mwe mla) (some (.int res.1)) := by
  refine MM.of (cc := cX4_may) (own := RX4) 5 (some .int) (by decide +kernel) rfl (Nat.le_of_ble_eq_true rfl) rfl ?_
  intro p e s m args below meth c hx hb hr hml hown hts hlocks hK A hA ls hl hP hD hS
  have S : CallFix p m c cX4_may 5 s args wsX4_may RX4 := ⟨hx, hb, hml, hown, hts⟩
  have hl : lv_has ls 5 [(0, .ref (a 0)), (1, .int x1), (2, .int x2), (3, .int x3)] := hl
  refine lv_aload_n hx hb dX4_may_0 rfl (lv_at hl 0 rfl) ?_
  refine lv_iload_n hx hb dX4_may_1 rfl (lv_at hl 1 rfl) ?_
  refine lv_iload_n hx hb dX4_may_2 rfl (lv_at hl 2 rfl) ?_
  refine kPV (As := [.int x1, .int x2]) (rest := []) (ci := 4) S (ctX4_cellAt l g a x1 x2 mw mh mke mnx mdo mtr mma mto mah mrs mab ce mk mo mwa mmc mmf mhy myw myh myr mpi mme mde mwe mla (fX4_cellAt x1 x2 mw mh) rfl) (cwV 2 hts gX4_may_X4_cellAt rfl rfl rfl (by decide +kernel) ⟨Nat.le_of_ble_eq_true rfl, Nat.le_of_ble_eq_true rfl⟩) hK hP [0, 1, 2, 3, 4, 5, 6, 7, 8, 9, 10, 11, 12, 13, 14, 15] rfl rfl rfl rfl rfl hl.1 rfl (Nat.le_of_ble_eq_true rfl) dX4_may_3 ⟨Nat.zero_le _, Nat.zero_le _⟩ ?_
  refine lv_istore (lv' := [(4, .int (fX4_cellAt x1 x2 mw mh)), (0, .ref (a 0)), (1, .int x1), (2, .int x2), (3, .int x3)]) hx hb dX4_may_6 hl (by decide) rfl (fun ls hl => ?_)
  refine lv_iload hx hb dX4_may_8 (lv_at hl 0 rfl) ?_
  refine lv_if_lt (tgt := 20) hx hb dX4_may_10 (by decide) (fun c10 => ?_) (fun c10 => ?_)
  ·
    replace h := gdp h c10
    refine lv_iconst (v := -1) hx hb dX4_may_20 (by decide) ?_
    obtain rfl := Option.some.inj h
    exact retMi (v := (-1 : Int32)) hx hb hr hlocks hP hD hS dX4_may_21
  ·
    replace h := gdn h c10
    refine lv_iload_n hx hb dX4_may_13 rfl (lv_at hl 4 rfl) ?_
    refine kPS (As := [.int x3]) (rest := []) S (ctX4_isLand l g x3  (fX4_isLand x3) rfl) (va_cwS 1 hts gX4_may_X4_isLand rfl rfl rfl (by decide +kernel) ⟨Nat.le_of_ble_eq_true rfl, Nat.le_of_ble_eq_true rfl⟩) hK rfl rfl hl.1 rfl (Nat.le_of_ble_eq_true rfl) dX4_may_14 ⟨Nat.zero_le _, Nat.zero_le _⟩ ?_
    refine lv_if_ne (tgt := 22) hx hb dX4_may_17 (by decide) (fun c17 => ?_) (fun c17 => ?_)
    ·
      replace h := gdn h c17
      refine lv_aload_n hx hb dX4_may_22 rfl (lv_at hl 1 rfl) ?_
      refine lv_iload hx hb dX4_may_23 (lv_at hl 0 rfl) ?_
      refine lv_iload_n hx hb dX4_may_25 rfl (lv_at hl 4 rfl) ?_
      obtain ⟨r26, hr26, h⟩ := gdb h
      refine kMV (As := [.int (fX4_cellAt x1 x2 mw mh), .int x3]) (rest := []) (ci := 4) (W1 := (wM g a mw mh mke mnx mdo mtr mma mto mah mrs mab r26.2.1 mk mo mwa mmc mmf mhy myw myh myr r26.2.2.1 r26.2.2.2 mde mwe mla)) (wr := []) S (ctX4_mayGo l g a (fX4_cellAt x1 x2 mw mh) x3 mw mh mke mnx mdo mtr mma mto mah mrs mab ce mk mo mwa mmc mmf mhy myw myh myr mpi mme mde mwe mla r26 hr26) (cwV 2 hts gX4_may_X4_mayGo rfl rfl rfl (by decide +kernel) ⟨Nat.le_of_ble_eq_true rfl, Nat.le_of_ble_eq_true rfl⟩) hK hP hD hS hA [0, 1, 2, 3, 4, 5, 6, 7, 8, 9, 10, 11, 12, 13, 14, 15] [] [0, 1, 2, 3, 4, 5, 6, 7, 8, 9, 10, 11, 12, 13, 14, 15] rfl rfl rfl rfl (by decide) rfl rfl rfl rfl rfl rfl hl.1 rfl (Nat.le_of_ble_eq_true rfl) dX4_may_26 ⟨Nat.zero_le _, Nat.zero_le _⟩ (fun H locs hP hD hS => ?_)
      show W p l e ({ frames := 7, cells := 0, slots := 0, locals := 171 }) s m args below meth c H locs 0 0 (MQ below (QM g (some (.int res.1)) (wM g a mw mh mke mnx mdo mtr mma mto mah mrs mab res.2.1 mk mo mwa mmc mmf mhy myw myh myr res.2.2.1 res.2.2.2 mde mwe mla) A) args s 0 0 A) (F0 m 29 ls [.int r26.1])
      refine lv_if_eq (tgt := 36) hx hb dX4_may_29 (by decide) (fun c29 => ?_) (fun c29 => ?_)
      ·
        replace h := gdp h c29
        refine lv_iconst (v := 0) hx hb dX4_may_36 (by decide) ?_
        obtain rfl := Option.some.inj h
        exact retMi (v := (0 : Int32)) hx hb hr hlocks hP hD hS dX4_may_37
      ·
        replace h := gdn h c29
        refine lv_iconst (v := 1) hx hb dX4_may_32 (by decide) ?_
        refine lv_goto (tgt := 37) hx hb dX4_may_33 (by decide) ?_
        obtain rfl := Option.some.inj h
        exact retMi (v := (1 : Int32)) hx hb hr hlocks hP hD hS dX4_may_37
    ·
      replace h := gdp h c17
      refine lv_iconst (v := -1) hx hb dX4_may_20 (by decide) ?_
      obtain rfl := Option.some.inj h
      exact retMi (v := (-1 : Int32)) hx hb hr hlocks hP hD hS dX4_may_21
-- LandBoardModel.goes
set_option maxHeartbeats 4000000 in
set_option maxRecDepth 100000 in
theorem ctX4_goes (l : Launch) (g : GG) (a : Nat → Nat) (x1 : Int32) (x2 : Int32) (mw : Int32) (mh : Int32) (mke : Int32) (mnx : Int32) (mdo : Int32) (mtr : Int64) (mma : Int32) (mto : Int32) (mah : Int32) (mrs : Int32) (mab : Int32) (ce : (Nat → Int32)) (mk : (Nat → Int32)) (mo : (Nat → Int32)) (mwa : (Nat → Int32)) (mmc : (Nat → Int32)) (mmf : (Nat → Int32)) (mhy : (Nat → Int32)) (myw : (Nat → Int32)) (myh : (Nat → Int32)) (myr : (Nat → Int32)) (mpi : (Nat → Int32)) (mme : (Nat → Int32)) (mde : (Nat → Int32)) (mwe : (Nat → Int32)) (mla : (Nat → Int32)) (res : Int32 × Int32 × Int32 × (Nat → Int32) × (Nat → Int32) × (Nat → Int32)) (h : fX4_goes x1 x2 mke mnx mdo ce mmc mmf = some res) : MM l yX4_goes wsX4_goes ({ frames := 0, cells := 0, slots := 0, locals := 0 }) g [.ref (a 0), .int x1, .int x2] (wM g a mw mh mke mnx mdo mtr mma mto mah mrs mab ce mk mo mwa mmc mmf mhy myw myh myr mpi mme mde mwe mla) (wM g a mw mh res.1 res.2.1 res.2.2.1 mtr mma mto mah mrs mab res.2.2.2.1 mk mo mwa res.2.2.2.2.1 res.2.2.2.2.2 mhy myw myh myr mpi mme mde mwe mla) none := by
  refine MM.of (cc := cX4_goes) (own := RX4) 3 none (by decide +kernel) rfl (Nat.le_of_ble_eq_true rfl) rfl ?_
  intro p e s m args below meth c hx hb hr hml hown hts hlocks hK A hA ls hl hP hD hS
  have S : CallFix p m c cX4_goes 3 s args wsX4_goes RX4 := ⟨hx, hb, hml, hown, hts⟩
  have hl : lv_has ls 3 [(0, .ref (a 0)), (1, .int x1), (2, .int x2)] := hl
  have f29 := hts (.fieldLink RX4 29 "LandBoardModel" "movedCell" "[I") (by decide +kernel)
  have iX4 := (by decide +kernel : ∀ w ∈ u_ws RX4 TX4 26, w ∈ wsX4_goes)
  have f122 := hts (.fieldLink RX4 122 "LandBoardModel" "nextMove" "I") (by decide +kernel)
  have f32 := hts (.fieldLink RX4 32 "LandBoardModel" "movedFrom" "[I") (by decide +kernel)
  have f16 := hts (.fieldLink RX4 16 "LandBoardModel" "cells" "[I") (by decide +kernel)
  have f69 := hts (.fieldLink RX4 69 "LandBoardModel" "kept" "I") (by decide +kernel)
  have f125 := hts (.fieldLink RX4 125 "LandBoardModel" "done" "I") (by decide +kernel)
  refine lv_aload_n hx hb dX4_goes_0 rfl (lv_at hl 0 rfl) ?_
  refine va_get (D := g.1) (ci := 4) (v := .ref (a 5)) (C := RX4) (T := TX4) (N := 26) hx hb hts iX4 hown hK.1 hP 0 rfl rfl 9 (by decide) f29 (fun _ h9 => h9) rfl dX4_goes_1 ?_
  refine lv_aload_n hx hb dX4_goes_4 rfl (lv_at hl 0 rfl) ?_
  refine va_get (D := g.1) (ci := 4) (v := .int mnx) (C := RX4) (T := TX4) (N := 26) hx hb hts iX4 hown hK.1 hP 0 rfl rfl 7 (by decide) f122 (fun _ h9 => h9) rfl dX4_goes_5 ?_
  refine lv_iload_n hx hb dX4_goes_8 rfl (lv_at hl 1 rfl) ?_
  obtain ⟨hi, h⟩ := gdi h
  refine va_iast (D := g.1) hx hb hK.1 hP hD hS 5 0 rfl rfl hi dX4_goes_9 (fun H locs hP hD hS => ?_)
  have hP : va_P g.1 vwCl (wM g a mw mh mke mnx mdo mtr mma mto mah mrs mab ce mk mo mwa (upd mmc (mnx).toNatClampNeg x1) mmf mhy myw myh myr mpi mme mde mwe mla) H := hP
  have hD : va_D A (wM g a mw mh mke mnx mdo mtr mma mto mah mrs mab ce mk mo mwa (upd mmc (mnx).toNatClampNeg x1) mmf mhy myw myh myr mpi mme mde mwe mla) := hD
  refine lv_aload_n hx hb dX4_goes_10 rfl (lv_at hl 0 rfl) ?_
  refine va_get (D := g.1) (ci := 4) (v := .ref (a 6)) (C := RX4) (T := TX4) (N := 26) hx hb hts iX4 hown hK.1 hP 0 rfl rfl 10 (by decide) f32 (fun _ h9 => h9) rfl dX4_goes_11 ?_
  refine lv_aload_n hx hb dX4_goes_14 rfl (lv_at hl 0 rfl) ?_
  refine va_get (D := g.1) (ci := 4) (v := .int mnx) (C := RX4) (T := TX4) (N := 26) hx hb hts iX4 hown hK.1 hP 0 rfl rfl 7 (by decide) f122 (fun _ h9 => h9) rfl dX4_goes_15 ?_
  refine lv_aload_n hx hb dX4_goes_18 rfl (lv_at hl 0 rfl) ?_
  refine va_get (D := g.1) (ci := 4) (v := .ref (a 1)) (C := RX4) (T := TX4) (N := 26) hx hb hts iX4 hown hK.1 hP 0 rfl rfl 2 (by decide) f16 (fun _ h9 => h9) rfl dX4_goes_19 ?_
  refine lv_iload_n hx hb dX4_goes_22 rfl (lv_at hl 1 rfl) ?_
  obtain ⟨hi, h⟩ := gdi h
  refine va_iald (D := g.1) hx hb hK.1 hP 1 0 rfl rfl hi dX4_goes_23 ?_
  obtain ⟨hi, h⟩ := gdi h
  refine va_iast (D := g.1) hx hb hK.1 hP hD hS 6 0 rfl rfl hi dX4_goes_24 (fun H locs hP hD hS => ?_)
  have hP : va_P g.1 vwCl (wM g a mw mh mke mnx mdo mtr mma mto mah mrs mab ce mk mo mwa (upd mmc (mnx).toNatClampNeg x1) (upd mmf (mnx).toNatClampNeg (ce (x1).toNatClampNeg)) mhy myw myh myr mpi mme mde mwe mla) H := hP
  have hD : va_D A (wM g a mw mh mke mnx mdo mtr mma mto mah mrs mab ce mk mo mwa (upd mmc (mnx).toNatClampNeg x1) (upd mmf (mnx).toNatClampNeg (ce (x1).toNatClampNeg)) mhy myw myh myr mpi mme mde mwe mla) := hD
  refine lv_aload_n hx hb dX4_goes_25 rfl (lv_at hl 0 rfl) ?_
  refine lv_aload_n hx hb dX4_goes_26 rfl (lv_at hl 0 rfl) ?_
  refine va_get (D := g.1) (ci := 4) (v := .int mnx) (C := RX4) (T := TX4) (N := 26) hx hb hts iX4 hown hK.1 hP 0 rfl rfl 7 (by decide) f122 (fun _ h9 => h9) rfl dX4_goes_27 ?_
  refine lv_iconst (v := 1) hx hb dX4_goes_30 (by decide) ?_
  refine lv_iadd hx hb dX4_goes_31 ?_
  refine lv_bipush (v := 100) hx hb dX4_goes_32 (by decide) ?_
  refine lv_irem hx hb dX4_goes_34 (by decide) ?_
  refine va_put (D := g.1) (ci := 4) (v := .int ((mnx + (1 : Int32)) - (mnx + (1 : Int32)) / (100 : Int32) * (100 : Int32))) (ty := .int) (C := RX4) (T := TX4) (N := 26) hx hb hts iX4 tyX4 tyX4_ok nmX4 hown hK.1 hP hD hS 0 rfl rfl 7 (by decide) f122 (fun _ h9 => h9) rfl (by decide +kernel) rfl rfl (Nat.le_of_ble_eq_true rfl) dX4_goes_35 (fun H locs hP hD hS => ?_)
  have hP : va_P g.1 vwCl (wM g a mw mh mke ((mnx + (1 : Int32)) - (mnx + (1 : Int32)) / (100 : Int32) * (100 : Int32)) mdo mtr mma mto mah mrs mab ce mk mo mwa (upd mmc (mnx).toNatClampNeg x1) (upd mmf (mnx).toNatClampNeg (ce (x1).toNatClampNeg)) mhy myw myh myr mpi mme mde mwe mla) H := hP
  have hD : va_D A (wM g a mw mh mke ((mnx + (1 : Int32)) - (mnx + (1 : Int32)) / (100 : Int32) * (100 : Int32)) mdo mtr mma mto mah mrs mab ce mk mo mwa (upd mmc (mnx).toNatClampNeg x1) (upd mmf (mnx).toNatClampNeg (ce (x1).toNatClampNeg)) mhy myw myh myr mpi mme mde mwe mla) := hD
  refine lv_aload_n hx hb dX4_goes_38 rfl (lv_at hl 0 rfl) ?_
  refine lv_dup hx hb dX4_goes_39 rfl ?_
  refine va_get (D := g.1) (ci := 4) (v := .int mke) (C := RX4) (T := TX4) (N := 26) hx hb hts iX4 hown hK.1 hP 0 rfl rfl 6 (by decide) f69 (fun _ h9 => h9) rfl dX4_goes_40 ?_
  refine lv_aload_n hx hb dX4_goes_43 rfl (lv_at hl 0 rfl) ?_
  refine va_get (D := g.1) (ci := 4) (v := .int mke) (C := RX4) (T := TX4) (N := 26) hx hb hts iX4 hown hK.1 hP 0 rfl rfl 6 (by decide) f69 (fun _ h9 => h9) rfl dX4_goes_44 ?_
  refine lv_bipush (v := 100) hx hb dX4_goes_47 (by decide) ?_
  refine lv_icmp_ne (tgt := 56) hx hb dX4_goes_49 (by decide) (fun c49 => ?_) (fun c49 => ?_)
  ·
    replace h := gdn h c49
    refine lv_iconst (v := 1) hx hb dX4_goes_56 (by decide) ?_
    refine lv_iadd hx hb dX4_goes_57 ?_
    refine va_put (D := g.1) (ci := 4) (v := .int (mke + (1 : Int32))) (ty := .int) (C := RX4) (T := TX4) (N := 26) hx hb hts iX4 tyX4 tyX4_ok nmX4 hown hK.1 hP hD hS 0 rfl rfl 6 (by decide) f69 (fun _ h9 => h9) rfl (by decide +kernel) rfl rfl (Nat.le_of_ble_eq_true rfl) dX4_goes_58 (fun H locs hP hD hS => ?_)
    have hP : va_P g.1 vwCl (wM g a mw mh (mke + (1 : Int32)) ((mnx + (1 : Int32)) - (mnx + (1 : Int32)) / (100 : Int32) * (100 : Int32)) mdo mtr mma mto mah mrs mab ce mk mo mwa (upd mmc (mnx).toNatClampNeg x1) (upd mmf (mnx).toNatClampNeg (ce (x1).toNatClampNeg)) mhy myw myh myr mpi mme mde mwe mla) H := hP
    have hD : va_D A (wM g a mw mh (mke + (1 : Int32)) ((mnx + (1 : Int32)) - (mnx + (1 : Int32)) / (100 : Int32) * (100 : Int32)) mdo mtr mma mto mah mrs mab ce mk mo mwa (upd mmc (mnx).toNatClampNeg x1) (upd mmf (mnx).toNatClampNeg (ce (x1).toNatClampNeg)) mhy myw myh myr mpi mme mde mwe mla) := hD
    refine lv_aload_n hx hb dX4_goes_61 rfl (lv_at hl 0 rfl) ?_
    refine lv_dup hx hb dX4_goes_62 rfl ?_
    refine va_get (D := g.1) (ci := 4) (v := .int mdo) (C := RX4) (T := TX4) (N := 26) hx hb hts iX4 hown hK.1 hP 0 rfl rfl 8 (by decide) f125 (fun _ h9 => h9) rfl dX4_goes_63 ?_
    refine lv_iconst (v := 1) hx hb dX4_goes_66 (by decide) ?_
    refine lv_iadd hx hb dX4_goes_67 ?_
    refine va_put (D := g.1) (ci := 4) (v := .int (mdo + (1 : Int32))) (ty := .int) (C := RX4) (T := TX4) (N := 26) hx hb hts iX4 tyX4 tyX4_ok nmX4 hown hK.1 hP hD hS 0 rfl rfl 8 (by decide) f125 (fun _ h9 => h9) rfl (by decide +kernel) rfl rfl (Nat.le_of_ble_eq_true rfl) dX4_goes_68 (fun H locs hP hD hS => ?_)
    have hP : va_P g.1 vwCl (wM g a mw mh (mke + (1 : Int32)) ((mnx + (1 : Int32)) - (mnx + (1 : Int32)) / (100 : Int32) * (100 : Int32)) (mdo + (1 : Int32)) mtr mma mto mah mrs mab ce mk mo mwa (upd mmc (mnx).toNatClampNeg x1) (upd mmf (mnx).toNatClampNeg (ce (x1).toNatClampNeg)) mhy myw myh myr mpi mme mde mwe mla) H := hP
    have hD : va_D A (wM g a mw mh (mke + (1 : Int32)) ((mnx + (1 : Int32)) - (mnx + (1 : Int32)) / (100 : Int32) * (100 : Int32)) (mdo + (1 : Int32)) mtr mma mto mah mrs mab ce mk mo mwa (upd mmc (mnx).toNatClampNeg x1) (upd mmf (mnx).toNatClampNeg (ce (x1).toNatClampNeg)) mhy myw myh myr mpi mme mde mwe mla) := hD
    refine lv_aload_n hx hb dX4_goes_71 rfl (lv_at hl 0 rfl) ?_
    refine va_get (D := g.1) (ci := 4) (v := .ref (a 1)) (C := RX4) (T := TX4) (N := 26) hx hb hts iX4 hown hK.1 hP 0 rfl rfl 2 (by decide) f16 (fun _ h9 => h9) rfl dX4_goes_72 ?_
    refine lv_iload_n hx hb dX4_goes_75 rfl (lv_at hl 1 rfl) ?_
    refine lv_iload_n hx hb dX4_goes_76 rfl (lv_at hl 2 rfl) ?_
    obtain ⟨hi, h⟩ := gdi h
    refine va_iast (D := g.1) hx hb hK.1 hP hD hS 1 0 rfl rfl hi dX4_goes_77 (fun H locs hP hD hS => ?_)
    have hP : va_P g.1 vwCl (wM g a mw mh (mke + (1 : Int32)) ((mnx + (1 : Int32)) - (mnx + (1 : Int32)) / (100 : Int32) * (100 : Int32)) (mdo + (1 : Int32)) mtr mma mto mah mrs mab (upd ce (x1).toNatClampNeg x2) mk mo mwa (upd mmc (mnx).toNatClampNeg x1) (upd mmf (mnx).toNatClampNeg (ce (x1).toNatClampNeg)) mhy myw myh myr mpi mme mde mwe mla) H := hP
    have hD : va_D A (wM g a mw mh (mke + (1 : Int32)) ((mnx + (1 : Int32)) - (mnx + (1 : Int32)) / (100 : Int32) * (100 : Int32)) (mdo + (1 : Int32)) mtr mma mto mah mrs mab (upd ce (x1).toNatClampNeg x2) mk mo mwa (upd mmc (mnx).toNatClampNeg x1) (upd mmf (mnx).toNatClampNeg (ce (x1).toNatClampNeg)) mhy myw myh myr mpi mme mde mwe mla) := hD
    obtain rfl := Option.some.inj h
    exact retMv hx hb hr hlocks hP hD hS dX4_goes_78
  ·
    replace h := gdp h c49
    refine lv_iconst (v := 0) hx hb dX4_goes_52 (by decide) ?_
    refine lv_goto (tgt := 57) hx hb dX4_goes_53 (by decide) ?_
    refine lv_iadd hx hb dX4_goes_57 ?_
    refine va_put (D := g.1) (ci := 4) (v := .int (mke + (0 : Int32))) (ty := .int) (C := RX4) (T := TX4) (N := 26) hx hb hts iX4 tyX4 tyX4_ok nmX4 hown hK.1 hP hD hS 0 rfl rfl 6 (by decide) f69 (fun _ h9 => h9) rfl (by decide +kernel) rfl rfl (Nat.le_of_ble_eq_true rfl) dX4_goes_58 (fun H locs hP hD hS => ?_)
    have hP : va_P g.1 vwCl (wM g a mw mh (mke + (0 : Int32)) ((mnx + (1 : Int32)) - (mnx + (1 : Int32)) / (100 : Int32) * (100 : Int32)) mdo mtr mma mto mah mrs mab ce mk mo mwa (upd mmc (mnx).toNatClampNeg x1) (upd mmf (mnx).toNatClampNeg (ce (x1).toNatClampNeg)) mhy myw myh myr mpi mme mde mwe mla) H := hP
    have hD : va_D A (wM g a mw mh (mke + (0 : Int32)) ((mnx + (1 : Int32)) - (mnx + (1 : Int32)) / (100 : Int32) * (100 : Int32)) mdo mtr mma mto mah mrs mab ce mk mo mwa (upd mmc (mnx).toNatClampNeg x1) (upd mmf (mnx).toNatClampNeg (ce (x1).toNatClampNeg)) mhy myw myh myr mpi mme mde mwe mla) := hD
    refine lv_aload_n hx hb dX4_goes_61 rfl (lv_at hl 0 rfl) ?_
    refine lv_dup hx hb dX4_goes_62 rfl ?_
    refine va_get (D := g.1) (ci := 4) (v := .int mdo) (C := RX4) (T := TX4) (N := 26) hx hb hts iX4 hown hK.1 hP 0 rfl rfl 8 (by decide) f125 (fun _ h9 => h9) rfl dX4_goes_63 ?_
    refine lv_iconst (v := 1) hx hb dX4_goes_66 (by decide) ?_
    refine lv_iadd hx hb dX4_goes_67 ?_
    refine va_put (D := g.1) (ci := 4) (v := .int (mdo + (1 : Int32))) (ty := .int) (C := RX4) (T := TX4) (N := 26) hx hb hts iX4 tyX4 tyX4_ok nmX4 hown hK.1 hP hD hS 0 rfl rfl 8 (by decide) f125 (fun _ h9 => h9) rfl (by decide +kernel) rfl rfl (Nat.le_of_ble_eq_true rfl) dX4_goes_68 (fun H locs hP hD hS => ?_)
    have hP : va_P g.1 vwCl (wM g a mw mh (mke + (0 : Int32)) ((mnx + (1 : Int32)) - (mnx + (1 : Int32)) / (100 : Int32) * (100 : Int32)) (mdo + (1 : Int32)) mtr mma mto mah mrs mab ce mk mo mwa (upd mmc (mnx).toNatClampNeg x1) (upd mmf (mnx).toNatClampNeg (ce (x1).toNatClampNeg)) mhy myw myh myr mpi mme mde mwe mla) H := hP
    have hD : va_D A (wM g a mw mh (mke + (0 : Int32)) ((mnx + (1 : Int32)) - (mnx + (1 : Int32)) / (100 : Int32) * (100 : Int32)) (mdo + (1 : Int32)) mtr mma mto mah mrs mab ce mk mo mwa (upd mmc (mnx).toNatClampNeg x1) (upd mmf (mnx).toNatClampNeg (ce (x1).toNatClampNeg)) mhy myw myh myr mpi mme mde mwe mla) := hD
    refine lv_aload_n hx hb dX4_goes_71 rfl (lv_at hl 0 rfl) ?_
    refine va_get (D := g.1) (ci := 4) (v := .ref (a 1)) (C := RX4) (T := TX4) (N := 26) hx hb hts iX4 hown hK.1 hP 0 rfl rfl 2 (by decide) f16 (fun _ h9 => h9) rfl dX4_goes_72 ?_
    refine lv_iload_n hx hb dX4_goes_75 rfl (lv_at hl 1 rfl) ?_
    refine lv_iload_n hx hb dX4_goes_76 rfl (lv_at hl 2 rfl) ?_
    obtain ⟨hi, h⟩ := gdi h
    refine va_iast (D := g.1) hx hb hK.1 hP hD hS 1 0 rfl rfl hi dX4_goes_77 (fun H locs hP hD hS => ?_)
    have hP : va_P g.1 vwCl (wM g a mw mh (mke + (0 : Int32)) ((mnx + (1 : Int32)) - (mnx + (1 : Int32)) / (100 : Int32) * (100 : Int32)) (mdo + (1 : Int32)) mtr mma mto mah mrs mab (upd ce (x1).toNatClampNeg x2) mk mo mwa (upd mmc (mnx).toNatClampNeg x1) (upd mmf (mnx).toNatClampNeg (ce (x1).toNatClampNeg)) mhy myw myh myr mpi mme mde mwe mla) H := hP
    have hD : va_D A (wM g a mw mh (mke + (0 : Int32)) ((mnx + (1 : Int32)) - (mnx + (1 : Int32)) / (100 : Int32) * (100 : Int32)) (mdo + (1 : Int32)) mtr mma mto mah mrs mab (upd ce (x1).toNatClampNeg x2) mk mo mwa (upd mmc (mnx).toNatClampNeg x1) (upd mmf (mnx).toNatClampNeg (ce (x1).toNatClampNeg)) mhy myw myh myr mpi mme mde mwe mla) := hD
    obtain rfl := Option.some.inj h
    exact retMv hx hb hr hlocks hP hD hS dX4_goes_78
-- LandBoardModel.move
set_option maxHeartbeats 4000000 in
set_option maxRecDepth 100000 in
theorem ctX4_move (l : Launch) (g : GG) (a : Nat → Nat) (x1 : Int32) (x2 : Int32) (x3 : Int32) (mw : Int32) (mh : Int32) (mke : Int32) (mnx : Int32) (mdo : Int32) (mtr : Int64) (mma : Int32) (mto : Int32) (mah : Int32) (mrs : Int32) (mab : Int32) (ce : (Nat → Int32)) (mk : (Nat → Int32)) (mo : (Nat → Int32)) (mwa : (Nat → Int32)) (mmc : (Nat → Int32)) (mmf : (Nat → Int32)) (mhy : (Nat → Int32)) (myw : (Nat → Int32)) (myh : (Nat → Int32)) (myr : (Nat → Int32)) (mpi : (Nat → Int32)) (mme : (Nat → Int32)) (mde : (Nat → Int32)) (mwe : (Nat → Int32)) (mla : (Nat → Int32)) (res : Int32 × Int32 × Int32 × Int32 × (Nat → Int32) × (Nat → Int32) × (Nat → Int32) × (Nat → Int32) × (Nat → Int32)) (h : fX4_move x1 x2 x3 mw mh mke mnx mdo ce mk mo mmc mmf mpi mme = some res) : MM l yX4_move wsX4_move ({ frames := 7, cells := 0, slots := 0, locals := 171 }) g [.ref (a 0), .int x1, .int x2, .int x3] (wM g a mw mh mke mnx mdo mtr mma mto mah mrs mab ce mk mo mwa mmc mmf mhy myw myh myr mpi mme mde mwe mla) (wM g a mw mh res.2.1 res.2.2.1 res.2.2.2.1 mtr mma mto mah mrs mab res.2.2.2.2.1 mk mo mwa res.2.2.2.2.2.1 res.2.2.2.2.2.2.1 mhy myw myh myr res.2.2.2.2.2.2.2.1 res.2.2.2.2.2.2.2.2 mde mwe mla) (some (.int res.1)) := by
  refine MM.of (cc := cX4_move) (own := RX4) 6 (some .int) (by decide +kernel) rfl (Nat.le_of_ble_eq_true rfl) rfl ?_
  intro p e s m args below meth c hx hb hr hml hown hts hlocks hK A hA ls hl hP hD hS
  have S : CallFix p m c cX4_move 6 s args wsX4_move RX4 := ⟨hx, hb, hml, hown, hts⟩
  have hl : lv_has ls 6 [(0, .ref (a 0)), (1, .int x1), (2, .int x2), (3, .int x3)] := hl
  have f16 := hts (.fieldLink RX4 16 "LandBoardModel" "cells" "[I") (by decide +kernel)
  have iX4 := (by decide +kernel : ∀ w ∈ u_ws RX4 TX4 26, w ∈ wsX4_move)
  refine lv_aload_n hx hb dX4_move_0 rfl (lv_at hl 0 rfl) ?_
  refine lv_iload_n hx hb dX4_move_1 rfl (lv_at hl 1 rfl) ?_
  refine lv_iload_n hx hb dX4_move_2 rfl (lv_at hl 2 rfl) ?_
  refine kPV (As := [.int x1, .int x2]) (rest := []) (ci := 4) S (ctX4_cellAt l g a x1 x2 mw mh mke mnx mdo mtr mma mto mah mrs mab ce mk mo mwa mmc mmf mhy myw myh myr mpi mme mde mwe mla (fX4_cellAt x1 x2 mw mh) rfl) (cwV 2 hts gX4_move_X4_cellAt rfl rfl rfl (by decide +kernel) ⟨Nat.le_of_ble_eq_true rfl, Nat.le_of_ble_eq_true rfl⟩) hK hP [0, 1, 2, 3, 4, 5, 6, 7, 8, 9, 10, 11, 12, 13, 14, 15] rfl rfl rfl rfl rfl hl.1 rfl (Nat.le_of_ble_eq_true rfl) dX4_move_3 ⟨Nat.zero_le _, Nat.zero_le _⟩ ?_
  refine lv_istore (lv' := [(4, .int (fX4_cellAt x1 x2 mw mh)), (0, .ref (a 0)), (1, .int x1), (2, .int x2), (3, .int x3)]) hx hb dX4_move_6 hl (by decide) rfl (fun ls hl => ?_)
  refine lv_iload hx hb dX4_move_8 (lv_at hl 0 rfl) ?_
  refine lv_if_lt (tgt := 20) hx hb dX4_move_10 (by decide) (fun c10 => ?_) (fun c10 => ?_)
  ·
    replace h := gdp h c10
    refine lv_iconst (v := -1) hx hb dX4_move_20 (by decide) ?_
    obtain rfl := Option.some.inj h
    exact retMi (v := (-1 : Int32)) hx hb hr hlocks hP hD hS dX4_move_21
  ·
    replace h := gdn h c10
    refine lv_iload_n hx hb dX4_move_13 rfl (lv_at hl 4 rfl) ?_
    refine kPS (As := [.int x3]) (rest := []) S (ctX4_isLand l g x3  (fX4_isLand x3) rfl) (va_cwS 1 hts gX4_move_X4_isLand rfl rfl rfl (by decide +kernel) ⟨Nat.le_of_ble_eq_true rfl, Nat.le_of_ble_eq_true rfl⟩) hK rfl rfl hl.1 rfl (Nat.le_of_ble_eq_true rfl) dX4_move_14 ⟨Nat.zero_le _, Nat.zero_le _⟩ ?_
    refine lv_if_ne (tgt := 22) hx hb dX4_move_17 (by decide) (fun c17 => ?_) (fun c17 => ?_)
    ·
      replace h := gdn h c17
      refine lv_aload_n hx hb dX4_move_22 rfl (lv_at hl 1 rfl) ?_
      refine lv_iload hx hb dX4_move_23 (lv_at hl 0 rfl) ?_
      refine lv_iload_n hx hb dX4_move_25 rfl (lv_at hl 4 rfl) ?_
      obtain ⟨r26, hr26, h⟩ := gdb h
      refine kMV (As := [.int (fX4_cellAt x1 x2 mw mh), .int x3]) (rest := []) (ci := 4) (W1 := (wM g a mw mh mke mnx mdo mtr mma mto mah mrs mab r26.2.1 mk mo mwa mmc mmf mhy myw myh myr r26.2.2.1 r26.2.2.2 mde mwe mla)) (wr := []) S (ctX4_mayGo l g a (fX4_cellAt x1 x2 mw mh) x3 mw mh mke mnx mdo mtr mma mto mah mrs mab ce mk mo mwa mmc mmf mhy myw myh myr mpi mme mde mwe mla r26 hr26) (cwV 2 hts gX4_move_X4_mayGo rfl rfl rfl (by decide +kernel) ⟨Nat.le_of_ble_eq_true rfl, Nat.le_of_ble_eq_true rfl⟩) hK hP hD hS hA [0, 1, 2, 3, 4, 5, 6, 7, 8, 9, 10, 11, 12, 13, 14, 15] [] [0, 1, 2, 3, 4, 5, 6, 7, 8, 9, 10, 11, 12, 13, 14, 15] rfl rfl rfl rfl (by decide) rfl rfl rfl rfl rfl rfl hl.1 rfl (Nat.le_of_ble_eq_true rfl) dX4_move_26 ⟨Nat.zero_le _, Nat.zero_le _⟩ (fun H locs hP hD hS => ?_)
      show W p l e ({ frames := 7, cells := 0, slots := 0, locals := 171 }) s m args below meth c H locs 0 0 (MQ below (QM g (some (.int res.1)) (wM g a mw mh res.2.1 res.2.2.1 res.2.2.2.1 mtr mma mto mah mrs mab res.2.2.2.2.1 mk mo mwa res.2.2.2.2.2.1 res.2.2.2.2.2.2.1 mhy myw myh myr res.2.2.2.2.2.2.2.1 res.2.2.2.2.2.2.2.2 mde mwe mla) A) args s 0 0 A) (F0 m 29 ls [.int r26.1])
      refine lv_if_ne (tgt := 35) hx hb dX4_move_29 (by decide) (fun c29 => ?_) (fun c29 => ?_)
      ·
        replace h := gdn h c29
        refine lv_aload_n hx hb dX4_move_35 rfl (lv_at hl 1 rfl) ?_
        refine va_get (D := g.1) (ci := 4) (v := .ref (a 1)) (C := RX4) (T := TX4) (N := 26) hx hb hts iX4 hown hK.1 hP 0 rfl rfl 2 (by decide) f16 (fun _ h9 => h9) rfl dX4_move_36 ?_
        refine lv_iload hx hb dX4_move_39 (lv_at hl 0 rfl) ?_
        obtain ⟨hi, h⟩ := gdi h
        refine va_iald (D := g.1) hx hb hK.1 hP 1 0 rfl rfl hi dX4_move_41 ?_
        obtain ⟨v42, ev42, h⟩ := gdl h
        refine topi ev42 ?_
        refine lv_istore (lv' := [(5, .int v42), (4, .int (fX4_cellAt x1 x2 mw mh)), (0, .ref (a 0)), (1, .int x1), (2, .int x2), (3, .int x3)]) hx hb dX4_move_42 hl (by decide) rfl (fun ls hl => ?_)
        refine lv_aload_n hx hb dX4_move_44 rfl (lv_at hl 2 rfl) ?_
        refine lv_iload hx hb dX4_move_45 (lv_at hl 1 rfl) ?_
        refine lv_iload_n hx hb dX4_move_47 rfl (lv_at hl 5 rfl) ?_
        obtain ⟨r48, hr48, h⟩ := gdb h
        refine kMV (As := [.int (fX4_cellAt x1 x2 mw mh), .int x3]) (rest := []) (ci := 4) (W1 := (wM g a mw mh r48.1 r48.2.1 r48.2.2.1 mtr mma mto mah mrs mab r48.2.2.2.1 mk mo mwa r48.2.2.2.2.1 r48.2.2.2.2.2 mhy myw myh myr r26.2.2.1 r26.2.2.2 mde mwe mla)) (wr := []) S (ctX4_goes l g a (fX4_cellAt x1 x2 mw mh) x3 mw mh mke mnx mdo mtr mma mto mah mrs mab r26.2.1 mk mo mwa mmc mmf mhy myw myh myr r26.2.2.1 r26.2.2.2 mde mwe mla r48 hr48) (cwV 2 hts gX4_move_X4_goes rfl rfl rfl (by decide +kernel) ⟨Nat.le_of_ble_eq_true rfl, Nat.le_of_ble_eq_true rfl⟩) hK hP hD hS hA [0, 1, 2, 3, 4, 5, 6, 7, 8, 9, 10, 11, 12, 13, 14, 15] [] [0, 1, 2, 3, 4, 5, 6, 7, 8, 9, 10, 11, 12, 13, 14, 15] rfl rfl rfl rfl (by decide) rfl rfl rfl rfl rfl rfl hl.1 rfl (Nat.le_of_ble_eq_true rfl) dX4_move_48 ⟨Nat.zero_le _, Nat.zero_le _⟩ (fun H locs hP hD hS => ?_)
        show W p l e ({ frames := 7, cells := 0, slots := 0, locals := 171 }) s m args below meth c H locs 0 0 (MQ below (QM g (some (.int res.1)) (wM g a mw mh res.2.1 res.2.2.1 res.2.2.2.1 mtr mma mto mah mrs mab res.2.2.2.2.1 mk mo mwa res.2.2.2.2.2.1 res.2.2.2.2.2.2.1 mhy myw myh myr res.2.2.2.2.2.2.2.1 res.2.2.2.2.2.2.2.2 mde mwe mla) A) args s 0 0 A) (F0 m 51 ls [])
        refine lv_iload hx hb dX4_move_51 (lv_at hl 0 rfl) ?_
        obtain rfl := Option.some.inj h
        exact retMi hx hb hr hlocks hP hD hS dX4_move_53
      ·
        replace h := gdp h c29
        refine lv_bipush (v := -2) hx hb dX4_move_32 (by decide) ?_
        obtain rfl := Option.some.inj h
        exact retMi (v := (-2 : Int32)) hx hb hr hlocks hP hD hS dX4_move_34
    ·
      replace h := gdp h c17
      refine lv_iconst (v := -1) hx hb dX4_move_20 (by decide) ?_
      obtain rfl := Option.some.inj h
      exact retMi (v := (-1 : Int32)) hx hb hr hlocks hP hD hS dX4_move_21
-- LandBoardModel.want
set_option maxHeartbeats 4000000 in
set_option maxRecDepth 100000 in
theorem ctX4_want (l : Launch) (g : GG) (a : Nat → Nat) (x1 : Int32) (x2 : Int32) (mw : Int32) (mh : Int32) (mke : Int32) (mnx : Int32) (mdo : Int32) (mtr : Int64) (mma : Int32) (mto : Int32) (mah : Int32) (mrs : Int32) (mab : Int32) (ce : (Nat → Int32)) (mk : (Nat → Int32)) (mo : (Nat → Int32)) (mwa : (Nat → Int32)) (mmc : (Nat → Int32)) (mmf : (Nat → Int32)) (mhy : (Nat → Int32)) (myw : (Nat → Int32)) (myh : (Nat → Int32)) (myr : (Nat → Int32)) (mpi : (Nat → Int32)) (mme : (Nat → Int32)) (mde : (Nat → Int32)) (mwe : (Nat → Int32)) (mla : (Nat → Int32)) (res : Int32 × (Nat → Int32)) (h : fX4_want x1 x2 mwa = some res) : MM l yX4_want wsX4_want ({ frames := 2, cells := 0, slots := 0, locals := 42 }) g [.ref (a 0), .int x1, .int x2] (wM g a mw mh mke mnx mdo mtr mma mto mah mrs mab ce mk mo mwa mmc mmf mhy myw myh myr mpi mme mde mwe mla) (wM g a mw mh mke mnx mdo mtr mma mto mah mrs mab ce mk mo res.2 mmc mmf mhy myw myh myr mpi mme mde mwe mla) (some (.int res.1)) := by
  refine MM.of (cc := cX4_want) (own := RX4) 4 (some .int) (by decide +kernel) rfl (Nat.le_of_ble_eq_true rfl) rfl ?_
  intro p e s m args below meth c hx hb hr hml hown hts hlocks hK A hA ls hl hP hD hS
  have S : CallFix p m c cX4_want 4 s args wsX4_want RX4 := ⟨hx, hb, hml, hown, hts⟩
  have hl : lv_has ls 4 [(0, .ref (a 0)), (1, .int x1), (2, .int x2)] := hl
  have f26 := hts (.fieldLink RX4 26 "LandBoardModel" "wanted" "[I") (by decide +kernel)
  have iX4 := (by decide +kernel : ∀ w ∈ u_ws RX4 TX4 26, w ∈ wsX4_want)
  refine lv_iload_n hx hb dX4_want_0 rfl (lv_at hl 1 rfl) ?_
  refine kPS (As := [.int x1]) (rest := []) S (ctX4_isLand l g x1  (fX4_isLand x1) rfl) (va_cwS 1 hts gX4_want_X4_isLand rfl rfl rfl (by decide +kernel) ⟨Nat.le_of_ble_eq_true rfl, Nat.le_of_ble_eq_true rfl⟩) hK rfl rfl hl.1 rfl (Nat.le_of_ble_eq_true rfl) dX4_want_1 ⟨Nat.zero_le _, Nat.zero_le _⟩ ?_
  refine lv_if_eq (tgt := 17) hx hb dX4_want_4 (by decide) (fun c4 => ?_) (fun c4 => ?_)
  ·
    replace h := gdp h c4
    refine lv_iconst (v := -1) hx hb dX4_want_17 (by decide) ?_
    obtain rfl := Option.some.inj h
    exact retMi (v := (-1 : Int32)) hx hb hr hlocks hP hD hS dX4_want_18
  ·
    replace h := gdn h c4
    refine lv_iload_n hx hb dX4_want_7 rfl (lv_at hl 2 rfl) ?_
    refine lv_iconst (v := 0) hx hb dX4_want_8 (by decide) ?_
    refine lv_bipush (v := 64) hx hb dX4_want_9 (by decide) ?_
    refine kPS (As := [.int x2, .int (0 : Int32), .int (64 : Int32)]) (rest := []) S (ctX4_in l g x2 (0 : Int32) (64 : Int32)  (fX4_in x2 (0 : Int32) (64 : Int32)) rfl) (va_cwS 3 hts gX4_want_X4_in rfl rfl rfl (by decide +kernel) ⟨Nat.le_of_ble_eq_true rfl, Nat.le_of_ble_eq_true rfl⟩) hK rfl rfl hl.1 rfl (Nat.le_of_ble_eq_true rfl) dX4_want_11 ⟨Nat.zero_le _, Nat.zero_le _⟩ ?_
    refine lv_if_ne (tgt := 19) hx hb dX4_want_14 (by decide) (fun c14 => ?_) (fun c14 => ?_)
    ·
      replace h := gdn h c14
      refine lv_aload_n hx hb dX4_want_19 rfl (lv_at hl 0 rfl) ?_
      refine va_get (D := g.1) (ci := 4) (v := .ref (a 4)) (C := RX4) (T := TX4) (N := 26) hx hb hts iX4 hown hK.1 hP 0 rfl rfl 5 (by decide) f26 (fun _ h9 => h9) rfl dX4_want_20 ?_
      refine lv_iload_n hx hb dX4_want_23 rfl (lv_at hl 1 rfl) ?_
      obtain ⟨hi, h⟩ := gdi h
      refine va_iald (D := g.1) hx hb hK.1 hP 4 0 rfl rfl hi dX4_want_24 ?_
      refine lv_istore_n (lv' := [(3, .int (mwa (x1).toNatClampNeg)), (0, .ref (a 0)), (1, .int x1), (2, .int x2)]) hx hb dX4_want_25 rfl hl (by decide) rfl (fun ls hl => ?_)
      refine lv_aload_n hx hb dX4_want_26 rfl (lv_at hl 1 rfl) ?_
      refine va_get (D := g.1) (ci := 4) (v := .ref (a 4)) (C := RX4) (T := TX4) (N := 26) hx hb hts iX4 hown hK.1 hP 0 rfl rfl 5 (by decide) f26 (fun _ h9 => h9) rfl dX4_want_27 ?_
      refine lv_iload_n hx hb dX4_want_30 rfl (lv_at hl 2 rfl) ?_
      refine lv_iload_n hx hb dX4_want_31 rfl (lv_at hl 3 rfl) ?_
      obtain ⟨hi, h⟩ := gdi h
      refine va_iast (D := g.1) hx hb hK.1 hP hD hS 4 0 rfl rfl hi dX4_want_32 (fun H locs hP hD hS => ?_)
      have hP : va_P g.1 vwCl (wM g a mw mh mke mnx mdo mtr mma mto mah mrs mab ce mk mo (upd mwa (x1).toNatClampNeg x2) mmc mmf mhy myw myh myr mpi mme mde mwe mla) H := hP
      have hD : va_D A (wM g a mw mh mke mnx mdo mtr mma mto mah mrs mab ce mk mo (upd mwa (x1).toNatClampNeg x2) mmc mmf mhy myw myh myr mpi mme mde mwe mla) := hD
      refine lv_iload_n hx hb dX4_want_33 rfl (lv_at hl 0 rfl) ?_
      obtain rfl := Option.some.inj h
      exact retMi hx hb hr hlocks hP hD hS dX4_want_34
    ·
      replace h := gdp h c14
      refine lv_iconst (v := -1) hx hb dX4_want_17 (by decide) ?_
      obtain rfl := Option.some.inj h
      exact retMi (v := (-1 : Int32)) hx hb hr hlocks hP hD hS dX4_want_18
-- LandBoardModel.missNow
set_option maxHeartbeats 4000000 in
set_option maxRecDepth 100000 in
theorem ctX4_missNow (l : Launch) (g : GG) (a : Nat → Nat)  (mw : Int32) (mh : Int32) (mke : Int32) (mnx : Int32) (mdo : Int32) (mtr : Int64) (mma : Int32) (mto : Int32) (mah : Int32) (mrs : Int32) (mab : Int32) (ce : (Nat → Int32)) (mk : (Nat → Int32)) (mo : (Nat → Int32)) (mwa : (Nat → Int32)) (mmc : (Nat → Int32)) (mmf : (Nat → Int32)) (mhy : (Nat → Int32)) (myw : (Nat → Int32)) (myh : (Nat → Int32)) (myr : (Nat → Int32)) (mpi : (Nat → Int32)) (mme : (Nat → Int32)) (mde : (Nat → Int32)) (mwe : (Nat → Int32)) (mla : (Nat → Int32)) (res : Int32) (h : fX4_missNow mw mh ce mwa = some res) : MP l yX4_missNow wsX4_missNow ({ frames := 1, cells := 0, slots := 0, locals := 23 }) g [.ref (a 0)] (wM g a mw mh mke mnx mdo mtr mma mto mah mrs mab ce mk mo mwa mmc mmf mhy myw myh myr mpi mme mde mwe mla) (.int res) := by
  refine MP.of (cc := cX4_missNow) (own := RX4) 5 (some .int) (by decide +kernel) rfl (Nat.le_of_ble_eq_true rfl) rfl ?_
  intro p e s m args below meth c hx hb hr hml hown hts hlocks hP hK ls hl
  have S : CallFix p m c cX4_missNow 5 s args wsX4_missNow RX4 := ⟨hx, hb, hml, hown, hts⟩
  have hl : lv_has ls 5 [(0, .ref (a 0))] := hl
  have f26 := hts (.fieldLink RX4 26 "LandBoardModel" "wanted" "[I") (by decide +kernel)
  have iX4 := (by decide +kernel : ∀ w ∈ u_ws RX4 TX4 26, w ∈ wsX4_missNow)
  refine lv_iconst (v := 0) hx hb dX4_missNow_0 (by decide) ?_
  refine lv_istore_n (lv' := [(1, .int (0 : Int32)), (0, .ref (a 0))]) hx hb dX4_missNow_1 rfl hl (by decide) rfl (fun ls hl => ?_)
  refine lv_iconst (v := 0) hx hb dX4_missNow_2 (by decide) ?_
  refine lv_istore_n (lv' := [(2, .int (0 : Int32)), (1, .int (0 : Int32)), (0, .ref (a 0))]) hx hb dX4_missNow_3 rfl hl (by decide) rfl (fun ls hl => ?_)
  obtain ⟨t4, hw4, h⟩ := gdb h
  have X4 : ∀ ls : Array Slot, lv_has ls 5 [(1, .int t4)] → W p l e ({ frames := 1, cells := 0, slots := 0, locals := 23 }) s m args below meth c s.heap [] 0 0 (MQ below (k2_QcV (.int res)) args s 0 0 (fun _ => False)) (F0 m 56 ls []) := by
    intro ls hl
    refine lv_iload_n hx hb dX4_missNow_56 rfl (lv_at hl 0 rfl) ?_
    obtain rfl := Option.some.inj h
    exact retPi hx hb hr hlocks dX4_missNow_57
  clear h
  have L4 : ∀ (n : Nat) (s4 : Int32 × Int32), wh (fX4_missNow_4 mw mh ce mwa) n s4 = some t4 → ∀ ls : Array Slot, lv_has ls 5 [(0, .ref (a 0)), (1, .int s4.1), (2, .int s4.2)] → W p l e ({ frames := 1, cells := 0, slots := 0, locals := 23 }) s m args below meth c s.heap [] 0 0 (MQ below (k2_QcV (.int res)) args s 0 0 (fun _ => False)) (F0 m 4 ls []) := by
    intro n
    induction n with
    | zero => intro s4 hw; exact (wh_0 hw).elim
    | succ n ih4 =>
      intro s4 hw ls hl
      obtain ⟨r0, h, hr4⟩ := wh_s hw
      refine lv_iload_n hx hb dX4_missNow_4 rfl (lv_at hl 2 rfl) ?_
      refine lv_bipush (v := 6) hx hb dX4_missNow_5 (by decide) ?_
      refine lv_icmp_ge (tgt := 56) hx hb dX4_missNow_7 (by decide) (fun c7 => ?_) (fun c7 => ?_)
      ·
        replace h := gdp h c7
        obtain rfl := Option.some.inj h
        have e0 : s4.1 = t4 := hr4
        subst e0
        exact X4 _ (lv_sub hl [1] rfl)
      ·
        replace h := gdn h c7
        refine lv_aload_n hx hb dX4_missNow_10 rfl (lv_at hl 0 rfl) ?_
        refine lv_iload_n hx hb dX4_missNow_11 rfl (lv_at hl 2 rfl) ?_
        obtain ⟨r12, hr12, h⟩ := gdb h
        refine kPV (As := [.int s4.2]) (rest := []) (ci := 4) S (ctX4_sizeOf l g a s4.2 mw mh mke mnx mdo mtr mma mto mah mrs mab ce mk mo mwa mmc mmf mhy myw myh myr mpi mme mde mwe mla r12 hr12) (cwV 1 hts gX4_missNow_X4_sizeOf rfl rfl rfl (by decide +kernel) ⟨Nat.le_of_ble_eq_true rfl, Nat.le_of_ble_eq_true rfl⟩) hK hP [0, 1, 2, 3, 4, 5, 6, 7, 8, 9, 10, 11, 12, 13, 14, 15] rfl rfl rfl rfl rfl hl.1 rfl (Nat.le_of_ble_eq_true rfl) dX4_missNow_12 ⟨Nat.zero_le _, Nat.zero_le _⟩ ?_
        refine lv_istore_n (lv' := [(3, .int r12), (0, .ref (a 0)), (1, .int s4.1), (2, .int s4.2)]) hx hb dX4_missNow_15 rfl hl (by decide) rfl (fun ls hl => ?_)
        refine lv_iload_n hx hb dX4_missNow_16 rfl (lv_at hl 0 rfl) ?_
        refine lv_aload_n hx hb dX4_missNow_17 rfl (lv_at hl 1 rfl) ?_
        refine va_get (D := g.1) (ci := 4) (v := .ref (a 4)) (C := RX4) (T := TX4) (N := 26) hx hb hts iX4 hown hK.1 hP 0 rfl rfl 5 (by decide) f26 (fun _ h9 => h9) rfl dX4_missNow_18 ?_
        refine lv_iload_n hx hb dX4_missNow_21 rfl (lv_at hl 3 rfl) ?_
        obtain ⟨hi, h⟩ := gdi h
        refine va_iald (D := g.1) hx hb hK.1 hP 4 0 rfl rfl hi dX4_missNow_22 ?_
        refine lv_isub hx hb dX4_missNow_23 ?_
        refine lv_istore (lv' := [(4, .int (r12 - (mwa (s4.2).toNatClampNeg))), (3, .int r12), (0, .ref (a 0)), (1, .int s4.1), (2, .int s4.2)]) hx hb dX4_missNow_24 hl (by decide) rfl (fun ls hl => ?_)
        refine lv_iload_n hx hb dX4_missNow_26 rfl (lv_at hl 3 rfl) ?_
        refine lv_iload_n hx hb dX4_missNow_27 rfl (lv_at hl 1 rfl) ?_
        refine lv_if_ne (tgt := 35) hx hb dX4_missNow_28 (by decide) (fun c28 => ?_) (fun c28 => ?_)
        ·
          replace h := gdn h c28
          refine lv_iload hx hb dX4_missNow_35 (lv_at hl 0 rfl) ?_
          refine lv_if_ge (tgt := 46) hx hb dX4_missNow_37 (by decide) (fun c37 => ?_) (fun c37 => ?_)
          ·
            replace h := gdp h c37
            refine lv_iload hx hb dX4_missNow_46 (lv_at hl 0 rfl) ?_
            refine lv_iadd hx hb dX4_missNow_48 ?_
            refine lv_istore_n (lv' := [(1, .int (s4.1 + (r12 - (mwa (s4.2).toNatClampNeg)))), (4, .int (r12 - (mwa (s4.2).toNatClampNeg))), (3, .int r12), (0, .ref (a 0)), (2, .int s4.2)]) hx hb dX4_missNow_49 rfl hl (by decide) rfl (fun ls hl => ?_)
            refine lv_iinc (v := (s4.2 + 1)) (lv' := [(2, .int (s4.2 + 1)), (1, .int (s4.1 + (r12 - (mwa (s4.2).toNatClampNeg)))), (4, .int (r12 - (mwa (s4.2).toNatClampNeg))), (3, .int r12), (0, .ref (a 0))]) hx hb dX4_missNow_50 hl (k := 4) rfl rfl (by decide) rfl (fun ls hl => ?_)
            refine lv_goto (tgt := 4) hx hb dX4_missNow_53 (by decide) ?_
            obtain rfl := Option.some.inj h
            exact ih4 ((s4.1 + (r12 - (mwa (s4.2).toNatClampNeg))), (s4.2 + 1)) hr4 _ (lv_sub hl [4, 1, 0] rfl)
          ·
            replace h := gdn h c37
            refine lv_iload hx hb dX4_missNow_40 (lv_at hl 0 rfl) ?_
            refine lv_ineg hx hb dX4_missNow_42 ?_
            refine lv_goto (tgt := 48) hx hb dX4_missNow_43 (by decide) ?_
            refine lv_iadd hx hb dX4_missNow_48 ?_
            obtain ⟨v49, ev49, h⟩ := gdl h
            refine topi ev49 ?_
            refine lv_istore_n (lv' := [(1, .int v49), (4, .int (r12 - (mwa (s4.2).toNatClampNeg))), (3, .int r12), (0, .ref (a 0)), (2, .int s4.2)]) hx hb dX4_missNow_49 rfl hl (by decide) rfl (fun ls hl => ?_)
            refine lv_iinc (v := (s4.2 + 1)) (lv' := [(2, .int (s4.2 + 1)), (1, .int v49), (4, .int (r12 - (mwa (s4.2).toNatClampNeg))), (3, .int r12), (0, .ref (a 0))]) hx hb dX4_missNow_50 hl (k := 4) rfl rfl (by decide) rfl (fun ls hl => ?_)
            refine lv_goto (tgt := 4) hx hb dX4_missNow_53 (by decide) ?_
            obtain rfl := Option.some.inj h
            exact ih4 (v49, (s4.2 + 1)) hr4 _ (lv_sub hl [4, 1, 0] rfl)
        ·
          replace h := gdp h c28
          refine lv_iconst (v := 0) hx hb dX4_missNow_31 (by decide) ?_
          refine lv_goto (tgt := 48) hx hb dX4_missNow_32 (by decide) ?_
          refine lv_iadd hx hb dX4_missNow_48 ?_
          refine lv_istore_n (lv' := [(1, .int (s4.1 + (0 : Int32))), (4, .int (r12 - (mwa (s4.2).toNatClampNeg))), (3, .int r12), (0, .ref (a 0)), (2, .int s4.2)]) hx hb dX4_missNow_49 rfl hl (by decide) rfl (fun ls hl => ?_)
          refine lv_iinc (v := (s4.2 + 1)) (lv' := [(2, .int (s4.2 + 1)), (1, .int (s4.1 + (0 : Int32))), (4, .int (r12 - (mwa (s4.2).toNatClampNeg))), (3, .int r12), (0, .ref (a 0))]) hx hb dX4_missNow_50 hl (k := 4) rfl rfl (by decide) rfl (fun ls hl => ?_)
          refine lv_goto (tgt := 4) hx hb dX4_missNow_53 (by decide) ?_
          obtain rfl := Option.some.inj h
          exact ih4 ((s4.1 + (0 : Int32)), (s4.2 + 1)) hr4 _ (lv_sub hl [4, 1, 0] rfl)
  exact L4 _ ((0 : Int32), (0 : Int32)) hw4 _ (lv_sub hl [2, 1, 0] rfl)
-- LandBoardModel.miss
set_option maxHeartbeats 4000000 in
set_option maxRecDepth 100000 in
theorem ctX4_miss (l : Launch) (g : GG) (a : Nat → Nat)  (mw : Int32) (mh : Int32) (mke : Int32) (mnx : Int32) (mdo : Int32) (mtr : Int64) (mma : Int32) (mto : Int32) (mah : Int32) (mrs : Int32) (mab : Int32) (ce : (Nat → Int32)) (mk : (Nat → Int32)) (mo : (Nat → Int32)) (mwa : (Nat → Int32)) (mmc : (Nat → Int32)) (mmf : (Nat → Int32)) (mhy : (Nat → Int32)) (myw : (Nat → Int32)) (myh : (Nat → Int32)) (myr : (Nat → Int32)) (mpi : (Nat → Int32)) (mme : (Nat → Int32)) (mde : (Nat → Int32)) (mwe : (Nat → Int32)) (mla : (Nat → Int32)) (res : Int32) (h : fX4_miss mw mh ce mwa = some res) : MP l yX4_miss wsX4_miss ({ frames := 2, cells := 0, slots := 0, locals := 47 }) g [.ref (a 0)] (wM g a mw mh mke mnx mdo mtr mma mto mah mrs mab ce mk mo mwa mmc mmf mhy myw myh myr mpi mme mde mwe mla) (.int res) := by
  refine MP.of (cc := cX4_miss) (own := RX4) 1 (some .int) (by decide +kernel) rfl (Nat.le_of_ble_eq_true rfl) rfl ?_
  intro p e s m args below meth c hx hb hr hml hown hts hlocks hP hK ls hl
  have S : CallFix p m c cX4_miss 1 s args wsX4_miss RX4 := ⟨hx, hb, hml, hown, hts⟩
  have hl : lv_has ls 1 [(0, .ref (a 0))] := hl
  refine lv_aload_n hx hb dX4_miss_0 rfl (lv_at hl 0 rfl) ?_
  obtain ⟨r1, hr1, h⟩ := gdb h
  refine kPV (As := []) (rest := []) (ci := 4) S (ctX4_missNow l g a  mw mh mke mnx mdo mtr mma mto mah mrs mab ce mk mo mwa mmc mmf mhy myw myh myr mpi mme mde mwe mla r1 hr1) (cwV 0 hts gX4_miss_X4_missNow rfl rfl rfl (by decide +kernel) ⟨Nat.le_of_ble_eq_true rfl, Nat.le_of_ble_eq_true rfl⟩) hK hP [0, 1, 2, 3, 4, 5, 6, 7, 8, 9, 10, 11, 12, 13, 14, 15] rfl rfl rfl rfl rfl hl.1 rfl (Nat.le_of_ble_eq_true rfl) dX4_miss_1 ⟨Nat.zero_le _, Nat.zero_le _⟩ ?_
  obtain rfl := Option.some.inj h
  exact retPi hx hb hr hlocks dX4_miss_4
-- LandBoardModel.goesOn
set_option maxHeartbeats 4000000 in
set_option maxRecDepth 100000 in
theorem ctX4_goesOn (l : Launch) (g : GG) (a : Nat → Nat)  (mw : Int32) (mh : Int32) (mke : Int32) (mnx : Int32) (mdo : Int32) (mtr : Int64) (mma : Int32) (mto : Int32) (mah : Int32) (mrs : Int32) (mab : Int32) (ce : (Nat → Int32)) (mk : (Nat → Int32)) (mo : (Nat → Int32)) (mwa : (Nat → Int32)) (mmc : (Nat → Int32)) (mmf : (Nat → Int32)) (mhy : (Nat → Int32)) (myw : (Nat → Int32)) (myh : (Nat → Int32)) (myr : (Nat → Int32)) (mpi : (Nat → Int32)) (mme : (Nat → Int32)) (mde : (Nat → Int32)) (mwe : (Nat → Int32)) (mla : (Nat → Int32)) (res : Int32 × Int32 × Int32 × Int32 × (Nat → Int32) × (Nat → Int32) × (Nat → Int32) × (Nat → Int32) × (Nat → Int32)) (h : fX4_goesOn mw mh mke mnx mdo ce mk mo mwa mmc mmf mpi mme = some res) : MM l yX4_goesOn wsX4_goesOn ({ frames := 7, cells := 0, slots := 0, locals := 171 }) g [.ref (a 0)] (wM g a mw mh mke mnx mdo mtr mma mto mah mrs mab ce mk mo mwa mmc mmf mhy myw myh myr mpi mme mde mwe mla) (wM g a mw mh res.2.1 res.2.2.1 res.2.2.2.1 mtr mma mto mah mrs mab res.2.2.2.2.1 mk mo mwa res.2.2.2.2.2.1 res.2.2.2.2.2.2.1 mhy myw myh myr res.2.2.2.2.2.2.2.1 res.2.2.2.2.2.2.2.2 mde mwe mla) (some (.int res.1)) := by
  refine MM.of (cc := cX4_goesOn) (own := RX4) 8 (some .boolean) (by decide +kernel) rfl (Nat.le_of_ble_eq_true rfl) rfl ?_
  intro p e s m args below meth c hx hb hr hml hown hts hlocks hK A hA ls hl hP hD hS
  have S : CallFix p m c cX4_goesOn 8 s args wsX4_goesOn RX4 := ⟨hx, hb, hml, hown, hts⟩
  have hl : lv_has ls 8 [(0, .ref (a 0))] := hl
  have f7 := hts (.fieldLink RX4 7 "LandBoardModel" "w" "I") (by decide +kernel)
  have iX4 := (by decide +kernel : ∀ w ∈ u_ws RX4 TX4 26, w ∈ wsX4_goesOn)
  have f13 := hts (.fieldLink RX4 13 "LandBoardModel" "h" "I") (by decide +kernel)
  have f16 := hts (.fieldLink RX4 16 "LandBoardModel" "cells" "[I") (by decide +kernel)
  refine lv_aload_n hx hb dX4_goesOn_0 rfl (lv_at hl 0 rfl) ?_
  obtain ⟨r1, hr1, h⟩ := gdb h
  refine kPV (As := []) (rest := []) (ci := 4) S (ctX4_missNow l g a  mw mh mke mnx mdo mtr mma mto mah mrs mab ce mk mo mwa mmc mmf mhy myw myh myr mpi mme mde mwe mla r1 hr1) (cwV 0 hts gX4_goesOn_X4_missNow rfl rfl rfl (by decide +kernel) ⟨Nat.le_of_ble_eq_true rfl, Nat.le_of_ble_eq_true rfl⟩) hK hP [0, 1, 2, 3, 4, 5, 6, 7, 8, 9, 10, 11, 12, 13, 14, 15] rfl rfl rfl rfl rfl hl.1 rfl (Nat.le_of_ble_eq_true rfl) dX4_goesOn_1 ⟨Nat.zero_le _, Nat.zero_le _⟩ ?_
  refine lv_istore_n (lv' := [(1, .int r1), (0, .ref (a 0))]) hx hb dX4_goesOn_4 rfl hl (by decide) rfl (fun ls hl => ?_)
  refine lv_iconst (v := -1) hx hb dX4_goesOn_5 (by decide) ?_
  refine lv_istore_n (lv' := [(2, .int (-1 : Int32)), (1, .int r1), (0, .ref (a 0))]) hx hb dX4_goesOn_6 rfl hl (by decide) rfl (fun ls hl => ?_)
  refine lv_iconst (v := 0) hx hb dX4_goesOn_7 (by decide) ?_
  refine lv_istore_n (lv' := [(3, .int (0 : Int32)), (2, .int (-1 : Int32)), (1, .int r1), (0, .ref (a 0))]) hx hb dX4_goesOn_8 rfl hl (by decide) rfl (fun ls hl => ?_)
  refine lv_iconst (v := 0) hx hb dX4_goesOn_9 (by decide) ?_
  refine lv_istore (lv' := [(4, .int (0 : Int32)), (3, .int (0 : Int32)), (2, .int (-1 : Int32)), (1, .int r1), (0, .ref (a 0))]) hx hb dX4_goesOn_10 hl (by decide) rfl (fun ls hl => ?_)
  obtain ⟨t12, hw12, h⟩ := gdb h
  have X12 : ∀ (H : Heap) (locs : List Loc) (ls : Array Slot), va_P g.1 vwCl (wM g a mw mh mke mnx mdo mtr mma mto mah mrs mab t12.2.2.1 mk mo mwa mmc mmf mhy myw myh myr t12.2.2.2.1 t12.2.2.2.2 mde mwe mla) H → va_D A (wM g a mw mh mke mnx mdo mtr mma mto mah mrs mab t12.2.2.1 mk mo mwa mmc mmf mhy myw myh myr t12.2.2.2.1 t12.2.2.2.2 mde mwe mla) → va_S A s.heap H locs → lv_has ls 8 [(0, .ref (a 0)), (2, .int t12.1), (3, .int t12.2.1)] → W p l e ({ frames := 7, cells := 0, slots := 0, locals := 171 }) s m args below meth c H locs 0 0 (MQ below (QM g (some (.int res.1)) (wM g a mw mh res.2.1 res.2.2.1 res.2.2.2.1 mtr mma mto mah mrs mab res.2.2.2.2.1 mk mo mwa res.2.2.2.2.2.1 res.2.2.2.2.2.2.1 mhy myw myh myr res.2.2.2.2.2.2.2.1 res.2.2.2.2.2.2.2.2 mde mwe mla) A) args s 0 0 A) (F0 m 131 ls []) := by
    intro H locs ls hP hD hS hl
    refine lv_iload_n hx hb dX4_goesOn_131 rfl (lv_at hl 1 rfl) ?_
    refine lv_if_ge (tgt := 137) hx hb dX4_goesOn_132 (by decide) (fun c132 => ?_) (fun c132 => ?_)
    ·
      replace h := gdp h c132
      refine lv_aload_n hx hb dX4_goesOn_137 rfl (lv_at hl 0 rfl) ?_
      refine lv_iload_n hx hb dX4_goesOn_138 rfl (lv_at hl 1 rfl) ?_
      refine lv_iload_n hx hb dX4_goesOn_139 rfl (lv_at hl 2 rfl) ?_
      obtain ⟨r140, hr140, h⟩ := gdb h
      refine kMV (As := [.int t12.1, .int t12.2.1]) (rest := []) (ci := 4) (W1 := (wM g a mw mh r140.1 r140.2.1 r140.2.2.1 mtr mma mto mah mrs mab r140.2.2.2.1 mk mo mwa r140.2.2.2.2.1 r140.2.2.2.2.2 mhy myw myh myr t12.2.2.2.1 t12.2.2.2.2 mde mwe mla)) (wr := []) S (ctX4_goes l g a t12.1 t12.2.1 mw mh mke mnx mdo mtr mma mto mah mrs mab t12.2.2.1 mk mo mwa mmc mmf mhy myw myh myr t12.2.2.2.1 t12.2.2.2.2 mde mwe mla r140 hr140) (cwV 2 hts gX4_goesOn_X4_goes rfl rfl rfl (by decide +kernel) ⟨Nat.le_of_ble_eq_true rfl, Nat.le_of_ble_eq_true rfl⟩) hK hP hD hS hA [0, 1, 2, 3, 4, 5, 6, 7, 8, 9, 10, 11, 12, 13, 14, 15] [] [0, 1, 2, 3, 4, 5, 6, 7, 8, 9, 10, 11, 12, 13, 14, 15] rfl rfl rfl rfl (by decide) rfl rfl rfl rfl rfl rfl hl.1 rfl (Nat.le_of_ble_eq_true rfl) dX4_goesOn_140 ⟨Nat.zero_le _, Nat.zero_le _⟩ (fun H locs hP hD hS => ?_)
      show W p l e ({ frames := 7, cells := 0, slots := 0, locals := 171 }) s m args below meth c H locs 0 0 (MQ below (QM g (some (.int res.1)) (wM g a mw mh res.2.1 res.2.2.1 res.2.2.2.1 mtr mma mto mah mrs mab res.2.2.2.2.1 mk mo mwa res.2.2.2.2.2.1 res.2.2.2.2.2.2.1 mhy myw myh myr res.2.2.2.2.2.2.2.1 res.2.2.2.2.2.2.2.2 mde mwe mla) A) args s 0 0 A) (F0 m 143 ls [])
      refine lv_iconst (v := 1) hx hb dX4_goesOn_143 (by decide) ?_
      obtain rfl := Option.some.inj h
      exact retMz (v := (1 : Int32)) hx hb hr hlocks rfl hP hD hS dX4_goesOn_144
    ·
      replace h := gdn h c132
      refine lv_iconst (v := 0) hx hb dX4_goesOn_135 (by decide) ?_
      obtain rfl := Option.some.inj h
      exact retMz (v := (0 : Int32)) hx hb hr hlocks rfl hP hD hS dX4_goesOn_136
  clear h
  have L12 : ∀ (n : Nat) (s12 : Int32 × Int32 × Int32 × Int32 × (Nat → Int32) × (Nat → Int32) × (Nat → Int32)), wh (fX4_goesOn_12 mw mh mk mo mwa) n s12 = some t12 → ∀ (H : Heap) (locs : List Loc) (ls : Array Slot), va_P g.1 vwCl (wM g a mw mh mke mnx mdo mtr mma mto mah mrs mab s12.2.2.2.2.1 mk mo mwa mmc mmf mhy myw myh myr s12.2.2.2.2.2.1 s12.2.2.2.2.2.2 mde mwe mla) H → va_D A (wM g a mw mh mke mnx mdo mtr mma mto mah mrs mab s12.2.2.2.2.1 mk mo mwa mmc mmf mhy myw myh myr s12.2.2.2.2.2.1 s12.2.2.2.2.2.2 mde mwe mla) → va_S A s.heap H locs → lv_has ls 8 [(0, .ref (a 0)), (1, .int s12.1), (2, .int s12.2.1), (3, .int s12.2.2.1), (4, .int s12.2.2.2.1)] → W p l e ({ frames := 7, cells := 0, slots := 0, locals := 171 }) s m args below meth c H locs 0 0 (MQ below (QM g (some (.int res.1)) (wM g a mw mh res.2.1 res.2.2.1 res.2.2.2.1 mtr mma mto mah mrs mab res.2.2.2.2.1 mk mo mwa res.2.2.2.2.2.1 res.2.2.2.2.2.2.1 mhy myw myh myr res.2.2.2.2.2.2.2.1 res.2.2.2.2.2.2.2.2 mde mwe mla) A) args s 0 0 A) (F0 m 12 ls []) := by
    intro n
    induction n with
    | zero => intro s12 hw; exact (wh_0 hw).elim
    | succ n ih12 =>
      intro s12 hw H locs ls hP hD hS hl
      obtain ⟨r0, h, hr12⟩ := wh_s hw
      refine lv_iload hx hb dX4_goesOn_12 (lv_at hl 4 rfl) ?_
      refine lv_aload_n hx hb dX4_goesOn_14 rfl (lv_at hl 0 rfl) ?_
      refine va_get (D := g.1) (ci := 4) (v := .int mw) (C := RX4) (T := TX4) (N := 26) hx hb hts iX4 hown hK.1 hP 0 rfl rfl 0 (by decide) f7 (fun _ h9 => h9) rfl dX4_goesOn_15 ?_
      refine lv_aload_n hx hb dX4_goesOn_18 rfl (lv_at hl 0 rfl) ?_
      refine va_get (D := g.1) (ci := 4) (v := .int mh) (C := RX4) (T := TX4) (N := 26) hx hb hts iX4 hown hK.1 hP 0 rfl rfl 1 (by decide) f13 (fun _ h9 => h9) rfl dX4_goesOn_19 ?_
      refine lv_imul hx hb dX4_goesOn_22 ?_
      refine lv_icmp_ge (tgt := 131) hx hb dX4_goesOn_23 (by decide) (fun c23 => ?_) (fun c23 => ?_)
      ·
        replace h := gdp h c23
        obtain rfl := Option.some.inj h
        have e0 : (s12.2.1, s12.2.2.1, s12.2.2.2.2.1, s12.2.2.2.2.2.1, s12.2.2.2.2.2.2) = t12 := hr12
        subst e0
        exact X12 _ _ _ hP hD hS (lv_sub hl [0, 2, 3] rfl)
      ·
        replace h := gdn h c23
        refine lv_iconst (v := 0) hx hb dX4_goesOn_26 (by decide) ?_
        refine lv_istore (lv' := [(5, .int (0 : Int32)), (0, .ref (a 0)), (1, .int s12.1), (2, .int s12.2.1), (3, .int s12.2.2.1), (4, .int s12.2.2.2.1)]) hx hb dX4_goesOn_27 hl (by decide) rfl (fun ls hl => ?_)
        obtain ⟨t29, hw29, h⟩ := gdb h
        have X29 : ∀ (H : Heap) (locs : List Loc) (ls : Array Slot), va_P g.1 vwCl (wM g a mw mh mke mnx mdo mtr mma mto mah mrs mab t29.2.2.2.1 mk mo mwa mmc mmf mhy myw myh myr t29.2.2.2.2.1 t29.2.2.2.2.2 mde mwe mla) H → va_D A (wM g a mw mh mke mnx mdo mtr mma mto mah mrs mab t29.2.2.2.1 mk mo mwa mmc mmf mhy myw myh myr t29.2.2.2.2.1 t29.2.2.2.2.2 mde mwe mla) → va_S A s.heap H locs → lv_has ls 8 [(0, .ref (a 0)), (1, .int t29.1), (2, .int t29.2.1), (3, .int t29.2.2.1), (4, .int s12.2.2.2.1)] → W p l e ({ frames := 7, cells := 0, slots := 0, locals := 171 }) s m args below meth c H locs 0 0 (MQ below (QM g (some (.int res.1)) (wM g a mw mh res.2.1 res.2.2.1 res.2.2.2.1 mtr mma mto mah mrs mab res.2.2.2.2.1 mk mo mwa res.2.2.2.2.2.1 res.2.2.2.2.2.2.1 mhy myw myh myr res.2.2.2.2.2.2.2.1 res.2.2.2.2.2.2.2.2 mde mwe mla) A) args s 0 0 A) (F0 m 125 ls []) := by
          intro H locs ls hP hD hS hl
          refine lv_iinc (v := (s12.2.2.2.1 + 1)) (lv' := [(4, .int (s12.2.2.2.1 + 1)), (0, .ref (a 0)), (1, .int t29.1), (2, .int t29.2.1), (3, .int t29.2.2.1)]) hx hb dX4_goesOn_125 hl (k := 4) rfl rfl (by decide) rfl (fun ls hl => ?_)
          refine lv_goto (tgt := 12) hx hb dX4_goesOn_128 (by decide) ?_
          obtain rfl := Option.some.inj h
          exact ih12 (t29.1, t29.2.1, t29.2.2.1, (s12.2.2.2.1 + 1), t29.2.2.2.1, t29.2.2.2.2.1, t29.2.2.2.2.2) hr12 _ _ _ hP hD hS (lv_sub hl [1, 2, 3, 4, 0] rfl)
        clear h
        have L29 : ∀ (n : Nat) (s29 : Int32 × Int32 × Int32 × Int32 × (Nat → Int32) × (Nat → Int32) × (Nat → Int32)), wh (fX4_goesOn_29 mw mh mk mo mwa s12) n s29 = some t29 → ∀ (H : Heap) (locs : List Loc) (ls : Array Slot), va_P g.1 vwCl (wM g a mw mh mke mnx mdo mtr mma mto mah mrs mab s29.2.2.2.2.1 mk mo mwa mmc mmf mhy myw myh myr s29.2.2.2.2.2.1 s29.2.2.2.2.2.2 mde mwe mla) H → va_D A (wM g a mw mh mke mnx mdo mtr mma mto mah mrs mab s29.2.2.2.2.1 mk mo mwa mmc mmf mhy myw myh myr s29.2.2.2.2.2.1 s29.2.2.2.2.2.2 mde mwe mla) → va_S A s.heap H locs → lv_has ls 8 [(0, .ref (a 0)), (1, .int s29.1), (2, .int s29.2.1), (3, .int s29.2.2.1), (4, .int s12.2.2.2.1), (5, .int s29.2.2.2.1)] → W p l e ({ frames := 7, cells := 0, slots := 0, locals := 171 }) s m args below meth c H locs 0 0 (MQ below (QM g (some (.int res.1)) (wM g a mw mh res.2.1 res.2.2.1 res.2.2.2.1 mtr mma mto mah mrs mab res.2.2.2.2.1 mk mo mwa res.2.2.2.2.2.1 res.2.2.2.2.2.2.1 mhy myw myh myr res.2.2.2.2.2.2.2.1 res.2.2.2.2.2.2.2.2 mde mwe mla) A) args s 0 0 A) (F0 m 29 ls []) := by
          intro n
          induction n with
          | zero => intro s29 hw; exact (wh_0 hw).elim
          | succ n ih29 =>
            intro s29 hw H locs ls hP hD hS hl
            obtain ⟨r0, h, hr29⟩ := wh_s hw
            refine lv_iload hx hb dX4_goesOn_29 (lv_at hl 5 rfl) ?_
            refine lv_bipush (v := 6) hx hb dX4_goesOn_31 (by decide) ?_
            refine lv_icmp_ge (tgt := 125) hx hb dX4_goesOn_33 (by decide) (fun c33 => ?_) (fun c33 => ?_)
            ·
              replace h := gdp h c33
              obtain rfl := Option.some.inj h
              have e0 : (s29.1, s29.2.1, s29.2.2.1, s29.2.2.2.2.1, s29.2.2.2.2.2.1, s29.2.2.2.2.2.2) = t29 := hr29
              subst e0
              exact X29 _ _ _ hP hD hS (lv_sub hl [0, 1, 2, 3, 4] rfl)
            ·
              replace h := gdn h c33
              refine lv_aload_n hx hb dX4_goesOn_36 rfl (lv_at hl 0 rfl) ?_
              refine lv_iload hx hb dX4_goesOn_37 (lv_at hl 4 rfl) ?_
              refine lv_iload hx hb dX4_goesOn_39 (lv_at hl 5 rfl) ?_
              obtain ⟨r41, hr41, h⟩ := gdb h
              refine kMV (As := [.int s12.2.2.2.1, .int s29.2.2.2.1]) (rest := []) (ci := 4) (W1 := (wM g a mw mh mke mnx mdo mtr mma mto mah mrs mab r41.2.1 mk mo mwa mmc mmf mhy myw myh myr r41.2.2.1 r41.2.2.2 mde mwe mla)) (wr := []) S (ctX4_mayGo l g a s12.2.2.2.1 s29.2.2.2.1 mw mh mke mnx mdo mtr mma mto mah mrs mab s29.2.2.2.2.1 mk mo mwa mmc mmf mhy myw myh myr s29.2.2.2.2.2.1 s29.2.2.2.2.2.2 mde mwe mla r41 hr41) (cwV 2 hts gX4_goesOn_X4_mayGo rfl rfl rfl (by decide +kernel) ⟨Nat.le_of_ble_eq_true rfl, Nat.le_of_ble_eq_true rfl⟩) hK hP hD hS hA [0, 1, 2, 3, 4, 5, 6, 7, 8, 9, 10, 11, 12, 13, 14, 15] [] [0, 1, 2, 3, 4, 5, 6, 7, 8, 9, 10, 11, 12, 13, 14, 15] rfl rfl rfl rfl (by decide) rfl rfl rfl rfl rfl rfl hl.1 rfl (Nat.le_of_ble_eq_true rfl) dX4_goesOn_41 ⟨Nat.zero_le _, Nat.zero_le _⟩ (fun H locs hP hD hS => ?_)
              show W p l e ({ frames := 7, cells := 0, slots := 0, locals := 171 }) s m args below meth c H locs 0 0 (MQ below (QM g (some (.int res.1)) (wM g a mw mh res.2.1 res.2.2.1 res.2.2.2.1 mtr mma mto mah mrs mab res.2.2.2.2.1 mk mo mwa res.2.2.2.2.2.1 res.2.2.2.2.2.2.1 mhy myw myh myr res.2.2.2.2.2.2.2.1 res.2.2.2.2.2.2.2.2 mde mwe mla) A) args s 0 0 A) (F0 m 44 ls [.int r41.1])
              refine lv_if_eq (tgt := 119) hx hb dX4_goesOn_44 (by decide) (fun c44 => ?_) (fun c44 => ?_)
              ·
                replace h := gdp h c44
                refine lv_iinc (v := (s29.2.2.2.1 + 1)) (lv' := [(5, .int (s29.2.2.2.1 + 1)), (0, .ref (a 0)), (1, .int s29.1), (2, .int s29.2.1), (3, .int s29.2.2.1), (4, .int s12.2.2.2.1)]) hx hb dX4_goesOn_119 hl (k := 5) rfl rfl (by decide) rfl (fun ls hl => ?_)
                refine lv_goto (tgt := 29) hx hb dX4_goesOn_122 (by decide) ?_
                obtain rfl := Option.some.inj h
                exact ih29 (s29.1, s29.2.1, s29.2.2.1, (s29.2.2.2.1 + 1), r41.2.1, r41.2.2.1, r41.2.2.2) hr29 _ _ _ hP hD hS (lv_sub hl [1, 2, 3, 4, 5, 0] rfl)
              ·
                replace h := gdn h c44
                refine lv_aload_n hx hb dX4_goesOn_47 rfl (lv_at hl 0 rfl) ?_
                refine va_get (D := g.1) (ci := 4) (v := .ref (a 1)) (C := RX4) (T := TX4) (N := 26) hx hb hts iX4 hown hK.1 hP 0 rfl rfl 2 (by decide) f16 (fun _ h9 => h9) rfl dX4_goesOn_48 ?_
                refine lv_iload hx hb dX4_goesOn_51 (lv_at hl 4 rfl) ?_
                obtain ⟨hi, h⟩ := gdi h
                refine va_iald (D := g.1) hx hb hK.1 hP 1 0 rfl rfl hi dX4_goesOn_53 ?_
                refine lv_istore (lv' := [(6, .int (r41.2.1 (s12.2.2.2.1).toNatClampNeg)), (0, .ref (a 0)), (1, .int s29.1), (2, .int s29.2.1), (3, .int s29.2.2.1), (4, .int s12.2.2.2.1), (5, .int s29.2.2.2.1)]) hx hb dX4_goesOn_54 hl (by decide) rfl (fun ls hl => ?_)
                refine lv_aload_n hx hb dX4_goesOn_56 rfl (lv_at hl 1 rfl) ?_
                refine va_get (D := g.1) (ci := 4) (v := .ref (a 1)) (C := RX4) (T := TX4) (N := 26) hx hb hts iX4 hown hK.1 hP 0 rfl rfl 2 (by decide) f16 (fun _ h9 => h9) rfl dX4_goesOn_57 ?_
                refine lv_iload hx hb dX4_goesOn_60 (lv_at hl 5 rfl) ?_
                refine lv_iload hx hb dX4_goesOn_62 (lv_at hl 6 rfl) ?_
                obtain ⟨hi, h⟩ := gdi h
                refine va_iast (D := g.1) hx hb hK.1 hP hD hS 1 0 rfl rfl hi dX4_goesOn_64 (fun H locs hP hD hS => ?_)
                have hP : va_P g.1 vwCl (wM g a mw mh mke mnx mdo mtr mma mto mah mrs mab (upd r41.2.1 (s12.2.2.2.1).toNatClampNeg s29.2.2.2.1) mk mo mwa mmc mmf mhy myw myh myr r41.2.2.1 r41.2.2.2 mde mwe mla) H := hP
                have hD : va_D A (wM g a mw mh mke mnx mdo mtr mma mto mah mrs mab (upd r41.2.1 (s12.2.2.2.1).toNatClampNeg s29.2.2.2.1) mk mo mwa mmc mmf mhy myw myh myr r41.2.2.1 r41.2.2.2 mde mwe mla) := hD
                refine lv_aload_n hx hb dX4_goesOn_65 rfl (lv_at hl 1 rfl) ?_
                obtain ⟨r66, hr66, h⟩ := gdb h
                refine kPV (As := []) (rest := []) (ci := 4) S (ctX4_missNow l g a  mw mh mke mnx mdo mtr mma mto mah mrs mab (upd r41.2.1 (s12.2.2.2.1).toNatClampNeg s29.2.2.2.1) mk mo mwa mmc mmf mhy myw myh myr r41.2.2.1 r41.2.2.2 mde mwe mla r66 hr66) (cwV 0 hts gX4_goesOn_X4_missNow rfl rfl rfl (by decide +kernel) ⟨Nat.le_of_ble_eq_true rfl, Nat.le_of_ble_eq_true rfl⟩) hK hP [0, 1, 2, 3, 4, 5, 6, 7, 8, 9, 10, 11, 12, 13, 14, 15] rfl rfl rfl rfl rfl hl.1 rfl (Nat.le_of_ble_eq_true rfl) dX4_goesOn_66 ⟨Nat.zero_le _, Nat.zero_le _⟩ ?_
                refine lv_istore (lv' := [(7, .int r66), (6, .int (r41.2.1 (s12.2.2.2.1).toNatClampNeg)), (0, .ref (a 0)), (1, .int s29.1), (2, .int s29.2.1), (3, .int s29.2.2.1), (4, .int s12.2.2.2.1), (5, .int s29.2.2.2.1)]) hx hb dX4_goesOn_69 hl (by decide) rfl (fun ls hl => ?_)
                refine lv_aload_n hx hb dX4_goesOn_71 rfl (lv_at hl 2 rfl) ?_
                refine va_get (D := g.1) (ci := 4) (v := .ref (a 1)) (C := RX4) (T := TX4) (N := 26) hx hb hts iX4 hown hK.1 hP 0 rfl rfl 2 (by decide) f16 (fun _ h9 => h9) rfl dX4_goesOn_72 ?_
                refine lv_iload hx hb dX4_goesOn_75 (lv_at hl 6 rfl) ?_
                refine lv_iload hx hb dX4_goesOn_77 (lv_at hl 1 rfl) ?_
                obtain ⟨hi, h⟩ := gdi h
                refine va_iast (D := g.1) hx hb hK.1 hP hD hS 1 0 rfl rfl hi dX4_goesOn_79 (fun H locs hP hD hS => ?_)
                have hP : va_P g.1 vwCl (wM g a mw mh mke mnx mdo mtr mma mto mah mrs mab (upd (upd r41.2.1 (s12.2.2.2.1).toNatClampNeg s29.2.2.2.1) (s12.2.2.2.1).toNatClampNeg (r41.2.1 (s12.2.2.2.1).toNatClampNeg)) mk mo mwa mmc mmf mhy myw myh myr r41.2.2.1 r41.2.2.2 mde mwe mla) H := hP
                have hD : va_D A (wM g a mw mh mke mnx mdo mtr mma mto mah mrs mab (upd (upd r41.2.1 (s12.2.2.2.1).toNatClampNeg s29.2.2.2.1) (s12.2.2.2.1).toNatClampNeg (r41.2.1 (s12.2.2.2.1).toNatClampNeg)) mk mo mwa mmc mmf mhy myw myh myr r41.2.2.1 r41.2.2.2 mde mwe mla) := hD
                refine lv_iload hx hb dX4_goesOn_80 (lv_at hl 0 rfl) ?_
                refine lv_iload_n hx hb dX4_goesOn_82 rfl (lv_at hl 3 rfl) ?_
                refine lv_icmp_ge (tgt := 91) hx hb dX4_goesOn_83 (by decide) (fun c83 => ?_) (fun c83 => ?_)
                ·
                  replace h := gdp h c83
                  refine lv_iload_n hx hb dX4_goesOn_91 rfl (lv_at hl 4 rfl) ?_
                  refine lv_istore_n (lv' := [(2, .int s29.2.1), (7, .int r66), (6, .int (r41.2.1 (s12.2.2.2.1).toNatClampNeg)), (0, .ref (a 0)), (1, .int s29.1), (3, .int s29.2.2.1), (4, .int s12.2.2.2.1), (5, .int s29.2.2.2.1)]) hx hb dX4_goesOn_92 rfl hl (by decide) rfl (fun ls hl => ?_)
                  refine lv_iload hx hb dX4_goesOn_93 (lv_at hl 1 rfl) ?_
                  refine lv_iload_n hx hb dX4_goesOn_95 rfl (lv_at hl 4 rfl) ?_
                  refine lv_icmp_ge (tgt := 104) hx hb dX4_goesOn_96 (by decide) (fun c96 => ?_) (fun c96 => ?_)
                  ·
                    replace h := gdp h c96
                    refine lv_iload_n hx hb dX4_goesOn_104 rfl (lv_at hl 5 rfl) ?_
                    refine lv_istore_n (lv' := [(3, .int s29.2.2.1), (2, .int s29.2.1), (7, .int r66), (6, .int (r41.2.1 (s12.2.2.2.1).toNatClampNeg)), (0, .ref (a 0)), (1, .int s29.1), (4, .int s12.2.2.2.1), (5, .int s29.2.2.2.1)]) hx hb dX4_goesOn_105 rfl hl (by decide) rfl (fun ls hl => ?_)
                    refine lv_iload hx hb dX4_goesOn_106 (lv_at hl 2 rfl) ?_
                    refine lv_iload_n hx hb dX4_goesOn_108 rfl (lv_at hl 5 rfl) ?_
                    refine lv_icmp_ge (tgt := 117) hx hb dX4_goesOn_109 (by decide) (fun c109 => ?_) (fun c109 => ?_)
                    ·
                      replace h := gdp h c109
                      refine lv_iload_n hx hb dX4_goesOn_117 rfl (lv_at hl 5 rfl) ?_
                      refine lv_istore_n (lv' := [(1, .int s29.1), (3, .int s29.2.2.1), (2, .int s29.2.1), (7, .int r66), (6, .int (r41.2.1 (s12.2.2.2.1).toNatClampNeg)), (0, .ref (a 0)), (4, .int s12.2.2.2.1), (5, .int s29.2.2.2.1)]) hx hb dX4_goesOn_118 rfl hl (by decide) rfl (fun ls hl => ?_)
                      refine lv_iinc (v := (s29.2.2.2.1 + 1)) (lv' := [(5, .int (s29.2.2.2.1 + 1)), (1, .int s29.1), (3, .int s29.2.2.1), (2, .int s29.2.1), (7, .int r66), (6, .int (r41.2.1 (s12.2.2.2.1).toNatClampNeg)), (0, .ref (a 0)), (4, .int s12.2.2.2.1)]) hx hb dX4_goesOn_119 hl (k := 7) rfl rfl (by decide) rfl (fun ls hl => ?_)
                      refine lv_goto (tgt := 29) hx hb dX4_goesOn_122 (by decide) ?_
                      obtain rfl := Option.some.inj h
                      exact ih29 (s29.1, s29.2.1, s29.2.2.1, (s29.2.2.2.1 + 1), (upd (upd r41.2.1 (s12.2.2.2.1).toNatClampNeg s29.2.2.2.1) (s12.2.2.2.1).toNatClampNeg (r41.2.1 (s12.2.2.2.1).toNatClampNeg)), r41.2.2.1, r41.2.2.2) hr29 _ _ _ hP hD hS (lv_sub hl [6, 1, 3, 2, 7, 0] rfl)
                    ·
                      replace h := gdn h c109
                      refine lv_iload hx hb dX4_goesOn_112 (lv_at hl 2 rfl) ?_
                      refine lv_goto (tgt := 118) hx hb dX4_goesOn_114 (by decide) ?_
                      refine lv_istore_n (lv' := [(1, .int r66), (3, .int s29.2.2.1), (2, .int s29.2.1), (7, .int r66), (6, .int (r41.2.1 (s12.2.2.2.1).toNatClampNeg)), (0, .ref (a 0)), (4, .int s12.2.2.2.1), (5, .int s29.2.2.2.1)]) hx hb dX4_goesOn_118 rfl hl (by decide) rfl (fun ls hl => ?_)
                      refine lv_iinc (v := (s29.2.2.2.1 + 1)) (lv' := [(5, .int (s29.2.2.2.1 + 1)), (1, .int r66), (3, .int s29.2.2.1), (2, .int s29.2.1), (7, .int r66), (6, .int (r41.2.1 (s12.2.2.2.1).toNatClampNeg)), (0, .ref (a 0)), (4, .int s12.2.2.2.1)]) hx hb dX4_goesOn_119 hl (k := 7) rfl rfl (by decide) rfl (fun ls hl => ?_)
                      refine lv_goto (tgt := 29) hx hb dX4_goesOn_122 (by decide) ?_
                      obtain rfl := Option.some.inj h
                      exact ih29 (r66, s29.2.1, s29.2.2.1, (s29.2.2.2.1 + 1), (upd (upd r41.2.1 (s12.2.2.2.1).toNatClampNeg s29.2.2.2.1) (s12.2.2.2.1).toNatClampNeg (r41.2.1 (s12.2.2.2.1).toNatClampNeg)), r41.2.2.1, r41.2.2.2) hr29 _ _ _ hP hD hS (lv_sub hl [6, 1, 3, 2, 7, 0] rfl)
                  ·
                    replace h := gdn h c96
                    refine lv_iload hx hb dX4_goesOn_99 (lv_at hl 7 rfl) ?_
                    refine lv_goto (tgt := 105) hx hb dX4_goesOn_101 (by decide) ?_
                    refine lv_istore_n (lv' := [(3, .int s29.2.2.2.1), (2, .int s29.2.1), (7, .int r66), (6, .int (r41.2.1 (s12.2.2.2.1).toNatClampNeg)), (0, .ref (a 0)), (1, .int s29.1), (4, .int s12.2.2.2.1), (5, .int s29.2.2.2.1)]) hx hb dX4_goesOn_105 rfl hl (by decide) rfl (fun ls hl => ?_)
                    refine lv_iload hx hb dX4_goesOn_106 (lv_at hl 2 rfl) ?_
                    refine lv_iload_n hx hb dX4_goesOn_108 rfl (lv_at hl 5 rfl) ?_
                    refine lv_icmp_ge (tgt := 117) hx hb dX4_goesOn_109 (by decide) (fun c109 => ?_) (fun c109 => ?_)
                    ·
                      replace h := gdp h c109
                      refine lv_iload_n hx hb dX4_goesOn_117 rfl (lv_at hl 5 rfl) ?_
                      refine lv_istore_n (lv' := [(1, .int s29.1), (3, .int s29.2.2.2.1), (2, .int s29.2.1), (7, .int r66), (6, .int (r41.2.1 (s12.2.2.2.1).toNatClampNeg)), (0, .ref (a 0)), (4, .int s12.2.2.2.1), (5, .int s29.2.2.2.1)]) hx hb dX4_goesOn_118 rfl hl (by decide) rfl (fun ls hl => ?_)
                      refine lv_iinc (v := (s29.2.2.2.1 + 1)) (lv' := [(5, .int (s29.2.2.2.1 + 1)), (1, .int s29.1), (3, .int s29.2.2.2.1), (2, .int s29.2.1), (7, .int r66), (6, .int (r41.2.1 (s12.2.2.2.1).toNatClampNeg)), (0, .ref (a 0)), (4, .int s12.2.2.2.1)]) hx hb dX4_goesOn_119 hl (k := 7) rfl rfl (by decide) rfl (fun ls hl => ?_)
                      refine lv_goto (tgt := 29) hx hb dX4_goesOn_122 (by decide) ?_
                      obtain rfl := Option.some.inj h
                      exact ih29 (s29.1, s29.2.1, s29.2.2.2.1, (s29.2.2.2.1 + 1), (upd (upd r41.2.1 (s12.2.2.2.1).toNatClampNeg s29.2.2.2.1) (s12.2.2.2.1).toNatClampNeg (r41.2.1 (s12.2.2.2.1).toNatClampNeg)), r41.2.2.1, r41.2.2.2) hr29 _ _ _ hP hD hS (lv_sub hl [6, 1, 3, 2, 7, 0] rfl)
                    ·
                      replace h := gdn h c109
                      refine lv_iload hx hb dX4_goesOn_112 (lv_at hl 2 rfl) ?_
                      refine lv_goto (tgt := 118) hx hb dX4_goesOn_114 (by decide) ?_
                      refine lv_istore_n (lv' := [(1, .int r66), (3, .int s29.2.2.2.1), (2, .int s29.2.1), (7, .int r66), (6, .int (r41.2.1 (s12.2.2.2.1).toNatClampNeg)), (0, .ref (a 0)), (4, .int s12.2.2.2.1), (5, .int s29.2.2.2.1)]) hx hb dX4_goesOn_118 rfl hl (by decide) rfl (fun ls hl => ?_)
                      refine lv_iinc (v := (s29.2.2.2.1 + 1)) (lv' := [(5, .int (s29.2.2.2.1 + 1)), (1, .int r66), (3, .int s29.2.2.2.1), (2, .int s29.2.1), (7, .int r66), (6, .int (r41.2.1 (s12.2.2.2.1).toNatClampNeg)), (0, .ref (a 0)), (4, .int s12.2.2.2.1)]) hx hb dX4_goesOn_119 hl (k := 7) rfl rfl (by decide) rfl (fun ls hl => ?_)
                      refine lv_goto (tgt := 29) hx hb dX4_goesOn_122 (by decide) ?_
                      obtain rfl := Option.some.inj h
                      exact ih29 (r66, s29.2.1, s29.2.2.2.1, (s29.2.2.2.1 + 1), (upd (upd r41.2.1 (s12.2.2.2.1).toNatClampNeg s29.2.2.2.1) (s12.2.2.2.1).toNatClampNeg (r41.2.1 (s12.2.2.2.1).toNatClampNeg)), r41.2.2.1, r41.2.2.2) hr29 _ _ _ hP hD hS (lv_sub hl [6, 1, 3, 2, 7, 0] rfl)
                ·
                  replace h := gdn h c83
                  refine lv_iload hx hb dX4_goesOn_86 (lv_at hl 6 rfl) ?_
                  refine lv_goto (tgt := 92) hx hb dX4_goesOn_88 (by decide) ?_
                  refine lv_istore_n (lv' := [(2, .int s12.2.2.2.1), (7, .int r66), (6, .int (r41.2.1 (s12.2.2.2.1).toNatClampNeg)), (0, .ref (a 0)), (1, .int s29.1), (3, .int s29.2.2.1), (4, .int s12.2.2.2.1), (5, .int s29.2.2.2.1)]) hx hb dX4_goesOn_92 rfl hl (by decide) rfl (fun ls hl => ?_)
                  refine lv_iload hx hb dX4_goesOn_93 (lv_at hl 1 rfl) ?_
                  refine lv_iload_n hx hb dX4_goesOn_95 rfl (lv_at hl 4 rfl) ?_
                  refine lv_icmp_ge (tgt := 104) hx hb dX4_goesOn_96 (by decide) (fun c96 => ?_) (fun c96 => ?_)
                  ·
                    replace h := gdp h c96
                    refine lv_iload_n hx hb dX4_goesOn_104 rfl (lv_at hl 5 rfl) ?_
                    refine lv_istore_n (lv' := [(3, .int s29.2.2.1), (2, .int s12.2.2.2.1), (7, .int r66), (6, .int (r41.2.1 (s12.2.2.2.1).toNatClampNeg)), (0, .ref (a 0)), (1, .int s29.1), (4, .int s12.2.2.2.1), (5, .int s29.2.2.2.1)]) hx hb dX4_goesOn_105 rfl hl (by decide) rfl (fun ls hl => ?_)
                    refine lv_iload hx hb dX4_goesOn_106 (lv_at hl 2 rfl) ?_
                    refine lv_iload_n hx hb dX4_goesOn_108 rfl (lv_at hl 5 rfl) ?_
                    refine lv_icmp_ge (tgt := 117) hx hb dX4_goesOn_109 (by decide) (fun c109 => ?_) (fun c109 => ?_)
                    ·
                      replace h := gdp h c109
                      refine lv_iload_n hx hb dX4_goesOn_117 rfl (lv_at hl 5 rfl) ?_
                      refine lv_istore_n (lv' := [(1, .int s29.1), (3, .int s29.2.2.1), (2, .int s12.2.2.2.1), (7, .int r66), (6, .int (r41.2.1 (s12.2.2.2.1).toNatClampNeg)), (0, .ref (a 0)), (4, .int s12.2.2.2.1), (5, .int s29.2.2.2.1)]) hx hb dX4_goesOn_118 rfl hl (by decide) rfl (fun ls hl => ?_)
                      refine lv_iinc (v := (s29.2.2.2.1 + 1)) (lv' := [(5, .int (s29.2.2.2.1 + 1)), (1, .int s29.1), (3, .int s29.2.2.1), (2, .int s12.2.2.2.1), (7, .int r66), (6, .int (r41.2.1 (s12.2.2.2.1).toNatClampNeg)), (0, .ref (a 0)), (4, .int s12.2.2.2.1)]) hx hb dX4_goesOn_119 hl (k := 7) rfl rfl (by decide) rfl (fun ls hl => ?_)
                      refine lv_goto (tgt := 29) hx hb dX4_goesOn_122 (by decide) ?_
                      obtain rfl := Option.some.inj h
                      exact ih29 (s29.1, s12.2.2.2.1, s29.2.2.1, (s29.2.2.2.1 + 1), (upd (upd r41.2.1 (s12.2.2.2.1).toNatClampNeg s29.2.2.2.1) (s12.2.2.2.1).toNatClampNeg (r41.2.1 (s12.2.2.2.1).toNatClampNeg)), r41.2.2.1, r41.2.2.2) hr29 _ _ _ hP hD hS (lv_sub hl [6, 1, 3, 2, 7, 0] rfl)
                    ·
                      replace h := gdn h c109
                      refine lv_iload hx hb dX4_goesOn_112 (lv_at hl 2 rfl) ?_
                      refine lv_goto (tgt := 118) hx hb dX4_goesOn_114 (by decide) ?_
                      refine lv_istore_n (lv' := [(1, .int r66), (3, .int s29.2.2.1), (2, .int s12.2.2.2.1), (7, .int r66), (6, .int (r41.2.1 (s12.2.2.2.1).toNatClampNeg)), (0, .ref (a 0)), (4, .int s12.2.2.2.1), (5, .int s29.2.2.2.1)]) hx hb dX4_goesOn_118 rfl hl (by decide) rfl (fun ls hl => ?_)
                      refine lv_iinc (v := (s29.2.2.2.1 + 1)) (lv' := [(5, .int (s29.2.2.2.1 + 1)), (1, .int r66), (3, .int s29.2.2.1), (2, .int s12.2.2.2.1), (7, .int r66), (6, .int (r41.2.1 (s12.2.2.2.1).toNatClampNeg)), (0, .ref (a 0)), (4, .int s12.2.2.2.1)]) hx hb dX4_goesOn_119 hl (k := 7) rfl rfl (by decide) rfl (fun ls hl => ?_)
                      refine lv_goto (tgt := 29) hx hb dX4_goesOn_122 (by decide) ?_
                      obtain rfl := Option.some.inj h
                      exact ih29 (r66, s12.2.2.2.1, s29.2.2.1, (s29.2.2.2.1 + 1), (upd (upd r41.2.1 (s12.2.2.2.1).toNatClampNeg s29.2.2.2.1) (s12.2.2.2.1).toNatClampNeg (r41.2.1 (s12.2.2.2.1).toNatClampNeg)), r41.2.2.1, r41.2.2.2) hr29 _ _ _ hP hD hS (lv_sub hl [6, 1, 3, 2, 7, 0] rfl)
                  ·
                    replace h := gdn h c96
                    refine lv_iload hx hb dX4_goesOn_99 (lv_at hl 7 rfl) ?_
                    refine lv_goto (tgt := 105) hx hb dX4_goesOn_101 (by decide) ?_
                    refine lv_istore_n (lv' := [(3, .int s29.2.2.2.1), (2, .int s12.2.2.2.1), (7, .int r66), (6, .int (r41.2.1 (s12.2.2.2.1).toNatClampNeg)), (0, .ref (a 0)), (1, .int s29.1), (4, .int s12.2.2.2.1), (5, .int s29.2.2.2.1)]) hx hb dX4_goesOn_105 rfl hl (by decide) rfl (fun ls hl => ?_)
                    refine lv_iload hx hb dX4_goesOn_106 (lv_at hl 2 rfl) ?_
                    refine lv_iload_n hx hb dX4_goesOn_108 rfl (lv_at hl 5 rfl) ?_
                    refine lv_icmp_ge (tgt := 117) hx hb dX4_goesOn_109 (by decide) (fun c109 => ?_) (fun c109 => ?_)
                    ·
                      replace h := gdp h c109
                      refine lv_iload_n hx hb dX4_goesOn_117 rfl (lv_at hl 5 rfl) ?_
                      refine lv_istore_n (lv' := [(1, .int s29.1), (3, .int s29.2.2.2.1), (2, .int s12.2.2.2.1), (7, .int r66), (6, .int (r41.2.1 (s12.2.2.2.1).toNatClampNeg)), (0, .ref (a 0)), (4, .int s12.2.2.2.1), (5, .int s29.2.2.2.1)]) hx hb dX4_goesOn_118 rfl hl (by decide) rfl (fun ls hl => ?_)
                      refine lv_iinc (v := (s29.2.2.2.1 + 1)) (lv' := [(5, .int (s29.2.2.2.1 + 1)), (1, .int s29.1), (3, .int s29.2.2.2.1), (2, .int s12.2.2.2.1), (7, .int r66), (6, .int (r41.2.1 (s12.2.2.2.1).toNatClampNeg)), (0, .ref (a 0)), (4, .int s12.2.2.2.1)]) hx hb dX4_goesOn_119 hl (k := 7) rfl rfl (by decide) rfl (fun ls hl => ?_)
                      refine lv_goto (tgt := 29) hx hb dX4_goesOn_122 (by decide) ?_
                      obtain rfl := Option.some.inj h
                      exact ih29 (s29.1, s12.2.2.2.1, s29.2.2.2.1, (s29.2.2.2.1 + 1), (upd (upd r41.2.1 (s12.2.2.2.1).toNatClampNeg s29.2.2.2.1) (s12.2.2.2.1).toNatClampNeg (r41.2.1 (s12.2.2.2.1).toNatClampNeg)), r41.2.2.1, r41.2.2.2) hr29 _ _ _ hP hD hS (lv_sub hl [6, 1, 3, 2, 7, 0] rfl)
                    ·
                      replace h := gdn h c109
                      refine lv_iload hx hb dX4_goesOn_112 (lv_at hl 2 rfl) ?_
                      refine lv_goto (tgt := 118) hx hb dX4_goesOn_114 (by decide) ?_
                      refine lv_istore_n (lv' := [(1, .int r66), (3, .int s29.2.2.2.1), (2, .int s12.2.2.2.1), (7, .int r66), (6, .int (r41.2.1 (s12.2.2.2.1).toNatClampNeg)), (0, .ref (a 0)), (4, .int s12.2.2.2.1), (5, .int s29.2.2.2.1)]) hx hb dX4_goesOn_118 rfl hl (by decide) rfl (fun ls hl => ?_)
                      refine lv_iinc (v := (s29.2.2.2.1 + 1)) (lv' := [(5, .int (s29.2.2.2.1 + 1)), (1, .int r66), (3, .int s29.2.2.2.1), (2, .int s12.2.2.2.1), (7, .int r66), (6, .int (r41.2.1 (s12.2.2.2.1).toNatClampNeg)), (0, .ref (a 0)), (4, .int s12.2.2.2.1)]) hx hb dX4_goesOn_119 hl (k := 7) rfl rfl (by decide) rfl (fun ls hl => ?_)
                      refine lv_goto (tgt := 29) hx hb dX4_goesOn_122 (by decide) ?_
                      obtain rfl := Option.some.inj h
                      exact ih29 (r66, s12.2.2.2.1, s29.2.2.2.1, (s29.2.2.2.1 + 1), (upd (upd r41.2.1 (s12.2.2.2.1).toNatClampNeg s29.2.2.2.1) (s12.2.2.2.1).toNatClampNeg (r41.2.1 (s12.2.2.2.1).toNatClampNeg)), r41.2.2.1, r41.2.2.2) hr29 _ _ _ hP hD hS (lv_sub hl [6, 1, 3, 2, 7, 0] rfl)
        exact L29 _ (s12.1, s12.2.1, s12.2.2.1, (0 : Int32), s12.2.2.2.2.1, s12.2.2.2.2.2.1, s12.2.2.2.2.2.2) hw29 _ _ _ hP hD hS (lv_sub hl [1, 2, 3, 4, 5, 0] rfl)
  exact L12 _ (r1, (-1 : Int32), (0 : Int32), (0 : Int32), ce, mpi, mme) hw12 _ _ _ hP hD hS (lv_sub hl [4, 3, 2, 1, 0] rfl)
-- LandBoardModel.steps
set_option maxHeartbeats 4000000 in
set_option maxRecDepth 100000 in
theorem ctX4_steps (l : Launch) (g : GG) (a : Nat → Nat) (x1 : Int32) (mw : Int32) (mh : Int32) (mke : Int32) (mnx : Int32) (mdo : Int32) (mtr : Int64) (mma : Int32) (mto : Int32) (mah : Int32) (mrs : Int32) (mab : Int32) (ce : (Nat → Int32)) (mk : (Nat → Int32)) (mo : (Nat → Int32)) (mwa : (Nat → Int32)) (mmc : (Nat → Int32)) (mmf : (Nat → Int32)) (mhy : (Nat → Int32)) (myw : (Nat → Int32)) (myh : (Nat → Int32)) (myr : (Nat → Int32)) (mpi : (Nat → Int32)) (mme : (Nat → Int32)) (mde : (Nat → Int32)) (mwe : (Nat → Int32)) (mla : (Nat → Int32)) (res : Int32 × Int32 × Int32 × Int32 × (Nat → Int32) × (Nat → Int32) × (Nat → Int32) × (Nat → Int32) × (Nat → Int32)) (h : fX4_steps x1 mw mh mke mnx mdo ce mk mo mwa mmc mmf mpi mme = some res) : MM l yX4_steps wsX4_steps ({ frames := 8, cells := 0, slots := 0, locals := 198 }) g [.ref (a 0), .int x1] (wM g a mw mh mke mnx mdo mtr mma mto mah mrs mab ce mk mo mwa mmc mmf mhy myw myh myr mpi mme mde mwe mla) (wM g a mw mh res.2.1 res.2.2.1 res.2.2.2.1 mtr mma mto mah mrs mab res.2.2.2.2.1 mk mo mwa res.2.2.2.2.2.1 res.2.2.2.2.2.2.1 mhy myw myh myr res.2.2.2.2.2.2.2.1 res.2.2.2.2.2.2.2.2 mde mwe mla) (some (.int res.1)) := by
  refine MM.of (cc := cX4_steps) (own := RX4) 4 (some .int) (by decide +kernel) rfl (Nat.le_of_ble_eq_true rfl) rfl ?_
  intro p e s m args below meth c hx hb hr hml hown hts hlocks hK A hA ls hl hP hD hS
  have S : CallFix p m c cX4_steps 4 s args wsX4_steps RX4 := ⟨hx, hb, hml, hown, hts⟩
  have hl : lv_has ls 4 [(0, .ref (a 0)), (1, .int x1)] := hl
  refine lv_iload_n hx hb dX4_steps_0 rfl (lv_at hl 1 rfl) ?_
  refine lv_iconst (v := 1) hx hb dX4_steps_1 (by decide) ?_
  refine lv_bipush (v := 64) hx hb dX4_steps_2 (by decide) ?_
  refine kPS (As := [.int x1, .int (1 : Int32), .int (64 : Int32)]) (rest := []) S (ctX4_in l g x1 (1 : Int32) (64 : Int32)  (fX4_in x1 (1 : Int32) (64 : Int32)) rfl) (va_cwS 3 hts gX4_steps_X4_in rfl rfl rfl (by decide +kernel) ⟨Nat.le_of_ble_eq_true rfl, Nat.le_of_ble_eq_true rfl⟩) hK rfl rfl hl.1 rfl (Nat.le_of_ble_eq_true rfl) dX4_steps_4 ⟨Nat.zero_le _, Nat.zero_le _⟩ ?_
  refine lv_if_ne (tgt := 12) hx hb dX4_steps_7 (by decide) (fun c7 => ?_) (fun c7 => ?_)
  ·
    replace h := gdn h c7
    refine lv_iconst (v := 0) hx hb dX4_steps_12 (by decide) ?_
    refine lv_istore_n (lv' := [(2, .int (0 : Int32)), (0, .ref (a 0)), (1, .int x1)]) hx hb dX4_steps_13 rfl hl (by decide) rfl (fun ls hl => ?_)
    refine lv_iconst (v := 1) hx hb dX4_steps_14 (by decide) ?_
    refine lv_istore_n (lv' := [(3, .int (1 : Int32)), (2, .int (0 : Int32)), (0, .ref (a 0)), (1, .int x1)]) hx hb dX4_steps_15 rfl hl (by decide) rfl (fun ls hl => ?_)
    obtain ⟨t16, hw16, h⟩ := gdb h
    have X16 : ∀ (H : Heap) (locs : List Loc) (ls : Array Slot), va_P g.1 vwCl (wM g a mw mh t16.2.1 t16.2.2.1 t16.2.2.2.1 mtr mma mto mah mrs mab t16.2.2.2.2.1 mk mo mwa t16.2.2.2.2.2.1 t16.2.2.2.2.2.2.1 mhy myw myh myr t16.2.2.2.2.2.2.2.1 t16.2.2.2.2.2.2.2.2 mde mwe mla) H → va_D A (wM g a mw mh t16.2.1 t16.2.2.1 t16.2.2.2.1 mtr mma mto mah mrs mab t16.2.2.2.2.1 mk mo mwa t16.2.2.2.2.2.1 t16.2.2.2.2.2.2.1 mhy myw myh myr t16.2.2.2.2.2.2.2.1 t16.2.2.2.2.2.2.2.2 mde mwe mla) → va_S A s.heap H locs → lv_has ls 4 [(2, .int t16.1)] → W p l e ({ frames := 8, cells := 0, slots := 0, locals := 198 }) s m args below meth c H locs 0 0 (MQ below (QM g (some (.int res.1)) (wM g a mw mh res.2.1 res.2.2.1 res.2.2.2.1 mtr mma mto mah mrs mab res.2.2.2.2.1 mk mo mwa res.2.2.2.2.2.1 res.2.2.2.2.2.2.1 mhy myw myh myr res.2.2.2.2.2.2.2.1 res.2.2.2.2.2.2.2.2 mde mwe mla) A) args s 0 0 A) (F0 m 45 ls []) := by
      intro H locs ls hP hD hS hl
      refine lv_iload_n hx hb dX4_steps_45 rfl (lv_at hl 0 rfl) ?_
      obtain rfl := Option.some.inj h
      exact retMi hx hb hr hlocks hP hD hS dX4_steps_46
    clear h
    have L16 : ∀ (n : Nat) (s16 : Int32 × Int32 × Int32 × Int32 × Int32 × (Nat → Int32) × (Nat → Int32) × (Nat → Int32) × (Nat → Int32) × (Nat → Int32)), wh (fX4_steps_16 x1 mw mh mk mo mwa) n s16 = some t16 → ∀ (H : Heap) (locs : List Loc) (ls : Array Slot), va_P g.1 vwCl (wM g a mw mh s16.2.2.1 s16.2.2.2.1 s16.2.2.2.2.1 mtr mma mto mah mrs mab s16.2.2.2.2.2.1 mk mo mwa s16.2.2.2.2.2.2.1 s16.2.2.2.2.2.2.2.1 mhy myw myh myr s16.2.2.2.2.2.2.2.2.1 s16.2.2.2.2.2.2.2.2.2 mde mwe mla) H → va_D A (wM g a mw mh s16.2.2.1 s16.2.2.2.1 s16.2.2.2.2.1 mtr mma mto mah mrs mab s16.2.2.2.2.2.1 mk mo mwa s16.2.2.2.2.2.2.1 s16.2.2.2.2.2.2.2.1 mhy myw myh myr s16.2.2.2.2.2.2.2.2.1 s16.2.2.2.2.2.2.2.2.2 mde mwe mla) → va_S A s.heap H locs → lv_has ls 4 [(0, .ref (a 0)), (1, .int x1), (2, .int s16.1), (3, .int s16.2.1)] → W p l e ({ frames := 8, cells := 0, slots := 0, locals := 198 }) s m args below meth c H locs 0 0 (MQ below (QM g (some (.int res.1)) (wM g a mw mh res.2.1 res.2.2.1 res.2.2.2.1 mtr mma mto mah mrs mab res.2.2.2.2.1 mk mo mwa res.2.2.2.2.2.1 res.2.2.2.2.2.2.1 mhy myw myh myr res.2.2.2.2.2.2.2.1 res.2.2.2.2.2.2.2.2 mde mwe mla) A) args s 0 0 A) (F0 m 16 ls []) := by
      intro n
      induction n with
      | zero => intro s16 hw; exact (wh_0 hw).elim
      | succ n ih16 =>
        intro s16 hw H locs ls hP hD hS hl
        obtain ⟨r0, h, hr16⟩ := wh_s hw
        refine lv_iload_n hx hb dX4_steps_16 rfl (lv_at hl 3 rfl) ?_
        refine lv_if_eq (tgt := 45) hx hb dX4_steps_17 (by decide) (fun c17 => ?_) (fun c17 => ?_)
        ·
          replace h := gdp h c17
          obtain rfl := Option.some.inj h
          have e0 : (s16.1, s16.2.2.1, s16.2.2.2.1, s16.2.2.2.2.1, s16.2.2.2.2.2.1, s16.2.2.2.2.2.2.1, s16.2.2.2.2.2.2.2.1, s16.2.2.2.2.2.2.2.2.1, s16.2.2.2.2.2.2.2.2.2) = t16 := hr16
          subst e0
          exact X16 _ _ _ hP hD hS (lv_sub hl [2] rfl)
        ·
          replace h := gdn h c17
          refine lv_iload_n hx hb dX4_steps_20 rfl (lv_at hl 2 rfl) ?_
          refine lv_iload_n hx hb dX4_steps_21 rfl (lv_at hl 1 rfl) ?_
          refine lv_icmp_ge (tgt := 45) hx hb dX4_steps_22 (by decide) (fun c22 => ?_) (fun c22 => ?_)
          ·
            replace h := gdp h c22
            obtain rfl := Option.some.inj h
            have e0 : (s16.1, s16.2.2.1, s16.2.2.2.1, s16.2.2.2.2.1, s16.2.2.2.2.2.1, s16.2.2.2.2.2.2.1, s16.2.2.2.2.2.2.2.1, s16.2.2.2.2.2.2.2.2.1, s16.2.2.2.2.2.2.2.2.2) = t16 := hr16
            subst e0
            exact X16 _ _ _ hP hD hS (lv_sub hl [2] rfl)
          ·
            replace h := gdn h c22
            refine lv_aload_n hx hb dX4_steps_25 rfl (lv_at hl 0 rfl) ?_
            obtain ⟨r26, hr26, h⟩ := gdb h
            refine kMV (As := []) (rest := []) (ci := 4) (W1 := (wM g a mw mh r26.2.1 r26.2.2.1 r26.2.2.2.1 mtr mma mto mah mrs mab r26.2.2.2.2.1 mk mo mwa r26.2.2.2.2.2.1 r26.2.2.2.2.2.2.1 mhy myw myh myr r26.2.2.2.2.2.2.2.1 r26.2.2.2.2.2.2.2.2 mde mwe mla)) (wr := []) S (ctX4_goesOn l g a  mw mh s16.2.2.1 s16.2.2.2.1 s16.2.2.2.2.1 mtr mma mto mah mrs mab s16.2.2.2.2.2.1 mk mo mwa s16.2.2.2.2.2.2.1 s16.2.2.2.2.2.2.2.1 mhy myw myh myr s16.2.2.2.2.2.2.2.2.1 s16.2.2.2.2.2.2.2.2.2 mde mwe mla r26 hr26) (cwV 0 hts gX4_steps_X4_goesOn rfl rfl rfl (by decide +kernel) ⟨Nat.le_of_ble_eq_true rfl, Nat.le_of_ble_eq_true rfl⟩) hK hP hD hS hA [0, 1, 2, 3, 4, 5, 6, 7, 8, 9, 10, 11, 12, 13, 14, 15] [] [0, 1, 2, 3, 4, 5, 6, 7, 8, 9, 10, 11, 12, 13, 14, 15] rfl rfl rfl rfl (by decide) rfl rfl rfl rfl rfl rfl hl.1 rfl (Nat.le_of_ble_eq_true rfl) dX4_steps_26 ⟨Nat.zero_le _, Nat.zero_le _⟩ (fun H locs hP hD hS => ?_)
            show W p l e ({ frames := 8, cells := 0, slots := 0, locals := 198 }) s m args below meth c H locs 0 0 (MQ below (QM g (some (.int res.1)) (wM g a mw mh res.2.1 res.2.2.1 res.2.2.2.1 mtr mma mto mah mrs mab res.2.2.2.2.1 mk mo mwa res.2.2.2.2.2.1 res.2.2.2.2.2.2.1 mhy myw myh myr res.2.2.2.2.2.2.2.1 res.2.2.2.2.2.2.2.2 mde mwe mla) A) args s 0 0 A) (F0 m 29 ls [.int r26.1])
            refine lv_istore_n (lv' := [(3, .int r26.1), (0, .ref (a 0)), (1, .int x1), (2, .int s16.1)]) hx hb dX4_steps_29 rfl hl (by decide) rfl (fun ls hl => ?_)
            refine lv_iload_n hx hb dX4_steps_30 rfl (lv_at hl 3 rfl) ?_
            refine lv_iload_n hx hb dX4_steps_31 rfl (lv_at hl 0 rfl) ?_
            refine lv_if_eq (tgt := 39) hx hb dX4_steps_32 (by decide) (fun c32 => ?_) (fun c32 => ?_)
            ·
              replace h := gdp h c32
              refine lv_iconst (v := 0) hx hb dX4_steps_39 (by decide) ?_
              refine lv_iadd hx hb dX4_steps_40 ?_
              refine lv_istore_n (lv' := [(2, .int (s16.1 + (0 : Int32))), (3, .int r26.1), (0, .ref (a 0)), (1, .int x1)]) hx hb dX4_steps_41 rfl hl (by decide) rfl (fun ls hl => ?_)
              refine lv_goto (tgt := 16) hx hb dX4_steps_42 (by decide) ?_
              obtain rfl := Option.some.inj h
              exact ih16 ((s16.1 + (0 : Int32)), r26.1, r26.2.1, r26.2.2.1, r26.2.2.2.1, r26.2.2.2.2.1, r26.2.2.2.2.2.1, r26.2.2.2.2.2.2.1, r26.2.2.2.2.2.2.2.1, r26.2.2.2.2.2.2.2.2) hr16 _ _ _ hP hD hS (lv_sub hl [2, 3, 0, 1] rfl)
            ·
              replace h := gdn h c32
              refine lv_iconst (v := 1) hx hb dX4_steps_35 (by decide) ?_
              refine lv_goto (tgt := 40) hx hb dX4_steps_36 (by decide) ?_
              refine lv_iadd hx hb dX4_steps_40 ?_
              refine lv_istore_n (lv' := [(2, .int (s16.1 + (1 : Int32))), (3, .int r26.1), (0, .ref (a 0)), (1, .int x1)]) hx hb dX4_steps_41 rfl hl (by decide) rfl (fun ls hl => ?_)
              refine lv_goto (tgt := 16) hx hb dX4_steps_42 (by decide) ?_
              obtain rfl := Option.some.inj h
              exact ih16 ((s16.1 + (1 : Int32)), r26.1, r26.2.1, r26.2.2.1, r26.2.2.2.1, r26.2.2.2.2.1, r26.2.2.2.2.2.1, r26.2.2.2.2.2.2.1, r26.2.2.2.2.2.2.2.1, r26.2.2.2.2.2.2.2.2) hr16 _ _ _ hP hD hS (lv_sub hl [2, 3, 0, 1] rfl)
    exact L16 _ ((0 : Int32), (1 : Int32), mke, mnx, mdo, ce, mmc, mmf, mpi, mme) hw16 _ _ _ hP hD hS (lv_sub hl [2, 3, 1, 0] rfl)
  ·
    replace h := gdp h c7
    refine lv_iconst (v := -1) hx hb dX4_steps_10 (by decide) ?_
    obtain rfl := Option.some.inj h
    exact retMi (v := (-1 : Int32)) hx hb hr hlocks hP hD hS dX4_steps_11
-- LandBoardModel.undo
set_option maxHeartbeats 4000000 in
set_option maxRecDepth 100000 in
theorem ctX4_undo (l : Launch) (g : GG) (a : Nat → Nat) (x1 : Int32) (mw : Int32) (mh : Int32) (mke : Int32) (mnx : Int32) (mdo : Int32) (mtr : Int64) (mma : Int32) (mto : Int32) (mah : Int32) (mrs : Int32) (mab : Int32) (ce : (Nat → Int32)) (mk : (Nat → Int32)) (mo : (Nat → Int32)) (mwa : (Nat → Int32)) (mmc : (Nat → Int32)) (mmf : (Nat → Int32)) (mhy : (Nat → Int32)) (myw : (Nat → Int32)) (myh : (Nat → Int32)) (myr : (Nat → Int32)) (mpi : (Nat → Int32)) (mme : (Nat → Int32)) (mde : (Nat → Int32)) (mwe : (Nat → Int32)) (mla : (Nat → Int32)) (res : Int32 × Int32 × Int32 × (Nat → Int32)) (h : fX4_undo x1 mke mnx ce mmc mmf = some res) : MM l yX4_undo wsX4_undo ({ frames := 1, cells := 0, slots := 0, locals := 22 }) g [.ref (a 0), .int x1] (wM g a mw mh mke mnx mdo mtr mma mto mah mrs mab ce mk mo mwa mmc mmf mhy myw myh myr mpi mme mde mwe mla) (wM g a mw mh res.2.1 res.2.2.1 mdo mtr mma mto mah mrs mab res.2.2.2 mk mo mwa mmc mmf mhy myw myh myr mpi mme mde mwe mla) (some (.int res.1)) := by
  refine MM.of (cc := cX4_undo) (own := RX4) 3 (some .int) (by decide +kernel) rfl (Nat.le_of_ble_eq_true rfl) rfl ?_
  intro p e s m args below meth c hx hb hr hml hown hts hlocks hK A hA ls hl hP hD hS
  have S : CallFix p m c cX4_undo 3 s args wsX4_undo RX4 := ⟨hx, hb, hml, hown, hts⟩
  have hl : lv_has ls 3 [(0, .ref (a 0)), (1, .int x1)] := hl
  have f69 := hts (.fieldLink RX4 69 "LandBoardModel" "kept" "I") (by decide +kernel)
  have iX4 := (by decide +kernel : ∀ w ∈ u_ws RX4 TX4 26, w ∈ wsX4_undo)
  have f122 := hts (.fieldLink RX4 122 "LandBoardModel" "nextMove" "I") (by decide +kernel)
  have f16 := hts (.fieldLink RX4 16 "LandBoardModel" "cells" "[I") (by decide +kernel)
  have f29 := hts (.fieldLink RX4 29 "LandBoardModel" "movedCell" "[I") (by decide +kernel)
  have f32 := hts (.fieldLink RX4 32 "LandBoardModel" "movedFrom" "[I") (by decide +kernel)
  refine lv_iload_n hx hb dX4_undo_0 rfl (lv_at hl 1 rfl) ?_
  refine lv_iconst (v := 1) hx hb dX4_undo_1 (by decide) ?_
  refine lv_bipush (v := 100) hx hb dX4_undo_2 (by decide) ?_
  refine kPS (As := [.int x1, .int (1 : Int32), .int (100 : Int32)]) (rest := []) S (ctX4_in l g x1 (1 : Int32) (100 : Int32)  (fX4_in x1 (1 : Int32) (100 : Int32)) rfl) (va_cwS 3 hts gX4_undo_X4_in rfl rfl rfl (by decide +kernel) ⟨Nat.le_of_ble_eq_true rfl, Nat.le_of_ble_eq_true rfl⟩) hK rfl rfl hl.1 rfl (Nat.le_of_ble_eq_true rfl) dX4_undo_4 ⟨Nat.zero_le _, Nat.zero_le _⟩ ?_
  refine lv_if_ne (tgt := 12) hx hb dX4_undo_7 (by decide) (fun c7 => ?_) (fun c7 => ?_)
  ·
    replace h := gdn h c7
    refine lv_iconst (v := 0) hx hb dX4_undo_12 (by decide) ?_
    refine lv_istore_n (lv' := [(2, .int (0 : Int32)), (0, .ref (a 0)), (1, .int x1)]) hx hb dX4_undo_13 rfl hl (by decide) rfl (fun ls hl => ?_)
    obtain ⟨t14, hw14, h⟩ := gdb h
    have X14 : ∀ (H : Heap) (locs : List Loc) (ls : Array Slot), va_P g.1 vwCl (wM g a mw mh t14.2.1 t14.2.2.1 mdo mtr mma mto mah mrs mab t14.2.2.2 mk mo mwa mmc mmf mhy myw myh myr mpi mme mde mwe mla) H → va_D A (wM g a mw mh t14.2.1 t14.2.2.1 mdo mtr mma mto mah mrs mab t14.2.2.2 mk mo mwa mmc mmf mhy myw myh myr mpi mme mde mwe mla) → va_S A s.heap H locs → lv_has ls 3 [(2, .int t14.1)] → W p l e ({ frames := 1, cells := 0, slots := 0, locals := 22 }) s m args below meth c H locs 0 0 (MQ below (QM g (some (.int res.1)) (wM g a mw mh res.2.1 res.2.2.1 mdo mtr mma mto mah mrs mab res.2.2.2 mk mo mwa mmc mmf mhy myw myh myr mpi mme mde mwe mla) A) args s 0 0 A) (F0 m 81 ls []) := by
      intro H locs ls hP hD hS hl
      refine lv_iload_n hx hb dX4_undo_81 rfl (lv_at hl 0 rfl) ?_
      obtain rfl := Option.some.inj h
      exact retMi hx hb hr hlocks hP hD hS dX4_undo_82
    clear h
    have L14 : ∀ (n : Nat) (s14 : Int32 × Int32 × Int32 × (Nat → Int32)), wh (fX4_undo_14 x1 mmc mmf) n s14 = some t14 → ∀ (H : Heap) (locs : List Loc) (ls : Array Slot), va_P g.1 vwCl (wM g a mw mh s14.2.1 s14.2.2.1 mdo mtr mma mto mah mrs mab s14.2.2.2 mk mo mwa mmc mmf mhy myw myh myr mpi mme mde mwe mla) H → va_D A (wM g a mw mh s14.2.1 s14.2.2.1 mdo mtr mma mto mah mrs mab s14.2.2.2 mk mo mwa mmc mmf mhy myw myh myr mpi mme mde mwe mla) → va_S A s.heap H locs → lv_has ls 3 [(0, .ref (a 0)), (1, .int x1), (2, .int s14.1)] → W p l e ({ frames := 1, cells := 0, slots := 0, locals := 22 }) s m args below meth c H locs 0 0 (MQ below (QM g (some (.int res.1)) (wM g a mw mh res.2.1 res.2.2.1 mdo mtr mma mto mah mrs mab res.2.2.2 mk mo mwa mmc mmf mhy myw myh myr mpi mme mde mwe mla) A) args s 0 0 A) (F0 m 14 ls []) := by
      intro n
      induction n with
      | zero => intro s14 hw; exact (wh_0 hw).elim
      | succ n ih14 =>
        intro s14 hw H locs ls hP hD hS hl
        obtain ⟨r0, h, hr14⟩ := wh_s hw
        refine lv_iload_n hx hb dX4_undo_14 rfl (lv_at hl 2 rfl) ?_
        refine lv_iload_n hx hb dX4_undo_15 rfl (lv_at hl 1 rfl) ?_
        refine lv_icmp_ge (tgt := 81) hx hb dX4_undo_16 (by decide) (fun c16 => ?_) (fun c16 => ?_)
        ·
          replace h := gdp h c16
          obtain rfl := Option.some.inj h
          have e0 : (s14.1, s14.2.1, s14.2.2.1, s14.2.2.2) = t14 := hr14
          subst e0
          exact X14 _ _ _ hP hD hS (lv_sub hl [2] rfl)
        ·
          replace h := gdn h c16
          refine lv_aload_n hx hb dX4_undo_19 rfl (lv_at hl 0 rfl) ?_
          refine va_get (D := g.1) (ci := 4) (v := .int s14.2.1) (C := RX4) (T := TX4) (N := 26) hx hb hts iX4 hown hK.1 hP 0 rfl rfl 6 (by decide) f69 (fun _ h9 => h9) rfl dX4_undo_20 ?_
          refine lv_if_le (tgt := 81) hx hb dX4_undo_23 (by decide) (fun c23 => ?_) (fun c23 => ?_)
          ·
            replace h := gdp h c23
            obtain rfl := Option.some.inj h
            have e0 : (s14.1, s14.2.1, s14.2.2.1, s14.2.2.2) = t14 := hr14
            subst e0
            exact X14 _ _ _ hP hD hS (lv_sub hl [2] rfl)
          ·
            replace h := gdn h c23
            refine lv_aload_n hx hb dX4_undo_26 rfl (lv_at hl 0 rfl) ?_
            refine lv_aload_n hx hb dX4_undo_27 rfl (lv_at hl 0 rfl) ?_
            refine va_get (D := g.1) (ci := 4) (v := .int s14.2.2.1) (C := RX4) (T := TX4) (N := 26) hx hb hts iX4 hown hK.1 hP 0 rfl rfl 7 (by decide) f122 (fun _ h9 => h9) rfl dX4_undo_28 ?_
            refine lv_bipush (v := 100) hx hb dX4_undo_31 (by decide) ?_
            refine lv_iadd hx hb dX4_undo_33 ?_
            refine lv_iconst (v := 1) hx hb dX4_undo_34 (by decide) ?_
            refine lv_isub hx hb dX4_undo_35 ?_
            refine lv_bipush (v := 100) hx hb dX4_undo_36 (by decide) ?_
            refine lv_irem hx hb dX4_undo_38 (by decide) ?_
            refine va_put (D := g.1) (ci := 4) (v := .int (((s14.2.2.1 + (100 : Int32)) - (1 : Int32)) - ((s14.2.2.1 + (100 : Int32)) - (1 : Int32)) / (100 : Int32) * (100 : Int32))) (ty := .int) (C := RX4) (T := TX4) (N := 26) hx hb hts iX4 tyX4 tyX4_ok nmX4 hown hK.1 hP hD hS 0 rfl rfl 7 (by decide) f122 (fun _ h9 => h9) rfl (by decide +kernel) rfl rfl (Nat.le_of_ble_eq_true rfl) dX4_undo_39 (fun H locs hP hD hS => ?_)
            have hP : va_P g.1 vwCl (wM g a mw mh s14.2.1 (((s14.2.2.1 + (100 : Int32)) - (1 : Int32)) - ((s14.2.2.1 + (100 : Int32)) - (1 : Int32)) / (100 : Int32) * (100 : Int32)) mdo mtr mma mto mah mrs mab s14.2.2.2 mk mo mwa mmc mmf mhy myw myh myr mpi mme mde mwe mla) H := hP
            have hD : va_D A (wM g a mw mh s14.2.1 (((s14.2.2.1 + (100 : Int32)) - (1 : Int32)) - ((s14.2.2.1 + (100 : Int32)) - (1 : Int32)) / (100 : Int32) * (100 : Int32)) mdo mtr mma mto mah mrs mab s14.2.2.2 mk mo mwa mmc mmf mhy myw myh myr mpi mme mde mwe mla) := hD
            refine lv_aload_n hx hb dX4_undo_42 rfl (lv_at hl 0 rfl) ?_
            refine va_get (D := g.1) (ci := 4) (v := .ref (a 1)) (C := RX4) (T := TX4) (N := 26) hx hb hts iX4 hown hK.1 hP 0 rfl rfl 2 (by decide) f16 (fun _ h9 => h9) rfl dX4_undo_43 ?_
            refine lv_aload_n hx hb dX4_undo_46 rfl (lv_at hl 0 rfl) ?_
            refine va_get (D := g.1) (ci := 4) (v := .ref (a 5)) (C := RX4) (T := TX4) (N := 26) hx hb hts iX4 hown hK.1 hP 0 rfl rfl 9 (by decide) f29 (fun _ h9 => h9) rfl dX4_undo_47 ?_
            refine lv_aload_n hx hb dX4_undo_50 rfl (lv_at hl 0 rfl) ?_
            refine va_get (D := g.1) (ci := 4) (v := .int (((s14.2.2.1 + (100 : Int32)) - (1 : Int32)) - ((s14.2.2.1 + (100 : Int32)) - (1 : Int32)) / (100 : Int32) * (100 : Int32))) (C := RX4) (T := TX4) (N := 26) hx hb hts iX4 hown hK.1 hP 0 rfl rfl 7 (by decide) f122 (fun _ h9 => h9) rfl dX4_undo_51 ?_
            obtain ⟨hi, h⟩ := gdi h
            refine va_iald (D := g.1) hx hb hK.1 hP 5 0 rfl rfl hi dX4_undo_54 ?_
            refine lv_aload_n hx hb dX4_undo_55 rfl (lv_at hl 0 rfl) ?_
            refine va_get (D := g.1) (ci := 4) (v := .ref (a 6)) (C := RX4) (T := TX4) (N := 26) hx hb hts iX4 hown hK.1 hP 0 rfl rfl 10 (by decide) f32 (fun _ h9 => h9) rfl dX4_undo_56 ?_
            refine lv_aload_n hx hb dX4_undo_59 rfl (lv_at hl 0 rfl) ?_
            refine va_get (D := g.1) (ci := 4) (v := .int (((s14.2.2.1 + (100 : Int32)) - (1 : Int32)) - ((s14.2.2.1 + (100 : Int32)) - (1 : Int32)) / (100 : Int32) * (100 : Int32))) (C := RX4) (T := TX4) (N := 26) hx hb hts iX4 hown hK.1 hP 0 rfl rfl 7 (by decide) f122 (fun _ h9 => h9) rfl dX4_undo_60 ?_
            obtain ⟨hi, h⟩ := gdi h
            refine va_iald (D := g.1) hx hb hK.1 hP 6 0 rfl rfl hi dX4_undo_63 ?_
            obtain ⟨hi, h⟩ := gdi h
            refine va_iast (D := g.1) hx hb hK.1 hP hD hS 1 0 rfl rfl hi dX4_undo_64 (fun H locs hP hD hS => ?_)
            have hP : va_P g.1 vwCl (wM g a mw mh s14.2.1 (((s14.2.2.1 + (100 : Int32)) - (1 : Int32)) - ((s14.2.2.1 + (100 : Int32)) - (1 : Int32)) / (100 : Int32) * (100 : Int32)) mdo mtr mma mto mah mrs mab (upd s14.2.2.2 ((mmc ((((s14.2.2.1 + (100 : Int32)) - (1 : Int32)) - ((s14.2.2.1 + (100 : Int32)) - (1 : Int32)) / (100 : Int32) * (100 : Int32))).toNatClampNeg)).toNatClampNeg (mmf ((((s14.2.2.1 + (100 : Int32)) - (1 : Int32)) - ((s14.2.2.1 + (100 : Int32)) - (1 : Int32)) / (100 : Int32) * (100 : Int32))).toNatClampNeg)) mk mo mwa mmc mmf mhy myw myh myr mpi mme mde mwe mla) H := hP
            have hD : va_D A (wM g a mw mh s14.2.1 (((s14.2.2.1 + (100 : Int32)) - (1 : Int32)) - ((s14.2.2.1 + (100 : Int32)) - (1 : Int32)) / (100 : Int32) * (100 : Int32)) mdo mtr mma mto mah mrs mab (upd s14.2.2.2 ((mmc ((((s14.2.2.1 + (100 : Int32)) - (1 : Int32)) - ((s14.2.2.1 + (100 : Int32)) - (1 : Int32)) / (100 : Int32) * (100 : Int32))).toNatClampNeg)).toNatClampNeg (mmf ((((s14.2.2.1 + (100 : Int32)) - (1 : Int32)) - ((s14.2.2.1 + (100 : Int32)) - (1 : Int32)) / (100 : Int32) * (100 : Int32))).toNatClampNeg)) mk mo mwa mmc mmf mhy myw myh myr mpi mme mde mwe mla) := hD
            refine lv_aload_n hx hb dX4_undo_65 rfl (lv_at hl 0 rfl) ?_
            refine lv_dup hx hb dX4_undo_66 rfl ?_
            refine va_get (D := g.1) (ci := 4) (v := .int s14.2.1) (C := RX4) (T := TX4) (N := 26) hx hb hts iX4 hown hK.1 hP 0 rfl rfl 6 (by decide) f69 (fun _ h9 => h9) rfl dX4_undo_67 ?_
            refine lv_iconst (v := 1) hx hb dX4_undo_70 (by decide) ?_
            refine lv_isub hx hb dX4_undo_71 ?_
            refine va_put (D := g.1) (ci := 4) (v := .int (s14.2.1 - (1 : Int32))) (ty := .int) (C := RX4) (T := TX4) (N := 26) hx hb hts iX4 tyX4 tyX4_ok nmX4 hown hK.1 hP hD hS 0 rfl rfl 6 (by decide) f69 (fun _ h9 => h9) rfl (by decide +kernel) rfl rfl (Nat.le_of_ble_eq_true rfl) dX4_undo_72 (fun H locs hP hD hS => ?_)
            have hP : va_P g.1 vwCl (wM g a mw mh (s14.2.1 - (1 : Int32)) (((s14.2.2.1 + (100 : Int32)) - (1 : Int32)) - ((s14.2.2.1 + (100 : Int32)) - (1 : Int32)) / (100 : Int32) * (100 : Int32)) mdo mtr mma mto mah mrs mab (upd s14.2.2.2 ((mmc ((((s14.2.2.1 + (100 : Int32)) - (1 : Int32)) - ((s14.2.2.1 + (100 : Int32)) - (1 : Int32)) / (100 : Int32) * (100 : Int32))).toNatClampNeg)).toNatClampNeg (mmf ((((s14.2.2.1 + (100 : Int32)) - (1 : Int32)) - ((s14.2.2.1 + (100 : Int32)) - (1 : Int32)) / (100 : Int32) * (100 : Int32))).toNatClampNeg)) mk mo mwa mmc mmf mhy myw myh myr mpi mme mde mwe mla) H := hP
            have hD : va_D A (wM g a mw mh (s14.2.1 - (1 : Int32)) (((s14.2.2.1 + (100 : Int32)) - (1 : Int32)) - ((s14.2.2.1 + (100 : Int32)) - (1 : Int32)) / (100 : Int32) * (100 : Int32)) mdo mtr mma mto mah mrs mab (upd s14.2.2.2 ((mmc ((((s14.2.2.1 + (100 : Int32)) - (1 : Int32)) - ((s14.2.2.1 + (100 : Int32)) - (1 : Int32)) / (100 : Int32) * (100 : Int32))).toNatClampNeg)).toNatClampNeg (mmf ((((s14.2.2.1 + (100 : Int32)) - (1 : Int32)) - ((s14.2.2.1 + (100 : Int32)) - (1 : Int32)) / (100 : Int32) * (100 : Int32))).toNatClampNeg)) mk mo mwa mmc mmf mhy myw myh myr mpi mme mde mwe mla) := hD
            refine lv_iinc (v := (s14.1 + 1)) (lv' := [(2, .int (s14.1 + 1)), (0, .ref (a 0)), (1, .int x1)]) hx hb dX4_undo_75 hl (k := 2) rfl rfl (by decide) rfl (fun ls hl => ?_)
            refine lv_goto (tgt := 14) hx hb dX4_undo_78 (by decide) ?_
            obtain rfl := Option.some.inj h
            exact ih14 ((s14.1 + 1), (s14.2.1 - (1 : Int32)), (((s14.2.2.1 + (100 : Int32)) - (1 : Int32)) - ((s14.2.2.1 + (100 : Int32)) - (1 : Int32)) / (100 : Int32) * (100 : Int32)), (upd s14.2.2.2 ((mmc ((((s14.2.2.1 + (100 : Int32)) - (1 : Int32)) - ((s14.2.2.1 + (100 : Int32)) - (1 : Int32)) / (100 : Int32) * (100 : Int32))).toNatClampNeg)).toNatClampNeg (mmf ((((s14.2.2.1 + (100 : Int32)) - (1 : Int32)) - ((s14.2.2.1 + (100 : Int32)) - (1 : Int32)) / (100 : Int32) * (100 : Int32))).toNatClampNeg))) hr14 _ _ _ hP hD hS (lv_sub hl [1, 2, 0] rfl)
    exact L14 _ ((0 : Int32), mke, mnx, ce) hw14 _ _ _ hP hD hS (lv_sub hl [1, 2, 0] rfl)
  ·
    replace h := gdp h c7
    refine lv_iconst (v := -1) hx hb dX4_undo_10 (by decide) ?_
    obtain rfl := Option.some.inj h
    exact retMi (v := (-1 : Int32)) hx hb hr hlocks hP hD hS dX4_undo_11
-- LandBoardModel.sound
set_option maxHeartbeats 4000000 in
set_option maxRecDepth 100000 in
theorem ctX4_sound (l : Launch) (g : GG) (a : Nat → Nat) (x1 : Int32) (mw : Int32) (mh : Int32) (mke : Int32) (mnx : Int32) (mdo : Int32) (mtr : Int64) (mma : Int32) (mto : Int32) (mah : Int32) (mrs : Int32) (mab : Int32) (ce : (Nat → Int32)) (mk : (Nat → Int32)) (mo : (Nat → Int32)) (mwa : (Nat → Int32)) (mmc : (Nat → Int32)) (mmf : (Nat → Int32)) (mhy : (Nat → Int32)) (myw : (Nat → Int32)) (myh : (Nat → Int32)) (myr : (Nat → Int32)) (mpi : (Nat → Int32)) (mme : (Nat → Int32)) (mde : (Nat → Int32)) (mwe : (Nat → Int32)) (mla : (Nat → Int32)) (res : (Nat → Int32)) (h : fX4_sound x1 mw mh ce mde = some res) : MM l yX4_sound wsX4_sound ({ frames := 4, cells := 0, slots := 0, locals := 90 }) g [.ref (a 0), .int x1] (wM g a mw mh mke mnx mdo mtr mma mto mah mrs mab ce mk mo mwa mmc mmf mhy myw myh myr mpi mme mde mwe mla) (wM g a mw mh mke mnx mdo mtr mma mto mah mrs mab ce mk mo mwa mmc mmf mhy myw myh myr mpi mme res mwe mla) none := by
  refine MM.of (cc := cX4_sound) (own := RX4) 7 none (by decide +kernel) rfl (Nat.le_of_ble_eq_true rfl) rfl ?_
  intro p e s m args below meth c hx hb hr hml hown hts hlocks hK A hA ls hl hP hD hS
  have S : CallFix p m c cX4_sound 7 s args wsX4_sound RX4 := ⟨hx, hb, hml, hown, hts⟩
  have hl : lv_has ls 7 [(0, .ref (a 0)), (1, .int x1)] := hl
  have f7 := hts (.fieldLink RX4 7 "LandBoardModel" "w" "I") (by decide +kernel)
  have iX4 := (by decide +kernel : ∀ w ∈ u_ws RX4 TX4 26, w ∈ wsX4_sound)
  have f13 := hts (.fieldLink RX4 13 "LandBoardModel" "h" "I") (by decide +kernel)
  have f54 := hts (.fieldLink RX4 54 "LandBoardModel" "deep" "[I") (by decide +kernel)
  have f16 := hts (.fieldLink RX4 16 "LandBoardModel" "cells" "[I") (by decide +kernel)
  refine lv_iconst (v := 0) hx hb dX4_sound_0 (by decide) ?_
  refine lv_istore_n (lv' := [(2, .int (0 : Int32)), (0, .ref (a 0)), (1, .int x1)]) hx hb dX4_sound_1 rfl hl (by decide) rfl (fun ls hl => ?_)
  obtain ⟨t2, hw2, h⟩ := gdb h
  have X2 : ∀ (H : Heap) (locs : List Loc) (ls : Array Slot), va_P g.1 vwCl (wM g a mw mh mke mnx mdo mtr mma mto mah mrs mab ce mk mo mwa mmc mmf mhy myw myh myr mpi mme t2 mwe mla) H → va_D A (wM g a mw mh mke mnx mdo mtr mma mto mah mrs mab ce mk mo mwa mmc mmf mhy myw myh myr mpi mme t2 mwe mla) → va_S A s.heap H locs → lv_has ls 7 [(0, .ref (a 0))] → W p l e ({ frames := 4, cells := 0, slots := 0, locals := 90 }) s m args below meth c H locs 0 0 (MQ below (QM g none (wM g a mw mh mke mnx mdo mtr mma mto mah mrs mab ce mk mo mwa mmc mmf mhy myw myh myr mpi mme res mwe mla) A) args s 0 0 A) (F0 m 43 ls []) := by
    intro H locs ls hP hD hS hl
    refine lv_iconst (v := 1) hx hb dX4_sound_43 (by decide) ?_
    refine lv_istore_n (lv' := [(2, .int (1 : Int32)), (0, .ref (a 0))]) hx hb dX4_sound_44 rfl hl (by decide) rfl (fun ls hl => ?_)
    obtain ⟨t45, hw45, h⟩ := gdb h
    have X45 : ∀ (H : Heap) (locs : List Loc) (ls : Array Slot), va_P g.1 vwCl (wM g a mw mh mke mnx mdo mtr mma mto mah mrs mab ce mk mo mwa mmc mmf mhy myw myh myr mpi mme t45 mwe mla) H → va_D A (wM g a mw mh mke mnx mdo mtr mma mto mah mrs mab ce mk mo mwa mmc mmf mhy myw myh myr mpi mme t45 mwe mla) → va_S A s.heap H locs → lv_has ls 7 [] → W p l e ({ frames := 4, cells := 0, slots := 0, locals := 90 }) s m args below meth c H locs 0 0 (MQ below (QM g none (wM g a mw mh mke mnx mdo mtr mma mto mah mrs mab ce mk mo mwa mmc mmf mhy myw myh myr mpi mme res mwe mla) A) args s 0 0 A) (F0 m 140 ls []) := by
      intro H locs ls hP hD hS hl
      obtain rfl := Option.some.inj h
      exact retMv hx hb hr hlocks hP hD hS dX4_sound_140
    clear h
    have L45 : ∀ (n : Nat) (s45 : Int32 × (Nat → Int32)), wh (fX4_sound_45 mw mh) n s45 = some t45 → ∀ (H : Heap) (locs : List Loc) (ls : Array Slot), va_P g.1 vwCl (wM g a mw mh mke mnx mdo mtr mma mto mah mrs mab ce mk mo mwa mmc mmf mhy myw myh myr mpi mme s45.2 mwe mla) H → va_D A (wM g a mw mh mke mnx mdo mtr mma mto mah mrs mab ce mk mo mwa mmc mmf mhy myw myh myr mpi mme s45.2 mwe mla) → va_S A s.heap H locs → lv_has ls 7 [(0, .ref (a 0)), (2, .int s45.1)] → W p l e ({ frames := 4, cells := 0, slots := 0, locals := 90 }) s m args below meth c H locs 0 0 (MQ below (QM g none (wM g a mw mh mke mnx mdo mtr mma mto mah mrs mab ce mk mo mwa mmc mmf mhy myw myh myr mpi mme res mwe mla) A) args s 0 0 A) (F0 m 45 ls []) := by
      intro n
      induction n with
      | zero => intro s45 hw; exact (wh_0 hw).elim
      | succ n ih45 =>
        intro s45 hw H locs ls hP hD hS hl
        obtain ⟨r0, h, hr45⟩ := wh_s hw
        refine lv_iload_n hx hb dX4_sound_45 rfl (lv_at hl 1 rfl) ?_
        refine lv_if_eq (tgt := 140) hx hb dX4_sound_46 (by decide) (fun c46 => ?_) (fun c46 => ?_)
        ·
          replace h := gdp h c46
          obtain rfl := Option.some.inj h
          have e0 : s45.2 = t45 := hr45
          subst e0
          exact X45 _ _ _ hP hD hS (lv_sub hl [] rfl)
        ·
          replace h := gdn h c46
          refine lv_iconst (v := 0) hx hb dX4_sound_49 (by decide) ?_
          refine lv_istore_n (lv' := [(2, .int (0 : Int32)), (0, .ref (a 0))]) hx hb dX4_sound_50 rfl hl (by decide) rfl (fun ls hl => ?_)
          refine lv_iconst (v := 0) hx hb dX4_sound_51 (by decide) ?_
          refine lv_istore_n (lv' := [(3, .int (0 : Int32)), (2, .int (0 : Int32)), (0, .ref (a 0))]) hx hb dX4_sound_52 rfl hl (by decide) rfl (fun ls hl => ?_)
          obtain ⟨t53, hw53, h⟩ := gdb h
          have X53 : ∀ (H : Heap) (locs : List Loc) (ls : Array Slot), va_P g.1 vwCl (wM g a mw mh mke mnx mdo mtr mma mto mah mrs mab ce mk mo mwa mmc mmf mhy myw myh myr mpi mme t53.2 mwe mla) H → va_D A (wM g a mw mh mke mnx mdo mtr mma mto mah mrs mab ce mk mo mwa mmc mmf mhy myw myh myr mpi mme t53.2 mwe mla) → va_S A s.heap H locs → lv_has ls 7 [(0, .ref (a 0)), (2, .int t53.1)] → W p l e ({ frames := 4, cells := 0, slots := 0, locals := 90 }) s m args below meth c H locs 0 0 (MQ below (QM g none (wM g a mw mh mke mnx mdo mtr mma mto mah mrs mab ce mk mo mwa mmc mmf mhy myw myh myr mpi mme res mwe mla) A) args s 0 0 A) (F0 m 137 ls []) := by
            intro H locs ls hP hD hS hl
            refine lv_goto (tgt := 45) hx hb dX4_sound_137 (by decide) ?_
            obtain rfl := Option.some.inj h
            exact ih45 (t53.1, t53.2) hr45 _ _ _ hP hD hS (lv_sub hl [0, 1] rfl)
          clear h
          have L53 : ∀ (n : Nat) (s53 : Int32 × Int32 × (Nat → Int32)), wh (fX4_sound_53 mw mh) n s53 = some t53 → ∀ (H : Heap) (locs : List Loc) (ls : Array Slot), va_P g.1 vwCl (wM g a mw mh mke mnx mdo mtr mma mto mah mrs mab ce mk mo mwa mmc mmf mhy myw myh myr mpi mme s53.2.2 mwe mla) H → va_D A (wM g a mw mh mke mnx mdo mtr mma mto mah mrs mab ce mk mo mwa mmc mmf mhy myw myh myr mpi mme s53.2.2 mwe mla) → va_S A s.heap H locs → lv_has ls 7 [(0, .ref (a 0)), (2, .int s53.1), (3, .int s53.2.1)] → W p l e ({ frames := 4, cells := 0, slots := 0, locals := 90 }) s m args below meth c H locs 0 0 (MQ below (QM g none (wM g a mw mh mke mnx mdo mtr mma mto mah mrs mab ce mk mo mwa mmc mmf mhy myw myh myr mpi mme res mwe mla) A) args s 0 0 A) (F0 m 53 ls []) := by
            intro n
            induction n with
            | zero => intro s53 hw; exact (wh_0 hw).elim
            | succ n ih53 =>
              intro s53 hw H locs ls hP hD hS hl
              obtain ⟨r0, h, hr53⟩ := wh_s hw
              refine lv_iload_n hx hb dX4_sound_53 rfl (lv_at hl 2 rfl) ?_
              refine lv_aload_n hx hb dX4_sound_54 rfl (lv_at hl 0 rfl) ?_
              refine va_get (D := g.1) (ci := 4) (v := .int mw) (C := RX4) (T := TX4) (N := 26) hx hb hts iX4 hown hK.1 hP 0 rfl rfl 0 (by decide) f7 (fun _ h9 => h9) rfl dX4_sound_55 ?_
              refine lv_aload_n hx hb dX4_sound_58 rfl (lv_at hl 0 rfl) ?_
              refine va_get (D := g.1) (ci := 4) (v := .int mh) (C := RX4) (T := TX4) (N := 26) hx hb hts iX4 hown hK.1 hP 0 rfl rfl 1 (by decide) f13 (fun _ h9 => h9) rfl dX4_sound_59 ?_
              refine lv_imul hx hb dX4_sound_62 ?_
              refine lv_icmp_ge (tgt := 137) hx hb dX4_sound_63 (by decide) (fun c63 => ?_) (fun c63 => ?_)
              ·
                replace h := gdp h c63
                obtain rfl := Option.some.inj h
                have e0 : (s53.1, s53.2.2) = t53 := hr53
                subst e0
                exact X53 _ _ _ hP hD hS (lv_sub hl [0, 1] rfl)
              ·
                replace h := gdn h c63
                refine lv_iconst (v := 0) hx hb dX4_sound_66 (by decide) ?_
                refine lv_istore (lv' := [(4, .int (0 : Int32)), (0, .ref (a 0)), (2, .int s53.1), (3, .int s53.2.1)]) hx hb dX4_sound_67 hl (by decide) rfl (fun ls hl => ?_)
                obtain ⟨t69, hw69, h⟩ := gdb h
                have X69 : ∀ (H : Heap) (locs : List Loc) (ls : Array Slot), va_P g.1 vwCl (wM g a mw mh mke mnx mdo mtr mma mto mah mrs mab ce mk mo mwa mmc mmf mhy myw myh myr mpi mme t69.2 mwe mla) H → va_D A (wM g a mw mh mke mnx mdo mtr mma mto mah mrs mab ce mk mo mwa mmc mmf mhy myw myh myr mpi mme t69.2 mwe mla) → va_S A s.heap H locs → lv_has ls 7 [(0, .ref (a 0)), (2, .int t69.1), (3, .int s53.2.1)] → W p l e ({ frames := 4, cells := 0, slots := 0, locals := 90 }) s m args below meth c H locs 0 0 (MQ below (QM g none (wM g a mw mh mke mnx mdo mtr mma mto mah mrs mab ce mk mo mwa mmc mmf mhy myw myh myr mpi mme res mwe mla) A) args s 0 0 A) (F0 m 131 ls []) := by
                  intro H locs ls hP hD hS hl
                  refine lv_iinc (v := (s53.2.1 + 1)) (lv' := [(3, .int (s53.2.1 + 1)), (0, .ref (a 0)), (2, .int t69.1)]) hx hb dX4_sound_131 hl (k := 2) rfl rfl (by decide) rfl (fun ls hl => ?_)
                  refine lv_goto (tgt := 53) hx hb dX4_sound_134 (by decide) ?_
                  obtain rfl := Option.some.inj h
                  exact ih53 (t69.1, (s53.2.1 + 1), t69.2) hr53 _ _ _ hP hD hS (lv_sub hl [1, 2, 0] rfl)
                clear h
                have L69 : ∀ (n : Nat) (s69 : Int32 × Int32 × (Nat → Int32)), wh (fX4_sound_69 mw mh s53) n s69 = some t69 → ∀ (H : Heap) (locs : List Loc) (ls : Array Slot), va_P g.1 vwCl (wM g a mw mh mke mnx mdo mtr mma mto mah mrs mab ce mk mo mwa mmc mmf mhy myw myh myr mpi mme s69.2.2 mwe mla) H → va_D A (wM g a mw mh mke mnx mdo mtr mma mto mah mrs mab ce mk mo mwa mmc mmf mhy myw myh myr mpi mme s69.2.2 mwe mla) → va_S A s.heap H locs → lv_has ls 7 [(0, .ref (a 0)), (2, .int s69.1), (3, .int s53.2.1), (4, .int s69.2.1)] → W p l e ({ frames := 4, cells := 0, slots := 0, locals := 90 }) s m args below meth c H locs 0 0 (MQ below (QM g none (wM g a mw mh mke mnx mdo mtr mma mto mah mrs mab ce mk mo mwa mmc mmf mhy myw myh myr mpi mme res mwe mla) A) args s 0 0 A) (F0 m 69 ls []) := by
                  intro n
                  induction n with
                  | zero => intro s69 hw; exact (wh_0 hw).elim
                  | succ n ih69 =>
                    intro s69 hw H locs ls hP hD hS hl
                    obtain ⟨r0, h, hr69⟩ := wh_s hw
                    refine lv_iload hx hb dX4_sound_69 (lv_at hl 3 rfl) ?_
                    refine lv_iconst (v := 4) hx hb dX4_sound_71 (by decide) ?_
                    refine lv_icmp_ge (tgt := 131) hx hb dX4_sound_72 (by decide) (fun c72 => ?_) (fun c72 => ?_)
                    ·
                      replace h := gdp h c72
                      obtain rfl := Option.some.inj h
                      have e0 : (s69.1, s69.2.2) = t69 := hr69
                      subst e0
                      exact X69 _ _ _ hP hD hS (lv_sub hl [0, 1, 2] rfl)
                    ·
                      replace h := gdn h c72
                      refine lv_aload_n hx hb dX4_sound_75 rfl (lv_at hl 0 rfl) ?_
                      refine lv_iload_n hx hb dX4_sound_76 rfl (lv_at hl 2 rfl) ?_
                      refine lv_iload hx hb dX4_sound_77 (lv_at hl 3 rfl) ?_
                      obtain ⟨r79, hr79, h⟩ := gdb h
                      refine kPV (As := [.int s53.2.1, .int s69.2.1]) (rest := []) (ci := 4) S (ctX4_beside l g a s53.2.1 s69.2.1 mw mh mke mnx mdo mtr mma mto mah mrs mab ce mk mo mwa mmc mmf mhy myw myh myr mpi mme s69.2.2 mwe mla r79 hr79) (cwV 2 hts gX4_sound_X4_beside rfl rfl rfl (by decide +kernel) ⟨Nat.le_of_ble_eq_true rfl, Nat.le_of_ble_eq_true rfl⟩) hK hP [0, 1, 2, 3, 4, 5, 6, 7, 8, 9, 10, 11, 12, 13, 14, 15] rfl rfl rfl rfl rfl hl.1 rfl (Nat.le_of_ble_eq_true rfl) dX4_sound_79 ⟨Nat.zero_le _, Nat.zero_le _⟩ ?_
                      refine lv_istore (lv' := [(5, .int r79), (0, .ref (a 0)), (2, .int s69.1), (3, .int s53.2.1), (4, .int s69.2.1)]) hx hb dX4_sound_82 hl (by decide) rfl (fun ls hl => ?_)
                      refine lv_iload hx hb dX4_sound_84 (lv_at hl 0 rfl) ?_
                      refine lv_if_ge (tgt := 93) hx hb dX4_sound_86 (by decide) (fun c86 => ?_) (fun c86 => ?_)
                      ·
                        replace h := gdp h c86
                        refine lv_aload_n hx hb dX4_sound_93 rfl (lv_at hl 1 rfl) ?_
                        refine va_get (D := g.1) (ci := 4) (v := .ref (a 13)) (C := RX4) (T := TX4) (N := 26) hx hb hts iX4 hown hK.1 hP 0 rfl rfl 18 (by decide) f54 (fun _ h9 => h9) rfl dX4_sound_94 ?_
                        refine lv_iload hx hb dX4_sound_97 (lv_at hl 0 rfl) ?_
                        obtain ⟨hi, h⟩ := gdi h
                        refine va_iald (D := g.1) hx hb hK.1 hP 13 0 rfl rfl hi dX4_sound_99 ?_
                        refine lv_iconst (v := 1) hx hb dX4_sound_100 (by decide) ?_
                        refine lv_iadd hx hb dX4_sound_101 ?_
                        obtain ⟨v102, ev102, h⟩ := gdl h
                        refine topi ev102 ?_
                        refine lv_istore (lv' := [(6, .int v102), (5, .int r79), (0, .ref (a 0)), (2, .int s69.1), (3, .int s53.2.1), (4, .int s69.2.1)]) hx hb dX4_sound_102 hl (by decide) rfl (fun ls hl => ?_)
                        refine lv_aload_n hx hb dX4_sound_104 rfl (lv_at hl 2 rfl) ?_
                        refine va_get (D := g.1) (ci := 4) (v := .ref (a 13)) (C := RX4) (T := TX4) (N := 26) hx hb hts iX4 hown hK.1 hP 0 rfl rfl 18 (by decide) f54 (fun _ h9 => h9) rfl dX4_sound_105 ?_
                        refine lv_iload_n hx hb dX4_sound_108 rfl (lv_at hl 4 rfl) ?_
                        obtain ⟨hi, h⟩ := gdi h
                        refine va_iald (D := g.1) hx hb hK.1 hP 13 0 rfl rfl hi dX4_sound_109 ?_
                        refine lv_iload hx hb dX4_sound_110 (lv_at hl 0 rfl) ?_
                        refine lv_icmp_le (tgt := 125) hx hb dX4_sound_112 (by decide) (fun c112 => ?_) (fun c112 => ?_)
                        ·
                          replace h := gdp h c112
                          refine lv_iinc (v := (s69.2.1 + 1)) (lv' := [(4, .int (s69.2.1 + 1)), (6, .int v102), (5, .int r79), (0, .ref (a 0)), (2, .int s69.1), (3, .int s53.2.1)]) hx hb dX4_sound_125 hl (k := 5) rfl rfl (by decide) rfl (fun ls hl => ?_)
                          refine lv_goto (tgt := 69) hx hb dX4_sound_128 (by decide) ?_
                          obtain rfl := Option.some.inj h
                          exact ih69 (s69.1, (s69.2.1 + 1), s69.2.2) hr69 _ _ _ hP hD hS (lv_sub hl [3, 4, 5, 0] rfl)
                        ·
                          replace h := gdn h c112
                          refine lv_aload_n hx hb dX4_sound_115 rfl (lv_at hl 2 rfl) ?_
                          refine va_get (D := g.1) (ci := 4) (v := .ref (a 13)) (C := RX4) (T := TX4) (N := 26) hx hb hts iX4 hown hK.1 hP 0 rfl rfl 18 (by decide) f54 (fun _ h9 => h9) rfl dX4_sound_116 ?_
                          refine lv_iload_n hx hb dX4_sound_119 rfl (lv_at hl 4 rfl) ?_
                          refine lv_iload hx hb dX4_sound_120 (lv_at hl 0 rfl) ?_
                          obtain ⟨hi, h⟩ := gdi h
                          refine va_iast (D := g.1) hx hb hK.1 hP hD hS 13 0 rfl rfl hi dX4_sound_122 (fun H locs hP hD hS => ?_)
                          have hP : va_P g.1 vwCl (wM g a mw mh mke mnx mdo mtr mma mto mah mrs mab ce mk mo mwa mmc mmf mhy myw myh myr mpi mme (upd s69.2.2 (s53.2.1).toNatClampNeg v102) mwe mla) H := hP
                          have hD : va_D A (wM g a mw mh mke mnx mdo mtr mma mto mah mrs mab ce mk mo mwa mmc mmf mhy myw myh myr mpi mme (upd s69.2.2 (s53.2.1).toNatClampNeg v102) mwe mla) := hD
                          refine lv_iconst (v := 1) hx hb dX4_sound_123 (by decide) ?_
                          refine lv_istore_n (lv' := [(2, .int (1 : Int32)), (6, .int v102), (5, .int r79), (0, .ref (a 0)), (3, .int s53.2.1), (4, .int s69.2.1)]) hx hb dX4_sound_124 rfl hl (by decide) rfl (fun ls hl => ?_)
                          refine lv_iinc (v := (s69.2.1 + 1)) (lv' := [(4, .int (s69.2.1 + 1)), (2, .int (1 : Int32)), (6, .int v102), (5, .int r79), (0, .ref (a 0)), (3, .int s53.2.1)]) hx hb dX4_sound_125 hl (k := 5) rfl rfl (by decide) rfl (fun ls hl => ?_)
                          refine lv_goto (tgt := 69) hx hb dX4_sound_128 (by decide) ?_
                          obtain rfl := Option.some.inj h
                          exact ih69 ((1 : Int32), (s69.2.1 + 1), (upd s69.2.2 (s53.2.1).toNatClampNeg v102)) hr69 _ _ _ hP hD hS (lv_sub hl [4, 1, 5, 0] rfl)
                      ·
                        replace h := gdn h c86
                        refine lv_iconst (v := 1) hx hb dX4_sound_89 (by decide) ?_
                        refine lv_goto (tgt := 102) hx hb dX4_sound_90 (by decide) ?_
                        refine lv_istore (lv' := [(6, .int (1 : Int32)), (5, .int r79), (0, .ref (a 0)), (2, .int s69.1), (3, .int s53.2.1), (4, .int s69.2.1)]) hx hb dX4_sound_102 hl (by decide) rfl (fun ls hl => ?_)
                        refine lv_aload_n hx hb dX4_sound_104 rfl (lv_at hl 2 rfl) ?_
                        refine va_get (D := g.1) (ci := 4) (v := .ref (a 13)) (C := RX4) (T := TX4) (N := 26) hx hb hts iX4 hown hK.1 hP 0 rfl rfl 18 (by decide) f54 (fun _ h9 => h9) rfl dX4_sound_105 ?_
                        refine lv_iload_n hx hb dX4_sound_108 rfl (lv_at hl 4 rfl) ?_
                        obtain ⟨hi, h⟩ := gdi h
                        refine va_iald (D := g.1) hx hb hK.1 hP 13 0 rfl rfl hi dX4_sound_109 ?_
                        refine lv_iload hx hb dX4_sound_110 (lv_at hl 0 rfl) ?_
                        refine lv_icmp_le (tgt := 125) hx hb dX4_sound_112 (by decide) (fun c112 => ?_) (fun c112 => ?_)
                        ·
                          replace h := gdp h c112
                          refine lv_iinc (v := (s69.2.1 + 1)) (lv' := [(4, .int (s69.2.1 + 1)), (6, .int (1 : Int32)), (5, .int r79), (0, .ref (a 0)), (2, .int s69.1), (3, .int s53.2.1)]) hx hb dX4_sound_125 hl (k := 5) rfl rfl (by decide) rfl (fun ls hl => ?_)
                          refine lv_goto (tgt := 69) hx hb dX4_sound_128 (by decide) ?_
                          obtain rfl := Option.some.inj h
                          exact ih69 (s69.1, (s69.2.1 + 1), s69.2.2) hr69 _ _ _ hP hD hS (lv_sub hl [3, 4, 5, 0] rfl)
                        ·
                          replace h := gdn h c112
                          refine lv_aload_n hx hb dX4_sound_115 rfl (lv_at hl 2 rfl) ?_
                          refine va_get (D := g.1) (ci := 4) (v := .ref (a 13)) (C := RX4) (T := TX4) (N := 26) hx hb hts iX4 hown hK.1 hP 0 rfl rfl 18 (by decide) f54 (fun _ h9 => h9) rfl dX4_sound_116 ?_
                          refine lv_iload_n hx hb dX4_sound_119 rfl (lv_at hl 4 rfl) ?_
                          refine lv_iload hx hb dX4_sound_120 (lv_at hl 0 rfl) ?_
                          obtain ⟨hi, h⟩ := gdi h
                          refine va_iast (D := g.1) hx hb hK.1 hP hD hS 13 0 rfl rfl hi dX4_sound_122 (fun H locs hP hD hS => ?_)
                          have hP : va_P g.1 vwCl (wM g a mw mh mke mnx mdo mtr mma mto mah mrs mab ce mk mo mwa mmc mmf mhy myw myh myr mpi mme (upd s69.2.2 (s53.2.1).toNatClampNeg (1 : Int32)) mwe mla) H := hP
                          have hD : va_D A (wM g a mw mh mke mnx mdo mtr mma mto mah mrs mab ce mk mo mwa mmc mmf mhy myw myh myr mpi mme (upd s69.2.2 (s53.2.1).toNatClampNeg (1 : Int32)) mwe mla) := hD
                          refine lv_iconst (v := 1) hx hb dX4_sound_123 (by decide) ?_
                          refine lv_istore_n (lv' := [(2, .int (1 : Int32)), (6, .int (1 : Int32)), (5, .int r79), (0, .ref (a 0)), (3, .int s53.2.1), (4, .int s69.2.1)]) hx hb dX4_sound_124 rfl hl (by decide) rfl (fun ls hl => ?_)
                          refine lv_iinc (v := (s69.2.1 + 1)) (lv' := [(4, .int (s69.2.1 + 1)), (2, .int (1 : Int32)), (6, .int (1 : Int32)), (5, .int r79), (0, .ref (a 0)), (3, .int s53.2.1)]) hx hb dX4_sound_125 hl (k := 5) rfl rfl (by decide) rfl (fun ls hl => ?_)
                          refine lv_goto (tgt := 69) hx hb dX4_sound_128 (by decide) ?_
                          obtain rfl := Option.some.inj h
                          exact ih69 ((1 : Int32), (s69.2.1 + 1), (upd s69.2.2 (s53.2.1).toNatClampNeg (1 : Int32))) hr69 _ _ _ hP hD hS (lv_sub hl [4, 1, 5, 0] rfl)
                exact L69 _ (s53.1, (0 : Int32), s53.2.2) hw69 _ _ _ hP hD hS (lv_sub hl [1, 2, 3, 0] rfl)
          exact L53 _ ((0 : Int32), (0 : Int32), s45.2) hw53 _ _ _ hP hD hS (lv_sub hl [2, 1, 0] rfl)
    exact L45 _ ((1 : Int32), t2) hw45 _ _ _ hP hD hS (lv_sub hl [1, 0] rfl)
  clear h
  have L2 : ∀ (n : Nat) (s2 : Int32 × (Nat → Int32)), wh (fX4_sound_2 x1 mw mh ce) n s2 = some t2 → ∀ (H : Heap) (locs : List Loc) (ls : Array Slot), va_P g.1 vwCl (wM g a mw mh mke mnx mdo mtr mma mto mah mrs mab ce mk mo mwa mmc mmf mhy myw myh myr mpi mme s2.2 mwe mla) H → va_D A (wM g a mw mh mke mnx mdo mtr mma mto mah mrs mab ce mk mo mwa mmc mmf mhy myw myh myr mpi mme s2.2 mwe mla) → va_S A s.heap H locs → lv_has ls 7 [(0, .ref (a 0)), (1, .int x1), (2, .int s2.1)] → W p l e ({ frames := 4, cells := 0, slots := 0, locals := 90 }) s m args below meth c H locs 0 0 (MQ below (QM g none (wM g a mw mh mke mnx mdo mtr mma mto mah mrs mab ce mk mo mwa mmc mmf mhy myw myh myr mpi mme res mwe mla) A) args s 0 0 A) (F0 m 2 ls []) := by
    intro n
    induction n with
    | zero => intro s2 hw; exact (wh_0 hw).elim
    | succ n ih2 =>
      intro s2 hw H locs ls hP hD hS hl
      obtain ⟨r0, h, hr2⟩ := wh_s hw
      refine lv_iload_n hx hb dX4_sound_2 rfl (lv_at hl 2 rfl) ?_
      refine lv_aload_n hx hb dX4_sound_3 rfl (lv_at hl 0 rfl) ?_
      refine va_get (D := g.1) (ci := 4) (v := .int mw) (C := RX4) (T := TX4) (N := 26) hx hb hts iX4 hown hK.1 hP 0 rfl rfl 0 (by decide) f7 (fun _ h9 => h9) rfl dX4_sound_4 ?_
      refine lv_aload_n hx hb dX4_sound_7 rfl (lv_at hl 0 rfl) ?_
      refine va_get (D := g.1) (ci := 4) (v := .int mh) (C := RX4) (T := TX4) (N := 26) hx hb hts iX4 hown hK.1 hP 0 rfl rfl 1 (by decide) f13 (fun _ h9 => h9) rfl dX4_sound_8 ?_
      refine lv_imul hx hb dX4_sound_11 ?_
      refine lv_icmp_ge (tgt := 43) hx hb dX4_sound_12 (by decide) (fun c12 => ?_) (fun c12 => ?_)
      ·
        replace h := gdp h c12
        obtain rfl := Option.some.inj h
        have e0 : s2.2 = t2 := hr2
        subst e0
        exact X2 _ _ _ hP hD hS (lv_sub hl [0] rfl)
      ·
        replace h := gdn h c12
        refine lv_aload_n hx hb dX4_sound_15 rfl (lv_at hl 0 rfl) ?_
        refine va_get (D := g.1) (ci := 4) (v := .ref (a 13)) (C := RX4) (T := TX4) (N := 26) hx hb hts iX4 hown hK.1 hP 0 rfl rfl 18 (by decide) f54 (fun _ h9 => h9) rfl dX4_sound_16 ?_
        refine lv_iload_n hx hb dX4_sound_19 rfl (lv_at hl 2 rfl) ?_
        refine lv_aload_n hx hb dX4_sound_20 rfl (lv_at hl 0 rfl) ?_
        refine va_get (D := g.1) (ci := 4) (v := .ref (a 1)) (C := RX4) (T := TX4) (N := 26) hx hb hts iX4 hown hK.1 hP 0 rfl rfl 2 (by decide) f16 (fun _ h9 => h9) rfl dX4_sound_21 ?_
        refine lv_iload_n hx hb dX4_sound_24 rfl (lv_at hl 2 rfl) ?_
        obtain ⟨hi, h⟩ := gdi h
        refine va_iald (D := g.1) hx hb hK.1 hP 1 0 rfl rfl hi dX4_sound_25 ?_
        refine lv_iload_n hx hb dX4_sound_26 rfl (lv_at hl 1 rfl) ?_
        refine lv_icmp_ne (tgt := 35) hx hb dX4_sound_27 (by decide) (fun c27 => ?_) (fun c27 => ?_)
        ·
          replace h := gdn h c27
          refine lv_iconst (v := 0) hx hb dX4_sound_35 (by decide) ?_
          obtain ⟨hi, h⟩ := gdi h
          refine va_iast (D := g.1) hx hb hK.1 hP hD hS 13 0 rfl rfl hi dX4_sound_36 (fun H locs hP hD hS => ?_)
          have hP : va_P g.1 vwCl (wM g a mw mh mke mnx mdo mtr mma mto mah mrs mab ce mk mo mwa mmc mmf mhy myw myh myr mpi mme (upd s2.2 (s2.1).toNatClampNeg (0 : Int32)) mwe mla) H := hP
          have hD : va_D A (wM g a mw mh mke mnx mdo mtr mma mto mah mrs mab ce mk mo mwa mmc mmf mhy myw myh myr mpi mme (upd s2.2 (s2.1).toNatClampNeg (0 : Int32)) mwe mla) := hD
          refine lv_iinc (v := (s2.1 + 1)) (lv' := [(2, .int (s2.1 + 1)), (0, .ref (a 0)), (1, .int x1)]) hx hb dX4_sound_37 hl (k := 2) rfl rfl (by decide) rfl (fun ls hl => ?_)
          refine lv_goto (tgt := 2) hx hb dX4_sound_40 (by decide) ?_
          obtain rfl := Option.some.inj h
          exact ih2 ((s2.1 + 1), (upd s2.2 (s2.1).toNatClampNeg (0 : Int32))) hr2 _ _ _ hP hD hS (lv_sub hl [1, 2, 0] rfl)
        ·
          replace h := gdp h c27
          refine lv_bipush (v := 100) hx hb dX4_sound_30 (by decide) ?_
          refine lv_goto (tgt := 36) hx hb dX4_sound_32 (by decide) ?_
          obtain ⟨hi, h⟩ := gdi h
          refine va_iast (D := g.1) hx hb hK.1 hP hD hS 13 0 rfl rfl hi dX4_sound_36 (fun H locs hP hD hS => ?_)
          have hP : va_P g.1 vwCl (wM g a mw mh mke mnx mdo mtr mma mto mah mrs mab ce mk mo mwa mmc mmf mhy myw myh myr mpi mme (upd s2.2 (s2.1).toNatClampNeg (100 : Int32)) mwe mla) H := hP
          have hD : va_D A (wM g a mw mh mke mnx mdo mtr mma mto mah mrs mab ce mk mo mwa mmc mmf mhy myw myh myr mpi mme (upd s2.2 (s2.1).toNatClampNeg (100 : Int32)) mwe mla) := hD
          refine lv_iinc (v := (s2.1 + 1)) (lv' := [(2, .int (s2.1 + 1)), (0, .ref (a 0)), (1, .int x1)]) hx hb dX4_sound_37 hl (k := 2) rfl rfl (by decide) rfl (fun ls hl => ?_)
          refine lv_goto (tgt := 2) hx hb dX4_sound_40 (by decide) ?_
          obtain rfl := Option.some.inj h
          exact ih2 ((s2.1 + 1), (upd s2.2 (s2.1).toNatClampNeg (100 : Int32))) hr2 _ _ _ hP hD hS (lv_sub hl [1, 2, 0] rfl)
  exact L2 _ ((0 : Int32), mde) hw2 _ _ _ hP hD hS (lv_sub hl [1, 2, 0] rfl)
-- LandBoardModel.label
set_option maxHeartbeats 4000000 in
set_option maxRecDepth 100000 in
theorem ctX4_label (l : Launch) (g : GG) (a : Nat → Nat) (x1 : Int32) (x2 : Int32) (mw : Int32) (mh : Int32) (mke : Int32) (mnx : Int32) (mdo : Int32) (mtr : Int64) (mma : Int32) (mto : Int32) (mah : Int32) (mrs : Int32) (mab : Int32) (ce : (Nat → Int32)) (mk : (Nat → Int32)) (mo : (Nat → Int32)) (mwa : (Nat → Int32)) (mmc : (Nat → Int32)) (mmf : (Nat → Int32)) (mhy : (Nat → Int32)) (myw : (Nat → Int32)) (myh : (Nat → Int32)) (myr : (Nat → Int32)) (mpi : (Nat → Int32)) (mme : (Nat → Int32)) (mde : (Nat → Int32)) (mwe : (Nat → Int32)) (mla : (Nat → Int32)) (res : Int32 × (Nat → Int32)) (h : fX4_label x1 x2 mw mh ce mde = some res) : MM l yX4_label wsX4_label ({ frames := 5, cells := 0, slots := 0, locals := 116 }) g [.ref (a 0), .int x1, .int x2] (wM g a mw mh mke mnx mdo mtr mma mto mah mrs mab ce mk mo mwa mmc mmf mhy myw myh myr mpi mme mde mwe mla) (wM g a mw mh mke mnx mdo mtr mma mto mah mrs mab ce mk mo mwa mmc mmf mhy myw myh myr mpi mme res.2 mwe mla) (some (.int res.1)) := by
  refine MM.of (cc := cX4_label) (own := RX4) 5 (some .int) (by decide +kernel) rfl (Nat.le_of_ble_eq_true rfl) rfl ?_
  intro p e s m args below meth c hx hb hr hml hown hts hlocks hK A hA ls hl hP hD hS
  have S : CallFix p m c cX4_label 5 s args wsX4_label RX4 := ⟨hx, hb, hml, hown, hts⟩
  have hl : lv_has ls 5 [(0, .ref (a 0)), (1, .int x1), (2, .int x2)] := hl
  have f54 := hts (.fieldLink RX4 54 "LandBoardModel" "deep" "[I") (by decide +kernel)
  have iX4 := (by decide +kernel : ∀ w ∈ u_ws RX4 TX4 26, w ∈ wsX4_label)
  have f7 := hts (.fieldLink RX4 7 "LandBoardModel" "w" "I") (by decide +kernel)
  have f13 := hts (.fieldLink RX4 13 "LandBoardModel" "h" "I") (by decide +kernel)
  refine lv_iload_n hx hb dX4_label_0 rfl (lv_at hl 1 rfl) ?_
  refine kPS (As := [.int x1]) (rest := []) S (ctX4_isLand l g x1  (fX4_isLand x1) rfl) (va_cwS 1 hts gX4_label_X4_isLand rfl rfl rfl (by decide +kernel) ⟨Nat.le_of_ble_eq_true rfl, Nat.le_of_ble_eq_true rfl⟩) hK rfl rfl hl.1 rfl (Nat.le_of_ble_eq_true rfl) dX4_label_1 ⟨Nat.zero_le _, Nat.zero_le _⟩ ?_
  refine lv_if_eq (tgt := 16) hx hb dX4_label_4 (by decide) (fun c4 => ?_) (fun c4 => ?_)
  ·
    replace h := gdp h c4
    refine lv_iconst (v := -1) hx hb dX4_label_16 (by decide) ?_
    obtain rfl := Option.some.inj h
    exact retMi (v := (-1 : Int32)) hx hb hr hlocks hP hD hS dX4_label_17
  ·
    replace h := gdn h c4
    refine lv_iload_n hx hb dX4_label_7 rfl (lv_at hl 2 rfl) ?_
    refine lv_iconst (v := 0) hx hb dX4_label_8 (by decide) ?_
    refine lv_iconst (v := 2) hx hb dX4_label_9 (by decide) ?_
    refine kPS (As := [.int x2, .int (0 : Int32), .int (2 : Int32)]) (rest := []) S (ctX4_in l g x2 (0 : Int32) (2 : Int32)  (fX4_in x2 (0 : Int32) (2 : Int32)) rfl) (va_cwS 3 hts gX4_label_X4_in rfl rfl rfl (by decide +kernel) ⟨Nat.le_of_ble_eq_true rfl, Nat.le_of_ble_eq_true rfl⟩) hK rfl rfl hl.1 rfl (Nat.le_of_ble_eq_true rfl) dX4_label_10 ⟨Nat.zero_le _, Nat.zero_le _⟩ ?_
    refine lv_if_ne (tgt := 18) hx hb dX4_label_13 (by decide) (fun c13 => ?_) (fun c13 => ?_)
    ·
      replace h := gdn h c13
      refine lv_aload_n hx hb dX4_label_18 rfl (lv_at hl 0 rfl) ?_
      refine lv_iload_n hx hb dX4_label_19 rfl (lv_at hl 1 rfl) ?_
      obtain ⟨r20, hr20, h⟩ := gdb h
      refine kPV (As := [.int x1]) (rest := []) (ci := 4) S (ctX4_sizeOf l g a x1 mw mh mke mnx mdo mtr mma mto mah mrs mab ce mk mo mwa mmc mmf mhy myw myh myr mpi mme mde mwe mla r20 hr20) (cwV 1 hts gX4_label_X4_sizeOf rfl rfl rfl (by decide +kernel) ⟨Nat.le_of_ble_eq_true rfl, Nat.le_of_ble_eq_true rfl⟩) hK hP [0, 1, 2, 3, 4, 5, 6, 7, 8, 9, 10, 11, 12, 13, 14, 15] rfl rfl rfl rfl rfl hl.1 rfl (Nat.le_of_ble_eq_true rfl) dX4_label_20 ⟨Nat.zero_le _, Nat.zero_le _⟩ ?_
      refine lv_if_ne (tgt := 29) hx hb dX4_label_23 (by decide) (fun c23 => ?_) (fun c23 => ?_)
      ·
        replace h := gdn h c23
        refine lv_aload_n hx hb dX4_label_29 rfl (lv_at hl 0 rfl) ?_
        refine lv_iload_n hx hb dX4_label_30 rfl (lv_at hl 1 rfl) ?_
        obtain ⟨r31, hr31, h⟩ := gdb h
        refine kMV (As := [.int x1]) (rest := []) (ci := 4) (W1 := (wM g a mw mh mke mnx mdo mtr mma mto mah mrs mab ce mk mo mwa mmc mmf mhy myw myh myr mpi mme r31 mwe mla)) (wr := []) S (ctX4_sound l g a x1 mw mh mke mnx mdo mtr mma mto mah mrs mab ce mk mo mwa mmc mmf mhy myw myh myr mpi mme mde mwe mla r31 hr31) (cwV 1 hts gX4_label_X4_sound rfl rfl rfl (by decide +kernel) ⟨Nat.le_of_ble_eq_true rfl, Nat.le_of_ble_eq_true rfl⟩) hK hP hD hS hA [0, 1, 2, 3, 4, 5, 6, 7, 8, 9, 10, 11, 12, 13, 14, 15] [] [0, 1, 2, 3, 4, 5, 6, 7, 8, 9, 10, 11, 12, 13, 14, 15] rfl rfl rfl rfl (by decide) rfl rfl rfl rfl rfl rfl hl.1 rfl (Nat.le_of_ble_eq_true rfl) dX4_label_31 ⟨Nat.zero_le _, Nat.zero_le _⟩ (fun H locs hP hD hS => ?_)
        show W p l e ({ frames := 5, cells := 0, slots := 0, locals := 116 }) s m args below meth c H locs 0 0 (MQ below (QM g (some (.int res.1)) (wM g a mw mh mke mnx mdo mtr mma mto mah mrs mab ce mk mo mwa mmc mmf mhy myw myh myr mpi mme res.2 mwe mla) A) args s 0 0 A) (F0 m 34 ls [])
        refine lv_iconst (v := 0) hx hb dX4_label_34 (by decide) ?_
        refine lv_istore_n (lv' := [(3, .int (0 : Int32)), (0, .ref (a 0)), (1, .int x1), (2, .int x2)]) hx hb dX4_label_35 rfl hl (by decide) rfl (fun ls hl => ?_)
        refine lv_iconst (v := 1) hx hb dX4_label_36 (by decide) ?_
        refine lv_istore (lv' := [(4, .int (1 : Int32)), (3, .int (0 : Int32)), (0, .ref (a 0)), (1, .int x1), (2, .int x2)]) hx hb dX4_label_37 hl (by decide) rfl (fun ls hl => ?_)
        obtain ⟨t39, hw39, h⟩ := gdb h
        have X39 : ∀ (H : Heap) (locs : List Loc) (ls : Array Slot), va_P g.1 vwCl (wM g a mw mh mke mnx mdo mtr mma mto mah mrs mab ce mk mo mwa mmc mmf mhy myw myh myr mpi mme r31 mwe mla) H → va_D A (wM g a mw mh mke mnx mdo mtr mma mto mah mrs mab ce mk mo mwa mmc mmf mhy myw myh myr mpi mme r31 mwe mla) → va_S A s.heap H locs → lv_has ls 5 [(0, .ref (a 0)), (2, .int x2), (3, .int t39)] → W p l e ({ frames := 5, cells := 0, slots := 0, locals := 116 }) s m args below meth c H locs 0 0 (MQ below (QM g (some (.int res.1)) (wM g a mw mh mke mnx mdo mtr mma mto mah mrs mab ce mk mo mwa mmc mmf mhy myw myh myr mpi mme res.2 mwe mla) A) args s 0 0 A) (F0 m 82 ls []) := by
          intro H locs ls hP hD hS hl
          refine lv_iload_n hx hb dX4_label_82 rfl (lv_at hl 1 rfl) ?_
          refine lv_if_ne (tgt := 95) hx hb dX4_label_83 (by decide) (fun c83 => ?_) (fun c83 => ?_)
          ·
            replace h := gdn h c83
            refine lv_iload_n hx hb dX4_label_95 rfl (lv_at hl 1 rfl) ?_
            refine lv_iconst (v := 1) hx hb dX4_label_96 (by decide) ?_
            refine lv_icmp_ne (tgt := 109) hx hb dX4_label_97 (by decide) (fun c97 => ?_) (fun c97 => ?_)
            ·
              replace h := gdn h c97
              refine lv_aload_n hx hb dX4_label_109 rfl (lv_at hl 0 rfl) ?_
              refine va_get (D := g.1) (ci := 4) (v := .ref (a 13)) (C := RX4) (T := TX4) (N := 26) hx hb hts iX4 hown hK.1 hP 0 rfl rfl 18 (by decide) f54 (fun _ h9 => h9) rfl dX4_label_110 ?_
              refine lv_iload_n hx hb dX4_label_113 rfl (lv_at hl 2 rfl) ?_
              obtain ⟨hi, h⟩ := gdi h
              refine va_iald (D := g.1) hx hb hK.1 hP 13 0 rfl rfl hi dX4_label_114 ?_
              obtain rfl := Option.some.inj h
              exact retMi hx hb hr hlocks hP hD hS dX4_label_115
            ·
              replace h := gdp h c97
              refine lv_iload_n hx hb dX4_label_100 rfl (lv_at hl 2 rfl) ?_
              refine lv_aload_n hx hb dX4_label_101 rfl (lv_at hl 0 rfl) ?_
              refine va_get (D := g.1) (ci := 4) (v := .int mw) (C := RX4) (T := TX4) (N := 26) hx hb hts iX4 hown hK.1 hP 0 rfl rfl 0 (by decide) f7 (fun _ h9 => h9) rfl dX4_label_102 ?_
              obtain ⟨hz, h⟩ := gdz h
              refine lv_idiv hx hb dX4_label_105 hz ?_
              refine lv_goto (tgt := 115) hx hb dX4_label_106 (by decide) ?_
              obtain rfl := Option.some.inj h
              exact retMi hx hb hr hlocks hP hD hS dX4_label_115
          ·
            replace h := gdp h c83
            refine lv_iload_n hx hb dX4_label_86 rfl (lv_at hl 2 rfl) ?_
            refine lv_aload_n hx hb dX4_label_87 rfl (lv_at hl 0 rfl) ?_
            refine va_get (D := g.1) (ci := 4) (v := .int mw) (C := RX4) (T := TX4) (N := 26) hx hb hts iX4 hown hK.1 hP 0 rfl rfl 0 (by decide) f7 (fun _ h9 => h9) rfl dX4_label_88 ?_
            obtain ⟨hz, h⟩ := gdz h
            refine lv_irem hx hb dX4_label_91 hz ?_
            refine lv_goto (tgt := 115) hx hb dX4_label_92 (by decide) ?_
            obtain rfl := Option.some.inj h
            exact retMi hx hb hr hlocks hP hD hS dX4_label_115
        clear h
        have L39 : ∀ (n : Nat) (s39 : Int32 × Int32), wh (fX4_label_39 mw mh r31) n s39 = some t39 → ∀ (H : Heap) (locs : List Loc) (ls : Array Slot), va_P g.1 vwCl (wM g a mw mh mke mnx mdo mtr mma mto mah mrs mab ce mk mo mwa mmc mmf mhy myw myh myr mpi mme r31 mwe mla) H → va_D A (wM g a mw mh mke mnx mdo mtr mma mto mah mrs mab ce mk mo mwa mmc mmf mhy myw myh myr mpi mme r31 mwe mla) → va_S A s.heap H locs → lv_has ls 5 [(0, .ref (a 0)), (2, .int x2), (3, .int s39.1), (4, .int s39.2)] → W p l e ({ frames := 5, cells := 0, slots := 0, locals := 116 }) s m args below meth c H locs 0 0 (MQ below (QM g (some (.int res.1)) (wM g a mw mh mke mnx mdo mtr mma mto mah mrs mab ce mk mo mwa mmc mmf mhy myw myh myr mpi mme res.2 mwe mla) A) args s 0 0 A) (F0 m 39 ls []) := by
          intro n
          induction n with
          | zero => intro s39 hw; exact (wh_0 hw).elim
          | succ n ih39 =>
            intro s39 hw H locs ls hP hD hS hl
            obtain ⟨r0, h, hr39⟩ := wh_s hw
            refine lv_iload hx hb dX4_label_39 (lv_at hl 3 rfl) ?_
            refine lv_aload_n hx hb dX4_label_41 rfl (lv_at hl 0 rfl) ?_
            refine va_get (D := g.1) (ci := 4) (v := .int mw) (C := RX4) (T := TX4) (N := 26) hx hb hts iX4 hown hK.1 hP 0 rfl rfl 0 (by decide) f7 (fun _ h9 => h9) rfl dX4_label_42 ?_
            refine lv_aload_n hx hb dX4_label_45 rfl (lv_at hl 0 rfl) ?_
            refine va_get (D := g.1) (ci := 4) (v := .int mh) (C := RX4) (T := TX4) (N := 26) hx hb hts iX4 hown hK.1 hP 0 rfl rfl 1 (by decide) f13 (fun _ h9 => h9) rfl dX4_label_46 ?_
            refine lv_imul hx hb dX4_label_49 ?_
            refine lv_icmp_ge (tgt := 82) hx hb dX4_label_50 (by decide) (fun c50 => ?_) (fun c50 => ?_)
            ·
              replace h := gdp h c50
              obtain rfl := Option.some.inj h
              have e0 : s39.1 = t39 := hr39
              subst e0
              exact X39 _ _ _ hP hD hS (lv_sub hl [0, 1, 2] rfl)
            ·
              replace h := gdn h c50
              refine lv_aload_n hx hb dX4_label_53 rfl (lv_at hl 0 rfl) ?_
              refine va_get (D := g.1) (ci := 4) (v := .ref (a 13)) (C := RX4) (T := TX4) (N := 26) hx hb hts iX4 hown hK.1 hP 0 rfl rfl 18 (by decide) f54 (fun _ h9 => h9) rfl dX4_label_54 ?_
              refine lv_iload hx hb dX4_label_57 (lv_at hl 3 rfl) ?_
              obtain ⟨hi, h⟩ := gdi h
              refine va_iald (D := g.1) hx hb hK.1 hP 13 0 rfl rfl hi dX4_label_59 ?_
              refine lv_aload_n hx hb dX4_label_60 rfl (lv_at hl 0 rfl) ?_
              refine va_get (D := g.1) (ci := 4) (v := .ref (a 13)) (C := RX4) (T := TX4) (N := 26) hx hb hts iX4 hown hK.1 hP 0 rfl rfl 18 (by decide) f54 (fun _ h9 => h9) rfl dX4_label_61 ?_
              refine lv_iload_n hx hb dX4_label_64 rfl (lv_at hl 2 rfl) ?_
              obtain ⟨hi, h⟩ := gdi h
              refine va_iald (D := g.1) hx hb hK.1 hP 13 0 rfl rfl hi dX4_label_65 ?_
              refine lv_icmp_le (tgt := 74) hx hb dX4_label_66 (by decide) (fun c66 => ?_) (fun c66 => ?_)
              ·
                replace h := gdp h c66
                refine lv_iload_n hx hb dX4_label_74 rfl (lv_at hl 2 rfl) ?_
                refine lv_istore_n (lv' := [(3, .int s39.1), (0, .ref (a 0)), (2, .int x2), (4, .int s39.2)]) hx hb dX4_label_75 rfl hl (by decide) rfl (fun ls hl => ?_)
                refine lv_iinc (v := (s39.2 + 1)) (lv' := [(4, .int (s39.2 + 1)), (3, .int s39.1), (0, .ref (a 0)), (2, .int x2)]) hx hb dX4_label_76 hl (k := 3) rfl rfl (by decide) rfl (fun ls hl => ?_)
                refine lv_goto (tgt := 39) hx hb dX4_label_79 (by decide) ?_
                obtain rfl := Option.some.inj h
                exact ih39 (s39.1, (s39.2 + 1)) hr39 _ _ _ hP hD hS (lv_sub hl [2, 3, 1, 0] rfl)
              ·
                replace h := gdn h c66
                refine lv_iload hx hb dX4_label_69 (lv_at hl 3 rfl) ?_
                refine lv_goto (tgt := 75) hx hb dX4_label_71 (by decide) ?_
                refine lv_istore_n (lv' := [(3, .int s39.2), (0, .ref (a 0)), (2, .int x2), (4, .int s39.2)]) hx hb dX4_label_75 rfl hl (by decide) rfl (fun ls hl => ?_)
                refine lv_iinc (v := (s39.2 + 1)) (lv' := [(4, .int (s39.2 + 1)), (3, .int s39.2), (0, .ref (a 0)), (2, .int x2)]) hx hb dX4_label_76 hl (k := 3) rfl rfl (by decide) rfl (fun ls hl => ?_)
                refine lv_goto (tgt := 39) hx hb dX4_label_79 (by decide) ?_
                obtain rfl := Option.some.inj h
                exact ih39 (s39.2, (s39.2 + 1)) hr39 _ _ _ hP hD hS (lv_sub hl [2, 3, 1, 0] rfl)
        exact L39 _ ((0 : Int32), (1 : Int32)) hw39 _ _ _ hP hD hS (lv_sub hl [2, 4, 1, 0] rfl)
      ·
        replace h := gdp h c23
        refine lv_bipush (v := -9) hx hb dX4_label_26 (by decide) ?_
        obtain rfl := Option.some.inj h
        exact retMi (v := (-9 : Int32)) hx hb hr hlocks hP hD hS dX4_label_28
    ·
      replace h := gdp h c13
      refine lv_iconst (v := -1) hx hb dX4_label_16 (by decide) ?_
      obtain rfl := Option.some.inj h
      exact retMi (v := (-1 : Int32)) hx hb hr hlocks hP hD hS dX4_label_17
-- LandBoardModel.weigh
set_option maxHeartbeats 4000000 in
set_option maxRecDepth 100000 in
theorem ctX4_weigh (l : Launch) (g : GG) (a : Nat → Nat)  (mw : Int32) (mh : Int32) (mke : Int32) (mnx : Int32) (mdo : Int32) (mtr : Int64) (mma : Int32) (mto : Int32) (mah : Int32) (mrs : Int32) (mab : Int32) (ce : (Nat → Int32)) (mk : (Nat → Int32)) (mo : (Nat → Int32)) (mwa : (Nat → Int32)) (mmc : (Nat → Int32)) (mmf : (Nat → Int32)) (mhy : (Nat → Int32)) (myw : (Nat → Int32)) (myh : (Nat → Int32)) (myr : (Nat → Int32)) (mpi : (Nat → Int32)) (mme : (Nat → Int32)) (mde : (Nat → Int32)) (mwe : (Nat → Int32)) (mla : (Nat → Int32)) (res : Int32 × Int32 × (Nat → Int32) × (Nat → Int32)) (h : fX4_weigh mw mh mma mto ce mwe mla = some res) : MM l yX4_weigh wsX4_weigh ({ frames := 1, cells := 0, slots := 0, locals := 23 }) g [.ref (a 0)] (wM g a mw mh mke mnx mdo mtr mma mto mah mrs mab ce mk mo mwa mmc mmf mhy myw myh myr mpi mme mde mwe mla) (wM g a mw mh mke mnx mdo mtr res.1 res.2.1 mah mrs mab ce mk mo mwa mmc mmf mhy myw myh myr mpi mme mde res.2.2.1 res.2.2.2) none := by
  refine MM.of (cc := cX4_weigh) (own := RX4) 3 none (by decide +kernel) rfl (Nat.le_of_ble_eq_true rfl) rfl ?_
  intro p e s m args below meth c hx hb hr hml hown hts hlocks hK A hA ls hl hP hD hS
  have S : CallFix p m c cX4_weigh 3 s args wsX4_weigh RX4 := ⟨hx, hb, hml, hown, hts⟩
  have hl : lv_has ls 3 [(0, .ref (a 0))] := hl
  have f144 := hts (.fieldLink RX4 144 "LandBoardModel" "many" "I") (by decide +kernel)
  have iX4 := (by decide +kernel : ∀ w ∈ u_ws RX4 TX4 26, w ∈ wsX4_weigh)
  have f147 := hts (.fieldLink RX4 147 "LandBoardModel" "total" "I") (by decide +kernel)
  have f57 := hts (.fieldLink RX4 57 "LandBoardModel" "weight" "[I") (by decide +kernel)
  have f60 := hts (.fieldLink RX4 60 "LandBoardModel" "lands" "[I") (by decide +kernel)
  refine lv_aload_n hx hb dX4_weigh_0 rfl (lv_at hl 0 rfl) ?_
  refine lv_iconst (v := 0) hx hb dX4_weigh_1 (by decide) ?_
  refine va_put (D := g.1) (ci := 4) (v := .int (0 : Int32)) (ty := .int) (C := RX4) (T := TX4) (N := 26) hx hb hts iX4 tyX4 tyX4_ok nmX4 hown hK.1 hP hD hS 0 rfl rfl 19 (by decide) f144 (fun _ h9 => h9) rfl (by decide +kernel) rfl rfl (Nat.le_of_ble_eq_true rfl) dX4_weigh_2 (fun H locs hP hD hS => ?_)
  have hP : va_P g.1 vwCl (wM g a mw mh mke mnx mdo mtr (0 : Int32) mto mah mrs mab ce mk mo mwa mmc mmf mhy myw myh myr mpi mme mde mwe mla) H := hP
  have hD : va_D A (wM g a mw mh mke mnx mdo mtr (0 : Int32) mto mah mrs mab ce mk mo mwa mmc mmf mhy myw myh myr mpi mme mde mwe mla) := hD
  refine lv_aload_n hx hb dX4_weigh_5 rfl (lv_at hl 0 rfl) ?_
  refine lv_iconst (v := 0) hx hb dX4_weigh_6 (by decide) ?_
  refine va_put (D := g.1) (ci := 4) (v := .int (0 : Int32)) (ty := .int) (C := RX4) (T := TX4) (N := 26) hx hb hts iX4 tyX4 tyX4_ok nmX4 hown hK.1 hP hD hS 0 rfl rfl 22 (by decide) f147 (fun _ h9 => h9) rfl (by decide +kernel) rfl rfl (Nat.le_of_ble_eq_true rfl) dX4_weigh_7 (fun H locs hP hD hS => ?_)
  have hP : va_P g.1 vwCl (wM g a mw mh mke mnx mdo mtr (0 : Int32) (0 : Int32) mah mrs mab ce mk mo mwa mmc mmf mhy myw myh myr mpi mme mde mwe mla) H := hP
  have hD : va_D A (wM g a mw mh mke mnx mdo mtr (0 : Int32) (0 : Int32) mah mrs mab ce mk mo mwa mmc mmf mhy myw myh myr mpi mme mde mwe mla) := hD
  refine lv_iconst (v := 0) hx hb dX4_weigh_10 (by decide) ?_
  refine lv_istore_n (lv' := [(1, .int (0 : Int32)), (0, .ref (a 0))]) hx hb dX4_weigh_11 rfl hl (by decide) rfl (fun ls hl => ?_)
  obtain ⟨t12, hw12, h⟩ := gdb h
  have X12 : ∀ (H : Heap) (locs : List Loc) (ls : Array Slot), va_P g.1 vwCl (wM g a mw mh mke mnx mdo mtr t12.1 t12.2.1 mah mrs mab ce mk mo mwa mmc mmf mhy myw myh myr mpi mme mde t12.2.2.1 t12.2.2.2) H → va_D A (wM g a mw mh mke mnx mdo mtr t12.1 t12.2.1 mah mrs mab ce mk mo mwa mmc mmf mhy myw myh myr mpi mme mde t12.2.2.1 t12.2.2.2) → va_S A s.heap H locs → lv_has ls 3 [] → W p l e ({ frames := 1, cells := 0, slots := 0, locals := 23 }) s m args below meth c H locs 0 0 (MQ below (QM g none (wM g a mw mh mke mnx mdo mtr res.1 res.2.1 mah mrs mab ce mk mo mwa mmc mmf mhy myw myh myr mpi mme mde res.2.2.1 res.2.2.2) A) args s 0 0 A) (F0 m 74 ls []) := by
    intro H locs ls hP hD hS hl
    obtain rfl := Option.some.inj h
    exact retMv hx hb hr hlocks hP hD hS dX4_weigh_74
  clear h
  have L12 : ∀ (n : Nat) (s12 : Int32 × Int32 × Int32 × (Nat → Int32) × (Nat → Int32)), wh (fX4_weigh_12 mw mh ce) n s12 = some t12 → ∀ (H : Heap) (locs : List Loc) (ls : Array Slot), va_P g.1 vwCl (wM g a mw mh mke mnx mdo mtr s12.2.1 s12.2.2.1 mah mrs mab ce mk mo mwa mmc mmf mhy myw myh myr mpi mme mde s12.2.2.2.1 s12.2.2.2.2) H → va_D A (wM g a mw mh mke mnx mdo mtr s12.2.1 s12.2.2.1 mah mrs mab ce mk mo mwa mmc mmf mhy myw myh myr mpi mme mde s12.2.2.2.1 s12.2.2.2.2) → va_S A s.heap H locs → lv_has ls 3 [(0, .ref (a 0)), (1, .int s12.1)] → W p l e ({ frames := 1, cells := 0, slots := 0, locals := 23 }) s m args below meth c H locs 0 0 (MQ below (QM g none (wM g a mw mh mke mnx mdo mtr res.1 res.2.1 mah mrs mab ce mk mo mwa mmc mmf mhy myw myh myr mpi mme mde res.2.2.1 res.2.2.2) A) args s 0 0 A) (F0 m 12 ls []) := by
    intro n
    induction n with
    | zero => intro s12 hw; exact (wh_0 hw).elim
    | succ n ih12 =>
      intro s12 hw H locs ls hP hD hS hl
      obtain ⟨r0, h, hr12⟩ := wh_s hw
      refine lv_iload_n hx hb dX4_weigh_12 rfl (lv_at hl 1 rfl) ?_
      refine lv_bipush (v := 6) hx hb dX4_weigh_13 (by decide) ?_
      refine lv_icmp_ge (tgt := 74) hx hb dX4_weigh_15 (by decide) (fun c15 => ?_) (fun c15 => ?_)
      ·
        replace h := gdp h c15
        obtain rfl := Option.some.inj h
        have e0 : (s12.2.1, s12.2.2.1, s12.2.2.2.1, s12.2.2.2.2) = t12 := hr12
        subst e0
        exact X12 _ _ _ hP hD hS (lv_sub hl [] rfl)
      ·
        replace h := gdn h c15
        refine lv_aload_n hx hb dX4_weigh_18 rfl (lv_at hl 0 rfl) ?_
        refine lv_iload_n hx hb dX4_weigh_19 rfl (lv_at hl 1 rfl) ?_
        obtain ⟨r20, hr20, h⟩ := gdb h
        refine kPV (As := [.int s12.1]) (rest := []) (ci := 4) S (ctX4_sizeOf l g a s12.1 mw mh mke mnx mdo mtr s12.2.1 s12.2.2.1 mah mrs mab ce mk mo mwa mmc mmf mhy myw myh myr mpi mme mde s12.2.2.2.1 s12.2.2.2.2 r20 hr20) (cwV 1 hts gX4_weigh_X4_sizeOf rfl rfl rfl (by decide +kernel) ⟨Nat.le_of_ble_eq_true rfl, Nat.le_of_ble_eq_true rfl⟩) hK hP [0, 1, 2, 3, 4, 5, 6, 7, 8, 9, 10, 11, 12, 13, 14, 15] rfl rfl rfl rfl rfl hl.1 rfl (Nat.le_of_ble_eq_true rfl) dX4_weigh_20 ⟨Nat.zero_le _, Nat.zero_le _⟩ ?_
        refine lv_istore_n (lv' := [(2, .int r20), (0, .ref (a 0)), (1, .int s12.1)]) hx hb dX4_weigh_23 rfl hl (by decide) rfl (fun ls hl => ?_)
        refine lv_iload_n hx hb dX4_weigh_24 rfl (lv_at hl 0 rfl) ?_
        refine lv_if_le (tgt := 68) hx hb dX4_weigh_25 (by decide) (fun c25 => ?_) (fun c25 => ?_)
        ·
          replace h := gdp h c25
          refine lv_iinc (v := (s12.1 + 1)) (lv' := [(1, .int (s12.1 + 1)), (2, .int r20), (0, .ref (a 0))]) hx hb dX4_weigh_68 hl (k := 2) rfl rfl (by decide) rfl (fun ls hl => ?_)
          refine lv_goto (tgt := 12) hx hb dX4_weigh_71 (by decide) ?_
          obtain rfl := Option.some.inj h
          exact ih12 ((s12.1 + 1), s12.2.1, s12.2.2.1, s12.2.2.2.1, s12.2.2.2.2) hr12 _ _ _ hP hD hS (lv_sub hl [2, 0] rfl)
        ·
          replace h := gdn h c25
          refine lv_aload_n hx hb dX4_weigh_28 rfl (lv_at hl 1 rfl) ?_
          refine va_get (D := g.1) (ci := 4) (v := .ref (a 14)) (C := RX4) (T := TX4) (N := 26) hx hb hts iX4 hown hK.1 hP 0 rfl rfl 20 (by decide) f57 (fun _ h9 => h9) rfl dX4_weigh_29 ?_
          refine lv_aload_n hx hb dX4_weigh_32 rfl (lv_at hl 1 rfl) ?_
          refine va_get (D := g.1) (ci := 4) (v := .int s12.2.1) (C := RX4) (T := TX4) (N := 26) hx hb hts iX4 hown hK.1 hP 0 rfl rfl 19 (by decide) f144 (fun _ h9 => h9) rfl dX4_weigh_33 ?_
          refine lv_iload_n hx hb dX4_weigh_36 rfl (lv_at hl 0 rfl) ?_
          obtain ⟨hi, h⟩ := gdi h
          refine va_iast (D := g.1) hx hb hK.1 hP hD hS 14 0 rfl rfl hi dX4_weigh_37 (fun H locs hP hD hS => ?_)
          have hP : va_P g.1 vwCl (wM g a mw mh mke mnx mdo mtr s12.2.1 s12.2.2.1 mah mrs mab ce mk mo mwa mmc mmf mhy myw myh myr mpi mme mde (upd s12.2.2.2.1 (s12.2.1).toNatClampNeg r20) s12.2.2.2.2) H := hP
          have hD : va_D A (wM g a mw mh mke mnx mdo mtr s12.2.1 s12.2.2.1 mah mrs mab ce mk mo mwa mmc mmf mhy myw myh myr mpi mme mde (upd s12.2.2.2.1 (s12.2.1).toNatClampNeg r20) s12.2.2.2.2) := hD
          refine lv_aload_n hx hb dX4_weigh_38 rfl (lv_at hl 1 rfl) ?_
          refine va_get (D := g.1) (ci := 4) (v := .ref (a 15)) (C := RX4) (T := TX4) (N := 26) hx hb hts iX4 hown hK.1 hP 0 rfl rfl 21 (by decide) f60 (fun _ h9 => h9) rfl dX4_weigh_39 ?_
          refine lv_aload_n hx hb dX4_weigh_42 rfl (lv_at hl 1 rfl) ?_
          refine va_get (D := g.1) (ci := 4) (v := .int s12.2.1) (C := RX4) (T := TX4) (N := 26) hx hb hts iX4 hown hK.1 hP 0 rfl rfl 19 (by decide) f144 (fun _ h9 => h9) rfl dX4_weigh_43 ?_
          refine lv_iload_n hx hb dX4_weigh_46 rfl (lv_at hl 2 rfl) ?_
          obtain ⟨hi, h⟩ := gdi h
          refine va_iast (D := g.1) hx hb hK.1 hP hD hS 15 0 rfl rfl hi dX4_weigh_47 (fun H locs hP hD hS => ?_)
          have hP : va_P g.1 vwCl (wM g a mw mh mke mnx mdo mtr s12.2.1 s12.2.2.1 mah mrs mab ce mk mo mwa mmc mmf mhy myw myh myr mpi mme mde (upd s12.2.2.2.1 (s12.2.1).toNatClampNeg r20) (upd s12.2.2.2.2 (s12.2.1).toNatClampNeg s12.1)) H := hP
          have hD : va_D A (wM g a mw mh mke mnx mdo mtr s12.2.1 s12.2.2.1 mah mrs mab ce mk mo mwa mmc mmf mhy myw myh myr mpi mme mde (upd s12.2.2.2.1 (s12.2.1).toNatClampNeg r20) (upd s12.2.2.2.2 (s12.2.1).toNatClampNeg s12.1)) := hD
          refine lv_aload_n hx hb dX4_weigh_48 rfl (lv_at hl 1 rfl) ?_
          refine lv_dup hx hb dX4_weigh_49 rfl ?_
          refine va_get (D := g.1) (ci := 4) (v := .int s12.2.1) (C := RX4) (T := TX4) (N := 26) hx hb hts iX4 hown hK.1 hP 0 rfl rfl 19 (by decide) f144 (fun _ h9 => h9) rfl dX4_weigh_50 ?_
          refine lv_iconst (v := 1) hx hb dX4_weigh_53 (by decide) ?_
          refine lv_iadd hx hb dX4_weigh_54 ?_
          refine va_put (D := g.1) (ci := 4) (v := .int (s12.2.1 + (1 : Int32))) (ty := .int) (C := RX4) (T := TX4) (N := 26) hx hb hts iX4 tyX4 tyX4_ok nmX4 hown hK.1 hP hD hS 0 rfl rfl 19 (by decide) f144 (fun _ h9 => h9) rfl (by decide +kernel) rfl rfl (Nat.le_of_ble_eq_true rfl) dX4_weigh_55 (fun H locs hP hD hS => ?_)
          have hP : va_P g.1 vwCl (wM g a mw mh mke mnx mdo mtr (s12.2.1 + (1 : Int32)) s12.2.2.1 mah mrs mab ce mk mo mwa mmc mmf mhy myw myh myr mpi mme mde (upd s12.2.2.2.1 (s12.2.1).toNatClampNeg r20) (upd s12.2.2.2.2 (s12.2.1).toNatClampNeg s12.1)) H := hP
          have hD : va_D A (wM g a mw mh mke mnx mdo mtr (s12.2.1 + (1 : Int32)) s12.2.2.1 mah mrs mab ce mk mo mwa mmc mmf mhy myw myh myr mpi mme mde (upd s12.2.2.2.1 (s12.2.1).toNatClampNeg r20) (upd s12.2.2.2.2 (s12.2.1).toNatClampNeg s12.1)) := hD
          refine lv_aload_n hx hb dX4_weigh_58 rfl (lv_at hl 1 rfl) ?_
          refine lv_dup hx hb dX4_weigh_59 rfl ?_
          refine va_get (D := g.1) (ci := 4) (v := .int s12.2.2.1) (C := RX4) (T := TX4) (N := 26) hx hb hts iX4 hown hK.1 hP 0 rfl rfl 22 (by decide) f147 (fun _ h9 => h9) rfl dX4_weigh_60 ?_
          refine lv_iload_n hx hb dX4_weigh_63 rfl (lv_at hl 0 rfl) ?_
          refine lv_iadd hx hb dX4_weigh_64 ?_
          refine va_put (D := g.1) (ci := 4) (v := .int (s12.2.2.1 + r20)) (ty := .int) (C := RX4) (T := TX4) (N := 26) hx hb hts iX4 tyX4 tyX4_ok nmX4 hown hK.1 hP hD hS 0 rfl rfl 22 (by decide) f147 (fun _ h9 => h9) rfl (by decide +kernel) rfl rfl (Nat.le_of_ble_eq_true rfl) dX4_weigh_65 (fun H locs hP hD hS => ?_)
          have hP : va_P g.1 vwCl (wM g a mw mh mke mnx mdo mtr (s12.2.1 + (1 : Int32)) (s12.2.2.1 + r20) mah mrs mab ce mk mo mwa mmc mmf mhy myw myh myr mpi mme mde (upd s12.2.2.2.1 (s12.2.1).toNatClampNeg r20) (upd s12.2.2.2.2 (s12.2.1).toNatClampNeg s12.1)) H := hP
          have hD : va_D A (wM g a mw mh mke mnx mdo mtr (s12.2.1 + (1 : Int32)) (s12.2.2.1 + r20) mah mrs mab ce mk mo mwa mmc mmf mhy myw myh myr mpi mme mde (upd s12.2.2.2.1 (s12.2.1).toNatClampNeg r20) (upd s12.2.2.2.2 (s12.2.1).toNatClampNeg s12.1)) := hD
          refine lv_iinc (v := (s12.1 + 1)) (lv' := [(1, .int (s12.1 + 1)), (2, .int r20), (0, .ref (a 0))]) hx hb dX4_weigh_68 hl (k := 2) rfl rfl (by decide) rfl (fun ls hl => ?_)
          refine lv_goto (tgt := 12) hx hb dX4_weigh_71 (by decide) ?_
          obtain rfl := Option.some.inj h
          exact ih12 ((s12.1 + 1), (s12.2.1 + (1 : Int32)), (s12.2.2.1 + r20), (upd s12.2.2.2.1 (s12.2.1).toNatClampNeg r20), (upd s12.2.2.2.2 (s12.2.1).toNatClampNeg s12.1)) hr12 _ _ _ hP hD hS (lv_sub hl [2, 0] rfl)
  exact L12 _ ((0 : Int32), (0 : Int32), (0 : Int32), mwe, mla) hw12 _ _ _ hP hD hS (lv_sub hl [1, 0] rfl)
-- LandBoardModel.lay
set_option maxHeartbeats 4000000 in
set_option maxRecDepth 100000 in
theorem ctX4_lay (l : Launch) (g : GG) (a : Nat → Nat) (x1 : Int32) (x2 : Int32) (mw : Int32) (mh : Int32) (mke : Int32) (mnx : Int32) (mdo : Int32) (mtr : Int64) (mma : Int32) (mto : Int32) (mah : Int32) (mrs : Int32) (mab : Int32) (ce : (Nat → Int32)) (mk : (Nat → Int32)) (mo : (Nat → Int32)) (mwa : (Nat → Int32)) (mmc : (Nat → Int32)) (mmf : (Nat → Int32)) (mhy : (Nat → Int32)) (myw : (Nat → Int32)) (myh : (Nat → Int32)) (myr : (Nat → Int32)) (mpi : (Nat → Int32)) (mme : (Nat → Int32)) (mde : (Nat → Int32)) (mwe : (Nat → Int32)) (mla : (Nat → Int32)) (res : Int32 × Int32 × Int32) (h : fX4_lay x1 x2 mma mah mrs mab mwe = some res) : MM l yX4_lay wsX4_lay ({ frames := 0, cells := 0, slots := 0, locals := 0 }) g [.ref (a 0), .int x1, .int x2] (wM g a mw mh mke mnx mdo mtr mma mto mah mrs mab ce mk mo mwa mmc mmf mhy myw myh myr mpi mme mde mwe mla) (wM g a mw mh mke mnx mdo mtr mma mto res.1 res.2.1 res.2.2 ce mk mo mwa mmc mmf mhy myw myh myr mpi mme mde mwe mla) none := by
  refine MM.of (cc := cX4_lay) (own := RX4) 6 none (by decide +kernel) rfl (Nat.le_of_ble_eq_true rfl) rfl ?_
  intro p e s m args below meth c hx hb hr hml hown hts hlocks hK A hA ls hl hP hD hS
  have S : CallFix p m c cX4_lay 6 s args wsX4_lay RX4 := ⟨hx, hb, hml, hown, hts⟩
  have hl : lv_has ls 6 [(0, .ref (a 0)), (1, .int x1), (2, .int x2)] := hl
  have f150 := hts (.fieldLink RX4 150 "LandBoardModel" "ahead" "I") (by decide +kernel)
  have iX4 := (by decide +kernel : ∀ w ∈ u_ws RX4 TX4 26, w ∈ wsX4_lay)
  have f153 := hts (.fieldLink RX4 153 "LandBoardModel" "rowSum" "I") (by decide +kernel)
  have f156 := hts (.fieldLink RX4 156 "LandBoardModel" "above" "I") (by decide +kernel)
  have f144 := hts (.fieldLink RX4 144 "LandBoardModel" "many" "I") (by decide +kernel)
  have f57 := hts (.fieldLink RX4 57 "LandBoardModel" "weight" "[I") (by decide +kernel)
  refine lv_iload_n hx hb dX4_lay_0 rfl (lv_at hl 2 rfl) ?_
  refine lv_istore_n (lv' := [(3, .int x2), (0, .ref (a 0)), (1, .int x1), (2, .int x2)]) hx hb dX4_lay_1 rfl hl (by decide) rfl (fun ls hl => ?_)
  obtain ⟨t2, hw2, h⟩ := gdb h
  have X2 : ∀ (H : Heap) (locs : List Loc) (ls : Array Slot), va_P g.1 vwCl (wM g a mw mh mke mnx mdo mtr mma mto mah mrs mab ce mk mo mwa mmc mmf mhy myw myh myr mpi mme mde mwe mla) H → va_D A (wM g a mw mh mke mnx mdo mtr mma mto mah mrs mab ce mk mo mwa mmc mmf mhy myw myh myr mpi mme mde mwe mla) → va_S A s.heap H locs → lv_has ls 6 [(0, .ref (a 0)), (1, .int x1), (2, .int x2), (3, .int t2)] → W p l e ({ frames := 0, cells := 0, slots := 0, locals := 0 }) s m args below meth c H locs 0 0 (MQ below (QM g none (wM g a mw mh mke mnx mdo mtr mma mto res.1 res.2.1 res.2.2 ce mk mo mwa mmc mmf mhy myw myh myr mpi mme mde mwe mla) A) args s 0 0 A) (F0 m 22 ls []) := by
    intro H locs ls hP hD hS hl
    refine lv_aload_n hx hb dX4_lay_22 rfl (lv_at hl 0 rfl) ?_
    refine lv_iconst (v := 0) hx hb dX4_lay_23 (by decide) ?_
    refine va_put (D := g.1) (ci := 4) (v := .int (0 : Int32)) (ty := .int) (C := RX4) (T := TX4) (N := 26) hx hb hts iX4 tyX4 tyX4_ok nmX4 hown hK.1 hP hD hS 0 rfl rfl 23 (by decide) f150 (fun _ h9 => h9) rfl (by decide +kernel) rfl rfl (Nat.le_of_ble_eq_true rfl) dX4_lay_24 (fun H locs hP hD hS => ?_)
    have hP : va_P g.1 vwCl (wM g a mw mh mke mnx mdo mtr mma mto (0 : Int32) mrs mab ce mk mo mwa mmc mmf mhy myw myh myr mpi mme mde mwe mla) H := hP
    have hD : va_D A (wM g a mw mh mke mnx mdo mtr mma mto (0 : Int32) mrs mab ce mk mo mwa mmc mmf mhy myw myh myr mpi mme mde mwe mla) := hD
    refine lv_aload_n hx hb dX4_lay_27 rfl (lv_at hl 0 rfl) ?_
    refine lv_iconst (v := 0) hx hb dX4_lay_28 (by decide) ?_
    refine va_put (D := g.1) (ci := 4) (v := .int (0 : Int32)) (ty := .int) (C := RX4) (T := TX4) (N := 26) hx hb hts iX4 tyX4 tyX4_ok nmX4 hown hK.1 hP hD hS 0 rfl rfl 24 (by decide) f153 (fun _ h9 => h9) rfl (by decide +kernel) rfl rfl (Nat.le_of_ble_eq_true rfl) dX4_lay_29 (fun H locs hP hD hS => ?_)
    have hP : va_P g.1 vwCl (wM g a mw mh mke mnx mdo mtr mma mto (0 : Int32) (0 : Int32) mab ce mk mo mwa mmc mmf mhy myw myh myr mpi mme mde mwe mla) H := hP
    have hD : va_D A (wM g a mw mh mke mnx mdo mtr mma mto (0 : Int32) (0 : Int32) mab ce mk mo mwa mmc mmf mhy myw myh myr mpi mme mde mwe mla) := hD
    refine lv_aload_n hx hb dX4_lay_32 rfl (lv_at hl 0 rfl) ?_
    refine lv_iconst (v := 0) hx hb dX4_lay_33 (by decide) ?_
    refine va_put (D := g.1) (ci := 4) (v := .int (0 : Int32)) (ty := .int) (C := RX4) (T := TX4) (N := 26) hx hb hts iX4 tyX4 tyX4_ok nmX4 hown hK.1 hP hD hS 0 rfl rfl 25 (by decide) f156 (fun _ h9 => h9) rfl (by decide +kernel) rfl rfl (Nat.le_of_ble_eq_true rfl) dX4_lay_34 (fun H locs hP hD hS => ?_)
    have hP : va_P g.1 vwCl (wM g a mw mh mke mnx mdo mtr mma mto (0 : Int32) (0 : Int32) (0 : Int32) ce mk mo mwa mmc mmf mhy myw myh myr mpi mme mde mwe mla) H := hP
    have hD : va_D A (wM g a mw mh mke mnx mdo mtr mma mto (0 : Int32) (0 : Int32) (0 : Int32) ce mk mo mwa mmc mmf mhy myw myh myr mpi mme mde mwe mla) := hD
    refine lv_iconst (v := 0) hx hb dX4_lay_37 (by decide) ?_
    refine lv_istore (lv' := [(4, .int (0 : Int32)), (0, .ref (a 0)), (1, .int x1), (2, .int x2), (3, .int t2)]) hx hb dX4_lay_38 hl (by decide) rfl (fun ls hl => ?_)
    obtain ⟨t40, hw40, h⟩ := gdb h
    have X40 : ∀ (H : Heap) (locs : List Loc) (ls : Array Slot), va_P g.1 vwCl (wM g a mw mh mke mnx mdo mtr mma mto (0 : Int32) (0 : Int32) t40 ce mk mo mwa mmc mmf mhy myw myh myr mpi mme mde mwe mla) H → va_D A (wM g a mw mh mke mnx mdo mtr mma mto (0 : Int32) (0 : Int32) t40 ce mk mo mwa mmc mmf mhy myw myh myr mpi mme mde mwe mla) → va_S A s.heap H locs → lv_has ls 6 [(0, .ref (a 0)), (1, .int x1), (2, .int x2), (3, .int t2)] → W p l e ({ frames := 0, cells := 0, slots := 0, locals := 0 }) s m args below meth c H locs 0 0 (MQ below (QM g none (wM g a mw mh mke mnx mdo mtr mma mto res.1 res.2.1 res.2.2 ce mk mo mwa mmc mmf mhy myw myh myr mpi mme mde mwe mla) A) args s 0 0 A) (F0 m 68 ls []) := by
      intro H locs ls hP hD hS hl
      refine lv_iconst (v := 1) hx hb dX4_lay_68 (by decide) ?_
      refine lv_istore (lv' := [(4, .int (1 : Int32)), (0, .ref (a 0)), (1, .int x1), (2, .int x2), (3, .int t2)]) hx hb dX4_lay_69 hl (by decide) rfl (fun ls hl => ?_)
      refine lv_iload_n hx hb dX4_lay_71 rfl (lv_at hl 4 rfl) ?_
      refine lv_istore (lv' := [(5, .int t2), (4, .int (1 : Int32)), (0, .ref (a 0)), (1, .int x1), (2, .int x2), (3, .int t2)]) hx hb dX4_lay_72 hl (by decide) rfl (fun ls hl => ?_)
      obtain ⟨t74, hw74, h⟩ := gdb h
      have X74 : ∀ (H : Heap) (locs : List Loc) (ls : Array Slot), va_P g.1 vwCl (wM g a mw mh mke mnx mdo mtr mma mto t74.1 t74.2 t40 ce mk mo mwa mmc mmf mhy myw myh myr mpi mme mde mwe mla) H → va_D A (wM g a mw mh mke mnx mdo mtr mma mto t74.1 t74.2 t40 ce mk mo mwa mmc mmf mhy myw myh myr mpi mme mde mwe mla) → va_S A s.heap H locs → lv_has ls 6 [] → W p l e ({ frames := 0, cells := 0, slots := 0, locals := 0 }) s m args below meth c H locs 0 0 (MQ below (QM g none (wM g a mw mh mke mnx mdo mtr mma mto res.1 res.2.1 res.2.2 ce mk mo mwa mmc mmf mhy myw myh myr mpi mme mde mwe mla) A) args s 0 0 A) (F0 m 152 ls []) := by
        intro H locs ls hP hD hS hl
        obtain rfl := Option.some.inj h
        exact retMv hx hb hr hlocks hP hD hS dX4_lay_152
      clear h
      have L74 : ∀ (n : Nat) (s74 : Int32 × Int32 × Int32 × Int32), wh (fX4_lay_74 x1 x2 mma mwe) n s74 = some t74 → ∀ (H : Heap) (locs : List Loc) (ls : Array Slot), va_P g.1 vwCl (wM g a mw mh mke mnx mdo mtr mma mto s74.2.2.1 s74.2.2.2 t40 ce mk mo mwa mmc mmf mhy myw myh myr mpi mme mde mwe mla) H → va_D A (wM g a mw mh mke mnx mdo mtr mma mto s74.2.2.1 s74.2.2.2 t40 ce mk mo mwa mmc mmf mhy myw myh myr mpi mme mde mwe mla) → va_S A s.heap H locs → lv_has ls 6 [(0, .ref (a 0)), (1, .int x1), (2, .int x2), (4, .int s74.1), (5, .int s74.2.1)] → W p l e ({ frames := 0, cells := 0, slots := 0, locals := 0 }) s m args below meth c H locs 0 0 (MQ below (QM g none (wM g a mw mh mke mnx mdo mtr mma mto res.1 res.2.1 res.2.2 ce mk mo mwa mmc mmf mhy myw myh myr mpi mme mde mwe mla) A) args s 0 0 A) (F0 m 74 ls []) := by
        intro n
        induction n with
        | zero => intro s74 hw; exact (wh_0 hw).elim
        | succ n ih74 =>
          intro s74 hw H locs ls hP hD hS hl
          obtain ⟨r0, h, hr74⟩ := wh_s hw
          refine lv_iload hx hb dX4_lay_74 (lv_at hl 4 rfl) ?_
          refine lv_aload_n hx hb dX4_lay_76 rfl (lv_at hl 0 rfl) ?_
          refine va_get (D := g.1) (ci := 4) (v := .int mma) (C := RX4) (T := TX4) (N := 26) hx hb hts iX4 hown hK.1 hP 0 rfl rfl 19 (by decide) f144 (fun _ h9 => h9) rfl dX4_lay_77 ?_
          refine lv_icmp_ge (tgt := 152) hx hb dX4_lay_80 (by decide) (fun c80 => ?_) (fun c80 => ?_)
          ·
            replace h := gdp h c80
            obtain rfl := Option.some.inj h
            have e0 : (s74.2.2.1, s74.2.2.2) = t74 := hr74
            subst e0
            exact X74 _ _ _ hP hD hS (lv_sub hl [] rfl)
          ·
            replace h := gdn h c80
            refine lv_iload hx hb dX4_lay_83 (lv_at hl 3 rfl) ?_
            refine lv_if_eq (tgt := 152) hx hb dX4_lay_85 (by decide) (fun c85 => ?_) (fun c85 => ?_)
            ·
              replace h := gdp h c85
              obtain rfl := Option.some.inj h
              have e0 : (s74.2.2.1, s74.2.2.2) = t74 := hr74
              subst e0
              exact X74 _ _ _ hP hD hS (lv_sub hl [] rfl)
            ·
              replace h := gdn h c85
              refine lv_aload_n hx hb dX4_lay_88 rfl (lv_at hl 0 rfl) ?_
              refine lv_dup hx hb dX4_lay_89 rfl ?_
              refine va_get (D := g.1) (ci := 4) (v := .int s74.2.2.2) (C := RX4) (T := TX4) (N := 26) hx hb hts iX4 hown hK.1 hP 0 rfl rfl 24 (by decide) f153 (fun _ h9 => h9) rfl dX4_lay_90 ?_
              refine lv_aload_n hx hb dX4_lay_93 rfl (lv_at hl 0 rfl) ?_
              refine va_get (D := g.1) (ci := 4) (v := .ref (a 14)) (C := RX4) (T := TX4) (N := 26) hx hb hts iX4 hown hK.1 hP 0 rfl rfl 20 (by decide) f57 (fun _ h9 => h9) rfl dX4_lay_94 ?_
              refine lv_iload hx hb dX4_lay_97 (lv_at hl 4 rfl) ?_
              obtain ⟨hi, h⟩ := gdi h
              refine va_iald (D := g.1) hx hb hK.1 hP 14 0 rfl rfl hi dX4_lay_99 ?_
              refine lv_iadd hx hb dX4_lay_100 ?_
              refine va_put (D := g.1) (ci := 4) (v := .int (s74.2.2.2 + (mwe (s74.2.1).toNatClampNeg))) (ty := .int) (C := RX4) (T := TX4) (N := 26) hx hb hts iX4 tyX4 tyX4_ok nmX4 hown hK.1 hP hD hS 0 rfl rfl 24 (by decide) f153 (fun _ h9 => h9) rfl (by decide +kernel) rfl rfl (Nat.le_of_ble_eq_true rfl) dX4_lay_101 (fun H locs hP hD hS => ?_)
              have hP : va_P g.1 vwCl (wM g a mw mh mke mnx mdo mtr mma mto s74.2.2.1 (s74.2.2.2 + (mwe (s74.2.1).toNatClampNeg)) t40 ce mk mo mwa mmc mmf mhy myw myh myr mpi mme mde mwe mla) H := hP
              have hD : va_D A (wM g a mw mh mke mnx mdo mtr mma mto s74.2.2.1 (s74.2.2.2 + (mwe (s74.2.1).toNatClampNeg)) t40 ce mk mo mwa mmc mmf mhy myw myh myr mpi mme mde mwe mla) := hD
              refine lv_aload_n hx hb dX4_lay_104 rfl (lv_at hl 0 rfl) ?_
              refine lv_dup hx hb dX4_lay_105 rfl ?_
              refine va_get (D := g.1) (ci := 4) (v := .int s74.2.2.1) (C := RX4) (T := TX4) (N := 26) hx hb hts iX4 hown hK.1 hP 0 rfl rfl 23 (by decide) f150 (fun _ h9 => h9) rfl dX4_lay_106 ?_
              refine lv_iload hx hb dX4_lay_109 (lv_at hl 4 rfl) ?_
              refine lv_iload_n hx hb dX4_lay_111 rfl (lv_at hl 2 rfl) ?_
              refine lv_icmp_ge (tgt := 125) hx hb dX4_lay_112 (by decide) (fun c112 => ?_) (fun c112 => ?_)
              ·
                replace h := gdp h c112
                refine lv_iconst (v := 0) hx hb dX4_lay_125 (by decide) ?_
                refine lv_iadd hx hb dX4_lay_126 ?_
                refine va_put (D := g.1) (ci := 4) (v := .int (s74.2.2.1 + (0 : Int32))) (ty := .int) (C := RX4) (T := TX4) (N := 26) hx hb hts iX4 tyX4 tyX4_ok nmX4 hown hK.1 hP hD hS 0 rfl rfl 23 (by decide) f150 (fun _ h9 => h9) rfl (by decide +kernel) rfl rfl (Nat.le_of_ble_eq_true rfl) dX4_lay_127 (fun H locs hP hD hS => ?_)
                have hP : va_P g.1 vwCl (wM g a mw mh mke mnx mdo mtr mma mto (s74.2.2.1 + (0 : Int32)) (s74.2.2.2 + (mwe (s74.2.1).toNatClampNeg)) t40 ce mk mo mwa mmc mmf mhy myw myh myr mpi mme mde mwe mla) H := hP
                have hD : va_D A (wM g a mw mh mke mnx mdo mtr mma mto (s74.2.2.1 + (0 : Int32)) (s74.2.2.2 + (mwe (s74.2.1).toNatClampNeg)) t40 ce mk mo mwa mmc mmf mhy myw myh myr mpi mme mde mwe mla) := hD
                refine lv_iload_n hx hb dX4_lay_130 rfl (lv_at hl 1 rfl) ?_
                refine lv_iload hx hb dX4_lay_131 (lv_at hl 4 rfl) ?_
                refine lv_ishr hx hb dX4_lay_133 ?_
                refine lv_iconst (v := 1) hx hb dX4_lay_134 (by decide) ?_
                refine lv_iand hx hb dX4_lay_135 ?_
                refine lv_if_ne (tgt := 143) hx hb dX4_lay_136 (by decide) (fun c136 => ?_) (fun c136 => ?_)
                ·
                  replace h := gdn h c136
                  refine lv_iconst (v := 0) hx hb dX4_lay_143 (by decide) ?_
                  refine lv_istore (lv' := [(4, .int (0 : Int32)), (0, .ref (a 0)), (1, .int x1), (2, .int x2), (5, .int s74.2.1)]) hx hb dX4_lay_144 hl (by decide) rfl (fun ls hl => ?_)
                  refine lv_iinc (v := (s74.2.1 + 1)) (lv' := [(5, .int (s74.2.1 + 1)), (4, .int (0 : Int32)), (0, .ref (a 0)), (1, .int x1), (2, .int x2)]) hx hb dX4_lay_146 hl (k := 4) rfl rfl (by decide) rfl (fun ls hl => ?_)
                  refine lv_goto (tgt := 74) hx hb dX4_lay_149 (by decide) ?_
                  obtain rfl := Option.some.inj h
                  exact ih74 ((0 : Int32), (s74.2.1 + 1), (s74.2.2.1 + (0 : Int32)), (s74.2.2.2 + (mwe (s74.2.1).toNatClampNeg))) hr74 _ _ _ hP hD hS (lv_sub hl [2, 3, 4, 1, 0] rfl)
                ·
                  replace h := gdp h c136
                  refine lv_iconst (v := 1) hx hb dX4_lay_139 (by decide) ?_
                  refine lv_goto (tgt := 144) hx hb dX4_lay_140 (by decide) ?_
                  refine lv_istore (lv' := [(4, .int (1 : Int32)), (0, .ref (a 0)), (1, .int x1), (2, .int x2), (5, .int s74.2.1)]) hx hb dX4_lay_144 hl (by decide) rfl (fun ls hl => ?_)
                  refine lv_iinc (v := (s74.2.1 + 1)) (lv' := [(5, .int (s74.2.1 + 1)), (4, .int (1 : Int32)), (0, .ref (a 0)), (1, .int x1), (2, .int x2)]) hx hb dX4_lay_146 hl (k := 4) rfl rfl (by decide) rfl (fun ls hl => ?_)
                  refine lv_goto (tgt := 74) hx hb dX4_lay_149 (by decide) ?_
                  obtain rfl := Option.some.inj h
                  exact ih74 ((1 : Int32), (s74.2.1 + 1), (s74.2.2.1 + (0 : Int32)), (s74.2.2.2 + (mwe (s74.2.1).toNatClampNeg))) hr74 _ _ _ hP hD hS (lv_sub hl [2, 3, 4, 1, 0] rfl)
              ·
                replace h := gdn h c112
                refine lv_aload_n hx hb dX4_lay_115 rfl (lv_at hl 0 rfl) ?_
                refine va_get (D := g.1) (ci := 4) (v := .ref (a 14)) (C := RX4) (T := TX4) (N := 26) hx hb hts iX4 hown hK.1 hP 0 rfl rfl 20 (by decide) f57 (fun _ h9 => h9) rfl dX4_lay_116 ?_
                refine lv_iload hx hb dX4_lay_119 (lv_at hl 4 rfl) ?_
                obtain ⟨hi, h⟩ := gdi h
                refine va_iald (D := g.1) hx hb hK.1 hP 14 0 rfl rfl hi dX4_lay_121 ?_
                refine lv_goto (tgt := 126) hx hb dX4_lay_122 (by decide) ?_
                refine lv_iadd hx hb dX4_lay_126 ?_
                refine va_put (D := g.1) (ci := 4) (v := .int (s74.2.2.1 + (mwe (s74.2.1).toNatClampNeg))) (ty := .int) (C := RX4) (T := TX4) (N := 26) hx hb hts iX4 tyX4 tyX4_ok nmX4 hown hK.1 hP hD hS 0 rfl rfl 23 (by decide) f150 (fun _ h9 => h9) rfl (by decide +kernel) rfl rfl (Nat.le_of_ble_eq_true rfl) dX4_lay_127 (fun H locs hP hD hS => ?_)
                have hP : va_P g.1 vwCl (wM g a mw mh mke mnx mdo mtr mma mto (s74.2.2.1 + (mwe (s74.2.1).toNatClampNeg)) (s74.2.2.2 + (mwe (s74.2.1).toNatClampNeg)) t40 ce mk mo mwa mmc mmf mhy myw myh myr mpi mme mde mwe mla) H := hP
                have hD : va_D A (wM g a mw mh mke mnx mdo mtr mma mto (s74.2.2.1 + (mwe (s74.2.1).toNatClampNeg)) (s74.2.2.2 + (mwe (s74.2.1).toNatClampNeg)) t40 ce mk mo mwa mmc mmf mhy myw myh myr mpi mme mde mwe mla) := hD
                refine lv_iload_n hx hb dX4_lay_130 rfl (lv_at hl 1 rfl) ?_
                refine lv_iload hx hb dX4_lay_131 (lv_at hl 4 rfl) ?_
                refine lv_ishr hx hb dX4_lay_133 ?_
                refine lv_iconst (v := 1) hx hb dX4_lay_134 (by decide) ?_
                refine lv_iand hx hb dX4_lay_135 ?_
                refine lv_if_ne (tgt := 143) hx hb dX4_lay_136 (by decide) (fun c136 => ?_) (fun c136 => ?_)
                ·
                  replace h := gdn h c136
                  refine lv_iconst (v := 0) hx hb dX4_lay_143 (by decide) ?_
                  refine lv_istore (lv' := [(4, .int (0 : Int32)), (0, .ref (a 0)), (1, .int x1), (2, .int x2), (5, .int s74.2.1)]) hx hb dX4_lay_144 hl (by decide) rfl (fun ls hl => ?_)
                  refine lv_iinc (v := (s74.2.1 + 1)) (lv' := [(5, .int (s74.2.1 + 1)), (4, .int (0 : Int32)), (0, .ref (a 0)), (1, .int x1), (2, .int x2)]) hx hb dX4_lay_146 hl (k := 4) rfl rfl (by decide) rfl (fun ls hl => ?_)
                  refine lv_goto (tgt := 74) hx hb dX4_lay_149 (by decide) ?_
                  obtain rfl := Option.some.inj h
                  exact ih74 ((0 : Int32), (s74.2.1 + 1), (s74.2.2.1 + (mwe (s74.2.1).toNatClampNeg)), (s74.2.2.2 + (mwe (s74.2.1).toNatClampNeg))) hr74 _ _ _ hP hD hS (lv_sub hl [2, 3, 4, 1, 0] rfl)
                ·
                  replace h := gdp h c136
                  refine lv_iconst (v := 1) hx hb dX4_lay_139 (by decide) ?_
                  refine lv_goto (tgt := 144) hx hb dX4_lay_140 (by decide) ?_
                  refine lv_istore (lv' := [(4, .int (1 : Int32)), (0, .ref (a 0)), (1, .int x1), (2, .int x2), (5, .int s74.2.1)]) hx hb dX4_lay_144 hl (by decide) rfl (fun ls hl => ?_)
                  refine lv_iinc (v := (s74.2.1 + 1)) (lv' := [(5, .int (s74.2.1 + 1)), (4, .int (1 : Int32)), (0, .ref (a 0)), (1, .int x1), (2, .int x2)]) hx hb dX4_lay_146 hl (k := 4) rfl rfl (by decide) rfl (fun ls hl => ?_)
                  refine lv_goto (tgt := 74) hx hb dX4_lay_149 (by decide) ?_
                  obtain rfl := Option.some.inj h
                  exact ih74 ((1 : Int32), (s74.2.1 + 1), (s74.2.2.1 + (mwe (s74.2.1).toNatClampNeg)), (s74.2.2.2 + (mwe (s74.2.1).toNatClampNeg))) hr74 _ _ _ hP hD hS (lv_sub hl [2, 3, 4, 1, 0] rfl)
      exact L74 _ ((1 : Int32), t2, (0 : Int32), (0 : Int32)) hw74 _ _ _ hP hD hS (lv_sub hl [2, 3, 4, 1, 0] rfl)
    clear h
    have L40 : ∀ (n : Nat) (s40 : Int32 × Int32), wh (fX4_lay_40 mwe t2) n s40 = some t40 → ∀ (H : Heap) (locs : List Loc) (ls : Array Slot), va_P g.1 vwCl (wM g a mw mh mke mnx mdo mtr mma mto (0 : Int32) (0 : Int32) s40.2 ce mk mo mwa mmc mmf mhy myw myh myr mpi mme mde mwe mla) H → va_D A (wM g a mw mh mke mnx mdo mtr mma mto (0 : Int32) (0 : Int32) s40.2 ce mk mo mwa mmc mmf mhy myw myh myr mpi mme mde mwe mla) → va_S A s.heap H locs → lv_has ls 6 [(0, .ref (a 0)), (1, .int x1), (2, .int x2), (3, .int t2), (4, .int s40.1)] → W p l e ({ frames := 0, cells := 0, slots := 0, locals := 0 }) s m args below meth c H locs 0 0 (MQ below (QM g none (wM g a mw mh mke mnx mdo mtr mma mto res.1 res.2.1 res.2.2 ce mk mo mwa mmc mmf mhy myw myh myr mpi mme mde mwe mla) A) args s 0 0 A) (F0 m 40 ls []) := by
      intro n
      induction n with
      | zero => intro s40 hw; exact (wh_0 hw).elim
      | succ n ih40 =>
        intro s40 hw H locs ls hP hD hS hl
        obtain ⟨r0, h, hr40⟩ := wh_s hw
        refine lv_iload hx hb dX4_lay_40 (lv_at hl 4 rfl) ?_
        refine lv_iload_n hx hb dX4_lay_42 rfl (lv_at hl 3 rfl) ?_
        refine lv_icmp_ge (tgt := 68) hx hb dX4_lay_43 (by decide) (fun c43 => ?_) (fun c43 => ?_)
        ·
          replace h := gdp h c43
          obtain rfl := Option.some.inj h
          have e0 : s40.2 = t40 := hr40
          subst e0
          exact X40 _ _ _ hP hD hS (lv_sub hl [0, 1, 2, 3] rfl)
        ·
          replace h := gdn h c43
          refine lv_aload_n hx hb dX4_lay_46 rfl (lv_at hl 0 rfl) ?_
          refine lv_dup hx hb dX4_lay_47 rfl ?_
          refine va_get (D := g.1) (ci := 4) (v := .int s40.2) (C := RX4) (T := TX4) (N := 26) hx hb hts iX4 hown hK.1 hP 0 rfl rfl 25 (by decide) f156 (fun _ h9 => h9) rfl dX4_lay_48 ?_
          refine lv_aload_n hx hb dX4_lay_51 rfl (lv_at hl 0 rfl) ?_
          refine va_get (D := g.1) (ci := 4) (v := .ref (a 14)) (C := RX4) (T := TX4) (N := 26) hx hb hts iX4 hown hK.1 hP 0 rfl rfl 20 (by decide) f57 (fun _ h9 => h9) rfl dX4_lay_52 ?_
          refine lv_iload hx hb dX4_lay_55 (lv_at hl 4 rfl) ?_
          obtain ⟨hi, h⟩ := gdi h
          refine va_iald (D := g.1) hx hb hK.1 hP 14 0 rfl rfl hi dX4_lay_57 ?_
          refine lv_iadd hx hb dX4_lay_58 ?_
          refine va_put (D := g.1) (ci := 4) (v := .int (s40.2 + (mwe (s40.1).toNatClampNeg))) (ty := .int) (C := RX4) (T := TX4) (N := 26) hx hb hts iX4 tyX4 tyX4_ok nmX4 hown hK.1 hP hD hS 0 rfl rfl 25 (by decide) f156 (fun _ h9 => h9) rfl (by decide +kernel) rfl rfl (Nat.le_of_ble_eq_true rfl) dX4_lay_59 (fun H locs hP hD hS => ?_)
          have hP : va_P g.1 vwCl (wM g a mw mh mke mnx mdo mtr mma mto (0 : Int32) (0 : Int32) (s40.2 + (mwe (s40.1).toNatClampNeg)) ce mk mo mwa mmc mmf mhy myw myh myr mpi mme mde mwe mla) H := hP
          have hD : va_D A (wM g a mw mh mke mnx mdo mtr mma mto (0 : Int32) (0 : Int32) (s40.2 + (mwe (s40.1).toNatClampNeg)) ce mk mo mwa mmc mmf mhy myw myh myr mpi mme mde mwe mla) := hD
          refine lv_iinc (v := (s40.1 + 1)) (lv' := [(4, .int (s40.1 + 1)), (0, .ref (a 0)), (1, .int x1), (2, .int x2), (3, .int t2)]) hx hb dX4_lay_62 hl (k := 4) rfl rfl (by decide) rfl (fun ls hl => ?_)
          refine lv_goto (tgt := 40) hx hb dX4_lay_65 (by decide) ?_
          obtain rfl := Option.some.inj h
          exact ih40 ((s40.1 + 1), (s40.2 + (mwe (s40.1).toNatClampNeg))) hr40 _ _ _ hP hD hS (lv_sub hl [1, 2, 3, 4, 0] rfl)
    exact L40 _ ((0 : Int32), (0 : Int32)) hw40 _ _ _ hP hD hS (lv_sub hl [1, 2, 3, 4, 0] rfl)
  clear h
  have L2 : ∀ (n : Nat) (s2 : Int32), wh (fX4_lay_2 x1) n s2 = some t2 → ∀ (H : Heap) (locs : List Loc) (ls : Array Slot), va_P g.1 vwCl (wM g a mw mh mke mnx mdo mtr mma mto mah mrs mab ce mk mo mwa mmc mmf mhy myw myh myr mpi mme mde mwe mla) H → va_D A (wM g a mw mh mke mnx mdo mtr mma mto mah mrs mab ce mk mo mwa mmc mmf mhy myw myh myr mpi mme mde mwe mla) → va_S A s.heap H locs → lv_has ls 6 [(0, .ref (a 0)), (1, .int x1), (2, .int x2), (3, .int s2)] → W p l e ({ frames := 0, cells := 0, slots := 0, locals := 0 }) s m args below meth c H locs 0 0 (MQ below (QM g none (wM g a mw mh mke mnx mdo mtr mma mto res.1 res.2.1 res.2.2 ce mk mo mwa mmc mmf mhy myw myh myr mpi mme mde mwe mla) A) args s 0 0 A) (F0 m 2 ls []) := by
    intro n
    induction n with
    | zero => intro s2 hw; exact (wh_0 hw).elim
    | succ n ih2 =>
      intro s2 hw H locs ls hP hD hS hl
      obtain ⟨r0, h, hr2⟩ := wh_s hw
      refine lv_iload_n hx hb dX4_lay_2 rfl (lv_at hl 3 rfl) ?_
      refine lv_if_le (tgt := 22) hx hb dX4_lay_3 (by decide) (fun c3 => ?_) (fun c3 => ?_)
      ·
        replace h := gdp h c3
        obtain rfl := Option.some.inj h
        have e0 : s2 = t2 := hr2
        subst e0
        exact X2 _ _ _ hP hD hS (lv_sub hl [0, 1, 2, 3] rfl)
      ·
        replace h := gdn h c3
        refine lv_iload_n hx hb dX4_lay_6 rfl (lv_at hl 1 rfl) ?_
        refine lv_iload_n hx hb dX4_lay_7 rfl (lv_at hl 3 rfl) ?_
        refine lv_iconst (v := 1) hx hb dX4_lay_8 (by decide) ?_
        refine lv_isub hx hb dX4_lay_9 ?_
        refine lv_ishr hx hb dX4_lay_10 ?_
        refine lv_iconst (v := 1) hx hb dX4_lay_11 (by decide) ?_
        refine lv_iand hx hb dX4_lay_12 ?_
        refine lv_if_ne (tgt := 22) hx hb dX4_lay_13 (by decide) (fun c13 => ?_) (fun c13 => ?_)
        ·
          replace h := gdn h c13
          obtain rfl := Option.some.inj h
          have e0 : s2 = t2 := hr2
          subst e0
          exact X2 _ _ _ hP hD hS (lv_sub hl [0, 1, 2, 3] rfl)
        ·
          replace h := gdp h c13
          refine lv_iinc (v := (s2 + (-1))) (lv' := [(3, .int (s2 + (-1))), (0, .ref (a 0)), (1, .int x1), (2, .int x2)]) hx hb dX4_lay_16 hl (k := 3) rfl rfl (by decide) rfl (fun ls hl => ?_)
          refine lv_goto (tgt := 2) hx hb dX4_lay_19 (by decide) ?_
          obtain rfl := Option.some.inj h
          exact ih2 (s2 + (-1)) hr2 _ _ _ hP hD hS (lv_sub hl [1, 2, 3, 0] rfl)
  exact L2 _ x2 hw2 _ _ _ hP hD hS (lv_sub hl [1, 2, 3, 0] rfl)
-- LandBoardModel.boxOf
set_option maxHeartbeats 4000000 in
set_option maxRecDepth 100000 in
theorem ctX4_boxOf (l : Launch) (g : GG) (a : Nat → Nat) (x1 : Int32) (x2 : Int32) (mw : Int32) (mh : Int32) (mke : Int32) (mnx : Int32) (mdo : Int32) (mtr : Int64) (mma : Int32) (mto : Int32) (mah : Int32) (mrs : Int32) (mab : Int32) (ce : (Nat → Int32)) (mk : (Nat → Int32)) (mo : (Nat → Int32)) (mwa : (Nat → Int32)) (mmc : (Nat → Int32)) (mmf : (Nat → Int32)) (mhy : (Nat → Int32)) (myw : (Nat → Int32)) (myh : (Nat → Int32)) (myr : (Nat → Int32)) (mpi : (Nat → Int32)) (mme : (Nat → Int32)) (mde : (Nat → Int32)) (mwe : (Nat → Int32)) (mla : (Nat → Int32)) (res : Int32 × Int32 × Int32 × Int32 × Int32 × Int32 × (Nat → Int32) × (Nat → Int32)) (h : fX4_boxOf x1 x2 mw mh mma mto mah mrs mab ce mwe mla = some res) : MM l yX4_boxOf wsX4_boxOf ({ frames := 2, cells := 0, slots := 0, locals := 45 }) g [.ref (a 0), .int x1, .int x2] (wM g a mw mh mke mnx mdo mtr mma mto mah mrs mab ce mk mo mwa mmc mmf mhy myw myh myr mpi mme mde mwe mla) (wM g a mw mh mke mnx mdo mtr res.2.1 res.2.2.1 res.2.2.2.1 res.2.2.2.2.1 res.2.2.2.2.2.1 ce mk mo mwa mmc mmf mhy myw myh myr mpi mme mde res.2.2.2.2.2.2.1 res.2.2.2.2.2.2.2) (some (.int res.1)) := by
  refine MM.of (cc := cX4_boxOf) (own := RX4) 4 (some .int) (by decide +kernel) rfl (Nat.le_of_ble_eq_true rfl) rfl ?_
  intro p e s m args below meth c hx hb hr hml hown hts hlocks hK A hA ls hl hP hD hS
  have S : CallFix p m c cX4_boxOf 4 s args wsX4_boxOf RX4 := ⟨hx, hb, hml, hown, hts⟩
  have hl : lv_has ls 4 [(0, .ref (a 0)), (1, .int x1), (2, .int x2)] := hl
  have f144 := hts (.fieldLink RX4 144 "LandBoardModel" "many" "I") (by decide +kernel)
  have iX4 := (by decide +kernel : ∀ w ∈ u_ws RX4 TX4 26, w ∈ wsX4_boxOf)
  have f60 := hts (.fieldLink RX4 60 "LandBoardModel" "lands" "[I") (by decide +kernel)
  refine lv_iload_n hx hb dX4_boxOf_0 rfl (lv_at hl 2 rfl) ?_
  refine kPS (As := [.int x2]) (rest := []) S (ctX4_isLand l g x2  (fX4_isLand x2) rfl) (va_cwS 1 hts gX4_boxOf_X4_isLand rfl rfl rfl (by decide +kernel) ⟨Nat.le_of_ble_eq_true rfl, Nat.le_of_ble_eq_true rfl⟩) hK rfl rfl hl.1 rfl (Nat.le_of_ble_eq_true rfl) dX4_boxOf_1 ⟨Nat.zero_le _, Nat.zero_le _⟩ ?_
  refine lv_if_eq (tgt := 19) hx hb dX4_boxOf_4 (by decide) (fun c4 => ?_) (fun c4 => ?_)
  ·
    replace h := gdp h c4
    refine lv_iconst (v := -1) hx hb dX4_boxOf_19 (by decide) ?_
    obtain rfl := Option.some.inj h
    exact retMi (v := (-1 : Int32)) hx hb hr hlocks hP hD hS dX4_boxOf_20
  ·
    replace h := gdn h c4
    refine lv_aload_n hx hb dX4_boxOf_7 rfl (lv_at hl 0 rfl) ?_
    refine lv_iload_n hx hb dX4_boxOf_8 rfl (lv_at hl 2 rfl) ?_
    obtain ⟨r9, hr9, h⟩ := gdb h
    refine kPV (As := [.int x2]) (rest := []) (ci := 4) S (ctX4_sizeOf l g a x2 mw mh mke mnx mdo mtr mma mto mah mrs mab ce mk mo mwa mmc mmf mhy myw myh myr mpi mme mde mwe mla r9 hr9) (cwV 1 hts gX4_boxOf_X4_sizeOf rfl rfl rfl (by decide +kernel) ⟨Nat.le_of_ble_eq_true rfl, Nat.le_of_ble_eq_true rfl⟩) hK hP [0, 1, 2, 3, 4, 5, 6, 7, 8, 9, 10, 11, 12, 13, 14, 15] rfl rfl rfl rfl rfl hl.1 rfl (Nat.le_of_ble_eq_true rfl) dX4_boxOf_9 ⟨Nat.zero_le _, Nat.zero_le _⟩ ?_
    refine lv_if_eq (tgt := 19) hx hb dX4_boxOf_12 (by decide) (fun c12 => ?_) (fun c12 => ?_)
    ·
      replace h := gdp h c12
      refine lv_iconst (v := -1) hx hb dX4_boxOf_19 (by decide) ?_
      obtain rfl := Option.some.inj h
      exact retMi (v := (-1 : Int32)) hx hb hr hlocks hP hD hS dX4_boxOf_20
    ·
      replace h := gdn h c12
      refine lv_iload_n hx hb dX4_boxOf_15 rfl (lv_at hl 1 rfl) ?_
      refine lv_if_ge (tgt := 21) hx hb dX4_boxOf_16 (by decide) (fun c16 => ?_) (fun c16 => ?_)
      ·
        replace h := gdp h c16
        refine lv_aload_n hx hb dX4_boxOf_21 rfl (lv_at hl 0 rfl) ?_
        obtain ⟨r22, hr22, h⟩ := gdb h
        refine kMV (As := []) (rest := []) (ci := 4) (W1 := (wM g a mw mh mke mnx mdo mtr r22.1 r22.2.1 mah mrs mab ce mk mo mwa mmc mmf mhy myw myh myr mpi mme mde r22.2.2.1 r22.2.2.2)) (wr := []) S (ctX4_weigh l g a  mw mh mke mnx mdo mtr mma mto mah mrs mab ce mk mo mwa mmc mmf mhy myw myh myr mpi mme mde mwe mla r22 hr22) (cwV 0 hts gX4_boxOf_X4_weigh rfl rfl rfl (by decide +kernel) ⟨Nat.le_of_ble_eq_true rfl, Nat.le_of_ble_eq_true rfl⟩) hK hP hD hS hA [0, 1, 2, 3, 4, 5, 6, 7, 8, 9, 10, 11, 12, 13, 14, 15] [] [0, 1, 2, 3, 4, 5, 6, 7, 8, 9, 10, 11, 12, 13, 14, 15] rfl rfl rfl rfl (by decide) rfl rfl rfl rfl rfl rfl hl.1 rfl (Nat.le_of_ble_eq_true rfl) dX4_boxOf_22 ⟨Nat.zero_le _, Nat.zero_le _⟩ (fun H locs hP hD hS => ?_)
        show W p l e ({ frames := 2, cells := 0, slots := 0, locals := 45 }) s m args below meth c H locs 0 0 (MQ below (QM g (some (.int res.1)) (wM g a mw mh mke mnx mdo mtr res.2.1 res.2.2.1 res.2.2.2.1 res.2.2.2.2.1 res.2.2.2.2.2.1 ce mk mo mwa mmc mmf mhy myw myh myr mpi mme mde res.2.2.2.2.2.2.1 res.2.2.2.2.2.2.2) A) args s 0 0 A) (F0 m 25 ls [])
        refine lv_iload_n hx hb dX4_boxOf_25 rfl (lv_at hl 1 rfl) ?_
        refine lv_aload_n hx hb dX4_boxOf_26 rfl (lv_at hl 0 rfl) ?_
        refine va_get (D := g.1) (ci := 4) (v := .int r22.1) (C := RX4) (T := TX4) (N := 26) hx hb hts iX4 hown hK.1 hP 0 rfl rfl 19 (by decide) f144 (fun _ h9 => h9) rfl dX4_boxOf_27 ?_
        refine lv_iconst (v := 1) hx hb dX4_boxOf_30 (by decide) ?_
        refine lv_isub hx hb dX4_boxOf_31 ?_
        refine lv_ishr hx hb dX4_boxOf_32 ?_
        refine lv_if_eq (tgt := 38) hx hb dX4_boxOf_33 (by decide) (fun c33 => ?_) (fun c33 => ?_)
        ·
          replace h := gdp h c33
          refine lv_iconst (v := 0) hx hb dX4_boxOf_38 (by decide) ?_
          refine lv_istore_n (lv' := [(3, .int (0 : Int32)), (0, .ref (a 0)), (1, .int x1), (2, .int x2)]) hx hb dX4_boxOf_39 rfl hl (by decide) rfl (fun ls hl => ?_)
          obtain ⟨t40, hw40, h⟩ := gdb h
          have X40 : ∀ (H : Heap) (locs : List Loc) (ls : Array Slot), va_P g.1 vwCl (wM g a mw mh mke mnx mdo mtr r22.1 r22.2.1 mah mrs mab ce mk mo mwa mmc mmf mhy myw myh myr mpi mme mde r22.2.2.1 r22.2.2.2) H → va_D A (wM g a mw mh mke mnx mdo mtr r22.1 r22.2.1 mah mrs mab ce mk mo mwa mmc mmf mhy myw myh myr mpi mme mde r22.2.2.1 r22.2.2.2) → va_S A s.heap H locs → lv_has ls 4 [(0, .ref (a 0)), (1, .int x1), (3, .int t40)] → W p l e ({ frames := 2, cells := 0, slots := 0, locals := 45 }) s m args below meth c H locs 0 0 (MQ below (QM g (some (.int res.1)) (wM g a mw mh mke mnx mdo mtr res.2.1 res.2.2.1 res.2.2.2.1 res.2.2.2.2.1 res.2.2.2.2.2.1 ce mk mo mwa mmc mmf mhy myw myh myr mpi mme mde res.2.2.2.2.2.2.1 res.2.2.2.2.2.2.2) A) args s 0 0 A) (F0 m 56 ls []) := by
            intro H locs ls hP hD hS hl
            refine lv_aload_n hx hb dX4_boxOf_56 rfl (lv_at hl 0 rfl) ?_
            refine lv_iload_n hx hb dX4_boxOf_57 rfl (lv_at hl 1 rfl) ?_
            refine lv_iload_n hx hb dX4_boxOf_58 rfl (lv_at hl 2 rfl) ?_
            obtain ⟨r59, hr59, h⟩ := gdb h
            refine kMV (As := [.int x1, .int t40]) (rest := []) (ci := 4) (W1 := (wM g a mw mh mke mnx mdo mtr r22.1 r22.2.1 r59.1 r59.2.1 r59.2.2 ce mk mo mwa mmc mmf mhy myw myh myr mpi mme mde r22.2.2.1 r22.2.2.2)) (wr := []) S (ctX4_lay l g a x1 t40 mw mh mke mnx mdo mtr r22.1 r22.2.1 mah mrs mab ce mk mo mwa mmc mmf mhy myw myh myr mpi mme mde r22.2.2.1 r22.2.2.2 r59 hr59) (cwV 2 hts gX4_boxOf_X4_lay rfl rfl rfl (by decide +kernel) ⟨Nat.le_of_ble_eq_true rfl, Nat.le_of_ble_eq_true rfl⟩) hK hP hD hS hA [0, 1, 2, 3, 4, 5, 6, 7, 8, 9, 10, 11, 12, 13, 14, 15] [] [0, 1, 2, 3, 4, 5, 6, 7, 8, 9, 10, 11, 12, 13, 14, 15] rfl rfl rfl rfl (by decide) rfl rfl rfl rfl rfl rfl hl.1 rfl (Nat.le_of_ble_eq_true rfl) dX4_boxOf_59 ⟨Nat.zero_le _, Nat.zero_le _⟩ (fun H locs hP hD hS => ?_)
            show W p l e ({ frames := 2, cells := 0, slots := 0, locals := 45 }) s m args below meth c H locs 0 0 (MQ below (QM g (some (.int res.1)) (wM g a mw mh mke mnx mdo mtr res.2.1 res.2.2.1 res.2.2.2.1 res.2.2.2.2.1 res.2.2.2.2.2.1 ce mk mo mwa mmc mmf mhy myw myh myr mpi mme mde res.2.2.2.2.2.2.1 res.2.2.2.2.2.2.2) A) args s 0 0 A) (F0 m 62 ls [])
            refine lv_iload_n hx hb dX4_boxOf_62 rfl (lv_at hl 2 rfl) ?_
            obtain rfl := Option.some.inj h
            exact retMi hx hb hr hlocks hP hD hS dX4_boxOf_63
          clear h
          have L40 : ∀ (n : Nat) (s40 : Int32), wh (fX4_boxOf_40 x2 r22) n s40 = some t40 → ∀ (H : Heap) (locs : List Loc) (ls : Array Slot), va_P g.1 vwCl (wM g a mw mh mke mnx mdo mtr r22.1 r22.2.1 mah mrs mab ce mk mo mwa mmc mmf mhy myw myh myr mpi mme mde r22.2.2.1 r22.2.2.2) H → va_D A (wM g a mw mh mke mnx mdo mtr r22.1 r22.2.1 mah mrs mab ce mk mo mwa mmc mmf mhy myw myh myr mpi mme mde r22.2.2.1 r22.2.2.2) → va_S A s.heap H locs → lv_has ls 4 [(0, .ref (a 0)), (1, .int x1), (2, .int x2), (3, .int s40)] → W p l e ({ frames := 2, cells := 0, slots := 0, locals := 45 }) s m args below meth c H locs 0 0 (MQ below (QM g (some (.int res.1)) (wM g a mw mh mke mnx mdo mtr res.2.1 res.2.2.1 res.2.2.2.1 res.2.2.2.2.1 res.2.2.2.2.2.1 ce mk mo mwa mmc mmf mhy myw myh myr mpi mme mde res.2.2.2.2.2.2.1 res.2.2.2.2.2.2.2) A) args s 0 0 A) (F0 m 40 ls []) := by
            intro n
            induction n with
            | zero => intro s40 hw; exact (wh_0 hw).elim
            | succ n ih40 =>
              intro s40 hw H locs ls hP hD hS hl
              obtain ⟨r0, h, hr40⟩ := wh_s hw
              refine lv_aload_n hx hb dX4_boxOf_40 rfl (lv_at hl 0 rfl) ?_
              refine va_get (D := g.1) (ci := 4) (v := .ref (a 15)) (C := RX4) (T := TX4) (N := 26) hx hb hts iX4 hown hK.1 hP 0 rfl rfl 21 (by decide) f60 (fun _ h9 => h9) rfl dX4_boxOf_41 ?_
              refine lv_iload_n hx hb dX4_boxOf_44 rfl (lv_at hl 3 rfl) ?_
              obtain ⟨hi, h⟩ := gdi h
              refine va_iald (D := g.1) hx hb hK.1 hP 15 0 rfl rfl hi dX4_boxOf_45 ?_
              refine lv_iload_n hx hb dX4_boxOf_46 rfl (lv_at hl 2 rfl) ?_
              refine lv_icmp_eq (tgt := 56) hx hb dX4_boxOf_47 (by decide) (fun c47 => ?_) (fun c47 => ?_)
              ·
                replace h := gdp h c47
                obtain rfl := Option.some.inj h
                have e0 : s40 = t40 := hr40
                subst e0
                exact X40 _ _ _ hP hD hS (lv_sub hl [0, 1, 3] rfl)
              ·
                replace h := gdn h c47
                refine lv_iinc (v := (s40 + 1)) (lv' := [(3, .int (s40 + 1)), (0, .ref (a 0)), (1, .int x1), (2, .int x2)]) hx hb dX4_boxOf_50 hl (k := 3) rfl rfl (by decide) rfl (fun ls hl => ?_)
                refine lv_goto (tgt := 40) hx hb dX4_boxOf_53 (by decide) ?_
                obtain rfl := Option.some.inj h
                exact ih40 (s40 + 1) hr40 _ _ _ hP hD hS (lv_sub hl [1, 2, 3, 0] rfl)
          exact L40 _ (0 : Int32) hw40 _ _ _ hP hD hS (lv_sub hl [1, 2, 3, 0] rfl)
        ·
          replace h := gdn h c33
          refine lv_iconst (v := -1) hx hb dX4_boxOf_36 (by decide) ?_
          obtain rfl := Option.some.inj h
          exact retMi (v := (-1 : Int32)) hx hb hr hlocks hP hD hS dX4_boxOf_37
      ·
        replace h := gdn h c16
        refine lv_iconst (v := -1) hx hb dX4_boxOf_19 (by decide) ?_
        obtain rfl := Option.some.inj h
        exact retMi (v := (-1 : Int32)) hx hb hr hlocks hP hD hS dX4_boxOf_20
-- LandBoardModel.common
set_option maxHeartbeats 4000000 in
set_option maxRecDepth 100000 in
theorem ctX4_common (l : Launch) (g : GG) (x0 : Int32) (x1 : Int32)  (res : Int32) (h : fX4_common x0 x1 = some res) : MP l yX4_common wsX4_common ({ frames := 0, cells := 0, slots := 0, locals := 0 }) g [.int x0, .int x1] (wN g) (.int res) := by
  refine MP.of (cc := cX4_common) (own := RX4) 5 (some .int) (by decide +kernel) rfl (Nat.le_of_ble_eq_true rfl) rfl ?_
  intro p e s m args below meth c hx hb hr hml hown hts hlocks hP hK ls hl
  have S : CallFix p m c cX4_common 5 s args wsX4_common RX4 := ⟨hx, hb, hml, hown, hts⟩
  have hl : lv_has ls 5 [(0, .int x0), (1, .int x1)] := hl
  refine lv_iload_n hx hb dX4_common_0 rfl (lv_at hl 0 rfl) ?_
  refine lv_istore_n (lv' := [(2, .int x0), (0, .int x0), (1, .int x1)]) hx hb dX4_common_1 rfl hl (by decide) rfl (fun ls hl => ?_)
  refine lv_iload_n hx hb dX4_common_2 rfl (lv_at hl 2 rfl) ?_
  refine lv_istore_n (lv' := [(3, .int x1), (2, .int x0), (0, .int x0), (1, .int x1)]) hx hb dX4_common_3 rfl hl (by decide) rfl (fun ls hl => ?_)
  obtain ⟨t4, hw4, h⟩ := gdb h
  have X4 : ∀ ls : Array Slot, lv_has ls 5 [(2, .int t4)] → W p l e ({ frames := 0, cells := 0, slots := 0, locals := 0 }) s m args below meth c s.heap [] 0 0 (MQ below (k2_QcV (.int res)) args s 0 0 (fun _ => False)) (F0 m 21 ls []) := by
    intro ls hl
    refine lv_iload_n hx hb dX4_common_21 rfl (lv_at hl 0 rfl) ?_
    obtain rfl := Option.some.inj h
    exact retPi hx hb hr hlocks dX4_common_22
  clear h
  have L4 : ∀ (n : Nat) (s4 : Int32 × Int32), wh fX4_common_4 n s4 = some t4 → ∀ ls : Array Slot, lv_has ls 5 [(2, .int s4.1), (3, .int s4.2)] → W p l e ({ frames := 0, cells := 0, slots := 0, locals := 0 }) s m args below meth c s.heap [] 0 0 (MQ below (k2_QcV (.int res)) args s 0 0 (fun _ => False)) (F0 m 4 ls []) := by
    intro n
    induction n with
    | zero => intro s4 hw; exact (wh_0 hw).elim
    | succ n ih4 =>
      intro s4 hw ls hl
      obtain ⟨r0, h, hr4⟩ := wh_s hw
      refine lv_iload_n hx hb dX4_common_4 rfl (lv_at hl 1 rfl) ?_
      refine lv_if_eq (tgt := 21) hx hb dX4_common_5 (by decide) (fun c5 => ?_) (fun c5 => ?_)
      ·
        replace h := gdp h c5
        obtain rfl := Option.some.inj h
        have e0 : s4.1 = t4 := hr4
        subst e0
        exact X4 _ (lv_sub hl [0] rfl)
      ·
        replace h := gdn h c5
        refine lv_iload_n hx hb dX4_common_8 rfl (lv_at hl 0 rfl) ?_
        refine lv_iload_n hx hb dX4_common_9 rfl (lv_at hl 1 rfl) ?_
        obtain ⟨hz, h⟩ := gdz h
        refine lv_irem hx hb dX4_common_10 hz ?_
        refine lv_istore (lv' := [(4, .int (s4.1 - s4.1 / s4.2 * s4.2)), (2, .int s4.1), (3, .int s4.2)]) hx hb dX4_common_11 hl (by decide) rfl (fun ls hl => ?_)
        refine lv_iload_n hx hb dX4_common_13 rfl (lv_at hl 2 rfl) ?_
        refine lv_istore_n (lv' := [(2, .int s4.2), (4, .int (s4.1 - s4.1 / s4.2 * s4.2)), (3, .int s4.2)]) hx hb dX4_common_14 rfl hl (by decide) rfl (fun ls hl => ?_)
        refine lv_iload hx hb dX4_common_15 (lv_at hl 1 rfl) ?_
        refine lv_istore_n (lv' := [(3, .int (s4.1 - s4.1 / s4.2 * s4.2)), (2, .int s4.2), (4, .int (s4.1 - s4.1 / s4.2 * s4.2))]) hx hb dX4_common_17 rfl hl (by decide) rfl (fun ls hl => ?_)
        refine lv_goto (tgt := 4) hx hb dX4_common_18 (by decide) ?_
        obtain rfl := Option.some.inj h
        exact ih4 (s4.2, (s4.1 - s4.1 / s4.2 * s4.2)) hr4 _ (lv_sub hl [1, 0] rfl)
  exact L4 _ (x0, x1) hw4 _ (lv_sub hl [1, 0] rfl)
-- LandBoardModel.longUp
set_option maxHeartbeats 4000000 in
set_option maxRecDepth 100000 in
theorem ctX4_longUp (l : Launch) (g : GG) (a : Nat → Nat) (x1 : Int32) (mw : Int32) (mh : Int32) (mke : Int32) (mnx : Int32) (mdo : Int32) (mtr : Int64) (mma : Int32) (mto : Int32) (mah : Int32) (mrs : Int32) (mab : Int32) (ce : (Nat → Int32)) (mk : (Nat → Int32)) (mo : (Nat → Int32)) (mwa : (Nat → Int32)) (mmc : (Nat → Int32)) (mmf : (Nat → Int32)) (mhy : (Nat → Int32)) (myw : (Nat → Int32)) (myh : (Nat → Int32)) (myr : (Nat → Int32)) (mpi : (Nat → Int32)) (mme : (Nat → Int32)) (mde : (Nat → Int32)) (mwe : (Nat → Int32)) (mla : (Nat → Int32)) (res : Int32) (h : fX4_longUp x1 mto mrs mwe = some res) : MP l yX4_longUp wsX4_longUp ({ frames := 1, cells := 0, slots := 0, locals := 24 }) g [.ref (a 0), .int x1] (wM g a mw mh mke mnx mdo mtr mma mto mah mrs mab ce mk mo mwa mmc mmf mhy myw myh myr mpi mme mde mwe mla) (.int res) := by
  refine MP.of (cc := cX4_longUp) (own := RX4) 4 (some .int) (by decide +kernel) rfl (Nat.le_of_ble_eq_true rfl) rfl ?_
  intro p e s m args below meth c hx hb hr hml hown hts hlocks hP hK ls hl
  have S : CallFix p m c cX4_longUp 4 s args wsX4_longUp RX4 := ⟨hx, hb, hml, hown, hts⟩
  have hl : lv_has ls 4 [(0, .ref (a 0)), (1, .int x1)] := hl
  have f57 := hts (.fieldLink RX4 57 "LandBoardModel" "weight" "[I") (by decide +kernel)
  have iX4 := (by decide +kernel : ∀ w ∈ u_ws RX4 TX4 26, w ∈ wsX4_longUp)
  have f147 := hts (.fieldLink RX4 147 "LandBoardModel" "total" "I") (by decide +kernel)
  have f153 := hts (.fieldLink RX4 153 "LandBoardModel" "rowSum" "I") (by decide +kernel)
  refine lv_aload_n hx hb dX4_longUp_0 rfl (lv_at hl 0 rfl) ?_
  refine va_get (D := g.1) (ci := 4) (v := .ref (a 14)) (C := RX4) (T := TX4) (N := 26) hx hb hts iX4 hown hK.1 hP 0 rfl rfl 20 (by decide) f57 (fun _ h9 => h9) rfl dX4_longUp_1 ?_
  refine lv_iload_n hx hb dX4_longUp_4 rfl (lv_at hl 1 rfl) ?_
  obtain ⟨hi, h⟩ := gdi h
  refine va_iald (D := g.1) hx hb hK.1 hP 14 0 rfl rfl hi dX4_longUp_5 ?_
  refine lv_aload_n hx hb dX4_longUp_6 rfl (lv_at hl 0 rfl) ?_
  refine va_get (D := g.1) (ci := 4) (v := .int mto) (C := RX4) (T := TX4) (N := 26) hx hb hts iX4 hown hK.1 hP 0 rfl rfl 22 (by decide) f147 (fun _ h9 => h9) rfl dX4_longUp_7 ?_
  refine lv_imul hx hb dX4_longUp_10 ?_
  refine lv_istore_n (lv' := [(2, .int ((mwe (x1).toNatClampNeg) * mto)), (0, .ref (a 0)), (1, .int x1)]) hx hb dX4_longUp_11 rfl hl (by decide) rfl (fun ls hl => ?_)
  refine lv_aload_n hx hb dX4_longUp_12 rfl (lv_at hl 1 rfl) ?_
  refine va_get (D := g.1) (ci := 4) (v := .int mrs) (C := RX4) (T := TX4) (N := 26) hx hb hts iX4 hown hK.1 hP 0 rfl rfl 24 (by decide) f153 (fun _ h9 => h9) rfl dX4_longUp_13 ?_
  refine lv_aload_n hx hb dX4_longUp_16 rfl (lv_at hl 1 rfl) ?_
  refine va_get (D := g.1) (ci := 4) (v := .int mrs) (C := RX4) (T := TX4) (N := 26) hx hb hts iX4 hown hK.1 hP 0 rfl rfl 24 (by decide) f153 (fun _ h9 => h9) rfl dX4_longUp_17 ?_
  refine lv_imul hx hb dX4_longUp_20 ?_
  refine lv_istore_n (lv' := [(3, .int (mrs * mrs)), (2, .int ((mwe (x1).toNatClampNeg) * mto)), (0, .ref (a 0)), (1, .int x1)]) hx hb dX4_longUp_21 rfl hl (by decide) rfl (fun ls hl => ?_)
  refine lv_iload_n hx hb dX4_longUp_22 rfl (lv_at hl 1 rfl) ?_
  refine lv_iload_n hx hb dX4_longUp_23 rfl (lv_at hl 0 rfl) ?_
  refine lv_icmp_le (tgt := 31) hx hb dX4_longUp_24 (by decide) (fun c24 => ?_) (fun c24 => ?_)
  ·
    replace h := gdp h c24
    refine lv_iload_n hx hb dX4_longUp_31 rfl (lv_at hl 0 rfl) ?_
    refine lv_iload_n hx hb dX4_longUp_32 rfl (lv_at hl 1 rfl) ?_
    refine lv_iload_n hx hb dX4_longUp_33 rfl (lv_at hl 0 rfl) ?_
    obtain ⟨r34, hr34, h⟩ := gdb h
    refine kPS (As := [.int ((mwe (x1).toNatClampNeg) * mto), .int (mrs * mrs)]) (rest := [.int (mrs * mrs)]) S (ctX4_common l g ((mwe (x1).toNatClampNeg) * mto) (mrs * mrs)  r34 hr34) (va_cwS 2 hts gX4_longUp_X4_common rfl rfl rfl (by decide +kernel) ⟨Nat.le_of_ble_eq_true rfl, Nat.le_of_ble_eq_true rfl⟩) hK rfl rfl hl.1 rfl (Nat.le_of_ble_eq_true rfl) dX4_longUp_34 ⟨Nat.zero_le _, Nat.zero_le _⟩ ?_
    obtain ⟨hz, h⟩ := gdz h
    refine lv_idiv hx hb dX4_longUp_37 hz ?_
    obtain rfl := Option.some.inj h
    exact retPi hx hb hr hlocks dX4_longUp_38
  ·
    replace h := gdn h c24
    refine lv_iload_n hx hb dX4_longUp_27 rfl (lv_at hl 1 rfl) ?_
    refine lv_goto (tgt := 32) hx hb dX4_longUp_28 (by decide) ?_
    refine lv_iload_n hx hb dX4_longUp_32 rfl (lv_at hl 1 rfl) ?_
    refine lv_iload_n hx hb dX4_longUp_33 rfl (lv_at hl 0 rfl) ?_
    obtain ⟨r34, hr34, h⟩ := gdb h
    refine kPS (As := [.int ((mwe (x1).toNatClampNeg) * mto), .int (mrs * mrs)]) (rest := [.int ((mwe (x1).toNatClampNeg) * mto)]) S (ctX4_common l g ((mwe (x1).toNatClampNeg) * mto) (mrs * mrs)  r34 hr34) (va_cwS 2 hts gX4_longUp_X4_common rfl rfl rfl (by decide +kernel) ⟨Nat.le_of_ble_eq_true rfl, Nat.le_of_ble_eq_true rfl⟩) hK rfl rfl hl.1 rfl (Nat.le_of_ble_eq_true rfl) dX4_longUp_34 ⟨Nat.zero_le _, Nat.zero_le _⟩ ?_
    obtain ⟨hz, h⟩ := gdz h
    refine lv_idiv hx hb dX4_longUp_37 hz ?_
    obtain rfl := Option.some.inj h
    exact retPi hx hb hr hlocks dX4_longUp_38
-- LandBoardModel.longDown
set_option maxHeartbeats 4000000 in
set_option maxRecDepth 100000 in
theorem ctX4_longDown (l : Launch) (g : GG) (a : Nat → Nat) (x1 : Int32) (mw : Int32) (mh : Int32) (mke : Int32) (mnx : Int32) (mdo : Int32) (mtr : Int64) (mma : Int32) (mto : Int32) (mah : Int32) (mrs : Int32) (mab : Int32) (ce : (Nat → Int32)) (mk : (Nat → Int32)) (mo : (Nat → Int32)) (mwa : (Nat → Int32)) (mmc : (Nat → Int32)) (mmf : (Nat → Int32)) (mhy : (Nat → Int32)) (myw : (Nat → Int32)) (myh : (Nat → Int32)) (myr : (Nat → Int32)) (mpi : (Nat → Int32)) (mme : (Nat → Int32)) (mde : (Nat → Int32)) (mwe : (Nat → Int32)) (mla : (Nat → Int32)) (res : Int32) (h : fX4_longDown x1 mto mrs mwe = some res) : MP l yX4_longDown wsX4_longDown ({ frames := 1, cells := 0, slots := 0, locals := 24 }) g [.ref (a 0), .int x1] (wM g a mw mh mke mnx mdo mtr mma mto mah mrs mab ce mk mo mwa mmc mmf mhy myw myh myr mpi mme mde mwe mla) (.int res) := by
  refine MP.of (cc := cX4_longDown) (own := RX4) 4 (some .int) (by decide +kernel) rfl (Nat.le_of_ble_eq_true rfl) rfl ?_
  intro p e s m args below meth c hx hb hr hml hown hts hlocks hP hK ls hl
  have S : CallFix p m c cX4_longDown 4 s args wsX4_longDown RX4 := ⟨hx, hb, hml, hown, hts⟩
  have hl : lv_has ls 4 [(0, .ref (a 0)), (1, .int x1)] := hl
  have f57 := hts (.fieldLink RX4 57 "LandBoardModel" "weight" "[I") (by decide +kernel)
  have iX4 := (by decide +kernel : ∀ w ∈ u_ws RX4 TX4 26, w ∈ wsX4_longDown)
  have f147 := hts (.fieldLink RX4 147 "LandBoardModel" "total" "I") (by decide +kernel)
  have f153 := hts (.fieldLink RX4 153 "LandBoardModel" "rowSum" "I") (by decide +kernel)
  refine lv_aload_n hx hb dX4_longDown_0 rfl (lv_at hl 0 rfl) ?_
  refine va_get (D := g.1) (ci := 4) (v := .ref (a 14)) (C := RX4) (T := TX4) (N := 26) hx hb hts iX4 hown hK.1 hP 0 rfl rfl 20 (by decide) f57 (fun _ h9 => h9) rfl dX4_longDown_1 ?_
  refine lv_iload_n hx hb dX4_longDown_4 rfl (lv_at hl 1 rfl) ?_
  obtain ⟨hi, h⟩ := gdi h
  refine va_iald (D := g.1) hx hb hK.1 hP 14 0 rfl rfl hi dX4_longDown_5 ?_
  refine lv_aload_n hx hb dX4_longDown_6 rfl (lv_at hl 0 rfl) ?_
  refine va_get (D := g.1) (ci := 4) (v := .int mto) (C := RX4) (T := TX4) (N := 26) hx hb hts iX4 hown hK.1 hP 0 rfl rfl 22 (by decide) f147 (fun _ h9 => h9) rfl dX4_longDown_7 ?_
  refine lv_imul hx hb dX4_longDown_10 ?_
  refine lv_istore_n (lv' := [(2, .int ((mwe (x1).toNatClampNeg) * mto)), (0, .ref (a 0)), (1, .int x1)]) hx hb dX4_longDown_11 rfl hl (by decide) rfl (fun ls hl => ?_)
  refine lv_aload_n hx hb dX4_longDown_12 rfl (lv_at hl 1 rfl) ?_
  refine va_get (D := g.1) (ci := 4) (v := .int mrs) (C := RX4) (T := TX4) (N := 26) hx hb hts iX4 hown hK.1 hP 0 rfl rfl 24 (by decide) f153 (fun _ h9 => h9) rfl dX4_longDown_13 ?_
  refine lv_aload_n hx hb dX4_longDown_16 rfl (lv_at hl 1 rfl) ?_
  refine va_get (D := g.1) (ci := 4) (v := .int mrs) (C := RX4) (T := TX4) (N := 26) hx hb hts iX4 hown hK.1 hP 0 rfl rfl 24 (by decide) f153 (fun _ h9 => h9) rfl dX4_longDown_17 ?_
  refine lv_imul hx hb dX4_longDown_20 ?_
  refine lv_istore_n (lv' := [(3, .int (mrs * mrs)), (2, .int ((mwe (x1).toNatClampNeg) * mto)), (0, .ref (a 0)), (1, .int x1)]) hx hb dX4_longDown_21 rfl hl (by decide) rfl (fun ls hl => ?_)
  refine lv_iload_n hx hb dX4_longDown_22 rfl (lv_at hl 1 rfl) ?_
  refine lv_iload_n hx hb dX4_longDown_23 rfl (lv_at hl 0 rfl) ?_
  refine lv_icmp_le (tgt := 31) hx hb dX4_longDown_24 (by decide) (fun c24 => ?_) (fun c24 => ?_)
  ·
    replace h := gdp h c24
    refine lv_iload_n hx hb dX4_longDown_31 rfl (lv_at hl 1 rfl) ?_
    refine lv_iload_n hx hb dX4_longDown_32 rfl (lv_at hl 1 rfl) ?_
    refine lv_iload_n hx hb dX4_longDown_33 rfl (lv_at hl 0 rfl) ?_
    obtain ⟨r34, hr34, h⟩ := gdb h
    refine kPS (As := [.int ((mwe (x1).toNatClampNeg) * mto), .int (mrs * mrs)]) (rest := [.int ((mwe (x1).toNatClampNeg) * mto)]) S (ctX4_common l g ((mwe (x1).toNatClampNeg) * mto) (mrs * mrs)  r34 hr34) (va_cwS 2 hts gX4_longDown_X4_common rfl rfl rfl (by decide +kernel) ⟨Nat.le_of_ble_eq_true rfl, Nat.le_of_ble_eq_true rfl⟩) hK rfl rfl hl.1 rfl (Nat.le_of_ble_eq_true rfl) dX4_longDown_34 ⟨Nat.zero_le _, Nat.zero_le _⟩ ?_
    obtain ⟨hz, h⟩ := gdz h
    refine lv_idiv hx hb dX4_longDown_37 hz ?_
    obtain rfl := Option.some.inj h
    exact retPi hx hb hr hlocks dX4_longDown_38
  ·
    replace h := gdn h c24
    refine lv_iload_n hx hb dX4_longDown_27 rfl (lv_at hl 0 rfl) ?_
    refine lv_goto (tgt := 32) hx hb dX4_longDown_28 (by decide) ?_
    refine lv_iload_n hx hb dX4_longDown_32 rfl (lv_at hl 1 rfl) ?_
    refine lv_iload_n hx hb dX4_longDown_33 rfl (lv_at hl 0 rfl) ?_
    obtain ⟨r34, hr34, h⟩ := gdb h
    refine kPS (As := [.int ((mwe (x1).toNatClampNeg) * mto), .int (mrs * mrs)]) (rest := [.int (mrs * mrs)]) S (ctX4_common l g ((mwe (x1).toNatClampNeg) * mto) (mrs * mrs)  r34 hr34) (va_cwS 2 hts gX4_longDown_X4_common rfl rfl rfl (by decide +kernel) ⟨Nat.le_of_ble_eq_true rfl, Nat.le_of_ble_eq_true rfl⟩) hK rfl rfl hl.1 rfl (Nat.le_of_ble_eq_true rfl) dX4_longDown_34 ⟨Nat.zero_le _, Nat.zero_le _⟩ ?_
    obtain ⟨hz, h⟩ := gdz h
    refine lv_idiv hx hb dX4_longDown_37 hz ?_
    obtain rfl := Option.some.inj h
    exact retPi hx hb hr hlocks dX4_longDown_38
-- LandBoardModel.longer
set_option maxHeartbeats 4000000 in
set_option maxRecDepth 100000 in
theorem ctX4_longer (l : Launch) (g : GG) (a : Nat → Nat) (x1 : Int32) (x2 : Int32) (x3 : Int32) (mw : Int32) (mh : Int32) (mke : Int32) (mnx : Int32) (mdo : Int32) (mtr : Int64) (mma : Int32) (mto : Int32) (mah : Int32) (mrs : Int32) (mab : Int32) (ce : (Nat → Int32)) (mk : (Nat → Int32)) (mo : (Nat → Int32)) (mwa : (Nat → Int32)) (mmc : (Nat → Int32)) (mmf : (Nat → Int32)) (mhy : (Nat → Int32)) (myw : (Nat → Int32)) (myh : (Nat → Int32)) (myr : (Nat → Int32)) (mpi : (Nat → Int32)) (mme : (Nat → Int32)) (mde : (Nat → Int32)) (mwe : (Nat → Int32)) (mla : (Nat → Int32)) (res : Int32 × Int32 × Int32 × Int32 × Int32 × Int32 × (Nat → Int32) × (Nat → Int32)) (h : fX4_longer x1 x2 x3 mw mh mma mto mah mrs mab ce mwe mla = some res) : MM l yX4_longer wsX4_longer ({ frames := 3, cells := 0, slots := 0, locals := 68 }) g [.ref (a 0), .int x1, .int x2, .int x3] (wM g a mw mh mke mnx mdo mtr mma mto mah mrs mab ce mk mo mwa mmc mmf mhy myw myh myr mpi mme mde mwe mla) (wM g a mw mh mke mnx mdo mtr res.2.1 res.2.2.1 res.2.2.2.1 res.2.2.2.2.1 res.2.2.2.2.2.1 ce mk mo mwa mmc mmf mhy myw myh myr mpi mme mde res.2.2.2.2.2.2.1 res.2.2.2.2.2.2.2) (some (.int res.1)) := by
  refine MM.of (cc := cX4_longer) (own := RX4) 5 (some .int) (by decide +kernel) rfl (Nat.le_of_ble_eq_true rfl) rfl ?_
  intro p e s m args below meth c hx hb hr hml hown hts hlocks hK A hA ls hl hP hD hS
  have S : CallFix p m c cX4_longer 5 s args wsX4_longer RX4 := ⟨hx, hb, hml, hown, hts⟩
  have hl : lv_has ls 5 [(0, .ref (a 0)), (1, .int x1), (2, .int x2), (3, .int x3)] := hl
  refine lv_iload_n hx hb dX4_longer_0 rfl (lv_at hl 3 rfl) ?_
  refine lv_iconst (v := 0) hx hb dX4_longer_1 (by decide) ?_
  refine lv_iconst (v := 1) hx hb dX4_longer_2 (by decide) ?_
  refine kPS (As := [.int x3, .int (0 : Int32), .int (1 : Int32)]) (rest := []) S (ctX4_in l g x3 (0 : Int32) (1 : Int32)  (fX4_in x3 (0 : Int32) (1 : Int32)) rfl) (va_cwS 3 hts gX4_longer_X4_in rfl rfl rfl (by decide +kernel) ⟨Nat.le_of_ble_eq_true rfl, Nat.le_of_ble_eq_true rfl⟩) hK rfl rfl hl.1 rfl (Nat.le_of_ble_eq_true rfl) dX4_longer_3 ⟨Nat.zero_le _, Nat.zero_le _⟩ ?_
  refine lv_if_eq (tgt := 18) hx hb dX4_longer_6 (by decide) (fun c6 => ?_) (fun c6 => ?_)
  ·
    replace h := gdp h c6
    refine lv_iconst (v := -1) hx hb dX4_longer_18 (by decide) ?_
    refine lv_istore (lv' := [(4, .int (-1 : Int32)), (0, .ref (a 0)), (1, .int x1), (2, .int x2), (3, .int x3)]) hx hb dX4_longer_19 hl (by decide) rfl (fun ls hl => ?_)
    refine lv_iload hx hb dX4_longer_21 (lv_at hl 0 rfl) ?_
    refine lv_if_ge (tgt := 30) hx hb dX4_longer_23 (by decide) (fun c23 => ?_) (fun c23 => ?_)
    ·
      exact absurd c23 (by decide)
    ·
      refine lv_iconst (v := -1) hx hb dX4_longer_26 (by decide) ?_
      refine lv_goto (tgt := 49) hx hb dX4_longer_27 (by decide) ?_
      obtain rfl := Option.some.inj h
      exact retMi (v := (-1 : Int32)) hx hb hr hlocks hP hD hS dX4_longer_49
  ·
    replace h := gdn h c6
    refine lv_aload_n hx hb dX4_longer_9 rfl (lv_at hl 0 rfl) ?_
    refine lv_iload_n hx hb dX4_longer_10 rfl (lv_at hl 1 rfl) ?_
    refine lv_iload_n hx hb dX4_longer_11 rfl (lv_at hl 2 rfl) ?_
    obtain ⟨r12, hr12, h⟩ := gdb h
    refine kMV (As := [.int x1, .int x2]) (rest := []) (ci := 4) (W1 := (wM g a mw mh mke mnx mdo mtr r12.2.1 r12.2.2.1 r12.2.2.2.1 r12.2.2.2.2.1 r12.2.2.2.2.2.1 ce mk mo mwa mmc mmf mhy myw myh myr mpi mme mde r12.2.2.2.2.2.2.1 r12.2.2.2.2.2.2.2)) (wr := []) S (ctX4_boxOf l g a x1 x2 mw mh mke mnx mdo mtr mma mto mah mrs mab ce mk mo mwa mmc mmf mhy myw myh myr mpi mme mde mwe mla r12 hr12) (cwV 2 hts gX4_longer_X4_boxOf rfl rfl rfl (by decide +kernel) ⟨Nat.le_of_ble_eq_true rfl, Nat.le_of_ble_eq_true rfl⟩) hK hP hD hS hA [0, 1, 2, 3, 4, 5, 6, 7, 8, 9, 10, 11, 12, 13, 14, 15] [] [0, 1, 2, 3, 4, 5, 6, 7, 8, 9, 10, 11, 12, 13, 14, 15] rfl rfl rfl rfl (by decide) rfl rfl rfl rfl rfl rfl hl.1 rfl (Nat.le_of_ble_eq_true rfl) dX4_longer_12 ⟨Nat.zero_le _, Nat.zero_le _⟩ (fun H locs hP hD hS => ?_)
    show W p l e ({ frames := 3, cells := 0, slots := 0, locals := 68 }) s m args below meth c H locs 0 0 (MQ below (QM g (some (.int res.1)) (wM g a mw mh mke mnx mdo mtr res.2.1 res.2.2.1 res.2.2.2.1 res.2.2.2.2.1 res.2.2.2.2.2.1 ce mk mo mwa mmc mmf mhy myw myh myr mpi mme mde res.2.2.2.2.2.2.1 res.2.2.2.2.2.2.2) A) args s 0 0 A) (F0 m 15 ls [.int r12.1])
    refine lv_goto (tgt := 19) hx hb dX4_longer_15 (by decide) ?_
    refine lv_istore (lv' := [(4, .int r12.1), (0, .ref (a 0)), (1, .int x1), (2, .int x2), (3, .int x3)]) hx hb dX4_longer_19 hl (by decide) rfl (fun ls hl => ?_)
    refine lv_iload hx hb dX4_longer_21 (lv_at hl 0 rfl) ?_
    refine lv_if_ge (tgt := 30) hx hb dX4_longer_23 (by decide) (fun c23 => ?_) (fun c23 => ?_)
    ·
      replace h := gdp h c23
      refine lv_iload_n hx hb dX4_longer_30 rfl (lv_at hl 4 rfl) ?_
      refine lv_if_ne (tgt := 43) hx hb dX4_longer_31 (by decide) (fun c31 => ?_) (fun c31 => ?_)
      ·
        replace h := gdn h c31
        refine lv_aload_n hx hb dX4_longer_43 rfl (lv_at hl 1 rfl) ?_
        refine lv_iload hx hb dX4_longer_44 (lv_at hl 0 rfl) ?_
        obtain ⟨r46, hr46, h⟩ := gdb h
        refine kPV (As := [.int r12.1]) (rest := []) (ci := 4) S (ctX4_longDown l g a r12.1 mw mh mke mnx mdo mtr r12.2.1 r12.2.2.1 r12.2.2.2.1 r12.2.2.2.2.1 r12.2.2.2.2.2.1 ce mk mo mwa mmc mmf mhy myw myh myr mpi mme mde r12.2.2.2.2.2.2.1 r12.2.2.2.2.2.2.2 r46 hr46) (cwV 1 hts gX4_longer_X4_longDown rfl rfl rfl (by decide +kernel) ⟨Nat.le_of_ble_eq_true rfl, Nat.le_of_ble_eq_true rfl⟩) hK hP [0, 1, 2, 3, 4, 5, 6, 7, 8, 9, 10, 11, 12, 13, 14, 15] rfl rfl rfl rfl rfl hl.1 rfl (Nat.le_of_ble_eq_true rfl) dX4_longer_46 ⟨Nat.zero_le _, Nat.zero_le _⟩ ?_
        obtain rfl := Option.some.inj h
        exact retMi hx hb hr hlocks hP hD hS dX4_longer_49
      ·
        replace h := gdp h c31
        refine lv_aload_n hx hb dX4_longer_34 rfl (lv_at hl 1 rfl) ?_
        refine lv_iload hx hb dX4_longer_35 (lv_at hl 0 rfl) ?_
        obtain ⟨r37, hr37, h⟩ := gdb h
        refine kPV (As := [.int r12.1]) (rest := []) (ci := 4) S (ctX4_longUp l g a r12.1 mw mh mke mnx mdo mtr r12.2.1 r12.2.2.1 r12.2.2.2.1 r12.2.2.2.2.1 r12.2.2.2.2.2.1 ce mk mo mwa mmc mmf mhy myw myh myr mpi mme mde r12.2.2.2.2.2.2.1 r12.2.2.2.2.2.2.2 r37 hr37) (cwV 1 hts gX4_longer_X4_longUp rfl rfl rfl (by decide +kernel) ⟨Nat.le_of_ble_eq_true rfl, Nat.le_of_ble_eq_true rfl⟩) hK hP [0, 1, 2, 3, 4, 5, 6, 7, 8, 9, 10, 11, 12, 13, 14, 15] rfl rfl rfl rfl rfl hl.1 rfl (Nat.le_of_ble_eq_true rfl) dX4_longer_37 ⟨Nat.zero_le _, Nat.zero_le _⟩ ?_
        refine lv_goto (tgt := 49) hx hb dX4_longer_40 (by decide) ?_
        obtain rfl := Option.some.inj h
        exact retMi hx hb hr hlocks hP hD hS dX4_longer_49
    ·
      replace h := gdn h c23
      refine lv_iconst (v := -1) hx hb dX4_longer_26 (by decide) ?_
      refine lv_goto (tgt := 49) hx hb dX4_longer_27 (by decide) ?_
      obtain rfl := Option.some.inj h
      exact retMi (v := (-1 : Int32)) hx hb hr hlocks hP hD hS dX4_longer_49
-- LandBoardModel.box
set_option maxHeartbeats 4000000 in
set_option maxRecDepth 100000 in
theorem ctX4_box (l : Launch) (g : GG) (a : Nat → Nat) (x1 : Int32) (x2 : Int32) (x3 : Int32) (mw : Int32) (mh : Int32) (mke : Int32) (mnx : Int32) (mdo : Int32) (mtr : Int64) (mma : Int32) (mto : Int32) (mah : Int32) (mrs : Int32) (mab : Int32) (ce : (Nat → Int32)) (mk : (Nat → Int32)) (mo : (Nat → Int32)) (mwa : (Nat → Int32)) (mmc : (Nat → Int32)) (mmf : (Nat → Int32)) (mhy : (Nat → Int32)) (myw : (Nat → Int32)) (myh : (Nat → Int32)) (myr : (Nat → Int32)) (mpi : (Nat → Int32)) (mme : (Nat → Int32)) (mde : (Nat → Int32)) (mwe : (Nat → Int32)) (mla : (Nat → Int32)) (res : Int32 × Int32 × Int32 × Int32 × Int32 × Int32 × (Nat → Int32) × (Nat → Int32)) (h : fX4_box x1 x2 x3 mw mh mma mto mah mrs mab ce mwe mla = some res) : MM l yX4_box wsX4_box ({ frames := 3, cells := 0, slots := 0, locals := 68 }) g [.ref (a 0), .int x1, .int x2, .int x3] (wM g a mw mh mke mnx mdo mtr mma mto mah mrs mab ce mk mo mwa mmc mmf mhy myw myh myr mpi mme mde mwe mla) (wM g a mw mh mke mnx mdo mtr res.2.1 res.2.2.1 res.2.2.2.1 res.2.2.2.2.1 res.2.2.2.2.2.1 ce mk mo mwa mmc mmf mhy myw myh myr mpi mme mde res.2.2.2.2.2.2.1 res.2.2.2.2.2.2.2) (some (.int res.1)) := by
  refine MM.of (cc := cX4_box) (own := RX4) 5 (some .int) (by decide +kernel) rfl (Nat.le_of_ble_eq_true rfl) rfl ?_
  intro p e s m args below meth c hx hb hr hml hown hts hlocks hK A hA ls hl hP hD hS
  have S : CallFix p m c cX4_box 5 s args wsX4_box RX4 := ⟨hx, hb, hml, hown, hts⟩
  have hl : lv_has ls 5 [(0, .ref (a 0)), (1, .int x1), (2, .int x2), (3, .int x3)] := hl
  have f150 := hts (.fieldLink RX4 150 "LandBoardModel" "ahead" "I") (by decide +kernel)
  have iX4 := (by decide +kernel : ∀ w ∈ u_ws RX4 TX4 26, w ∈ wsX4_box)
  have f153 := hts (.fieldLink RX4 153 "LandBoardModel" "rowSum" "I") (by decide +kernel)
  have f156 := hts (.fieldLink RX4 156 "LandBoardModel" "above" "I") (by decide +kernel)
  have f147 := hts (.fieldLink RX4 147 "LandBoardModel" "total" "I") (by decide +kernel)
  have f57 := hts (.fieldLink RX4 57 "LandBoardModel" "weight" "[I") (by decide +kernel)
  refine lv_iload_n hx hb dX4_box_0 rfl (lv_at hl 3 rfl) ?_
  refine lv_iconst (v := 0) hx hb dX4_box_1 (by decide) ?_
  refine lv_iconst (v := 3) hx hb dX4_box_2 (by decide) ?_
  refine kPS (As := [.int x3, .int (0 : Int32), .int (3 : Int32)]) (rest := []) S (ctX4_in l g x3 (0 : Int32) (3 : Int32)  (fX4_in x3 (0 : Int32) (3 : Int32)) rfl) (va_cwS 3 hts gX4_box_X4_in rfl rfl rfl (by decide +kernel) ⟨Nat.le_of_ble_eq_true rfl, Nat.le_of_ble_eq_true rfl⟩) hK rfl rfl hl.1 rfl (Nat.le_of_ble_eq_true rfl) dX4_box_3 ⟨Nat.zero_le _, Nat.zero_le _⟩ ?_
  refine lv_if_eq (tgt := 18) hx hb dX4_box_6 (by decide) (fun c6 => ?_) (fun c6 => ?_)
  ·
    replace h := gdp h c6
    refine lv_iconst (v := -1) hx hb dX4_box_18 (by decide) ?_
    refine lv_istore (lv' := [(4, .int (-1 : Int32)), (0, .ref (a 0)), (1, .int x1), (2, .int x2), (3, .int x3)]) hx hb dX4_box_19 hl (by decide) rfl (fun ls hl => ?_)
    refine lv_iload hx hb dX4_box_21 (lv_at hl 0 rfl) ?_
    refine lv_if_ge (tgt := 28) hx hb dX4_box_23 (by decide) (fun c23 => ?_) (fun c23 => ?_)
    ·
      exact absurd c23 (by decide)
    ·
      refine lv_iconst (v := -1) hx hb dX4_box_26 (by decide) ?_
      obtain rfl := Option.some.inj h
      exact retMi (v := (-1 : Int32)) hx hb hr hlocks hP hD hS dX4_box_27
  ·
    replace h := gdn h c6
    refine lv_aload_n hx hb dX4_box_9 rfl (lv_at hl 0 rfl) ?_
    refine lv_iload_n hx hb dX4_box_10 rfl (lv_at hl 1 rfl) ?_
    refine lv_iload_n hx hb dX4_box_11 rfl (lv_at hl 2 rfl) ?_
    obtain ⟨r12, hr12, h⟩ := gdb h
    refine kMV (As := [.int x1, .int x2]) (rest := []) (ci := 4) (W1 := (wM g a mw mh mke mnx mdo mtr r12.2.1 r12.2.2.1 r12.2.2.2.1 r12.2.2.2.2.1 r12.2.2.2.2.2.1 ce mk mo mwa mmc mmf mhy myw myh myr mpi mme mde r12.2.2.2.2.2.2.1 r12.2.2.2.2.2.2.2)) (wr := []) S (ctX4_boxOf l g a x1 x2 mw mh mke mnx mdo mtr mma mto mah mrs mab ce mk mo mwa mmc mmf mhy myw myh myr mpi mme mde mwe mla r12 hr12) (cwV 2 hts gX4_box_X4_boxOf rfl rfl rfl (by decide +kernel) ⟨Nat.le_of_ble_eq_true rfl, Nat.le_of_ble_eq_true rfl⟩) hK hP hD hS hA [0, 1, 2, 3, 4, 5, 6, 7, 8, 9, 10, 11, 12, 13, 14, 15] [] [0, 1, 2, 3, 4, 5, 6, 7, 8, 9, 10, 11, 12, 13, 14, 15] rfl rfl rfl rfl (by decide) rfl rfl rfl rfl rfl rfl hl.1 rfl (Nat.le_of_ble_eq_true rfl) dX4_box_12 ⟨Nat.zero_le _, Nat.zero_le _⟩ (fun H locs hP hD hS => ?_)
    show W p l e ({ frames := 3, cells := 0, slots := 0, locals := 68 }) s m args below meth c H locs 0 0 (MQ below (QM g (some (.int res.1)) (wM g a mw mh mke mnx mdo mtr res.2.1 res.2.2.1 res.2.2.2.1 res.2.2.2.2.1 res.2.2.2.2.2.1 ce mk mo mwa mmc mmf mhy myw myh myr mpi mme mde res.2.2.2.2.2.2.1 res.2.2.2.2.2.2.2) A) args s 0 0 A) (F0 m 15 ls [.int r12.1])
    refine lv_goto (tgt := 19) hx hb dX4_box_15 (by decide) ?_
    refine lv_istore (lv' := [(4, .int r12.1), (0, .ref (a 0)), (1, .int x1), (2, .int x2), (3, .int x3)]) hx hb dX4_box_19 hl (by decide) rfl (fun ls hl => ?_)
    refine lv_iload hx hb dX4_box_21 (lv_at hl 0 rfl) ?_
    refine lv_if_ge (tgt := 28) hx hb dX4_box_23 (by decide) (fun c23 => ?_) (fun c23 => ?_)
    ·
      replace h := gdp h c23
      refine lv_iload_n hx hb dX4_box_28 rfl (lv_at hl 4 rfl) ?_
      by_cases c29_0 : x3 = (0 : Int32)
      ·
        replace h := gdp h c29_0
        refine tswIn (tgt := 56) (off := 27) (0 : Int32) c29_0 hx hb dX4_box_29 (by decide) (by decide) rfl (by decide) ?_
        refine lv_sipush (v := 1000) hx hb dX4_box_56 (by decide) ?_
        refine lv_aload_n hx hb dX4_box_59 rfl (lv_at hl 1 rfl) ?_
        refine va_get (D := g.1) (ci := 4) (v := .int r12.2.2.2.1) (C := RX4) (T := TX4) (N := 26) hx hb hts iX4 hown hK.1 hP 0 rfl rfl 23 (by decide) f150 (fun _ h9 => h9) rfl dX4_box_60 ?_
        refine lv_imul hx hb dX4_box_63 ?_
        refine lv_aload_n hx hb dX4_box_64 rfl (lv_at hl 1 rfl) ?_
        refine va_get (D := g.1) (ci := 4) (v := .int r12.2.2.2.2.1) (C := RX4) (T := TX4) (N := 26) hx hb hts iX4 hown hK.1 hP 0 rfl rfl 24 (by decide) f153 (fun _ h9 => h9) rfl dX4_box_65 ?_
        obtain ⟨hz, h⟩ := gdz h
        refine lv_idiv hx hb dX4_box_68 hz ?_
        obtain rfl := Option.some.inj h
        exact retMi hx hb hr hlocks hP hD hS dX4_box_69
      replace h := gdn h c29_0
      by_cases c29_1 : x3 = (1 : Int32)
      ·
        replace h := gdp h c29_1
        refine tswIn (tgt := 70) (off := 41) (1 : Int32) c29_1 hx hb dX4_box_29 (by decide) (by decide) rfl (by decide) ?_
        refine lv_sipush (v := 1000) hx hb dX4_box_70 (by decide) ?_
        refine lv_aload_n hx hb dX4_box_73 rfl (lv_at hl 1 rfl) ?_
        refine va_get (D := g.1) (ci := 4) (v := .int r12.2.2.2.2.2.1) (C := RX4) (T := TX4) (N := 26) hx hb hts iX4 hown hK.1 hP 0 rfl rfl 25 (by decide) f156 (fun _ h9 => h9) rfl dX4_box_74 ?_
        refine lv_imul hx hb dX4_box_77 ?_
        refine lv_aload_n hx hb dX4_box_78 rfl (lv_at hl 1 rfl) ?_
        refine va_get (D := g.1) (ci := 4) (v := .int r12.2.2.1) (C := RX4) (T := TX4) (N := 26) hx hb hts iX4 hown hK.1 hP 0 rfl rfl 22 (by decide) f147 (fun _ h9 => h9) rfl dX4_box_79 ?_
        obtain ⟨hz, h⟩ := gdz h
        refine lv_idiv hx hb dX4_box_82 hz ?_
        obtain rfl := Option.some.inj h
        exact retMi hx hb hr hlocks hP hD hS dX4_box_83
      replace h := gdn h c29_1
      by_cases c29_2 : x3 = (2 : Int32)
      ·
        replace h := gdp h c29_2
        refine tswIn (tgt := 84) (off := 55) (2 : Int32) c29_2 hx hb dX4_box_29 (by decide) (by decide) rfl (by decide) ?_
        refine lv_sipush (v := 1000) hx hb dX4_box_84 (by decide) ?_
        refine lv_aload_n hx hb dX4_box_87 rfl (lv_at hl 1 rfl) ?_
        refine va_get (D := g.1) (ci := 4) (v := .ref (a 14)) (C := RX4) (T := TX4) (N := 26) hx hb hts iX4 hown hK.1 hP 0 rfl rfl 20 (by decide) f57 (fun _ h9 => h9) rfl dX4_box_88 ?_
        refine lv_iload hx hb dX4_box_91 (lv_at hl 0 rfl) ?_
        obtain ⟨hi, h⟩ := gdi h
        refine va_iald (D := g.1) hx hb hK.1 hP 14 0 rfl rfl hi dX4_box_93 ?_
        refine lv_imul hx hb dX4_box_94 ?_
        refine lv_aload_n hx hb dX4_box_95 rfl (lv_at hl 1 rfl) ?_
        refine va_get (D := g.1) (ci := 4) (v := .int r12.2.2.2.2.1) (C := RX4) (T := TX4) (N := 26) hx hb hts iX4 hown hK.1 hP 0 rfl rfl 24 (by decide) f153 (fun _ h9 => h9) rfl dX4_box_96 ?_
        obtain ⟨hz, h⟩ := gdz h
        refine lv_idiv hx hb dX4_box_99 hz ?_
        obtain rfl := Option.some.inj h
        exact retMi hx hb hr hlocks hP hD hS dX4_box_100
      replace h := gdn h c29_2
      refine lv_tableOut (tgt := 101) hx hb dX4_box_29 (tsw_out (n := 3) (fun k hk => by match k, hk with | 0, _ => exact c29_0 | 1, _ => exact c29_1 | 2, _ => exact c29_2 | (k + 3), hk => exact absurd hk (by omega)) (by decide)) (by decide) ?_
      refine lv_sipush (v := 1000) hx hb dX4_box_101 (by decide) ?_
      refine lv_aload_n hx hb dX4_box_104 rfl (lv_at hl 1 rfl) ?_
      refine va_get (D := g.1) (ci := 4) (v := .int r12.2.2.2.2.1) (C := RX4) (T := TX4) (N := 26) hx hb hts iX4 hown hK.1 hP 0 rfl rfl 24 (by decide) f153 (fun _ h9 => h9) rfl dX4_box_105 ?_
      refine lv_imul hx hb dX4_box_108 ?_
      refine lv_aload_n hx hb dX4_box_109 rfl (lv_at hl 1 rfl) ?_
      refine va_get (D := g.1) (ci := 4) (v := .int r12.2.2.1) (C := RX4) (T := TX4) (N := 26) hx hb hts iX4 hown hK.1 hP 0 rfl rfl 22 (by decide) f147 (fun _ h9 => h9) rfl dX4_box_110 ?_
      obtain ⟨hz, h⟩ := gdz h
      refine lv_idiv hx hb dX4_box_113 hz ?_
      obtain rfl := Option.some.inj h
      exact retMi hx hb hr hlocks hP hD hS dX4_box_114
    ·
      replace h := gdn h c23
      refine lv_iconst (v := -1) hx hb dX4_box_26 (by decide) ?_
      obtain rfl := Option.some.inj h
      exact retMi (v := (-1 : Int32)) hx hb hr hlocks hP hD hS dX4_box_27
-- LandBoardModel.best
set_option maxHeartbeats 4000000 in
set_option maxRecDepth 100000 in
theorem ctX4_best (l : Launch) (g : GG) (a : Nat → Nat)  (mw : Int32) (mh : Int32) (mke : Int32) (mnx : Int32) (mdo : Int32) (mtr : Int64) (mma : Int32) (mto : Int32) (mah : Int32) (mrs : Int32) (mab : Int32) (ce : (Nat → Int32)) (mk : (Nat → Int32)) (mo : (Nat → Int32)) (mwa : (Nat → Int32)) (mmc : (Nat → Int32)) (mmf : (Nat → Int32)) (mhy : (Nat → Int32)) (myw : (Nat → Int32)) (myh : (Nat → Int32)) (myr : (Nat → Int32)) (mpi : (Nat → Int32)) (mme : (Nat → Int32)) (mde : (Nat → Int32)) (mwe : (Nat → Int32)) (mla : (Nat → Int32)) (res : Int32 × Int32 × Int32 × Int32 × Int32 × Int32 × (Nat → Int32) × (Nat → Int32)) (h : fX4_best mw mh mma mto mah mrs mab ce mwe mla = some res) : MM l yX4_best wsX4_best ({ frames := 2, cells := 0, slots := 0, locals := 47 }) g [.ref (a 0)] (wM g a mw mh mke mnx mdo mtr mma mto mah mrs mab ce mk mo mwa mmc mmf mhy myw myh myr mpi mme mde mwe mla) (wM g a mw mh mke mnx mdo mtr res.2.1 res.2.2.1 res.2.2.2.1 res.2.2.2.2.1 res.2.2.2.2.2.1 ce mk mo mwa mmc mmf mhy myw myh myr mpi mme mde res.2.2.2.2.2.2.1 res.2.2.2.2.2.2.2) (some (.int res.1)) := by
  refine MM.of (cc := cX4_best) (own := RX4) 11 (some .int) (by decide +kernel) rfl (Nat.le_of_ble_eq_true rfl) rfl ?_
  intro p e s m args below meth c hx hb hr hml hown hts hlocks hK A hA ls hl hP hD hS
  have S : CallFix p m c cX4_best 11 s args wsX4_best RX4 := ⟨hx, hb, hml, hown, hts⟩
  have hl : lv_has ls 11 [(0, .ref (a 0))] := hl
  have f144 := hts (.fieldLink RX4 144 "LandBoardModel" "many" "I") (by decide +kernel)
  have iX4 := (by decide +kernel : ∀ w ∈ u_ws RX4 TX4 26, w ∈ wsX4_best)
  refine lv_aload_n hx hb dX4_best_0 rfl (lv_at hl 0 rfl) ?_
  obtain ⟨r1, hr1, h⟩ := gdb h
  refine kMV (As := []) (rest := []) (ci := 4) (W1 := (wM g a mw mh mke mnx mdo mtr r1.1 r1.2.1 mah mrs mab ce mk mo mwa mmc mmf mhy myw myh myr mpi mme mde r1.2.2.1 r1.2.2.2)) (wr := []) S (ctX4_weigh l g a  mw mh mke mnx mdo mtr mma mto mah mrs mab ce mk mo mwa mmc mmf mhy myw myh myr mpi mme mde mwe mla r1 hr1) (cwV 0 hts gX4_best_X4_weigh rfl rfl rfl (by decide +kernel) ⟨Nat.le_of_ble_eq_true rfl, Nat.le_of_ble_eq_true rfl⟩) hK hP hD hS hA [0, 1, 2, 3, 4, 5, 6, 7, 8, 9, 10, 11, 12, 13, 14, 15] [] [0, 1, 2, 3, 4, 5, 6, 7, 8, 9, 10, 11, 12, 13, 14, 15] rfl rfl rfl rfl (by decide) rfl rfl rfl rfl rfl rfl hl.1 rfl (Nat.le_of_ble_eq_true rfl) dX4_best_1 ⟨Nat.zero_le _, Nat.zero_le _⟩ (fun H locs hP hD hS => ?_)
  show W p l e ({ frames := 2, cells := 0, slots := 0, locals := 47 }) s m args below meth c H locs 0 0 (MQ below (QM g (some (.int res.1)) (wM g a mw mh mke mnx mdo mtr res.2.1 res.2.2.1 res.2.2.2.1 res.2.2.2.2.1 res.2.2.2.2.2.1 ce mk mo mwa mmc mmf mhy myw myh myr mpi mme mde res.2.2.2.2.2.2.1 res.2.2.2.2.2.2.2) A) args s 0 0 A) (F0 m 4 ls [])
  refine lv_aload_n hx hb dX4_best_4 rfl (lv_at hl 0 rfl) ?_
  refine va_get (D := g.1) (ci := 4) (v := .int r1.1) (C := RX4) (T := TX4) (N := 26) hx hb hts iX4 hown hK.1 hP 0 rfl rfl 19 (by decide) f144 (fun _ h9 => h9) rfl dX4_best_5 ?_
  refine lv_if_ne (tgt := 14) hx hb dX4_best_8 (by decide) (fun c8 => ?_) (fun c8 => ?_)
  ·
    replace h := gdn h c8
    refine lv_iconst (v := -1) hx hb dX4_best_14 (by decide) ?_
    refine lv_istore_n (lv' := [(1, .int (-1 : Int32)), (0, .ref (a 0))]) hx hb dX4_best_15 rfl hl (by decide) rfl (fun ls hl => ?_)
    refine lv_iconst (v := 0) hx hb dX4_best_16 (by decide) ?_
    refine lv_istore_n (lv' := [(2, .int (0 : Int32)), (1, .int (-1 : Int32)), (0, .ref (a 0))]) hx hb dX4_best_17 rfl hl (by decide) rfl (fun ls hl => ?_)
    refine lv_iconst (v := 1) hx hb dX4_best_18 (by decide) ?_
    refine lv_istore_n (lv' := [(3, .int (1 : Int32)), (2, .int (0 : Int32)), (1, .int (-1 : Int32)), (0, .ref (a 0))]) hx hb dX4_best_19 rfl hl (by decide) rfl (fun ls hl => ?_)
    refine lv_iconst (v := 0) hx hb dX4_best_20 (by decide) ?_
    refine lv_istore (lv' := [(4, .int (0 : Int32)), (3, .int (1 : Int32)), (2, .int (0 : Int32)), (1, .int (-1 : Int32)), (0, .ref (a 0))]) hx hb dX4_best_21 hl (by decide) rfl (fun ls hl => ?_)
    obtain ⟨t23, hw23, h⟩ := gdb h
    have X23 : ∀ (H : Heap) (locs : List Loc) (ls : Array Slot), va_P g.1 vwCl (wM g a mw mh mke mnx mdo mtr r1.1 r1.2.1 t23.2.1 t23.2.2.1 t23.2.2.2 ce mk mo mwa mmc mmf mhy myw myh myr mpi mme mde r1.2.2.1 r1.2.2.2) H → va_D A (wM g a mw mh mke mnx mdo mtr r1.1 r1.2.1 t23.2.1 t23.2.2.1 t23.2.2.2 ce mk mo mwa mmc mmf mhy myw myh myr mpi mme mde r1.2.2.1 r1.2.2.2) → va_S A s.heap H locs → lv_has ls 11 [(1, .int t23.1)] → W p l e ({ frames := 2, cells := 0, slots := 0, locals := 47 }) s m args below meth c H locs 0 0 (MQ below (QM g (some (.int res.1)) (wM g a mw mh mke mnx mdo mtr res.2.1 res.2.2.1 res.2.2.2.1 res.2.2.2.2.1 res.2.2.2.2.2.1 ce mk mo mwa mmc mmf mhy myw myh myr mpi mme mde res.2.2.2.2.2.2.1 res.2.2.2.2.2.2.2) A) args s 0 0 A) (F0 m 172 ls []) := by
      intro H locs ls hP hD hS hl
      refine lv_iload_n hx hb dX4_best_172 rfl (lv_at hl 0 rfl) ?_
      obtain rfl := Option.some.inj h
      exact retMi hx hb hr hlocks hP hD hS dX4_best_173
    clear h
    have L23 : ∀ (n : Nat) (s23 : Int32 × Int32 × Int32 × Int32 × Int32 × Int32 × Int32), wh (fX4_best_23 r1) n s23 = some t23 → ∀ (H : Heap) (locs : List Loc) (ls : Array Slot), va_P g.1 vwCl (wM g a mw mh mke mnx mdo mtr r1.1 r1.2.1 s23.2.2.2.2.1 s23.2.2.2.2.2.1 s23.2.2.2.2.2.2 ce mk mo mwa mmc mmf mhy myw myh myr mpi mme mde r1.2.2.1 r1.2.2.2) H → va_D A (wM g a mw mh mke mnx mdo mtr r1.1 r1.2.1 s23.2.2.2.2.1 s23.2.2.2.2.2.1 s23.2.2.2.2.2.2 ce mk mo mwa mmc mmf mhy myw myh myr mpi mme mde r1.2.2.1 r1.2.2.2) → va_S A s.heap H locs → lv_has ls 11 [(0, .ref (a 0)), (1, .int s23.1), (2, .int s23.2.1), (3, .int s23.2.2.1), (4, .int s23.2.2.2.1)] → W p l e ({ frames := 2, cells := 0, slots := 0, locals := 47 }) s m args below meth c H locs 0 0 (MQ below (QM g (some (.int res.1)) (wM g a mw mh mke mnx mdo mtr res.2.1 res.2.2.1 res.2.2.2.1 res.2.2.2.2.1 res.2.2.2.2.2.1 ce mk mo mwa mmc mmf mhy myw myh myr mpi mme mde res.2.2.2.2.2.2.1 res.2.2.2.2.2.2.2) A) args s 0 0 A) (F0 m 23 ls []) := by
      intro n
      induction n with
      | zero => intro s23 hw; exact (wh_0 hw).elim
      | succ n ih23 =>
        intro s23 hw H locs ls hP hD hS hl
        obtain ⟨r0, h, hr23⟩ := wh_s hw
        refine lv_iload hx hb dX4_best_23 (lv_at hl 4 rfl) ?_
        refine lv_iconst (v := 1) hx hb dX4_best_25 (by decide) ?_
        refine lv_aload_n hx hb dX4_best_26 rfl (lv_at hl 0 rfl) ?_
        refine va_get (D := g.1) (ci := 4) (v := .int r1.1) (C := RX4) (T := TX4) (N := 26) hx hb hts iX4 hown hK.1 hP 0 rfl rfl 19 (by decide) f144 (fun _ h9 => h9) rfl dX4_best_27 ?_
        refine lv_iconst (v := 1) hx hb dX4_best_30 (by decide) ?_
        refine lv_isub hx hb dX4_best_31 ?_
        refine lv_ishl hx hb dX4_best_32 ?_
        refine lv_icmp_ge (tgt := 172) hx hb dX4_best_33 (by decide) (fun c33 => ?_) (fun c33 => ?_)
        ·
          replace h := gdp h c33
          obtain rfl := Option.some.inj h
          have e0 : (s23.1, s23.2.2.2.2.1, s23.2.2.2.2.2.1, s23.2.2.2.2.2.2) = t23 := hr23
          subst e0
          exact X23 _ _ _ hP hD hS (lv_sub hl [1] rfl)
        ·
          replace h := gdn h c33
          refine lv_iconst (v := 0) hx hb dX4_best_36 (by decide) ?_
          refine lv_istore (lv' := [(5, .int (0 : Int32)), (0, .ref (a 0)), (1, .int s23.1), (2, .int s23.2.1), (3, .int s23.2.2.1), (4, .int s23.2.2.2.1)]) hx hb dX4_best_37 hl (by decide) rfl (fun ls hl => ?_)
          refine lv_iconst (v := 1) hx hb dX4_best_39 (by decide) ?_
          refine lv_istore (lv' := [(6, .int (1 : Int32)), (5, .int (0 : Int32)), (0, .ref (a 0)), (1, .int s23.1), (2, .int s23.2.1), (3, .int s23.2.2.1), (4, .int s23.2.2.2.1)]) hx hb dX4_best_40 hl (by decide) rfl (fun ls hl => ?_)
          refine lv_iconst (v := 0) hx hb dX4_best_42 (by decide) ?_
          refine lv_istore (lv' := [(7, .int (0 : Int32)), (6, .int (1 : Int32)), (5, .int (0 : Int32)), (0, .ref (a 0)), (1, .int s23.1), (2, .int s23.2.1), (3, .int s23.2.2.1), (4, .int s23.2.2.2.1)]) hx hb dX4_best_43 hl (by decide) rfl (fun ls hl => ?_)
          obtain ⟨t45, hw45, h⟩ := gdb h
          have X45 : ∀ (H : Heap) (locs : List Loc) (ls : Array Slot), va_P g.1 vwCl (wM g a mw mh mke mnx mdo mtr r1.1 r1.2.1 t45.2.2.1 t45.2.2.2.1 t45.2.2.2.2 ce mk mo mwa mmc mmf mhy myw myh myr mpi mme mde r1.2.2.1 r1.2.2.2) H → va_D A (wM g a mw mh mke mnx mdo mtr r1.1 r1.2.1 t45.2.2.1 t45.2.2.2.1 t45.2.2.2.2 ce mk mo mwa mmc mmf mhy myw myh myr mpi mme mde r1.2.2.1 r1.2.2.2) → va_S A s.heap H locs → lv_has ls 11 [(0, .ref (a 0)), (1, .int s23.1), (2, .int s23.2.1), (3, .int s23.2.2.1), (4, .int s23.2.2.2.1), (5, .int t45.1), (6, .int t45.2.1)] → W p l e ({ frames := 2, cells := 0, slots := 0, locals := 47 }) s m args below meth c H locs 0 0 (MQ below (QM g (some (.int res.1)) (wM g a mw mh mke mnx mdo mtr res.2.1 res.2.2.1 res.2.2.2.1 res.2.2.2.2.1 res.2.2.2.2.2.1 ce mk mo mwa mmc mmf mhy myw myh myr mpi mme mde res.2.2.2.2.2.2.1 res.2.2.2.2.2.2.2) A) args s 0 0 A) (F0 m 137 ls []) := by
            intro H locs ls hP hD hS hl
            refine lv_iload_n hx hb dX4_best_137 rfl (lv_at hl 1 rfl) ?_
            refine lv_if_lt (tgt := 157) hx hb dX4_best_138 (by decide) (fun c138 => ?_) (fun c138 => ?_)
            ·
              replace h := gdp h c138
              refine lv_iload hx hb dX4_best_157 (lv_at hl 4 rfl) ?_
              refine lv_istore_n (lv' := [(1, .int s23.2.2.2.1), (0, .ref (a 0)), (2, .int s23.2.1), (3, .int s23.2.2.1), (4, .int s23.2.2.2.1), (5, .int t45.1), (6, .int t45.2.1)]) hx hb dX4_best_159 rfl hl (by decide) rfl (fun ls hl => ?_)
              refine lv_iload hx hb dX4_best_160 (lv_at hl 5 rfl) ?_
              refine lv_istore_n (lv' := [(2, .int t45.1), (1, .int s23.2.2.2.1), (0, .ref (a 0)), (3, .int s23.2.2.1), (4, .int s23.2.2.2.1), (5, .int t45.1), (6, .int t45.2.1)]) hx hb dX4_best_162 rfl hl (by decide) rfl (fun ls hl => ?_)
              refine lv_iload hx hb dX4_best_163 (lv_at hl 6 rfl) ?_
              refine lv_istore_n (lv' := [(3, .int t45.2.1), (2, .int t45.1), (1, .int s23.2.2.2.1), (0, .ref (a 0)), (4, .int s23.2.2.2.1), (5, .int t45.1), (6, .int t45.2.1)]) hx hb dX4_best_165 rfl hl (by decide) rfl (fun ls hl => ?_)
              refine lv_iinc (v := (s23.2.2.2.1 + 1)) (lv' := [(4, .int (s23.2.2.2.1 + 1)), (3, .int t45.2.1), (2, .int t45.1), (1, .int s23.2.2.2.1), (0, .ref (a 0)), (5, .int t45.1), (6, .int t45.2.1)]) hx hb dX4_best_166 hl (k := 4) rfl rfl (by decide) rfl (fun ls hl => ?_)
              refine lv_goto (tgt := 23) hx hb dX4_best_169 (by decide) ?_
              obtain rfl := Option.some.inj h
              exact ih23 (s23.2.2.2.1, t45.1, t45.2.1, (s23.2.2.2.1 + 1), t45.2.2.1, t45.2.2.2.1, t45.2.2.2.2) hr23 _ _ _ hP hD hS (lv_sub hl [4, 3, 2, 1, 0] rfl)
            ·
              replace h := gdn h c138
              refine lv_iload hx hb dX4_best_141 (lv_at hl 5 rfl) ?_
              refine lv_i2l (v := (t45.1).toInt64) hx hb dX4_best_143 rfl ?_
              refine lv_iload_n hx hb dX4_best_144 rfl (lv_at hl 3 rfl) ?_
              refine lv_i2l (v := (s23.2.2.1).toInt64) hx hb dX4_best_145 rfl ?_
              refine lv_lmul hx hb dX4_best_146 ?_
              refine lv_iload_n hx hb dX4_best_147 rfl (lv_at hl 2 rfl) ?_
              refine lv_i2l (v := (s23.2.1).toInt64) hx hb dX4_best_148 rfl ?_
              refine lv_iload hx hb dX4_best_149 (lv_at hl 6 rfl) ?_
              refine lv_i2l (v := (t45.2.1).toInt64) hx hb dX4_best_151 rfl ?_
              refine lv_lmul hx hb dX4_best_152 ?_
              refine W.lcmp hx hb dX4_best_153 ?_
              refine lv_if_ge (tgt := 166) hx hb dX4_best_154 (by decide) (fun c154 => ?_) (fun c154 => ?_)
              ·
                replace h := gdp h c154
                refine lv_iinc (v := (s23.2.2.2.1 + 1)) (lv' := [(4, .int (s23.2.2.2.1 + 1)), (0, .ref (a 0)), (1, .int s23.1), (2, .int s23.2.1), (3, .int s23.2.2.1), (5, .int t45.1), (6, .int t45.2.1)]) hx hb dX4_best_166 hl (k := 4) rfl rfl (by decide) rfl (fun ls hl => ?_)
                refine lv_goto (tgt := 23) hx hb dX4_best_169 (by decide) ?_
                obtain rfl := Option.some.inj h
                exact ih23 (s23.1, s23.2.1, s23.2.2.1, (s23.2.2.2.1 + 1), t45.2.2.1, t45.2.2.2.1, t45.2.2.2.2) hr23 _ _ _ hP hD hS (lv_sub hl [1, 2, 3, 4, 0] rfl)
              ·
                replace h := gdn h c154
                refine lv_iload hx hb dX4_best_157 (lv_at hl 4 rfl) ?_
                refine lv_istore_n (lv' := [(1, .int s23.2.2.2.1), (0, .ref (a 0)), (2, .int s23.2.1), (3, .int s23.2.2.1), (4, .int s23.2.2.2.1), (5, .int t45.1), (6, .int t45.2.1)]) hx hb dX4_best_159 rfl hl (by decide) rfl (fun ls hl => ?_)
                refine lv_iload hx hb dX4_best_160 (lv_at hl 5 rfl) ?_
                refine lv_istore_n (lv' := [(2, .int t45.1), (1, .int s23.2.2.2.1), (0, .ref (a 0)), (3, .int s23.2.2.1), (4, .int s23.2.2.2.1), (5, .int t45.1), (6, .int t45.2.1)]) hx hb dX4_best_162 rfl hl (by decide) rfl (fun ls hl => ?_)
                refine lv_iload hx hb dX4_best_163 (lv_at hl 6 rfl) ?_
                refine lv_istore_n (lv' := [(3, .int t45.2.1), (2, .int t45.1), (1, .int s23.2.2.2.1), (0, .ref (a 0)), (4, .int s23.2.2.2.1), (5, .int t45.1), (6, .int t45.2.1)]) hx hb dX4_best_165 rfl hl (by decide) rfl (fun ls hl => ?_)
                refine lv_iinc (v := (s23.2.2.2.1 + 1)) (lv' := [(4, .int (s23.2.2.2.1 + 1)), (3, .int t45.2.1), (2, .int t45.1), (1, .int s23.2.2.2.1), (0, .ref (a 0)), (5, .int t45.1), (6, .int t45.2.1)]) hx hb dX4_best_166 hl (k := 4) rfl rfl (by decide) rfl (fun ls hl => ?_)
                refine lv_goto (tgt := 23) hx hb dX4_best_169 (by decide) ?_
                obtain rfl := Option.some.inj h
                exact ih23 (s23.2.2.2.1, t45.1, t45.2.1, (s23.2.2.2.1 + 1), t45.2.2.1, t45.2.2.2.1, t45.2.2.2.2) hr23 _ _ _ hP hD hS (lv_sub hl [4, 3, 2, 1, 0] rfl)
          clear h
          have L45 : ∀ (n : Nat) (s45 : Int32 × Int32 × Int32 × Int32 × Int32 × Int32), wh (fX4_best_45 r1 s23) n s45 = some t45 → ∀ (H : Heap) (locs : List Loc) (ls : Array Slot), va_P g.1 vwCl (wM g a mw mh mke mnx mdo mtr r1.1 r1.2.1 s45.2.2.2.1 s45.2.2.2.2.1 s45.2.2.2.2.2 ce mk mo mwa mmc mmf mhy myw myh myr mpi mme mde r1.2.2.1 r1.2.2.2) H → va_D A (wM g a mw mh mke mnx mdo mtr r1.1 r1.2.1 s45.2.2.2.1 s45.2.2.2.2.1 s45.2.2.2.2.2 ce mk mo mwa mmc mmf mhy myw myh myr mpi mme mde r1.2.2.1 r1.2.2.2) → va_S A s.heap H locs → lv_has ls 11 [(0, .ref (a 0)), (1, .int s23.1), (2, .int s23.2.1), (3, .int s23.2.2.1), (4, .int s23.2.2.2.1), (5, .int s45.1), (6, .int s45.2.1), (7, .int s45.2.2.1)] → W p l e ({ frames := 2, cells := 0, slots := 0, locals := 47 }) s m args below meth c H locs 0 0 (MQ below (QM g (some (.int res.1)) (wM g a mw mh mke mnx mdo mtr res.2.1 res.2.2.1 res.2.2.2.1 res.2.2.2.2.1 res.2.2.2.2.2.1 ce mk mo mwa mmc mmf mhy myw myh myr mpi mme mde res.2.2.2.2.2.2.1 res.2.2.2.2.2.2.2) A) args s 0 0 A) (F0 m 45 ls []) := by
            intro n
            induction n with
            | zero => intro s45 hw; exact (wh_0 hw).elim
            | succ n ih45 =>
              intro s45 hw H locs ls hP hD hS hl
              obtain ⟨r0, h, hr45⟩ := wh_s hw
              refine lv_iload hx hb dX4_best_45 (lv_at hl 7 rfl) ?_
              refine lv_aload_n hx hb dX4_best_47 rfl (lv_at hl 0 rfl) ?_
              refine va_get (D := g.1) (ci := 4) (v := .int r1.1) (C := RX4) (T := TX4) (N := 26) hx hb hts iX4 hown hK.1 hP 0 rfl rfl 19 (by decide) f144 (fun _ h9 => h9) rfl dX4_best_48 ?_
              refine lv_icmp_ge (tgt := 137) hx hb dX4_best_51 (by decide) (fun c51 => ?_) (fun c51 => ?_)
              ·
                replace h := gdp h c51
                obtain rfl := Option.some.inj h
                have e0 : (s45.1, s45.2.1, s45.2.2.2.1, s45.2.2.2.2.1, s45.2.2.2.2.2) = t45 := hr45
                subst e0
                exact X45 _ _ _ hP hD hS (lv_sub hl [0, 1, 2, 3, 4, 5, 6] rfl)
              ·
                replace h := gdn h c51
                refine lv_aload_n hx hb dX4_best_54 rfl (lv_at hl 0 rfl) ?_
                refine lv_iload hx hb dX4_best_55 (lv_at hl 4 rfl) ?_
                refine lv_iload hx hb dX4_best_57 (lv_at hl 7 rfl) ?_
                obtain ⟨r59, hr59, h⟩ := gdb h
                refine kMV (As := [.int s23.2.2.2.1, .int s45.2.2.1]) (rest := []) (ci := 4) (W1 := (wM g a mw mh mke mnx mdo mtr r1.1 r1.2.1 r59.1 r59.2.1 r59.2.2 ce mk mo mwa mmc mmf mhy myw myh myr mpi mme mde r1.2.2.1 r1.2.2.2)) (wr := []) S (ctX4_lay l g a s23.2.2.2.1 s45.2.2.1 mw mh mke mnx mdo mtr r1.1 r1.2.1 s45.2.2.2.1 s45.2.2.2.2.1 s45.2.2.2.2.2 ce mk mo mwa mmc mmf mhy myw myh myr mpi mme mde r1.2.2.1 r1.2.2.2 r59 hr59) (cwV 2 hts gX4_best_X4_lay rfl rfl rfl (by decide +kernel) ⟨Nat.le_of_ble_eq_true rfl, Nat.le_of_ble_eq_true rfl⟩) hK hP hD hS hA [0, 1, 2, 3, 4, 5, 6, 7, 8, 9, 10, 11, 12, 13, 14, 15] [] [0, 1, 2, 3, 4, 5, 6, 7, 8, 9, 10, 11, 12, 13, 14, 15] rfl rfl rfl rfl (by decide) rfl rfl rfl rfl rfl rfl hl.1 rfl (Nat.le_of_ble_eq_true rfl) dX4_best_59 ⟨Nat.zero_le _, Nat.zero_le _⟩ (fun H locs hP hD hS => ?_)
                show W p l e ({ frames := 2, cells := 0, slots := 0, locals := 47 }) s m args below meth c H locs 0 0 (MQ below (QM g (some (.int res.1)) (wM g a mw mh mke mnx mdo mtr res.2.1 res.2.2.1 res.2.2.2.1 res.2.2.2.2.1 res.2.2.2.2.2.1 ce mk mo mwa mmc mmf mhy myw myh myr mpi mme mde res.2.2.2.2.2.2.1 res.2.2.2.2.2.2.2) A) args s 0 0 A) (F0 m 62 ls [])
                refine lv_aload_n hx hb dX4_best_62 rfl (lv_at hl 0 rfl) ?_
                refine lv_iload hx hb dX4_best_63 (lv_at hl 7 rfl) ?_
                obtain ⟨r65, hr65, h⟩ := gdb h
                refine kPV (As := [.int s45.2.2.1]) (rest := []) (ci := 4) S (ctX4_longUp l g a s45.2.2.1 mw mh mke mnx mdo mtr r1.1 r1.2.1 r59.1 r59.2.1 r59.2.2 ce mk mo mwa mmc mmf mhy myw myh myr mpi mme mde r1.2.2.1 r1.2.2.2 r65 hr65) (cwV 1 hts gX4_best_X4_longUp rfl rfl rfl (by decide +kernel) ⟨Nat.le_of_ble_eq_true rfl, Nat.le_of_ble_eq_true rfl⟩) hK hP [0, 1, 2, 3, 4, 5, 6, 7, 8, 9, 10, 11, 12, 13, 14, 15] rfl rfl rfl rfl rfl hl.1 rfl (Nat.le_of_ble_eq_true rfl) dX4_best_65 ⟨Nat.zero_le _, Nat.zero_le _⟩ ?_
                refine lv_istore (lv' := [(8, .int r65), (0, .ref (a 0)), (1, .int s23.1), (2, .int s23.2.1), (3, .int s23.2.2.1), (4, .int s23.2.2.2.1), (5, .int s45.1), (6, .int s45.2.1), (7, .int s45.2.2.1)]) hx hb dX4_best_68 hl (by decide) rfl (fun ls hl => ?_)
                refine lv_aload_n hx hb dX4_best_70 rfl (lv_at hl 1 rfl) ?_
                refine lv_iload hx hb dX4_best_71 (lv_at hl 8 rfl) ?_
                obtain ⟨r73, hr73, h⟩ := gdb h
                refine kPV (As := [.int s45.2.2.1]) (rest := []) (ci := 4) S (ctX4_longDown l g a s45.2.2.1 mw mh mke mnx mdo mtr r1.1 r1.2.1 r59.1 r59.2.1 r59.2.2 ce mk mo mwa mmc mmf mhy myw myh myr mpi mme mde r1.2.2.1 r1.2.2.2 r73 hr73) (cwV 1 hts gX4_best_X4_longDown rfl rfl rfl (by decide +kernel) ⟨Nat.le_of_ble_eq_true rfl, Nat.le_of_ble_eq_true rfl⟩) hK hP [0, 1, 2, 3, 4, 5, 6, 7, 8, 9, 10, 11, 12, 13, 14, 15] rfl rfl rfl rfl rfl hl.1 rfl (Nat.le_of_ble_eq_true rfl) dX4_best_73 ⟨Nat.zero_le _, Nat.zero_le _⟩ ?_
                refine lv_istore (lv' := [(9, .int r73), (8, .int r65), (0, .ref (a 0)), (1, .int s23.1), (2, .int s23.2.1), (3, .int s23.2.2.1), (4, .int s23.2.2.2.1), (5, .int s45.1), (6, .int s45.2.1), (7, .int s45.2.2.1)]) hx hb dX4_best_76 hl (by decide) rfl (fun ls hl => ?_)
                refine lv_iload hx hb dX4_best_78 (lv_at hl 1 rfl) ?_
                refine lv_i2l (v := (r65).toInt64) hx hb dX4_best_80 rfl ?_
                refine lv_iload hx hb dX4_best_81 (lv_at hl 8 rfl) ?_
                refine lv_i2l (v := (s45.2.1).toInt64) hx hb dX4_best_83 rfl ?_
                refine lv_lmul hx hb dX4_best_84 ?_
                refine lv_iload hx hb dX4_best_85 (lv_at hl 7 rfl) ?_
                refine lv_i2l (v := (s45.1).toInt64) hx hb dX4_best_87 rfl ?_
                refine lv_iload hx hb dX4_best_88 (lv_at hl 0 rfl) ?_
                refine lv_i2l (v := (r73).toInt64) hx hb dX4_best_90 rfl ?_
                refine lv_lmul hx hb dX4_best_91 ?_
                refine W.lcmp hx hb dX4_best_92 ?_
                refine lv_if_le (tgt := 100) hx hb dX4_best_93 (by decide) (fun c93 => ?_) (fun c93 => ?_)
                ·
                  replace h := gdp h c93
                  refine lv_iconst (v := 0) hx hb dX4_best_100 (by decide) ?_
                  refine lv_istore (lv' := [(10, .int (0 : Int32)), (9, .int r73), (8, .int r65), (0, .ref (a 0)), (1, .int s23.1), (2, .int s23.2.1), (3, .int s23.2.2.1), (4, .int s23.2.2.2.1), (5, .int s45.1), (6, .int s45.2.1), (7, .int s45.2.2.1)]) hx hb dX4_best_101 hl (by decide) rfl (fun ls hl => ?_)
                  refine lv_iload hx hb dX4_best_103 (lv_at hl 0 rfl) ?_
                  refine lv_if_eq (tgt := 113) hx hb dX4_best_105 (by decide) (fun c105 => ?_) (fun c105 => ?_)
                  ·
                    refine lv_iload hx hb dX4_best_113 (lv_at hl 8 rfl) ?_
                    refine lv_istore (lv' := [(5, .int s45.1), (10, .int (0 : Int32)), (9, .int r73), (8, .int r65), (0, .ref (a 0)), (1, .int s23.1), (2, .int s23.2.1), (3, .int s23.2.2.1), (4, .int s23.2.2.2.1), (6, .int s45.2.1), (7, .int s45.2.2.1)]) hx hb dX4_best_115 hl (by decide) rfl (fun ls hl => ?_)
                    refine lv_iload hx hb dX4_best_117 (lv_at hl 1 rfl) ?_
                    refine lv_if_eq (tgt := 127) hx hb dX4_best_119 (by decide) (fun c119 => ?_) (fun c119 => ?_)
                    ·
                      refine lv_iload hx hb dX4_best_127 (lv_at hl 9 rfl) ?_
                      refine lv_istore (lv' := [(6, .int s45.2.1), (5, .int s45.1), (10, .int (0 : Int32)), (9, .int r73), (8, .int r65), (0, .ref (a 0)), (1, .int s23.1), (2, .int s23.2.1), (3, .int s23.2.2.1), (4, .int s23.2.2.2.1), (7, .int s45.2.2.1)]) hx hb dX4_best_129 hl (by decide) rfl (fun ls hl => ?_)
                      refine lv_iinc (v := (s45.2.2.1 + 1)) (lv' := [(7, .int (s45.2.2.1 + 1)), (6, .int s45.2.1), (5, .int s45.1), (10, .int (0 : Int32)), (9, .int r73), (8, .int r65), (0, .ref (a 0)), (1, .int s23.1), (2, .int s23.2.1), (3, .int s23.2.2.1), (4, .int s23.2.2.2.1)]) hx hb dX4_best_131 hl (k := 10) rfl rfl (by decide) rfl (fun ls hl => ?_)
                      refine lv_goto (tgt := 45) hx hb dX4_best_134 (by decide) ?_
                      obtain rfl := Option.some.inj h
                      exact ih45 (s45.1, s45.2.1, (s45.2.2.1 + 1), r59.1, r59.2.1, r59.2.2) hr45 _ _ _ hP hD hS (lv_sub hl [6, 7, 8, 9, 10, 2, 1, 0] rfl)
                    ·
                      exact absurd c119 (by decide)
                  ·
                    exact absurd c105 (by decide)
                ·
                  replace h := gdn h c93
                  refine lv_iconst (v := 1) hx hb dX4_best_96 (by decide) ?_
                  refine lv_goto (tgt := 101) hx hb dX4_best_97 (by decide) ?_
                  refine lv_istore (lv' := [(10, .int (1 : Int32)), (9, .int r73), (8, .int r65), (0, .ref (a 0)), (1, .int s23.1), (2, .int s23.2.1), (3, .int s23.2.2.1), (4, .int s23.2.2.2.1), (5, .int s45.1), (6, .int s45.2.1), (7, .int s45.2.2.1)]) hx hb dX4_best_101 hl (by decide) rfl (fun ls hl => ?_)
                  refine lv_iload hx hb dX4_best_103 (lv_at hl 0 rfl) ?_
                  refine lv_if_eq (tgt := 113) hx hb dX4_best_105 (by decide) (fun c105 => ?_) (fun c105 => ?_)
                  ·
                    exact absurd c105 (by decide)
                  ·
                    refine lv_iload hx hb dX4_best_108 (lv_at hl 2 rfl) ?_
                    refine lv_goto (tgt := 115) hx hb dX4_best_110 (by decide) ?_
                    refine lv_istore (lv' := [(5, .int r65), (10, .int (1 : Int32)), (9, .int r73), (8, .int r65), (0, .ref (a 0)), (1, .int s23.1), (2, .int s23.2.1), (3, .int s23.2.2.1), (4, .int s23.2.2.2.1), (6, .int s45.2.1), (7, .int s45.2.2.1)]) hx hb dX4_best_115 hl (by decide) rfl (fun ls hl => ?_)
                    refine lv_iload hx hb dX4_best_117 (lv_at hl 1 rfl) ?_
                    refine lv_if_eq (tgt := 127) hx hb dX4_best_119 (by decide) (fun c119 => ?_) (fun c119 => ?_)
                    ·
                      exact absurd c119 (by decide)
                    ·
                      refine lv_iload hx hb dX4_best_122 (lv_at hl 2 rfl) ?_
                      refine lv_goto (tgt := 129) hx hb dX4_best_124 (by decide) ?_
                      refine lv_istore (lv' := [(6, .int r73), (5, .int r65), (10, .int (1 : Int32)), (9, .int r73), (8, .int r65), (0, .ref (a 0)), (1, .int s23.1), (2, .int s23.2.1), (3, .int s23.2.2.1), (4, .int s23.2.2.2.1), (7, .int s45.2.2.1)]) hx hb dX4_best_129 hl (by decide) rfl (fun ls hl => ?_)
                      refine lv_iinc (v := (s45.2.2.1 + 1)) (lv' := [(7, .int (s45.2.2.1 + 1)), (6, .int r73), (5, .int r65), (10, .int (1 : Int32)), (9, .int r73), (8, .int r65), (0, .ref (a 0)), (1, .int s23.1), (2, .int s23.2.1), (3, .int s23.2.2.1), (4, .int s23.2.2.2.1)]) hx hb dX4_best_131 hl (k := 10) rfl rfl (by decide) rfl (fun ls hl => ?_)
                      refine lv_goto (tgt := 45) hx hb dX4_best_134 (by decide) ?_
                      obtain rfl := Option.some.inj h
                      exact ih45 (r65, r73, (s45.2.2.1 + 1), r59.1, r59.2.1, r59.2.2) hr45 _ _ _ hP hD hS (lv_sub hl [6, 7, 8, 9, 10, 2, 1, 0] rfl)
          exact L45 _ ((0 : Int32), (1 : Int32), (0 : Int32), s23.2.2.2.2.1, s23.2.2.2.2.2.1, s23.2.2.2.2.2.2) hw45 _ _ _ hP hD hS (lv_sub hl [3, 4, 5, 6, 7, 2, 1, 0] rfl)
    exact L23 _ ((-1 : Int32), (0 : Int32), (1 : Int32), (0 : Int32), mah, mrs, mab) hw23 _ _ _ hP hD hS (lv_sub hl [4, 3, 2, 1, 0] rfl)
  ·
    replace h := gdp h c8
    refine lv_bipush (v := -9) hx hb dX4_best_11 (by decide) ?_
    obtain rfl := Option.some.inj h
    exact retMi (v := (-9 : Int32)) hx hb hr hlocks hP hD hS dX4_best_13
-- LandBoardModel.isYear
set_option maxHeartbeats 4000000 in
set_option maxRecDepth 100000 in
theorem ctX4_isYear (l : Launch) (g : GG) (x0 : Int32)  (res : Int32) (h : fX4_isYear x0 = res) : MP l yX4_isYear wsX4_isYear ({ frames := 1, cells := 0, slots := 0, locals := 22 }) g [.int x0] (wN g) (.int res) := by
  refine MP.of (cc := cX4_isYear) (own := RX4) 1 (some .boolean) (by decide +kernel) rfl (Nat.le_of_ble_eq_true rfl) rfl ?_
  intro p e s m args below meth c hx hb hr hml hown hts hlocks hP hK ls hl
  have S : CallFix p m c cX4_isYear 1 s args wsX4_isYear RX4 := ⟨hx, hb, hml, hown, hts⟩
  have hl : lv_has ls 1 [(0, .int x0)] := hl
  refine lv_iload_n hx hb dX4_isYear_0 rfl (lv_at hl 0 rfl) ?_
  refine lv_iconst (v := 0) hx hb dX4_isYear_1 (by decide) ?_
  refine lv_iconst (v := 3) hx hb dX4_isYear_2 (by decide) ?_
  refine kPS (As := [.int x0, .int (0 : Int32), .int (3 : Int32)]) (rest := []) S (ctX4_in l g x0 (0 : Int32) (3 : Int32)  (fX4_in x0 (0 : Int32) (3 : Int32)) rfl) (va_cwS 3 hts gX4_isYear_X4_in rfl rfl rfl (by decide +kernel) ⟨Nat.le_of_ble_eq_true rfl, Nat.le_of_ble_eq_true rfl⟩) hK rfl rfl hl.1 rfl (Nat.le_of_ble_eq_true rfl) dX4_isYear_3 ⟨Nat.zero_le _, Nat.zero_le _⟩ ?_
  subst h
  exact retPz hx hb hr hlocks z_X4_isYear dX4_isYear_6
-- LandBoardModel.landCells
set_option maxHeartbeats 4000000 in
set_option maxRecDepth 100000 in
theorem ctX4_landCells (l : Launch) (g : GG) (a : Nat → Nat)  (mw : Int32) (mh : Int32) (mke : Int32) (mnx : Int32) (mdo : Int32) (mtr : Int64) (mma : Int32) (mto : Int32) (mah : Int32) (mrs : Int32) (mab : Int32) (ce : (Nat → Int32)) (mk : (Nat → Int32)) (mo : (Nat → Int32)) (mwa : (Nat → Int32)) (mmc : (Nat → Int32)) (mmf : (Nat → Int32)) (mhy : (Nat → Int32)) (myw : (Nat → Int32)) (myh : (Nat → Int32)) (myr : (Nat → Int32)) (mpi : (Nat → Int32)) (mme : (Nat → Int32)) (mde : (Nat → Int32)) (mwe : (Nat → Int32)) (mla : (Nat → Int32)) (res : Int32) (h : fX4_landCells mw mh ce = some res) : MP l yX4_landCells wsX4_landCells ({ frames := 1, cells := 0, slots := 0, locals := 23 }) g [.ref (a 0)] (wM g a mw mh mke mnx mdo mtr mma mto mah mrs mab ce mk mo mwa mmc mmf mhy myw myh myr mpi mme mde mwe mla) (.int res) := by
  refine MP.of (cc := cX4_landCells) (own := RX4) 1 (some .int) (by decide +kernel) rfl (Nat.le_of_ble_eq_true rfl) rfl ?_
  intro p e s m args below meth c hx hb hr hml hown hts hlocks hP hK ls hl
  have S : CallFix p m c cX4_landCells 1 s args wsX4_landCells RX4 := ⟨hx, hb, hml, hown, hts⟩
  have hl : lv_has ls 1 [(0, .ref (a 0))] := hl
  have f7 := hts (.fieldLink RX4 7 "LandBoardModel" "w" "I") (by decide +kernel)
  have iX4 := (by decide +kernel : ∀ w ∈ u_ws RX4 TX4 26, w ∈ wsX4_landCells)
  have f13 := hts (.fieldLink RX4 13 "LandBoardModel" "h" "I") (by decide +kernel)
  refine lv_aload_n hx hb dX4_landCells_0 rfl (lv_at hl 0 rfl) ?_
  refine va_get (D := g.1) (ci := 4) (v := .int mw) (C := RX4) (T := TX4) (N := 26) hx hb hts iX4 hown hK.1 hP 0 rfl rfl 0 (by decide) f7 (fun _ h9 => h9) rfl dX4_landCells_1 ?_
  refine lv_aload_n hx hb dX4_landCells_4 rfl (lv_at hl 0 rfl) ?_
  refine va_get (D := g.1) (ci := 4) (v := .int mh) (C := RX4) (T := TX4) (N := 26) hx hb hts iX4 hown hK.1 hP 0 rfl rfl 1 (by decide) f13 (fun _ h9 => h9) rfl dX4_landCells_5 ?_
  refine lv_imul hx hb dX4_landCells_8 ?_
  refine lv_aload_n hx hb dX4_landCells_9 rfl (lv_at hl 0 rfl) ?_
  refine lv_bipush (v := -4) hx hb dX4_landCells_10 (by decide) ?_
  obtain ⟨r12, hr12, h⟩ := gdb h
  refine kPV (As := [.int (-4 : Int32)]) (rest := [.int (mw * mh)]) (ci := 4) S (ctX4_sizeOf l g a (-4 : Int32) mw mh mke mnx mdo mtr mma mto mah mrs mab ce mk mo mwa mmc mmf mhy myw myh myr mpi mme mde mwe mla r12 hr12) (cwV 1 hts gX4_landCells_X4_sizeOf rfl rfl rfl (by decide +kernel) ⟨Nat.le_of_ble_eq_true rfl, Nat.le_of_ble_eq_true rfl⟩) hK hP [0, 1, 2, 3, 4, 5, 6, 7, 8, 9, 10, 11, 12, 13, 14, 15] rfl rfl rfl rfl rfl hl.1 rfl (Nat.le_of_ble_eq_true rfl) dX4_landCells_12 ⟨Nat.zero_le _, Nat.zero_le _⟩ ?_
  refine lv_isub hx hb dX4_landCells_15 ?_
  obtain rfl := Option.some.inj h
  exact retPi hx hb hr hlocks dX4_landCells_16
-- LandBoardModel.keep
set_option maxHeartbeats 4000000 in
set_option maxRecDepth 100000 in
theorem ctX4_keep (l : Launch) (g : GG) (a : Nat → Nat) (x1 : Int32) (mw : Int32) (mh : Int32) (mke : Int32) (mnx : Int32) (mdo : Int32) (mtr : Int64) (mma : Int32) (mto : Int32) (mah : Int32) (mrs : Int32) (mab : Int32) (ce : (Nat → Int32)) (mk : (Nat → Int32)) (mo : (Nat → Int32)) (mwa : (Nat → Int32)) (mmc : (Nat → Int32)) (mmf : (Nat → Int32)) (mhy : (Nat → Int32)) (myw : (Nat → Int32)) (myh : (Nat → Int32)) (myr : (Nat → Int32)) (mpi : (Nat → Int32)) (mme : (Nat → Int32)) (mde : (Nat → Int32)) (mwe : (Nat → Int32)) (mla : (Nat → Int32)) (res : Int32 × (Nat → Int32) × (Nat → Int32) × (Nat → Int32) × (Nat → Int32)) (h : fX4_keep x1 mw mh ce mhy myw myh myr = some res) : MM l yX4_keep wsX4_keep ({ frames := 2, cells := 0, slots := 0, locals := 43 }) g [.ref (a 0), .int x1] (wM g a mw mh mke mnx mdo mtr mma mto mah mrs mab ce mk mo mwa mmc mmf mhy myw myh myr mpi mme mde mwe mla) (wM g a mw mh mke mnx mdo mtr mma mto mah mrs mab ce mk mo mwa mmc mmf res.2.1 res.2.2.1 res.2.2.2.1 res.2.2.2.2 mpi mme mde mwe mla) (some (.int res.1)) := by
  refine MM.of (cc := cX4_keep) (own := RX4) 3 (some .int) (by decide +kernel) rfl (Nat.le_of_ble_eq_true rfl) rfl ?_
  intro p e s m args below meth c hx hb hr hml hown hts hlocks hK A hA ls hl hP hD hS
  have S : CallFix p m c cX4_keep 3 s args wsX4_keep RX4 := ⟨hx, hb, hml, hown, hts⟩
  have hl : lv_has ls 3 [(0, .ref (a 0)), (1, .int x1)] := hl
  have f35 := hts (.fieldLink RX4 35 "LandBoardModel" "hasYear" "[Z") (by decide +kernel)
  have iX4 := (by decide +kernel : ∀ w ∈ u_ws RX4 TX4 26, w ∈ wsX4_keep)
  have f39 := hts (.fieldLink RX4 39 "LandBoardModel" "yearW" "[I") (by decide +kernel)
  have f7 := hts (.fieldLink RX4 7 "LandBoardModel" "w" "I") (by decide +kernel)
  have f42 := hts (.fieldLink RX4 42 "LandBoardModel" "yearH" "[I") (by decide +kernel)
  have f13 := hts (.fieldLink RX4 13 "LandBoardModel" "h" "I") (by decide +kernel)
  have f45 := hts (.fieldLink RX4 45 "LandBoardModel" "year" "[I") (by decide +kernel)
  have f16 := hts (.fieldLink RX4 16 "LandBoardModel" "cells" "[I") (by decide +kernel)
  refine lv_iload_n hx hb dX4_keep_0 rfl (lv_at hl 1 rfl) ?_
  refine kPS (As := [.int x1]) (rest := []) S (ctX4_isYear l g x1  (fX4_isYear x1) rfl) (va_cwS 1 hts gX4_keep_X4_isYear rfl rfl rfl (by decide +kernel) ⟨Nat.le_of_ble_eq_true rfl, Nat.le_of_ble_eq_true rfl⟩) hK rfl rfl hl.1 rfl (Nat.le_of_ble_eq_true rfl) dX4_keep_1 ⟨Nat.zero_le _, Nat.zero_le _⟩ ?_
  refine lv_if_ne (tgt := 9) hx hb dX4_keep_4 (by decide) (fun c4 => ?_) (fun c4 => ?_)
  ·
    replace h := gdn h c4
    refine lv_aload_n hx hb dX4_keep_9 rfl (lv_at hl 0 rfl) ?_
    refine va_get (D := g.1) (ci := 4) (v := .ref (a 7)) (C := RX4) (T := TX4) (N := 26) hx hb hts iX4 hown hK.1 hP 0 rfl rfl 11 (by decide) f35 (fun _ h9 => h9) rfl dX4_keep_10 ?_
    refine lv_iload_n hx hb dX4_keep_13 rfl (lv_at hl 1 rfl) ?_
    refine lv_iconst (v := 1) hx hb dX4_keep_14 (by decide) ?_
    obtain ⟨hi, h⟩ := gdi h
    refine va_zast (D := g.1) hx hb hK.1 hP hD hS 7 2 rfl rfl hi dX4_keep_15 (fun H locs hP hD hS => ?_)
    have hP : va_P g.1 vwCl (wM g a mw mh mke mnx mdo mtr mma mto mah mrs mab ce mk mo mwa mmc mmf (upd mhy (x1).toNatClampNeg (1 : Int32)) myw myh myr mpi mme mde mwe mla) H := hP
    have hD : va_D A (wM g a mw mh mke mnx mdo mtr mma mto mah mrs mab ce mk mo mwa mmc mmf (upd mhy (x1).toNatClampNeg (1 : Int32)) myw myh myr mpi mme mde mwe mla) := hD
    refine lv_aload_n hx hb dX4_keep_16 rfl (lv_at hl 0 rfl) ?_
    refine va_get (D := g.1) (ci := 4) (v := .ref (a 8)) (C := RX4) (T := TX4) (N := 26) hx hb hts iX4 hown hK.1 hP 0 rfl rfl 12 (by decide) f39 (fun _ h9 => h9) rfl dX4_keep_17 ?_
    refine lv_iload_n hx hb dX4_keep_20 rfl (lv_at hl 1 rfl) ?_
    refine lv_aload_n hx hb dX4_keep_21 rfl (lv_at hl 0 rfl) ?_
    refine va_get (D := g.1) (ci := 4) (v := .int mw) (C := RX4) (T := TX4) (N := 26) hx hb hts iX4 hown hK.1 hP 0 rfl rfl 0 (by decide) f7 (fun _ h9 => h9) rfl dX4_keep_22 ?_
    obtain ⟨hi, h⟩ := gdi h
    refine va_iast (D := g.1) hx hb hK.1 hP hD hS 8 0 rfl rfl hi dX4_keep_25 (fun H locs hP hD hS => ?_)
    have hP : va_P g.1 vwCl (wM g a mw mh mke mnx mdo mtr mma mto mah mrs mab ce mk mo mwa mmc mmf (upd mhy (x1).toNatClampNeg (1 : Int32)) (upd myw (x1).toNatClampNeg mw) myh myr mpi mme mde mwe mla) H := hP
    have hD : va_D A (wM g a mw mh mke mnx mdo mtr mma mto mah mrs mab ce mk mo mwa mmc mmf (upd mhy (x1).toNatClampNeg (1 : Int32)) (upd myw (x1).toNatClampNeg mw) myh myr mpi mme mde mwe mla) := hD
    refine lv_aload_n hx hb dX4_keep_26 rfl (lv_at hl 0 rfl) ?_
    refine va_get (D := g.1) (ci := 4) (v := .ref (a 9)) (C := RX4) (T := TX4) (N := 26) hx hb hts iX4 hown hK.1 hP 0 rfl rfl 13 (by decide) f42 (fun _ h9 => h9) rfl dX4_keep_27 ?_
    refine lv_iload_n hx hb dX4_keep_30 rfl (lv_at hl 1 rfl) ?_
    refine lv_aload_n hx hb dX4_keep_31 rfl (lv_at hl 0 rfl) ?_
    refine va_get (D := g.1) (ci := 4) (v := .int mh) (C := RX4) (T := TX4) (N := 26) hx hb hts iX4 hown hK.1 hP 0 rfl rfl 1 (by decide) f13 (fun _ h9 => h9) rfl dX4_keep_32 ?_
    obtain ⟨hi, h⟩ := gdi h
    refine va_iast (D := g.1) hx hb hK.1 hP hD hS 9 0 rfl rfl hi dX4_keep_35 (fun H locs hP hD hS => ?_)
    have hP : va_P g.1 vwCl (wM g a mw mh mke mnx mdo mtr mma mto mah mrs mab ce mk mo mwa mmc mmf (upd mhy (x1).toNatClampNeg (1 : Int32)) (upd myw (x1).toNatClampNeg mw) (upd myh (x1).toNatClampNeg mh) myr mpi mme mde mwe mla) H := hP
    have hD : va_D A (wM g a mw mh mke mnx mdo mtr mma mto mah mrs mab ce mk mo mwa mmc mmf (upd mhy (x1).toNatClampNeg (1 : Int32)) (upd myw (x1).toNatClampNeg mw) (upd myh (x1).toNatClampNeg mh) myr mpi mme mde mwe mla) := hD
    refine lv_iconst (v := 0) hx hb dX4_keep_36 (by decide) ?_
    refine lv_istore_n (lv' := [(2, .int (0 : Int32)), (0, .ref (a 0)), (1, .int x1)]) hx hb dX4_keep_37 rfl hl (by decide) rfl (fun ls hl => ?_)
    obtain ⟨t38, hw38, h⟩ := gdb h
    have X38 : ∀ (H : Heap) (locs : List Loc) (ls : Array Slot), va_P g.1 vwCl (wM g a mw mh mke mnx mdo mtr mma mto mah mrs mab ce mk mo mwa mmc mmf (upd mhy (x1).toNatClampNeg (1 : Int32)) (upd myw (x1).toNatClampNeg mw) (upd myh (x1).toNatClampNeg mh) t38 mpi mme mde mwe mla) H → va_D A (wM g a mw mh mke mnx mdo mtr mma mto mah mrs mab ce mk mo mwa mmc mmf (upd mhy (x1).toNatClampNeg (1 : Int32)) (upd myw (x1).toNatClampNeg mw) (upd myh (x1).toNatClampNeg mh) t38 mpi mme mde mwe mla) → va_S A s.heap H locs → lv_has ls 3 [(0, .ref (a 0))] → W p l e ({ frames := 2, cells := 0, slots := 0, locals := 43 }) s m args below meth c H locs 0 0 (MQ below (QM g (some (.int res.1)) (wM g a mw mh mke mnx mdo mtr mma mto mah mrs mab ce mk mo mwa mmc mmf res.2.1 res.2.2.1 res.2.2.2.1 res.2.2.2.2 mpi mme mde mwe mla) A) args s 0 0 A) (F0 m 74 ls []) := by
      intro H locs ls hP hD hS hl
      refine lv_aload_n hx hb dX4_keep_74 rfl (lv_at hl 0 rfl) ?_
      obtain ⟨r75, hr75, h⟩ := gdb h
      refine kPV (As := []) (rest := []) (ci := 4) S (ctX4_landCells l g a  mw mh mke mnx mdo mtr mma mto mah mrs mab ce mk mo mwa mmc mmf (upd mhy (x1).toNatClampNeg (1 : Int32)) (upd myw (x1).toNatClampNeg mw) (upd myh (x1).toNatClampNeg mh) t38 mpi mme mde mwe mla r75 hr75) (cwV 0 hts gX4_keep_X4_landCells rfl rfl rfl (by decide +kernel) ⟨Nat.le_of_ble_eq_true rfl, Nat.le_of_ble_eq_true rfl⟩) hK hP [0, 1, 2, 3, 4, 5, 6, 7, 8, 9, 10, 11, 12, 13, 14, 15] rfl rfl rfl rfl rfl hl.1 rfl (Nat.le_of_ble_eq_true rfl) dX4_keep_75 ⟨Nat.zero_le _, Nat.zero_le _⟩ ?_
      obtain rfl := Option.some.inj h
      exact retMi hx hb hr hlocks hP hD hS dX4_keep_78
    clear h
    have L38 : ∀ (n : Nat) (s38 : Int32 × (Nat → Int32)), wh (fX4_keep_38 x1 mw mh ce) n s38 = some t38 → ∀ (H : Heap) (locs : List Loc) (ls : Array Slot), va_P g.1 vwCl (wM g a mw mh mke mnx mdo mtr mma mto mah mrs mab ce mk mo mwa mmc mmf (upd mhy (x1).toNatClampNeg (1 : Int32)) (upd myw (x1).toNatClampNeg mw) (upd myh (x1).toNatClampNeg mh) s38.2 mpi mme mde mwe mla) H → va_D A (wM g a mw mh mke mnx mdo mtr mma mto mah mrs mab ce mk mo mwa mmc mmf (upd mhy (x1).toNatClampNeg (1 : Int32)) (upd myw (x1).toNatClampNeg mw) (upd myh (x1).toNatClampNeg mh) s38.2 mpi mme mde mwe mla) → va_S A s.heap H locs → lv_has ls 3 [(0, .ref (a 0)), (1, .int x1), (2, .int s38.1)] → W p l e ({ frames := 2, cells := 0, slots := 0, locals := 43 }) s m args below meth c H locs 0 0 (MQ below (QM g (some (.int res.1)) (wM g a mw mh mke mnx mdo mtr mma mto mah mrs mab ce mk mo mwa mmc mmf res.2.1 res.2.2.1 res.2.2.2.1 res.2.2.2.2 mpi mme mde mwe mla) A) args s 0 0 A) (F0 m 38 ls []) := by
      intro n
      induction n with
      | zero => intro s38 hw; exact (wh_0 hw).elim
      | succ n ih38 =>
        intro s38 hw H locs ls hP hD hS hl
        obtain ⟨r0, h, hr38⟩ := wh_s hw
        refine lv_iload_n hx hb dX4_keep_38 rfl (lv_at hl 2 rfl) ?_
        refine lv_aload_n hx hb dX4_keep_39 rfl (lv_at hl 0 rfl) ?_
        refine va_get (D := g.1) (ci := 4) (v := .int mw) (C := RX4) (T := TX4) (N := 26) hx hb hts iX4 hown hK.1 hP 0 rfl rfl 0 (by decide) f7 (fun _ h9 => h9) rfl dX4_keep_40 ?_
        refine lv_aload_n hx hb dX4_keep_43 rfl (lv_at hl 0 rfl) ?_
        refine va_get (D := g.1) (ci := 4) (v := .int mh) (C := RX4) (T := TX4) (N := 26) hx hb hts iX4 hown hK.1 hP 0 rfl rfl 1 (by decide) f13 (fun _ h9 => h9) rfl dX4_keep_44 ?_
        refine lv_imul hx hb dX4_keep_47 ?_
        refine lv_icmp_ge (tgt := 74) hx hb dX4_keep_48 (by decide) (fun c48 => ?_) (fun c48 => ?_)
        ·
          replace h := gdp h c48
          obtain rfl := Option.some.inj h
          have e0 : s38.2 = t38 := hr38
          subst e0
          exact X38 _ _ _ hP hD hS (lv_sub hl [0] rfl)
        ·
          replace h := gdn h c48
          refine lv_aload_n hx hb dX4_keep_51 rfl (lv_at hl 0 rfl) ?_
          refine va_get (D := g.1) (ci := 4) (v := .ref (a 10)) (C := RX4) (T := TX4) (N := 26) hx hb hts iX4 hown hK.1 hP 0 rfl rfl 14 (by decide) f45 (fun _ h9 => h9) rfl dX4_keep_52 ?_
          refine lv_bipush (v := 64) hx hb dX4_keep_55 (by decide) ?_
          refine lv_iload_n hx hb dX4_keep_57 rfl (lv_at hl 1 rfl) ?_
          refine lv_imul hx hb dX4_keep_58 ?_
          refine lv_iload_n hx hb dX4_keep_59 rfl (lv_at hl 2 rfl) ?_
          refine lv_iadd hx hb dX4_keep_60 ?_
          refine lv_aload_n hx hb dX4_keep_61 rfl (lv_at hl 0 rfl) ?_
          refine va_get (D := g.1) (ci := 4) (v := .ref (a 1)) (C := RX4) (T := TX4) (N := 26) hx hb hts iX4 hown hK.1 hP 0 rfl rfl 2 (by decide) f16 (fun _ h9 => h9) rfl dX4_keep_62 ?_
          refine lv_iload_n hx hb dX4_keep_65 rfl (lv_at hl 2 rfl) ?_
          obtain ⟨hi, h⟩ := gdi h
          refine va_iald (D := g.1) hx hb hK.1 hP 1 0 rfl rfl hi dX4_keep_66 ?_
          obtain ⟨hi, h⟩ := gdi h
          refine va_iast (D := g.1) hx hb hK.1 hP hD hS 10 0 rfl rfl hi dX4_keep_67 (fun H locs hP hD hS => ?_)
          have hP : va_P g.1 vwCl (wM g a mw mh mke mnx mdo mtr mma mto mah mrs mab ce mk mo mwa mmc mmf (upd mhy (x1).toNatClampNeg (1 : Int32)) (upd myw (x1).toNatClampNeg mw) (upd myh (x1).toNatClampNeg mh) (upd s38.2 ((((64 : Int32) * x1) + s38.1)).toNatClampNeg (ce (s38.1).toNatClampNeg)) mpi mme mde mwe mla) H := hP
          have hD : va_D A (wM g a mw mh mke mnx mdo mtr mma mto mah mrs mab ce mk mo mwa mmc mmf (upd mhy (x1).toNatClampNeg (1 : Int32)) (upd myw (x1).toNatClampNeg mw) (upd myh (x1).toNatClampNeg mh) (upd s38.2 ((((64 : Int32) * x1) + s38.1)).toNatClampNeg (ce (s38.1).toNatClampNeg)) mpi mme mde mwe mla) := hD
          refine lv_iinc (v := (s38.1 + 1)) (lv' := [(2, .int (s38.1 + 1)), (0, .ref (a 0)), (1, .int x1)]) hx hb dX4_keep_68 hl (k := 2) rfl rfl (by decide) rfl (fun ls hl => ?_)
          refine lv_goto (tgt := 38) hx hb dX4_keep_71 (by decide) ?_
          obtain rfl := Option.some.inj h
          exact ih38 ((s38.1 + 1), (upd s38.2 ((((64 : Int32) * x1) + s38.1)).toNatClampNeg (ce (s38.1).toNatClampNeg))) hr38 _ _ _ hP hD hS (lv_sub hl [1, 2, 0] rfl)
    exact L38 _ ((0 : Int32), myr) hw38 _ _ _ hP hD hS (lv_sub hl [1, 2, 0] rfl)
  ·
    replace h := gdp h c4
    refine lv_iconst (v := -1) hx hb dX4_keep_7 (by decide) ?_
    obtain rfl := Option.some.inj h
    exact retMi (v := (-1 : Int32)) hx hb hr hlocks hP hD hS dX4_keep_8
-- LandBoardModel.back
set_option maxHeartbeats 4000000 in
set_option maxRecDepth 100000 in
theorem ctX4_back (l : Launch) (g : GG) (a : Nat → Nat) (x1 : Int32) (mw : Int32) (mh : Int32) (mke : Int32) (mnx : Int32) (mdo : Int32) (mtr : Int64) (mma : Int32) (mto : Int32) (mah : Int32) (mrs : Int32) (mab : Int32) (ce : (Nat → Int32)) (mk : (Nat → Int32)) (mo : (Nat → Int32)) (mwa : (Nat → Int32)) (mmc : (Nat → Int32)) (mmf : (Nat → Int32)) (mhy : (Nat → Int32)) (myw : (Nat → Int32)) (myh : (Nat → Int32)) (myr : (Nat → Int32)) (mpi : (Nat → Int32)) (mme : (Nat → Int32)) (mde : (Nat → Int32)) (mwe : (Nat → Int32)) (mla : (Nat → Int32)) (res : Int32 × Int32 × Int32 × Int32 × (Nat → Int32) × (Nat → Int32) × (Nat → Int32)) (h : fX4_back x1 mw mh mke ce mk mo mhy myw myh myr = some res) : MM l yX4_back wsX4_back ({ frames := 2, cells := 0, slots := 0, locals := 43 }) g [.ref (a 0), .int x1] (wM g a mw mh mke mnx mdo mtr mma mto mah mrs mab ce mk mo mwa mmc mmf mhy myw myh myr mpi mme mde mwe mla) (wM g a res.2.1 res.2.2.1 res.2.2.2.1 mnx mdo mtr mma mto mah mrs mab res.2.2.2.2.1 res.2.2.2.2.2.1 res.2.2.2.2.2.2 mwa mmc mmf mhy myw myh myr mpi mme mde mwe mla) (some (.int res.1)) := by
  refine MM.of (cc := cX4_back) (own := RX4) 3 (some .int) (by decide +kernel) rfl (Nat.le_of_ble_eq_true rfl) rfl ?_
  intro p e s m args below meth c hx hb hr hml hown hts hlocks hK A hA ls hl hP hD hS
  have S : CallFix p m c cX4_back 3 s args wsX4_back RX4 := ⟨hx, hb, hml, hown, hts⟩
  have hl : lv_has ls 3 [(0, .ref (a 0)), (1, .int x1)] := hl
  have f35 := hts (.fieldLink RX4 35 "LandBoardModel" "hasYear" "[Z") (by decide +kernel)
  have iX4 := (by decide +kernel : ∀ w ∈ u_ws RX4 TX4 26, w ∈ wsX4_back)
  have f39 := hts (.fieldLink RX4 39 "LandBoardModel" "yearW" "[I") (by decide +kernel)
  have f7 := hts (.fieldLink RX4 7 "LandBoardModel" "w" "I") (by decide +kernel)
  have f42 := hts (.fieldLink RX4 42 "LandBoardModel" "yearH" "[I") (by decide +kernel)
  have f13 := hts (.fieldLink RX4 13 "LandBoardModel" "h" "I") (by decide +kernel)
  have f16 := hts (.fieldLink RX4 16 "LandBoardModel" "cells" "[I") (by decide +kernel)
  have f45 := hts (.fieldLink RX4 45 "LandBoardModel" "year" "[I") (by decide +kernel)
  refine lv_iload_n hx hb dX4_back_0 rfl (lv_at hl 1 rfl) ?_
  refine kPS (As := [.int x1]) (rest := []) S (ctX4_isYear l g x1  (fX4_isYear x1) rfl) (va_cwS 1 hts gX4_back_X4_isYear rfl rfl rfl (by decide +kernel) ⟨Nat.le_of_ble_eq_true rfl, Nat.le_of_ble_eq_true rfl⟩) hK rfl rfl hl.1 rfl (Nat.le_of_ble_eq_true rfl) dX4_back_1 ⟨Nat.zero_le _, Nat.zero_le _⟩ ?_
  refine lv_if_ne (tgt := 9) hx hb dX4_back_4 (by decide) (fun c4 => ?_) (fun c4 => ?_)
  ·
    replace h := gdn h c4
    refine lv_aload_n hx hb dX4_back_9 rfl (lv_at hl 0 rfl) ?_
    refine va_get (D := g.1) (ci := 4) (v := .ref (a 7)) (C := RX4) (T := TX4) (N := 26) hx hb hts iX4 hown hK.1 hP 0 rfl rfl 11 (by decide) f35 (fun _ h9 => h9) rfl dX4_back_10 ?_
    refine lv_iload_n hx hb dX4_back_13 rfl (lv_at hl 1 rfl) ?_
    obtain ⟨hi, h⟩ := gdi h
    refine va_zald (D := g.1) hx hb hK.1 hP 7 2 rfl rfl hi dX4_back_14 ?_
    refine lv_if_ne (tgt := 21) hx hb dX4_back_15 (by decide) (fun c15 => ?_) (fun c15 => ?_)
    ·
      replace h := gdn h c15
      refine lv_aload_n hx hb dX4_back_21 rfl (lv_at hl 0 rfl) ?_
      refine lv_aload_n hx hb dX4_back_22 rfl (lv_at hl 0 rfl) ?_
      refine va_get (D := g.1) (ci := 4) (v := .ref (a 8)) (C := RX4) (T := TX4) (N := 26) hx hb hts iX4 hown hK.1 hP 0 rfl rfl 12 (by decide) f39 (fun _ h9 => h9) rfl dX4_back_23 ?_
      refine lv_iload_n hx hb dX4_back_26 rfl (lv_at hl 1 rfl) ?_
      obtain ⟨hi, h⟩ := gdi h
      refine va_iald (D := g.1) hx hb hK.1 hP 8 0 rfl rfl hi dX4_back_27 ?_
      refine va_put (D := g.1) (ci := 4) (v := .int (myw (x1).toNatClampNeg)) (ty := .int) (C := RX4) (T := TX4) (N := 26) hx hb hts iX4 tyX4 tyX4_ok nmX4 hown hK.1 hP hD hS 0 rfl rfl 0 (by decide) f7 (fun _ h9 => h9) rfl (by decide +kernel) rfl rfl (Nat.le_of_ble_eq_true rfl) dX4_back_28 (fun H locs hP hD hS => ?_)
      have hP : va_P g.1 vwCl (wM g a (myw (x1).toNatClampNeg) mh mke mnx mdo mtr mma mto mah mrs mab ce mk mo mwa mmc mmf mhy myw myh myr mpi mme mde mwe mla) H := hP
      have hD : va_D A (wM g a (myw (x1).toNatClampNeg) mh mke mnx mdo mtr mma mto mah mrs mab ce mk mo mwa mmc mmf mhy myw myh myr mpi mme mde mwe mla) := hD
      refine lv_aload_n hx hb dX4_back_31 rfl (lv_at hl 0 rfl) ?_
      refine lv_aload_n hx hb dX4_back_32 rfl (lv_at hl 0 rfl) ?_
      refine va_get (D := g.1) (ci := 4) (v := .ref (a 9)) (C := RX4) (T := TX4) (N := 26) hx hb hts iX4 hown hK.1 hP 0 rfl rfl 13 (by decide) f42 (fun _ h9 => h9) rfl dX4_back_33 ?_
      refine lv_iload_n hx hb dX4_back_36 rfl (lv_at hl 1 rfl) ?_
      obtain ⟨hi, h⟩ := gdi h
      refine va_iald (D := g.1) hx hb hK.1 hP 9 0 rfl rfl hi dX4_back_37 ?_
      refine va_put (D := g.1) (ci := 4) (v := .int (myh (x1).toNatClampNeg)) (ty := .int) (C := RX4) (T := TX4) (N := 26) hx hb hts iX4 tyX4 tyX4_ok nmX4 hown hK.1 hP hD hS 0 rfl rfl 1 (by decide) f13 (fun _ h9 => h9) rfl (by decide +kernel) rfl rfl (Nat.le_of_ble_eq_true rfl) dX4_back_38 (fun H locs hP hD hS => ?_)
      have hP : va_P g.1 vwCl (wM g a (myw (x1).toNatClampNeg) (myh (x1).toNatClampNeg) mke mnx mdo mtr mma mto mah mrs mab ce mk mo mwa mmc mmf mhy myw myh myr mpi mme mde mwe mla) H := hP
      have hD : va_D A (wM g a (myw (x1).toNatClampNeg) (myh (x1).toNatClampNeg) mke mnx mdo mtr mma mto mah mrs mab ce mk mo mwa mmc mmf mhy myw myh myr mpi mme mde mwe mla) := hD
      refine lv_iconst (v := 0) hx hb dX4_back_41 (by decide) ?_
      refine lv_istore_n (lv' := [(2, .int (0 : Int32)), (0, .ref (a 0)), (1, .int x1)]) hx hb dX4_back_42 rfl hl (by decide) rfl (fun ls hl => ?_)
      obtain ⟨t43, hw43, h⟩ := gdb h
      have X43 : ∀ (H : Heap) (locs : List Loc) (ls : Array Slot), va_P g.1 vwCl (wM g a (myw (x1).toNatClampNeg) (myh (x1).toNatClampNeg) mke mnx mdo mtr mma mto mah mrs mab t43 mk mo mwa mmc mmf mhy myw myh myr mpi mme mde mwe mla) H → va_D A (wM g a (myw (x1).toNatClampNeg) (myh (x1).toNatClampNeg) mke mnx mdo mtr mma mto mah mrs mab t43 mk mo mwa mmc mmf mhy myw myh myr mpi mme mde mwe mla) → va_S A s.heap H locs → lv_has ls 3 [(0, .ref (a 0))] → W p l e ({ frames := 2, cells := 0, slots := 0, locals := 43 }) s m args below meth c H locs 0 0 (MQ below (QM g (some (.int res.1)) (wM g a res.2.1 res.2.2.1 res.2.2.2.1 mnx mdo mtr mma mto mah mrs mab res.2.2.2.2.1 res.2.2.2.2.2.1 res.2.2.2.2.2.2 mwa mmc mmf mhy myw myh myr mpi mme mde mwe mla) A) args s 0 0 A) (F0 m 79 ls []) := by
        intro H locs ls hP hD hS hl
        refine lv_aload_n hx hb dX4_back_79 rfl (lv_at hl 0 rfl) ?_
        obtain ⟨r80, hr80, h⟩ := gdb h
        refine kMV (As := []) (rest := []) (ci := 4) (W1 := (wM g a (myw (x1).toNatClampNeg) (myh (x1).toNatClampNeg) r80.1 mnx mdo mtr mma mto mah mrs mab t43 r80.2.1 r80.2.2 mwa mmc mmf mhy myw myh myr mpi mme mde mwe mla)) (wr := []) S (ctX4_plain l g a  (myw (x1).toNatClampNeg) (myh (x1).toNatClampNeg) mke mnx mdo mtr mma mto mah mrs mab t43 mk mo mwa mmc mmf mhy myw myh myr mpi mme mde mwe mla r80 hr80) (cwV 0 hts gX4_back_X4_plain rfl rfl rfl (by decide +kernel) ⟨Nat.le_of_ble_eq_true rfl, Nat.le_of_ble_eq_true rfl⟩) hK hP hD hS hA [0, 1, 2, 3, 4, 5, 6, 7, 8, 9, 10, 11, 12, 13, 14, 15] [] [0, 1, 2, 3, 4, 5, 6, 7, 8, 9, 10, 11, 12, 13, 14, 15] rfl rfl rfl rfl (by decide) rfl rfl rfl rfl rfl rfl hl.1 rfl (Nat.le_of_ble_eq_true rfl) dX4_back_80 ⟨Nat.zero_le _, Nat.zero_le _⟩ (fun H locs hP hD hS => ?_)
        show W p l e ({ frames := 2, cells := 0, slots := 0, locals := 43 }) s m args below meth c H locs 0 0 (MQ below (QM g (some (.int res.1)) (wM g a res.2.1 res.2.2.1 res.2.2.2.1 mnx mdo mtr mma mto mah mrs mab res.2.2.2.2.1 res.2.2.2.2.2.1 res.2.2.2.2.2.2 mwa mmc mmf mhy myw myh myr mpi mme mde mwe mla) A) args s 0 0 A) (F0 m 83 ls [])
        refine lv_aload_n hx hb dX4_back_83 rfl (lv_at hl 0 rfl) ?_
        obtain ⟨r84, hr84, h⟩ := gdb h
        refine kPV (As := []) (rest := []) (ci := 4) S (ctX4_landCells l g a  (myw (x1).toNatClampNeg) (myh (x1).toNatClampNeg) r80.1 mnx mdo mtr mma mto mah mrs mab t43 r80.2.1 r80.2.2 mwa mmc mmf mhy myw myh myr mpi mme mde mwe mla r84 hr84) (cwV 0 hts gX4_back_X4_landCells rfl rfl rfl (by decide +kernel) ⟨Nat.le_of_ble_eq_true rfl, Nat.le_of_ble_eq_true rfl⟩) hK hP [0, 1, 2, 3, 4, 5, 6, 7, 8, 9, 10, 11, 12, 13, 14, 15] rfl rfl rfl rfl rfl hl.1 rfl (Nat.le_of_ble_eq_true rfl) dX4_back_84 ⟨Nat.zero_le _, Nat.zero_le _⟩ ?_
        obtain rfl := Option.some.inj h
        exact retMi hx hb hr hlocks hP hD hS dX4_back_87
      clear h
      have L43 : ∀ (n : Nat) (s43 : Int32 × (Nat → Int32)), wh (fX4_back_43 x1 myw myh myr) n s43 = some t43 → ∀ (H : Heap) (locs : List Loc) (ls : Array Slot), va_P g.1 vwCl (wM g a (myw (x1).toNatClampNeg) (myh (x1).toNatClampNeg) mke mnx mdo mtr mma mto mah mrs mab s43.2 mk mo mwa mmc mmf mhy myw myh myr mpi mme mde mwe mla) H → va_D A (wM g a (myw (x1).toNatClampNeg) (myh (x1).toNatClampNeg) mke mnx mdo mtr mma mto mah mrs mab s43.2 mk mo mwa mmc mmf mhy myw myh myr mpi mme mde mwe mla) → va_S A s.heap H locs → lv_has ls 3 [(0, .ref (a 0)), (1, .int x1), (2, .int s43.1)] → W p l e ({ frames := 2, cells := 0, slots := 0, locals := 43 }) s m args below meth c H locs 0 0 (MQ below (QM g (some (.int res.1)) (wM g a res.2.1 res.2.2.1 res.2.2.2.1 mnx mdo mtr mma mto mah mrs mab res.2.2.2.2.1 res.2.2.2.2.2.1 res.2.2.2.2.2.2 mwa mmc mmf mhy myw myh myr mpi mme mde mwe mla) A) args s 0 0 A) (F0 m 43 ls []) := by
        intro n
        induction n with
        | zero => intro s43 hw; exact (wh_0 hw).elim
        | succ n ih43 =>
          intro s43 hw H locs ls hP hD hS hl
          obtain ⟨r0, h, hr43⟩ := wh_s hw
          refine lv_iload_n hx hb dX4_back_43 rfl (lv_at hl 2 rfl) ?_
          refine lv_aload_n hx hb dX4_back_44 rfl (lv_at hl 0 rfl) ?_
          refine va_get (D := g.1) (ci := 4) (v := .int (myw (x1).toNatClampNeg)) (C := RX4) (T := TX4) (N := 26) hx hb hts iX4 hown hK.1 hP 0 rfl rfl 0 (by decide) f7 (fun _ h9 => h9) rfl dX4_back_45 ?_
          refine lv_aload_n hx hb dX4_back_48 rfl (lv_at hl 0 rfl) ?_
          refine va_get (D := g.1) (ci := 4) (v := .int (myh (x1).toNatClampNeg)) (C := RX4) (T := TX4) (N := 26) hx hb hts iX4 hown hK.1 hP 0 rfl rfl 1 (by decide) f13 (fun _ h9 => h9) rfl dX4_back_49 ?_
          refine lv_imul hx hb dX4_back_52 ?_
          refine lv_icmp_ge (tgt := 79) hx hb dX4_back_53 (by decide) (fun c53 => ?_) (fun c53 => ?_)
          ·
            replace h := gdp h c53
            obtain rfl := Option.some.inj h
            have e0 : s43.2 = t43 := hr43
            subst e0
            exact X43 _ _ _ hP hD hS (lv_sub hl [0] rfl)
          ·
            replace h := gdn h c53
            refine lv_aload_n hx hb dX4_back_56 rfl (lv_at hl 0 rfl) ?_
            refine va_get (D := g.1) (ci := 4) (v := .ref (a 1)) (C := RX4) (T := TX4) (N := 26) hx hb hts iX4 hown hK.1 hP 0 rfl rfl 2 (by decide) f16 (fun _ h9 => h9) rfl dX4_back_57 ?_
            refine lv_iload_n hx hb dX4_back_60 rfl (lv_at hl 2 rfl) ?_
            refine lv_aload_n hx hb dX4_back_61 rfl (lv_at hl 0 rfl) ?_
            refine va_get (D := g.1) (ci := 4) (v := .ref (a 10)) (C := RX4) (T := TX4) (N := 26) hx hb hts iX4 hown hK.1 hP 0 rfl rfl 14 (by decide) f45 (fun _ h9 => h9) rfl dX4_back_62 ?_
            refine lv_bipush (v := 64) hx hb dX4_back_65 (by decide) ?_
            refine lv_iload_n hx hb dX4_back_67 rfl (lv_at hl 1 rfl) ?_
            refine lv_imul hx hb dX4_back_68 ?_
            refine lv_iload_n hx hb dX4_back_69 rfl (lv_at hl 2 rfl) ?_
            refine lv_iadd hx hb dX4_back_70 ?_
            obtain ⟨hi, h⟩ := gdi h
            refine va_iald (D := g.1) hx hb hK.1 hP 10 0 rfl rfl hi dX4_back_71 ?_
            obtain ⟨hi, h⟩ := gdi h
            refine va_iast (D := g.1) hx hb hK.1 hP hD hS 1 0 rfl rfl hi dX4_back_72 (fun H locs hP hD hS => ?_)
            have hP : va_P g.1 vwCl (wM g a (myw (x1).toNatClampNeg) (myh (x1).toNatClampNeg) mke mnx mdo mtr mma mto mah mrs mab (upd s43.2 (s43.1).toNatClampNeg (myr ((((64 : Int32) * x1) + s43.1)).toNatClampNeg)) mk mo mwa mmc mmf mhy myw myh myr mpi mme mde mwe mla) H := hP
            have hD : va_D A (wM g a (myw (x1).toNatClampNeg) (myh (x1).toNatClampNeg) mke mnx mdo mtr mma mto mah mrs mab (upd s43.2 (s43.1).toNatClampNeg (myr ((((64 : Int32) * x1) + s43.1)).toNatClampNeg)) mk mo mwa mmc mmf mhy myw myh myr mpi mme mde mwe mla) := hD
            refine lv_iinc (v := (s43.1 + 1)) (lv' := [(2, .int (s43.1 + 1)), (0, .ref (a 0)), (1, .int x1)]) hx hb dX4_back_73 hl (k := 2) rfl rfl (by decide) rfl (fun ls hl => ?_)
            refine lv_goto (tgt := 43) hx hb dX4_back_76 (by decide) ?_
            obtain rfl := Option.some.inj h
            exact ih43 ((s43.1 + 1), (upd s43.2 (s43.1).toNatClampNeg (myr ((((64 : Int32) * x1) + s43.1)).toNatClampNeg))) hr43 _ _ _ hP hD hS (lv_sub hl [1, 2, 0] rfl)
      exact L43 _ ((0 : Int32), ce) hw43 _ _ _ hP hD hS (lv_sub hl [1, 2, 0] rfl)
    ·
      replace h := gdp h c15
      refine lv_bipush (v := -2) hx hb dX4_back_18 (by decide) ?_
      obtain rfl := Option.some.inj h
      exact retMi (v := (-2 : Int32)) hx hb hr hlocks hP hD hS dX4_back_20
  ·
    replace h := gdp h c4
    refine lv_iconst (v := -1) hx hb dX4_back_7 (by decide) ?_
    obtain rfl := Option.some.inj h
    exact retMi (v := (-1 : Int32)) hx hb hr hlocks hP hD hS dX4_back_8
-- LandBoardModel.moved
set_option maxHeartbeats 4000000 in
set_option maxRecDepth 100000 in
theorem ctX4_moved (l : Launch) (g : GG) (a : Nat → Nat) (x1 : Int32) (x2 : Int32) (mw : Int32) (mh : Int32) (mke : Int32) (mnx : Int32) (mdo : Int32) (mtr : Int64) (mma : Int32) (mto : Int32) (mah : Int32) (mrs : Int32) (mab : Int32) (ce : (Nat → Int32)) (mk : (Nat → Int32)) (mo : (Nat → Int32)) (mwa : (Nat → Int32)) (mmc : (Nat → Int32)) (mmf : (Nat → Int32)) (mhy : (Nat → Int32)) (myw : (Nat → Int32)) (myh : (Nat → Int32)) (myr : (Nat → Int32)) (mpi : (Nat → Int32)) (mme : (Nat → Int32)) (mde : (Nat → Int32)) (mwe : (Nat → Int32)) (mla : (Nat → Int32)) (res : Int32) (h : fX4_moved x1 x2 mhy myw myh myr = some res) : MP l yX4_moved wsX4_moved ({ frames := 2, cells := 0, slots := 0, locals := 42 }) g [.ref (a 0), .int x1, .int x2] (wM g a mw mh mke mnx mdo mtr mma mto mah mrs mab ce mk mo mwa mmc mmf mhy myw myh myr mpi mme mde mwe mla) (.int res) := by
  refine MP.of (cc := cX4_moved) (own := RX4) 5 (some .int) (by decide +kernel) rfl (Nat.le_of_ble_eq_true rfl) rfl ?_
  intro p e s m args below meth c hx hb hr hml hown hts hlocks hP hK ls hl
  have S : CallFix p m c cX4_moved 5 s args wsX4_moved RX4 := ⟨hx, hb, hml, hown, hts⟩
  have hl : lv_has ls 5 [(0, .ref (a 0)), (1, .int x1), (2, .int x2)] := hl
  have f35 := hts (.fieldLink RX4 35 "LandBoardModel" "hasYear" "[Z") (by decide +kernel)
  have iX4 := (by decide +kernel : ∀ w ∈ u_ws RX4 TX4 26, w ∈ wsX4_moved)
  have f39 := hts (.fieldLink RX4 39 "LandBoardModel" "yearW" "[I") (by decide +kernel)
  have f42 := hts (.fieldLink RX4 42 "LandBoardModel" "yearH" "[I") (by decide +kernel)
  have f45 := hts (.fieldLink RX4 45 "LandBoardModel" "year" "[I") (by decide +kernel)
  refine lv_iload_n hx hb dX4_moved_0 rfl (lv_at hl 1 rfl) ?_
  refine kPS (As := [.int x1]) (rest := []) S (ctX4_isYear l g x1  (fX4_isYear x1) rfl) (va_cwS 1 hts gX4_moved_X4_isYear rfl rfl rfl (by decide +kernel) ⟨Nat.le_of_ble_eq_true rfl, Nat.le_of_ble_eq_true rfl⟩) hK rfl rfl hl.1 rfl (Nat.le_of_ble_eq_true rfl) dX4_moved_1 ⟨Nat.zero_le _, Nat.zero_le _⟩ ?_
  refine lv_if_eq (tgt := 14) hx hb dX4_moved_4 (by decide) (fun c4 => ?_) (fun c4 => ?_)
  ·
    replace h := gdp h c4
    refine lv_iconst (v := -1) hx hb dX4_moved_14 (by decide) ?_
    obtain rfl := Option.some.inj h
    exact retPi (v := (-1 : Int32)) hx hb hr hlocks dX4_moved_15
  ·
    replace h := gdn h c4
    refine lv_iload_n hx hb dX4_moved_7 rfl (lv_at hl 2 rfl) ?_
    refine kPS (As := [.int x2]) (rest := []) S (ctX4_isYear l g x2  (fX4_isYear x2) rfl) (va_cwS 1 hts gX4_moved_X4_isYear rfl rfl rfl (by decide +kernel) ⟨Nat.le_of_ble_eq_true rfl, Nat.le_of_ble_eq_true rfl⟩) hK rfl rfl hl.1 rfl (Nat.le_of_ble_eq_true rfl) dX4_moved_8 ⟨Nat.zero_le _, Nat.zero_le _⟩ ?_
    refine lv_if_ne (tgt := 16) hx hb dX4_moved_11 (by decide) (fun c11 => ?_) (fun c11 => ?_)
    ·
      replace h := gdn h c11
      refine lv_aload_n hx hb dX4_moved_16 rfl (lv_at hl 0 rfl) ?_
      refine va_get (D := g.1) (ci := 4) (v := .ref (a 7)) (C := RX4) (T := TX4) (N := 26) hx hb hts iX4 hown hK.1 hP 0 rfl rfl 11 (by decide) f35 (fun _ h9 => h9) rfl dX4_moved_17 ?_
      refine lv_iload_n hx hb dX4_moved_20 rfl (lv_at hl 1 rfl) ?_
      obtain ⟨hi, h⟩ := gdi h
      refine va_zald (D := g.1) hx hb hK.1 hP 7 2 rfl rfl hi dX4_moved_21 ?_
      refine lv_if_eq (tgt := 64) hx hb dX4_moved_22 (by decide) (fun c22 => ?_) (fun c22 => ?_)
      ·
        replace h := gdp h c22
        refine lv_bipush (v := -9) hx hb dX4_moved_64 (by decide) ?_
        obtain rfl := Option.some.inj h
        exact retPi (v := (-9 : Int32)) hx hb hr hlocks dX4_moved_66
      ·
        replace h := gdn h c22
        refine lv_aload_n hx hb dX4_moved_25 rfl (lv_at hl 0 rfl) ?_
        refine va_get (D := g.1) (ci := 4) (v := .ref (a 7)) (C := RX4) (T := TX4) (N := 26) hx hb hts iX4 hown hK.1 hP 0 rfl rfl 11 (by decide) f35 (fun _ h9 => h9) rfl dX4_moved_26 ?_
        refine lv_iload_n hx hb dX4_moved_29 rfl (lv_at hl 2 rfl) ?_
        obtain ⟨hi, h⟩ := gdi h
        refine va_zald (D := g.1) hx hb hK.1 hP 7 2 rfl rfl hi dX4_moved_30 ?_
        refine lv_if_eq (tgt := 64) hx hb dX4_moved_31 (by decide) (fun c31 => ?_) (fun c31 => ?_)
        ·
          replace h := gdp h c31
          refine lv_bipush (v := -9) hx hb dX4_moved_64 (by decide) ?_
          obtain rfl := Option.some.inj h
          exact retPi (v := (-9 : Int32)) hx hb hr hlocks dX4_moved_66
        ·
          replace h := gdn h c31
          refine lv_aload_n hx hb dX4_moved_34 rfl (lv_at hl 0 rfl) ?_
          refine va_get (D := g.1) (ci := 4) (v := .ref (a 8)) (C := RX4) (T := TX4) (N := 26) hx hb hts iX4 hown hK.1 hP 0 rfl rfl 12 (by decide) f39 (fun _ h9 => h9) rfl dX4_moved_35 ?_
          refine lv_iload_n hx hb dX4_moved_38 rfl (lv_at hl 1 rfl) ?_
          obtain ⟨hi, h⟩ := gdi h
          refine va_iald (D := g.1) hx hb hK.1 hP 8 0 rfl rfl hi dX4_moved_39 ?_
          refine lv_aload_n hx hb dX4_moved_40 rfl (lv_at hl 0 rfl) ?_
          refine va_get (D := g.1) (ci := 4) (v := .ref (a 8)) (C := RX4) (T := TX4) (N := 26) hx hb hts iX4 hown hK.1 hP 0 rfl rfl 12 (by decide) f39 (fun _ h9 => h9) rfl dX4_moved_41 ?_
          refine lv_iload_n hx hb dX4_moved_44 rfl (lv_at hl 2 rfl) ?_
          obtain ⟨hi, h⟩ := gdi h
          refine va_iald (D := g.1) hx hb hK.1 hP 8 0 rfl rfl hi dX4_moved_45 ?_
          refine lv_icmp_ne (tgt := 64) hx hb dX4_moved_46 (by decide) (fun c46 => ?_) (fun c46 => ?_)
          ·
            replace h := gdn h c46
            refine lv_bipush (v := -9) hx hb dX4_moved_64 (by decide) ?_
            obtain rfl := Option.some.inj h
            exact retPi (v := (-9 : Int32)) hx hb hr hlocks dX4_moved_66
          ·
            replace h := gdp h c46
            refine lv_aload_n hx hb dX4_moved_49 rfl (lv_at hl 0 rfl) ?_
            refine va_get (D := g.1) (ci := 4) (v := .ref (a 9)) (C := RX4) (T := TX4) (N := 26) hx hb hts iX4 hown hK.1 hP 0 rfl rfl 13 (by decide) f42 (fun _ h9 => h9) rfl dX4_moved_50 ?_
            refine lv_iload_n hx hb dX4_moved_53 rfl (lv_at hl 1 rfl) ?_
            obtain ⟨hi, h⟩ := gdi h
            refine va_iald (D := g.1) hx hb hK.1 hP 9 0 rfl rfl hi dX4_moved_54 ?_
            refine lv_aload_n hx hb dX4_moved_55 rfl (lv_at hl 0 rfl) ?_
            refine va_get (D := g.1) (ci := 4) (v := .ref (a 9)) (C := RX4) (T := TX4) (N := 26) hx hb hts iX4 hown hK.1 hP 0 rfl rfl 13 (by decide) f42 (fun _ h9 => h9) rfl dX4_moved_56 ?_
            refine lv_iload_n hx hb dX4_moved_59 rfl (lv_at hl 2 rfl) ?_
            obtain ⟨hi, h⟩ := gdi h
            refine va_iald (D := g.1) hx hb hK.1 hP 9 0 rfl rfl hi dX4_moved_60 ?_
            refine lv_icmp_eq (tgt := 67) hx hb dX4_moved_61 (by decide) (fun c61 => ?_) (fun c61 => ?_)
            ·
              replace h := gdp h c61
              refine lv_iconst (v := 0) hx hb dX4_moved_67 (by decide) ?_
              refine lv_istore_n (lv' := [(3, .int (0 : Int32)), (0, .ref (a 0)), (1, .int x1), (2, .int x2)]) hx hb dX4_moved_68 rfl hl (by decide) rfl (fun ls hl => ?_)
              refine lv_iconst (v := 0) hx hb dX4_moved_69 (by decide) ?_
              refine lv_istore (lv' := [(4, .int (0 : Int32)), (3, .int (0 : Int32)), (0, .ref (a 0)), (1, .int x1), (2, .int x2)]) hx hb dX4_moved_70 hl (by decide) rfl (fun ls hl => ?_)
              obtain ⟨t72, hw72, h⟩ := gdb h
              have X72 : ∀ ls : Array Slot, lv_has ls 5 [(3, .int t72)] → W p l e ({ frames := 2, cells := 0, slots := 0, locals := 42 }) s m args below meth c s.heap [] 0 0 (MQ below (k2_QcV (.int res)) args s 0 0 (fun _ => False)) (F0 m 131 ls []) := by
                intro ls hl
                refine lv_iload_n hx hb dX4_moved_131 rfl (lv_at hl 0 rfl) ?_
                obtain rfl := Option.some.inj h
                exact retPi hx hb hr hlocks dX4_moved_132
              clear h
              have L72 : ∀ (n : Nat) (s72 : Int32 × Int32), wh (fX4_moved_72 x1 x2 myw myh myr) n s72 = some t72 → ∀ ls : Array Slot, lv_has ls 5 [(0, .ref (a 0)), (1, .int x1), (2, .int x2), (3, .int s72.1), (4, .int s72.2)] → W p l e ({ frames := 2, cells := 0, slots := 0, locals := 42 }) s m args below meth c s.heap [] 0 0 (MQ below (k2_QcV (.int res)) args s 0 0 (fun _ => False)) (F0 m 72 ls []) := by
                intro n
                induction n with
                | zero => intro s72 hw; exact (wh_0 hw).elim
                | succ n ih72 =>
                  intro s72 hw ls hl
                  obtain ⟨r0, h, hr72⟩ := wh_s hw
                  refine lv_iload hx hb dX4_moved_72 (lv_at hl 4 rfl) ?_
                  refine lv_aload_n hx hb dX4_moved_74 rfl (lv_at hl 0 rfl) ?_
                  refine va_get (D := g.1) (ci := 4) (v := .ref (a 8)) (C := RX4) (T := TX4) (N := 26) hx hb hts iX4 hown hK.1 hP 0 rfl rfl 12 (by decide) f39 (fun _ h9 => h9) rfl dX4_moved_75 ?_
                  refine lv_iload_n hx hb dX4_moved_78 rfl (lv_at hl 1 rfl) ?_
                  obtain ⟨hi, h⟩ := gdi h
                  refine va_iald (D := g.1) hx hb hK.1 hP 8 0 rfl rfl hi dX4_moved_79 ?_
                  refine lv_aload_n hx hb dX4_moved_80 rfl (lv_at hl 0 rfl) ?_
                  refine va_get (D := g.1) (ci := 4) (v := .ref (a 9)) (C := RX4) (T := TX4) (N := 26) hx hb hts iX4 hown hK.1 hP 0 rfl rfl 13 (by decide) f42 (fun _ h9 => h9) rfl dX4_moved_81 ?_
                  refine lv_iload_n hx hb dX4_moved_84 rfl (lv_at hl 1 rfl) ?_
                  obtain ⟨hi, h⟩ := gdi h
                  refine va_iald (D := g.1) hx hb hK.1 hP 9 0 rfl rfl hi dX4_moved_85 ?_
                  refine lv_imul hx hb dX4_moved_86 ?_
                  refine lv_icmp_ge (tgt := 131) hx hb dX4_moved_87 (by decide) (fun c87 => ?_) (fun c87 => ?_)
                  ·
                    replace h := gdp h c87
                    obtain rfl := Option.some.inj h
                    have e0 : s72.1 = t72 := hr72
                    subst e0
                    exact X72 _ (lv_sub hl [3] rfl)
                  ·
                    replace h := gdn h c87
                    refine lv_iload_n hx hb dX4_moved_90 rfl (lv_at hl 3 rfl) ?_
                    refine lv_aload_n hx hb dX4_moved_91 rfl (lv_at hl 0 rfl) ?_
                    refine va_get (D := g.1) (ci := 4) (v := .ref (a 10)) (C := RX4) (T := TX4) (N := 26) hx hb hts iX4 hown hK.1 hP 0 rfl rfl 14 (by decide) f45 (fun _ h9 => h9) rfl dX4_moved_92 ?_
                    refine lv_bipush (v := 64) hx hb dX4_moved_95 (by decide) ?_
                    refine lv_iload_n hx hb dX4_moved_97 rfl (lv_at hl 1 rfl) ?_
                    refine lv_imul hx hb dX4_moved_98 ?_
                    refine lv_iload hx hb dX4_moved_99 (lv_at hl 4 rfl) ?_
                    refine lv_iadd hx hb dX4_moved_101 ?_
                    obtain ⟨hi, h⟩ := gdi h
                    refine va_iald (D := g.1) hx hb hK.1 hP 10 0 rfl rfl hi dX4_moved_102 ?_
                    refine lv_aload_n hx hb dX4_moved_103 rfl (lv_at hl 0 rfl) ?_
                    refine va_get (D := g.1) (ci := 4) (v := .ref (a 10)) (C := RX4) (T := TX4) (N := 26) hx hb hts iX4 hown hK.1 hP 0 rfl rfl 14 (by decide) f45 (fun _ h9 => h9) rfl dX4_moved_104 ?_
                    refine lv_bipush (v := 64) hx hb dX4_moved_107 (by decide) ?_
                    refine lv_iload_n hx hb dX4_moved_109 rfl (lv_at hl 2 rfl) ?_
                    refine lv_imul hx hb dX4_moved_110 ?_
                    refine lv_iload hx hb dX4_moved_111 (lv_at hl 4 rfl) ?_
                    refine lv_iadd hx hb dX4_moved_113 ?_
                    obtain ⟨hi, h⟩ := gdi h
                    refine va_iald (D := g.1) hx hb hK.1 hP 10 0 rfl rfl hi dX4_moved_114 ?_
                    refine lv_icmp_eq (tgt := 122) hx hb dX4_moved_115 (by decide) (fun c115 => ?_) (fun c115 => ?_)
                    ·
                      replace h := gdp h c115
                      refine lv_iconst (v := 0) hx hb dX4_moved_122 (by decide) ?_
                      refine lv_iadd hx hb dX4_moved_123 ?_
                      refine lv_istore_n (lv' := [(3, .int (s72.1 + (0 : Int32))), (0, .ref (a 0)), (1, .int x1), (2, .int x2), (4, .int s72.2)]) hx hb dX4_moved_124 rfl hl (by decide) rfl (fun ls hl => ?_)
                      refine lv_iinc (v := (s72.2 + 1)) (lv' := [(4, .int (s72.2 + 1)), (3, .int (s72.1 + (0 : Int32))), (0, .ref (a 0)), (1, .int x1), (2, .int x2)]) hx hb dX4_moved_125 hl (k := 4) rfl rfl (by decide) rfl (fun ls hl => ?_)
                      refine lv_goto (tgt := 72) hx hb dX4_moved_128 (by decide) ?_
                      obtain rfl := Option.some.inj h
                      exact ih72 ((s72.1 + (0 : Int32)), (s72.2 + 1)) hr72 _ (lv_sub hl [2, 3, 4, 1, 0] rfl)
                    ·
                      replace h := gdn h c115
                      refine lv_iconst (v := 1) hx hb dX4_moved_118 (by decide) ?_
                      refine lv_goto (tgt := 123) hx hb dX4_moved_119 (by decide) ?_
                      refine lv_iadd hx hb dX4_moved_123 ?_
                      refine lv_istore_n (lv' := [(3, .int (s72.1 + (1 : Int32))), (0, .ref (a 0)), (1, .int x1), (2, .int x2), (4, .int s72.2)]) hx hb dX4_moved_124 rfl hl (by decide) rfl (fun ls hl => ?_)
                      refine lv_iinc (v := (s72.2 + 1)) (lv' := [(4, .int (s72.2 + 1)), (3, .int (s72.1 + (1 : Int32))), (0, .ref (a 0)), (1, .int x1), (2, .int x2)]) hx hb dX4_moved_125 hl (k := 4) rfl rfl (by decide) rfl (fun ls hl => ?_)
                      refine lv_goto (tgt := 72) hx hb dX4_moved_128 (by decide) ?_
                      obtain rfl := Option.some.inj h
                      exact ih72 ((s72.1 + (1 : Int32)), (s72.2 + 1)) hr72 _ (lv_sub hl [2, 3, 4, 1, 0] rfl)
              exact L72 _ ((0 : Int32), (0 : Int32)) hw72 _ (lv_sub hl [2, 3, 4, 1, 0] rfl)
            ·
              replace h := gdn h c61
              refine lv_bipush (v := -9) hx hb dX4_moved_64 (by decide) ?_
              obtain rfl := Option.some.inj h
              exact retPi (v := (-9 : Int32)) hx hb hr hlocks dX4_moved_66
    ·
      replace h := gdp h c11
      refine lv_iconst (v := -1) hx hb dX4_moved_14 (by decide) ?_
      obtain rfl := Option.some.inj h
      exact retPi (v := (-1 : Int32)) hx hb hr hlocks dX4_moved_15
-- LandBoardModel.count
set_option maxHeartbeats 4000000 in
set_option maxRecDepth 100000 in
theorem ctX4_count (l : Launch) (g : GG) (a : Nat → Nat) (x1 : Int32) (mw : Int32) (mh : Int32) (mke : Int32) (mnx : Int32) (mdo : Int32) (mtr : Int64) (mma : Int32) (mto : Int32) (mah : Int32) (mrs : Int32) (mab : Int32) (ce : (Nat → Int32)) (mk : (Nat → Int32)) (mo : (Nat → Int32)) (mwa : (Nat → Int32)) (mmc : (Nat → Int32)) (mmf : (Nat → Int32)) (mhy : (Nat → Int32)) (myw : (Nat → Int32)) (myh : (Nat → Int32)) (myr : (Nat → Int32)) (mpi : (Nat → Int32)) (mme : (Nat → Int32)) (mde : (Nat → Int32)) (mwe : (Nat → Int32)) (mla : (Nat → Int32)) (res : Int32) (h : fX4_count x1 mw mh mke mdo ce = some res) : MP l yX4_count wsX4_count ({ frames := 1, cells := 0, slots := 0, locals := 23 }) g [.ref (a 0), .int x1] (wM g a mw mh mke mnx mdo mtr mma mto mah mrs mab ce mk mo mwa mmc mmf mhy myw myh myr mpi mme mde mwe mla) (.int res) := by
  refine MP.of (cc := cX4_count) (own := RX4) 4 (some .int) (by decide +kernel) rfl (Nat.le_of_ble_eq_true rfl) rfl ?_
  intro p e s m args below meth c hx hb hr hml hown hts hlocks hP hK ls hl
  have S : CallFix p m c cX4_count 4 s args wsX4_count RX4 := ⟨hx, hb, hml, hown, hts⟩
  have hl : lv_has ls 4 [(0, .ref (a 0)), (1, .int x1)] := hl
  have f7 := hts (.fieldLink RX4 7 "LandBoardModel" "w" "I") (by decide +kernel)
  have iX4 := (by decide +kernel : ∀ w ∈ u_ws RX4 TX4 26, w ∈ wsX4_count)
  have f13 := hts (.fieldLink RX4 13 "LandBoardModel" "h" "I") (by decide +kernel)
  have f69 := hts (.fieldLink RX4 69 "LandBoardModel" "kept" "I") (by decide +kernel)
  have f125 := hts (.fieldLink RX4 125 "LandBoardModel" "done" "I") (by decide +kernel)
  refine lv_iconst (v := 0) hx hb dX4_count_0 (by decide) ?_
  refine lv_istore_n (lv' := [(2, .int (0 : Int32)), (0, .ref (a 0)), (1, .int x1)]) hx hb dX4_count_1 rfl hl (by decide) rfl (fun ls hl => ?_)
  refine lv_iload_n hx hb dX4_count_2 rfl (lv_at hl 2 rfl) ?_
  by_cases c3_0 : x1 = (0 : Int32)
  ·
    replace h := gdp h c3_0
    refine tswIn (tgt := 36) (off := 33) (0 : Int32) c3_0 hx hb dX4_count_3 (by decide) (by decide) rfl (by decide) ?_
    refine lv_aload_n hx hb dX4_count_36 rfl (lv_at hl 1 rfl) ?_
    refine va_get (D := g.1) (ci := 4) (v := .int mw) (C := RX4) (T := TX4) (N := 26) hx hb hts iX4 hown hK.1 hP 0 rfl rfl 0 (by decide) f7 (fun _ h9 => h9) rfl dX4_count_37 ?_
    obtain rfl := Option.some.inj h
    exact retPi hx hb hr hlocks dX4_count_40
  replace h := gdn h c3_0
  by_cases c3_1 : x1 = (1 : Int32)
  ·
    replace h := gdp h c3_1
    refine tswIn (tgt := 41) (off := 38) (1 : Int32) c3_1 hx hb dX4_count_3 (by decide) (by decide) rfl (by decide) ?_
    refine lv_aload_n hx hb dX4_count_41 rfl (lv_at hl 1 rfl) ?_
    refine va_get (D := g.1) (ci := 4) (v := .int mh) (C := RX4) (T := TX4) (N := 26) hx hb hts iX4 hown hK.1 hP 0 rfl rfl 1 (by decide) f13 (fun _ h9 => h9) rfl dX4_count_42 ?_
    obtain rfl := Option.some.inj h
    exact retPi hx hb hr hlocks dX4_count_45
  replace h := gdn h c3_1
  by_cases c3_2 : x1 = (2 : Int32)
  ·
    replace h := gdp h c3_2
    refine tswIn (tgt := 46) (off := 43) (2 : Int32) c3_2 hx hb dX4_count_3 (by decide) (by decide) rfl (by decide) ?_
    refine lv_iconst (v := 0) hx hb dX4_count_46 (by decide) ?_
    refine lv_istore_n (lv' := [(3, .int (0 : Int32)), (2, .int (0 : Int32)), (0, .ref (a 0)), (1, .int x1)]) hx hb dX4_count_47 rfl hl (by decide) rfl (fun ls hl => ?_)
    obtain ⟨t48, hw48, h⟩ := gdb h
    have X48 : ∀ ls : Array Slot, lv_has ls 4 [(2, .int t48)] → W p l e ({ frames := 1, cells := 0, slots := 0, locals := 23 }) s m args below meth c s.heap [] 0 0 (MQ below (k2_QcV (.int res)) args s 0 0 (fun _ => False)) (F0 m 76 ls []) := by
      intro ls hl
      refine lv_iload_n hx hb dX4_count_76 rfl (lv_at hl 0 rfl) ?_
      obtain rfl := Option.some.inj h
      exact retPi hx hb hr hlocks dX4_count_77
    clear h
    have L48 : ∀ (n : Nat) (s48 : Int32 × Int32), wh (fX4_count_48 mw mh ce) n s48 = some t48 → ∀ ls : Array Slot, lv_has ls 4 [(0, .ref (a 0)), (2, .int s48.1), (3, .int s48.2)] → W p l e ({ frames := 1, cells := 0, slots := 0, locals := 23 }) s m args below meth c s.heap [] 0 0 (MQ below (k2_QcV (.int res)) args s 0 0 (fun _ => False)) (F0 m 48 ls []) := by
      intro n
      induction n with
      | zero => intro s48 hw; exact (wh_0 hw).elim
      | succ n ih48 =>
        intro s48 hw ls hl
        obtain ⟨r0, h, hr48⟩ := wh_s hw
        refine lv_iload_n hx hb dX4_count_48 rfl (lv_at hl 2 rfl) ?_
        refine lv_bipush (v := 6) hx hb dX4_count_49 (by decide) ?_
        refine lv_icmp_ge (tgt := 76) hx hb dX4_count_51 (by decide) (fun c51 => ?_) (fun c51 => ?_)
        ·
          replace h := gdp h c51
          obtain rfl := Option.some.inj h
          have e0 : s48.1 = t48 := hr48
          subst e0
          exact X48 _ (lv_sub hl [1] rfl)
        ·
          replace h := gdn h c51
          refine lv_iload_n hx hb dX4_count_54 rfl (lv_at hl 1 rfl) ?_
          refine lv_aload_n hx hb dX4_count_55 rfl (lv_at hl 0 rfl) ?_
          refine lv_iload_n hx hb dX4_count_56 rfl (lv_at hl 2 rfl) ?_
          obtain ⟨r57, hr57, h⟩ := gdb h
          refine kPV (As := [.int s48.2]) (rest := [.int s48.1]) (ci := 4) S (ctX4_sizeOf l g a s48.2 mw mh mke mnx mdo mtr mma mto mah mrs mab ce mk mo mwa mmc mmf mhy myw myh myr mpi mme mde mwe mla r57 hr57) (cwV 1 hts gX4_count_X4_sizeOf rfl rfl rfl (by decide +kernel) ⟨Nat.le_of_ble_eq_true rfl, Nat.le_of_ble_eq_true rfl⟩) hK hP [0, 1, 2, 3, 4, 5, 6, 7, 8, 9, 10, 11, 12, 13, 14, 15] rfl rfl rfl rfl rfl hl.1 rfl (Nat.le_of_ble_eq_true rfl) dX4_count_57 ⟨Nat.zero_le _, Nat.zero_le _⟩ ?_
          refine lv_if_le (tgt := 67) hx hb dX4_count_60 (by decide) (fun c60 => ?_) (fun c60 => ?_)
          ·
            replace h := gdp h c60
            refine lv_iconst (v := 0) hx hb dX4_count_67 (by decide) ?_
            refine lv_iadd hx hb dX4_count_68 ?_
            refine lv_istore_n (lv' := [(2, .int (s48.1 + (0 : Int32))), (0, .ref (a 0)), (3, .int s48.2)]) hx hb dX4_count_69 rfl hl (by decide) rfl (fun ls hl => ?_)
            refine lv_iinc (v := (s48.2 + 1)) (lv' := [(3, .int (s48.2 + 1)), (2, .int (s48.1 + (0 : Int32))), (0, .ref (a 0))]) hx hb dX4_count_70 hl (k := 2) rfl rfl (by decide) rfl (fun ls hl => ?_)
            refine lv_goto (tgt := 48) hx hb dX4_count_73 (by decide) ?_
            obtain rfl := Option.some.inj h
            exact ih48 ((s48.1 + (0 : Int32)), (s48.2 + 1)) hr48 _ (lv_sub hl [2, 1, 0] rfl)
          ·
            replace h := gdn h c60
            refine lv_iconst (v := 1) hx hb dX4_count_63 (by decide) ?_
            refine lv_goto (tgt := 68) hx hb dX4_count_64 (by decide) ?_
            refine lv_iadd hx hb dX4_count_68 ?_
            refine lv_istore_n (lv' := [(2, .int (s48.1 + (1 : Int32))), (0, .ref (a 0)), (3, .int s48.2)]) hx hb dX4_count_69 rfl hl (by decide) rfl (fun ls hl => ?_)
            refine lv_iinc (v := (s48.2 + 1)) (lv' := [(3, .int (s48.2 + 1)), (2, .int (s48.1 + (1 : Int32))), (0, .ref (a 0))]) hx hb dX4_count_70 hl (k := 2) rfl rfl (by decide) rfl (fun ls hl => ?_)
            refine lv_goto (tgt := 48) hx hb dX4_count_73 (by decide) ?_
            obtain rfl := Option.some.inj h
            exact ih48 ((s48.1 + (1 : Int32)), (s48.2 + 1)) hr48 _ (lv_sub hl [2, 1, 0] rfl)
    exact L48 _ ((0 : Int32), (0 : Int32)) hw48 _ (lv_sub hl [2, 1, 0] rfl)
  replace h := gdn h c3_2
  by_cases c3_3 : x1 = (3 : Int32)
  ·
    replace h := gdp h c3_3
    refine tswIn (tgt := 78) (off := 75) (3 : Int32) c3_3 hx hb dX4_count_3 (by decide) (by decide) rfl (by decide) ?_
    refine lv_aload_n hx hb dX4_count_78 rfl (lv_at hl 1 rfl) ?_
    refine va_get (D := g.1) (ci := 4) (v := .int mke) (C := RX4) (T := TX4) (N := 26) hx hb hts iX4 hown hK.1 hP 0 rfl rfl 6 (by decide) f69 (fun _ h9 => h9) rfl dX4_count_79 ?_
    obtain rfl := Option.some.inj h
    exact retPi hx hb hr hlocks dX4_count_82
  replace h := gdn h c3_3
  by_cases c3_4 : x1 = (4 : Int32)
  ·
    replace h := gdp h c3_4
    refine tswIn (tgt := 83) (off := 80) (4 : Int32) c3_4 hx hb dX4_count_3 (by decide) (by decide) rfl (by decide) ?_
    refine lv_aload_n hx hb dX4_count_83 rfl (lv_at hl 1 rfl) ?_
    refine va_get (D := g.1) (ci := 4) (v := .int mdo) (C := RX4) (T := TX4) (N := 26) hx hb hts iX4 hown hK.1 hP 0 rfl rfl 8 (by decide) f125 (fun _ h9 => h9) rfl dX4_count_84 ?_
    obtain rfl := Option.some.inj h
    exact retPi hx hb hr hlocks dX4_count_87
  replace h := gdn h c3_4
  refine lv_tableOut (tgt := 88) hx hb dX4_count_3 (tsw_out (n := 5) (fun k hk => by match k, hk with | 0, _ => exact c3_0 | 1, _ => exact c3_1 | 2, _ => exact c3_2 | 3, _ => exact c3_3 | 4, _ => exact c3_4 | (k + 5), hk => exact absurd hk (by omega)) (by decide)) (by decide) ?_
  refine lv_iconst (v := -1) hx hb dX4_count_88 (by decide) ?_
  obtain rfl := Option.some.inj h
  exact retPi (v := (-1 : Int32)) hx hb hr hlocks dX4_count_89
-- LandBoardModel.trace
set_option maxHeartbeats 4000000 in
set_option maxRecDepth 100000 in
theorem ctX4_trace (l : Launch) (g : GG) (a : Nat → Nat)  (mw : Int32) (mh : Int32) (mke : Int32) (mnx : Int32) (mdo : Int32) (mtr : Int64) (mma : Int32) (mto : Int32) (mah : Int32) (mrs : Int32) (mab : Int32) (ce : (Nat → Int32)) (mk : (Nat → Int32)) (mo : (Nat → Int32)) (mwa : (Nat → Int32)) (mmc : (Nat → Int32)) (mmf : (Nat → Int32)) (mhy : (Nat → Int32)) (myw : (Nat → Int32)) (myh : (Nat → Int32)) (myr : (Nat → Int32)) (mpi : (Nat → Int32)) (mme : (Nat → Int32)) (mde : (Nat → Int32)) (mwe : (Nat → Int32)) (mla : (Nat → Int32)) (res : Int64) (h : fX4_trace mtr = res) : MP l yX4_trace wsX4_trace ({ frames := 0, cells := 0, slots := 0, locals := 0 }) g [.ref (a 0)] (wM g a mw mh mke mnx mdo mtr mma mto mah mrs mab ce mk mo mwa mmc mmf mhy myw myh myr mpi mme mde mwe mla) (.long res) := by
  refine MP.of (cc := cX4_trace) (own := RX4) 1 (some .long) (by decide +kernel) rfl (Nat.le_of_ble_eq_true rfl) rfl ?_
  intro p e s m args below meth c hx hb hr hml hown hts hlocks hP hK ls hl
  have S : CallFix p m c cX4_trace 1 s args wsX4_trace RX4 := ⟨hx, hb, hml, hown, hts⟩
  have hl : lv_has ls 1 [(0, .ref (a 0))] := hl
  have f108 := hts (.fieldLink RX4 108 "LandBoardModel" "trace" "J") (by decide +kernel)
  have iX4 := (by decide +kernel : ∀ w ∈ u_ws RX4 TX4 26, w ∈ wsX4_trace)
  refine lv_aload_n hx hb dX4_trace_0 rfl (lv_at hl 0 rfl) ?_
  refine va_get (D := g.1) (ci := 4) (v := .long mtr) (C := RX4) (T := TX4) (N := 26) hx hb hts iX4 hown hK.1 hP 0 rfl rfl 15 (by decide) f108 (fun _ h9 => h9) rfl dX4_trace_1 ?_
  subst h
  exact retPl hx hb hr hlocks dX4_trace_4
