-- LandBoard$Grid.clear
set_option maxHeartbeats 4000000 in
set_option maxRecDepth 100000 in
theorem ctX0_clear (l : Launch) (g : GG) (a0 a1 : Nat) (x1 : Int32) (x2 : Int32) (gw : Int32) (gh : Int32) (gl : (Nat → Int64)) (res : Int32 × Int32 × (Nat → Int64)) (h : fX0_clear x1 x2 gw gh gl = some res) : MM l yX0_clear wsX0_clear ({ frames := 0, cells := 0, slots := 0, locals := 0 }) g [.ref a0, .int x1, .int x2] (wG g a0 a1 gw gh gl) (wG g a0 a1 res.1 res.2.1 res.2.2) none := by
  refine MM.of (cc := cX0_clear) (own := RX0) 4 none (by decide +kernel) rfl (Nat.le_of_ble_eq_true rfl) rfl ?_
  intro p e s m args below meth c hx hb hr hml hown hts hlocks hK A hA ls hl hP hD hS
  have S : CallFix p m c cX0_clear 4 s args wsX0_clear RX0 := ⟨hx, hb, hml, hown, hts⟩
  have hl : lv_has ls 4 [(0, .ref a0), (1, .int x1), (2, .int x2)] := hl
  have f15 := hts (.fieldLink RX0 15 "LandBoard$Grid" "width" "I") (by decide +kernel)
  have iX0 := (by decide +kernel : ∀ w ∈ u_ws RX0 TX0 3, w ∈ wsX0_clear)
  have f19 := hts (.fieldLink RX0 19 "LandBoard$Grid" "height" "I") (by decide +kernel)
  have f9 := hts (.fieldLink RX0 9 "LandBoard$Grid" "lands" "[J") (by decide +kernel)
  refine lv_aload_n hx hb dX0_clear_0 rfl (lv_at hl 0 rfl) ?_
  refine lv_iload_n hx hb dX0_clear_1 rfl (lv_at hl 1 rfl) ?_
  refine va_put (D := g.1) (ci := 0) (v := .int x1) (ty := .int) (C := RX0) (T := TX0) (N := 3) hx hb hts iX0 tyX0 tyX0_ok nmX0 hown hK.1 hP hD hS 0 rfl rfl 1 (by decide) f15 (fun _ h9 => h9) rfl (by decide +kernel) rfl rfl (Nat.le_of_ble_eq_true rfl) dX0_clear_2 (fun H locs hP hD hS => ?_)
  have hP : va_P g.1 vwCl (wG g a0 a1 x1 gh gl) H := hP
  have hD : va_D A (wG g a0 a1 x1 gh gl) := hD
  refine lv_aload_n hx hb dX0_clear_5 rfl (lv_at hl 0 rfl) ?_
  refine lv_iload_n hx hb dX0_clear_6 rfl (lv_at hl 2 rfl) ?_
  refine va_put (D := g.1) (ci := 0) (v := .int x2) (ty := .int) (C := RX0) (T := TX0) (N := 3) hx hb hts iX0 tyX0 tyX0_ok nmX0 hown hK.1 hP hD hS 0 rfl rfl 2 (by decide) f19 (fun _ h9 => h9) rfl (by decide +kernel) rfl rfl (Nat.le_of_ble_eq_true rfl) dX0_clear_7 (fun H locs hP hD hS => ?_)
  have hP : va_P g.1 vwCl (wG g a0 a1 x1 x2 gl) H := hP
  have hD : va_D A (wG g a0 a1 x1 x2 gl) := hD
  refine lv_iconst (v := 0) hx hb dX0_clear_10 (by decide) ?_
  refine lv_istore_n (lv' := [(3, .int (0 : Int32)), (0, .ref a0), (1, .int x1), (2, .int x2)]) hx hb dX0_clear_11 rfl hl (by decide) rfl (fun ls hl => ?_)
  obtain ⟨t12, hw12, h⟩ := gdb h
  have X12 : ∀ (H : Heap) (locs : List Loc) (ls : Array Slot), va_P g.1 vwCl (wG g a0 a1 x1 x2 t12) H → va_D A (wG g a0 a1 x1 x2 t12) → va_S A s.heap H locs → lv_has ls 4 [] → W p l e ({ frames := 0, cells := 0, slots := 0, locals := 0 }) s m args below meth c H locs 0 0 (MQ below (QM g none (wG g a0 a1 res.1 res.2.1 res.2.2) A) args s 0 0 A) (F0 m 31 ls []) := by
    intro H locs ls hP hD hS hl
    obtain rfl := Option.some.inj h
    exact retMv hx hb hr hlocks hP hD hS dX0_clear_31
  clear h
  have L12 : ∀ (n : Nat) (s12 : Int32 × (Nat → Int64)), wh fX0_clear_12 n s12 = some t12 → ∀ (H : Heap) (locs : List Loc) (ls : Array Slot), va_P g.1 vwCl (wG g a0 a1 x1 x2 s12.2) H → va_D A (wG g a0 a1 x1 x2 s12.2) → va_S A s.heap H locs → lv_has ls 4 [(0, .ref a0), (3, .int s12.1)] → W p l e ({ frames := 0, cells := 0, slots := 0, locals := 0 }) s m args below meth c H locs 0 0 (MQ below (QM g none (wG g a0 a1 res.1 res.2.1 res.2.2) A) args s 0 0 A) (F0 m 12 ls []) := by
    intro n
    induction n with
    | zero => intro s12 hw; exact (wh_0 hw).elim
    | succ n ih12 =>
      intro s12 hw H locs ls hP hD hS hl
      obtain ⟨r0, h, hr12⟩ := wh_s hw
      refine lv_iload_n hx hb dX0_clear_12 rfl (lv_at hl 1 rfl) ?_
      refine lv_bipush (v := 6) hx hb dX0_clear_13 (by decide) ?_
      refine lv_icmp_ge (tgt := 31) hx hb dX0_clear_15 (by decide) (fun c15 => ?_) (fun c15 => ?_)
      ·
        replace h := gdp h c15
        obtain rfl := Option.some.inj h
        have e0 : s12.2 = t12 := hr12
        subst e0
        exact X12 _ _ _ hP hD hS (lv_sub hl [] rfl)
      ·
        replace h := gdn h c15
        refine lv_aload_n hx hb dX0_clear_18 rfl (lv_at hl 0 rfl) ?_
        refine va_get (D := g.1) (ci := 0) (v := .ref a1) (C := RX0) (T := TX0) (N := 3) hx hb hts iX0 hown hK.1 hP 0 rfl rfl 0 (by decide) f9 (fun _ h9 => h9) rfl dX0_clear_19 ?_
        refine lv_iload_n hx hb dX0_clear_22 rfl (lv_at hl 1 rfl) ?_
        refine lv_lconst (v := 0) hx hb dX0_clear_23 (by decide) ?_
        obtain ⟨hi, h⟩ := gdi h
        refine va_last (D := g.1) hx hb hK.1 hP hD hS 1 1 rfl rfl hi dX0_clear_24 (fun H locs hP hD hS => ?_)
        have hP : va_P g.1 vwCl (wG g a0 a1 x1 x2 (vp_updL s12.2 (s12.1).toNatClampNeg (0 : Int64))) H := hP
        have hD : va_D A (wG g a0 a1 x1 x2 (vp_updL s12.2 (s12.1).toNatClampNeg (0 : Int64))) := hD
        refine lv_iinc (v := (s12.1 + 1)) (lv' := [(3, .int (s12.1 + 1)), (0, .ref a0)]) hx hb dX0_clear_25 hl (k := 1) rfl rfl (by decide) rfl (fun ls hl => ?_)
        refine lv_goto (tgt := 12) hx hb dX0_clear_28 (by decide) ?_
        obtain rfl := Option.some.inj h
        exact ih12 ((s12.1 + 1), (vp_updL s12.2 (s12.1).toNatClampNeg (0 : Int64))) hr12 _ _ _ hP hD hS (lv_sub hl [1, 0] rfl)
  exact L12 _ ((0 : Int32), gl) hw12 _ _ _ hP hD hS (lv_sub hl [1, 0] rfl)
-- LandBoard$Grid.has
set_option maxHeartbeats 4000000 in
set_option maxRecDepth 100000 in
theorem ctX0_has (l : Launch) (g : GG) (a0 a1 : Nat) (x1 : Int32) (x2 : Int32) (gw : Int32) (gh : Int32) (gl : (Nat → Int64)) (res : Int32) (h : fX0_has x1 x2 gw gh = res) : MP l yX0_has wsX0_has ({ frames := 0, cells := 0, slots := 0, locals := 0 }) g [.ref a0, .int x1, .int x2] (wG g a0 a1 gw gh gl) (.int res) := by
  refine MP.of (cc := cX0_has) (own := RX0) 3 (some .boolean) (by decide +kernel) rfl (Nat.le_of_ble_eq_true rfl) rfl ?_
  intro p e s m args below meth c hx hb hr hml hown hts hlocks hP hK ls hl
  have S : CallFix p m c cX0_has 3 s args wsX0_has RX0 := ⟨hx, hb, hml, hown, hts⟩
  have hl : lv_has ls 3 [(0, .ref a0), (1, .int x1), (2, .int x2)] := hl
  have f15 := hts (.fieldLink RX0 15 "LandBoard$Grid" "width" "I") (by decide +kernel)
  have iX0 := (by decide +kernel : ∀ w ∈ u_ws RX0 TX0 3, w ∈ wsX0_has)
  have f19 := hts (.fieldLink RX0 19 "LandBoard$Grid" "height" "I") (by decide +kernel)
  refine lv_iload_n hx hb dX0_has_0 rfl (lv_at hl 1 rfl) ?_
  refine lv_if_lt (tgt := 28) hx hb dX0_has_1 (by decide) (fun c1 => ?_) (fun c1 => ?_)
  ·
    replace h := gdp h c1
    refine lv_iconst (v := 0) hx hb dX0_has_28 (by decide) ?_
    subst h
    exact retPz (v := (0 : Int32)) hx hb hr hlocks rfl dX0_has_29
  ·
    replace h := gdn h c1
    refine lv_iload_n hx hb dX0_has_4 rfl (lv_at hl 1 rfl) ?_
    refine lv_aload_n hx hb dX0_has_5 rfl (lv_at hl 0 rfl) ?_
    refine va_get (D := g.1) (ci := 0) (v := .int gw) (C := RX0) (T := TX0) (N := 3) hx hb hts iX0 hown hK.1 hP 0 rfl rfl 1 (by decide) f15 (fun _ h9 => h9) rfl dX0_has_6 ?_
    refine lv_icmp_ge (tgt := 28) hx hb dX0_has_9 (by decide) (fun c9 => ?_) (fun c9 => ?_)
    ·
      replace h := gdp h c9
      refine lv_iconst (v := 0) hx hb dX0_has_28 (by decide) ?_
      subst h
      exact retPz (v := (0 : Int32)) hx hb hr hlocks rfl dX0_has_29
    ·
      replace h := gdn h c9
      refine lv_iload_n hx hb dX0_has_12 rfl (lv_at hl 2 rfl) ?_
      refine lv_if_lt (tgt := 28) hx hb dX0_has_13 (by decide) (fun c13 => ?_) (fun c13 => ?_)
      ·
        replace h := gdp h c13
        refine lv_iconst (v := 0) hx hb dX0_has_28 (by decide) ?_
        subst h
        exact retPz (v := (0 : Int32)) hx hb hr hlocks rfl dX0_has_29
      ·
        replace h := gdn h c13
        refine lv_iload_n hx hb dX0_has_16 rfl (lv_at hl 2 rfl) ?_
        refine lv_aload_n hx hb dX0_has_17 rfl (lv_at hl 0 rfl) ?_
        refine va_get (D := g.1) (ci := 0) (v := .int gh) (C := RX0) (T := TX0) (N := 3) hx hb hts iX0 hown hK.1 hP 0 rfl rfl 2 (by decide) f19 (fun _ h9 => h9) rfl dX0_has_18 ?_
        refine lv_icmp_ge (tgt := 28) hx hb dX0_has_21 (by decide) (fun c21 => ?_) (fun c21 => ?_)
        ·
          replace h := gdp h c21
          refine lv_iconst (v := 0) hx hb dX0_has_28 (by decide) ?_
          subst h
          exact retPz (v := (0 : Int32)) hx hb hr hlocks rfl dX0_has_29
        ·
          replace h := gdn h c21
          refine lv_iconst (v := 1) hx hb dX0_has_24 (by decide) ?_
          refine lv_goto (tgt := 29) hx hb dX0_has_25 (by decide) ?_
          subst h
          exact retPz (v := (1 : Int32)) hx hb hr hlocks rfl dX0_has_29
-- LandBoard$Grid.landOf
set_option maxHeartbeats 4000000 in
set_option maxRecDepth 100000 in
theorem ctX0_landOf (l : Launch) (g : GG) (a0 a1 : Nat) (x1 : Int32) (gw : Int32) (gh : Int32) (gl : (Nat → Int64)) (res : Int32) (h : fX0_landOf x1 gl = some res) : MP l yX0_landOf wsX0_landOf ({ frames := 1, cells := 0, slots := 0, locals := 20 }) g [.ref a0, .int x1] (wG g a0 a1 gw gh gl) (.int res) := by
  refine MP.of (cc := cX0_landOf) (own := RX0) 3 (some .int) (by decide +kernel) rfl (Nat.le_of_ble_eq_true rfl) rfl ?_
  intro p e s m args below meth c hx hb hr hml hown hts hlocks hP hK ls hl
  have S : CallFix p m c cX0_landOf 3 s args wsX0_landOf RX0 := ⟨hx, hb, hml, hown, hts⟩
  have hl : lv_has ls 3 [(0, .ref a0), (1, .int x1)] := hl
  have f9 := hts (.fieldLink RX0 9 "LandBoard$Grid" "lands" "[J") (by decide +kernel)
  have iX0 := (by decide +kernel : ∀ w ∈ u_ws RX0 TX0 3, w ∈ wsX0_landOf)
  have n22_i := hts (.initialized RX3) (by decide +kernel)
  have n22_s := hts (.static yX3_bit) (by decide +kernel)
  refine lv_iconst (v := 0) hx hb dX0_landOf_0 (by decide) ?_
  refine lv_istore_n (lv' := [(2, .int (0 : Int32)), (0, .ref a0), (1, .int x1)]) hx hb dX0_landOf_1 rfl hl (by decide) rfl (fun ls hl => ?_)
  have L2 : ∀ (n : Nat) (s2 : Int32), wh (fX0_landOf_2 x1 gl) n s2 = some res → ∀ ls : Array Slot, lv_has ls 3 [(0, .ref a0), (1, .int x1), (2, .int s2)] → W p l e ({ frames := 1, cells := 0, slots := 0, locals := 20 }) s m args below meth c s.heap [] 0 0 (MQ below (k2_QcV (.int res)) args s 0 0 (fun _ => False)) (F0 m 2 ls []) := by
    intro n
    induction n with
    | zero => intro s2 hw; exact (wh_0 hw).elim
    | succ n ih2 =>
      intro s2 hw ls hl
      obtain ⟨r0, h, hr2⟩ := wh_s hw
      refine lv_iload_n hx hb dX0_landOf_2 rfl (lv_at hl 2 rfl) ?_
      refine lv_bipush (v := 6) hx hb dX0_landOf_3 (by decide) ?_
      refine lv_icmp_ge (tgt := 32) hx hb dX0_landOf_5 (by decide) (fun c5 => ?_) (fun c5 => ?_)
      ·
        replace h := gdp h c5
        refine lv_bipush (v := -4) hx hb dX0_landOf_32 (by decide) ?_
        obtain rfl := Option.some.inj h
        have e0 : (-4 : Int32) = res := hr2
        subst e0
        exact retPi (v := (-4 : Int32)) hx hb hr hlocks dX0_landOf_34
      ·
        replace h := gdn h c5
        refine lv_aload_n hx hb dX0_landOf_8 rfl (lv_at hl 0 rfl) ?_
        refine va_get (D := g.1) (ci := 0) (v := .ref a1) (C := RX0) (T := TX0) (N := 3) hx hb hts iX0 hown hK.1 hP 0 rfl rfl 0 (by decide) f9 (fun _ h9 => h9) rfl dX0_landOf_9 ?_
        refine lv_iload_n hx hb dX0_landOf_12 rfl (lv_at hl 2 rfl) ?_
        obtain ⟨hi, h⟩ := gdi h
        refine va_lald (D := g.1) hx hb hK.1 hP 1 1 rfl rfl hi dX0_landOf_13 ?_
        refine lv_iload_n hx hb dX0_landOf_14 rfl (lv_at hl 1 rfl) ?_
        refine kPN (As := [.int x1]) (rest := [.long (gl (s2).toNatClampNeg)]) S (ctX3_bit l g x1  (fX3_bit x1) rfl) ⟨va_cnB 1 hts gX0_landOf_X3_bit_n22 rfl rfl rfl hK.2.2.2.2.1 n22_i (by decide +kernel) ⟨Nat.le_of_ble_eq_true rfl, Nat.le_of_ble_eq_true rfl⟩, n22_s, trivial⟩ hK rfl rfl hl.1 rfl (Nat.le_of_ble_eq_true rfl) dX0_landOf_15 ⟨Nat.zero_le _, Nat.zero_le _⟩ ?_
        refine lv_land hx hb dX0_landOf_18 ?_
        refine lv_lconst (v := 0) hx hb dX0_landOf_19 (by decide) ?_
        refine W.lcmp hx hb dX0_landOf_20 ?_
        refine lv_if_eq (tgt := 26) hx hb dX0_landOf_21 (by decide) (fun c21 => ?_) (fun c21 => ?_)
        ·
          replace h := gdp h c21
          refine lv_iinc (v := (s2 + 1)) (lv' := [(2, .int (s2 + 1)), (0, .ref a0), (1, .int x1)]) hx hb dX0_landOf_26 hl (k := 2) rfl rfl (by decide) rfl (fun ls hl => ?_)
          refine lv_goto (tgt := 2) hx hb dX0_landOf_29 (by decide) ?_
          obtain rfl := Option.some.inj h
          exact ih2 (s2 + 1) hr2 _ (lv_sub hl [1, 2, 0] rfl)
        ·
          replace h := gdn h c21
          refine lv_iload_n hx hb dX0_landOf_24 rfl (lv_at hl 2 rfl) ?_
          obtain rfl := Option.some.inj h
          have e0 : s2 = res := hr2
          subst e0
          exact retPi hx hb hr hlocks dX0_landOf_25
  have hw2 := h
  exact L2 _ (0 : Int32) hw2 _ (lv_sub hl [1, 2, 0] rfl)
-- LandBoard$Grid.put
set_option maxHeartbeats 4000000 in
set_option maxRecDepth 100000 in
theorem ctX0_put (l : Launch) (g : GG) (a0 a1 : Nat) (x1 : Int32) (x2 : Int32) (gw : Int32) (gh : Int32) (gl : (Nat → Int64)) (res : (Nat → Int64)) (h : fX0_put x1 x2 gl = some res) : MM l yX0_put wsX0_put ({ frames := 1, cells := 0, slots := 0, locals := 20 }) g [.ref a0, .int x1, .int x2] (wG g a0 a1 gw gh gl) (wG g a0 a1 gw gh res) none := by
  refine MM.of (cc := cX0_put) (own := RX0) 4 none (by decide +kernel) rfl (Nat.le_of_ble_eq_true rfl) rfl ?_
  intro p e s m args below meth c hx hb hr hml hown hts hlocks hK A hA ls hl hP hD hS
  have S : CallFix p m c cX0_put 4 s args wsX0_put RX0 := ⟨hx, hb, hml, hown, hts⟩
  have hl : lv_has ls 4 [(0, .ref a0), (1, .int x1), (2, .int x2)] := hl
  have f9 := hts (.fieldLink RX0 9 "LandBoard$Grid" "lands" "[J") (by decide +kernel)
  have iX0 := (by decide +kernel : ∀ w ∈ u_ws RX0 TX0 3, w ∈ wsX0_put)
  have n22_i := hts (.initialized RX3) (by decide +kernel)
  have n22_s := hts (.static yX3_bit) (by decide +kernel)
  have k26 := hts (.constantLong RX0 26 (-1)) (by decide +kernel)
  refine lv_iconst (v := 0) hx hb dX0_put_0 (by decide) ?_
  refine lv_istore_n (lv' := [(3, .int (0 : Int32)), (0, .ref a0), (1, .int x1), (2, .int x2)]) hx hb dX0_put_1 rfl hl (by decide) rfl (fun ls hl => ?_)
  obtain ⟨t2, hw2, h⟩ := gdb h
  have X2 : ∀ (H : Heap) (locs : List Loc) (ls : Array Slot), va_P g.1 vwCl (wG g a0 a1 gw gh t2) H → va_D A (wG g a0 a1 gw gh t2) → va_S A s.heap H locs → lv_has ls 4 [] → W p l e ({ frames := 1, cells := 0, slots := 0, locals := 20 }) s m args below meth c H locs 0 0 (MQ below (QM g none (wG g a0 a1 gw gh res) A) args s 0 0 A) (F0 m 49 ls []) := by
    intro H locs ls hP hD hS hl
    obtain rfl := Option.some.inj h
    exact retMv hx hb hr hlocks hP hD hS dX0_put_49
  clear h
  have L2 : ∀ (n : Nat) (s2 : Int32 × (Nat → Int64)), wh (fX0_put_2 x1 x2) n s2 = some t2 → ∀ (H : Heap) (locs : List Loc) (ls : Array Slot), va_P g.1 vwCl (wG g a0 a1 gw gh s2.2) H → va_D A (wG g a0 a1 gw gh s2.2) → va_S A s.heap H locs → lv_has ls 4 [(0, .ref a0), (1, .int x1), (2, .int x2), (3, .int s2.1)] → W p l e ({ frames := 1, cells := 0, slots := 0, locals := 20 }) s m args below meth c H locs 0 0 (MQ below (QM g none (wG g a0 a1 gw gh res) A) args s 0 0 A) (F0 m 2 ls []) := by
    intro n
    induction n with
    | zero => intro s2 hw; exact (wh_0 hw).elim
    | succ n ih2 =>
      intro s2 hw H locs ls hP hD hS hl
      obtain ⟨r0, h, hr2⟩ := wh_s hw
      refine lv_iload_n hx hb dX0_put_2 rfl (lv_at hl 3 rfl) ?_
      refine lv_bipush (v := 6) hx hb dX0_put_3 (by decide) ?_
      refine lv_icmp_ge (tgt := 49) hx hb dX0_put_5 (by decide) (fun c5 => ?_) (fun c5 => ?_)
      ·
        replace h := gdp h c5
        obtain rfl := Option.some.inj h
        have e0 : s2.2 = t2 := hr2
        subst e0
        exact X2 _ _ _ hP hD hS (lv_sub hl [] rfl)
      ·
        replace h := gdn h c5
        refine lv_aload_n hx hb dX0_put_8 rfl (lv_at hl 0 rfl) ?_
        refine va_get (D := g.1) (ci := 0) (v := .ref a1) (C := RX0) (T := TX0) (N := 3) hx hb hts iX0 hown hK.1 hP 0 rfl rfl 0 (by decide) f9 (fun _ h9 => h9) rfl dX0_put_9 ?_
        refine lv_iload_n hx hb dX0_put_12 rfl (lv_at hl 3 rfl) ?_
        refine lv_dup2_11 hx hb dX0_put_13 rfl rfl ?_
        obtain ⟨hi, h⟩ := gdi h
        refine va_lald (D := g.1) hx hb hK.1 hP 1 1 rfl rfl hi dX0_put_14 ?_
        refine lv_iload_n hx hb dX0_put_15 rfl (lv_at hl 1 rfl) ?_
        refine kPN (As := [.int x1]) (rest := [.long (s2.2 (s2.1).toNatClampNeg), .int s2.1, .ref a1]) S (ctX3_bit l g x1  (fX3_bit x1) rfl) ⟨va_cnB 1 hts gX0_put_X3_bit_n22 rfl rfl rfl hK.2.2.2.2.1 n22_i (by decide +kernel) ⟨Nat.le_of_ble_eq_true rfl, Nat.le_of_ble_eq_true rfl⟩, n22_s, trivial⟩ hK rfl rfl hl.1 rfl (Nat.le_of_ble_eq_true rfl) dX0_put_16 ⟨Nat.zero_le _, Nat.zero_le _⟩ ?_
        refine lv_ldc2 hx hb hown k26 dX0_put_19 ?_
        refine lv_lxor hx hb dX0_put_22 ?_
        refine lv_land hx hb dX0_put_23 ?_
        obtain ⟨hi, h⟩ := gdi h
        refine va_last (D := g.1) hx hb hK.1 hP hD hS 1 1 rfl rfl hi dX0_put_24 (fun H locs hP hD hS => ?_)
        have hP : va_P g.1 vwCl (wG g a0 a1 gw gh (vp_updL s2.2 (s2.1).toNatClampNeg ((s2.2 (s2.1).toNatClampNeg) &&& ((fX3_bit x1) ^^^ (-1 : Int64))))) H := hP
        have hD : va_D A (wG g a0 a1 gw gh (vp_updL s2.2 (s2.1).toNatClampNeg ((s2.2 (s2.1).toNatClampNeg) &&& ((fX3_bit x1) ^^^ (-1 : Int64))))) := hD
        refine lv_iload_n hx hb dX0_put_25 rfl (lv_at hl 3 rfl) ?_
        refine lv_iload_n hx hb dX0_put_26 rfl (lv_at hl 2 rfl) ?_
        refine lv_icmp_ne (tgt := 43) hx hb dX0_put_27 (by decide) (fun c27 => ?_) (fun c27 => ?_)
        ·
          replace h := gdn h c27
          refine lv_iinc (v := (s2.1 + 1)) (lv' := [(3, .int (s2.1 + 1)), (0, .ref a0), (1, .int x1), (2, .int x2)]) hx hb dX0_put_43 hl (k := 3) rfl rfl (by decide) rfl (fun ls hl => ?_)
          refine lv_goto (tgt := 2) hx hb dX0_put_46 (by decide) ?_
          obtain rfl := Option.some.inj h
          exact ih2 ((s2.1 + 1), (vp_updL s2.2 (s2.1).toNatClampNeg ((s2.2 (s2.1).toNatClampNeg) &&& ((fX3_bit x1) ^^^ (-1 : Int64))))) hr2 _ _ _ hP hD hS (lv_sub hl [1, 2, 3, 0] rfl)
        ·
          replace h := gdp h c27
          refine lv_aload_n hx hb dX0_put_30 rfl (lv_at hl 0 rfl) ?_
          refine va_get (D := g.1) (ci := 0) (v := .ref a1) (C := RX0) (T := TX0) (N := 3) hx hb hts iX0 hown hK.1 hP 0 rfl rfl 0 (by decide) f9 (fun _ h9 => h9) rfl dX0_put_31 ?_
          refine lv_iload_n hx hb dX0_put_34 rfl (lv_at hl 3 rfl) ?_
          refine lv_dup2_11 hx hb dX0_put_35 rfl rfl ?_
          obtain ⟨hi, h⟩ := gdi h
          refine va_lald (D := g.1) hx hb hK.1 hP 1 1 rfl rfl hi dX0_put_36 ?_
          refine lv_iload_n hx hb dX0_put_37 rfl (lv_at hl 1 rfl) ?_
          refine kPN (As := [.int x1]) (rest := [.long ((vp_updL s2.2 (s2.1).toNatClampNeg ((s2.2 (s2.1).toNatClampNeg) &&& ((fX3_bit x1) ^^^ (-1 : Int64)))) (s2.1).toNatClampNeg), .int s2.1, .ref a1]) S (ctX3_bit l g x1  (fX3_bit x1) rfl) ⟨va_cnB 1 hts gX0_put_X3_bit_n22 rfl rfl rfl hK.2.2.2.2.1 n22_i (by decide +kernel) ⟨Nat.le_of_ble_eq_true rfl, Nat.le_of_ble_eq_true rfl⟩, n22_s, trivial⟩ hK rfl rfl hl.1 rfl (Nat.le_of_ble_eq_true rfl) dX0_put_38 ⟨Nat.zero_le _, Nat.zero_le _⟩ ?_
          refine lv_lor hx hb dX0_put_41 ?_
          obtain ⟨hi, h⟩ := gdi h
          refine va_last (D := g.1) hx hb hK.1 hP hD hS 1 1 rfl rfl hi dX0_put_42 (fun H locs hP hD hS => ?_)
          have hP : va_P g.1 vwCl (wG g a0 a1 gw gh (vp_updL (vp_updL s2.2 (s2.1).toNatClampNeg ((s2.2 (s2.1).toNatClampNeg) &&& ((fX3_bit x1) ^^^ (-1 : Int64)))) (s2.1).toNatClampNeg (((vp_updL s2.2 (s2.1).toNatClampNeg ((s2.2 (s2.1).toNatClampNeg) &&& ((fX3_bit x1) ^^^ (-1 : Int64)))) (s2.1).toNatClampNeg) ||| (fX3_bit x1)))) H := hP
          have hD : va_D A (wG g a0 a1 gw gh (vp_updL (vp_updL s2.2 (s2.1).toNatClampNeg ((s2.2 (s2.1).toNatClampNeg) &&& ((fX3_bit x1) ^^^ (-1 : Int64)))) (s2.1).toNatClampNeg (((vp_updL s2.2 (s2.1).toNatClampNeg ((s2.2 (s2.1).toNatClampNeg) &&& ((fX3_bit x1) ^^^ (-1 : Int64)))) (s2.1).toNatClampNeg) ||| (fX3_bit x1)))) := hD
          refine lv_iinc (v := (s2.1 + 1)) (lv' := [(3, .int (s2.1 + 1)), (0, .ref a0), (1, .int x1), (2, .int x2)]) hx hb dX0_put_43 hl (k := 3) rfl rfl (by decide) rfl (fun ls hl => ?_)
          refine lv_goto (tgt := 2) hx hb dX0_put_46 (by decide) ?_
          obtain rfl := Option.some.inj h
          exact ih2 ((s2.1 + 1), (vp_updL (vp_updL s2.2 (s2.1).toNatClampNeg ((s2.2 (s2.1).toNatClampNeg) &&& ((fX3_bit x1) ^^^ (-1 : Int64)))) (s2.1).toNatClampNeg (((vp_updL s2.2 (s2.1).toNatClampNeg ((s2.2 (s2.1).toNatClampNeg) &&& ((fX3_bit x1) ^^^ (-1 : Int64)))) (s2.1).toNatClampNeg) ||| (fX3_bit x1)))) hr2 _ _ _ hP hD hS (lv_sub hl [1, 2, 3, 0] rfl)
  exact L2 _ ((0 : Int32), gl) hw2 _ _ _ hP hD hS (lv_sub hl [1, 2, 3, 0] rfl)
-- LandBoard$Grid.cellsOf
set_option maxHeartbeats 4000000 in
set_option maxRecDepth 100000 in
theorem ctX0_cellsOf (l : Launch) (g : GG) (a0 a1 : Nat) (x1 : Int32) (gw : Int32) (gh : Int32) (gl : (Nat → Int64)) (res : Int64) (h : fX0_cellsOf x1 gl = some res) : MP l yX0_cellsOf wsX0_cellsOf ({ frames := 1, cells := 0, slots := 0, locals := 20 }) g [.ref a0, .int x1] (wG g a0 a1 gw gh gl) (.long res) := by
  refine MP.of (cc := cX0_cellsOf) (own := RX0) 2 (some .long) (by decide +kernel) rfl (Nat.le_of_ble_eq_true rfl) rfl ?_
  intro p e s m args below meth c hx hb hr hml hown hts hlocks hP hK ls hl
  have S : CallFix p m c cX0_cellsOf 2 s args wsX0_cellsOf RX0 := ⟨hx, hb, hml, hown, hts⟩
  have hl : lv_has ls 2 [(0, .ref a0), (1, .int x1)] := hl
  have n28_i := hts (.initialized RX3) (by decide +kernel)
  have n28_s := hts (.static yX3_isLand) (by decide +kernel)
  have f9 := hts (.fieldLink RX0 9 "LandBoard$Grid" "lands" "[J") (by decide +kernel)
  have iX0 := (by decide +kernel : ∀ w ∈ u_ws RX0 TX0 3, w ∈ wsX0_cellsOf)
  refine lv_iload_n hx hb dX0_cellsOf_0 rfl (lv_at hl 1 rfl) ?_
  refine kPN (As := [.int x1]) (rest := []) S (ctX3_isLand l g x1  (fX3_isLand x1) rfl) ⟨va_cnB 1 hts gX0_cellsOf_X3_isLand_n28 rfl rfl rfl hK.2.2.2.2.2.1 n28_i (by decide +kernel) ⟨Nat.le_of_ble_eq_true rfl, Nat.le_of_ble_eq_true rfl⟩, n28_s, trivial⟩ hK rfl rfl hl.1 rfl (Nat.le_of_ble_eq_true rfl) dX0_cellsOf_1 ⟨Nat.zero_le _, Nat.zero_le _⟩ ?_
  refine lv_if_eq (tgt := 16) hx hb dX0_cellsOf_4 (by decide) (fun c4 => ?_) (fun c4 => ?_)
  ·
    replace h := gdp h c4
    refine lv_lconst (v := 0) hx hb dX0_cellsOf_16 (by decide) ?_
    obtain rfl := Option.some.inj h
    exact retPl hx hb hr hlocks dX0_cellsOf_17
  ·
    replace h := gdn h c4
    refine lv_aload_n hx hb dX0_cellsOf_7 rfl (lv_at hl 0 rfl) ?_
    refine va_get (D := g.1) (ci := 0) (v := .ref a1) (C := RX0) (T := TX0) (N := 3) hx hb hts iX0 hown hK.1 hP 0 rfl rfl 0 (by decide) f9 (fun _ h9 => h9) rfl dX0_cellsOf_8 ?_
    refine lv_iload_n hx hb dX0_cellsOf_11 rfl (lv_at hl 1 rfl) ?_
    obtain ⟨hi, h⟩ := gdi h
    refine va_lald (D := g.1) hx hb hK.1 hP 1 1 rfl rfl hi dX0_cellsOf_12 ?_
    refine lv_goto (tgt := 17) hx hb dX0_cellsOf_13 (by decide) ?_
    obtain rfl := Option.some.inj h
    exact retPl hx hb hr hlocks dX0_cellsOf_17
-- LandBoard$Grid.sizeOf
set_option maxHeartbeats 4000000 in
set_option maxRecDepth 100000 in
theorem ctX0_sizeOf (l : Launch) (g : GG) (a0 a1 : Nat) (x1 : Int32) (gw : Int32) (gh : Int32) (gl : (Nat → Int64)) (res : Int32) (h : fX0_sizeOf x1 gl = some res) : MP l yX0_sizeOf wsX0_sizeOf ({ frames := 2, cells := 0, slots := 0, locals := 41 }) g [.ref a0, .int x1] (wG g a0 a1 gw gh gl) (.int res) := by
  refine MP.of (cc := cX0_sizeOf) (own := RX0) 2 (some .int) (by decide +kernel) rfl (Nat.le_of_ble_eq_true rfl) rfl ?_
  intro p e s m args below meth c hx hb hr hml hown hts hlocks hP hK ls hl
  have S : CallFix p m c cX0_sizeOf 2 s args wsX0_sizeOf RX0 := ⟨hx, hb, hml, hown, hts⟩
  have hl : lv_has ls 2 [(0, .ref a0), (1, .int x1)] := hl
  refine lv_aload_n hx hb dX0_sizeOf_0 rfl (lv_at hl 0 rfl) ?_
  refine lv_iload_n hx hb dX0_sizeOf_1 rfl (lv_at hl 1 rfl) ?_
  obtain ⟨r2, hr2, h⟩ := gdb h
  refine kPV (As := [.int x1]) (rest := []) (ci := 0) S (ctX0_cellsOf l g a0 a1 x1 gw gh gl r2 hr2) (cwV 1 hts gX0_sizeOf_X0_cellsOf rfl rfl rfl (by decide +kernel) ⟨Nat.le_of_ble_eq_true rfl, Nat.le_of_ble_eq_true rfl⟩) hK hP [0, 1] rfl rfl rfl rfl rfl hl.1 rfl (Nat.le_of_ble_eq_true rfl) dX0_sizeOf_2 ⟨Nat.zero_le _, Nat.zero_le _⟩ ?_
  refine kPS (As := [.long r2]) (rest := []) S (ctJ13_bitCount_95d88 l g r2  (fJ13_bitCount_95d88 r2) rfl) (va_cwS 1 hts gX0_sizeOf_J13_bitCount_95d88 rfl rfl rfl (by decide +kernel) ⟨Nat.le_of_ble_eq_true rfl, Nat.le_of_ble_eq_true rfl⟩) hK rfl rfl hl.1 rfl (Nat.le_of_ble_eq_true rfl) dX0_sizeOf_5 ⟨Nat.zero_le _, Nat.zero_le _⟩ ?_
  obtain rfl := Option.some.inj h
  exact retPi hx hb hr hlocks dX0_sizeOf_8
-- LandBoard$Grid.peopledCells
set_option maxHeartbeats 4000000 in
set_option maxRecDepth 100000 in
theorem ctX0_peopledCells (l : Launch) (g : GG) (a0 a1 : Nat)  (gw : Int32) (gh : Int32) (gl : (Nat → Int64)) (res : Int64) (h : fX0_peopledCells gl = some res) : MP l yX0_peopledCells wsX0_peopledCells ({ frames := 0, cells := 0, slots := 0, locals := 0 }) g [.ref a0] (wG g a0 a1 gw gh gl) (.long res) := by
  refine MP.of (cc := cX0_peopledCells) (own := RX0) 4 (some .long) (by decide +kernel) rfl (Nat.le_of_ble_eq_true rfl) rfl ?_
  intro p e s m args below meth c hx hb hr hml hown hts hlocks hP hK ls hl
  have S : CallFix p m c cX0_peopledCells 4 s args wsX0_peopledCells RX0 := ⟨hx, hb, hml, hown, hts⟩
  have hl : lv_has ls 4 [(0, .ref a0)] := hl
  have f9 := hts (.fieldLink RX0 9 "LandBoard$Grid" "lands" "[J") (by decide +kernel)
  have iX0 := (by decide +kernel : ∀ w ∈ u_ws RX0 TX0 3, w ∈ wsX0_peopledCells)
  refine lv_lconst (v := 0) hx hb dX0_peopledCells_0 (by decide) ?_
  refine lv_lstore_n (lv' := [(1, .long (0 : Int64)), (0, .ref a0)]) hx hb dX0_peopledCells_1 rfl hl (by decide) rfl (fun ls hl => ?_)
  refine lv_iconst (v := 0) hx hb dX0_peopledCells_2 (by decide) ?_
  refine lv_istore_n (lv' := [(3, .int (0 : Int32)), (1, .long (0 : Int64)), (0, .ref a0)]) hx hb dX0_peopledCells_3 rfl hl (by decide) rfl (fun ls hl => ?_)
  obtain ⟨t4, hw4, h⟩ := gdb h
  have X4 : ∀ ls : Array Slot, lv_has ls 4 [(1, .long t4)] → W p l e ({ frames := 0, cells := 0, slots := 0, locals := 0 }) s m args below meth c s.heap [] 0 0 (MQ below (k2_QcV (.long res)) args s 0 0 (fun _ => False)) (F0 m 25 ls []) := by
    intro ls hl
    refine lv_lload_n hx hb dX0_peopledCells_25 rfl (lv_at hl 0 rfl) ?_
    obtain rfl := Option.some.inj h
    exact retPl hx hb hr hlocks dX0_peopledCells_26
  clear h
  have L4 : ∀ (n : Nat) (s4 : Int64 × Int32), wh (fX0_peopledCells_4 gl) n s4 = some t4 → ∀ ls : Array Slot, lv_has ls 4 [(0, .ref a0), (1, .long s4.1), (3, .int s4.2)] → W p l e ({ frames := 0, cells := 0, slots := 0, locals := 0 }) s m args below meth c s.heap [] 0 0 (MQ below (k2_QcV (.long res)) args s 0 0 (fun _ => False)) (F0 m 4 ls []) := by
    intro n
    induction n with
    | zero => intro s4 hw; exact (wh_0 hw).elim
    | succ n ih4 =>
      intro s4 hw ls hl
      obtain ⟨r0, h, hr4⟩ := wh_s hw
      refine lv_iload_n hx hb dX0_peopledCells_4 rfl (lv_at hl 2 rfl) ?_
      refine lv_bipush (v := 6) hx hb dX0_peopledCells_5 (by decide) ?_
      refine lv_icmp_ge (tgt := 25) hx hb dX0_peopledCells_7 (by decide) (fun c7 => ?_) (fun c7 => ?_)
      ·
        replace h := gdp h c7
        obtain rfl := Option.some.inj h
        have e0 : s4.1 = t4 := hr4
        subst e0
        exact X4 _ (lv_sub hl [1] rfl)
      ·
        replace h := gdn h c7
        refine lv_lload_n hx hb dX0_peopledCells_10 rfl (lv_at hl 1 rfl) ?_
        refine lv_aload_n hx hb dX0_peopledCells_11 rfl (lv_at hl 0 rfl) ?_
        refine va_get (D := g.1) (ci := 0) (v := .ref a1) (C := RX0) (T := TX0) (N := 3) hx hb hts iX0 hown hK.1 hP 0 rfl rfl 0 (by decide) f9 (fun _ h9 => h9) rfl dX0_peopledCells_12 ?_
        refine lv_iload_n hx hb dX0_peopledCells_15 rfl (lv_at hl 2 rfl) ?_
        obtain ⟨hi, h⟩ := gdi h
        refine va_lald (D := g.1) hx hb hK.1 hP 1 1 rfl rfl hi dX0_peopledCells_16 ?_
        refine lv_lor hx hb dX0_peopledCells_17 ?_
        refine lv_lstore_n (lv' := [(1, .long (s4.1 ||| (gl (s4.2).toNatClampNeg))), (0, .ref a0), (3, .int s4.2)]) hx hb dX0_peopledCells_18 rfl hl (by decide) rfl (fun ls hl => ?_)
        refine lv_iinc (v := (s4.2 + 1)) (lv' := [(3, .int (s4.2 + 1)), (1, .long (s4.1 ||| (gl (s4.2).toNatClampNeg))), (0, .ref a0)]) hx hb dX0_peopledCells_19 hl (k := 2) rfl rfl (by decide) rfl (fun ls hl => ?_)
        refine lv_goto (tgt := 4) hx hb dX0_peopledCells_22 (by decide) ?_
        obtain rfl := Option.some.inj h
        exact ih4 ((s4.1 ||| (gl (s4.2).toNatClampNeg)), (s4.2 + 1)) hr4 _ (lv_sub hl [2, 1, 0] rfl)
  exact L4 _ ((0 : Int64), (0 : Int32)) hw4 _ (lv_sub hl [2, 1, 0] rfl)
-- LandBoard$Grid.isAtSea
set_option maxHeartbeats 4000000 in
set_option maxRecDepth 100000 in
theorem ctX0_isAtSea (l : Launch) (g : GG) (a0 a1 : Nat) (x1 : Int64) (gw : Int32) (gh : Int32) (gl : (Nat → Int64)) (res : Int32) (h : fX0_isAtSea x1 gl = some res) : MP l yX0_isAtSea wsX0_isAtSea ({ frames := 2, cells := 0, slots := 0, locals := 42 }) g [.ref a0, .long x1] (wG g a0 a1 gw gh gl) (.int res) := by
  refine MP.of (cc := cX0_isAtSea) (own := RX0) 3 (some .boolean) (by decide +kernel) rfl (Nat.le_of_ble_eq_true rfl) rfl ?_
  intro p e s m args below meth c hx hb hr hml hown hts hlocks hP hK ls hl
  have S : CallFix p m c cX0_isAtSea 3 s args wsX0_isAtSea RX0 := ⟨hx, hb, hml, hown, hts⟩
  have hl : lv_has ls 3 [(0, .ref a0), (1, .long x1)] := hl
  have k45 := hts (.constantLong RX0 45 (-35604928818740737)) (by decide +kernel)
  have n47_i := hts (.initialized RX3) (by decide +kernel)
  have n47_s := hts (.static yX3_around) (by decide +kernel)
  have k26 := hts (.constantLong RX0 26 (-1)) (by decide +kernel)
  refine lv_lload_n hx hb dX0_isAtSea_0 rfl (lv_at hl 1 rfl) ?_
  refine lv_ldc2 hx hb hown k45 dX0_isAtSea_1 ?_
  refine lv_land hx hb dX0_isAtSea_4 ?_
  refine lv_lconst (v := 0) hx hb dX0_isAtSea_5 (by decide) ?_
  refine W.lcmp hx hb dX0_isAtSea_6 ?_
  refine lv_if_ne (tgt := 28) hx hb dX0_isAtSea_7 (by decide) (fun c7 => ?_) (fun c7 => ?_)
  ·
    replace h := gdn h c7
    refine lv_iconst (v := 1) hx hb dX0_isAtSea_28 (by decide) ?_
    refine lv_goto (tgt := 33) hx hb dX0_isAtSea_29 (by decide) ?_
    obtain rfl := Option.some.inj h
    exact retPz (v := (1 : Int32)) hx hb hr hlocks rfl dX0_isAtSea_33
  ·
    replace h := gdp h c7
    refine lv_lload_n hx hb dX0_isAtSea_10 rfl (lv_at hl 1 rfl) ?_
    refine kPN (As := [.long x1]) (rest := []) S (ctX3_around l g x1  (fX3_around x1) rfl) ⟨va_cnB 1 hts gX0_isAtSea_X3_around_n47 rfl rfl rfl hK.2.2.2.2.2.2.1 n47_i (by decide +kernel) ⟨Nat.le_of_ble_eq_true rfl, Nat.le_of_ble_eq_true rfl⟩, n47_s, trivial⟩ hK rfl rfl hl.1 rfl (Nat.le_of_ble_eq_true rfl) dX0_isAtSea_11 ⟨Nat.zero_le _, Nat.zero_le _⟩ ?_
    refine lv_aload_n hx hb dX0_isAtSea_14 rfl (lv_at hl 0 rfl) ?_
    obtain ⟨r15, hr15, h⟩ := gdb h
    refine kPV (As := []) (rest := [.long (fX3_around x1)]) (ci := 0) S (ctX0_peopledCells l g a0 a1  gw gh gl r15 hr15) (cwV 0 hts gX0_isAtSea_X0_peopledCells rfl rfl rfl (by decide +kernel) ⟨Nat.le_of_ble_eq_true rfl, Nat.le_of_ble_eq_true rfl⟩) hK hP [0, 1] rfl rfl rfl rfl rfl hl.1 rfl (Nat.le_of_ble_eq_true rfl) dX0_isAtSea_15 ⟨Nat.zero_le _, Nat.zero_le _⟩ ?_
    refine lv_ldc2 hx hb hown k26 dX0_isAtSea_18 ?_
    refine lv_lxor hx hb dX0_isAtSea_21 ?_
    refine lv_land hx hb dX0_isAtSea_22 ?_
    refine lv_lconst (v := 0) hx hb dX0_isAtSea_23 (by decide) ?_
    refine W.lcmp hx hb dX0_isAtSea_24 ?_
    refine lv_if_eq (tgt := 32) hx hb dX0_isAtSea_25 (by decide) (fun c25 => ?_) (fun c25 => ?_)
    ·
      replace h := gdp h c25
      refine lv_iconst (v := 0) hx hb dX0_isAtSea_32 (by decide) ?_
      obtain rfl := Option.some.inj h
      exact retPz (v := (0 : Int32)) hx hb hr hlocks rfl dX0_isAtSea_33
    ·
      replace h := gdn h c25
      refine lv_iconst (v := 1) hx hb dX0_isAtSea_28 (by decide) ?_
      refine lv_goto (tgt := 33) hx hb dX0_isAtSea_29 (by decide) ?_
      obtain rfl := Option.some.inj h
      exact retPz (v := (1 : Int32)) hx hb hr hlocks rfl dX0_isAtSea_33
-- LandBoard$Grid.touching
set_option maxHeartbeats 4000000 in
set_option maxRecDepth 100000 in
theorem ctX0_touching (l : Launch) (g : GG) (a0 a1 : Nat)  (gw : Int32) (gh : Int32) (gl : (Nat → Int64)) (res : Int64) (h : fX0_touching gl = some res) : MP l yX0_touching wsX0_touching ({ frames := 3, cells := 0, slots := 0, locals := 64 }) g [.ref a0] (wG g a0 a1 gw gh gl) (.long res) := by
  refine MP.of (cc := cX0_touching) (own := RX0) 7 (some .long) (by decide +kernel) rfl (Nat.le_of_ble_eq_true rfl) rfl ?_
  intro p e s m args below meth c hx hb hr hml hown hts hlocks hP hK ls hl
  have S : CallFix p m c cX0_touching 7 s args wsX0_touching RX0 := ⟨hx, hb, hml, hown, hts⟩
  have hl : lv_has ls 7 [(0, .ref a0)] := hl
  have f9 := hts (.fieldLink RX0 9 "LandBoard$Grid" "lands" "[J") (by decide +kernel)
  have iX0 := (by decide +kernel : ∀ w ∈ u_ws RX0 TX0 3, w ∈ wsX0_touching)
  have n47_i := hts (.initialized RX3) (by decide +kernel)
  have n47_s := hts (.static yX3_around) (by decide +kernel)
  have n22_i := hts (.initialized RX3) (by decide +kernel)
  have n22_s := hts (.static yX3_bit) (by decide +kernel)
  refine lv_lconst (v := 0) hx hb dX0_touching_0 (by decide) ?_
  refine lv_lstore_n (lv' := [(1, .long (0 : Int64)), (0, .ref a0)]) hx hb dX0_touching_1 rfl hl (by decide) rfl (fun ls hl => ?_)
  refine lv_iconst (v := 0) hx hb dX0_touching_2 (by decide) ?_
  refine lv_istore_n (lv' := [(3, .int (0 : Int32)), (1, .long (0 : Int64)), (0, .ref a0)]) hx hb dX0_touching_3 rfl hl (by decide) rfl (fun ls hl => ?_)
  obtain ⟨t4, hw4, h⟩ := gdb h
  have X4 : ∀ ls : Array Slot, lv_has ls 7 [(1, .long t4)] → W p l e ({ frames := 3, cells := 0, slots := 0, locals := 64 }) s m args below meth c s.heap [] 0 0 (MQ below (k2_QcV (.long res)) args s 0 0 (fun _ => False)) (F0 m 99 ls []) := by
    intro ls hl
    refine lv_lload_n hx hb dX0_touching_99 rfl (lv_at hl 0 rfl) ?_
    obtain rfl := Option.some.inj h
    exact retPl hx hb hr hlocks dX0_touching_100
  clear h
  have L4 : ∀ (n : Nat) (s4 : Int64 × Int32), wh (fX0_touching_4 gl) n s4 = some t4 → ∀ ls : Array Slot, lv_has ls 7 [(0, .ref a0), (1, .long s4.1), (3, .int s4.2)] → W p l e ({ frames := 3, cells := 0, slots := 0, locals := 64 }) s m args below meth c s.heap [] 0 0 (MQ below (k2_QcV (.long res)) args s 0 0 (fun _ => False)) (F0 m 4 ls []) := by
    intro n
    induction n with
    | zero => intro s4 hw; exact (wh_0 hw).elim
    | succ n ih4 =>
      intro s4 hw ls hl
      obtain ⟨r0, h, hr4⟩ := wh_s hw
      refine lv_iload_n hx hb dX0_touching_4 rfl (lv_at hl 2 rfl) ?_
      refine lv_bipush (v := 6) hx hb dX0_touching_5 (by decide) ?_
      refine lv_icmp_ge (tgt := 99) hx hb dX0_touching_7 (by decide) (fun c7 => ?_) (fun c7 => ?_)
      ·
        replace h := gdp h c7
        obtain rfl := Option.some.inj h
        have e0 : s4.1 = t4 := hr4
        subst e0
        exact X4 _ (lv_sub hl [1] rfl)
      ·
        replace h := gdn h c7
        refine lv_aload_n hx hb dX0_touching_10 rfl (lv_at hl 0 rfl) ?_
        refine va_get (D := g.1) (ci := 0) (v := .ref a1) (C := RX0) (T := TX0) (N := 3) hx hb hts iX0 hown hK.1 hP 0 rfl rfl 0 (by decide) f9 (fun _ h9 => h9) rfl dX0_touching_11 ?_
        refine lv_iload_n hx hb dX0_touching_14 rfl (lv_at hl 2 rfl) ?_
        obtain ⟨hi, h⟩ := gdi h
        refine va_lald (D := g.1) hx hb hK.1 hP 1 1 rfl rfl hi dX0_touching_15 ?_
        refine kPN (As := [.long (gl (s4.2).toNatClampNeg)]) (rest := []) S (ctX3_around l g (gl (s4.2).toNatClampNeg)  (fX3_around (gl (s4.2).toNatClampNeg)) rfl) ⟨va_cnB 1 hts gX0_touching_X3_around_n47 rfl rfl rfl hK.2.2.2.2.2.2.1 n47_i (by decide +kernel) ⟨Nat.le_of_ble_eq_true rfl, Nat.le_of_ble_eq_true rfl⟩, n47_s, trivial⟩ hK rfl rfl hl.1 rfl (Nat.le_of_ble_eq_true rfl) dX0_touching_16 ⟨Nat.zero_le _, Nat.zero_le _⟩ ?_
        refine lv_lstore (lv' := [(4, .long (fX3_around (gl (s4.2).toNatClampNeg))), (0, .ref a0), (1, .long s4.1), (3, .int s4.2)]) hx hb dX0_touching_19 hl (by decide) rfl (fun ls hl => ?_)
        refine lv_iload_n hx hb dX0_touching_21 rfl (lv_at hl 3 rfl) ?_
        refine lv_iconst (v := 1) hx hb dX0_touching_22 (by decide) ?_
        refine lv_iadd hx hb dX0_touching_23 ?_
        refine lv_istore (lv' := [(6, .int (s4.2 + (1 : Int32))), (4, .long (fX3_around (gl (s4.2).toNatClampNeg))), (0, .ref a0), (1, .long s4.1), (3, .int s4.2)]) hx hb dX0_touching_24 hl (by decide) rfl (fun ls hl => ?_)
        obtain ⟨t26, hw26, h⟩ := gdb h
        have X26 : ∀ ls : Array Slot, lv_has ls 7 [(0, .ref a0), (1, .long t26), (3, .int s4.2)] → W p l e ({ frames := 3, cells := 0, slots := 0, locals := 64 }) s m args below meth c s.heap [] 0 0 (MQ below (k2_QcV (.long res)) args s 0 0 (fun _ => False)) (F0 m 67 ls []) := by
          intro ls hl
          refine lv_aload_n hx hb dX0_touching_67 rfl (lv_at hl 0 rfl) ?_
          refine lv_aload_n hx hb dX0_touching_68 rfl (lv_at hl 0 rfl) ?_
          refine va_get (D := g.1) (ci := 0) (v := .ref a1) (C := RX0) (T := TX0) (N := 3) hx hb hts iX0 hown hK.1 hP 0 rfl rfl 0 (by decide) f9 (fun _ h9 => h9) rfl dX0_touching_69 ?_
          refine lv_iload_n hx hb dX0_touching_72 rfl (lv_at hl 2 rfl) ?_
          obtain ⟨hi, h⟩ := gdi h
          refine va_lald (D := g.1) hx hb hK.1 hP 1 1 rfl rfl hi dX0_touching_73 ?_
          obtain ⟨r74, hr74, h⟩ := gdb h
          refine kPV (As := [.long (gl (s4.2).toNatClampNeg)]) (rest := []) (ci := 0) S (ctX0_isAtSea l g a0 a1 (gl (s4.2).toNatClampNeg) gw gh gl r74 hr74) (cwV 1 hts gX0_touching_X0_isAtSea rfl rfl rfl (by decide +kernel) ⟨Nat.le_of_ble_eq_true rfl, Nat.le_of_ble_eq_true rfl⟩) hK hP [0, 1] rfl rfl rfl rfl rfl hl.1 rfl (Nat.le_of_ble_eq_true rfl) dX0_touching_74 ⟨Nat.zero_le _, Nat.zero_le _⟩ ?_
          refine lv_if_eq (tgt := 93) hx hb dX0_touching_77 (by decide) (fun c77 => ?_) (fun c77 => ?_)
          ·
            replace h := gdp h c77
            refine lv_iinc (v := (s4.2 + 1)) (lv' := [(3, .int (s4.2 + 1)), (0, .ref a0), (1, .long t26)]) hx hb dX0_touching_93 hl (k := 2) rfl rfl (by decide) rfl (fun ls hl => ?_)
            refine lv_goto (tgt := 4) hx hb dX0_touching_96 (by decide) ?_
            obtain rfl := Option.some.inj h
            exact ih4 (t26, (s4.2 + 1)) hr4 _ (lv_sub hl [1, 2, 0] rfl)
          ·
            replace h := gdn h c77
            refine lv_lload_n hx hb dX0_touching_80 rfl (lv_at hl 1 rfl) ?_
            refine lv_iload_n hx hb dX0_touching_81 rfl (lv_at hl 2 rfl) ?_
            refine lv_bipush (v := 8) hx hb dX0_touching_82 (by decide) ?_
            refine lv_imul hx hb dX0_touching_84 ?_
            refine lv_bipush (v := 6) hx hb dX0_touching_85 (by decide) ?_
            refine lv_iadd hx hb dX0_touching_87 ?_
            refine kPN (As := [.int ((s4.2 * (8 : Int32)) + (6 : Int32))]) (rest := [.long t26]) S (ctX3_bit l g ((s4.2 * (8 : Int32)) + (6 : Int32))  (fX3_bit ((s4.2 * (8 : Int32)) + (6 : Int32))) rfl) ⟨va_cnB 1 hts gX0_touching_X3_bit_n22 rfl rfl rfl hK.2.2.2.2.1 n22_i (by decide +kernel) ⟨Nat.le_of_ble_eq_true rfl, Nat.le_of_ble_eq_true rfl⟩, n22_s, trivial⟩ hK rfl rfl hl.1 rfl (Nat.le_of_ble_eq_true rfl) dX0_touching_88 ⟨Nat.zero_le _, Nat.zero_le _⟩ ?_
            refine lv_lor hx hb dX0_touching_91 ?_
            obtain ⟨v92, ev92, h⟩ := gdl h
            refine topl ev92 ?_
            refine lv_lstore_n (lv' := [(1, .long v92), (0, .ref a0), (3, .int s4.2)]) hx hb dX0_touching_92 rfl hl (by decide) rfl (fun ls hl => ?_)
            refine lv_iinc (v := (s4.2 + 1)) (lv' := [(3, .int (s4.2 + 1)), (1, .long v92), (0, .ref a0)]) hx hb dX0_touching_93 hl (k := 2) rfl rfl (by decide) rfl (fun ls hl => ?_)
            refine lv_goto (tgt := 4) hx hb dX0_touching_96 (by decide) ?_
            obtain rfl := Option.some.inj h
            exact ih4 (v92, (s4.2 + 1)) hr4 _ (lv_sub hl [2, 1, 0] rfl)
        clear h
        have L26 : ∀ (n : Nat) (s26 : Int64 × Int32), wh (fX0_touching_26 gl s4) n s26 = some t26 → ∀ ls : Array Slot, lv_has ls 7 [(0, .ref a0), (1, .long s26.1), (3, .int s4.2), (4, .long (fX3_around (gl (s4.2).toNatClampNeg))), (6, .int s26.2)] → W p l e ({ frames := 3, cells := 0, slots := 0, locals := 64 }) s m args below meth c s.heap [] 0 0 (MQ below (k2_QcV (.long res)) args s 0 0 (fun _ => False)) (F0 m 26 ls []) := by
          intro n
          induction n with
          | zero => intro s26 hw; exact (wh_0 hw).elim
          | succ n ih26 =>
            intro s26 hw ls hl
            obtain ⟨r0, h, hr26⟩ := wh_s hw
            refine lv_iload hx hb dX0_touching_26 (lv_at hl 4 rfl) ?_
            refine lv_bipush (v := 6) hx hb dX0_touching_28 (by decide) ?_
            refine lv_icmp_ge (tgt := 67) hx hb dX0_touching_30 (by decide) (fun c30 => ?_) (fun c30 => ?_)
            ·
              replace h := gdp h c30
              obtain rfl := Option.some.inj h
              have e0 : s26.1 = t26 := hr26
              subst e0
              exact X26 _ (lv_sub hl [0, 1, 2] rfl)
            ·
              replace h := gdn h c30
              refine lv_lload hx hb dX0_touching_33 (lv_at hl 3 rfl) ?_
              refine lv_aload_n hx hb dX0_touching_35 rfl (lv_at hl 0 rfl) ?_
              refine va_get (D := g.1) (ci := 0) (v := .ref a1) (C := RX0) (T := TX0) (N := 3) hx hb hts iX0 hown hK.1 hP 0 rfl rfl 0 (by decide) f9 (fun _ h9 => h9) rfl dX0_touching_36 ?_
              refine lv_iload hx hb dX0_touching_39 (lv_at hl 4 rfl) ?_
              obtain ⟨hi, h⟩ := gdi h
              refine va_lald (D := g.1) hx hb hK.1 hP 1 1 rfl rfl hi dX0_touching_41 ?_
              refine lv_land hx hb dX0_touching_42 ?_
              refine lv_lconst (v := 0) hx hb dX0_touching_43 (by decide) ?_
              refine W.lcmp hx hb dX0_touching_44 ?_
              refine lv_if_eq (tgt := 61) hx hb dX0_touching_45 (by decide) (fun c45 => ?_) (fun c45 => ?_)
              ·
                replace h := gdp h c45
                refine lv_iinc (v := (s26.2 + 1)) (lv' := [(6, .int (s26.2 + 1)), (0, .ref a0), (1, .long s26.1), (3, .int s4.2), (4, .long (fX3_around (gl (s4.2).toNatClampNeg)))]) hx hb dX0_touching_61 hl (k := 4) rfl rfl (by decide) rfl (fun ls hl => ?_)
                refine lv_goto (tgt := 26) hx hb dX0_touching_64 (by decide) ?_
                obtain rfl := Option.some.inj h
                exact ih26 (s26.1, (s26.2 + 1)) hr26 _ (lv_sub hl [1, 2, 3, 4, 0] rfl)
              ·
                replace h := gdn h c45
                refine lv_lload_n hx hb dX0_touching_48 rfl (lv_at hl 1 rfl) ?_
                refine lv_iload_n hx hb dX0_touching_49 rfl (lv_at hl 2 rfl) ?_
                refine lv_bipush (v := 8) hx hb dX0_touching_50 (by decide) ?_
                refine lv_imul hx hb dX0_touching_52 ?_
                refine lv_iload hx hb dX0_touching_53 (lv_at hl 4 rfl) ?_
                refine lv_iadd hx hb dX0_touching_55 ?_
                refine kPN (As := [.int ((s4.2 * (8 : Int32)) + s26.2)]) (rest := [.long s26.1]) S (ctX3_bit l g ((s4.2 * (8 : Int32)) + s26.2)  (fX3_bit ((s4.2 * (8 : Int32)) + s26.2)) rfl) ⟨va_cnB 1 hts gX0_touching_X3_bit_n22 rfl rfl rfl hK.2.2.2.2.1 n22_i (by decide +kernel) ⟨Nat.le_of_ble_eq_true rfl, Nat.le_of_ble_eq_true rfl⟩, n22_s, trivial⟩ hK rfl rfl hl.1 rfl (Nat.le_of_ble_eq_true rfl) dX0_touching_56 ⟨Nat.zero_le _, Nat.zero_le _⟩ ?_
                refine lv_lor hx hb dX0_touching_59 ?_
                obtain ⟨v60, ev60, h⟩ := gdl h
                refine topl ev60 ?_
                refine lv_lstore_n (lv' := [(1, .long v60), (0, .ref a0), (3, .int s4.2), (4, .long (fX3_around (gl (s4.2).toNatClampNeg))), (6, .int s26.2)]) hx hb dX0_touching_60 rfl hl (by decide) rfl (fun ls hl => ?_)
                refine lv_iinc (v := (s26.2 + 1)) (lv' := [(6, .int (s26.2 + 1)), (1, .long v60), (0, .ref a0), (3, .int s4.2), (4, .long (fX3_around (gl (s4.2).toNatClampNeg)))]) hx hb dX0_touching_61 hl (k := 4) rfl rfl (by decide) rfl (fun ls hl => ?_)
                refine lv_goto (tgt := 26) hx hb dX0_touching_64 (by decide) ?_
                obtain rfl := Option.some.inj h
                exact ih26 (v60, (s26.2 + 1)) hr26 _ (lv_sub hl [2, 1, 3, 4, 0] rfl)
        exact L26 _ (s4.1, (s4.2 + (1 : Int32))) hw26 _ (lv_sub hl [2, 3, 4, 1, 0] rfl)
  exact L4 _ ((0 : Int64), (0 : Int32)) hw4 _ (lv_sub hl [2, 1, 0] rfl)
-- LandBoard$Grid.peopled
set_option maxHeartbeats 4000000 in
set_option maxRecDepth 100000 in
theorem ctX0_peopled (l : Launch) (g : GG) (a0 a1 : Nat)  (gw : Int32) (gh : Int32) (gl : (Nat → Int64)) (res : Int32) (h : fX0_peopled gl = some res) : MP l yX0_peopled wsX0_peopled ({ frames := 0, cells := 0, slots := 0, locals := 0 }) g [.ref a0] (wG g a0 a1 gw gh gl) (.int res) := by
  refine MP.of (cc := cX0_peopled) (own := RX0) 3 (some .int) (by decide +kernel) rfl (Nat.le_of_ble_eq_true rfl) rfl ?_
  intro p e s m args below meth c hx hb hr hml hown hts hlocks hP hK ls hl
  have S : CallFix p m c cX0_peopled 3 s args wsX0_peopled RX0 := ⟨hx, hb, hml, hown, hts⟩
  have hl : lv_has ls 3 [(0, .ref a0)] := hl
  have f9 := hts (.fieldLink RX0 9 "LandBoard$Grid" "lands" "[J") (by decide +kernel)
  have iX0 := (by decide +kernel : ∀ w ∈ u_ws RX0 TX0 3, w ∈ wsX0_peopled)
  refine lv_iconst (v := 0) hx hb dX0_peopled_0 (by decide) ?_
  refine lv_istore_n (lv' := [(1, .int (0 : Int32)), (0, .ref a0)]) hx hb dX0_peopled_1 rfl hl (by decide) rfl (fun ls hl => ?_)
  refine lv_iconst (v := 0) hx hb dX0_peopled_2 (by decide) ?_
  refine lv_istore_n (lv' := [(2, .int (0 : Int32)), (1, .int (0 : Int32)), (0, .ref a0)]) hx hb dX0_peopled_3 rfl hl (by decide) rfl (fun ls hl => ?_)
  obtain ⟨t4, hw4, h⟩ := gdb h
  have X4 : ∀ ls : Array Slot, lv_has ls 3 [(1, .int t4)] → W p l e ({ frames := 0, cells := 0, slots := 0, locals := 0 }) s m args below meth c s.heap [] 0 0 (MQ below (k2_QcV (.int res)) args s 0 0 (fun _ => False)) (F0 m 35 ls []) := by
    intro ls hl
    refine lv_iload_n hx hb dX0_peopled_35 rfl (lv_at hl 0 rfl) ?_
    obtain rfl := Option.some.inj h
    exact retPi hx hb hr hlocks dX0_peopled_36
  clear h
  have L4 : ∀ (n : Nat) (s4 : Int32 × Int32), wh (fX0_peopled_4 gl) n s4 = some t4 → ∀ ls : Array Slot, lv_has ls 3 [(0, .ref a0), (1, .int s4.1), (2, .int s4.2)] → W p l e ({ frames := 0, cells := 0, slots := 0, locals := 0 }) s m args below meth c s.heap [] 0 0 (MQ below (k2_QcV (.int res)) args s 0 0 (fun _ => False)) (F0 m 4 ls []) := by
    intro n
    induction n with
    | zero => intro s4 hw; exact (wh_0 hw).elim
    | succ n ih4 =>
      intro s4 hw ls hl
      obtain ⟨r0, h, hr4⟩ := wh_s hw
      refine lv_iload_n hx hb dX0_peopled_4 rfl (lv_at hl 2 rfl) ?_
      refine lv_bipush (v := 6) hx hb dX0_peopled_5 (by decide) ?_
      refine lv_icmp_ge (tgt := 35) hx hb dX0_peopled_7 (by decide) (fun c7 => ?_) (fun c7 => ?_)
      ·
        replace h := gdp h c7
        obtain rfl := Option.some.inj h
        have e0 : s4.1 = t4 := hr4
        subst e0
        exact X4 _ (lv_sub hl [1] rfl)
      ·
        replace h := gdn h c7
        refine lv_iload_n hx hb dX0_peopled_10 rfl (lv_at hl 1 rfl) ?_
        refine lv_aload_n hx hb dX0_peopled_11 rfl (lv_at hl 0 rfl) ?_
        refine va_get (D := g.1) (ci := 0) (v := .ref a1) (C := RX0) (T := TX0) (N := 3) hx hb hts iX0 hown hK.1 hP 0 rfl rfl 0 (by decide) f9 (fun _ h9 => h9) rfl dX0_peopled_12 ?_
        refine lv_iload_n hx hb dX0_peopled_15 rfl (lv_at hl 2 rfl) ?_
        obtain ⟨hi, h⟩ := gdi h
        refine va_lald (D := g.1) hx hb hK.1 hP 1 1 rfl rfl hi dX0_peopled_16 ?_
        refine lv_lconst (v := 0) hx hb dX0_peopled_17 (by decide) ?_
        refine W.lcmp hx hb dX0_peopled_18 ?_
        refine lv_if_eq (tgt := 26) hx hb dX0_peopled_19 (by decide) (fun c19 => ?_) (fun c19 => ?_)
        ·
          replace h := gdp h c19
          refine lv_iconst (v := 0) hx hb dX0_peopled_26 (by decide) ?_
          refine lv_iadd hx hb dX0_peopled_27 ?_
          refine lv_istore_n (lv' := [(1, .int (s4.1 + (0 : Int32))), (0, .ref a0), (2, .int s4.2)]) hx hb dX0_peopled_28 rfl hl (by decide) rfl (fun ls hl => ?_)
          refine lv_iinc (v := (s4.2 + 1)) (lv' := [(2, .int (s4.2 + 1)), (1, .int (s4.1 + (0 : Int32))), (0, .ref a0)]) hx hb dX0_peopled_29 hl (k := 2) rfl rfl (by decide) rfl (fun ls hl => ?_)
          refine lv_goto (tgt := 4) hx hb dX0_peopled_32 (by decide) ?_
          obtain rfl := Option.some.inj h
          exact ih4 ((s4.1 + (0 : Int32)), (s4.2 + 1)) hr4 _ (lv_sub hl [2, 1, 0] rfl)
        ·
          replace h := gdn h c19
          refine lv_iconst (v := 1) hx hb dX0_peopled_22 (by decide) ?_
          refine lv_goto (tgt := 27) hx hb dX0_peopled_23 (by decide) ?_
          refine lv_iadd hx hb dX0_peopled_27 ?_
          refine lv_istore_n (lv' := [(1, .int (s4.1 + (1 : Int32))), (0, .ref a0), (2, .int s4.2)]) hx hb dX0_peopled_28 rfl hl (by decide) rfl (fun ls hl => ?_)
          refine lv_iinc (v := (s4.2 + 1)) (lv' := [(2, .int (s4.2 + 1)), (1, .int (s4.1 + (1 : Int32))), (0, .ref a0)]) hx hb dX0_peopled_29 hl (k := 2) rfl rfl (by decide) rfl (fun ls hl => ?_)
          refine lv_goto (tgt := 4) hx hb dX0_peopled_32 (by decide) ?_
          obtain rfl := Option.some.inj h
          exact ih4 ((s4.1 + (1 : Int32)), (s4.2 + 1)) hr4 _ (lv_sub hl [2, 1, 0] rfl)
  exact L4 _ ((0 : Int32), (0 : Int32)) hw4 _ (lv_sub hl [2, 1, 0] rfl)
-- LandBoard$Grid.copy
set_option maxHeartbeats 4000000 in
set_option maxRecDepth 100000 in
theorem ctX0_copy (l : Launch) (g : GG) (a0 a1 b0 b1 : Nat)  (gw : Int32) (gh : Int32) (gl : (Nat → Int64)) (gw2 : Int32) (gh2 : Int32) (gl2 : (Nat → Int64)) (res : Int32 × Int32 × (Nat → Int64)) (h : fX0_copy gw gh gl gw2 gh2 gl2 = some res) : MM l yX0_copy wsX0_copy ({ frames := 0, cells := 0, slots := 0, locals := 0 }) g [.ref a0, .ref b0] (wGG g a0 a1 b0 b1 gw gh gl gw2 gh2 gl2) (wGG g a0 a1 b0 b1 res.1 res.2.1 res.2.2 gw2 gh2 gl2) none := by
  refine MM.of (cc := cX0_copy) (own := RX0) 3 none (by decide +kernel) rfl (Nat.le_of_ble_eq_true rfl) rfl ?_
  intro p e s m args below meth c hx hb hr hml hown hts hlocks hK A hA ls hl hP hD hS
  have S : CallFix p m c cX0_copy 3 s args wsX0_copy RX0 := ⟨hx, hb, hml, hown, hts⟩
  have hl : lv_has ls 3 [(0, .ref a0), (1, .ref b0)] := hl
  have f15 := hts (.fieldLink RX0 15 "LandBoard$Grid" "width" "I") (by decide +kernel)
  have iX0 := (by decide +kernel : ∀ w ∈ u_ws RX0 TX0 3, w ∈ wsX0_copy)
  have f19 := hts (.fieldLink RX0 19 "LandBoard$Grid" "height" "I") (by decide +kernel)
  have f9 := hts (.fieldLink RX0 9 "LandBoard$Grid" "lands" "[J") (by decide +kernel)
  refine lv_aload_n hx hb dX0_copy_0 rfl (lv_at hl 0 rfl) ?_
  refine lv_aload_n hx hb dX0_copy_1 rfl (lv_at hl 1 rfl) ?_
  refine va_get (D := g.1) (ci := 0) (v := .int gw2) (C := RX0) (T := TX0) (N := 3) hx hb hts iX0 hown hK.1 hP 2 rfl rfl 1 (by decide) f15 (fun _ h9 => h9) rfl dX0_copy_2 ?_
  refine va_put (D := g.1) (ci := 0) (v := .int gw2) (ty := .int) (C := RX0) (T := TX0) (N := 3) hx hb hts iX0 tyX0 tyX0_ok nmX0 hown hK.1 hP hD hS 0 rfl rfl 1 (by decide) f15 (fun _ h9 => h9) rfl (by decide +kernel) rfl rfl (Nat.le_of_ble_eq_true rfl) dX0_copy_5 (fun H locs hP hD hS => ?_)
  have hP : va_P g.1 vwCl (wGG g a0 a1 b0 b1 gw2 gh gl gw2 gh2 gl2) H := hP
  have hD : va_D A (wGG g a0 a1 b0 b1 gw2 gh gl gw2 gh2 gl2) := hD
  refine lv_aload_n hx hb dX0_copy_8 rfl (lv_at hl 0 rfl) ?_
  refine lv_aload_n hx hb dX0_copy_9 rfl (lv_at hl 1 rfl) ?_
  refine va_get (D := g.1) (ci := 0) (v := .int gh2) (C := RX0) (T := TX0) (N := 3) hx hb hts iX0 hown hK.1 hP 2 rfl rfl 2 (by decide) f19 (fun _ h9 => h9) rfl dX0_copy_10 ?_
  refine va_put (D := g.1) (ci := 0) (v := .int gh2) (ty := .int) (C := RX0) (T := TX0) (N := 3) hx hb hts iX0 tyX0 tyX0_ok nmX0 hown hK.1 hP hD hS 0 rfl rfl 2 (by decide) f19 (fun _ h9 => h9) rfl (by decide +kernel) rfl rfl (Nat.le_of_ble_eq_true rfl) dX0_copy_13 (fun H locs hP hD hS => ?_)
  have hP : va_P g.1 vwCl (wGG g a0 a1 b0 b1 gw2 gh2 gl gw2 gh2 gl2) H := hP
  have hD : va_D A (wGG g a0 a1 b0 b1 gw2 gh2 gl gw2 gh2 gl2) := hD
  refine lv_iconst (v := 0) hx hb dX0_copy_16 (by decide) ?_
  refine lv_istore_n (lv' := [(2, .int (0 : Int32)), (0, .ref a0), (1, .ref b0)]) hx hb dX0_copy_17 rfl hl (by decide) rfl (fun ls hl => ?_)
  obtain ⟨t18, hw18, h⟩ := gdb h
  have X18 : ∀ (H : Heap) (locs : List Loc) (ls : Array Slot), va_P g.1 vwCl (wGG g a0 a1 b0 b1 gw2 gh2 t18 gw2 gh2 gl2) H → va_D A (wGG g a0 a1 b0 b1 gw2 gh2 t18 gw2 gh2 gl2) → va_S A s.heap H locs → lv_has ls 3 [] → W p l e ({ frames := 0, cells := 0, slots := 0, locals := 0 }) s m args below meth c H locs 0 0 (MQ below (QM g none (wGG g a0 a1 b0 b1 res.1 res.2.1 res.2.2 gw2 gh2 gl2) A) args s 0 0 A) (F0 m 42 ls []) := by
    intro H locs ls hP hD hS hl
    obtain rfl := Option.some.inj h
    exact retMv hx hb hr hlocks hP hD hS dX0_copy_42
  clear h
  have L18 : ∀ (n : Nat) (s18 : Int32 × (Nat → Int64)), wh (fX0_copy_18 gl2) n s18 = some t18 → ∀ (H : Heap) (locs : List Loc) (ls : Array Slot), va_P g.1 vwCl (wGG g a0 a1 b0 b1 gw2 gh2 s18.2 gw2 gh2 gl2) H → va_D A (wGG g a0 a1 b0 b1 gw2 gh2 s18.2 gw2 gh2 gl2) → va_S A s.heap H locs → lv_has ls 3 [(0, .ref a0), (1, .ref b0), (2, .int s18.1)] → W p l e ({ frames := 0, cells := 0, slots := 0, locals := 0 }) s m args below meth c H locs 0 0 (MQ below (QM g none (wGG g a0 a1 b0 b1 res.1 res.2.1 res.2.2 gw2 gh2 gl2) A) args s 0 0 A) (F0 m 18 ls []) := by
    intro n
    induction n with
    | zero => intro s18 hw; exact (wh_0 hw).elim
    | succ n ih18 =>
      intro s18 hw H locs ls hP hD hS hl
      obtain ⟨r0, h, hr18⟩ := wh_s hw
      refine lv_iload_n hx hb dX0_copy_18 rfl (lv_at hl 2 rfl) ?_
      refine lv_bipush (v := 6) hx hb dX0_copy_19 (by decide) ?_
      refine lv_icmp_ge (tgt := 42) hx hb dX0_copy_21 (by decide) (fun c21 => ?_) (fun c21 => ?_)
      ·
        replace h := gdp h c21
        obtain rfl := Option.some.inj h
        have e0 : s18.2 = t18 := hr18
        subst e0
        exact X18 _ _ _ hP hD hS (lv_sub hl [] rfl)
      ·
        replace h := gdn h c21
        refine lv_aload_n hx hb dX0_copy_24 rfl (lv_at hl 0 rfl) ?_
        refine va_get (D := g.1) (ci := 0) (v := .ref a1) (C := RX0) (T := TX0) (N := 3) hx hb hts iX0 hown hK.1 hP 0 rfl rfl 0 (by decide) f9 (fun _ h9 => h9) rfl dX0_copy_25 ?_
        refine lv_iload_n hx hb dX0_copy_28 rfl (lv_at hl 2 rfl) ?_
        refine lv_aload_n hx hb dX0_copy_29 rfl (lv_at hl 1 rfl) ?_
        refine va_get (D := g.1) (ci := 0) (v := .ref b1) (C := RX0) (T := TX0) (N := 3) hx hb hts iX0 hown hK.1 hP 2 rfl rfl 0 (by decide) f9 (fun _ h9 => h9) rfl dX0_copy_30 ?_
        refine lv_iload_n hx hb dX0_copy_33 rfl (lv_at hl 2 rfl) ?_
        obtain ⟨hi, h⟩ := gdi h
        refine va_lald (D := g.1) hx hb hK.1 hP 3 1 rfl rfl hi dX0_copy_34 ?_
        obtain ⟨hi, h⟩ := gdi h
        refine va_last (D := g.1) hx hb hK.1 hP hD hS 1 1 rfl rfl hi dX0_copy_35 (fun H locs hP hD hS => ?_)
        have hP : va_P g.1 vwCl (wGG g a0 a1 b0 b1 gw2 gh2 (vp_updL s18.2 (s18.1).toNatClampNeg (gl2 (s18.1).toNatClampNeg)) gw2 gh2 gl2) H := hP
        have hD : va_D A (wGG g a0 a1 b0 b1 gw2 gh2 (vp_updL s18.2 (s18.1).toNatClampNeg (gl2 (s18.1).toNatClampNeg)) gw2 gh2 gl2) := hD
        refine lv_iinc (v := (s18.1 + 1)) (lv' := [(2, .int (s18.1 + 1)), (0, .ref a0), (1, .ref b0)]) hx hb dX0_copy_36 hl (k := 2) rfl rfl (by decide) rfl (fun ls hl => ?_)
        refine lv_goto (tgt := 18) hx hb dX0_copy_39 (by decide) ?_
        obtain rfl := Option.some.inj h
        exact ih18 ((s18.1 + 1), (vp_updL s18.2 (s18.1).toNatClampNeg (gl2 (s18.1).toNatClampNeg))) hr18 _ _ _ hP hD hS (lv_sub hl [1, 2, 0] rfl)
  exact L18 _ ((0 : Int32), gl) hw18 _ _ _ hP hD hS (lv_sub hl [1, 2, 0] rfl)
-- LandBoard$Grid.landCells
set_option maxHeartbeats 4000000 in
set_option maxRecDepth 100000 in
theorem ctX0_landCells (l : Launch) (g : GG) (a0 a1 : Nat)  (gw : Int32) (gh : Int32) (gl : (Nat → Int64)) (res : Int32) (h : fX0_landCells gl = some res) : MP l yX0_landCells wsX0_landCells ({ frames := 1, cells := 0, slots := 0, locals := 23 }) g [.ref a0] (wG g a0 a1 gw gh gl) (.int res) := by
  refine MP.of (cc := cX0_landCells) (own := RX0) 1 (some .int) (by decide +kernel) rfl (Nat.le_of_ble_eq_true rfl) rfl ?_
  intro p e s m args below meth c hx hb hr hml hown hts hlocks hP hK ls hl
  have S : CallFix p m c cX0_landCells 1 s args wsX0_landCells RX0 := ⟨hx, hb, hml, hown, hts⟩
  have hl : lv_has ls 1 [(0, .ref a0)] := hl
  refine lv_aload_n hx hb dX0_landCells_0 rfl (lv_at hl 0 rfl) ?_
  obtain ⟨r1, hr1, h⟩ := gdb h
  refine kPV (As := []) (rest := []) (ci := 0) S (ctX0_peopledCells l g a0 a1  gw gh gl r1 hr1) (cwV 0 hts gX0_landCells_X0_peopledCells rfl rfl rfl (by decide +kernel) ⟨Nat.le_of_ble_eq_true rfl, Nat.le_of_ble_eq_true rfl⟩) hK hP [0, 1] rfl rfl rfl rfl rfl hl.1 rfl (Nat.le_of_ble_eq_true rfl) dX0_landCells_1 ⟨Nat.zero_le _, Nat.zero_le _⟩ ?_
  refine kPS (As := [.long r1]) (rest := []) S (ctJ13_bitCount_95d88 l g r1  (fJ13_bitCount_95d88 r1) rfl) (va_cwS 1 hts gX0_landCells_J13_bitCount_95d88 rfl rfl rfl (by decide +kernel) ⟨Nat.le_of_ble_eq_true rfl, Nat.le_of_ble_eq_true rfl⟩) hK rfl rfl hl.1 rfl (Nat.le_of_ble_eq_true rfl) dX0_landCells_4 ⟨Nat.zero_le _, Nat.zero_le _⟩ ?_
  obtain rfl := Option.some.inj h
  exact retPi hx hb hr hlocks dX0_landCells_7
-- LandBoard$Grid.isAsLargeAs
set_option maxHeartbeats 4000000 in
set_option maxRecDepth 100000 in
theorem ctX0_isAsLargeAs (l : Launch) (g : GG) (a0 a1 b0 b1 : Nat)  (gw : Int32) (gh : Int32) (gl : (Nat → Int64)) (gw2 : Int32) (gh2 : Int32) (gl2 : (Nat → Int64)) (res : Int32) (h : fX0_isAsLargeAs gw gh gw2 gh2 = res) : MP l yX0_isAsLargeAs wsX0_isAsLargeAs ({ frames := 0, cells := 0, slots := 0, locals := 0 }) g [.ref a0, .ref b0] (wGG g a0 a1 b0 b1 gw gh gl gw2 gh2 gl2) (.int res) := by
  refine MP.of (cc := cX0_isAsLargeAs) (own := RX0) 2 (some .boolean) (by decide +kernel) rfl (Nat.le_of_ble_eq_true rfl) rfl ?_
  intro p e s m args below meth c hx hb hr hml hown hts hlocks hP hK ls hl
  have S : CallFix p m c cX0_isAsLargeAs 2 s args wsX0_isAsLargeAs RX0 := ⟨hx, hb, hml, hown, hts⟩
  have hl : lv_has ls 2 [(0, .ref a0), (1, .ref b0)] := hl
  have f15 := hts (.fieldLink RX0 15 "LandBoard$Grid" "width" "I") (by decide +kernel)
  have iX0 := (by decide +kernel : ∀ w ∈ u_ws RX0 TX0 3, w ∈ wsX0_isAsLargeAs)
  have f19 := hts (.fieldLink RX0 19 "LandBoard$Grid" "height" "I") (by decide +kernel)
  refine lv_aload_n hx hb dX0_isAsLargeAs_0 rfl (lv_at hl 0 rfl) ?_
  refine va_get (D := g.1) (ci := 0) (v := .int gw) (C := RX0) (T := TX0) (N := 3) hx hb hts iX0 hown hK.1 hP 0 rfl rfl 1 (by decide) f15 (fun _ h9 => h9) rfl dX0_isAsLargeAs_1 ?_
  refine lv_aload_n hx hb dX0_isAsLargeAs_4 rfl (lv_at hl 1 rfl) ?_
  refine va_get (D := g.1) (ci := 0) (v := .int gw2) (C := RX0) (T := TX0) (N := 3) hx hb hts iX0 hown hK.1 hP 2 rfl rfl 1 (by decide) f15 (fun _ h9 => h9) rfl dX0_isAsLargeAs_5 ?_
  refine lv_icmp_ne (tgt := 26) hx hb dX0_isAsLargeAs_8 (by decide) (fun c8 => ?_) (fun c8 => ?_)
  ·
    replace h := gdn h c8
    refine lv_iconst (v := 0) hx hb dX0_isAsLargeAs_26 (by decide) ?_
    subst h
    exact retPz (v := (0 : Int32)) hx hb hr hlocks rfl dX0_isAsLargeAs_27
  ·
    replace h := gdp h c8
    refine lv_aload_n hx hb dX0_isAsLargeAs_11 rfl (lv_at hl 0 rfl) ?_
    refine va_get (D := g.1) (ci := 0) (v := .int gh) (C := RX0) (T := TX0) (N := 3) hx hb hts iX0 hown hK.1 hP 0 rfl rfl 2 (by decide) f19 (fun _ h9 => h9) rfl dX0_isAsLargeAs_12 ?_
    refine lv_aload_n hx hb dX0_isAsLargeAs_15 rfl (lv_at hl 1 rfl) ?_
    refine va_get (D := g.1) (ci := 0) (v := .int gh2) (C := RX0) (T := TX0) (N := 3) hx hb hts iX0 hown hK.1 hP 2 rfl rfl 2 (by decide) f19 (fun _ h9 => h9) rfl dX0_isAsLargeAs_16 ?_
    refine lv_icmp_ne (tgt := 26) hx hb dX0_isAsLargeAs_19 (by decide) (fun c19 => ?_) (fun c19 => ?_)
    ·
      replace h := gdn h c19
      refine lv_iconst (v := 0) hx hb dX0_isAsLargeAs_26 (by decide) ?_
      subst h
      exact retPz (v := (0 : Int32)) hx hb hr hlocks rfl dX0_isAsLargeAs_27
    ·
      replace h := gdp h c19
      refine lv_iconst (v := 1) hx hb dX0_isAsLargeAs_22 (by decide) ?_
      refine lv_goto (tgt := 27) hx hb dX0_isAsLargeAs_23 (by decide) ?_
      subst h
      exact retPz (v := (1 : Int32)) hx hb hr hlocks rfl dX0_isAsLargeAs_27
-- LandBoard$Grid.unlike
set_option maxHeartbeats 4000000 in
set_option maxRecDepth 100000 in
theorem ctX0_unlike (l : Launch) (g : GG) (a0 a1 b0 b1 : Nat)  (gw : Int32) (gh : Int32) (gl : (Nat → Int64)) (gw2 : Int32) (gh2 : Int32) (gl2 : (Nat → Int64)) (res : Int32) (h : fX0_unlike gl gl2 = some res) : MP l yX0_unlike wsX0_unlike ({ frames := 1, cells := 0, slots := 0, locals := 21 }) g [.ref a0, .ref b0] (wGG g a0 a1 b0 b1 gw gh gl gw2 gh2 gl2) (.int res) := by
  refine MP.of (cc := cX0_unlike) (own := RX0) 5 (some .int) (by decide +kernel) rfl (Nat.le_of_ble_eq_true rfl) rfl ?_
  intro p e s m args below meth c hx hb hr hml hown hts hlocks hP hK ls hl
  have S : CallFix p m c cX0_unlike 5 s args wsX0_unlike RX0 := ⟨hx, hb, hml, hown, hts⟩
  have hl : lv_has ls 5 [(0, .ref a0), (1, .ref b0)] := hl
  have f9 := hts (.fieldLink RX0 9 "LandBoard$Grid" "lands" "[J") (by decide +kernel)
  have iX0 := (by decide +kernel : ∀ w ∈ u_ws RX0 TX0 3, w ∈ wsX0_unlike)
  refine lv_lconst (v := 0) hx hb dX0_unlike_0 (by decide) ?_
  refine lv_lstore_n (lv' := [(2, .long (0 : Int64)), (0, .ref a0), (1, .ref b0)]) hx hb dX0_unlike_1 rfl hl (by decide) rfl (fun ls hl => ?_)
  refine lv_iconst (v := 0) hx hb dX0_unlike_2 (by decide) ?_
  refine lv_istore (lv' := [(4, .int (0 : Int32)), (2, .long (0 : Int64)), (0, .ref a0), (1, .ref b0)]) hx hb dX0_unlike_3 hl (by decide) rfl (fun ls hl => ?_)
  obtain ⟨t5, hw5, h⟩ := gdb h
  have X5 : ∀ ls : Array Slot, lv_has ls 5 [(2, .long t5)] → W p l e ({ frames := 1, cells := 0, slots := 0, locals := 21 }) s m args below meth c s.heap [] 0 0 (MQ below (k2_QcV (.int res)) args s 0 0 (fun _ => False)) (F0 m 36 ls []) := by
    intro ls hl
    refine lv_lload_n hx hb dX0_unlike_36 rfl (lv_at hl 0 rfl) ?_
    refine kPS (As := [.long t5]) (rest := []) S (ctJ13_bitCount_95d88 l g t5  (fJ13_bitCount_95d88 t5) rfl) (va_cwS 1 hts gX0_unlike_J13_bitCount_95d88 rfl rfl rfl (by decide +kernel) ⟨Nat.le_of_ble_eq_true rfl, Nat.le_of_ble_eq_true rfl⟩) hK rfl rfl hl.1 rfl (Nat.le_of_ble_eq_true rfl) dX0_unlike_37 ⟨Nat.zero_le _, Nat.zero_le _⟩ ?_
    obtain rfl := Option.some.inj h
    exact retPi hx hb hr hlocks dX0_unlike_40
  clear h
  have L5 : ∀ (n : Nat) (s5 : Int64 × Int32), wh (fX0_unlike_5 gl gl2) n s5 = some t5 → ∀ ls : Array Slot, lv_has ls 5 [(0, .ref a0), (1, .ref b0), (2, .long s5.1), (4, .int s5.2)] → W p l e ({ frames := 1, cells := 0, slots := 0, locals := 21 }) s m args below meth c s.heap [] 0 0 (MQ below (k2_QcV (.int res)) args s 0 0 (fun _ => False)) (F0 m 5 ls []) := by
    intro n
    induction n with
    | zero => intro s5 hw; exact (wh_0 hw).elim
    | succ n ih5 =>
      intro s5 hw ls hl
      obtain ⟨r0, h, hr5⟩ := wh_s hw
      refine lv_iload hx hb dX0_unlike_5 (lv_at hl 3 rfl) ?_
      refine lv_bipush (v := 6) hx hb dX0_unlike_7 (by decide) ?_
      refine lv_icmp_ge (tgt := 36) hx hb dX0_unlike_9 (by decide) (fun c9 => ?_) (fun c9 => ?_)
      ·
        replace h := gdp h c9
        obtain rfl := Option.some.inj h
        have e0 : s5.1 = t5 := hr5
        subst e0
        exact X5 _ (lv_sub hl [2] rfl)
      ·
        replace h := gdn h c9
        refine lv_lload_n hx hb dX0_unlike_12 rfl (lv_at hl 2 rfl) ?_
        refine lv_aload_n hx hb dX0_unlike_13 rfl (lv_at hl 0 rfl) ?_
        refine va_get (D := g.1) (ci := 0) (v := .ref a1) (C := RX0) (T := TX0) (N := 3) hx hb hts iX0 hown hK.1 hP 0 rfl rfl 0 (by decide) f9 (fun _ h9 => h9) rfl dX0_unlike_14 ?_
        refine lv_iload hx hb dX0_unlike_17 (lv_at hl 3 rfl) ?_
        obtain ⟨hi, h⟩ := gdi h
        refine va_lald (D := g.1) hx hb hK.1 hP 1 1 rfl rfl hi dX0_unlike_19 ?_
        refine lv_aload_n hx hb dX0_unlike_20 rfl (lv_at hl 1 rfl) ?_
        refine va_get (D := g.1) (ci := 0) (v := .ref b1) (C := RX0) (T := TX0) (N := 3) hx hb hts iX0 hown hK.1 hP 2 rfl rfl 0 (by decide) f9 (fun _ h9 => h9) rfl dX0_unlike_21 ?_
        refine lv_iload hx hb dX0_unlike_24 (lv_at hl 3 rfl) ?_
        obtain ⟨hi, h⟩ := gdi h
        refine va_lald (D := g.1) hx hb hK.1 hP 3 1 rfl rfl hi dX0_unlike_26 ?_
        refine lv_lxor hx hb dX0_unlike_27 ?_
        refine lv_lor hx hb dX0_unlike_28 ?_
        obtain ⟨v29, ev29, h⟩ := gdl h
        refine topl ev29 ?_
        refine lv_lstore_n (lv' := [(2, .long v29), (0, .ref a0), (1, .ref b0), (4, .int s5.2)]) hx hb dX0_unlike_29 rfl hl (by decide) rfl (fun ls hl => ?_)
        refine lv_iinc (v := (s5.2 + 1)) (lv' := [(4, .int (s5.2 + 1)), (2, .long v29), (0, .ref a0), (1, .ref b0)]) hx hb dX0_unlike_30 hl (k := 3) rfl rfl (by decide) rfl (fun ls hl => ?_)
        refine lv_goto (tgt := 5) hx hb dX0_unlike_33 (by decide) ?_
        obtain rfl := Option.some.inj h
        exact ih5 (v29, (s5.2 + 1)) hr5 _ (lv_sub hl [2, 3, 1, 0] rfl)
  exact L5 _ ((0 : Int64), (0 : Int32)) hw5 _ (lv_sub hl [2, 3, 1, 0] rfl)
