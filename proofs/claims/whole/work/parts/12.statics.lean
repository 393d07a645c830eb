-- LandBoard.toRight
set_option maxHeartbeats 4000000 in
set_option maxRecDepth 100000 in
theorem ctX3_toRight (l : Launch) (g : GG) (x0 : Int64)  (res : Int64) (h : fX3_toRight x0 = res) : MP l yX3_toRight wsX3_toRight ({ frames := 0, cells := 0, slots := 0, locals := 0 }) g [.long x0] (wN g) (.long res) := by
  refine MP.of (cc := cX3_toRight) (own := RX3) 2 (some .long) (by decide +kernel) rfl (Nat.le_of_ble_eq_true rfl) rfl ?_
  intro p e s m args below meth c hx hb hr hml hown hts hlocks hP hK ls hl
  have S : CallFix p m c cX3_toRight 2 s args wsX3_toRight RX3 := ⟨hx, hb, hml, hown, hts⟩
  have hl : lv_has ls 2 [(0, .long x0)] := hl
  have k236 := hts (.constantLong RX3 236 (9187201950435737471)) (by decide +kernel)
  refine lv_lload_n hx hb dX3_toRight_0 rfl (lv_at hl 0 rfl) ?_
  refine lv_ldc2 hx hb hown k236 dX3_toRight_1 ?_
  refine lv_land hx hb dX3_toRight_4 ?_
  refine lv_iconst (v := 1) hx hb dX3_toRight_5 (by decide) ?_
  refine lv_lshl (v := ((x0 &&& (9187201950435737471 : Int64)) <<< ((1 : Int32).toInt64 &&& 63))) hx hb dX3_toRight_6 rfl ?_
  subst h
  exact retPl hx hb hr hlocks dX3_toRight_7
-- LandBoard.toLeft
set_option maxHeartbeats 4000000 in
set_option maxRecDepth 100000 in
theorem ctX3_toLeft (l : Launch) (g : GG) (x0 : Int64)  (res : Int64) (h : fX3_toLeft x0 = res) : MP l yX3_toLeft wsX3_toLeft ({ frames := 0, cells := 0, slots := 0, locals := 0 }) g [.long x0] (wN g) (.long res) := by
  refine MP.of (cc := cX3_toLeft) (own := RX3) 2 (some .long) (by decide +kernel) rfl (Nat.le_of_ble_eq_true rfl) rfl ?_
  intro p e s m args below meth c hx hb hr hml hown hts hlocks hP hK ls hl
  have S : CallFix p m c cX3_toLeft 2 s args wsX3_toLeft RX3 := ⟨hx, hb, hml, hown, hts⟩
  have hl : lv_has ls 2 [(0, .long x0)] := hl
  have k238 := hts (.constantLong RX3 238 (-72340172838076674)) (by decide +kernel)
  refine lv_lload_n hx hb dX3_toLeft_0 rfl (lv_at hl 0 rfl) ?_
  refine lv_ldc2 hx hb hown k238 dX3_toLeft_1 ?_
  refine lv_land hx hb dX3_toLeft_4 ?_
  refine lv_iconst (v := 1) hx hb dX3_toLeft_5 (by decide) ?_
  refine lv_lushr (v := (((x0 &&& (-72340172838076674 : Int64))).toUInt64 >>> ((1 : Int32).toInt64.toUInt64 &&& Int64.toUInt64 63)).toInt64) hx hb dX3_toLeft_6 rfl ?_
  subst h
  exact retPl hx hb hr hlocks dX3_toLeft_7
-- LandBoard.inside
set_option maxHeartbeats 4000000 in
set_option maxRecDepth 100000 in
theorem ctX3_inside (l : Launch) (g : GG) (x0 : Int64)  (res : Int64) (h : fX3_inside x0 = res) : MP l yX3_inside wsX3_inside ({ frames := 1, cells := 0, slots := 0, locals := 21 }) g [.long x0] (wN g) (.long res) := by
  refine MP.of (cc := cX3_inside) (own := RX3) 2 (some .long) (by decide +kernel) rfl (Nat.le_of_ble_eq_true rfl) rfl ?_
  intro p e s m args below meth c hx hb hr hml hown hts hlocks hP hK ls hl
  have S : CallFix p m c cX3_inside 2 s args wsX3_inside RX3 := ⟨hx, hb, hml, hown, hts⟩
  have hl : lv_has ls 2 [(0, .long x0)] := hl
  refine lv_lload_n hx hb dX3_inside_0 rfl (lv_at hl 0 rfl) ?_
  refine lv_lload_n hx hb dX3_inside_1 rfl (lv_at hl 0 rfl) ?_
  refine kPS (As := [.long x0]) (rest := [.long x0]) S (ctX3_toRight l g x0  (fX3_toRight x0) rfl) (va_cwS 1 hts gX3_inside_X3_toRight rfl rfl rfl (by decide +kernel) ⟨Nat.le_of_ble_eq_true rfl, Nat.le_of_ble_eq_true rfl⟩) hK rfl rfl hl.1 rfl (Nat.le_of_ble_eq_true rfl) dX3_inside_2 ⟨Nat.zero_le _, Nat.zero_le _⟩ ?_
  refine lv_land hx hb dX3_inside_5 ?_
  refine lv_lload_n hx hb dX3_inside_6 rfl (lv_at hl 0 rfl) ?_
  refine kPS (As := [.long x0]) (rest := [.long (x0 &&& (fX3_toRight x0))]) S (ctX3_toLeft l g x0  (fX3_toLeft x0) rfl) (va_cwS 1 hts gX3_inside_X3_toLeft rfl rfl rfl (by decide +kernel) ⟨Nat.le_of_ble_eq_true rfl, Nat.le_of_ble_eq_true rfl⟩) hK rfl rfl hl.1 rfl (Nat.le_of_ble_eq_true rfl) dX3_inside_7 ⟨Nat.zero_le _, Nat.zero_le _⟩ ?_
  refine lv_land hx hb dX3_inside_10 ?_
  refine lv_lload_n hx hb dX3_inside_11 rfl (lv_at hl 0 rfl) ?_
  refine lv_bipush (v := 8) hx hb dX3_inside_12 (by decide) ?_
  refine lv_lshl (v := (x0 <<< ((8 : Int32).toInt64 &&& 63))) hx hb dX3_inside_14 rfl ?_
  refine lv_land hx hb dX3_inside_15 ?_
  refine lv_lload_n hx hb dX3_inside_16 rfl (lv_at hl 0 rfl) ?_
  refine lv_bipush (v := 8) hx hb dX3_inside_17 (by decide) ?_
  refine lv_lushr (v := ((x0).toUInt64 >>> ((8 : Int32).toInt64.toUInt64 &&& Int64.toUInt64 63)).toInt64) hx hb dX3_inside_19 rfl ?_
  refine lv_land hx hb dX3_inside_20 ?_
  subst h
  exact retPl hx hb hr hlocks dX3_inside_21
-- LandBoard.isLand
set_option maxHeartbeats 4000000 in
set_option maxRecDepth 100000 in
theorem ctX3_isLand (l : Launch) (g : GG) (x0 : Int32)  (res : Int32) (h : fX3_isLand x0 = res) : MP l yX3_isLand wsX3_isLand ({ frames := 0, cells := 0, slots := 0, locals := 0 }) g [.int x0] (wN g) (.int res) := by
  refine MP.of (cc := cX3_isLand) (own := RX3) 1 (some .boolean) (by decide +kernel) rfl (Nat.le_of_ble_eq_true rfl) rfl ?_
  intro p e s m args below meth c hx hb hr hml hown hts hlocks hP hK ls hl
  have S : CallFix p m c cX3_isLand 1 s args wsX3_isLand RX3 := ⟨hx, hb, hml, hown, hts⟩
  have hl : lv_has ls 1 [(0, .int x0)] := hl
  refine lv_iload_n hx hb dX3_isLand_0 rfl (lv_at hl 0 rfl) ?_
  refine lv_if_lt (tgt := 14) hx hb dX3_isLand_1 (by decide) (fun c1 => ?_) (fun c1 => ?_)
  ·
    replace h := gdp h c1
    refine lv_iconst (v := 0) hx hb dX3_isLand_14 (by decide) ?_
    subst h
    exact retPz (v := (0 : Int32)) hx hb hr hlocks rfl dX3_isLand_15
  ·
    replace h := gdn h c1
    refine lv_iload_n hx hb dX3_isLand_4 rfl (lv_at hl 0 rfl) ?_
    refine lv_bipush (v := 6) hx hb dX3_isLand_5 (by decide) ?_
    refine lv_icmp_ge (tgt := 14) hx hb dX3_isLand_7 (by decide) (fun c7 => ?_) (fun c7 => ?_)
    ·
      replace h := gdp h c7
      refine lv_iconst (v := 0) hx hb dX3_isLand_14 (by decide) ?_
      subst h
      exact retPz (v := (0 : Int32)) hx hb hr hlocks rfl dX3_isLand_15
    ·
      replace h := gdn h c7
      refine lv_iconst (v := 1) hx hb dX3_isLand_10 (by decide) ?_
      refine lv_goto (tgt := 15) hx hb dX3_isLand_11 (by decide) ?_
      subst h
      exact retPz (v := (1 : Int32)) hx hb hr hlocks rfl dX3_isLand_15
-- LandBoard.isLandOrSea
set_option maxHeartbeats 4000000 in
set_option maxRecDepth 100000 in
theorem ctX3_isLandOrSea (l : Launch) (g : GG) (x0 : Int32)  (res : Int32) (h : fX3_isLandOrSea x0 = res) : MP l yX3_isLandOrSea wsX3_isLandOrSea ({ frames := 1, cells := 0, slots := 0, locals := 20 }) g [.int x0] (wN g) (.int res) := by
  refine MP.of (cc := cX3_isLandOrSea) (own := RX3) 1 (some .boolean) (by decide +kernel) rfl (Nat.le_of_ble_eq_true rfl) rfl ?_
  intro p e s m args below meth c hx hb hr hml hown hts hlocks hP hK ls hl
  have S : CallFix p m c cX3_isLandOrSea 1 s args wsX3_isLandOrSea RX3 := ⟨hx, hb, hml, hown, hts⟩
  have hl : lv_has ls 1 [(0, .int x0)] := hl
  refine lv_iload_n hx hb dX3_isLandOrSea_0 rfl (lv_at hl 0 rfl) ?_
  refine lv_bipush (v := -4) hx hb dX3_isLandOrSea_1 (by decide) ?_
  refine lv_icmp_eq (tgt := 13) hx hb dX3_isLandOrSea_3 (by decide) (fun c3 => ?_) (fun c3 => ?_)
  ·
    replace h := gdp h c3
    refine lv_iconst (v := 1) hx hb dX3_isLandOrSea_13 (by decide) ?_
    refine lv_goto (tgt := 18) hx hb dX3_isLandOrSea_14 (by decide) ?_
    subst h
    exact retPz (v := (1 : Int32)) hx hb hr hlocks rfl dX3_isLandOrSea_18
  ·
    replace h := gdn h c3
    refine lv_iload_n hx hb dX3_isLandOrSea_6 rfl (lv_at hl 0 rfl) ?_
    refine kPS (As := [.int x0]) (rest := []) S (ctX3_isLand l g x0  (fX3_isLand x0) rfl) (va_cwS 1 hts gX3_isLandOrSea_X3_isLand rfl rfl rfl (by decide +kernel) ⟨Nat.le_of_ble_eq_true rfl, Nat.le_of_ble_eq_true rfl⟩) hK rfl rfl hl.1 rfl (Nat.le_of_ble_eq_true rfl) dX3_isLandOrSea_7 ⟨Nat.zero_le _, Nat.zero_le _⟩ ?_
    refine lv_if_eq (tgt := 17) hx hb dX3_isLandOrSea_10 (by decide) (fun c10 => ?_) (fun c10 => ?_)
    ·
      replace h := gdp h c10
      refine lv_iconst (v := 0) hx hb dX3_isLandOrSea_17 (by decide) ?_
      subst h
      exact retPz (v := (0 : Int32)) hx hb hr hlocks rfl dX3_isLandOrSea_18
    ·
      replace h := gdn h c10
      refine lv_iconst (v := 1) hx hb dX3_isLandOrSea_13 (by decide) ?_
      refine lv_goto (tgt := 18) hx hb dX3_isLandOrSea_14 (by decide) ?_
      subst h
      exact retPz (v := (1 : Int32)) hx hb hr hlocks rfl dX3_isLandOrSea_18
-- LandBoard.cellAt
set_option maxHeartbeats 4000000 in
set_option maxRecDepth 100000 in
theorem ctX3_cellAt (l : Launch) (g : GG) (x0 : Int32) (x1 : Int32)  (res : Int32) (h : fX3_cellAt x0 x1 = res) : MP l yX3_cellAt wsX3_cellAt ({ frames := 0, cells := 0, slots := 0, locals := 0 }) g [.int x0, .int x1] (wN g) (.int res) := by
  refine MP.of (cc := cX3_cellAt) (own := RX3) 2 (some .int) (by decide +kernel) rfl (Nat.le_of_ble_eq_true rfl) rfl ?_
  intro p e s m args below meth c hx hb hr hml hown hts hlocks hP hK ls hl
  have S : CallFix p m c cX3_cellAt 2 s args wsX3_cellAt RX3 := ⟨hx, hb, hml, hown, hts⟩
  have hl : lv_has ls 2 [(0, .int x0), (1, .int x1)] := hl
  refine lv_iload_n hx hb dX3_cellAt_0 rfl (lv_at hl 0 rfl) ?_
  refine lv_bipush (v := 8) hx hb dX3_cellAt_1 (by decide) ?_
  refine lv_iload_n hx hb dX3_cellAt_3 rfl (lv_at hl 1 rfl) ?_
  refine lv_imul hx hb dX3_cellAt_4 ?_
  refine lv_iadd hx hb dX3_cellAt_5 ?_
  subst h
  exact retPi hx hb hr hlocks dX3_cellAt_6
-- LandBoard.bit
set_option maxHeartbeats 4000000 in
set_option maxRecDepth 100000 in
theorem ctX3_bit (l : Launch) (g : GG) (x0 : Int32)  (res : Int64) (h : fX3_bit x0 = res) : MP l yX3_bit wsX3_bit ({ frames := 0, cells := 0, slots := 0, locals := 0 }) g [.int x0] (wN g) (.long res) := by
  refine MP.of (cc := cX3_bit) (own := RX3) 1 (some .long) (by decide +kernel) rfl (Nat.le_of_ble_eq_true rfl) rfl ?_
  intro p e s m args below meth c hx hb hr hml hown hts hlocks hP hK ls hl
  have S : CallFix p m c cX3_bit 1 s args wsX3_bit RX3 := ⟨hx, hb, hml, hown, hts⟩
  have hl : lv_has ls 1 [(0, .int x0)] := hl
  refine lv_lconst (v := 1) hx hb dX3_bit_0 (by decide) ?_
  refine lv_iload_n hx hb dX3_bit_1 rfl (lv_at hl 0 rfl) ?_
  refine lv_lshl (v := ((1 : Int64) <<< (x0.toInt64 &&& 63))) hx hb dX3_bit_2 rfl ?_
  subst h
  exact retPl hx hb hr hlocks dX3_bit_3
-- LandBoard.around
set_option maxHeartbeats 4000000 in
set_option maxRecDepth 100000 in
theorem ctX3_around (l : Launch) (g : GG) (x0 : Int64)  (res : Int64) (h : fX3_around x0 = res) : MP l yX3_around wsX3_around ({ frames := 1, cells := 0, slots := 0, locals := 21 }) g [.long x0] (wN g) (.long res) := by
  refine MP.of (cc := cX3_around) (own := RX3) 2 (some .long) (by decide +kernel) rfl (Nat.le_of_ble_eq_true rfl) rfl ?_
  intro p e s m args below meth c hx hb hr hml hown hts hlocks hP hK ls hl
  have S : CallFix p m c cX3_around 2 s args wsX3_around RX3 := ⟨hx, hb, hml, hown, hts⟩
  have hl : lv_has ls 2 [(0, .long x0)] := hl
  refine lv_lload_n hx hb dX3_around_0 rfl (lv_at hl 0 rfl) ?_
  refine kPS (As := [.long x0]) (rest := []) S (ctX3_toRight l g x0  (fX3_toRight x0) rfl) (va_cwS 1 hts gX3_around_X3_toRight rfl rfl rfl (by decide +kernel) ⟨Nat.le_of_ble_eq_true rfl, Nat.le_of_ble_eq_true rfl⟩) hK rfl rfl hl.1 rfl (Nat.le_of_ble_eq_true rfl) dX3_around_1 ⟨Nat.zero_le _, Nat.zero_le _⟩ ?_
  refine lv_lload_n hx hb dX3_around_4 rfl (lv_at hl 0 rfl) ?_
  refine kPS (As := [.long x0]) (rest := [.long (fX3_toRight x0)]) S (ctX3_toLeft l g x0  (fX3_toLeft x0) rfl) (va_cwS 1 hts gX3_around_X3_toLeft rfl rfl rfl (by decide +kernel) ⟨Nat.le_of_ble_eq_true rfl, Nat.le_of_ble_eq_true rfl⟩) hK rfl rfl hl.1 rfl (Nat.le_of_ble_eq_true rfl) dX3_around_5 ⟨Nat.zero_le _, Nat.zero_le _⟩ ?_
  refine lv_lor hx hb dX3_around_8 ?_
  refine lv_lload_n hx hb dX3_around_9 rfl (lv_at hl 0 rfl) ?_
  refine lv_bipush (v := 8) hx hb dX3_around_10 (by decide) ?_
  refine lv_lshl (v := (x0 <<< ((8 : Int32).toInt64 &&& 63))) hx hb dX3_around_12 rfl ?_
  refine lv_lor hx hb dX3_around_13 ?_
  refine lv_lload_n hx hb dX3_around_14 rfl (lv_at hl 0 rfl) ?_
  refine lv_bipush (v := 8) hx hb dX3_around_15 (by decide) ?_
  refine lv_lushr (v := ((x0).toUInt64 >>> ((8 : Int32).toInt64.toUInt64 &&& Int64.toUInt64 63)).toInt64) hx hb dX3_around_17 rfl ?_
  refine lv_lor hx hb dX3_around_18 ?_
  subst h
  exact retPl hx hb hr hlocks dX3_around_19
-- LandBoard.isWhole
set_option maxHeartbeats 4000000 in
set_option maxRecDepth 100000 in
theorem ctX3_isWhole (l : Launch) (g : GG) (x0 : Int64)  (res : Int32) (h : fX3_isWhole x0 = some res) : MP l yX3_isWhole wsX3_isWhole ({ frames := 2, cells := 0, slots := 0, locals := 42 }) g [.long x0] (wN g) (.int res) := by
  refine MP.of (cc := cX3_isWhole) (own := RX3) 7 (some .boolean) (by decide +kernel) rfl (Nat.le_of_ble_eq_true rfl) rfl ?_
  intro p e s m args below meth c hx hb hr hml hown hts hlocks hP hK ls hl
  have S : CallFix p m c cX3_isWhole 7 s args wsX3_isWhole RX3 := ⟨hx, hb, hml, hown, hts⟩
  have hl : lv_has ls 7 [(0, .long x0)] := hl
  refine lv_lload_n hx hb dX3_isWhole_0 rfl (lv_at hl 0 rfl) ?_
  refine lv_lload_n hx hb dX3_isWhole_1 rfl (lv_at hl 0 rfl) ?_
  refine lv_lneg hx hb dX3_isWhole_2 ?_
  refine lv_land hx hb dX3_isWhole_3 ?_
  refine lv_lstore_n (lv' := [(2, .long (x0 &&& (-x0))), (0, .long x0)]) hx hb dX3_isWhole_4 rfl hl (by decide) rfl (fun ls hl => ?_)
  refine lv_iconst (v := 0) hx hb dX3_isWhole_5 (by decide) ?_
  refine lv_istore (lv' := [(4, .int (0 : Int32)), (2, .long (x0 &&& (-x0))), (0, .long x0)]) hx hb dX3_isWhole_6 hl (by decide) rfl (fun ls hl => ?_)
  obtain ⟨t8, hw8, h⟩ := gdb h
  have X8 : ∀ ls : Array Slot, lv_has ls 7 [(0, .long x0), (2, .long t8)] → W p l e ({ frames := 2, cells := 0, slots := 0, locals := 42 }) s m args below meth c s.heap [] 0 0 (MQ below (k2_QcV (.int res)) args s 0 0 (fun _ => False)) (F0 m 44 ls []) := by
    intro ls hl
    refine lv_lload_n hx hb dX3_isWhole_44 rfl (lv_at hl 0 rfl) ?_
    refine lv_lconst (v := 0) hx hb dX3_isWhole_45 (by decide) ?_
    refine W.lcmp hx hb dX3_isWhole_46 ?_
    refine lv_if_eq (tgt := 60) hx hb dX3_isWhole_47 (by decide) (fun c47 => ?_) (fun c47 => ?_)
    ·
      replace h := gdp h c47
      refine lv_iconst (v := 0) hx hb dX3_isWhole_60 (by decide) ?_
      cases h
      exact retPz (v := (0 : Int32)) hx hb hr hlocks rfl dX3_isWhole_61
    ·
      replace h := gdn h c47
      refine lv_lload_n hx hb dX3_isWhole_50 rfl (lv_at hl 1 rfl) ?_
      refine lv_lload_n hx hb dX3_isWhole_51 rfl (lv_at hl 0 rfl) ?_
      refine W.lcmp hx hb dX3_isWhole_52 ?_
      refine lv_if_ne (tgt := 60) hx hb dX3_isWhole_53 (by decide) (fun c53 => ?_) (fun c53 => ?_)
      ·
        replace h := gdn h c53
        refine lv_iconst (v := 0) hx hb dX3_isWhole_60 (by decide) ?_
        cases h
        exact retPz (v := (0 : Int32)) hx hb hr hlocks rfl dX3_isWhole_61
      ·
        replace h := gdp h c53
        refine lv_iconst (v := 1) hx hb dX3_isWhole_56 (by decide) ?_
        refine lv_goto (tgt := 61) hx hb dX3_isWhole_57 (by decide) ?_
        cases h
        exact retPz (v := (1 : Int32)) hx hb hr hlocks rfl dX3_isWhole_61
  clear h
  have L8 : ∀ (n : Nat) (s8 : Int64 × Int32), wh (fX3_isWhole_8 x0) n s8 = some t8 → ∀ ls : Array Slot, lv_has ls 7 [(0, .long x0), (2, .long s8.1), (4, .int s8.2)] → W p l e ({ frames := 2, cells := 0, slots := 0, locals := 42 }) s m args below meth c s.heap [] 0 0 (MQ below (k2_QcV (.int res)) args s 0 0 (fun _ => False)) (F0 m 8 ls []) := by
    intro n
    induction n with
    | zero => intro s8 hw; exact (wh_0 hw).elim
    | succ n ih8 =>
      intro s8 hw ls hl
      obtain ⟨r0, h, hr8⟩ := wh_s hw
      refine lv_iload hx hb dX3_isWhole_8 (lv_at hl 2 rfl) ?_
      refine lv_bipush (v := 64) hx hb dX3_isWhole_10 (by decide) ?_
      refine lv_icmp_ge (tgt := 44) hx hb dX3_isWhole_12 (by decide) (fun c12 => ?_) (fun c12 => ?_)
      ·
        replace h := gdp h c12
        cases h
        have e0 : s8.1 = t8 := hr8
        subst e0
        exact X8 _ (lv_sub hl [0, 1] rfl)
      ·
        replace h := gdn h c12
        refine lv_lload_n hx hb dX3_isWhole_15 rfl (lv_at hl 1 rfl) ?_
        refine lv_lload_n hx hb dX3_isWhole_16 rfl (lv_at hl 1 rfl) ?_
        refine kPS (As := [.long s8.1]) (rest := [.long s8.1]) S (ctX3_around l g s8.1  (fX3_around s8.1) rfl) (va_cwS 1 hts gX3_isWhole_X3_around rfl rfl rfl (by decide +kernel) ⟨Nat.le_of_ble_eq_true rfl, Nat.le_of_ble_eq_true rfl⟩) hK rfl rfl hl.1 rfl (Nat.le_of_ble_eq_true rfl) dX3_isWhole_17 ⟨Nat.zero_le _, Nat.zero_le _⟩ ?_
        refine lv_lload_n hx hb dX3_isWhole_20 rfl (lv_at hl 0 rfl) ?_
        refine lv_land hx hb dX3_isWhole_21 ?_
        refine lv_lor hx hb dX3_isWhole_22 ?_
        refine lv_lstore (lv' := [(5, .long (s8.1 ||| ((fX3_around s8.1) &&& x0))), (0, .long x0), (2, .long s8.1), (4, .int s8.2)]) hx hb dX3_isWhole_23 hl (by decide) rfl (fun ls hl => ?_)
        refine lv_lload hx hb dX3_isWhole_25 (lv_at hl 0 rfl) ?_
        refine lv_lload_n hx hb dX3_isWhole_27 rfl (lv_at hl 2 rfl) ?_
        refine W.lcmp hx hb dX3_isWhole_28 ?_
        refine lv_if_ne (tgt := 35) hx hb dX3_isWhole_29 (by decide) (fun c29 => ?_) (fun c29 => ?_)
        ·
          replace h := gdn h c29
          refine lv_lload hx hb dX3_isWhole_35 (lv_at hl 0 rfl) ?_
          refine lv_lstore_n (lv' := [(2, .long (s8.1 ||| ((fX3_around s8.1) &&& x0))), (5, .long (s8.1 ||| ((fX3_around s8.1) &&& x0))), (0, .long x0), (4, .int s8.2)]) hx hb dX3_isWhole_37 rfl hl (by decide) rfl (fun ls hl => ?_)
          refine lv_iinc (v := (s8.2 + 1)) (lv' := [(4, .int (s8.2 + 1)), (2, .long (s8.1 ||| ((fX3_around s8.1) &&& x0))), (5, .long (s8.1 ||| ((fX3_around s8.1) &&& x0))), (0, .long x0)]) hx hb dX3_isWhole_38 hl (k := 3) rfl rfl (by decide) rfl (fun ls hl => ?_)
          refine lv_goto (tgt := 8) hx hb dX3_isWhole_41 (by decide) ?_
          cases h
          exact ih8 ((s8.1 ||| ((fX3_around s8.1) &&& x0)), (s8.2 + 1)) hr8 _ (lv_sub hl [3, 1, 0] rfl)
        ·
          replace h := gdp h c29
          refine lv_goto (tgt := 44) hx hb dX3_isWhole_32 (by decide) ?_
          cases h
          have e0 : s8.1 = t8 := hr8
          subst e0
          exact X8 _ (lv_sub hl [1, 2] rfl)
  exact L8 _ ((x0 &&& (-x0)), (0 : Int32)) hw8 _ (lv_sub hl [2, 1, 0] rfl)
-- LandBoard.answer
set_option maxHeartbeats 4000000 in
set_option maxRecDepth 100000 in
theorem ctX3_answer (l : Launch) (g : GG) (x0 : Int32)  (res : Int32) (h : fX3_answer x0 = res) : MP l yX3_answer wsX3_answer ({ frames := 0, cells := 0, slots := 0, locals := 0 }) g [.int x0] (wN g) (.int res) := by
  refine MP.of (cc := cX3_answer) (own := RX3) 1 (some .int) (by decide +kernel) rfl (Nat.le_of_ble_eq_true rfl) rfl ?_
  intro p e s m args below meth c hx hb hr hml hown hts hlocks hP hK ls hl
  have S : CallFix p m c cX3_answer 1 s args wsX3_answer RX3 := ⟨hx, hb, hml, hown, hts⟩
  have hl : lv_has ls 1 [(0, .int x0)] := hl
  refine lv_iload_n hx hb dX3_answer_0 rfl (lv_at hl 0 rfl) ?_
  refine lv_if_eq (tgt := 8) hx hb dX3_answer_1 (by decide) (fun c1 => ?_) (fun c1 => ?_)
  ·
    replace h := gdp h c1
    refine lv_iconst (v := 0) hx hb dX3_answer_8 (by decide) ?_
    subst h
    exact retPi (v := (0 : Int32)) hx hb hr hlocks dX3_answer_9
  ·
    replace h := gdn h c1
    refine lv_iconst (v := 1) hx hb dX3_answer_4 (by decide) ?_
    refine lv_goto (tgt := 9) hx hb dX3_answer_5 (by decide) ?_
    subst h
    exact retPi (v := (1 : Int32)) hx hb hr hlocks dX3_answer_9
-- LandBoard.columnOf
set_option maxHeartbeats 4000000 in
set_option maxRecDepth 100000 in
theorem ctX3_columnOf (l : Launch) (g : GG) (x0 : Int32)  (res : Int32) (h : fX3_columnOf x0 = res) : MP l yX3_columnOf wsX3_columnOf ({ frames := 0, cells := 0, slots := 0, locals := 0 }) g [.int x0] (wN g) (.int res) := by
  refine MP.of (cc := cX3_columnOf) (own := RX3) 1 (some .int) (by decide +kernel) rfl (Nat.le_of_ble_eq_true rfl) rfl ?_
  intro p e s m args below meth c hx hb hr hml hown hts hlocks hP hK ls hl
  have S : CallFix p m c cX3_columnOf 1 s args wsX3_columnOf RX3 := ⟨hx, hb, hml, hown, hts⟩
  have hl : lv_has ls 1 [(0, .int x0)] := hl
  refine lv_iload_n hx hb dX3_columnOf_0 rfl (lv_at hl 0 rfl) ?_
  refine lv_bipush (v := 8) hx hb dX3_columnOf_1 (by decide) ?_
  refine lv_irem hx hb dX3_columnOf_3 (by decide) ?_
  subst h
  exact retPi hx hb hr hlocks dX3_columnOf_4
-- LandBoard.rowOf
set_option maxHeartbeats 4000000 in
set_option maxRecDepth 100000 in
theorem ctX3_rowOf (l : Launch) (g : GG) (x0 : Int32)  (res : Int32) (h : fX3_rowOf x0 = res) : MP l yX3_rowOf wsX3_rowOf ({ frames := 0, cells := 0, slots := 0, locals := 0 }) g [.int x0] (wN g) (.int res) := by
  refine MP.of (cc := cX3_rowOf) (own := RX3) 1 (some .int) (by decide +kernel) rfl (Nat.le_of_ble_eq_true rfl) rfl ?_
  intro p e s m args below meth c hx hb hr hml hown hts hlocks hP hK ls hl
  have S : CallFix p m c cX3_rowOf 1 s args wsX3_rowOf RX3 := ⟨hx, hb, hml, hown, hts⟩
  have hl : lv_has ls 1 [(0, .int x0)] := hl
  refine lv_iload_n hx hb dX3_rowOf_0 rfl (lv_at hl 0 rfl) ?_
  refine lv_bipush (v := 8) hx hb dX3_rowOf_1 (by decide) ?_
  refine lv_idiv hx hb dX3_rowOf_3 (by decide) ?_
  subst h
  exact retPi hx hb hr hlocks dX3_rowOf_4
-- LandBoard.bodiesAsked
set_option maxHeartbeats 4000000 in
set_option maxRecDepth 100000 in
theorem ctX3_bodiesAsked (l : Launch) (g : GG) (x0 : Int32)  (res : Int32) (h : fX3_bodiesAsked x0 = res) : MP l yX3_bodiesAsked wsX3_bodiesAsked ({ frames := 0, cells := 0, slots := 0, locals := 0 }) g [.int x0] (wN g) (.int res) := by
  refine MP.of (cc := cX3_bodiesAsked) (own := RX3) 1 (some .int) (by decide +kernel) rfl (Nat.le_of_ble_eq_true rfl) rfl ?_
  intro p e s m args below meth c hx hb hr hml hown hts hlocks hP hK ls hl
  have S : CallFix p m c cX3_bodiesAsked 1 s args wsX3_bodiesAsked RX3 := ⟨hx, hb, hml, hown, hts⟩
  have hl : lv_has ls 1 [(0, .int x0)] := hl
  refine lv_iload_n hx hb dX3_bodiesAsked_0 rfl (lv_at hl 0 rfl) ?_
  refine lv_iconst (v := 2) hx hb dX3_bodiesAsked_1 (by decide) ?_
  refine lv_icmp_ne (tgt := 10) hx hb dX3_bodiesAsked_2 (by decide) (fun c2 => ?_) (fun c2 => ?_)
  ·
    replace h := gdn h c2
    refine lv_iload_n hx hb dX3_bodiesAsked_10 rfl (lv_at hl 0 rfl) ?_
    refine lv_iconst (v := 1) hx hb dX3_bodiesAsked_11 (by decide) ?_
    refine lv_icmp_ne (tgt := 20) hx hb dX3_bodiesAsked_12 (by decide) (fun c12 => ?_) (fun c12 => ?_)
    ·
      replace h := gdn h c12
      refine lv_iconst (v := 1) hx hb dX3_bodiesAsked_20 (by decide) ?_
      subst h
      exact retPi (v := (1 : Int32)) hx hb hr hlocks dX3_bodiesAsked_21
    ·
      replace h := gdp h c12
      refine lv_bipush (v := 11) hx hb dX3_bodiesAsked_15 (by decide) ?_
      refine lv_goto (tgt := 21) hx hb dX3_bodiesAsked_17 (by decide) ?_
      subst h
      exact retPi (v := (11 : Int32)) hx hb hr hlocks dX3_bodiesAsked_21
  ·
    replace h := gdp h c2
    refine lv_bipush (v := 111) hx hb dX3_bodiesAsked_5 (by decide) ?_
    refine lv_goto (tgt := 21) hx hb dX3_bodiesAsked_7 (by decide) ?_
    subst h
    exact retPi (v := (111 : Int32)) hx hb hr hlocks dX3_bodiesAsked_21
-- LandBoard.firstOf
set_option maxHeartbeats 4000000 in
set_option maxRecDepth 100000 in
theorem ctX3_firstOf (l : Launch) (g : GG) (x0 : Int64)  (res : Int32) (h : fX3_firstOf x0 = some res) : MP l yX3_firstOf wsX3_firstOf ({ frames := 1, cells := 0, slots := 0, locals := 20 }) g [.long x0] (wN g) (.int res) := by
  refine MP.of (cc := cX3_firstOf) (own := RX3) 3 (some .int) (by decide +kernel) rfl (Nat.le_of_ble_eq_true rfl) rfl ?_
  intro p e s m args below meth c hx hb hr hml hown hts hlocks hP hK ls hl
  have S : CallFix p m c cX3_firstOf 3 s args wsX3_firstOf RX3 := ⟨hx, hb, hml, hown, hts⟩
  have hl : lv_has ls 3 [(0, .long x0)] := hl
  refine lv_iconst (v := 0) hx hb dX3_firstOf_0 (by decide) ?_
  refine lv_istore_n (lv' := [(2, .int (0 : Int32)), (0, .long x0)]) hx hb dX3_firstOf_1 rfl hl (by decide) rfl (fun ls hl => ?_)
  have L2 : ∀ (n : Nat) (s2 : Int32), wh (fX3_firstOf_2 x0) n s2 = some res → ∀ ls : Array Slot, lv_has ls 3 [(0, .long x0), (2, .int s2)] → W p l e ({ frames := 1, cells := 0, slots := 0, locals := 20 }) s m args below meth c s.heap [] 0 0 (MQ below (k2_QcV (.int res)) args s 0 0 (fun _ => False)) (F0 m 2 ls []) := by
    intro n
    induction n with
    | zero => intro s2 hw; exact (wh_0 hw).elim
    | succ n ih2 =>
      intro s2 hw ls hl
      obtain ⟨r0, h, hr2⟩ := wh_s hw
      refine lv_iload_n hx hb dX3_firstOf_2 rfl (lv_at hl 1 rfl) ?_
      refine lv_bipush (v := 64) hx hb dX3_firstOf_3 (by decide) ?_
      refine lv_icmp_ge (tgt := 27) hx hb dX3_firstOf_5 (by decide) (fun c5 => ?_) (fun c5 => ?_)
      ·
        replace h := gdp h c5
        refine lv_iconst (v := 0) hx hb dX3_firstOf_27 (by decide) ?_
        cases h
        have e0 : (0 : Int32) = res := hr2
        subst e0
        exact retPi (v := (0 : Int32)) hx hb hr hlocks dX3_firstOf_28
      ·
        replace h := gdn h c5
        refine lv_lload_n hx hb dX3_firstOf_8 rfl (lv_at hl 0 rfl) ?_
        refine lv_iload_n hx hb dX3_firstOf_9 rfl (lv_at hl 1 rfl) ?_
        refine kPS (As := [.int s2]) (rest := [.long x0]) S (ctX3_bit l g s2  (fX3_bit s2) rfl) (va_cwS 1 hts gX3_firstOf_X3_bit rfl rfl rfl (by decide +kernel) ⟨Nat.le_of_ble_eq_true rfl, Nat.le_of_ble_eq_true rfl⟩) hK rfl rfl hl.1 rfl (Nat.le_of_ble_eq_true rfl) dX3_firstOf_10 ⟨Nat.zero_le _, Nat.zero_le _⟩ ?_
        refine lv_land hx hb dX3_firstOf_13 ?_
        refine lv_lconst (v := 0) hx hb dX3_firstOf_14 (by decide) ?_
        refine W.lcmp hx hb dX3_firstOf_15 ?_
        refine lv_if_eq (tgt := 21) hx hb dX3_firstOf_16 (by decide) (fun c16 => ?_) (fun c16 => ?_)
        ·
          replace h := gdp h c16
          refine lv_iinc (v := (s2 + 1)) (lv' := [(2, .int (s2 + 1)), (0, .long x0)]) hx hb dX3_firstOf_21 hl (k := 1) rfl rfl (by decide) rfl (fun ls hl => ?_)
          refine lv_goto (tgt := 2) hx hb dX3_firstOf_24 (by decide) ?_
          cases h
          exact ih2 (s2 + 1) hr2 _ (lv_sub hl [1, 0] rfl)
        ·
          replace h := gdn h c16
          refine lv_iload_n hx hb dX3_firstOf_19 rfl (lv_at hl 1 rfl) ?_
          cases h
          have e0 : s2 = res := hr2
          subst e0
          exact retPi hx hb hr hlocks dX3_firstOf_20
  have hw2 := h
  exact L2 _ (0 : Int32) hw2 _ (lv_sub hl [1, 0] rfl)
-- LandBoard.commonDivisor
set_option maxHeartbeats 4000000 in
set_option maxRecDepth 100000 in
theorem ctX3_commonDivisor (l : Launch) (g : GG) (x0 : Int32) (x1 : Int32)  (res : Int32) (h : fX3_commonDivisor x0 x1 = some res) : MP l yX3_commonDivisor wsX3_commonDivisor ({ frames := 0, cells := 0, slots := 0, locals := 0 }) g [.int x0, .int x1] (wN g) (.int res) := by
  refine MP.of (cc := cX3_commonDivisor) (own := RX3) 6 (some .int) (by decide +kernel) rfl (Nat.le_of_ble_eq_true rfl) rfl ?_
  intro p e s m args below meth c hx hb hr hml hown hts hlocks hP hK ls hl
  have S : CallFix p m c cX3_commonDivisor 6 s args wsX3_commonDivisor RX3 := ⟨hx, hb, hml, hown, hts⟩
  have hl : lv_has ls 6 [(0, .int x0), (1, .int x1)] := hl
  refine lv_iload_n hx hb dX3_commonDivisor_0 rfl (lv_at hl 0 rfl) ?_
  refine lv_istore_n (lv' := [(2, .int x0), (0, .int x0), (1, .int x1)]) hx hb dX3_commonDivisor_1 rfl hl (by decide) rfl (fun ls hl => ?_)
  refine lv_iload_n hx hb dX3_commonDivisor_2 rfl (lv_at hl 2 rfl) ?_
  refine lv_istore_n (lv' := [(3, .int x1), (2, .int x0), (0, .int x0), (1, .int x1)]) hx hb dX3_commonDivisor_3 rfl hl (by decide) rfl (fun ls hl => ?_)
  refine lv_iconst (v := 0) hx hb dX3_commonDivisor_4 (by decide) ?_
  refine lv_istore (lv' := [(4, .int (0 : Int32)), (3, .int x1), (2, .int x0), (0, .int x0), (1, .int x1)]) hx hb dX3_commonDivisor_5 hl (by decide) rfl (fun ls hl => ?_)
  obtain ⟨t7, hw7, h⟩ := gdb h
  have X7 : ∀ ls : Array Slot, lv_has ls 6 [(2, .int t7)] → W p l e ({ frames := 0, cells := 0, slots := 0, locals := 0 }) s m args below meth c s.heap [] 0 0 (MQ below (k2_QcV (.int res)) args s 0 0 (fun _ => False)) (F0 m 34 ls []) := by
    intro ls hl
    refine lv_iload_n hx hb dX3_commonDivisor_34 rfl (lv_at hl 0 rfl) ?_
    cases h
    exact retPi hx hb hr hlocks dX3_commonDivisor_35
  clear h
  have L7 : ∀ (n : Nat) (s7 : Int32 × Int32 × Int32), wh fX3_commonDivisor_7 n s7 = some t7 → ∀ ls : Array Slot, lv_has ls 6 [(2, .int s7.1), (3, .int s7.2.1), (4, .int s7.2.2)] → W p l e ({ frames := 0, cells := 0, slots := 0, locals := 0 }) s m args below meth c s.heap [] 0 0 (MQ below (k2_QcV (.int res)) args s 0 0 (fun _ => False)) (F0 m 7 ls []) := by
    intro n
    induction n with
    | zero => intro s7 hw; exact (wh_0 hw).elim
    | succ n ih7 =>
      intro s7 hw ls hl
      obtain ⟨r0, h, hr7⟩ := wh_s hw
      refine lv_iload hx hb dX3_commonDivisor_7 (lv_at hl 2 rfl) ?_
      refine lv_bipush (v := 64) hx hb dX3_commonDivisor_9 (by decide) ?_
      refine lv_icmp_ge (tgt := 34) hx hb dX3_commonDivisor_11 (by decide) (fun c11 => ?_) (fun c11 => ?_)
      ·
        replace h := gdp h c11
        cases h
        have e0 : s7.1 = t7 := hr7
        subst e0
        exact X7 _ (lv_sub hl [0] rfl)
      ·
        replace h := gdn h c11
        refine lv_iload_n hx hb dX3_commonDivisor_14 rfl (lv_at hl 1 rfl) ?_
        refine lv_if_eq (tgt := 34) hx hb dX3_commonDivisor_15 (by decide) (fun c15 => ?_) (fun c15 => ?_)
        ·
          replace h := gdp h c15
          cases h
          have e0 : s7.1 = t7 := hr7
          subst e0
          exact X7 _ (lv_sub hl [0] rfl)
        ·
          replace h := gdn h c15
          refine lv_iload_n hx hb dX3_commonDivisor_18 rfl (lv_at hl 0 rfl) ?_
          refine lv_iload_n hx hb dX3_commonDivisor_19 rfl (lv_at hl 1 rfl) ?_
          obtain ⟨hz, h⟩ := gdz h
          refine lv_irem hx hb dX3_commonDivisor_20 hz ?_
          refine lv_istore (lv' := [(5, .int (s7.1 - s7.1 / s7.2.1 * s7.2.1)), (2, .int s7.1), (3, .int s7.2.1), (4, .int s7.2.2)]) hx hb dX3_commonDivisor_21 hl (by decide) rfl (fun ls hl => ?_)
          refine lv_iload_n hx hb dX3_commonDivisor_23 rfl (lv_at hl 2 rfl) ?_
          refine lv_istore_n (lv' := [(2, .int s7.2.1), (5, .int (s7.1 - s7.1 / s7.2.1 * s7.2.1)), (3, .int s7.2.1), (4, .int s7.2.2)]) hx hb dX3_commonDivisor_24 rfl hl (by decide) rfl (fun ls hl => ?_)
          refine lv_iload hx hb dX3_commonDivisor_25 (lv_at hl 1 rfl) ?_
          refine lv_istore_n (lv' := [(3, .int (s7.1 - s7.1 / s7.2.1 * s7.2.1)), (2, .int s7.2.1), (5, .int (s7.1 - s7.1 / s7.2.1 * s7.2.1)), (4, .int s7.2.2)]) hx hb dX3_commonDivisor_27 rfl hl (by decide) rfl (fun ls hl => ?_)
          refine lv_iinc (v := (s7.2.2 + 1)) (lv' := [(4, .int (s7.2.2 + 1)), (3, .int (s7.1 - s7.1 / s7.2.1 * s7.2.1)), (2, .int s7.2.1), (5, .int (s7.1 - s7.1 / s7.2.1 * s7.2.1))]) hx hb dX3_commonDivisor_28 hl (k := 3) rfl rfl (by decide) rfl (fun ls hl => ?_)
          refine lv_goto (tgt := 7) hx hb dX3_commonDivisor_31 (by decide) ?_
          cases h
          exact ih7 (s7.2.1, (s7.1 - s7.1 / s7.2.1 * s7.2.1), (s7.2.2 + 1)) hr7 _ (lv_sub hl [2, 1, 0] rfl)
  exact L7 _ (x0, x1, (0 : Int32)) hw7 _ (lv_sub hl [2, 1, 0] rfl)
-- LandBoard.thousandths
set_option maxHeartbeats 4000000 in
set_option maxRecDepth 100000 in
theorem ctX3_thousandths (l : Launch) (g : GG) (x0 : Int32) (x1 : Int32)  (res : Int32) (h : fX3_thousandths x0 x1 = some res) : MP l yX3_thousandths wsX3_thousandths ({ frames := 0, cells := 0, slots := 0, locals := 0 }) g [.int x0, .int x1] (wN g) (.int res) := by
  refine MP.of (cc := cX3_thousandths) (own := RX3) 2 (some .int) (by decide +kernel) rfl (Nat.le_of_ble_eq_true rfl) rfl ?_
  intro p e s m args below meth c hx hb hr hml hown hts hlocks hP hK ls hl
  have S : CallFix p m c cX3_thousandths 2 s args wsX3_thousandths RX3 := ⟨hx, hb, hml, hown, hts⟩
  have hl : lv_has ls 2 [(0, .int x0), (1, .int x1)] := hl
  refine lv_iload_n hx hb dX3_thousandths_0 rfl (lv_at hl 1 rfl) ?_
  refine lv_if_le (tgt := 14) hx hb dX3_thousandths_1 (by decide) (fun c1 => ?_) (fun c1 => ?_)
  ·
    replace h := gdp h c1
    refine lv_iconst (v := 0) hx hb dX3_thousandths_14 (by decide) ?_
    cases h
    exact retPi (v := (0 : Int32)) hx hb hr hlocks dX3_thousandths_15
  ·
    replace h := gdn h c1
    refine lv_iload_n hx hb dX3_thousandths_4 rfl (lv_at hl 0 rfl) ?_
    refine lv_sipush (v := 1000) hx hb dX3_thousandths_5 (by decide) ?_
    refine lv_imul hx hb dX3_thousandths_8 ?_
    refine lv_iload_n hx hb dX3_thousandths_9 rfl (lv_at hl 1 rfl) ?_
    obtain ⟨hz, h⟩ := gdz h
    refine lv_idiv hx hb dX3_thousandths_10 hz ?_
    refine lv_goto (tgt := 15) hx hb dX3_thousandths_11 (by decide) ?_
    cases h
    exact retPi hx hb hr hlocks dX3_thousandths_15
-- LandBoard.isYear
set_option maxHeartbeats 4000000 in
set_option maxRecDepth 100000 in
theorem ctX3_isYear (l : Launch) (g : GG) (x0 : Int32)  (res : Int32) (h : fX3_isYear x0 = res) : MP l yX3_isYear wsX3_isYear ({ frames := 0, cells := 0, slots := 0, locals := 0 }) g [.int x0] (wN g) (.int res) := by
  refine MP.of (cc := cX3_isYear) (own := RX3) 1 (some .boolean) (by decide +kernel) rfl (Nat.le_of_ble_eq_true rfl) rfl ?_
  intro p e s m args below meth c hx hb hr hml hown hts hlocks hP hK ls hl
  have S : CallFix p m c cX3_isYear 1 s args wsX3_isYear RX3 := ⟨hx, hb, hml, hown, hts⟩
  have hl : lv_has ls 1 [(0, .int x0)] := hl
  refine lv_iload_n hx hb dX3_isYear_0 rfl (lv_at hl 0 rfl) ?_
  refine lv_if_lt (tgt := 13) hx hb dX3_isYear_1 (by decide) (fun c1 => ?_) (fun c1 => ?_)
  ·
    replace h := gdp h c1
    refine lv_iconst (v := 0) hx hb dX3_isYear_13 (by decide) ?_
    subst h
    exact retPz (v := (0 : Int32)) hx hb hr hlocks rfl dX3_isYear_14
  ·
    replace h := gdn h c1
    refine lv_iload_n hx hb dX3_isYear_4 rfl (lv_at hl 0 rfl) ?_
    refine lv_iconst (v := 4) hx hb dX3_isYear_5 (by decide) ?_
    refine lv_icmp_ge (tgt := 13) hx hb dX3_isYear_6 (by decide) (fun c6 => ?_) (fun c6 => ?_)
    ·
      replace h := gdp h c6
      refine lv_iconst (v := 0) hx hb dX3_isYear_13 (by decide) ?_
      subst h
      exact retPz (v := (0 : Int32)) hx hb hr hlocks rfl dX3_isYear_14
    ·
      replace h := gdn h c6
      refine lv_iconst (v := 1) hx hb dX3_isYear_9 (by decide) ?_
      refine lv_goto (tgt := 14) hx hb dX3_isYear_10 (by decide) ?_
      subst h
      exact retPz (v := (1 : Int32)) hx hb hr hlocks rfl dX3_isYear_14
