-- LandBoard$Rows.read
set_option maxHeartbeats 4000000 in
set_option maxRecDepth 100000 in
theorem ctX2_read (l : Launch) (g : GG) (a0 a1 a2 a3 a4 a5 b0 b1 : Nat)  (bx : Int32) (tt : Int32) (pl : (Nat → Int32)) (we : (Nat → Int32)) (le : (Nat → Int32)) (ab : (Nat → Int32)) (rw : (Nat → Int32)) (gw : Int32) (gh : Int32) (gl : (Nat → Int64)) (res : Int32 × Int32 × (Nat → Int32) × (Nat → Int32)) (h : fX2_read bx tt pl we gl = some res) : MM l yX2_read wsX2_read ({ frames := 3, cells := 0, slots := 0, locals := 62 }) g [.ref a0, .ref b0] (wRG g a0 a1 a2 a3 a4 a5 b0 b1 bx tt pl we le ab rw gw gh gl) (wRG g a0 a1 a2 a3 a4 a5 b0 b1 res.1 res.2.1 res.2.2.1 res.2.2.2 le ab rw gw gh gl) none := by
  refine MM.of (cc := cX2_read) (own := RX2) 3 none (by decide +kernel) rfl (Nat.le_of_ble_eq_true rfl) rfl ?_
  intro p e s m args below meth c hx hb hr hml hown hts hlocks hK A hA ls hl hP hD hS
  have S : CallFix p m c cX2_read 3 s args wsX2_read RX2 := ⟨hx, hb, hml, hown, hts⟩
  have hl : lv_has ls 3 [(0, .ref a0), (1, .ref b0)] := hl
  have f27 := hts (.fieldLink RX2 27 "LandBoard$Rows" "boxes" "I") (by decide +kernel)
  have iX2 := (by decide +kernel : ∀ w ∈ u_ws RX2 TX2 7, w ∈ wsX2_read)
  have f31 := hts (.fieldLink RX2 31 "LandBoard$Rows" "total" "I") (by decide +kernel)
  have f9 := hts (.fieldLink RX2 9 "LandBoard$Rows" "places" "[I") (by decide +kernel)
  have f15 := hts (.fieldLink RX2 15 "LandBoard$Rows" "weights" "[I") (by decide +kernel)
  refine lv_aload_n hx hb dX2_read_0 rfl (lv_at hl 0 rfl) ?_
  refine lv_iconst (v := 0) hx hb dX2_read_1 (by decide) ?_
  refine va_put (D := g.1) (ci := 2) (v := .int (0 : Int32)) (ty := .int) (C := RX2) (T := TX2) (N := 7) hx hb hts iX2 tyX2 tyX2_ok nmX2 hown hK.1 hP hD hS 0 rfl rfl 5 (by decide) f27 (fun _ h9 => h9) rfl (by decide +kernel) rfl rfl (Nat.le_of_ble_eq_true rfl) dX2_read_2 (fun H locs hP hD hS => ?_)
  have hP : va_P g.1 vwCl (wRG g a0 a1 a2 a3 a4 a5 b0 b1 (0 : Int32) tt pl we le ab rw gw gh gl) H := hP
  have hD : va_D A (wRG g a0 a1 a2 a3 a4 a5 b0 b1 (0 : Int32) tt pl we le ab rw gw gh gl) := hD
  refine lv_aload_n hx hb dX2_read_5 rfl (lv_at hl 0 rfl) ?_
  refine lv_iconst (v := 0) hx hb dX2_read_6 (by decide) ?_
  refine va_put (D := g.1) (ci := 2) (v := .int (0 : Int32)) (ty := .int) (C := RX2) (T := TX2) (N := 7) hx hb hts iX2 tyX2 tyX2_ok nmX2 hown hK.1 hP hD hS 0 rfl rfl 6 (by decide) f31 (fun _ h9 => h9) rfl (by decide +kernel) rfl rfl (Nat.le_of_ble_eq_true rfl) dX2_read_7 (fun H locs hP hD hS => ?_)
  have hP : va_P g.1 vwCl (wRG g a0 a1 a2 a3 a4 a5 b0 b1 (0 : Int32) (0 : Int32) pl we le ab rw gw gh gl) H := hP
  have hD : va_D A (wRG g a0 a1 a2 a3 a4 a5 b0 b1 (0 : Int32) (0 : Int32) pl we le ab rw gw gh gl) := hD
  refine lv_iconst (v := 0) hx hb dX2_read_10 (by decide) ?_
  refine lv_istore_n (lv' := [(2, .int (0 : Int32)), (0, .ref a0), (1, .ref b0)]) hx hb dX2_read_11 rfl hl (by decide) rfl (fun ls hl => ?_)
  obtain ⟨t12, hw12, h⟩ := gdb h
  have X12 : ∀ (H : Heap) (locs : List Loc) (ls : Array Slot), va_P g.1 vwCl (wRG g a0 a1 a2 a3 a4 a5 b0 b1 t12.1 t12.2.1 t12.2.2.1 t12.2.2.2 le ab rw gw gh gl) H → va_D A (wRG g a0 a1 a2 a3 a4 a5 b0 b1 t12.1 t12.2.1 t12.2.2.1 t12.2.2.2 le ab rw gw gh gl) → va_S A s.heap H locs → lv_has ls 3 [] → W p l e ({ frames := 3, cells := 0, slots := 0, locals := 62 }) s m args below meth c H locs 0 0 (MQ below (QM g none (wRG g a0 a1 a2 a3 a4 a5 b0 b1 res.1 res.2.1 res.2.2.1 res.2.2.2 le ab rw gw gh gl) A) args s 0 0 A) (F0 m 93 ls []) := by
    intro H locs ls hP hD hS hl
    obtain rfl := Option.some.inj h
    exact retMv hx hb hr hlocks hP hD hS dX2_read_93
  clear h
  have L12 : ∀ (n : Nat) (s12 : Int32 × Int32 × Int32 × (Nat → Int32) × (Nat → Int32)), wh (fX2_read_12 gl) n s12 = some t12 → ∀ (H : Heap) (locs : List Loc) (ls : Array Slot), va_P g.1 vwCl (wRG g a0 a1 a2 a3 a4 a5 b0 b1 s12.2.1 s12.2.2.1 s12.2.2.2.1 s12.2.2.2.2 le ab rw gw gh gl) H → va_D A (wRG g a0 a1 a2 a3 a4 a5 b0 b1 s12.2.1 s12.2.2.1 s12.2.2.2.1 s12.2.2.2.2 le ab rw gw gh gl) → va_S A s.heap H locs → lv_has ls 3 [(0, .ref a0), (1, .ref b0), (2, .int s12.1)] → W p l e ({ frames := 3, cells := 0, slots := 0, locals := 62 }) s m args below meth c H locs 0 0 (MQ below (QM g none (wRG g a0 a1 a2 a3 a4 a5 b0 b1 res.1 res.2.1 res.2.2.1 res.2.2.2 le ab rw gw gh gl) A) args s 0 0 A) (F0 m 12 ls []) := by
    intro n
    induction n with
    | zero => intro s12 hw; exact (wh_0 hw).elim
    | succ n ih12 =>
      intro s12 hw H locs ls hP hD hS hl
      obtain ⟨r0, h, hr12⟩ := wh_s hw
      refine lv_iload_n hx hb dX2_read_12 rfl (lv_at hl 2 rfl) ?_
      refine lv_bipush (v := 6) hx hb dX2_read_13 (by decide) ?_
      refine lv_icmp_ge (tgt := 93) hx hb dX2_read_15 (by decide) (fun c15 => ?_) (fun c15 => ?_)
      ·
        replace h := gdp h c15
        obtain rfl := Option.some.inj h
        have e0 : (s12.2.1, s12.2.2.1, s12.2.2.2.1, s12.2.2.2.2) = t12 := hr12
        subst e0
        exact X12 _ _ _ hP hD hS (lv_sub hl [] rfl)
      ·
        replace h := gdn h c15
        refine lv_aload_n hx hb dX2_read_18 rfl (lv_at hl 0 rfl) ?_
        refine va_get (D := g.1) (ci := 2) (v := .ref a1) (C := RX2) (T := TX2) (N := 7) hx hb hts iX2 hown hK.1 hP 0 rfl rfl 0 (by decide) f9 (fun _ h9 => h9) rfl dX2_read_19 ?_
        refine lv_iload_n hx hb dX2_read_22 rfl (lv_at hl 2 rfl) ?_
        refine lv_aload_n hx hb dX2_read_23 rfl (lv_at hl 0 rfl) ?_
        refine va_get (D := g.1) (ci := 2) (v := .int s12.2.1) (C := RX2) (T := TX2) (N := 7) hx hb hts iX2 hown hK.1 hP 0 rfl rfl 5 (by decide) f27 (fun _ h9 => h9) rfl dX2_read_24 ?_
        obtain ⟨hi, h⟩ := gdi h
        refine va_iast (D := g.1) hx hb hK.1 hP hD hS 1 0 rfl rfl hi dX2_read_27 (fun H locs hP hD hS => ?_)
        have hP : va_P g.1 vwCl (wRG g a0 a1 a2 a3 a4 a5 b0 b1 s12.2.1 s12.2.2.1 (upd s12.2.2.2.1 (s12.1).toNatClampNeg s12.2.1) s12.2.2.2.2 le ab rw gw gh gl) H := hP
        have hD : va_D A (wRG g a0 a1 a2 a3 a4 a5 b0 b1 s12.2.1 s12.2.2.1 (upd s12.2.2.2.1 (s12.1).toNatClampNeg s12.2.1) s12.2.2.2.2 le ab rw gw gh gl) := hD
        refine lv_aload_n hx hb dX2_read_28 rfl (lv_at hl 1 rfl) ?_
        refine lv_iload_n hx hb dX2_read_29 rfl (lv_at hl 2 rfl) ?_
        obtain ⟨r30, hr30, h⟩ := gdb h
        refine kPV (As := [.int s12.1]) (rest := []) (ci := 0) S (ctX0_sizeOf l g b0 b1 s12.1 gw gh gl r30 hr30) (cwV 1 hts gX2_read_X0_sizeOf rfl rfl rfl (by decide +kernel) ⟨Nat.le_of_ble_eq_true rfl, Nat.le_of_ble_eq_true rfl⟩) hK hP [6, 7] rfl rfl rfl rfl rfl hl.1 rfl (Nat.le_of_ble_eq_true rfl) dX2_read_30 ⟨Nat.zero_le _, Nat.zero_le _⟩ ?_
        refine lv_if_le (tgt := 87) hx hb dX2_read_33 (by decide) (fun c33 => ?_) (fun c33 => ?_)
        ·
          replace h := gdp h c33
          refine lv_iinc (v := (s12.1 + 1)) (lv' := [(2, .int (s12.1 + 1)), (0, .ref a0), (1, .ref b0)]) hx hb dX2_read_87 hl (k := 2) rfl rfl (by decide) rfl (fun ls hl => ?_)
          refine lv_goto (tgt := 12) hx hb dX2_read_90 (by decide) ?_
          obtain rfl := Option.some.inj h
          exact ih12 ((s12.1 + 1), s12.2.1, s12.2.2.1, (upd s12.2.2.2.1 (s12.1).toNatClampNeg s12.2.1), s12.2.2.2.2) hr12 _ _ _ hP hD hS (lv_sub hl [1, 2, 0] rfl)
        ·
          replace h := gdn h c33
          refine lv_aload_n hx hb dX2_read_36 rfl (lv_at hl 0 rfl) ?_
          refine va_get (D := g.1) (ci := 2) (v := .int s12.2.1) (C := RX2) (T := TX2) (N := 7) hx hb hts iX2 hown hK.1 hP 0 rfl rfl 5 (by decide) f27 (fun _ h9 => h9) rfl dX2_read_37 ?_
          refine lv_bipush (v := 6) hx hb dX2_read_40 (by decide) ?_
          refine lv_icmp_ge (tgt := 87) hx hb dX2_read_42 (by decide) (fun c42 => ?_) (fun c42 => ?_)
          ·
            replace h := gdp h c42
            refine lv_iinc (v := (s12.1 + 1)) (lv' := [(2, .int (s12.1 + 1)), (0, .ref a0), (1, .ref b0)]) hx hb dX2_read_87 hl (k := 2) rfl rfl (by decide) rfl (fun ls hl => ?_)
            refine lv_goto (tgt := 12) hx hb dX2_read_90 (by decide) ?_
            obtain rfl := Option.some.inj h
            exact ih12 ((s12.1 + 1), s12.2.1, s12.2.2.1, (upd s12.2.2.2.1 (s12.1).toNatClampNeg s12.2.1), s12.2.2.2.2) hr12 _ _ _ hP hD hS (lv_sub hl [1, 2, 0] rfl)
          ·
            replace h := gdn h c42
            refine lv_aload_n hx hb dX2_read_45 rfl (lv_at hl 0 rfl) ?_
            refine va_get (D := g.1) (ci := 2) (v := .ref a2) (C := RX2) (T := TX2) (N := 7) hx hb hts iX2 hown hK.1 hP 0 rfl rfl 1 (by decide) f15 (fun _ h9 => h9) rfl dX2_read_46 ?_
            refine lv_aload_n hx hb dX2_read_49 rfl (lv_at hl 0 rfl) ?_
            refine va_get (D := g.1) (ci := 2) (v := .int s12.2.1) (C := RX2) (T := TX2) (N := 7) hx hb hts iX2 hown hK.1 hP 0 rfl rfl 5 (by decide) f27 (fun _ h9 => h9) rfl dX2_read_50 ?_
            refine lv_aload_n hx hb dX2_read_53 rfl (lv_at hl 1 rfl) ?_
            refine lv_iload_n hx hb dX2_read_54 rfl (lv_at hl 2 rfl) ?_
            obtain ⟨r55, hr55, h⟩ := gdb h
            refine kPV (As := [.int s12.1]) (rest := [.int s12.2.1, .ref a2]) (ci := 0) S (ctX0_sizeOf l g b0 b1 s12.1 gw gh gl r55 hr55) (cwV 1 hts gX2_read_X0_sizeOf rfl rfl rfl (by decide +kernel) ⟨Nat.le_of_ble_eq_true rfl, Nat.le_of_ble_eq_true rfl⟩) hK hP [6, 7] rfl rfl rfl rfl rfl hl.1 rfl (Nat.le_of_ble_eq_true rfl) dX2_read_55 ⟨Nat.zero_le _, Nat.zero_le _⟩ ?_
            obtain ⟨hi, h⟩ := gdi h
            refine va_iast (D := g.1) hx hb hK.1 hP hD hS 2 0 rfl rfl hi dX2_read_58 (fun H locs hP hD hS => ?_)
            have hP : va_P g.1 vwCl (wRG g a0 a1 a2 a3 a4 a5 b0 b1 s12.2.1 s12.2.2.1 (upd s12.2.2.2.1 (s12.1).toNatClampNeg s12.2.1) (upd s12.2.2.2.2 (s12.2.1).toNatClampNeg r55) le ab rw gw gh gl) H := hP
            have hD : va_D A (wRG g a0 a1 a2 a3 a4 a5 b0 b1 s12.2.1 s12.2.2.1 (upd s12.2.2.2.1 (s12.1).toNatClampNeg s12.2.1) (upd s12.2.2.2.2 (s12.2.1).toNatClampNeg r55) le ab rw gw gh gl) := hD
            refine lv_aload_n hx hb dX2_read_59 rfl (lv_at hl 0 rfl) ?_
            refine lv_dup hx hb dX2_read_60 rfl ?_
            refine va_get (D := g.1) (ci := 2) (v := .int s12.2.2.1) (C := RX2) (T := TX2) (N := 7) hx hb hts iX2 hown hK.1 hP 0 rfl rfl 6 (by decide) f31 (fun _ h9 => h9) rfl dX2_read_61 ?_
            refine lv_aload_n hx hb dX2_read_64 rfl (lv_at hl 0 rfl) ?_
            refine va_get (D := g.1) (ci := 2) (v := .ref a2) (C := RX2) (T := TX2) (N := 7) hx hb hts iX2 hown hK.1 hP 0 rfl rfl 1 (by decide) f15 (fun _ h9 => h9) rfl dX2_read_65 ?_
            refine lv_aload_n hx hb dX2_read_68 rfl (lv_at hl 0 rfl) ?_
            refine va_get (D := g.1) (ci := 2) (v := .int s12.2.1) (C := RX2) (T := TX2) (N := 7) hx hb hts iX2 hown hK.1 hP 0 rfl rfl 5 (by decide) f27 (fun _ h9 => h9) rfl dX2_read_69 ?_
            obtain ⟨hi, h⟩ := gdi h
            refine va_iald (D := g.1) hx hb hK.1 hP 2 0 rfl rfl hi dX2_read_72 ?_
            refine lv_iadd hx hb dX2_read_73 ?_
            refine va_put (D := g.1) (ci := 2) (v := .int (s12.2.2.1 + ((upd s12.2.2.2.2 (s12.2.1).toNatClampNeg r55) (s12.2.1).toNatClampNeg))) (ty := .int) (C := RX2) (T := TX2) (N := 7) hx hb hts iX2 tyX2 tyX2_ok nmX2 hown hK.1 hP hD hS 0 rfl rfl 6 (by decide) f31 (fun _ h9 => h9) rfl (by decide +kernel) rfl rfl (Nat.le_of_ble_eq_true rfl) dX2_read_74 (fun H locs hP hD hS => ?_)
            have hP : va_P g.1 vwCl (wRG g a0 a1 a2 a3 a4 a5 b0 b1 s12.2.1 (s12.2.2.1 + ((upd s12.2.2.2.2 (s12.2.1).toNatClampNeg r55) (s12.2.1).toNatClampNeg)) (upd s12.2.2.2.1 (s12.1).toNatClampNeg s12.2.1) (upd s12.2.2.2.2 (s12.2.1).toNatClampNeg r55) le ab rw gw gh gl) H := hP
            have hD : va_D A (wRG g a0 a1 a2 a3 a4 a5 b0 b1 s12.2.1 (s12.2.2.1 + ((upd s12.2.2.2.2 (s12.2.1).toNatClampNeg r55) (s12.2.1).toNatClampNeg)) (upd s12.2.2.2.1 (s12.1).toNatClampNeg s12.2.1) (upd s12.2.2.2.2 (s12.2.1).toNatClampNeg r55) le ab rw gw gh gl) := hD
            refine lv_aload_n hx hb dX2_read_77 rfl (lv_at hl 0 rfl) ?_
            refine lv_dup hx hb dX2_read_78 rfl ?_
            refine va_get (D := g.1) (ci := 2) (v := .int s12.2.1) (C := RX2) (T := TX2) (N := 7) hx hb hts iX2 hown hK.1 hP 0 rfl rfl 5 (by decide) f27 (fun _ h9 => h9) rfl dX2_read_79 ?_
            refine lv_iconst (v := 1) hx hb dX2_read_82 (by decide) ?_
            refine lv_iadd hx hb dX2_read_83 ?_
            refine va_put (D := g.1) (ci := 2) (v := .int (s12.2.1 + (1 : Int32))) (ty := .int) (C := RX2) (T := TX2) (N := 7) hx hb hts iX2 tyX2 tyX2_ok nmX2 hown hK.1 hP hD hS 0 rfl rfl 5 (by decide) f27 (fun _ h9 => h9) rfl (by decide +kernel) rfl rfl (Nat.le_of_ble_eq_true rfl) dX2_read_84 (fun H locs hP hD hS => ?_)
            have hP : va_P g.1 vwCl (wRG g a0 a1 a2 a3 a4 a5 b0 b1 (s12.2.1 + (1 : Int32)) (s12.2.2.1 + ((upd s12.2.2.2.2 (s12.2.1).toNatClampNeg r55) (s12.2.1).toNatClampNeg)) (upd s12.2.2.2.1 (s12.1).toNatClampNeg s12.2.1) (upd s12.2.2.2.2 (s12.2.1).toNatClampNeg r55) le ab rw gw gh gl) H := hP
            have hD : va_D A (wRG g a0 a1 a2 a3 a4 a5 b0 b1 (s12.2.1 + (1 : Int32)) (s12.2.2.1 + ((upd s12.2.2.2.2 (s12.2.1).toNatClampNeg r55) (s12.2.1).toNatClampNeg)) (upd s12.2.2.2.1 (s12.1).toNatClampNeg s12.2.1) (upd s12.2.2.2.2 (s12.2.1).toNatClampNeg r55) le ab rw gw gh gl) := hD
            refine lv_iinc (v := (s12.1 + 1)) (lv' := [(2, .int (s12.1 + 1)), (0, .ref a0), (1, .ref b0)]) hx hb dX2_read_87 hl (k := 2) rfl rfl (by decide) rfl (fun ls hl => ?_)
            refine lv_goto (tgt := 12) hx hb dX2_read_90 (by decide) ?_
            obtain rfl := Option.some.inj h
            exact ih12 ((s12.1 + 1), (s12.2.1 + (1 : Int32)), (s12.2.2.1 + ((upd s12.2.2.2.2 (s12.2.1).toNatClampNeg r55) (s12.2.1).toNatClampNeg)), (upd s12.2.2.2.1 (s12.1).toNatClampNeg s12.2.1), (upd s12.2.2.2.2 (s12.2.1).toNatClampNeg r55)) hr12 _ _ _ hP hD hS (lv_sub hl [1, 2, 0] rfl)
  exact L12 _ ((0 : Int32), (0 : Int32), (0 : Int32), pl, we) hw12 _ _ _ hP hD hS (lv_sub hl [1, 2, 0] rfl)
-- LandBoard$Rows.layRow
set_option maxHeartbeats 4000000 in
set_option maxRecDepth 100000 in
theorem ctX2_layRow (l : Launch) (g : GG) (a0 a1 a2 a3 a4 a5 : Nat) (x1 : Int32) (x2 : Int32) (x3 : Int32) (bx : Int32) (tt : Int32) (pl : (Nat → Int32)) (we : (Nat → Int32)) (le : (Nat → Int32)) (ab : (Nat → Int32)) (rw : (Nat → Int32)) (res : Int32 × (Nat → Int32) × (Nat → Int32) × (Nat → Int32)) (h : fX2_layRow x1 x2 x3 we le ab rw = some res) : MM l yX2_layRow wsX2_layRow ({ frames := 1, cells := 0, slots := 0, locals := 21 }) g [.ref a0, .int x1, .int x2, .int x3] (wR g a0 a1 a2 a3 a4 a5 bx tt pl we le ab rw) (wR g a0 a1 a2 a3 a4 a5 bx tt pl we res.2.1 res.2.2.1 res.2.2.2) (some (.int res.1)) := by
  refine MM.of (cc := cX2_layRow) (own := RX2) 6 (some .int) (by decide +kernel) rfl (Nat.le_of_ble_eq_true rfl) rfl ?_
  intro p e s m args below meth c hx hb hr hml hown hts hlocks hK A hA ls hl hP hD hS
  have S : CallFix p m c cX2_layRow 6 s args wsX2_layRow RX2 := ⟨hx, hb, hml, hown, hts⟩
  have hl : lv_has ls 6 [(0, .ref a0), (1, .int x1), (2, .int x2), (3, .int x3)] := hl
  have m48_0 := hts (.methodLink RX2 48 Lib.Math.max.name) (by decide +kernel)
  have m48_1 := hts (.static Lib.Math.max.name) (by decide +kernel)
  have m48_2 := hts (.initialized "java/lang/Math") (by decide +kernel)
  have m48_3 := hts (.code Lib.Math.max.name Lib.Math.max.code 2 (some .int)) (by decide +kernel)
  have f24 := hts (.fieldLink RX2 24 "LandBoard$Rows" "rowWeights" "[I") (by decide +kernel)
  have iX2 := (by decide +kernel : ∀ w ∈ u_ws RX2 TX2 7, w ∈ wsX2_layRow)
  have f18 := hts (.fieldLink RX2 18 "LandBoard$Rows" "lefts" "[I") (by decide +kernel)
  have f21 := hts (.fieldLink RX2 21 "LandBoard$Rows" "aboves" "[I") (by decide +kernel)
  have f15 := hts (.fieldLink RX2 15 "LandBoard$Rows" "weights" "[I") (by decide +kernel)
  refine lv_iconst (v := 0) hx hb dX2_layRow_0 (by decide) ?_
  refine lv_istore (lv' := [(4, .int (0 : Int32)), (0, .ref a0), (1, .int x1), (2, .int x2), (3, .int x3)]) hx hb dX2_layRow_1 hl (by decide) rfl (fun ls hl => ?_)
  refine lv_iload_n hx hb dX2_layRow_3 rfl (lv_at hl 2 rfl) ?_
  refine lv_iconst (v := 0) hx hb dX2_layRow_4 (by decide) ?_
  refine va_mmax hx hb (hml.trans hl.1.symm) hown m48_0 m48_1 m48_2 m48_3 (Nat.le_of_ble_eq_true rfl) (Nat.le_of_ble_eq_true rfl) (Nat.zero_le _) (Nat.zero_le _) dX2_layRow_5 ?_
  obtain ⟨v8, ev8, h⟩ := gdl h
  refine topi ev8 ?_
  refine lv_istore (lv' := [(5, .int v8), (4, .int (0 : Int32)), (0, .ref a0), (1, .int x1), (2, .int x2), (3, .int x3)]) hx hb dX2_layRow_8 hl (by decide) rfl (fun ls hl => ?_)
  obtain ⟨t10, hw10, h⟩ := gdb h
  have X10 : ∀ (H : Heap) (locs : List Loc) (ls : Array Slot), va_P g.1 vwCl (wR g a0 a1 a2 a3 a4 a5 bx tt pl we t10.2.1 t10.2.2 rw) H → va_D A (wR g a0 a1 a2 a3 a4 a5 bx tt pl we t10.2.1 t10.2.2 rw) → va_S A s.heap H locs → lv_has ls 6 [(0, .ref a0), (1, .int x1), (2, .int x2), (4, .int t10.1)] → W p l e ({ frames := 1, cells := 0, slots := 0, locals := 21 }) s m args below meth c H locs 0 0 (MQ below (QM g (some (.int res.1)) (wR g a0 a1 a2 a3 a4 a5 bx tt pl we res.2.1 res.2.2.1 res.2.2.2) A) args s 0 0 A) (F0 m 58 ls []) := by
    intro H locs ls hP hD hS hl
    refine lv_iload_n hx hb dX2_layRow_58 rfl (lv_at hl 1 rfl) ?_
    refine lv_iconst (v := 0) hx hb dX2_layRow_59 (by decide) ?_
    refine va_mmax hx hb (hml.trans hl.1.symm) hown m48_0 m48_1 m48_2 m48_3 (Nat.le_of_ble_eq_true rfl) (Nat.le_of_ble_eq_true rfl) (Nat.zero_le _) (Nat.zero_le _) dX2_layRow_60 ?_
    obtain ⟨v63, ev63, h⟩ := gdl h
    refine topi ev63 ?_
    refine lv_istore (lv' := [(5, .int v63), (0, .ref a0), (1, .int x1), (2, .int x2), (4, .int t10.1)]) hx hb dX2_layRow_63 hl (by decide) rfl (fun ls hl => ?_)
    obtain ⟨t65, hw65, h⟩ := gdb h
    have X65 : ∀ (H : Heap) (locs : List Loc) (ls : Array Slot), va_P g.1 vwCl (wR g a0 a1 a2 a3 a4 a5 bx tt pl we t10.2.1 t10.2.2 t65) H → va_D A (wR g a0 a1 a2 a3 a4 a5 bx tt pl we t10.2.1 t10.2.2 t65) → va_S A s.heap H locs → lv_has ls 6 [(4, .int t10.1)] → W p l e ({ frames := 1, cells := 0, slots := 0, locals := 21 }) s m args below meth c H locs 0 0 (MQ below (QM g (some (.int res.1)) (wR g a0 a1 a2 a3 a4 a5 bx tt pl we res.2.1 res.2.2.1 res.2.2.2) A) args s 0 0 A) (F0 m 93 ls []) := by
      intro H locs ls hP hD hS hl
      refine lv_iload hx hb dX2_layRow_93 (lv_at hl 0 rfl) ?_
      obtain rfl := Option.some.inj h
      exact retMi hx hb hr hlocks hP hD hS dX2_layRow_95
    clear h
    have L65 : ∀ (n : Nat) (s65 : Int32 × (Nat → Int32)), wh (fX2_layRow_65 x2 t10) n s65 = some t65 → ∀ (H : Heap) (locs : List Loc) (ls : Array Slot), va_P g.1 vwCl (wR g a0 a1 a2 a3 a4 a5 bx tt pl we t10.2.1 t10.2.2 s65.2) H → va_D A (wR g a0 a1 a2 a3 a4 a5 bx tt pl we t10.2.1 t10.2.2 s65.2) → va_S A s.heap H locs → lv_has ls 6 [(0, .ref a0), (2, .int x2), (4, .int t10.1), (5, .int s65.1)] → W p l e ({ frames := 1, cells := 0, slots := 0, locals := 21 }) s m args below meth c H locs 0 0 (MQ below (QM g (some (.int res.1)) (wR g a0 a1 a2 a3 a4 a5 bx tt pl we res.2.1 res.2.2.1 res.2.2.2) A) args s 0 0 A) (F0 m 65 ls []) := by
      intro n
      induction n with
      | zero => intro s65 hw; exact (wh_0 hw).elim
      | succ n ih65 =>
        intro s65 hw H locs ls hP hD hS hl
        obtain ⟨r0, h, hr65⟩ := wh_s hw
        refine lv_iload hx hb dX2_layRow_65 (lv_at hl 3 rfl) ?_
        refine lv_iload_n hx hb dX2_layRow_67 rfl (lv_at hl 1 rfl) ?_
        refine lv_icmp_gt (tgt := 93) hx hb dX2_layRow_68 (by decide) (fun c68 => ?_) (fun c68 => ?_)
        ·
          replace h := gdp h c68
          obtain rfl := Option.some.inj h
          have e0 : s65.2 = t65 := hr65
          subst e0
          exact X65 _ _ _ hP hD hS (lv_sub hl [2] rfl)
        ·
          replace h := gdn h c68
          refine lv_iload hx hb dX2_layRow_71 (lv_at hl 3 rfl) ?_
          refine lv_bipush (v := 6) hx hb dX2_layRow_73 (by decide) ?_
          refine lv_icmp_ge (tgt := 93) hx hb dX2_layRow_75 (by decide) (fun c75 => ?_) (fun c75 => ?_)
          ·
            replace h := gdp h c75
            obtain rfl := Option.some.inj h
            have e0 : s65.2 = t65 := hr65
            subst e0
            exact X65 _ _ _ hP hD hS (lv_sub hl [2] rfl)
          ·
            replace h := gdn h c75
            refine lv_aload_n hx hb dX2_layRow_78 rfl (lv_at hl 0 rfl) ?_
            refine va_get (D := g.1) (ci := 2) (v := .ref a5) (C := RX2) (T := TX2) (N := 7) hx hb hts iX2 hown hK.1 hP 0 rfl rfl 4 (by decide) f24 (fun _ h9 => h9) rfl dX2_layRow_79 ?_
            refine lv_iload hx hb dX2_layRow_82 (lv_at hl 3 rfl) ?_
            refine lv_iload hx hb dX2_layRow_84 (lv_at hl 2 rfl) ?_
            obtain ⟨hi, h⟩ := gdi h
            refine va_iast (D := g.1) hx hb hK.1 hP hD hS 5 0 rfl rfl hi dX2_layRow_86 (fun H locs hP hD hS => ?_)
            have hP : va_P g.1 vwCl (wR g a0 a1 a2 a3 a4 a5 bx tt pl we t10.2.1 t10.2.2 (upd s65.2 (s65.1).toNatClampNeg t10.1)) H := hP
            have hD : va_D A (wR g a0 a1 a2 a3 a4 a5 bx tt pl we t10.2.1 t10.2.2 (upd s65.2 (s65.1).toNatClampNeg t10.1)) := hD
            refine lv_iinc (v := (s65.1 + 1)) (lv' := [(5, .int (s65.1 + 1)), (0, .ref a0), (2, .int x2), (4, .int t10.1)]) hx hb dX2_layRow_87 hl (k := 3) rfl rfl (by decide) rfl (fun ls hl => ?_)
            refine lv_goto (tgt := 65) hx hb dX2_layRow_90 (by decide) ?_
            obtain rfl := Option.some.inj h
            exact ih65 ((s65.1 + 1), (upd s65.2 (s65.1).toNatClampNeg t10.1)) hr65 _ _ _ hP hD hS (lv_sub hl [1, 2, 3, 0] rfl)
    exact L65 _ (v63, rw) hw65 _ _ _ hP hD hS (lv_sub hl [1, 3, 4, 0] rfl)
  clear h
  have L10 : ∀ (n : Nat) (s10 : Int32 × Int32 × (Nat → Int32) × (Nat → Int32)), wh (fX2_layRow_10 x2 x3 we) n s10 = some t10 → ∀ (H : Heap) (locs : List Loc) (ls : Array Slot), va_P g.1 vwCl (wR g a0 a1 a2 a3 a4 a5 bx tt pl we s10.2.2.1 s10.2.2.2 rw) H → va_D A (wR g a0 a1 a2 a3 a4 a5 bx tt pl we s10.2.2.1 s10.2.2.2 rw) → va_S A s.heap H locs → lv_has ls 6 [(0, .ref a0), (1, .int x1), (2, .int x2), (3, .int x3), (4, .int s10.1), (5, .int s10.2.1)] → W p l e ({ frames := 1, cells := 0, slots := 0, locals := 21 }) s m args below meth c H locs 0 0 (MQ below (QM g (some (.int res.1)) (wR g a0 a1 a2 a3 a4 a5 bx tt pl we res.2.1 res.2.2.1 res.2.2.2) A) args s 0 0 A) (F0 m 10 ls []) := by
    intro n
    induction n with
    | zero => intro s10 hw; exact (wh_0 hw).elim
    | succ n ih10 =>
      intro s10 hw H locs ls hP hD hS hl
      obtain ⟨r0, h, hr10⟩ := wh_s hw
      refine lv_iload hx hb dX2_layRow_10 (lv_at hl 5 rfl) ?_
      refine lv_iload_n hx hb dX2_layRow_12 rfl (lv_at hl 2 rfl) ?_
      refine lv_icmp_gt (tgt := 58) hx hb dX2_layRow_13 (by decide) (fun c13 => ?_) (fun c13 => ?_)
      ·
        replace h := gdp h c13
        obtain rfl := Option.some.inj h
        have e0 : (s10.1, s10.2.2.1, s10.2.2.2) = t10 := hr10
        subst e0
        exact X10 _ _ _ hP hD hS (lv_sub hl [0, 1, 2, 4] rfl)
      ·
        replace h := gdn h c13
        refine lv_iload hx hb dX2_layRow_16 (lv_at hl 5 rfl) ?_
        refine lv_bipush (v := 6) hx hb dX2_layRow_18 (by decide) ?_
        refine lv_icmp_ge (tgt := 58) hx hb dX2_layRow_20 (by decide) (fun c20 => ?_) (fun c20 => ?_)
        ·
          replace h := gdp h c20
          obtain rfl := Option.some.inj h
          have e0 : (s10.1, s10.2.2.1, s10.2.2.2) = t10 := hr10
          subst e0
          exact X10 _ _ _ hP hD hS (lv_sub hl [0, 1, 2, 4] rfl)
        ·
          replace h := gdn h c20
          refine lv_aload_n hx hb dX2_layRow_23 rfl (lv_at hl 0 rfl) ?_
          refine va_get (D := g.1) (ci := 2) (v := .ref a3) (C := RX2) (T := TX2) (N := 7) hx hb hts iX2 hown hK.1 hP 0 rfl rfl 2 (by decide) f18 (fun _ h9 => h9) rfl dX2_layRow_24 ?_
          refine lv_iload hx hb dX2_layRow_27 (lv_at hl 5 rfl) ?_
          refine lv_iload hx hb dX2_layRow_29 (lv_at hl 4 rfl) ?_
          obtain ⟨hi, h⟩ := gdi h
          refine va_iast (D := g.1) hx hb hK.1 hP hD hS 3 0 rfl rfl hi dX2_layRow_31 (fun H locs hP hD hS => ?_)
          have hP : va_P g.1 vwCl (wR g a0 a1 a2 a3 a4 a5 bx tt pl we (upd s10.2.2.1 (s10.2.1).toNatClampNeg s10.1) s10.2.2.2 rw) H := hP
          have hD : va_D A (wR g a0 a1 a2 a3 a4 a5 bx tt pl we (upd s10.2.2.1 (s10.2.1).toNatClampNeg s10.1) s10.2.2.2 rw) := hD
          refine lv_aload_n hx hb dX2_layRow_32 rfl (lv_at hl 0 rfl) ?_
          refine va_get (D := g.1) (ci := 2) (v := .ref a4) (C := RX2) (T := TX2) (N := 7) hx hb hts iX2 hown hK.1 hP 0 rfl rfl 3 (by decide) f21 (fun _ h9 => h9) rfl dX2_layRow_33 ?_
          refine lv_iload hx hb dX2_layRow_36 (lv_at hl 5 rfl) ?_
          refine lv_iload_n hx hb dX2_layRow_38 rfl (lv_at hl 3 rfl) ?_
          obtain ⟨hi, h⟩ := gdi h
          refine va_iast (D := g.1) hx hb hK.1 hP hD hS 4 0 rfl rfl hi dX2_layRow_39 (fun H locs hP hD hS => ?_)
          have hP : va_P g.1 vwCl (wR g a0 a1 a2 a3 a4 a5 bx tt pl we (upd s10.2.2.1 (s10.2.1).toNatClampNeg s10.1) (upd s10.2.2.2 (s10.2.1).toNatClampNeg x3) rw) H := hP
          have hD : va_D A (wR g a0 a1 a2 a3 a4 a5 bx tt pl we (upd s10.2.2.1 (s10.2.1).toNatClampNeg s10.1) (upd s10.2.2.2 (s10.2.1).toNatClampNeg x3) rw) := hD
          refine lv_iload hx hb dX2_layRow_40 (lv_at hl 4 rfl) ?_
          refine lv_aload_n hx hb dX2_layRow_42 rfl (lv_at hl 0 rfl) ?_
          refine va_get (D := g.1) (ci := 2) (v := .ref a2) (C := RX2) (T := TX2) (N := 7) hx hb hts iX2 hown hK.1 hP 0 rfl rfl 1 (by decide) f15 (fun _ h9 => h9) rfl dX2_layRow_43 ?_
          refine lv_iload hx hb dX2_layRow_46 (lv_at hl 5 rfl) ?_
          obtain ⟨hi, h⟩ := gdi h
          refine va_iald (D := g.1) hx hb hK.1 hP 2 0 rfl rfl hi dX2_layRow_48 ?_
          refine lv_iadd hx hb dX2_layRow_49 ?_
          refine lv_istore (lv' := [(4, .int (s10.1 + (we (s10.2.1).toNatClampNeg))), (0, .ref a0), (1, .int x1), (2, .int x2), (3, .int x3), (5, .int s10.2.1)]) hx hb dX2_layRow_50 hl (by decide) rfl (fun ls hl => ?_)
          refine lv_iinc (v := (s10.2.1 + 1)) (lv' := [(5, .int (s10.2.1 + 1)), (4, .int (s10.1 + (we (s10.2.1).toNatClampNeg))), (0, .ref a0), (1, .int x1), (2, .int x2), (3, .int x3)]) hx hb dX2_layRow_52 hl (k := 5) rfl rfl (by decide) rfl (fun ls hl => ?_)
          refine lv_goto (tgt := 10) hx hb dX2_layRow_55 (by decide) ?_
          obtain rfl := Option.some.inj h
          exact ih10 ((s10.1 + (we (s10.2.1).toNatClampNeg)), (s10.2.1 + 1), (upd s10.2.2.1 (s10.2.1).toNatClampNeg s10.1), (upd s10.2.2.2 (s10.2.1).toNatClampNeg x3)) hr10 _ _ _ hP hD hS (lv_sub hl [2, 3, 4, 5, 1, 0] rfl)
  exact L10 _ ((0 : Int32), v8, le, ab) hw10 _ _ _ hP hD hS (lv_sub hl [2, 3, 4, 5, 1, 0] rfl)
-- LandBoard$Rows.lay
set_option maxHeartbeats 4000000 in
set_option maxRecDepth 100000 in
theorem ctX2_lay (l : Launch) (g : GG) (a0 a1 a2 a3 a4 a5 : Nat) (x1 : Int32) (bx : Int32) (tt : Int32) (pl : (Nat → Int32)) (we : (Nat → Int32)) (le : (Nat → Int32)) (ab : (Nat → Int32)) (rw : (Nat → Int32)) (res : (Nat → Int32) × (Nat → Int32) × (Nat → Int32)) (h : fX2_lay x1 bx we le ab rw = some res) : MM l yX2_lay wsX2_lay ({ frames := 2, cells := 0, slots := 0, locals := 46 }) g [.ref a0, .int x1] (wR g a0 a1 a2 a3 a4 a5 bx tt pl we le ab rw) (wR g a0 a1 a2 a3 a4 a5 bx tt pl we res.1 res.2.1 res.2.2) none := by
  refine MM.of (cc := cX2_lay) (own := RX2) 5 none (by decide +kernel) rfl (Nat.le_of_ble_eq_true rfl) rfl ?_
  intro p e s m args below meth c hx hb hr hml hown hts hlocks hK A hA ls hl hP hD hS
  have S : CallFix p m c cX2_lay 5 s args wsX2_lay RX2 := ⟨hx, hb, hml, hown, hts⟩
  have hl : lv_has ls 5 [(0, .ref a0), (1, .int x1)] := hl
  have f27 := hts (.fieldLink RX2 27 "LandBoard$Rows" "boxes" "I") (by decide +kernel)
  have iX2 := (by decide +kernel : ∀ w ∈ u_ws RX2 TX2 7, w ∈ wsX2_lay)
  refine lv_iconst (v := 0) hx hb dX2_lay_0 (by decide) ?_
  refine lv_istore_n (lv' := [(2, .int (0 : Int32)), (0, .ref a0), (1, .int x1)]) hx hb dX2_lay_1 rfl hl (by decide) rfl (fun ls hl => ?_)
  refine lv_iconst (v := 0) hx hb dX2_lay_2 (by decide) ?_
  refine lv_istore_n (lv' := [(3, .int (0 : Int32)), (2, .int (0 : Int32)), (0, .ref a0), (1, .int x1)]) hx hb dX2_lay_3 rfl hl (by decide) rfl (fun ls hl => ?_)
  refine lv_iconst (v := 0) hx hb dX2_lay_4 (by decide) ?_
  refine lv_istore (lv' := [(4, .int (0 : Int32)), (3, .int (0 : Int32)), (2, .int (0 : Int32)), (0, .ref a0), (1, .int x1)]) hx hb dX2_lay_5 hl (by decide) rfl (fun ls hl => ?_)
  obtain ⟨t7, hw7, h⟩ := gdb h
  have X7 : ∀ (H : Heap) (locs : List Loc) (ls : Array Slot), va_P g.1 vwCl (wR g a0 a1 a2 a3 a4 a5 bx tt pl we t7.1 t7.2.1 t7.2.2) H → va_D A (wR g a0 a1 a2 a3 a4 a5 bx tt pl we t7.1 t7.2.1 t7.2.2) → va_S A s.heap H locs → lv_has ls 5 [] → W p l e ({ frames := 2, cells := 0, slots := 0, locals := 46 }) s m args below meth c H locs 0 0 (MQ below (QM g none (wR g a0 a1 a2 a3 a4 a5 bx tt pl we res.1 res.2.1 res.2.2) A) args s 0 0 A) (F0 m 58 ls []) := by
    intro H locs ls hP hD hS hl
    obtain rfl := Option.some.inj h
    exact retMv hx hb hr hlocks hP hD hS dX2_lay_58
  clear h
  have L7 : ∀ (n : Nat) (s7 : Int32 × Int32 × Int32 × (Nat → Int32) × (Nat → Int32) × (Nat → Int32)), wh (fX2_lay_7 x1 bx we) n s7 = some t7 → ∀ (H : Heap) (locs : List Loc) (ls : Array Slot), va_P g.1 vwCl (wR g a0 a1 a2 a3 a4 a5 bx tt pl we s7.2.2.2.1 s7.2.2.2.2.1 s7.2.2.2.2.2) H → va_D A (wR g a0 a1 a2 a3 a4 a5 bx tt pl we s7.2.2.2.1 s7.2.2.2.2.1 s7.2.2.2.2.2) → va_S A s.heap H locs → lv_has ls 5 [(0, .ref a0), (1, .int x1), (2, .int s7.1), (3, .int s7.2.1), (4, .int s7.2.2.1)] → W p l e ({ frames := 2, cells := 0, slots := 0, locals := 46 }) s m args below meth c H locs 0 0 (MQ below (QM g none (wR g a0 a1 a2 a3 a4 a5 bx tt pl we res.1 res.2.1 res.2.2) A) args s 0 0 A) (F0 m 7 ls []) := by
    intro n
    induction n with
    | zero => intro s7 hw; exact (wh_0 hw).elim
    | succ n ih7 =>
      intro s7 hw H locs ls hP hD hS hl
      obtain ⟨r0, h, hr7⟩ := wh_s hw
      refine lv_iload hx hb dX2_lay_7 (lv_at hl 4 rfl) ?_
      refine lv_aload_n hx hb dX2_lay_9 rfl (lv_at hl 0 rfl) ?_
      refine va_get (D := g.1) (ci := 2) (v := .int bx) (C := RX2) (T := TX2) (N := 7) hx hb hts iX2 hown hK.1 hP 0 rfl rfl 5 (by decide) f27 (fun _ h9 => h9) rfl dX2_lay_10 ?_
      refine lv_icmp_ge (tgt := 58) hx hb dX2_lay_13 (by decide) (fun c13 => ?_) (fun c13 => ?_)
      ·
        replace h := gdp h c13
        obtain rfl := Option.some.inj h
        have e0 : (s7.2.2.2.1, s7.2.2.2.2.1, s7.2.2.2.2.2) = t7 := hr7
        subst e0
        exact X7 _ _ _ hP hD hS (lv_sub hl [] rfl)
      ·
        replace h := gdn h c13
        refine lv_iload hx hb dX2_lay_16 (lv_at hl 4 rfl) ?_
        refine lv_aload_n hx hb dX2_lay_18 rfl (lv_at hl 0 rfl) ?_
        refine va_get (D := g.1) (ci := 2) (v := .int bx) (C := RX2) (T := TX2) (N := 7) hx hb hts iX2 hown hK.1 hP 0 rfl rfl 5 (by decide) f27 (fun _ h9 => h9) rfl dX2_lay_19 ?_
        refine lv_iconst (v := 1) hx hb dX2_lay_22 (by decide) ?_
        refine lv_isub hx hb dX2_lay_23 ?_
        refine lv_icmp_eq (tgt := 36) hx hb dX2_lay_24 (by decide) (fun c24 => ?_) (fun c24 => ?_)
        ·
          replace h := gdp h c24
          refine lv_iload_n hx hb dX2_lay_36 rfl (lv_at hl 3 rfl) ?_
          refine lv_aload_n hx hb dX2_lay_37 rfl (lv_at hl 0 rfl) ?_
          refine lv_iload_n hx hb dX2_lay_38 rfl (lv_at hl 2 rfl) ?_
          refine lv_iload hx hb dX2_lay_39 (lv_at hl 4 rfl) ?_
          refine lv_iload_n hx hb dX2_lay_41 rfl (lv_at hl 3 rfl) ?_
          obtain ⟨r42, hr42, h⟩ := gdb h
          refine kMV (As := [.int s7.1, .int s7.2.2.1, .int s7.2.1]) (rest := [.int s7.2.1]) (ci := 2) (W1 := (wR g a0 a1 a2 a3 a4 a5 bx tt pl we r42.2.1 r42.2.2.1 r42.2.2.2)) (wr := []) S (ctX2_layRow l g a0 a1 a2 a3 a4 a5 s7.1 s7.2.2.1 s7.2.1 bx tt pl we s7.2.2.2.1 s7.2.2.2.2.1 s7.2.2.2.2.2 r42 hr42) (cwV 3 hts gX2_lay_X2_layRow rfl rfl rfl (by decide +kernel) ⟨Nat.le_of_ble_eq_true rfl, Nat.le_of_ble_eq_true rfl⟩) hK hP hD hS hA [0, 1, 2, 3, 4, 5] [] [0, 1, 2, 3, 4, 5] rfl rfl rfl rfl (by decide) rfl rfl rfl rfl rfl rfl hl.1 rfl (Nat.le_of_ble_eq_true rfl) dX2_lay_42 ⟨Nat.zero_le _, Nat.zero_le _⟩ (fun H locs hP hD hS => ?_)
          show W p l e ({ frames := 2, cells := 0, slots := 0, locals := 46 }) s m args below meth c H locs 0 0 (MQ below (QM g none (wR g a0 a1 a2 a3 a4 a5 bx tt pl we res.1 res.2.1 res.2.2) A) args s 0 0 A) (F0 m 45 ls [.int r42.1, .int s7.2.1])
          refine lv_iadd hx hb dX2_lay_45 ?_
          refine lv_istore_n (lv' := [(3, .int (s7.2.1 + r42.1)), (0, .ref a0), (1, .int x1), (2, .int s7.1), (4, .int s7.2.2.1)]) hx hb dX2_lay_46 rfl hl (by decide) rfl (fun ls hl => ?_)
          refine lv_iload hx hb dX2_lay_47 (lv_at hl 4 rfl) ?_
          refine lv_iconst (v := 1) hx hb dX2_lay_49 (by decide) ?_
          refine lv_iadd hx hb dX2_lay_50 ?_
          refine lv_istore_n (lv' := [(2, .int (s7.2.2.1 + (1 : Int32))), (3, .int (s7.2.1 + r42.1)), (0, .ref a0), (1, .int x1), (4, .int s7.2.2.1)]) hx hb dX2_lay_51 rfl hl (by decide) rfl (fun ls hl => ?_)
          refine lv_iinc (v := (s7.2.2.1 + 1)) (lv' := [(4, .int (s7.2.2.1 + 1)), (2, .int (s7.2.2.1 + (1 : Int32))), (3, .int (s7.2.1 + r42.1)), (0, .ref a0), (1, .int x1)]) hx hb dX2_lay_52 hl (k := 4) rfl rfl (by decide) rfl (fun ls hl => ?_)
          refine lv_goto (tgt := 7) hx hb dX2_lay_55 (by decide) ?_
          obtain rfl := Option.some.inj h
          exact ih7 ((s7.2.2.1 + (1 : Int32)), (s7.2.1 + r42.1), (s7.2.2.1 + 1), r42.2.1, r42.2.2.1, r42.2.2.2) hr7 _ _ _ hP hD hS (lv_sub hl [3, 4, 1, 2, 0] rfl)
        ·
          replace h := gdn h c24
          refine lv_iload_n hx hb dX2_lay_27 rfl (lv_at hl 1 rfl) ?_
          refine lv_iload hx hb dX2_lay_28 (lv_at hl 4 rfl) ?_
          refine lv_ishr hx hb dX2_lay_30 ?_
          refine lv_iconst (v := 1) hx hb dX2_lay_31 (by decide) ?_
          refine lv_iand hx hb dX2_lay_32 ?_
          refine lv_if_eq (tgt := 52) hx hb dX2_lay_33 (by decide) (fun c33 => ?_) (fun c33 => ?_)
          ·
            replace h := gdp h c33
            refine lv_iinc (v := (s7.2.2.1 + 1)) (lv' := [(4, .int (s7.2.2.1 + 1)), (0, .ref a0), (1, .int x1), (2, .int s7.1), (3, .int s7.2.1)]) hx hb dX2_lay_52 hl (k := 4) rfl rfl (by decide) rfl (fun ls hl => ?_)
            refine lv_goto (tgt := 7) hx hb dX2_lay_55 (by decide) ?_
            obtain rfl := Option.some.inj h
            exact ih7 (s7.1, s7.2.1, (s7.2.2.1 + 1), s7.2.2.2.1, s7.2.2.2.2.1, s7.2.2.2.2.2) hr7 _ _ _ hP hD hS (lv_sub hl [1, 2, 3, 4, 0] rfl)
          ·
            replace h := gdn h c33
            refine lv_iload_n hx hb dX2_lay_36 rfl (lv_at hl 3 rfl) ?_
            refine lv_aload_n hx hb dX2_lay_37 rfl (lv_at hl 0 rfl) ?_
            refine lv_iload_n hx hb dX2_lay_38 rfl (lv_at hl 2 rfl) ?_
            refine lv_iload hx hb dX2_lay_39 (lv_at hl 4 rfl) ?_
            refine lv_iload_n hx hb dX2_lay_41 rfl (lv_at hl 3 rfl) ?_
            obtain ⟨r42, hr42, h⟩ := gdb h
            refine kMV (As := [.int s7.1, .int s7.2.2.1, .int s7.2.1]) (rest := [.int s7.2.1]) (ci := 2) (W1 := (wR g a0 a1 a2 a3 a4 a5 bx tt pl we r42.2.1 r42.2.2.1 r42.2.2.2)) (wr := []) S (ctX2_layRow l g a0 a1 a2 a3 a4 a5 s7.1 s7.2.2.1 s7.2.1 bx tt pl we s7.2.2.2.1 s7.2.2.2.2.1 s7.2.2.2.2.2 r42 hr42) (cwV 3 hts gX2_lay_X2_layRow rfl rfl rfl (by decide +kernel) ⟨Nat.le_of_ble_eq_true rfl, Nat.le_of_ble_eq_true rfl⟩) hK hP hD hS hA [0, 1, 2, 3, 4, 5] [] [0, 1, 2, 3, 4, 5] rfl rfl rfl rfl (by decide) rfl rfl rfl rfl rfl rfl hl.1 rfl (Nat.le_of_ble_eq_true rfl) dX2_lay_42 ⟨Nat.zero_le _, Nat.zero_le _⟩ (fun H locs hP hD hS => ?_)
            show W p l e ({ frames := 2, cells := 0, slots := 0, locals := 46 }) s m args below meth c H locs 0 0 (MQ below (QM g none (wR g a0 a1 a2 a3 a4 a5 bx tt pl we res.1 res.2.1 res.2.2) A) args s 0 0 A) (F0 m 45 ls [.int r42.1, .int s7.2.1])
            refine lv_iadd hx hb dX2_lay_45 ?_
            refine lv_istore_n (lv' := [(3, .int (s7.2.1 + r42.1)), (0, .ref a0), (1, .int x1), (2, .int s7.1), (4, .int s7.2.2.1)]) hx hb dX2_lay_46 rfl hl (by decide) rfl (fun ls hl => ?_)
            refine lv_iload hx hb dX2_lay_47 (lv_at hl 4 rfl) ?_
            refine lv_iconst (v := 1) hx hb dX2_lay_49 (by decide) ?_
            refine lv_iadd hx hb dX2_lay_50 ?_
            refine lv_istore_n (lv' := [(2, .int (s7.2.2.1 + (1 : Int32))), (3, .int (s7.2.1 + r42.1)), (0, .ref a0), (1, .int x1), (4, .int s7.2.2.1)]) hx hb dX2_lay_51 rfl hl (by decide) rfl (fun ls hl => ?_)
            refine lv_iinc (v := (s7.2.2.1 + 1)) (lv' := [(4, .int (s7.2.2.1 + 1)), (2, .int (s7.2.2.1 + (1 : Int32))), (3, .int (s7.2.1 + r42.1)), (0, .ref a0), (1, .int x1)]) hx hb dX2_lay_52 hl (k := 4) rfl rfl (by decide) rfl (fun ls hl => ?_)
            refine lv_goto (tgt := 7) hx hb dX2_lay_55 (by decide) ?_
            obtain rfl := Option.some.inj h
            exact ih7 ((s7.2.2.1 + (1 : Int32)), (s7.2.1 + r42.1), (s7.2.2.1 + 1), r42.2.1, r42.2.2.1, r42.2.2.2) hr7 _ _ _ hP hD hS (lv_sub hl [3, 4, 1, 2, 0] rfl)
  exact L7 _ ((0 : Int32), (0 : Int32), (0 : Int32), le, ab, rw) hw7 _ _ _ hP hD hS (lv_sub hl [3, 4, 2, 1, 0] rfl)
-- LandBoard$Rows.placeOf
set_option maxHeartbeats 4000000 in
set_option maxRecDepth 100000 in
theorem ctX2_placeOf (l : Launch) (g : GG) (a0 a1 a2 a3 a4 a5 : Nat) (x1 : Int32) (bx : Int32) (tt : Int32) (pl : (Nat → Int32)) (we : (Nat → Int32)) (le : (Nat → Int32)) (ab : (Nat → Int32)) (rw : (Nat → Int32)) (res : Int32) (h : fX2_placeOf x1 pl = some res) : MP l yX2_placeOf wsX2_placeOf ({ frames := 1, cells := 0, slots := 0, locals := 20 }) g [.ref a0, .int x1] (wR g a0 a1 a2 a3 a4 a5 bx tt pl we le ab rw) (.int res) := by
  refine MP.of (cc := cX2_placeOf) (own := RX2) 2 (some .int) (by decide +kernel) rfl (Nat.le_of_ble_eq_true rfl) rfl ?_
  intro p e s m args below meth c hx hb hr hml hown hts hlocks hP hK ls hl
  have S : CallFix p m c cX2_placeOf 2 s args wsX2_placeOf RX2 := ⟨hx, hb, hml, hown, hts⟩
  have hl : lv_has ls 2 [(0, .ref a0), (1, .int x1)] := hl
  have n40_i := hts (.initialized RX3) (by decide +kernel)
  have n40_s := hts (.static yX3_isLand) (by decide +kernel)
  have f9 := hts (.fieldLink RX2 9 "LandBoard$Rows" "places" "[I") (by decide +kernel)
  have iX2 := (by decide +kernel : ∀ w ∈ u_ws RX2 TX2 7, w ∈ wsX2_placeOf)
  refine lv_iload_n hx hb dX2_placeOf_0 rfl (lv_at hl 1 rfl) ?_
  refine kPN (As := [.int x1]) (rest := []) S (ctX3_isLand l g x1  (fX3_isLand x1) rfl) ⟨va_cnB 1 hts gX2_placeOf_X3_isLand_n40 rfl rfl rfl hK.2.2.2.2.2.2.2.1 n40_i (by decide +kernel) ⟨Nat.le_of_ble_eq_true rfl, Nat.le_of_ble_eq_true rfl⟩, n40_s, trivial⟩ hK rfl rfl hl.1 rfl (Nat.le_of_ble_eq_true rfl) dX2_placeOf_1 ⟨Nat.zero_le _, Nat.zero_le _⟩ ?_
  refine lv_if_eq (tgt := 16) hx hb dX2_placeOf_4 (by decide) (fun c4 => ?_) (fun c4 => ?_)
  ·
    replace h := gdp h c4
    refine lv_iconst (v := 0) hx hb dX2_placeOf_16 (by decide) ?_
    obtain rfl := Option.some.inj h
    exact retPi (v := (0 : Int32)) hx hb hr hlocks dX2_placeOf_17
  ·
    replace h := gdn h c4
    refine lv_aload_n hx hb dX2_placeOf_7 rfl (lv_at hl 0 rfl) ?_
    refine va_get (D := g.1) (ci := 2) (v := .ref a1) (C := RX2) (T := TX2) (N := 7) hx hb hts iX2 hown hK.1 hP 0 rfl rfl 0 (by decide) f9 (fun _ h9 => h9) rfl dX2_placeOf_8 ?_
    refine lv_iload_n hx hb dX2_placeOf_11 rfl (lv_at hl 1 rfl) ?_
    obtain ⟨hi, h⟩ := gdi h
    refine va_iald (D := g.1) hx hb hK.1 hP 1 0 rfl rfl hi dX2_placeOf_12 ?_
    refine lv_goto (tgt := 17) hx hb dX2_placeOf_13 (by decide) ?_
    obtain rfl := Option.some.inj h
    exact retPi hx hb hr hlocks dX2_placeOf_17
-- LandBoard$Rows.scaledHeight
set_option maxHeartbeats 4000000 in
set_option maxRecDepth 100000 in
theorem ctX2_scaledHeight (l : Launch) (g : GG) (a0 a1 a2 a3 a4 a5 : Nat) (x1 : Int32) (bx : Int32) (tt : Int32) (pl : (Nat → Int32)) (we : (Nat → Int32)) (le : (Nat → Int32)) (ab : (Nat → Int32)) (rw : (Nat → Int32)) (res : Int32) (h : fX2_scaledHeight x1 rw = some res) : MP l yX2_scaledHeight wsX2_scaledHeight ({ frames := 0, cells := 0, slots := 0, locals := 0 }) g [.ref a0, .int x1] (wR g a0 a1 a2 a3 a4 a5 bx tt pl we le ab rw) (.int res) := by
  refine MP.of (cc := cX2_scaledHeight) (own := RX2) 2 (some .int) (by decide +kernel) rfl (Nat.le_of_ble_eq_true rfl) rfl ?_
  intro p e s m args below meth c hx hb hr hml hown hts hlocks hP hK ls hl
  have S : CallFix p m c cX2_scaledHeight 2 s args wsX2_scaledHeight RX2 := ⟨hx, hb, hml, hown, hts⟩
  have hl : lv_has ls 2 [(0, .ref a0), (1, .int x1)] := hl
  have f24 := hts (.fieldLink RX2 24 "LandBoard$Rows" "rowWeights" "[I") (by decide +kernel)
  have iX2 := (by decide +kernel : ∀ w ∈ u_ws RX2 TX2 7, w ∈ wsX2_scaledHeight)
  refine lv_iload_n hx hb dX2_scaledHeight_0 rfl (lv_at hl 1 rfl) ?_
  refine lv_if_lt (tgt := 26) hx hb dX2_scaledHeight_1 (by decide) (fun c1 => ?_) (fun c1 => ?_)
  ·
    replace h := gdp h c1
    refine lv_iconst (v := 0) hx hb dX2_scaledHeight_26 (by decide) ?_
    obtain rfl := Option.some.inj h
    exact retPi (v := (0 : Int32)) hx hb hr hlocks dX2_scaledHeight_27
  ·
    replace h := gdn h c1
    refine lv_iload_n hx hb dX2_scaledHeight_4 rfl (lv_at hl 1 rfl) ?_
    refine lv_bipush (v := 6) hx hb dX2_scaledHeight_5 (by decide) ?_
    refine lv_icmp_ge (tgt := 26) hx hb dX2_scaledHeight_7 (by decide) (fun c7 => ?_) (fun c7 => ?_)
    ·
      replace h := gdp h c7
      refine lv_iconst (v := 0) hx hb dX2_scaledHeight_26 (by decide) ?_
      obtain rfl := Option.some.inj h
      exact retPi (v := (0 : Int32)) hx hb hr hlocks dX2_scaledHeight_27
    ·
      replace h := gdn h c7
      refine lv_aload_n hx hb dX2_scaledHeight_10 rfl (lv_at hl 0 rfl) ?_
      refine va_get (D := g.1) (ci := 2) (v := .ref a5) (C := RX2) (T := TX2) (N := 7) hx hb hts iX2 hown hK.1 hP 0 rfl rfl 4 (by decide) f24 (fun _ h9 => h9) rfl dX2_scaledHeight_11 ?_
      refine lv_iload_n hx hb dX2_scaledHeight_14 rfl (lv_at hl 1 rfl) ?_
      obtain ⟨hi, h⟩ := gdi h
      refine va_iald (D := g.1) hx hb hK.1 hP 5 0 rfl rfl hi dX2_scaledHeight_15 ?_
      refine lv_aload_n hx hb dX2_scaledHeight_16 rfl (lv_at hl 0 rfl) ?_
      refine va_get (D := g.1) (ci := 2) (v := .ref a5) (C := RX2) (T := TX2) (N := 7) hx hb hts iX2 hown hK.1 hP 0 rfl rfl 4 (by decide) f24 (fun _ h9 => h9) rfl dX2_scaledHeight_17 ?_
      refine lv_iload_n hx hb dX2_scaledHeight_20 rfl (lv_at hl 1 rfl) ?_
      obtain ⟨hi, h⟩ := gdi h
      refine va_iald (D := g.1) hx hb hK.1 hP 5 0 rfl rfl hi dX2_scaledHeight_21 ?_
      refine lv_imul hx hb dX2_scaledHeight_22 ?_
      refine lv_goto (tgt := 27) hx hb dX2_scaledHeight_23 (by decide) ?_
      obtain rfl := Option.some.inj h
      exact retPi hx hb hr hlocks dX2_scaledHeight_27
-- LandBoard$Rows.scaledWidth
set_option maxHeartbeats 4000000 in
set_option maxRecDepth 100000 in
theorem ctX2_scaledWidth (l : Launch) (g : GG) (a0 a1 a2 a3 a4 a5 : Nat) (x1 : Int32) (bx : Int32) (tt : Int32) (pl : (Nat → Int32)) (we : (Nat → Int32)) (le : (Nat → Int32)) (ab : (Nat → Int32)) (rw : (Nat → Int32)) (res : Int32) (h : fX2_scaledWidth x1 tt we = some res) : MP l yX2_scaledWidth wsX2_scaledWidth ({ frames := 0, cells := 0, slots := 0, locals := 0 }) g [.ref a0, .int x1] (wR g a0 a1 a2 a3 a4 a5 bx tt pl we le ab rw) (.int res) := by
  refine MP.of (cc := cX2_scaledWidth) (own := RX2) 2 (some .int) (by decide +kernel) rfl (Nat.le_of_ble_eq_true rfl) rfl ?_
  intro p e s m args below meth c hx hb hr hml hown hts hlocks hP hK ls hl
  have S : CallFix p m c cX2_scaledWidth 2 s args wsX2_scaledWidth RX2 := ⟨hx, hb, hml, hown, hts⟩
  have hl : lv_has ls 2 [(0, .ref a0), (1, .int x1)] := hl
  have f15 := hts (.fieldLink RX2 15 "LandBoard$Rows" "weights" "[I") (by decide +kernel)
  have iX2 := (by decide +kernel : ∀ w ∈ u_ws RX2 TX2 7, w ∈ wsX2_scaledWidth)
  have f31 := hts (.fieldLink RX2 31 "LandBoard$Rows" "total" "I") (by decide +kernel)
  refine lv_iload_n hx hb dX2_scaledWidth_0 rfl (lv_at hl 1 rfl) ?_
  refine lv_if_lt (tgt := 24) hx hb dX2_scaledWidth_1 (by decide) (fun c1 => ?_) (fun c1 => ?_)
  ·
    replace h := gdp h c1
    refine lv_iconst (v := 0) hx hb dX2_scaledWidth_24 (by decide) ?_
    obtain rfl := Option.some.inj h
    exact retPi (v := (0 : Int32)) hx hb hr hlocks dX2_scaledWidth_25
  ·
    replace h := gdn h c1
    refine lv_iload_n hx hb dX2_scaledWidth_4 rfl (lv_at hl 1 rfl) ?_
    refine lv_bipush (v := 6) hx hb dX2_scaledWidth_5 (by decide) ?_
    refine lv_icmp_ge (tgt := 24) hx hb dX2_scaledWidth_7 (by decide) (fun c7 => ?_) (fun c7 => ?_)
    ·
      replace h := gdp h c7
      refine lv_iconst (v := 0) hx hb dX2_scaledWidth_24 (by decide) ?_
      obtain rfl := Option.some.inj h
      exact retPi (v := (0 : Int32)) hx hb hr hlocks dX2_scaledWidth_25
    ·
      replace h := gdn h c7
      refine lv_aload_n hx hb dX2_scaledWidth_10 rfl (lv_at hl 0 rfl) ?_
      refine va_get (D := g.1) (ci := 2) (v := .ref a2) (C := RX2) (T := TX2) (N := 7) hx hb hts iX2 hown hK.1 hP 0 rfl rfl 1 (by decide) f15 (fun _ h9 => h9) rfl dX2_scaledWidth_11 ?_
      refine lv_iload_n hx hb dX2_scaledWidth_14 rfl (lv_at hl 1 rfl) ?_
      obtain ⟨hi, h⟩ := gdi h
      refine va_iald (D := g.1) hx hb hK.1 hP 2 0 rfl rfl hi dX2_scaledWidth_15 ?_
      refine lv_aload_n hx hb dX2_scaledWidth_16 rfl (lv_at hl 0 rfl) ?_
      refine va_get (D := g.1) (ci := 2) (v := .int tt) (C := RX2) (T := TX2) (N := 7) hx hb hts iX2 hown hK.1 hP 0 rfl rfl 6 (by decide) f31 (fun _ h9 => h9) rfl dX2_scaledWidth_17 ?_
      refine lv_imul hx hb dX2_scaledWidth_20 ?_
      refine lv_goto (tgt := 25) hx hb dX2_scaledWidth_21 (by decide) ?_
      obtain rfl := Option.some.inj h
      exact retPi hx hb hr hlocks dX2_scaledWidth_25
-- LandBoard$Rows.longUpper
set_option maxHeartbeats 4000000 in
set_option maxRecDepth 100000 in
theorem ctX2_longUpper (l : Launch) (g : GG) (a0 a1 a2 a3 a4 a5 : Nat) (x1 : Int32) (bx : Int32) (tt : Int32) (pl : (Nat → Int32)) (we : (Nat → Int32)) (le : (Nat → Int32)) (ab : (Nat → Int32)) (rw : (Nat → Int32)) (res : Int32) (h : fX2_longUpper x1 tt we rw = some res) : MP l yX2_longUpper wsX2_longUpper ({ frames := 1, cells := 0, slots := 0, locals := 21 }) g [.ref a0, .int x1] (wR g a0 a1 a2 a3 a4 a5 bx tt pl we le ab rw) (.int res) := by
  refine MP.of (cc := cX2_longUpper) (own := RX2) 2 (some .int) (by decide +kernel) rfl (Nat.le_of_ble_eq_true rfl) rfl ?_
  intro p e s m args below meth c hx hb hr hml hown hts hlocks hP hK ls hl
  have S : CallFix p m c cX2_longUpper 2 s args wsX2_longUpper RX2 := ⟨hx, hb, hml, hown, hts⟩
  have hl : lv_has ls 2 [(0, .ref a0), (1, .int x1)] := hl
  have m48_0 := hts (.methodLink RX2 48 Lib.Math.max.name) (by decide +kernel)
  have m48_1 := hts (.static Lib.Math.max.name) (by decide +kernel)
  have m48_2 := hts (.initialized "java/lang/Math") (by decide +kernel)
  have m48_3 := hts (.code Lib.Math.max.name Lib.Math.max.code 2 (some .int)) (by decide +kernel)
  refine lv_aload_n hx hb dX2_longUpper_0 rfl (lv_at hl 0 rfl) ?_
  refine lv_iload_n hx hb dX2_longUpper_1 rfl (lv_at hl 1 rfl) ?_
  obtain ⟨r2, hr2, h⟩ := gdb h
  refine kPV (As := [.int x1]) (rest := []) (ci := 2) S (ctX2_scaledHeight l g a0 a1 a2 a3 a4 a5 x1 bx tt pl we le ab rw r2 hr2) (cwV 1 hts gX2_longUpper_X2_scaledHeight rfl rfl rfl (by decide +kernel) ⟨Nat.le_of_ble_eq_true rfl, Nat.le_of_ble_eq_true rfl⟩) hK hP [0, 1, 2, 3, 4, 5] rfl rfl rfl rfl rfl hl.1 rfl (Nat.le_of_ble_eq_true rfl) dX2_longUpper_2 ⟨Nat.zero_le _, Nat.zero_le _⟩ ?_
  refine lv_aload_n hx hb dX2_longUpper_5 rfl (lv_at hl 0 rfl) ?_
  refine lv_iload_n hx hb dX2_longUpper_6 rfl (lv_at hl 1 rfl) ?_
  obtain ⟨r7, hr7, h⟩ := gdb h
  refine kPV (As := [.int x1]) (rest := [.int r2]) (ci := 2) S (ctX2_scaledWidth l g a0 a1 a2 a3 a4 a5 x1 bx tt pl we le ab rw r7 hr7) (cwV 1 hts gX2_longUpper_X2_scaledWidth rfl rfl rfl (by decide +kernel) ⟨Nat.le_of_ble_eq_true rfl, Nat.le_of_ble_eq_true rfl⟩) hK hP [0, 1, 2, 3, 4, 5] rfl rfl rfl rfl rfl hl.1 rfl (Nat.le_of_ble_eq_true rfl) dX2_longUpper_7 ⟨Nat.zero_le _, Nat.zero_le _⟩ ?_
  refine va_mmax hx hb (hml.trans hl.1.symm) hown m48_0 m48_1 m48_2 m48_3 (Nat.le_of_ble_eq_true rfl) (Nat.le_of_ble_eq_true rfl) (Nat.zero_le _) (Nat.zero_le _) dX2_longUpper_10 ?_
  obtain rfl := Option.some.inj h
  exact retPi hx hb hr hlocks dX2_longUpper_13
-- LandBoard$Rows.longLower
set_option maxHeartbeats 4000000 in
set_option maxRecDepth 100000 in
theorem ctX2_longLower (l : Launch) (g : GG) (a0 a1 a2 a3 a4 a5 : Nat) (x1 : Int32) (bx : Int32) (tt : Int32) (pl : (Nat → Int32)) (we : (Nat → Int32)) (le : (Nat → Int32)) (ab : (Nat → Int32)) (rw : (Nat → Int32)) (res : Int32) (h : fX2_longLower x1 tt we rw = some res) : MP l yX2_longLower wsX2_longLower ({ frames := 1, cells := 0, slots := 0, locals := 21 }) g [.ref a0, .int x1] (wR g a0 a1 a2 a3 a4 a5 bx tt pl we le ab rw) (.int res) := by
  refine MP.of (cc := cX2_longLower) (own := RX2) 2 (some .int) (by decide +kernel) rfl (Nat.le_of_ble_eq_true rfl) rfl ?_
  intro p e s m args below meth c hx hb hr hml hown hts hlocks hP hK ls hl
  have S : CallFix p m c cX2_longLower 2 s args wsX2_longLower RX2 := ⟨hx, hb, hml, hown, hts⟩
  have hl : lv_has ls 2 [(0, .ref a0), (1, .int x1)] := hl
  have m63_0 := hts (.methodLink RX2 63 Lib.Math.min.name) (by decide +kernel)
  have m63_1 := hts (.static Lib.Math.min.name) (by decide +kernel)
  have m63_2 := hts (.initialized "java/lang/Math") (by decide +kernel)
  have m63_3 := hts (.code Lib.Math.min.name Lib.Math.min.code 2 (some .int)) (by decide +kernel)
  refine lv_aload_n hx hb dX2_longLower_0 rfl (lv_at hl 0 rfl) ?_
  refine lv_iload_n hx hb dX2_longLower_1 rfl (lv_at hl 1 rfl) ?_
  obtain ⟨r2, hr2, h⟩ := gdb h
  refine kPV (As := [.int x1]) (rest := []) (ci := 2) S (ctX2_scaledHeight l g a0 a1 a2 a3 a4 a5 x1 bx tt pl we le ab rw r2 hr2) (cwV 1 hts gX2_longLower_X2_scaledHeight rfl rfl rfl (by decide +kernel) ⟨Nat.le_of_ble_eq_true rfl, Nat.le_of_ble_eq_true rfl⟩) hK hP [0, 1, 2, 3, 4, 5] rfl rfl rfl rfl rfl hl.1 rfl (Nat.le_of_ble_eq_true rfl) dX2_longLower_2 ⟨Nat.zero_le _, Nat.zero_le _⟩ ?_
  refine lv_aload_n hx hb dX2_longLower_5 rfl (lv_at hl 0 rfl) ?_
  refine lv_iload_n hx hb dX2_longLower_6 rfl (lv_at hl 1 rfl) ?_
  obtain ⟨r7, hr7, h⟩ := gdb h
  refine kPV (As := [.int x1]) (rest := [.int r2]) (ci := 2) S (ctX2_scaledWidth l g a0 a1 a2 a3 a4 a5 x1 bx tt pl we le ab rw r7 hr7) (cwV 1 hts gX2_longLower_X2_scaledWidth rfl rfl rfl (by decide +kernel) ⟨Nat.le_of_ble_eq_true rfl, Nat.le_of_ble_eq_true rfl⟩) hK hP [0, 1, 2, 3, 4, 5] rfl rfl rfl rfl rfl hl.1 rfl (Nat.le_of_ble_eq_true rfl) dX2_longLower_7 ⟨Nat.zero_le _, Nat.zero_le _⟩ ?_
  refine va_mmin hx hb (hml.trans hl.1.symm) hown m63_0 m63_1 m63_2 m63_3 (Nat.le_of_ble_eq_true rfl) (Nat.le_of_ble_eq_true rfl) (Nat.zero_le _) (Nat.zero_le _) dX2_longLower_10 ?_
  obtain rfl := Option.some.inj h
  exact retPi hx hb hr hlocks dX2_longLower_13
-- LandBoard$Rows.side
set_option maxHeartbeats 4000000 in
set_option maxRecDepth 100000 in
theorem ctX2_side (l : Launch) (g : GG) (a0 a1 a2 a3 a4 a5 : Nat) (x1 : Int32) (x2 : Int32) (bx : Int32) (tt : Int32) (pl : (Nat → Int32)) (we : (Nat → Int32)) (le : (Nat → Int32)) (ab : (Nat → Int32)) (rw : (Nat → Int32)) (res : Int32) (h : fX2_side x1 x2 tt we le ab rw = some res) : MP l yX2_side wsX2_side ({ frames := 1, cells := 0, slots := 0, locals := 21 }) g [.ref a0, .int x1, .int x2] (wR g a0 a1 a2 a3 a4 a5 bx tt pl we le ab rw) (.int res) := by
  refine MP.of (cc := cX2_side) (own := RX2) 3 (some .int) (by decide +kernel) rfl (Nat.le_of_ble_eq_true rfl) rfl ?_
  intro p e s m args below meth c hx hb hr hml hown hts hlocks hP hK ls hl
  have S : CallFix p m c cX2_side 3 s args wsX2_side RX2 := ⟨hx, hb, hml, hown, hts⟩
  have hl : lv_has ls 3 [(0, .ref a0), (1, .int x1), (2, .int x2)] := hl
  have f18 := hts (.fieldLink RX2 18 "LandBoard$Rows" "lefts" "[I") (by decide +kernel)
  have iX2 := (by decide +kernel : ∀ w ∈ u_ws RX2 TX2 7, w ∈ wsX2_side)
  have f24 := hts (.fieldLink RX2 24 "LandBoard$Rows" "rowWeights" "[I") (by decide +kernel)
  have n54_i := hts (.initialized RX3) (by decide +kernel)
  have n54_s := hts (.static yX3_thousandths) (by decide +kernel)
  have f21 := hts (.fieldLink RX2 21 "LandBoard$Rows" "aboves" "[I") (by decide +kernel)
  have f31 := hts (.fieldLink RX2 31 "LandBoard$Rows" "total" "I") (by decide +kernel)
  have f15 := hts (.fieldLink RX2 15 "LandBoard$Rows" "weights" "[I") (by decide +kernel)
  refine lv_iload_n hx hb dX2_side_0 rfl (lv_at hl 1 rfl) ?_
  refine lv_if_lt (tgt := 10) hx hb dX2_side_1 (by decide) (fun c1 => ?_) (fun c1 => ?_)
  ·
    replace h := gdp h c1
    refine lv_iconst (v := 0) hx hb dX2_side_10 (by decide) ?_
    obtain rfl := Option.some.inj h
    exact retPi (v := (0 : Int32)) hx hb hr hlocks dX2_side_11
  ·
    replace h := gdn h c1
    refine lv_iload_n hx hb dX2_side_4 rfl (lv_at hl 1 rfl) ?_
    refine lv_bipush (v := 6) hx hb dX2_side_5 (by decide) ?_
    refine lv_icmp_lt (tgt := 12) hx hb dX2_side_7 (by decide) (fun c7 => ?_) (fun c7 => ?_)
    ·
      replace h := gdp h c7
      refine lv_iload_n hx hb dX2_side_12 rfl (lv_at hl 2 rfl) ?_
      by_cases c13_0 : x2 = (0 : Int32)
      ·
        replace h := gdp h c13_0
        refine tswIn (tgt := 40) (off := 27) (0 : Int32) c13_0 hx hb dX2_side_13 (by decide) (by decide) rfl (by decide) ?_
        refine lv_aload_n hx hb dX2_side_40 rfl (lv_at hl 0 rfl) ?_
        refine va_get (D := g.1) (ci := 2) (v := .ref a3) (C := RX2) (T := TX2) (N := 7) hx hb hts iX2 hown hK.1 hP 0 rfl rfl 2 (by decide) f18 (fun _ h9 => h9) rfl dX2_side_41 ?_
        refine lv_iload_n hx hb dX2_side_44 rfl (lv_at hl 1 rfl) ?_
        obtain ⟨hi, h⟩ := gdi h
        refine va_iald (D := g.1) hx hb hK.1 hP 3 0 rfl rfl hi dX2_side_45 ?_
        refine lv_aload_n hx hb dX2_side_46 rfl (lv_at hl 0 rfl) ?_
        refine va_get (D := g.1) (ci := 2) (v := .ref a5) (C := RX2) (T := TX2) (N := 7) hx hb hts iX2 hown hK.1 hP 0 rfl rfl 4 (by decide) f24 (fun _ h9 => h9) rfl dX2_side_47 ?_
        refine lv_iload_n hx hb dX2_side_50 rfl (lv_at hl 1 rfl) ?_
        obtain ⟨hi, h⟩ := gdi h
        refine va_iald (D := g.1) hx hb hK.1 hP 5 0 rfl rfl hi dX2_side_51 ?_
        obtain ⟨r52, hr52, h⟩ := gdb h
        refine kPN (As := [.int (le (x1).toNatClampNeg), .int (rw (x1).toNatClampNeg)]) (rest := []) S (ctX3_thousandths l g (le (x1).toNatClampNeg) (rw (x1).toNatClampNeg)  r52 hr52) ⟨va_cnB 2 hts gX2_side_X3_thousandths_n54 rfl rfl rfl hK.2.2.2.2.2.2.2.2.1 n54_i (by decide +kernel) ⟨Nat.le_of_ble_eq_true rfl, Nat.le_of_ble_eq_true rfl⟩, n54_s, trivial⟩ hK rfl rfl hl.1 rfl (Nat.le_of_ble_eq_true rfl) dX2_side_52 ⟨Nat.zero_le _, Nat.zero_le _⟩ ?_
        obtain rfl := Option.some.inj h
        exact retPi hx hb hr hlocks dX2_side_55
      replace h := gdn h c13_0
      by_cases c13_1 : x2 = (1 : Int32)
      ·
        replace h := gdp h c13_1
        refine tswIn (tgt := 56) (off := 43) (1 : Int32) c13_1 hx hb dX2_side_13 (by decide) (by decide) rfl (by decide) ?_
        refine lv_aload_n hx hb dX2_side_56 rfl (lv_at hl 0 rfl) ?_
        refine va_get (D := g.1) (ci := 2) (v := .ref a4) (C := RX2) (T := TX2) (N := 7) hx hb hts iX2 hown hK.1 hP 0 rfl rfl 3 (by decide) f21 (fun _ h9 => h9) rfl dX2_side_57 ?_
        refine lv_iload_n hx hb dX2_side_60 rfl (lv_at hl 1 rfl) ?_
        obtain ⟨hi, h⟩ := gdi h
        refine va_iald (D := g.1) hx hb hK.1 hP 4 0 rfl rfl hi dX2_side_61 ?_
        refine lv_aload_n hx hb dX2_side_62 rfl (lv_at hl 0 rfl) ?_
        refine va_get (D := g.1) (ci := 2) (v := .int tt) (C := RX2) (T := TX2) (N := 7) hx hb hts iX2 hown hK.1 hP 0 rfl rfl 6 (by decide) f31 (fun _ h9 => h9) rfl dX2_side_63 ?_
        obtain ⟨r66, hr66, h⟩ := gdb h
        refine kPN (As := [.int (ab (x1).toNatClampNeg), .int tt]) (rest := []) S (ctX3_thousandths l g (ab (x1).toNatClampNeg) tt  r66 hr66) ⟨va_cnB 2 hts gX2_side_X3_thousandths_n54 rfl rfl rfl hK.2.2.2.2.2.2.2.2.1 n54_i (by decide +kernel) ⟨Nat.le_of_ble_eq_true rfl, Nat.le_of_ble_eq_true rfl⟩, n54_s, trivial⟩ hK rfl rfl hl.1 rfl (Nat.le_of_ble_eq_true rfl) dX2_side_66 ⟨Nat.zero_le _, Nat.zero_le _⟩ ?_
        obtain rfl := Option.some.inj h
        exact retPi hx hb hr hlocks dX2_side_69
      replace h := gdn h c13_1
      by_cases c13_2 : x2 = (2 : Int32)
      ·
        replace h := gdp h c13_2
        refine tswIn (tgt := 70) (off := 57) (2 : Int32) c13_2 hx hb dX2_side_13 (by decide) (by decide) rfl (by decide) ?_
        refine lv_aload_n hx hb dX2_side_70 rfl (lv_at hl 0 rfl) ?_
        refine va_get (D := g.1) (ci := 2) (v := .ref a2) (C := RX2) (T := TX2) (N := 7) hx hb hts iX2 hown hK.1 hP 0 rfl rfl 1 (by decide) f15 (fun _ h9 => h9) rfl dX2_side_71 ?_
        refine lv_iload_n hx hb dX2_side_74 rfl (lv_at hl 1 rfl) ?_
        obtain ⟨hi, h⟩ := gdi h
        refine va_iald (D := g.1) hx hb hK.1 hP 2 0 rfl rfl hi dX2_side_75 ?_
        refine lv_aload_n hx hb dX2_side_76 rfl (lv_at hl 0 rfl) ?_
        refine va_get (D := g.1) (ci := 2) (v := .ref a5) (C := RX2) (T := TX2) (N := 7) hx hb hts iX2 hown hK.1 hP 0 rfl rfl 4 (by decide) f24 (fun _ h9 => h9) rfl dX2_side_77 ?_
        refine lv_iload_n hx hb dX2_side_80 rfl (lv_at hl 1 rfl) ?_
        obtain ⟨hi, h⟩ := gdi h
        refine va_iald (D := g.1) hx hb hK.1 hP 5 0 rfl rfl hi dX2_side_81 ?_
        obtain ⟨r82, hr82, h⟩ := gdb h
        refine kPN (As := [.int (we (x1).toNatClampNeg), .int (rw (x1).toNatClampNeg)]) (rest := []) S (ctX3_thousandths l g (we (x1).toNatClampNeg) (rw (x1).toNatClampNeg)  r82 hr82) ⟨va_cnB 2 hts gX2_side_X3_thousandths_n54 rfl rfl rfl hK.2.2.2.2.2.2.2.2.1 n54_i (by decide +kernel) ⟨Nat.le_of_ble_eq_true rfl, Nat.le_of_ble_eq_true rfl⟩, n54_s, trivial⟩ hK rfl rfl hl.1 rfl (Nat.le_of_ble_eq_true rfl) dX2_side_82 ⟨Nat.zero_le _, Nat.zero_le _⟩ ?_
        obtain rfl := Option.some.inj h
        exact retPi hx hb hr hlocks dX2_side_85
      replace h := gdn h c13_2
      refine lv_tableOut (tgt := 86) hx hb dX2_side_13 (tsw_out (n := 3) (fun k hk => by match k, hk with | 0, _ => exact c13_0 | 1, _ => exact c13_1 | 2, _ => exact c13_2 | (k + 3), hk => exact absurd hk (by omega)) (by decide)) (by decide) ?_
      refine lv_aload_n hx hb dX2_side_86 rfl (lv_at hl 0 rfl) ?_
      refine va_get (D := g.1) (ci := 2) (v := .ref a5) (C := RX2) (T := TX2) (N := 7) hx hb hts iX2 hown hK.1 hP 0 rfl rfl 4 (by decide) f24 (fun _ h9 => h9) rfl dX2_side_87 ?_
      refine lv_iload_n hx hb dX2_side_90 rfl (lv_at hl 1 rfl) ?_
      obtain ⟨hi, h⟩ := gdi h
      refine va_iald (D := g.1) hx hb hK.1 hP 5 0 rfl rfl hi dX2_side_91 ?_
      refine lv_aload_n hx hb dX2_side_92 rfl (lv_at hl 0 rfl) ?_
      refine va_get (D := g.1) (ci := 2) (v := .int tt) (C := RX2) (T := TX2) (N := 7) hx hb hts iX2 hown hK.1 hP 0 rfl rfl 6 (by decide) f31 (fun _ h9 => h9) rfl dX2_side_93 ?_
      obtain ⟨r96, hr96, h⟩ := gdb h
      refine kPN (As := [.int (rw (x1).toNatClampNeg), .int tt]) (rest := []) S (ctX3_thousandths l g (rw (x1).toNatClampNeg) tt  r96 hr96) ⟨va_cnB 2 hts gX2_side_X3_thousandths_n54 rfl rfl rfl hK.2.2.2.2.2.2.2.2.1 n54_i (by decide +kernel) ⟨Nat.le_of_ble_eq_true rfl, Nat.le_of_ble_eq_true rfl⟩, n54_s, trivial⟩ hK rfl rfl hl.1 rfl (Nat.le_of_ble_eq_true rfl) dX2_side_96 ⟨Nat.zero_le _, Nat.zero_le _⟩ ?_
      obtain rfl := Option.some.inj h
      exact retPi hx hb hr hlocks dX2_side_99
    ·
      replace h := gdn h c7
      refine lv_iconst (v := 0) hx hb dX2_side_10 (by decide) ?_
      obtain rfl := Option.some.inj h
      exact retPi (v := (0 : Int32)) hx hb hr hlocks dX2_side_11
-- LandBoard$Rows.longestPlace
set_option maxHeartbeats 4000000 in
set_option maxRecDepth 100000 in
theorem ctX2_longestPlace (l : Launch) (g : GG) (a0 a1 a2 a3 a4 a5 : Nat)  (bx : Int32) (tt : Int32) (pl : (Nat → Int32)) (we : (Nat → Int32)) (le : (Nat → Int32)) (ab : (Nat → Int32)) (rw : (Nat → Int32)) (res : Int32) (h : fX2_longestPlace bx tt we rw = some res) : MP l yX2_longestPlace wsX2_longestPlace ({ frames := 2, cells := 0, slots := 0, locals := 42 }) g [.ref a0] (wR g a0 a1 a2 a3 a4 a5 bx tt pl we le ab rw) (.int res) := by
  refine MP.of (cc := cX2_longestPlace) (own := RX2) 3 (some .int) (by decide +kernel) rfl (Nat.le_of_ble_eq_true rfl) rfl ?_
  intro p e s m args below meth c hx hb hr hml hown hts hlocks hP hK ls hl
  have S : CallFix p m c cX2_longestPlace 3 s args wsX2_longestPlace RX2 := ⟨hx, hb, hml, hown, hts⟩
  have hl : lv_has ls 3 [(0, .ref a0)] := hl
  have f27 := hts (.fieldLink RX2 27 "LandBoard$Rows" "boxes" "I") (by decide +kernel)
  have iX2 := (by decide +kernel : ∀ w ∈ u_ws RX2 TX2 7, w ∈ wsX2_longestPlace)
  refine lv_iconst (v := 0) hx hb dX2_longestPlace_0 (by decide) ?_
  refine lv_istore_n (lv' := [(1, .int (0 : Int32)), (0, .ref a0)]) hx hb dX2_longestPlace_1 rfl hl (by decide) rfl (fun ls hl => ?_)
  refine lv_iconst (v := 1) hx hb dX2_longestPlace_2 (by decide) ?_
  refine lv_istore_n (lv' := [(2, .int (1 : Int32)), (1, .int (0 : Int32)), (0, .ref a0)]) hx hb dX2_longestPlace_3 rfl hl (by decide) rfl (fun ls hl => ?_)
  obtain ⟨t4, hw4, h⟩ := gdb h
  have X4 : ∀ ls : Array Slot, lv_has ls 3 [(1, .int t4)] → W p l e ({ frames := 2, cells := 0, slots := 0, locals := 42 }) s m args below meth c s.heap [] 0 0 (MQ below (k2_QcV (.int res)) args s 0 0 (fun _ => False)) (F0 m 45 ls []) := by
    intro ls hl
    refine lv_iload_n hx hb dX2_longestPlace_45 rfl (lv_at hl 0 rfl) ?_
    obtain rfl := Option.some.inj h
    exact retPi hx hb hr hlocks dX2_longestPlace_46
  clear h
  have L4 : ∀ (n : Nat) (s4 : Int32 × Int32), wh (fX2_longestPlace_4 bx tt we rw) n s4 = some t4 → ∀ ls : Array Slot, lv_has ls 3 [(0, .ref a0), (1, .int s4.1), (2, .int s4.2)] → W p l e ({ frames := 2, cells := 0, slots := 0, locals := 42 }) s m args below meth c s.heap [] 0 0 (MQ below (k2_QcV (.int res)) args s 0 0 (fun _ => False)) (F0 m 4 ls []) := by
    intro n
    induction n with
    | zero => intro s4 hw; exact (wh_0 hw).elim
    | succ n ih4 =>
      intro s4 hw ls hl
      obtain ⟨r0, h, hr4⟩ := wh_s hw
      refine lv_iload_n hx hb dX2_longestPlace_4 rfl (lv_at hl 2 rfl) ?_
      refine lv_aload_n hx hb dX2_longestPlace_5 rfl (lv_at hl 0 rfl) ?_
      refine va_get (D := g.1) (ci := 2) (v := .int bx) (C := RX2) (T := TX2) (N := 7) hx hb hts iX2 hown hK.1 hP 0 rfl rfl 5 (by decide) f27 (fun _ h9 => h9) rfl dX2_longestPlace_6 ?_
      refine lv_icmp_ge (tgt := 45) hx hb dX2_longestPlace_9 (by decide) (fun c9 => ?_) (fun c9 => ?_)
      ·
        replace h := gdp h c9
        obtain rfl := Option.some.inj h
        have e0 : s4.1 = t4 := hr4
        subst e0
        exact X4 _ (lv_sub hl [1] rfl)
      ·
        replace h := gdn h c9
        refine lv_aload_n hx hb dX2_longestPlace_12 rfl (lv_at hl 0 rfl) ?_
        refine lv_iload_n hx hb dX2_longestPlace_13 rfl (lv_at hl 2 rfl) ?_
        obtain ⟨r14, hr14, h⟩ := gdb h
        refine kPV (As := [.int s4.2]) (rest := []) (ci := 2) S (ctX2_longUpper l g a0 a1 a2 a3 a4 a5 s4.2 bx tt pl we le ab rw r14 hr14) (cwV 1 hts gX2_longestPlace_X2_longUpper rfl rfl rfl (by decide +kernel) ⟨Nat.le_of_ble_eq_true rfl, Nat.le_of_ble_eq_true rfl⟩) hK hP [0, 1, 2, 3, 4, 5] rfl rfl rfl rfl rfl hl.1 rfl (Nat.le_of_ble_eq_true rfl) dX2_longestPlace_14 ⟨Nat.zero_le _, Nat.zero_le _⟩ ?_
        refine lv_aload_n hx hb dX2_longestPlace_17 rfl (lv_at hl 0 rfl) ?_
        refine lv_iload_n hx hb dX2_longestPlace_18 rfl (lv_at hl 1 rfl) ?_
        obtain ⟨r19, hr19, h⟩ := gdb h
        refine kPV (As := [.int s4.1]) (rest := [.int r14]) (ci := 2) S (ctX2_longLower l g a0 a1 a2 a3 a4 a5 s4.1 bx tt pl we le ab rw r19 hr19) (cwV 1 hts gX2_longestPlace_X2_longLower rfl rfl rfl (by decide +kernel) ⟨Nat.le_of_ble_eq_true rfl, Nat.le_of_ble_eq_true rfl⟩) hK hP [0, 1, 2, 3, 4, 5] rfl rfl rfl rfl rfl hl.1 rfl (Nat.le_of_ble_eq_true rfl) dX2_longestPlace_19 ⟨Nat.zero_le _, Nat.zero_le _⟩ ?_
        refine lv_imul hx hb dX2_longestPlace_22 ?_
        refine lv_aload_n hx hb dX2_longestPlace_23 rfl (lv_at hl 0 rfl) ?_
        refine lv_iload_n hx hb dX2_longestPlace_24 rfl (lv_at hl 1 rfl) ?_
        obtain ⟨r25, hr25, h⟩ := gdb h
        refine kPV (As := [.int s4.1]) (rest := [.int (r14 * r19)]) (ci := 2) S (ctX2_longUpper l g a0 a1 a2 a3 a4 a5 s4.1 bx tt pl we le ab rw r25 hr25) (cwV 1 hts gX2_longestPlace_X2_longUpper rfl rfl rfl (by decide +kernel) ⟨Nat.le_of_ble_eq_true rfl, Nat.le_of_ble_eq_true rfl⟩) hK hP [0, 1, 2, 3, 4, 5] rfl rfl rfl rfl rfl hl.1 rfl (Nat.le_of_ble_eq_true rfl) dX2_longestPlace_25 ⟨Nat.zero_le _, Nat.zero_le _⟩ ?_
        refine lv_aload_n hx hb dX2_longestPlace_28 rfl (lv_at hl 0 rfl) ?_
        refine lv_iload_n hx hb dX2_longestPlace_29 rfl (lv_at hl 2 rfl) ?_
        obtain ⟨r30, hr30, h⟩ := gdb h
        refine kPV (As := [.int s4.2]) (rest := [.int r25, .int (r14 * r19)]) (ci := 2) S (ctX2_longLower l g a0 a1 a2 a3 a4 a5 s4.2 bx tt pl we le ab rw r30 hr30) (cwV 1 hts gX2_longestPlace_X2_longLower rfl rfl rfl (by decide +kernel) ⟨Nat.le_of_ble_eq_true rfl, Nat.le_of_ble_eq_true rfl⟩) hK hP [0, 1, 2, 3, 4, 5] rfl rfl rfl rfl rfl hl.1 rfl (Nat.le_of_ble_eq_true rfl) dX2_longestPlace_30 ⟨Nat.zero_le _, Nat.zero_le _⟩ ?_
        refine lv_imul hx hb dX2_longestPlace_33 ?_
        refine lv_icmp_le (tgt := 39) hx hb dX2_longestPlace_34 (by decide) (fun c34 => ?_) (fun c34 => ?_)
        ·
          replace h := gdp h c34
          refine lv_iinc (v := (s4.2 + 1)) (lv' := [(2, .int (s4.2 + 1)), (0, .ref a0), (1, .int s4.1)]) hx hb dX2_longestPlace_39 hl (k := 2) rfl rfl (by decide) rfl (fun ls hl => ?_)
          refine lv_goto (tgt := 4) hx hb dX2_longestPlace_42 (by decide) ?_
          obtain rfl := Option.some.inj h
          exact ih4 (s4.1, (s4.2 + 1)) hr4 _ (lv_sub hl [1, 2, 0] rfl)
        ·
          replace h := gdn h c34
          refine lv_iload_n hx hb dX2_longestPlace_37 rfl (lv_at hl 2 rfl) ?_
          refine lv_istore_n (lv' := [(1, .int s4.2), (0, .ref a0), (2, .int s4.2)]) hx hb dX2_longestPlace_38 rfl hl (by decide) rfl (fun ls hl => ?_)
          refine lv_iinc (v := (s4.2 + 1)) (lv' := [(2, .int (s4.2 + 1)), (1, .int s4.2), (0, .ref a0)]) hx hb dX2_longestPlace_39 hl (k := 2) rfl rfl (by decide) rfl (fun ls hl => ?_)
          refine lv_goto (tgt := 4) hx hb dX2_longestPlace_42 (by decide) ?_
          obtain rfl := Option.some.inj h
          exact ih4 (s4.2, (s4.2 + 1)) hr4 _ (lv_sub hl [2, 1, 0] rfl)
  exact L4 _ ((0 : Int32), (1 : Int32)) hw4 _ (lv_sub hl [2, 1, 0] rfl)
-- LandBoard$Rows.bestCuts
set_option maxHeartbeats 4000000 in
set_option maxRecDepth 100000 in
theorem ctX2_bestCuts (l : Launch) (g : GG) (a0 a1 a2 a3 a4 a5 : Nat)  (bx : Int32) (tt : Int32) (pl : (Nat → Int32)) (we : (Nat → Int32)) (le : (Nat → Int32)) (ab : (Nat → Int32)) (rw : (Nat → Int32)) (res : Int32 × (Nat → Int32) × (Nat → Int32) × (Nat → Int32)) (h : fX2_bestCuts bx tt we le ab rw = some res) : MM l yX2_bestCuts wsX2_bestCuts ({ frames := 3, cells := 0, slots := 0, locals := 70 }) g [.ref a0] (wR g a0 a1 a2 a3 a4 a5 bx tt pl we le ab rw) (wR g a0 a1 a2 a3 a4 a5 bx tt pl we res.2.1 res.2.2.1 res.2.2.2) (some (.int res.1)) := by
  refine MM.of (cc := cX2_bestCuts) (own := RX2) 7 (some .int) (by decide +kernel) rfl (Nat.le_of_ble_eq_true rfl) rfl ?_
  intro p e s m args below meth c hx hb hr hml hown hts hlocks hK A hA ls hl hP hD hS
  have S : CallFix p m c cX2_bestCuts 7 s args wsX2_bestCuts RX2 := ⟨hx, hb, hml, hown, hts⟩
  have hl : lv_has ls 7 [(0, .ref a0)] := hl
  have f27 := hts (.fieldLink RX2 27 "LandBoard$Rows" "boxes" "I") (by decide +kernel)
  have iX2 := (by decide +kernel : ∀ w ∈ u_ws RX2 TX2 7, w ∈ wsX2_bestCuts)
  have m48_0 := hts (.methodLink RX2 48 Lib.Math.max.name) (by decide +kernel)
  have m48_1 := hts (.static Lib.Math.max.name) (by decide +kernel)
  have m48_2 := hts (.initialized "java/lang/Math") (by decide +kernel)
  have m48_3 := hts (.code Lib.Math.max.name Lib.Math.max.code 2 (some .int)) (by decide +kernel)
  refine lv_iconst (v := 0) hx hb dX2_bestCuts_0 (by decide) ?_
  refine lv_istore_n (lv' := [(1, .int (0 : Int32)), (0, .ref a0)]) hx hb dX2_bestCuts_1 rfl hl (by decide) rfl (fun ls hl => ?_)
  refine lv_iconst (v := 0) hx hb dX2_bestCuts_2 (by decide) ?_
  refine lv_istore_n (lv' := [(2, .int (0 : Int32)), (1, .int (0 : Int32)), (0, .ref a0)]) hx hb dX2_bestCuts_3 rfl hl (by decide) rfl (fun ls hl => ?_)
  refine lv_iconst (v := 0) hx hb dX2_bestCuts_4 (by decide) ?_
  refine lv_istore_n (lv' := [(3, .int (0 : Int32)), (2, .int (0 : Int32)), (1, .int (0 : Int32)), (0, .ref a0)]) hx hb dX2_bestCuts_5 rfl hl (by decide) rfl (fun ls hl => ?_)
  refine lv_iconst (v := 0) hx hb dX2_bestCuts_6 (by decide) ?_
  refine lv_istore (lv' := [(4, .int (0 : Int32)), (3, .int (0 : Int32)), (2, .int (0 : Int32)), (1, .int (0 : Int32)), (0, .ref a0)]) hx hb dX2_bestCuts_7 hl (by decide) rfl (fun ls hl => ?_)
  obtain ⟨t9, hw9, h⟩ := gdb h
  have X9 : ∀ (H : Heap) (locs : List Loc) (ls : Array Slot), va_P g.1 vwCl (wR g a0 a1 a2 a3 a4 a5 bx tt pl we t9.2.1 t9.2.2.1 t9.2.2.2) H → va_D A (wR g a0 a1 a2 a3 a4 a5 bx tt pl we t9.2.1 t9.2.2.1 t9.2.2.2) → va_S A s.heap H locs → lv_has ls 7 [(1, .int t9.1)] → W p l e ({ frames := 3, cells := 0, slots := 0, locals := 70 }) s m args below meth c H locs 0 0 (MQ below (QM g (some (.int res.1)) (wR g a0 a1 a2 a3 a4 a5 bx tt pl we res.2.1 res.2.2.1 res.2.2.2) A) args s 0 0 A) (F0 m 83 ls []) := by
    intro H locs ls hP hD hS hl
    refine lv_iload_n hx hb dX2_bestCuts_83 rfl (lv_at hl 0 rfl) ?_
    obtain rfl := Option.some.inj h
    exact retMi hx hb hr hlocks hP hD hS dX2_bestCuts_84
  clear h
  have L9 : ∀ (n : Nat) (s9 : Int32 × Int32 × Int32 × Int32 × (Nat → Int32) × (Nat → Int32) × (Nat → Int32)), wh (fX2_bestCuts_9 bx tt we) n s9 = some t9 → ∀ (H : Heap) (locs : List Loc) (ls : Array Slot), va_P g.1 vwCl (wR g a0 a1 a2 a3 a4 a5 bx tt pl we s9.2.2.2.2.1 s9.2.2.2.2.2.1 s9.2.2.2.2.2.2) H → va_D A (wR g a0 a1 a2 a3 a4 a5 bx tt pl we s9.2.2.2.2.1 s9.2.2.2.2.2.1 s9.2.2.2.2.2.2) → va_S A s.heap H locs → lv_has ls 7 [(0, .ref a0), (1, .int s9.1), (2, .int s9.2.1), (3, .int s9.2.2.1), (4, .int s9.2.2.2.1)] → W p l e ({ frames := 3, cells := 0, slots := 0, locals := 70 }) s m args below meth c H locs 0 0 (MQ below (QM g (some (.int res.1)) (wR g a0 a1 a2 a3 a4 a5 bx tt pl we res.2.1 res.2.2.1 res.2.2.2) A) args s 0 0 A) (F0 m 9 ls []) := by
    intro n
    induction n with
    | zero => intro s9 hw; exact (wh_0 hw).elim
    | succ n ih9 =>
      intro s9 hw H locs ls hP hD hS hl
      obtain ⟨r0, h, hr9⟩ := wh_s hw
      refine lv_iload hx hb dX2_bestCuts_9 (lv_at hl 4 rfl) ?_
      refine lv_iconst (v := 1) hx hb dX2_bestCuts_11 (by decide) ?_
      refine lv_aload_n hx hb dX2_bestCuts_12 rfl (lv_at hl 0 rfl) ?_
      refine va_get (D := g.1) (ci := 2) (v := .int bx) (C := RX2) (T := TX2) (N := 7) hx hb hts iX2 hown hK.1 hP 0 rfl rfl 5 (by decide) f27 (fun _ h9 => h9) rfl dX2_bestCuts_13 ?_
      refine lv_iconst (v := 1) hx hb dX2_bestCuts_16 (by decide) ?_
      refine lv_isub hx hb dX2_bestCuts_17 ?_
      refine lv_iconst (v := 0) hx hb dX2_bestCuts_18 (by decide) ?_
      refine va_mmax hx hb (hml.trans hl.1.symm) hown m48_0 m48_1 m48_2 m48_3 (Nat.le_of_ble_eq_true rfl) (Nat.le_of_ble_eq_true rfl) (Nat.zero_le _) (Nat.zero_le _) dX2_bestCuts_19 ?_
      refine lv_ishl hx hb dX2_bestCuts_22 ?_
      refine lv_icmp_ge (tgt := 83) hx hb dX2_bestCuts_23 (by decide) (fun c23 => ?_) (fun c23 => ?_)
      ·
        replace h := gdp h c23
        obtain rfl := Option.some.inj h
        have e0 : (s9.1, s9.2.2.2.2.1, s9.2.2.2.2.2.1, s9.2.2.2.2.2.2) = t9 := hr9
        subst e0
        exact X9 _ _ _ hP hD hS (lv_sub hl [1] rfl)
      ·
        replace h := gdn h c23
        refine lv_aload_n hx hb dX2_bestCuts_26 rfl (lv_at hl 0 rfl) ?_
        refine lv_iload hx hb dX2_bestCuts_27 (lv_at hl 4 rfl) ?_
        obtain ⟨r29, hr29, h⟩ := gdb h
        refine kMV (As := [.int s9.2.2.2.1]) (rest := []) (ci := 2) (W1 := (wR g a0 a1 a2 a3 a4 a5 bx tt pl we r29.1 r29.2.1 r29.2.2)) (wr := []) S (ctX2_lay l g a0 a1 a2 a3 a4 a5 s9.2.2.2.1 bx tt pl we s9.2.2.2.2.1 s9.2.2.2.2.2.1 s9.2.2.2.2.2.2 r29 hr29) (cwV 1 hts gX2_bestCuts_X2_lay rfl rfl rfl (by decide +kernel) ⟨Nat.le_of_ble_eq_true rfl, Nat.le_of_ble_eq_true rfl⟩) hK hP hD hS hA [0, 1, 2, 3, 4, 5] [] [0, 1, 2, 3, 4, 5] rfl rfl rfl rfl (by decide) rfl rfl rfl rfl rfl rfl hl.1 rfl (Nat.le_of_ble_eq_true rfl) dX2_bestCuts_29 ⟨Nat.zero_le _, Nat.zero_le _⟩ (fun H locs hP hD hS => ?_)
        show W p l e ({ frames := 3, cells := 0, slots := 0, locals := 70 }) s m args below meth c H locs 0 0 (MQ below (QM g (some (.int res.1)) (wR g a0 a1 a2 a3 a4 a5 bx tt pl we res.2.1 res.2.2.1 res.2.2.2) A) args s 0 0 A) (F0 m 32 ls [])
        refine lv_aload_n hx hb dX2_bestCuts_32 rfl (lv_at hl 0 rfl) ?_
        refine lv_aload_n hx hb dX2_bestCuts_33 rfl (lv_at hl 0 rfl) ?_
        obtain ⟨r34, hr34, h⟩ := gdb h
        refine kPV (As := []) (rest := [.ref a0]) (ci := 2) S (ctX2_longestPlace l g a0 a1 a2 a3 a4 a5  bx tt pl we r29.1 r29.2.1 r29.2.2 r34 hr34) (cwV 0 hts gX2_bestCuts_X2_longestPlace rfl rfl rfl (by decide +kernel) ⟨Nat.le_of_ble_eq_true rfl, Nat.le_of_ble_eq_true rfl⟩) hK hP [0, 1, 2, 3, 4, 5] rfl rfl rfl rfl rfl hl.1 rfl (Nat.le_of_ble_eq_true rfl) dX2_bestCuts_34 ⟨Nat.zero_le _, Nat.zero_le _⟩ ?_
        obtain ⟨r37, hr37, h⟩ := gdb h
        refine kPV (As := [.int r34]) (rest := []) (ci := 2) S (ctX2_longUpper l g a0 a1 a2 a3 a4 a5 r34 bx tt pl we r29.1 r29.2.1 r29.2.2 r37 hr37) (cwV 1 hts gX2_bestCuts_X2_longUpper rfl rfl rfl (by decide +kernel) ⟨Nat.le_of_ble_eq_true rfl, Nat.le_of_ble_eq_true rfl⟩) hK hP [0, 1, 2, 3, 4, 5] rfl rfl rfl rfl rfl hl.1 rfl (Nat.le_of_ble_eq_true rfl) dX2_bestCuts_37 ⟨Nat.zero_le _, Nat.zero_le _⟩ ?_
        refine lv_istore (lv' := [(5, .int r37), (0, .ref a0), (1, .int s9.1), (2, .int s9.2.1), (3, .int s9.2.2.1), (4, .int s9.2.2.2.1)]) hx hb dX2_bestCuts_40 hl (by decide) rfl (fun ls hl => ?_)
        refine lv_aload_n hx hb dX2_bestCuts_42 rfl (lv_at hl 1 rfl) ?_
        refine lv_aload_n hx hb dX2_bestCuts_43 rfl (lv_at hl 1 rfl) ?_
        obtain ⟨r44, hr44, h⟩ := gdb h
        refine kPV (As := []) (rest := [.ref a0]) (ci := 2) S (ctX2_longestPlace l g a0 a1 a2 a3 a4 a5  bx tt pl we r29.1 r29.2.1 r29.2.2 r44 hr44) (cwV 0 hts gX2_bestCuts_X2_longestPlace rfl rfl rfl (by decide +kernel) ⟨Nat.le_of_ble_eq_true rfl, Nat.le_of_ble_eq_true rfl⟩) hK hP [0, 1, 2, 3, 4, 5] rfl rfl rfl rfl rfl hl.1 rfl (Nat.le_of_ble_eq_true rfl) dX2_bestCuts_44 ⟨Nat.zero_le _, Nat.zero_le _⟩ ?_
        obtain ⟨r47, hr47, h⟩ := gdb h
        refine kPV (As := [.int r44]) (rest := []) (ci := 2) S (ctX2_longLower l g a0 a1 a2 a3 a4 a5 r44 bx tt pl we r29.1 r29.2.1 r29.2.2 r47 hr47) (cwV 1 hts gX2_bestCuts_X2_longLower rfl rfl rfl (by decide +kernel) ⟨Nat.le_of_ble_eq_true rfl, Nat.le_of_ble_eq_true rfl⟩) hK hP [0, 1, 2, 3, 4, 5] rfl rfl rfl rfl rfl hl.1 rfl (Nat.le_of_ble_eq_true rfl) dX2_bestCuts_47 ⟨Nat.zero_le _, Nat.zero_le _⟩ ?_
        refine lv_istore (lv' := [(6, .int r47), (5, .int r37), (0, .ref a0), (1, .int s9.1), (2, .int s9.2.1), (3, .int s9.2.2.1), (4, .int s9.2.2.2.1)]) hx hb dX2_bestCuts_50 hl (by decide) rfl (fun ls hl => ?_)
        refine lv_iload hx hb dX2_bestCuts_52 (lv_at hl 6 rfl) ?_
        refine lv_if_eq (tgt := 68) hx hb dX2_bestCuts_54 (by decide) (fun c54 => ?_) (fun c54 => ?_)
        ·
          replace h := gdp h c54
          refine lv_iload hx hb dX2_bestCuts_68 (lv_at hl 6 rfl) ?_
          refine lv_istore_n (lv' := [(1, .int s9.2.2.2.1), (6, .int r47), (5, .int r37), (0, .ref a0), (2, .int s9.2.1), (3, .int s9.2.2.1), (4, .int s9.2.2.2.1)]) hx hb dX2_bestCuts_70 rfl hl (by decide) rfl (fun ls hl => ?_)
          refine lv_iload hx hb dX2_bestCuts_71 (lv_at hl 2 rfl) ?_
          refine lv_istore_n (lv' := [(2, .int r37), (1, .int s9.2.2.2.1), (6, .int r47), (5, .int r37), (0, .ref a0), (3, .int s9.2.2.1), (4, .int s9.2.2.2.1)]) hx hb dX2_bestCuts_73 rfl hl (by decide) rfl (fun ls hl => ?_)
          refine lv_iload hx hb dX2_bestCuts_74 (lv_at hl 2 rfl) ?_
          refine lv_istore_n (lv' := [(3, .int r47), (2, .int r37), (1, .int s9.2.2.2.1), (6, .int r47), (5, .int r37), (0, .ref a0), (4, .int s9.2.2.2.1)]) hx hb dX2_bestCuts_76 rfl hl (by decide) rfl (fun ls hl => ?_)
          refine lv_iinc (v := (s9.2.2.2.1 + 1)) (lv' := [(4, .int (s9.2.2.2.1 + 1)), (3, .int r47), (2, .int r37), (1, .int s9.2.2.2.1), (6, .int r47), (5, .int r37), (0, .ref a0)]) hx hb dX2_bestCuts_77 hl (k := 6) rfl rfl (by decide) rfl (fun ls hl => ?_)
          refine lv_goto (tgt := 9) hx hb dX2_bestCuts_80 (by decide) ?_
          obtain rfl := Option.some.inj h
          exact ih9 (s9.2.2.2.1, r37, r47, (s9.2.2.2.1 + 1), r29.1, r29.2.1, r29.2.2) hr9 _ _ _ hP hD hS (lv_sub hl [6, 3, 2, 1, 0] rfl)
        ·
          replace h := gdn h c54
          refine lv_iload hx hb dX2_bestCuts_57 (lv_at hl 1 rfl) ?_
          refine lv_iload_n hx hb dX2_bestCuts_59 rfl (lv_at hl 5 rfl) ?_
          refine lv_imul hx hb dX2_bestCuts_60 ?_
          refine lv_iload_n hx hb dX2_bestCuts_61 rfl (lv_at hl 4 rfl) ?_
          refine lv_iload hx hb dX2_bestCuts_62 (lv_at hl 0 rfl) ?_
          refine lv_imul hx hb dX2_bestCuts_64 ?_
          refine lv_icmp_ge (tgt := 77) hx hb dX2_bestCuts_65 (by decide) (fun c65 => ?_) (fun c65 => ?_)
          ·
            replace h := gdp h c65
            refine lv_iinc (v := (s9.2.2.2.1 + 1)) (lv' := [(4, .int (s9.2.2.2.1 + 1)), (6, .int r47), (5, .int r37), (0, .ref a0), (1, .int s9.1), (2, .int s9.2.1), (3, .int s9.2.2.1)]) hx hb dX2_bestCuts_77 hl (k := 6) rfl rfl (by decide) rfl (fun ls hl => ?_)
            refine lv_goto (tgt := 9) hx hb dX2_bestCuts_80 (by decide) ?_
            obtain rfl := Option.some.inj h
            exact ih9 (s9.1, s9.2.1, s9.2.2.1, (s9.2.2.2.1 + 1), r29.1, r29.2.1, r29.2.2) hr9 _ _ _ hP hD hS (lv_sub hl [3, 4, 5, 6, 0] rfl)
          ·
            replace h := gdn h c65
            refine lv_iload hx hb dX2_bestCuts_68 (lv_at hl 6 rfl) ?_
            refine lv_istore_n (lv' := [(1, .int s9.2.2.2.1), (6, .int r47), (5, .int r37), (0, .ref a0), (2, .int s9.2.1), (3, .int s9.2.2.1), (4, .int s9.2.2.2.1)]) hx hb dX2_bestCuts_70 rfl hl (by decide) rfl (fun ls hl => ?_)
            refine lv_iload hx hb dX2_bestCuts_71 (lv_at hl 2 rfl) ?_
            refine lv_istore_n (lv' := [(2, .int r37), (1, .int s9.2.2.2.1), (6, .int r47), (5, .int r37), (0, .ref a0), (3, .int s9.2.2.1), (4, .int s9.2.2.2.1)]) hx hb dX2_bestCuts_73 rfl hl (by decide) rfl (fun ls hl => ?_)
            refine lv_iload hx hb dX2_bestCuts_74 (lv_at hl 2 rfl) ?_
            refine lv_istore_n (lv' := [(3, .int r47), (2, .int r37), (1, .int s9.2.2.2.1), (6, .int r47), (5, .int r37), (0, .ref a0), (4, .int s9.2.2.2.1)]) hx hb dX2_bestCuts_76 rfl hl (by decide) rfl (fun ls hl => ?_)
            refine lv_iinc (v := (s9.2.2.2.1 + 1)) (lv' := [(4, .int (s9.2.2.2.1 + 1)), (3, .int r47), (2, .int r37), (1, .int s9.2.2.2.1), (6, .int r47), (5, .int r37), (0, .ref a0)]) hx hb dX2_bestCuts_77 hl (k := 6) rfl rfl (by decide) rfl (fun ls hl => ?_)
            refine lv_goto (tgt := 9) hx hb dX2_bestCuts_80 (by decide) ?_
            obtain rfl := Option.some.inj h
            exact ih9 (s9.2.2.2.1, r37, r47, (s9.2.2.2.1 + 1), r29.1, r29.2.1, r29.2.2) hr9 _ _ _ hP hD hS (lv_sub hl [6, 3, 2, 1, 0] rfl)
  exact L9 _ ((0 : Int32), (0 : Int32), (0 : Int32), (0 : Int32), le, ab, rw) hw9 _ _ _ hP hD hS (lv_sub hl [4, 3, 2, 1, 0] rfl)
