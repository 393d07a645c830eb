-- LandBoard$Moves.forget
set_option maxHeartbeats 4000000 in
set_option maxRecDepth 100000 in
theorem ctX1_forget (l : Launch) (g : GG) (a0 a1 a2 : Nat)  (top : Int32) (kep : Int32) (don : Int32) (vc : (Nat → Int32)) (vf : (Nat → Int32)) (res : Int32) (h : fX1_forget kep = res) : MM l yX1_forget wsX1_forget ({ frames := 0, cells := 0, slots := 0, locals := 0 }) g [.ref a0] (wV g a0 a1 a2 top kep don vc vf) (wV g a0 a1 a2 top res don vc vf) none := by
  refine MM.of (cc := cX1_forget) (own := RX1) 1 none (by decide +kernel) rfl (Nat.le_of_ble_eq_true rfl) rfl ?_
  intro p e s m args below meth c hx hb hr hml hown hts hlocks hK A hA ls hl hP hD hS
  have S : CallFix p m c cX1_forget 1 s args wsX1_forget RX1 := ⟨hx, hb, hml, hown, hts⟩
  have hl : lv_has ls 1 [(0, .ref a0)] := hl
  have f28 := hts (.fieldLink RX1 28 "LandBoard$Moves" "kept" "I") (by decide +kernel)
  have iX1 := (by decide +kernel : ∀ w ∈ u_ws RX1 TX1 5, w ∈ wsX1_forget)
  refine lv_aload_n hx hb dX1_forget_0 rfl (lv_at hl 0 rfl) ?_
  refine lv_iconst (v := 0) hx hb dX1_forget_1 (by decide) ?_
  refine va_put (D := g.1) (ci := 1) (v := .int (0 : Int32)) (ty := .int) (C := RX1) (T := TX1) (N := 5) hx hb hts iX1 tyX1 tyX1_ok nmX1 hown hK.1 hP hD hS 0 rfl rfl 3 (by decide) f28 (fun _ h9 => h9) rfl (by decide +kernel) rfl rfl (Nat.le_of_ble_eq_true rfl) dX1_forget_2 (fun H locs hP hD hS => ?_)
  have hP : va_P g.1 vwCl (wV g a0 a1 a2 top (0 : Int32) don vc vf) H := hP
  have hD : va_D A (wV g a0 a1 a2 top (0 : Int32) don vc vf) := hD
  subst h
  exact retMv hx hb hr hlocks hP hD hS dX1_forget_5
-- LandBoard$Moves.add
set_option maxHeartbeats 4000000 in
set_option maxRecDepth 100000 in
theorem ctX1_add (l : Launch) (g : GG) (a0 a1 a2 : Nat) (x1 : Int32) (x2 : Int32) (top : Int32) (kep : Int32) (don : Int32) (vc : (Nat → Int32)) (vf : (Nat → Int32)) (res : Int32 × Int32 × Int32 × (Nat → Int32) × (Nat → Int32)) (h : fX1_add x1 x2 top kep don vc vf = some res) : MM l yX1_add wsX1_add ({ frames := 1, cells := 0, slots := 0, locals := 22 }) g [.ref a0, .int x1, .int x2] (wV g a0 a1 a2 top kep don vc vf) (wV g a0 a1 a2 res.1 res.2.1 res.2.2.1 res.2.2.2.1 res.2.2.2.2) none := by
  refine MM.of (cc := cX1_add) (own := RX1) 4 none (by decide +kernel) rfl (Nat.le_of_ble_eq_true rfl) rfl ?_
  intro p e s m args below meth c hx hb hr hml hown hts hlocks hK A hA ls hl hP hD hS
  have S : CallFix p m c cX1_add 4 s args wsX1_add RX1 := ⟨hx, hb, hml, hown, hts⟩
  have hl : lv_has ls 4 [(0, .ref a0), (1, .int x1), (2, .int x2)] := hl
  have f18 := hts (.fieldLink RX1 18 "LandBoard$Moves" "top" "I") (by decide +kernel)
  have iX1 := (by decide +kernel : ∀ w ∈ u_ws RX1 TX1 5, w ∈ wsX1_add)
  have f9 := hts (.fieldLink RX1 9 "LandBoard$Moves" "cells" "[I") (by decide +kernel)
  have f15 := hts (.fieldLink RX1 15 "LandBoard$Moves" "froms" "[I") (by decide +kernel)
  have f28 := hts (.fieldLink RX1 28 "LandBoard$Moves" "kept" "I") (by decide +kernel)
  have m31_0 := hts (.methodLink RX1 31 Lib.Math.min.name) (by decide +kernel)
  have m31_1 := hts (.static Lib.Math.min.name) (by decide +kernel)
  have m31_2 := hts (.initialized "java/lang/Math") (by decide +kernel)
  have m31_3 := hts (.code Lib.Math.min.name Lib.Math.min.code 2 (some .int)) (by decide +kernel)
  have f34 := hts (.fieldLink RX1 34 "LandBoard$Moves" "done" "I") (by decide +kernel)
  refine lv_aload_n hx hb dX1_add_0 rfl (lv_at hl 0 rfl) ?_
  refine va_get (D := g.1) (ci := 1) (v := .int top) (C := RX1) (T := TX1) (N := 5) hx hb hts iX1 hown hK.1 hP 0 rfl rfl 2 (by decide) f18 (fun _ h9 => h9) rfl dX1_add_1 ?_
  refine lv_bipush (v := 100) hx hb dX1_add_4 (by decide) ?_
  obtain ⟨r6, hr6, h⟩ := gdb h
  refine kPS (As := [.int top, .int (100 : Int32)]) (rest := []) S (ctJ9_floorMod_7cf53 l g top (100 : Int32)  r6 hr6) (va_cwS 2 hts gX1_add_J9_floorMod_7cf53 rfl rfl rfl (by decide +kernel) ⟨Nat.le_of_ble_eq_true rfl, Nat.le_of_ble_eq_true rfl⟩) hK rfl rfl hl.1 rfl (Nat.le_of_ble_eq_true rfl) dX1_add_6 ⟨Nat.zero_le _, Nat.zero_le _⟩ ?_
  refine lv_istore_n (lv' := [(3, .int r6), (0, .ref a0), (1, .int x1), (2, .int x2)]) hx hb dX1_add_9 rfl hl (by decide) rfl (fun ls hl => ?_)
  refine lv_aload_n hx hb dX1_add_10 rfl (lv_at hl 1 rfl) ?_
  refine va_get (D := g.1) (ci := 1) (v := .ref a1) (C := RX1) (T := TX1) (N := 5) hx hb hts iX1 hown hK.1 hP 0 rfl rfl 0 (by decide) f9 (fun _ h9 => h9) rfl dX1_add_11 ?_
  refine lv_iload_n hx hb dX1_add_14 rfl (lv_at hl 0 rfl) ?_
  refine lv_iload_n hx hb dX1_add_15 rfl (lv_at hl 2 rfl) ?_
  obtain ⟨hi, h⟩ := gdi h
  refine va_iast (D := g.1) hx hb hK.1 hP hD hS 1 0 rfl rfl hi dX1_add_16 (fun H locs hP hD hS => ?_)
  have hP : va_P g.1 vwCl (wV g a0 a1 a2 top kep don (upd vc (r6).toNatClampNeg x1) vf) H := hP
  have hD : va_D A (wV g a0 a1 a2 top kep don (upd vc (r6).toNatClampNeg x1) vf) := hD
  refine lv_aload_n hx hb dX1_add_17 rfl (lv_at hl 1 rfl) ?_
  refine va_get (D := g.1) (ci := 1) (v := .ref a2) (C := RX1) (T := TX1) (N := 5) hx hb hts iX1 hown hK.1 hP 0 rfl rfl 1 (by decide) f15 (fun _ h9 => h9) rfl dX1_add_18 ?_
  refine lv_iload_n hx hb dX1_add_21 rfl (lv_at hl 0 rfl) ?_
  refine lv_iload_n hx hb dX1_add_22 rfl (lv_at hl 3 rfl) ?_
  obtain ⟨hi, h⟩ := gdi h
  refine va_iast (D := g.1) hx hb hK.1 hP hD hS 2 0 rfl rfl hi dX1_add_23 (fun H locs hP hD hS => ?_)
  have hP : va_P g.1 vwCl (wV g a0 a1 a2 top kep don (upd vc (r6).toNatClampNeg x1) (upd vf (r6).toNatClampNeg x2)) H := hP
  have hD : va_D A (wV g a0 a1 a2 top kep don (upd vc (r6).toNatClampNeg x1) (upd vf (r6).toNatClampNeg x2)) := hD
  refine lv_aload_n hx hb dX1_add_24 rfl (lv_at hl 1 rfl) ?_
  refine lv_dup hx hb dX1_add_25 rfl ?_
  refine va_get (D := g.1) (ci := 1) (v := .int top) (C := RX1) (T := TX1) (N := 5) hx hb hts iX1 hown hK.1 hP 0 rfl rfl 2 (by decide) f18 (fun _ h9 => h9) rfl dX1_add_26 ?_
  refine lv_iconst (v := 1) hx hb dX1_add_29 (by decide) ?_
  refine lv_iadd hx hb dX1_add_30 ?_
  refine va_put (D := g.1) (ci := 1) (v := .int (top + (1 : Int32))) (ty := .int) (C := RX1) (T := TX1) (N := 5) hx hb hts iX1 tyX1 tyX1_ok nmX1 hown hK.1 hP hD hS 0 rfl rfl 2 (by decide) f18 (fun _ h9 => h9) rfl (by decide +kernel) rfl rfl (Nat.le_of_ble_eq_true rfl) dX1_add_31 (fun H locs hP hD hS => ?_)
  have hP : va_P g.1 vwCl (wV g a0 a1 a2 (top + (1 : Int32)) kep don (upd vc (r6).toNatClampNeg x1) (upd vf (r6).toNatClampNeg x2)) H := hP
  have hD : va_D A (wV g a0 a1 a2 (top + (1 : Int32)) kep don (upd vc (r6).toNatClampNeg x1) (upd vf (r6).toNatClampNeg x2)) := hD
  refine lv_aload_n hx hb dX1_add_34 rfl (lv_at hl 1 rfl) ?_
  refine lv_aload_n hx hb dX1_add_35 rfl (lv_at hl 1 rfl) ?_
  refine va_get (D := g.1) (ci := 1) (v := .int kep) (C := RX1) (T := TX1) (N := 5) hx hb hts iX1 hown hK.1 hP 0 rfl rfl 3 (by decide) f28 (fun _ h9 => h9) rfl dX1_add_36 ?_
  refine lv_iconst (v := 1) hx hb dX1_add_39 (by decide) ?_
  refine lv_iadd hx hb dX1_add_40 ?_
  refine lv_bipush (v := 100) hx hb dX1_add_41 (by decide) ?_
  refine va_mmin hx hb (hml.trans hl.1.symm) hown m31_0 m31_1 m31_2 m31_3 (Nat.le_of_ble_eq_true rfl) (Nat.le_of_ble_eq_true rfl) (Nat.zero_le _) (Nat.zero_le _) dX1_add_43 ?_
  refine va_put (D := g.1) (ci := 1) (v := .int (if (100 : Int32) < (kep + (1 : Int32)) then (100 : Int32) else (kep + (1 : Int32)))) (ty := .int) (C := RX1) (T := TX1) (N := 5) hx hb hts iX1 tyX1 tyX1_ok nmX1 hown hK.1 hP hD hS 0 rfl rfl 3 (by decide) f28 (fun _ h9 => h9) rfl (by decide +kernel) rfl rfl (Nat.le_of_ble_eq_true rfl) dX1_add_46 (fun H locs hP hD hS => ?_)
  have hP : va_P g.1 vwCl (wV g a0 a1 a2 (top + (1 : Int32)) (if (100 : Int32) < (kep + (1 : Int32)) then (100 : Int32) else (kep + (1 : Int32))) don (upd vc (r6).toNatClampNeg x1) (upd vf (r6).toNatClampNeg x2)) H := hP
  have hD : va_D A (wV g a0 a1 a2 (top + (1 : Int32)) (if (100 : Int32) < (kep + (1 : Int32)) then (100 : Int32) else (kep + (1 : Int32))) don (upd vc (r6).toNatClampNeg x1) (upd vf (r6).toNatClampNeg x2)) := hD
  refine lv_aload_n hx hb dX1_add_49 rfl (lv_at hl 1 rfl) ?_
  refine lv_dup hx hb dX1_add_50 rfl ?_
  refine va_get (D := g.1) (ci := 1) (v := .int don) (C := RX1) (T := TX1) (N := 5) hx hb hts iX1 hown hK.1 hP 0 rfl rfl 4 (by decide) f34 (fun _ h9 => h9) rfl dX1_add_51 ?_
  refine lv_iconst (v := 1) hx hb dX1_add_54 (by decide) ?_
  refine lv_iadd hx hb dX1_add_55 ?_
  refine va_put (D := g.1) (ci := 1) (v := .int (don + (1 : Int32))) (ty := .int) (C := RX1) (T := TX1) (N := 5) hx hb hts iX1 tyX1 tyX1_ok nmX1 hown hK.1 hP hD hS 0 rfl rfl 4 (by decide) f34 (fun _ h9 => h9) rfl (by decide +kernel) rfl rfl (Nat.le_of_ble_eq_true rfl) dX1_add_56 (fun H locs hP hD hS => ?_)
  have hP : va_P g.1 vwCl (wV g a0 a1 a2 (top + (1 : Int32)) (if (100 : Int32) < (kep + (1 : Int32)) then (100 : Int32) else (kep + (1 : Int32))) (don + (1 : Int32)) (upd vc (r6).toNatClampNeg x1) (upd vf (r6).toNatClampNeg x2)) H := hP
  have hD : va_D A (wV g a0 a1 a2 (top + (1 : Int32)) (if (100 : Int32) < (kep + (1 : Int32)) then (100 : Int32) else (kep + (1 : Int32))) (don + (1 : Int32)) (upd vc (r6).toNatClampNeg x1) (upd vf (r6).toNatClampNeg x2)) := hD
  cases h
  exact retMv hx hb hr hlocks hP hD hS dX1_add_59
-- LandBoard$Moves.latestCell
set_option maxHeartbeats 4000000 in
set_option maxRecDepth 100000 in
theorem ctX1_latestCell (l : Launch) (g : GG) (a0 a1 a2 : Nat)  (top : Int32) (kep : Int32) (don : Int32) (vc : (Nat → Int32)) (vf : (Nat → Int32)) (res : Int32) (h : fX1_latestCell top vc = some res) : MP l yX1_latestCell wsX1_latestCell ({ frames := 1, cells := 0, slots := 0, locals := 22 }) g [.ref a0] (wV g a0 a1 a2 top kep don vc vf) (.int res) := by
  refine MP.of (cc := cX1_latestCell) (own := RX1) 1 (some .int) (by decide +kernel) rfl (Nat.le_of_ble_eq_true rfl) rfl ?_
  intro p e s m args below meth c hx hb hr hml hown hts hlocks hP hK ls hl
  have S : CallFix p m c cX1_latestCell 1 s args wsX1_latestCell RX1 := ⟨hx, hb, hml, hown, hts⟩
  have hl : lv_has ls 1 [(0, .ref a0)] := hl
  have f9 := hts (.fieldLink RX1 9 "LandBoard$Moves" "cells" "[I") (by decide +kernel)
  have iX1 := (by decide +kernel : ∀ w ∈ u_ws RX1 TX1 5, w ∈ wsX1_latestCell)
  have f18 := hts (.fieldLink RX1 18 "LandBoard$Moves" "top" "I") (by decide +kernel)
  refine lv_aload_n hx hb dX1_latestCell_0 rfl (lv_at hl 0 rfl) ?_
  refine va_get (D := g.1) (ci := 1) (v := .ref a1) (C := RX1) (T := TX1) (N := 5) hx hb hts iX1 hown hK.1 hP 0 rfl rfl 0 (by decide) f9 (fun _ h9 => h9) rfl dX1_latestCell_1 ?_
  refine lv_aload_n hx hb dX1_latestCell_4 rfl (lv_at hl 0 rfl) ?_
  refine va_get (D := g.1) (ci := 1) (v := .int top) (C := RX1) (T := TX1) (N := 5) hx hb hts iX1 hown hK.1 hP 0 rfl rfl 2 (by decide) f18 (fun _ h9 => h9) rfl dX1_latestCell_5 ?_
  refine lv_iconst (v := 1) hx hb dX1_latestCell_8 (by decide) ?_
  refine lv_isub hx hb dX1_latestCell_9 ?_
  refine lv_bipush (v := 100) hx hb dX1_latestCell_10 (by decide) ?_
  obtain ⟨r12, hr12, h⟩ := gdb h
  refine kPS (As := [.int (top - (1 : Int32)), .int (100 : Int32)]) (rest := [.ref a1]) S (ctJ9_floorMod_7cf53 l g (top - (1 : Int32)) (100 : Int32)  r12 hr12) (va_cwS 2 hts gX1_latestCell_J9_floorMod_7cf53 rfl rfl rfl (by decide +kernel) ⟨Nat.le_of_ble_eq_true rfl, Nat.le_of_ble_eq_true rfl⟩) hK rfl rfl hl.1 rfl (Nat.le_of_ble_eq_true rfl) dX1_latestCell_12 ⟨Nat.zero_le _, Nat.zero_le _⟩ ?_
  obtain ⟨hi, h⟩ := gdi h
  refine va_iald (D := g.1) hx hb hK.1 hP 1 0 rfl rfl hi dX1_latestCell_15 ?_
  cases h
  exact retPi hx hb hr hlocks dX1_latestCell_16
-- LandBoard$Moves.latestFrom
set_option maxHeartbeats 4000000 in
set_option maxRecDepth 100000 in
theorem ctX1_latestFrom (l : Launch) (g : GG) (a0 a1 a2 : Nat)  (top : Int32) (kep : Int32) (don : Int32) (vc : (Nat → Int32)) (vf : (Nat → Int32)) (res : Int32) (h : fX1_latestFrom top vf = some res) : MP l yX1_latestFrom wsX1_latestFrom ({ frames := 1, cells := 0, slots := 0, locals := 22 }) g [.ref a0] (wV g a0 a1 a2 top kep don vc vf) (.int res) := by
  refine MP.of (cc := cX1_latestFrom) (own := RX1) 1 (some .int) (by decide +kernel) rfl (Nat.le_of_ble_eq_true rfl) rfl ?_
  intro p e s m args below meth c hx hb hr hml hown hts hlocks hP hK ls hl
  have S : CallFix p m c cX1_latestFrom 1 s args wsX1_latestFrom RX1 := ⟨hx, hb, hml, hown, hts⟩
  have hl : lv_has ls 1 [(0, .ref a0)] := hl
  have f15 := hts (.fieldLink RX1 15 "LandBoard$Moves" "froms" "[I") (by decide +kernel)
  have iX1 := (by decide +kernel : ∀ w ∈ u_ws RX1 TX1 5, w ∈ wsX1_latestFrom)
  have f18 := hts (.fieldLink RX1 18 "LandBoard$Moves" "top" "I") (by decide +kernel)
  refine lv_aload_n hx hb dX1_latestFrom_0 rfl (lv_at hl 0 rfl) ?_
  refine va_get (D := g.1) (ci := 1) (v := .ref a2) (C := RX1) (T := TX1) (N := 5) hx hb hts iX1 hown hK.1 hP 0 rfl rfl 1 (by decide) f15 (fun _ h9 => h9) rfl dX1_latestFrom_1 ?_
  refine lv_aload_n hx hb dX1_latestFrom_4 rfl (lv_at hl 0 rfl) ?_
  refine va_get (D := g.1) (ci := 1) (v := .int top) (C := RX1) (T := TX1) (N := 5) hx hb hts iX1 hown hK.1 hP 0 rfl rfl 2 (by decide) f18 (fun _ h9 => h9) rfl dX1_latestFrom_5 ?_
  refine lv_iconst (v := 1) hx hb dX1_latestFrom_8 (by decide) ?_
  refine lv_isub hx hb dX1_latestFrom_9 ?_
  refine lv_bipush (v := 100) hx hb dX1_latestFrom_10 (by decide) ?_
  obtain ⟨r12, hr12, h⟩ := gdb h
  refine kPS (As := [.int (top - (1 : Int32)), .int (100 : Int32)]) (rest := [.ref a2]) S (ctJ9_floorMod_7cf53 l g (top - (1 : Int32)) (100 : Int32)  r12 hr12) (va_cwS 2 hts gX1_latestFrom_J9_floorMod_7cf53 rfl rfl rfl (by decide +kernel) ⟨Nat.le_of_ble_eq_true rfl, Nat.le_of_ble_eq_true rfl⟩) hK rfl rfl hl.1 rfl (Nat.le_of_ble_eq_true rfl) dX1_latestFrom_12 ⟨Nat.zero_le _, Nat.zero_le _⟩ ?_
  obtain ⟨hi, h⟩ := gdi h
  refine va_iald (D := g.1) hx hb hK.1 hP 2 0 rfl rfl hi dX1_latestFrom_15 ?_
  cases h
  exact retPi hx hb hr hlocks dX1_latestFrom_16
-- LandBoard$Moves.dropLatest
set_option maxHeartbeats 4000000 in
set_option maxRecDepth 100000 in
theorem ctX1_dropLatest (l : Launch) (g : GG) (a0 a1 a2 : Nat)  (top : Int32) (kep : Int32) (don : Int32) (vc : (Nat → Int32)) (vf : (Nat → Int32)) (res : Int32 × Int32) (h : fX1_dropLatest top kep = res) : MM l yX1_dropLatest wsX1_dropLatest ({ frames := 0, cells := 0, slots := 0, locals := 0 }) g [.ref a0] (wV g a0 a1 a2 top kep don vc vf) (wV g a0 a1 a2 res.1 res.2 don vc vf) none := by
  refine MM.of (cc := cX1_dropLatest) (own := RX1) 1 none (by decide +kernel) rfl (Nat.le_of_ble_eq_true rfl) rfl ?_
  intro p e s m args below meth c hx hb hr hml hown hts hlocks hK A hA ls hl hP hD hS
  have S : CallFix p m c cX1_dropLatest 1 s args wsX1_dropLatest RX1 := ⟨hx, hb, hml, hown, hts⟩
  have hl : lv_has ls 1 [(0, .ref a0)] := hl
  have f18 := hts (.fieldLink RX1 18 "LandBoard$Moves" "top" "I") (by decide +kernel)
  have iX1 := (by decide +kernel : ∀ w ∈ u_ws RX1 TX1 5, w ∈ wsX1_dropLatest)
  have f28 := hts (.fieldLink RX1 28 "LandBoard$Moves" "kept" "I") (by decide +kernel)
  refine lv_aload_n hx hb dX1_dropLatest_0 rfl (lv_at hl 0 rfl) ?_
  refine lv_dup hx hb dX1_dropLatest_1 rfl ?_
  refine va_get (D := g.1) (ci := 1) (v := .int top) (C := RX1) (T := TX1) (N := 5) hx hb hts iX1 hown hK.1 hP 0 rfl rfl 2 (by decide) f18 (fun _ h9 => h9) rfl dX1_dropLatest_2 ?_
  refine lv_iconst (v := 1) hx hb dX1_dropLatest_5 (by decide) ?_
  refine lv_isub hx hb dX1_dropLatest_6 ?_
  refine va_put (D := g.1) (ci := 1) (v := .int (top - (1 : Int32))) (ty := .int) (C := RX1) (T := TX1) (N := 5) hx hb hts iX1 tyX1 tyX1_ok nmX1 hown hK.1 hP hD hS 0 rfl rfl 2 (by decide) f18 (fun _ h9 => h9) rfl (by decide +kernel) rfl rfl (Nat.le_of_ble_eq_true rfl) dX1_dropLatest_7 (fun H locs hP hD hS => ?_)
  have hP : va_P g.1 vwCl (wV g a0 a1 a2 (top - (1 : Int32)) kep don vc vf) H := hP
  have hD : va_D A (wV g a0 a1 a2 (top - (1 : Int32)) kep don vc vf) := hD
  refine lv_aload_n hx hb dX1_dropLatest_10 rfl (lv_at hl 0 rfl) ?_
  refine lv_dup hx hb dX1_dropLatest_11 rfl ?_
  refine va_get (D := g.1) (ci := 1) (v := .int kep) (C := RX1) (T := TX1) (N := 5) hx hb hts iX1 hown hK.1 hP 0 rfl rfl 3 (by decide) f28 (fun _ h9 => h9) rfl dX1_dropLatest_12 ?_
  refine lv_iconst (v := 1) hx hb dX1_dropLatest_15 (by decide) ?_
  refine lv_isub hx hb dX1_dropLatest_16 ?_
  refine va_put (D := g.1) (ci := 1) (v := .int (kep - (1 : Int32))) (ty := .int) (C := RX1) (T := TX1) (N := 5) hx hb hts iX1 tyX1 tyX1_ok nmX1 hown hK.1 hP hD hS 0 rfl rfl 3 (by decide) f28 (fun _ h9 => h9) rfl (by decide +kernel) rfl rfl (Nat.le_of_ble_eq_true rfl) dX1_dropLatest_17 (fun H locs hP hD hS => ?_)
  have hP : va_P g.1 vwCl (wV g a0 a1 a2 (top - (1 : Int32)) (kep - (1 : Int32)) don vc vf) H := hP
  have hD : va_D A (wV g a0 a1 a2 (top - (1 : Int32)) (kep - (1 : Int32)) don vc vf) := hD
  subst h
  exact retMv hx hb hr hlocks hP hD hS dX1_dropLatest_20
