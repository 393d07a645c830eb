/-! the law: the calls on kept years -/
theorem LW_Y (g : GG) (a a2 : Nat → Nat) (ask : Int64) (gw : Int32) (gh : Int32) (gl : Nat → Int64) (top : Int32) (kep : Int32) (don : Int32) (vc : Nat → Int32) (vf : Nat → Int32) (bx : Int32) (tt : Int32) (pl : Nat → Int32) (we : Nat → Int32) (le : Nat → Int32) (ab : Nat → Int32) (rw : Nat → Int32) (ki : Nat → Int32) (ow : Nat → Int32) (wa : Nat → Int32) (yy : Nat → Option Nat) (mw : Int32) (mh : Int32) (mke : Int32) (mnx : Int32) (mdo : Int32) (mtr : Int64) (mma : Int32) (mto : Int32) (mah : Int32) (mrs : Int32) (mab : Int32) (ce : Nat → Int32) (mk : Nat → Int32) (mo : Nat → Int32) (mwa : Nat → Int32) (mmc : Nat → Int32) (mmf : Nat → Int32) (mhy : Nat → Int32) (myw : Nat → Int32) (myh : Nat → Int32) (myr : Nat → Int32) (mpi : Nat → Int32) (mme : Nat → Int32) (mde : Nat → Int32) (mwe : Nat → Int32) (mla : Nat → Int32) (ys : Nat → Option YT) : LW g a a2 ask gw gh gl top kep don vc vf bx tt pl we le ab rw ki ow wa yy mw mh mke mnx mdo mtr mma mto mah mrs mab ce mk mo mwa mmc mmf mhy myw myh myr mpi mme mde mwe mla ys = wBYc g a ask gw gh gl top kep don vc vf bx tt pl we le ab rw ki ow wa yy ++ (yG g ys ++ wM g a2 mw mh mke mnx mdo mtr mma mto mah mrs mab ce mk mo mwa mmc mmf mhy myw myh myr mpi mme mde mwe mla) := rfl
theorem wBYG_Y (g : GG) (a : Nat → Nat) (b0 b1 : Nat) (ask : Int64) (gw : Int32) (gh : Int32) (gl : Nat → Int64) (top : Int32) (kep : Int32) (don : Int32) (vc : Nat → Int32) (vf : Nat → Int32) (bx : Int32) (tt : Int32) (pl : Nat → Int32) (we : Nat → Int32) (le : Nat → Int32) (ab : Nat → Int32) (rw : Nat → Int32) (ki : Nat → Int32) (ow : Nat → Int32) (wa : Nat → Int32) (yy : Nat → Option Nat) (gw2 gh2 : Int32) (gl2 : Nat → Int64) : wBYG g a b0 b1 ask gw gh gl top kep don vc vf bx tt pl we le ab rw ki ow wa yy gw2 gh2 gl2 = wBYc g a ask gw gh gl top kep don vc vf bx tt pl we le ab rw ki ow wa yy ++ yM g (some (b0, b1, gw2, gh2, gl2)) := rfl
theorem p_new (g : GG) {x m : va_W} (ys : Nat → Option YT) {y : Nat} (q : YT) (hy : y < 4) : ((x ++ yM g (some q)) ++ (yG g (yBut ys y) ++ m)).Perm (x ++ (yG g (yPut ys y q) ++ m)) := by
  rw [List.append_assoc]
  refine List.Perm.append_left x ?_
  rw [← List.append_assoc]
  refine List.Perm.append_right m ?_
  have h := yG_at g (yPut ys y q) hy
  rw [yPut_at, yBut_put] at h
  exact h.symm
theorem p_old (g : GG) {x m : va_W} (ys : Nat → Option YT) {y : Nat} (q : YT) (hy : y < 4) (h : ys y = some q) : (x ++ (yG g ys ++ m)).Perm ((x ++ yM g (some q)) ++ (yG g (yBut ys y) ++ m)) := by
  rw [List.append_assoc]
  refine List.Perm.append_left x ?_
  rw [← List.append_assoc]
  refine List.Perm.append_right m ?_
  have h1 := yG_at g ys hy
  rw [h] at h1
  exact h1
theorem p_put (g : GG) {x m : va_W} (ys : Nat → Option YT) {y : Nat} (q : YT) (hy : y < 4) (h : ys y = none) : ((x ++ yM g (some q)) ++ (yG g ys ++ m)).Perm (x ++ (yG g (yPut ys y q) ++ m)) := by
  refine List.Perm.trans (List.Perm.append_left _ (List.Perm.append_right m ?_)) (p_new g ys q hy)
  have h1 := yG_at g ys hy
  rw [h] at h1
  exact h1
theorem yM_in (g : GG) (ys : Nat → Option YT) {y : Nat} (q : YT) (hy : y < 4) (h : ys y = some q) : ∀ z ∈ yM g (some q), z ∈ yG g ys := fun z hz => by
  have h1 := (yG_at g ys hy).mem_iff (a := z)
  rw [h] at h1
  exact h1.mpr (List.mem_append_left _ hz)
theorem RYo_kept {z : Nat} {o : Option YT} {mhy myw myh myr mhy1 myw1 myh1 myr1 : Nat → Int32} (h : RYo z o mhy myw myh myr) (e : mhy1 z = mhy z) (k : ∀ gw2 gh2 gl2, YR z gw2 gh2 gl2 myw myh myr → YR z gw2 gh2 gl2 myw1 myh1 myr1) : RYo z o mhy1 myw1 myh1 myr1 := by
  cases o with
  | none => exact e.trans h
  | some q => exact ⟨e.trans h.1, k _ _ _ h.2⟩
/-- a year is put: what is known of all of them -/
theorem put_yy {ys : Nat → Option YT} {yy yy1 : Nat → Option Nat} {y : Nat} {q : YT} (h : ∀ i, yy i = (ys i).map (fun q => q.1)) (h1 : yy1 y = some q.1) (h2 : ∀ i, i ≠ y → yy1 i = yy i) : ∀ i, yy1 i = (yPut ys y q i).map (fun q => q.1) := fun i => by
  unfold yPut
  by_cases e : i = y
  · rw [if_pos e, e, h1]; rfl
  · rw [if_neg e, h2 i e, h i]
theorem put_hi {ys : Nat → Option YT} {y : Nat} {q : YT} (hy : y < 4) (h : ∀ i, 4 ≤ i → ys i = none) : ∀ i, 4 ≤ i → yPut ys y q i = none := fun i hi => by
  unfold yPut
  rw [if_neg (by omega)]
  exact h i hi
theorem put_RY {ys : Nat → Option YT} {y : Nat} {q : YT} {mhy myw myh myr mhy1 myw1 myh1 myr1 : Nat → Int32} (h : ∀ z, z < 4 → RYo z (ys z) mhy myw myh myr) (h1 : RYo y (some q) mhy1 myw1 myh1 myr1) (k : ∀ z, z < 4 → z ≠ y → mhy1 z = mhy z ∧ ∀ gw2 gh2 gl2, YR z gw2 gh2 gl2 myw myh myr → YR z gw2 gh2 gl2 myw1 myh1 myr1) : ∀ z, z < 4 → RYo z (yPut ys y q z) mhy1 myw1 myh1 myr1 := fun z hz => by
  unfold yPut
  by_cases e : z = y
  · rw [if_pos e, e]; exact h1
  · rw [if_neg e]
    have := k z hz e
    exact RYo_kept (h z hz) this.1 this.2
section YCASES
variable {p : Program} {l : Launch} {e : Env} {s : State} {m : MethodId} {args : Array Value} {below : List Frame} {meth : Method} {c : Code} {Q : State → Prop} {g : GG} {a a2 : Nat → Nat} {b L n i : Nat} {xs : Nat → Int32} {H : Heap} {locs : List Loc} {cells slots : Nat} {ls : Array Slot}
set_option maxHeartbeats 4000000 in
set_option maxRecDepth 100000 in
theorem lc_keep (C0 : LCx p s m args c b L xs) (hK : Kx g s) (hI : LI g a a2 (fun q : Nat => s.heap.size ≤ q) n H) (hS : va_S (fun q : Nat => s.heap.size ≤ q) s.heap H locs) (hl : lv_has ls 4 [(0, .ref b), (1, .ref (a 0)), (2, .ref (a2 0)), (3, .int (nI i))]) (hi : i + 5 ≤ L) (hn : n ≤ 512) (hf : cells + 2 ≤ 600000 ∧ slots + 9 ≤ 7302250) (kk : ∀ (H1 : Heap) (locs1 : List Loc), LI g a a2 (fun q : Nat => s.heap.size ≤ q) (n + 1) H1 → va_S (fun q : Nat => s.heap.size ≤ q) s.heap H1 locs1 → W p l e room_1 s m args below meth c H1 locs1 (cells + 2) (slots + 9) Q (F0 m 877 ls [])) : W p l e room_1 s m args below meth c H locs cells slots Q (F0 m 761 ls []) := by
  obtain ⟨hx, hb, hml, hown, hts, hX, hbl, hL⟩ := C0
  have S : CallFix p m c cL_law 4 s args wsL_law RL := ⟨hx, hb, hml, hown, hts⟩
  have hA : ∀ q : Nat, s.heap.size ≤ q → (fun q : Nat => s.heap.size ≤ q) q := fun _ h => h
  have hbA : ¬ (fun q : Nat => s.heap.size ≤ q) b := Nat.not_le.mpr hbl
  obtain ⟨ask, gw, gh, gl, top, kep, don, vc, vf, bx, tt, pl, we, le, ab, rw, ki, ow, wa, yy, mw, mh, mke, mnx, mdo, mtr, mma, mto, mah, mrs, mab, ce, mk, mo, mwa, mmc, mmf, mhy, myw, myh, myr, mpi, mme, mde, mwe, mla, ys, hB, hy1, hy2, hy3, hP, hD⟩ := hI
  have hf0 : cells ≤ room_1.cells ∧ slots ≤ room_1.slots := ⟨Nat.le_trans (Nat.le_add_right _ 2) hf.1, Nat.le_trans (Nat.le_add_right _ 9) hf.2⟩
  have x0 : (xs (i + 1)).toNatClampNeg = (xs (i + 1)).toNatClampNeg := rfl
  refine lv_aload_n hx hb dL_law_761 rfl (lv_at hl 1 rfl) ?_
  refine ldx hx hb hX hbl hbA hS hi hL (j := 1) (by omega) (lv_at hl 0 rfl) (lv_at hl 3 rfl) dL_law_762 dL_law_763 dL_law_764 dL_law_765 dL_law_766 ?_
  rcases year_c (xs (i + 1)) with ⟨y, hy, ex, e3, e4⟩ | ⟨e3, e4⟩
  · have exn : (xs (i + 1)).toNatClampNeg = y := by rw [ex]; exact nI_clamp (by omega)
    obtain ⟨r, gl1, mhy1, myw1, myh1, myr1, k1, k2, k3, k4, k5, k6⟩ := b_keep hB hy mhy myw myh myr
    rw [← ex] at k1 k4
    have hyy := hy1 y
    cases hq : ys y with
    | none =>
      rw [hq] at hyy
      refine lRV (As := [.int (xs (i + 1))]) (rest := []) (ci := 3) S (ctX3_keepN l g a (xs (i + 1)) ask gw gh gl top kep don vc vf bx tt pl we le ab rw ki ow wa yy (by rw [e3]; decide) (by rw [exn]; exact hyy) (r, gw, gh, gl1) k1) (cwV 1 hts gL_law_X3_keep rfl rfl rfl (by decide +kernel) ⟨Nat.le_of_ble_eq_true rfl, Nat.le_of_ble_eq_true rfl⟩) hK hP hD hS hA (wr := yG g ys ++ wM g a2 mw mh mke mnx mdo mtr mma mto mah mrs mab ce mk mo mwa mmc mmf mhy myw myh myr mpi mme mde mwe mla) (by rw [LW_Y]) rfl rfl rfl rfl hl.1 rfl (Nat.le_of_ble_eq_true rfl) dL_law_767 hf (fun as H locs hP hD hS => ?_)
      have pp : (wBYG g a (as.getD 0 0) (as.getD 1 0) ask gw gh gl top kep don vc vf bx tt pl we le ab rw ki ow wa (va_up yy (xs (i + 1)).toNatClampNeg (some (as.getD 0 0))) gw gh gl1 ++ (yG g ys ++ wM g a2 mw mh mke mnx mdo mtr mma mto mah mrs mab ce mk mo mwa mmc mmf mhy myw myh myr mpi mme mde mwe mla)).Perm (LW g a a2 ask gw gh gl top kep don vc vf bx tt pl we le ab rw ki ow wa (va_up yy (xs (i + 1)).toNatClampNeg (some (as.getD 0 0))) mw mh mke mnx mdo mtr mma mto mah mrs mab ce mk mo mwa mmc mmf mhy myw myh myr mpi mme mde mwe mla (yPut ys y (as.getD 0 0, as.getD 1 0, gw, gh, gl1))) := by rw [LW_Y, wBYG_Y]; exact p_put g ys (y := y) (as.getD 0 0, as.getD 1 0, gw, gh, gl1) hy hq
      have hP := P_perm pp hP
      have hD := D_perm pp hD
      refine lv_aload_n hx hb dL_law_770 rfl (lv_at hl 2 rfl) ?_
      refine ldx hx hb hX hbl hbA hS hi hL (j := 1) (by omega) (lv_at hl 0 rfl) (lv_at hl 3 rfl) dL_law_771 dL_law_772 dL_law_773 dL_law_774 dL_law_775 ?_
      refine lMV (As := [.int (xs (i + 1))]) (rest := [.int r]) (ci := 4) S (ctX4_keep l g a2 (xs (i + 1)) mw mh mke mnx mdo mtr mma mto mah mrs mab ce mk mo mwa mmc mmf mhy myw myh myr mpi mme mde mwe mla (r, mhy1, myw1, myh1, myr1) k4) (cwV 1 hts gL_law_X4_keep rfl rfl rfl (by decide +kernel) ⟨Nat.le_of_ble_eq_true rfl, Nat.le_of_ble_eq_true rfl⟩) hK hP hD hS hA (wr := _) (p_back) rfl rfl rfl rfl hl.1 rfl (Nat.le_of_ble_eq_true rfl) dL_law_776 hf (fun H locs hP hD hS => ?_)
      have hP := P_perm p_back.symm hP
      have hD := D_perm p_back.symm hD
      refine lv_icmp_eq (tgt := 877) hx hb dL_law_779 (by decide) (fun _ => ?_) (fun h9 => absurd rfl h9)
      exact kk _ _ ⟨_, _, _, _, _, _, _, _, _, _, _, _, _, _, _, _, _, _, _, _, _, _, _, _, _, _, _, _, _, _, _, _, _, _, _, _, _, _, _, _, _, _, _, _, _, _, _, (hB.more (by omega)), (put_yy (y := y) hy1 (by rw [exn]; exact va_up_self _ _ _) (fun j hj => by rw [exn]; exact va_up_ne _ _ hj)), (put_hi hy hy2), (put_RY hy3 ⟨k5, k2⟩ k6), hP, hD⟩ hS
    | some q =>
      rw [hq] at hyy
      obtain ⟨gl2, k7, k8⟩ := k3 q.2.2.1 q.2.2.2.1 q.2.2.2.2
      rw [← ex] at k7
      have po : (LW g a a2 ask gw gh gl top kep don vc vf bx tt pl we le ab rw ki ow wa yy mw mh mke mnx mdo mtr mma mto mah mrs mab ce mk mo mwa mmc mmf mhy myw myh myr mpi mme mde mwe mla ys).Perm (wBYG g a q.1 q.2.1 ask gw gh gl top kep don vc vf bx tt pl we le ab rw ki ow wa yy q.2.2.1 q.2.2.2.1 q.2.2.2.2 ++ (yG g (yBut ys y) ++ wM g a2 mw mh mke mnx mdo mtr mma mto mah mrs mab ce mk mo mwa mmc mmf mhy myw myh myr mpi mme mde mwe mla)) := by rw [LW_Y, wBYG_Y]; exact p_old g ys q hy hq
      refine lMV (As := [.int (xs (i + 1))]) (rest := []) (ci := 3) S (ctX3_keepO l g a q.1 q.2.1 (xs (i + 1)) ask gw gh gl top kep don vc vf bx tt pl we le ab rw ki ow wa yy q.2.2.1 q.2.2.2.1 q.2.2.2.2 (by rw [exn]; exact hyy) (r, gw, gh, gl2) k7) (cwV 1 hts gL_law_X3_keep rfl rfl rfl (by decide +kernel) ⟨Nat.le_of_ble_eq_true rfl, Nat.le_of_ble_eq_true rfl⟩) hK hP hD hS hA (wr := yG g (yBut ys y) ++ wM g a2 mw mh mke mnx mdo mtr mma mto mah mrs mab ce mk mo mwa mmc mmf mhy myw myh myr mpi mme mde mwe mla) po rfl rfl rfl rfl hl.1 rfl (Nat.le_of_ble_eq_true rfl) dL_law_767 hf0 (fun H locs hP hD hS => ?_)
      have pp : (wBYG g a q.1 q.2.1 ask gw gh gl top kep don vc vf bx tt pl we le ab rw ki ow wa yy gw gh gl2 ++ (yG g (yBut ys y) ++ wM g a2 mw mh mke mnx mdo mtr mma mto mah mrs mab ce mk mo mwa mmc mmf mhy myw myh myr mpi mme mde mwe mla)).Perm (LW g a a2 ask gw gh gl top kep don vc vf bx tt pl we le ab rw ki ow wa yy mw mh mke mnx mdo mtr mma mto mah mrs mab ce mk mo mwa mmc mmf mhy myw myh myr mpi mme mde mwe mla (yPut ys y (q.1, q.2.1, gw, gh, gl2))) := by rw [LW_Y, wBYG_Y]; exact p_new g ys (y := y) (q.1, q.2.1, gw, gh, gl2) hy
      have hP := P_perm pp hP
      have hD := D_perm pp hD
      refine lv_aload_n hx hb dL_law_770 rfl (lv_at hl 2 rfl) ?_
      refine ldx hx hb hX hbl hbA hS hi hL (j := 1) (by omega) (lv_at hl 0 rfl) (lv_at hl 3 rfl) dL_law_771 dL_law_772 dL_law_773 dL_law_774 dL_law_775 ?_
      refine lMV (As := [.int (xs (i + 1))]) (rest := [.int r]) (ci := 4) S (ctX4_keep l g a2 (xs (i + 1)) mw mh mke mnx mdo mtr mma mto mah mrs mab ce mk mo mwa mmc mmf mhy myw myh myr mpi mme mde mwe mla (r, mhy1, myw1, myh1, myr1) k4) (cwV 1 hts gL_law_X4_keep rfl rfl rfl (by decide +kernel) ⟨Nat.le_of_ble_eq_true rfl, Nat.le_of_ble_eq_true rfl⟩) hK hP hD hS hA (wr := _) (p_back) rfl rfl rfl rfl hl.1 rfl (Nat.le_of_ble_eq_true rfl) dL_law_776 hf0 (fun H locs hP hD hS => ?_)
      have hP := P_perm p_back.symm hP
      have hD := D_perm p_back.symm hD
      refine lv_icmp_eq (tgt := 877) hx hb dL_law_779 (by decide) (fun _ => ?_) (fun h9 => absurd rfl h9)
      refine W.widen (k := cells + 2) (n := slots + 9) (Nat.le_add_right _ 2) (Nat.le_add_right _ 9) ?_
      exact kk _ _ ⟨_, _, _, _, _, _, _, _, _, _, _, _, _, _, _, _, _, _, _, _, _, _, _, _, _, _, _, _, _, _, _, _, _, _, _, _, _, _, _, _, _, _, _, _, _, _, _, (hB.more (by omega)), (put_yy (y := y) (q := (q.1, q.2.1, gw, gh, gl2)) hy1 hyy (fun j _ => rfl)), (put_hi hy hy2), (put_RY hy3 ⟨k5, k8⟩ k6), hP, hD⟩ hS
  · refine lPV (As := [.int (xs (i + 1))]) (rest := []) (ci := 3) S (ctX3_keepB l g a (xs (i + 1)) ask gw gh gl top kep don vc vf bx tt pl we le ab rw ki ow wa yy e3 (-1) rfl) (cwV 1 hts gL_law_X3_keep rfl rfl rfl (by decide +kernel) ⟨Nat.le_of_ble_eq_true rfl, Nat.le_of_ble_eq_true rfl⟩) hK hP (fun q h => by rw [LW_Y]; exact List.mem_append_left _ h) rfl rfl rfl rfl hl.1 rfl (Nat.le_of_ble_eq_true rfl) dL_law_767 hf0 ?_
    refine lv_aload_n hx hb dL_law_770 rfl (lv_at hl 2 rfl) ?_
    refine ldx hx hb hX hbl hbA hS hi hL (j := 1) (by omega) (lv_at hl 0 rfl) (lv_at hl 3 rfl) dL_law_771 dL_law_772 dL_law_773 dL_law_774 dL_law_775 ?_
    refine lMV (As := [.int (xs (i + 1))]) (rest := [.int (-1)]) (ci := 4) S (ctX4_keep l g a2 (xs (i + 1)) mw mh mke mnx mdo mtr mma mto mah mrs mab ce mk mo mwa mmc mmf mhy myw myh myr mpi mme mde mwe mla (-1, mhy, myw, myh, myr) (b_keep0 _ e4)) (cwV 1 hts gL_law_X4_keep rfl rfl rfl (by decide +kernel) ⟨Nat.le_of_ble_eq_true rfl, Nat.le_of_ble_eq_true rfl⟩) hK hP hD hS hA (wr := _) (p_back) rfl rfl rfl rfl hl.1 rfl (Nat.le_of_ble_eq_true rfl) dL_law_776 hf0 (fun H locs hP hD hS => ?_)
    have hP := P_perm p_back.symm hP
    have hD := D_perm p_back.symm hD
    refine lv_icmp_eq (tgt := 877) hx hb dL_law_779 (by decide) (fun _ => ?_) (fun h9 => absurd rfl h9)
    refine W.widen (k := cells + 2) (n := slots + 9) (Nat.le_add_right _ 2) (Nat.le_add_right _ 9) ?_
    exact kk _ _ ⟨_, _, _, _, _, _, _, _, _, _, _, _, _, _, _, _, _, _, _, _, _, _, _, _, _, _, _, _, _, _, _, _, _, _, _, _, _, _, _, _, _, _, _, _, _, _, _, (hB.more (by omega)), hy1, hy2, hy3, hP, hD⟩ hS
set_option maxHeartbeats 4000000 in
set_option maxRecDepth 100000 in
theorem lc_back (C0 : LCx p s m args c b L xs) (hK : Kx g s) (hI : LI g a a2 (fun q : Nat => s.heap.size ≤ q) n H) (hS : va_S (fun q : Nat => s.heap.size ≤ q) s.heap H locs) (hl : lv_has ls 4 [(0, .ref b), (1, .ref (a 0)), (2, .ref (a2 0)), (3, .int (nI i))]) (hi : i + 5 ≤ L) (hn : n ≤ 512) (hf : cells + 2 ≤ 600000 ∧ slots + 9 ≤ 7302250) (kk : ∀ (H1 : Heap) (locs1 : List Loc), LI g a a2 (fun q : Nat => s.heap.size ≤ q) (n + 1) H1 → va_S (fun q : Nat => s.heap.size ≤ q) s.heap H1 locs1 → W p l e room_1 s m args below meth c H1 locs1 (cells + 2) (slots + 9) Q (F0 m 877 ls [])) : W p l e room_1 s m args below meth c H locs cells slots Q (F0 m 784 ls []) := by
  obtain ⟨hx, hb, hml, hown, hts, hX, hbl, hL⟩ := C0
  have S : CallFix p m c cL_law 4 s args wsL_law RL := ⟨hx, hb, hml, hown, hts⟩
  have hA : ∀ q : Nat, s.heap.size ≤ q → (fun q : Nat => s.heap.size ≤ q) q := fun _ h => h
  have hbA : ¬ (fun q : Nat => s.heap.size ≤ q) b := Nat.not_le.mpr hbl
  obtain ⟨ask, gw, gh, gl, top, kep, don, vc, vf, bx, tt, pl, we, le, ab, rw, ki, ow, wa, yy, mw, mh, mke, mnx, mdo, mtr, mma, mto, mah, mrs, mab, ce, mk, mo, mwa, mmc, mmf, mhy, myw, myh, myr, mpi, mme, mde, mwe, mla, ys, hB, hy1, hy2, hy3, hP, hD⟩ := hI
  have hf0 : cells ≤ room_1.cells ∧ slots ≤ room_1.slots := ⟨Nat.le_trans (Nat.le_add_right _ 2) hf.1, Nat.le_trans (Nat.le_add_right _ 9) hf.2⟩
  refine lv_aload_n hx hb dL_law_784 rfl (lv_at hl 1 rfl) ?_
  refine ldx hx hb hX hbl hbA hS hi hL (j := 1) (by omega) (lv_at hl 0 rfl) (lv_at hl 3 rfl) dL_law_785 dL_law_786 dL_law_787 dL_law_788 dL_law_789 ?_
  have hyy := hy1 (xs (i + 1)).toNatClampNeg
  cases hq : ys (xs (i + 1)).toNatClampNeg with
  | none =>
    rw [hq] at hyy
    have key : ∃ r, fX3_backN (xs (i + 1)) = some r ∧ fX4_back (xs (i + 1)) mw mh mke ce mk mo mhy myw myh myr = some (r, mw, mh, mke, ce, mk, mo) := by
      rcases year_c (xs (i + 1)) with ⟨y, hy, ex, e3, e4⟩ | ⟨e3, e4⟩
      · have exn : (xs (i + 1)).toNatClampNeg = y := by rw [ex]; exact nI_clamp (by omega)
        have h0 := hy3 y hy
        rw [← exn, hq, exn] at h0
        rw [ex]
        exact ⟨_, b_backN hy h0⟩
      · have h0 := b_back0 (gw := gw) (gh := gh) (gl := gl) (kep := kep) (ki := ki) (ow := ow) (mw := mw) (mh := mh) (mke := mke) (ce := ce) (mk := mk) (mo := mo) (mhy := mhy) (myw := myw) (myh := myh) (myr := myr) _ e3 e4
        exact ⟨_, h0.1, h0.2.2⟩
    obtain ⟨r, k1, k2⟩ := key
    refine lPV (As := [.int (xs (i + 1))]) (rest := []) (ci := 3) S (ctX3_backN l g a (xs (i + 1)) ask gw gh gl top kep don vc vf bx tt pl we le ab rw ki ow wa yy hyy r k1) (cwV 1 hts gL_law_X3_back rfl rfl rfl (by decide +kernel) ⟨Nat.le_of_ble_eq_true rfl, Nat.le_of_ble_eq_true rfl⟩) hK hP (fun q h => by rw [LW_Y]; exact List.mem_append_left _ h) rfl rfl rfl rfl hl.1 rfl (Nat.le_of_ble_eq_true rfl) dL_law_790 hf0 ?_
    refine lv_aload_n hx hb dL_law_793 rfl (lv_at hl 2 rfl) ?_
    refine ldx hx hb hX hbl hbA hS hi hL (j := 1) (by omega) (lv_at hl 0 rfl) (lv_at hl 3 rfl) dL_law_794 dL_law_795 dL_law_796 dL_law_797 dL_law_798 ?_
    refine lMV (As := [.int (xs (i + 1))]) (rest := [.int r]) (ci := 4) S (ctX4_back l g a2 (xs (i + 1)) mw mh mke mnx mdo mtr mma mto mah mrs mab ce mk mo mwa mmc mmf mhy myw myh myr mpi mme mde mwe mla (r, mw, mh, mke, ce, mk, mo) k2) (cwV 1 hts gL_law_X4_back rfl rfl rfl (by decide +kernel) ⟨Nat.le_of_ble_eq_true rfl, Nat.le_of_ble_eq_true rfl⟩) hK hP hD hS hA (wr := _) (p_back) rfl rfl rfl rfl hl.1 rfl (Nat.le_of_ble_eq_true rfl) dL_law_799 hf0 (fun H locs hP hD hS => ?_)
    have hP := P_perm p_back.symm hP
    have hD := D_perm p_back.symm hD
    refine lv_icmp_eq (tgt := 877) hx hb dL_law_802 (by decide) (fun _ => ?_) (fun h9 => absurd rfl h9)
    refine W.widen (k := cells + 2) (n := slots + 9) (Nat.le_add_right _ 2) (Nat.le_add_right _ 9) ?_
    exact kk _ _ ⟨_, _, _, _, _, _, _, _, _, _, _, _, _, _, _, _, _, _, _, _, _, _, _, _, _, _, _, _, _, _, _, _, _, _, _, _, _, _, _, _, _, _, _, _, _, _, _, (hB.more (by omega)), hy1, hy2, hy3, hP, hD⟩ hS
  | some q =>
    rw [hq] at hyy
    have hj : (xs (i + 1)).toNatClampNeg < 4 := by
      refine Nat.lt_of_not_le (fun h => ?_)
      rw [hy2 _ h] at hq
      cases hq
    have key : ∃ r gw1 gh1 gl1 kep1 ki1 ow1 mw1 mh1 mke1 ce1 mk1 mo1, fX3_backO (xs (i + 1)) gw gh gl kep ki ow q.2.2.1 q.2.2.2.1 q.2.2.2.2 = some (r, gw1, gh1, gl1, kep1, ki1, ow1) ∧ fX4_back (xs (i + 1)) mw mh mke ce mk mo mhy myw myh myr = some (r, mw1, mh1, mke1, ce1, mk1, mo1) ∧ BoR (64 * n) ask gw1 gh1 gl1 top kep1 don vc vf ki1 ow1 wa mw1 mh1 mke1 mnx mdo mtr ce1 mk1 mo1 mwa mmc mmf := by
      rcases year_c (xs (i + 1)) with ⟨y, hy, ex, e3, e4⟩ | ⟨e3, e4⟩
      · have exn : (xs (i + 1)).toNatClampNeg = y := by rw [ex]; exact nI_clamp (by omega)
        have h0 := hy3 y hy
        rw [← exn, hq, exn] at h0
        obtain ⟨r, gl1, kep1, ki1, ow1, mke1, ce1, mk1, mo1, k1, k2, k3⟩ := b_backO hB hy h0.1 h0.2
        rw [← ex] at k1 k2
        exact ⟨_, _, _, _, _, _, _, _, _, _, _, _, _, k1, k2, k3⟩
      · have h0 := b_back0 (gw := gw) (gh := gh) (gl := gl) (kep := kep) (ki := ki) (ow := ow) (mw := mw) (mh := mh) (mke := mke) (ce := ce) (mk := mk) (mo := mo) (mhy := mhy) (myw := myw) (myh := myh) (myr := myr) _ e3 e4
        exact ⟨_, _, _, _, _, _, _, _, _, _, _, _, _, h0.2.1 _ _ _, h0.2.2, hB⟩
    obtain ⟨r, gw1, gh1, gl1, kep1, ki1, ow1, mw1, mh1, mke1, ce1, mk1, mo1, k1, k2, hB1⟩ := key
    have po : (LW g a a2 ask gw gh gl top kep don vc vf bx tt pl we le ab rw ki ow wa yy mw mh mke mnx mdo mtr mma mto mah mrs mab ce mk mo mwa mmc mmf mhy myw myh myr mpi mme mde mwe mla ys).Perm (wBYG g a q.1 q.2.1 ask gw gh gl top kep don vc vf bx tt pl we le ab rw ki ow wa yy q.2.2.1 q.2.2.2.1 q.2.2.2.2 ++ (yG g (yBut ys (xs (i + 1)).toNatClampNeg) ++ wM g a2 mw mh mke mnx mdo mtr mma mto mah mrs mab ce mk mo mwa mmc mmf mhy myw myh myr mpi mme mde mwe mla)) := by rw [LW_Y, wBYG_Y]; exact p_old g ys q hj hq
    refine lMV (As := [.int (xs (i + 1))]) (rest := []) (ci := 3) S (ctX3_backO l g a q.1 q.2.1 (xs (i + 1)) ask gw gh gl top kep don vc vf bx tt pl we le ab rw ki ow wa yy q.2.2.1 q.2.2.2.1 q.2.2.2.2 hyy (r, gw1, gh1, gl1, kep1, ki1, ow1) k1) (cwV 1 hts gL_law_X3_back rfl rfl rfl (by decide +kernel) ⟨Nat.le_of_ble_eq_true rfl, Nat.le_of_ble_eq_true rfl⟩) hK hP hD hS hA (wr := yG g (yBut ys (xs (i + 1)).toNatClampNeg) ++ wM g a2 mw mh mke mnx mdo mtr mma mto mah mrs mab ce mk mo mwa mmc mmf mhy myw myh myr mpi mme mde mwe mla) po rfl rfl rfl rfl hl.1 rfl (Nat.le_of_ble_eq_true rfl) dL_law_790 hf0 (fun H locs hP hD hS => ?_)
    have pp : (LW g a a2 ask gw1 gh1 gl1 top kep1 don vc vf bx tt pl we le ab rw ki1 ow1 wa yy mw mh mke mnx mdo mtr mma mto mah mrs mab ce mk mo mwa mmc mmf mhy myw myh myr mpi mme mde mwe mla ys).Perm (wBYG g a q.1 q.2.1 ask gw1 gh1 gl1 top kep1 don vc vf bx tt pl we le ab rw ki1 ow1 wa yy q.2.2.1 q.2.2.2.1 q.2.2.2.2 ++ (yG g (yBut ys (xs (i + 1)).toNatClampNeg) ++ wM g a2 mw mh mke mnx mdo mtr mma mto mah mrs mab ce mk mo mwa mmc mmf mhy myw myh myr mpi mme mde mwe mla)) := by rw [LW_Y, wBYG_Y]; exact p_old g ys q hj hq
    have hP := P_perm pp.symm hP
    have hD := D_perm pp.symm hD
    refine lv_aload_n hx hb dL_law_793 rfl (lv_at hl 2 rfl) ?_
    refine ldx hx hb hX hbl hbA hS hi hL (j := 1) (by omega) (lv_at hl 0 rfl) (lv_at hl 3 rfl) dL_law_794 dL_law_795 dL_law_796 dL_law_797 dL_law_798 ?_
    refine lMV (As := [.int (xs (i + 1))]) (rest := [.int r]) (ci := 4) S (ctX4_back l g a2 (xs (i + 1)) mw mh mke mnx mdo mtr mma mto mah mrs mab ce mk mo mwa mmc mmf mhy myw myh myr mpi mme mde mwe mla (r, mw1, mh1, mke1, ce1, mk1, mo1) k2) (cwV 1 hts gL_law_X4_back rfl rfl rfl (by decide +kernel) ⟨Nat.le_of_ble_eq_true rfl, Nat.le_of_ble_eq_true rfl⟩) hK hP hD hS hA (wr := _) (p_back) rfl rfl rfl rfl hl.1 rfl (Nat.le_of_ble_eq_true rfl) dL_law_799 hf0 (fun H locs hP hD hS => ?_)
    have hP := P_perm p_back.symm hP
    have hD := D_perm p_back.symm hD
    refine lv_icmp_eq (tgt := 877) hx hb dL_law_802 (by decide) (fun _ => ?_) (fun h9 => absurd rfl h9)
    refine W.widen (k := cells + 2) (n := slots + 9) (Nat.le_add_right _ 2) (Nat.le_add_right _ 9) ?_
    exact kk _ _ ⟨_, _, _, _, _, _, _, _, _, _, _, _, _, _, _, _, _, _, _, _, _, _, _, _, _, _, _, _, _, _, _, _, _, _, _, _, _, _, _, _, _, _, _, _, _, _, _, (hB1.more (by omega)), hy1, hy2, hy3, hP, hD⟩ hS
set_option maxHeartbeats 4000000 in
set_option maxRecDepth 100000 in
theorem lc_moved (C0 : LCx p s m args c b L xs) (hK : Kx g s) (hI : LI g a a2 (fun q : Nat => s.heap.size ≤ q) n H) (hS : va_S (fun q : Nat => s.heap.size ≤ q) s.heap H locs) (hl : lv_has ls 4 [(0, .ref b), (1, .ref (a 0)), (2, .ref (a2 0)), (3, .int (nI i))]) (hi : i + 5 ≤ L) (hn : n ≤ 512) (hf : cells + 2 ≤ 600000 ∧ slots + 9 ≤ 7302250) (kk : ∀ (H1 : Heap) (locs1 : List Loc), LI g a a2 (fun q : Nat => s.heap.size ≤ q) (n + 1) H1 → va_S (fun q : Nat => s.heap.size ≤ q) s.heap H1 locs1 → W p l e room_1 s m args below meth c H1 locs1 (cells + 2) (slots + 9) Q (F0 m 877 ls [])) : W p l e room_1 s m args below meth c H locs cells slots Q (F0 m 807 ls []) := by
  obtain ⟨hx, hb, hml, hown, hts, hX, hbl, hL⟩ := C0
  have S : CallFix p m c cL_law 4 s args wsL_law RL := ⟨hx, hb, hml, hown, hts⟩
  have hA : ∀ q : Nat, s.heap.size ≤ q → (fun q : Nat => s.heap.size ≤ q) q := fun _ h => h
  have hbA : ¬ (fun q : Nat => s.heap.size ≤ q) b := Nat.not_le.mpr hbl
  obtain ⟨ask, gw, gh, gl, top, kep, don, vc, vf, bx, tt, pl, we, le, ab, rw, ki, ow, wa, yy, mw, mh, mke, mnx, mdo, mtr, mma, mto, mah, mrs, mab, ce, mk, mo, mwa, mmc, mmf, mhy, myw, myh, myr, mpi, mme, mde, mwe, mla, ys, hB, hy1, hy2, hy3, hP, hD⟩ := hI
  have hf0 : cells ≤ room_1.cells ∧ slots ≤ room_1.slots := ⟨Nat.le_trans (Nat.le_add_right _ 2) hf.1, Nat.le_trans (Nat.le_add_right _ 9) hf.2⟩
  refine lv_aload_n hx hb dL_law_807 rfl (lv_at hl 1 rfl) ?_
  refine ldx hx hb hX hbl hbA hS hi hL (j := 1) (by omega) (lv_at hl 0 rfl) (lv_at hl 3 rfl) dL_law_808 dL_law_809 dL_law_810 dL_law_811 dL_law_812 ?_
  refine ldx hx hb hX hbl hbA hS hi hL (j := 2) (by omega) (lv_at hl 0 rfl) (lv_at hl 3 rfl) dL_law_813 dL_law_814 dL_law_815 dL_law_816 dL_law_817 ?_
  have key : ∃ r, fX4_moved (xs (i + 1)) (xs (i + 2)) mhy myw myh myr = some r ∧ (W p l e room_1 s m args below meth c H locs cells slots Q (F0 m 821 ls [.int r]) → W p l e room_1 s m args below meth c H locs cells slots Q (F0 m 818 ls [.int (xs (i + 2)), .int (xs (i + 1)), .ref (a 0)])) := by
    have hyy := hy1 (xs (i + 1)).toNatClampNeg
    have hyz := hy1 (xs (i + 2)).toNatClampNeg
    have val : (fX3_isYear (xs (i + 1)) = 0 ∨ fX3_isYear (xs (i + 2)) = 0) ∨ ∃ y z, y < 4 ∧ z < 4 ∧ xs (i + 1) = nI y ∧ xs (i + 2) = nI z ∧ (xs (i + 1)).toNatClampNeg = y ∧ (xs (i + 2)).toNatClampNeg = z := by
      rcases year_c (xs (i + 1)) with ⟨y, hy, ex, -, -⟩ | ⟨e3, -⟩
      · rcases year_c (xs (i + 2)) with ⟨z, hz, ez, -, -⟩ | ⟨e3, -⟩
        · exact Or.inr ⟨y, z, hy, hz, ex, ez, by rw [ex]; exact nI_clamp (by omega), by rw [ez]; exact nI_clamp (by omega)⟩
        · exact Or.inl (Or.inr e3)
      · exact Or.inl (Or.inl e3)
    cases hq : ys (xs (i + 1)).toNatClampNeg with
    | none =>
      rw [hq] at hyy
      cases hz : ys (xs (i + 2)).toNatClampNeg with
      | none =>
        rw [hz] at hyz
        have kv : ∃ r, fX3_movedNN (xs (i + 1)) (xs (i + 2)) = some r ∧ fX4_moved (xs (i + 1)) (xs (i + 2)) mhy myw myh myr = some r := by
          rcases val with h0 | ⟨y, z, hy, hz4, ex, ez, ey, ezz⟩
          · have h1 := b_moved0 (mhy := mhy) (myw := myw) (myh := myh) (myr := myr) h0
            exact ⟨_, h1.1, h1.2.2.2.2⟩
          · have hr := hy3 y hy
            have hs := hy3 z hz4
            rw [← ey, hq, ey] at hr
            rw [← ezz, hz, ezz] at hs
            rw [ex, ez]
            have h1 := b_movedN (mhy := mhy) (myw := myw) (myh := myh) (myr := myr) hy hz4
            exact ⟨_, h1.1, h1.2.2.2 (Or.inl hr)⟩
        obtain ⟨r, k1, k2⟩ := kv
        exact ⟨r, k2, fun kk1 => lPV (As := [.int (xs (i + 1)), .int (xs (i + 2))]) (rest := []) (ci := 3) S (ctX3_movedNN l g a (xs (i + 1)) (xs (i + 2)) ask gw gh gl top kep don vc vf bx tt pl we le ab rw ki ow wa yy hyy hyz r k1) (cwV 2 hts gL_law_X3_moved rfl rfl rfl (by decide +kernel) ⟨Nat.le_of_ble_eq_true rfl, Nat.le_of_ble_eq_true rfl⟩) hK hP (fun q h => by rw [LW_Y]; exact List.mem_append_left _ h) rfl rfl rfl rfl hl.1 rfl (Nat.le_of_ble_eq_true rfl) dL_law_818 hf0 kk1⟩
      | some q2 =>
        rw [hz] at hyz
        have kv : ∃ r, fX3_movedNO (xs (i + 1)) (xs (i + 2)) = some r ∧ fX4_moved (xs (i + 1)) (xs (i + 2)) mhy myw myh myr = some r := by
          rcases val with h0 | ⟨y, z, hy, hz4, ex, ez, ey, ezz⟩
          · have h1 := b_moved0 (mhy := mhy) (myw := myw) (myh := myh) (myr := myr) h0
            exact ⟨_, h1.2.1, h1.2.2.2.2⟩
          · have hr := hy3 y hy
            have hs := hy3 z hz4
            rw [← ey, hq, ey] at hr
            rw [← ezz, hz, ezz] at hs
            rw [ex, ez]
            have h1 := b_movedN (mhy := mhy) (myw := myw) (myh := myh) (myr := myr) hy hz4
            exact ⟨_, h1.2.1, h1.2.2.2 (Or.inl hr)⟩
        obtain ⟨r, k1, k2⟩ := kv
        exact ⟨r, k2, fun kk1 => lPV (As := [.int (xs (i + 1)), .int (xs (i + 2))]) (rest := []) (ci := 3) S (ctX3_movedNO l g a (xs (i + 1)) (xs (i + 2)) ask gw gh gl top kep don vc vf bx tt pl we le ab rw ki ow wa yy _ hyy hyz r k1) (cwV 2 hts gL_law_X3_moved rfl rfl rfl (by decide +kernel) ⟨Nat.le_of_ble_eq_true rfl, Nat.le_of_ble_eq_true rfl⟩) hK hP (fun q h => by rw [LW_Y]; exact List.mem_append_left _ h) rfl rfl rfl rfl hl.1 rfl (Nat.le_of_ble_eq_true rfl) dL_law_818 hf0 kk1⟩
    | some q =>
      rw [hq] at hyy
      cases hz : ys (xs (i + 2)).toNatClampNeg with
      | none =>
        rw [hz] at hyz
        have kv : ∃ r, fX3_movedON (xs (i + 1)) (xs (i + 2)) = some r ∧ fX4_moved (xs (i + 1)) (xs (i + 2)) mhy myw myh myr = some r := by
          rcases val with h0 | ⟨y, z, hy, hz4, ex, ez, ey, ezz⟩
          · have h1 := b_moved0 (mhy := mhy) (myw := myw) (myh := myh) (myr := myr) h0
            exact ⟨_, h1.2.2.1, h1.2.2.2.2⟩
          · have hr := hy3 y hy
            have hs := hy3 z hz4
            rw [← ey, hq, ey] at hr
            rw [← ezz, hz, ezz] at hs
            rw [ex, ez]
            have h1 := b_movedN (mhy := mhy) (myw := myw) (myh := myh) (myr := myr) hy hz4
            exact ⟨_, h1.2.2.1, h1.2.2.2 (Or.inr hs)⟩
        obtain ⟨r, k1, k2⟩ := kv
        exact ⟨r, k2, fun kk1 => lPV (As := [.int (xs (i + 1)), .int (xs (i + 2))]) (rest := []) (ci := 3) S (ctX3_movedON l g a (xs (i + 1)) (xs (i + 2)) ask gw gh gl top kep don vc vf bx tt pl we le ab rw ki ow wa yy _ hyy hyz r k1) (cwV 2 hts gL_law_X3_moved rfl rfl rfl (by decide +kernel) ⟨Nat.le_of_ble_eq_true rfl, Nat.le_of_ble_eq_true rfl⟩) hK hP (fun q h => by rw [LW_Y]; exact List.mem_append_left _ h) rfl rfl rfl rfl hl.1 rfl (Nat.le_of_ble_eq_true rfl) dL_law_818 hf0 kk1⟩
      | some q2 =>
        rw [hz] at hyz
        have kv : ∃ r, fX3_movedOO (xs (i + 1)) (xs (i + 2)) q.2.2.1 q.2.2.2.1 q.2.2.2.2 q2.2.2.1 q2.2.2.2.1 q2.2.2.2.2 = some r ∧ fX4_moved (xs (i + 1)) (xs (i + 2)) mhy myw myh myr = some r := by
          rcases val with h0 | ⟨y, z, hy, hz4, ex, ez, ey, ezz⟩
          · have h1 := b_moved0 (mhy := mhy) (myw := myw) (myh := myh) (myr := myr) h0
            exact ⟨_, h1.2.2.2.1 _ _ _ _ _ _, h1.2.2.2.2⟩
          · have hr := hy3 y hy
            have hs := hy3 z hz4
            rw [← ey, hq, ey] at hr
            rw [← ezz, hz, ezz] at hs
            rw [ex, ez]
            exact b_movedO hy hz4 hr.1 hs.1 hr.2 hs.2
        obtain ⟨r, k1, k2⟩ := kv
        have hj : (xs (i + 1)).toNatClampNeg < 4 := by
          refine Nat.lt_of_not_le (fun h => ?_)
          rw [hy2 _ h] at hq
          cases hq
        have hj2 : (xs (i + 2)).toNatClampNeg < 4 := by
          refine Nat.lt_of_not_le (fun h => ?_)
          rw [hy2 _ h] at hz
          cases hz
        have mem : ∀ z ∈ wBYGG g a q.1 q.2.1 q2.1 q2.2.1 ask gw gh gl top kep don vc vf bx tt pl we le ab rw ki ow wa yy q.2.2.1 q.2.2.2.1 q.2.2.2.2 q2.2.2.1 q2.2.2.2.1 q2.2.2.2.2, z ∈ LW g a a2 ask gw gh gl top kep don vc vf bx tt pl we le ab rw ki ow wa yy mw mh mke mnx mdo mtr mma mto mah mrs mab ce mk mo mwa mmc mmf mhy myw myh myr mpi mme mde mwe mla ys := fun z hz9 => by
          rw [LW_Y]
          have hz9 : z ∈ wBYc g a ask gw gh gl top kep don vc vf bx tt pl we le ab rw ki ow wa yy ++ (yM g (some q) ++ yM g (some q2)) := hz9
          rcases List.mem_append.mp hz9 with h | h
          · exact List.mem_append_left _ h
          · refine List.mem_append_right _ (List.mem_append_left _ ?_)
            rcases List.mem_append.mp h with h | h
            · exact yM_in g ys q hj hq _ h
            · exact yM_in g ys q2 hj2 hz _ h
        exact ⟨r, k2, fun kk1 => lPV (As := [.int (xs (i + 1)), .int (xs (i + 2))]) (rest := []) (ci := 3) S (ctX3_movedOO l g a q.1 q.2.1 q2.1 q2.2.1 (xs (i + 1)) (xs (i + 2)) ask gw gh gl top kep don vc vf bx tt pl we le ab rw ki ow wa yy q.2.2.1 q.2.2.2.1 q.2.2.2.2 q2.2.2.1 q2.2.2.2.1 q2.2.2.2.2 hyy hyz r k1) (cwV 2 hts gL_law_X3_moved rfl rfl rfl (by decide +kernel) ⟨Nat.le_of_ble_eq_true rfl, Nat.le_of_ble_eq_true rfl⟩) hK hP mem rfl rfl rfl rfl hl.1 rfl (Nat.le_of_ble_eq_true rfl) dL_law_818 hf0 kk1⟩
  obtain ⟨r, k1, k2⟩ := key
  refine k2 ?_
  refine lv_aload_n hx hb dL_law_821 rfl (lv_at hl 2 rfl) ?_
  refine ldx hx hb hX hbl hbA hS hi hL (j := 1) (by omega) (lv_at hl 0 rfl) (lv_at hl 3 rfl) dL_law_822 dL_law_823 dL_law_824 dL_law_825 dL_law_826 ?_
  refine ldx hx hb hX hbl hbA hS hi hL (j := 2) (by omega) (lv_at hl 0 rfl) (lv_at hl 3 rfl) dL_law_827 dL_law_828 dL_law_829 dL_law_830 dL_law_831 ?_
  refine lPV (As := [.int (xs (i + 1)), .int (xs (i + 2))]) (rest := [.int r]) (ci := 4) S (ctX4_moved l g a2 (xs (i + 1)) (xs (i + 2)) mw mh mke mnx mdo mtr mma mto mah mrs mab ce mk mo mwa mmc mmf mhy myw myh myr mpi mme mde mwe mla r k1) (cwV 2 hts gL_law_X4_moved rfl rfl rfl (by decide +kernel) ⟨Nat.le_of_ble_eq_true rfl, Nat.le_of_ble_eq_true rfl⟩) hK hP (fun q h => m_M q h) rfl rfl rfl rfl hl.1 rfl (Nat.le_of_ble_eq_true rfl) dL_law_832 hf0 ?_
  refine lv_icmp_eq (tgt := 877) hx hb dL_law_835 (by decide) (fun _ => ?_) (fun h9 => absurd rfl h9)
  refine W.widen (k := cells + 2) (n := slots + 9) (Nat.le_add_right _ 2) (Nat.le_add_right _ 9) ?_
  exact kk _ _ ⟨_, _, _, _, _, _, _, _, _, _, _, _, _, _, _, _, _, _, _, _, _, _, _, _, _, _, _, _, _, _, _, _, _, _, _, _, _, _, _, _, _, _, _, _, _, _, _, (hB.more (by omega)), hy1, hy2, hy3, hP, hD⟩ hS
end YCASES
