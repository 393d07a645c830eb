/-! the law: one theorem for each call of the script -/
section LCASES
variable {p : Program} {l : Launch} {e : Env} {s : State} {m : MethodId} {args : Array Value} {below : List Frame} {meth : Method} {c : Code} {Q : State → Prop} {g : GG} {a a2 : Nat → Nat} {b L n i : Nat} {xs : Nat → Int32} {H : Heap} {locs : List Loc} {cells slots : Nat} {ls : Array Slot}
set_option maxHeartbeats 4000000 in
set_option maxRecDepth 100000 in
theorem lc_kind (C0 : LCx p s m args c b L xs) (hK : Kx g s) (hI : LI g a a2 (fun q : Nat => s.heap.size ≤ q) n H) (hS : va_S (fun q : Nat => s.heap.size ≤ q) s.heap H locs) (hl : lv_has ls 4 [(0, .ref b), (1, .ref (a 0)), (2, .ref (a2 0)), (3, .int (nI i))]) (hi : i + 5 ≤ L) (hn : n ≤ 512) (hf : cells + 2 ≤ 600000 ∧ slots + 9 ≤ 7302250) (kk : ∀ (H1 : Heap) (locs1 : List Loc), LI g a a2 (fun q : Nat => s.heap.size ≤ q) (n + 1) H1 → va_S (fun q : Nat => s.heap.size ≤ q) s.heap H1 locs1 → W p l e room_1 s m args below meth c H1 locs1 (cells + 2) (slots + 9) Q (F0 m 877 ls [])) : W p l e room_1 s m args below meth c H locs cells slots Q (F0 m 332 ls []) := by
  obtain ⟨hx, hb, hml, hown, hts, hX, hbl, hL⟩ := C0
  have S : CallFix p m c cL_law 4 s args wsL_law RL := ⟨hx, hb, hml, hown, hts⟩
  have hA : ∀ q : Nat, s.heap.size ≤ q → (fun q : Nat => s.heap.size ≤ q) q := fun _ h => h
  have hbA : ¬ (fun q : Nat => s.heap.size ≤ q) b := Nat.not_le.mpr hbl
  obtain ⟨ask, gw, gh, gl, top, kep, don, vc, vf, bx, tt, pl, we, le, ab, rw, ki, ow, wa, yy, mw, mh, mke, mnx, mdo, mtr, mma, mto, mah, mrs, mab, ce, mk, mo, mwa, mmc, mmf, mhy, myw, myh, myr, mpi, mme, mde, mwe, mla, ys, hB, hy1, hy2, hy3, hP, hD⟩ := hI
  have hf0 : cells ≤ room_1.cells ∧ slots ≤ room_1.slots := ⟨Nat.le_trans (Nat.le_add_right _ 2) hf.1, Nat.le_trans (Nat.le_add_right _ 9) hf.2⟩
  obtain ⟨r, ki1, ow1, mk1, mo1, e3, e4, hB1⟩ := b_kind hB (xs (i + 1)) (xs (i + 2)) (xs (i + 3)) (xs (i + 4))
  refine lv_aload_n hx hb dL_law_332 rfl (lv_at hl 1 rfl) ?_
  refine ldx hx hb hX hbl hbA hS hi hL (j := 1) (by omega) (lv_at hl 0 rfl) (lv_at hl 3 rfl) dL_law_333 dL_law_334 dL_law_335 dL_law_336 dL_law_337 ?_
  refine ldx hx hb hX hbl hbA hS hi hL (j := 2) (by omega) (lv_at hl 0 rfl) (lv_at hl 3 rfl) dL_law_338 dL_law_339 dL_law_340 dL_law_341 dL_law_342 ?_
  refine ldx hx hb hX hbl hbA hS hi hL (j := 3) (by omega) (lv_at hl 0 rfl) (lv_at hl 3 rfl) dL_law_343 dL_law_344 dL_law_345 dL_law_346 dL_law_347 ?_
  refine ldx hx hb hX hbl hbA hS hi hL (j := 4) (by omega) (lv_at hl 0 rfl) (lv_at hl 3 rfl) dL_law_348 dL_law_349 dL_law_350 dL_law_351 dL_law_352 ?_
  refine lMV (As := [.int (xs (i + 1)), .int (xs (i + 2)), .int (xs (i + 3)), .int (xs (i + 4))]) (rest := []) (ci := 3) S (ctX3_kind l g a (xs (i + 1)) (xs (i + 2)) (xs (i + 3)) (xs (i + 4)) ask gw gh gl top kep don vc vf bx tt pl we le ab rw ki ow wa (r, ki1, ow1) e3) (cwV 4 hts gL_law_X3_kind rfl rfl rfl (by decide +kernel) ⟨Nat.le_of_ble_eq_true rfl, Nat.le_of_ble_eq_true rfl⟩) hK hP hD hS hA (wr := _) (List.Perm.refl _) rfl rfl rfl rfl hl.1 rfl (Nat.le_of_ble_eq_true rfl) dL_law_353 hf0 (fun H locs hP hD hS => ?_)
  refine lv_aload_n hx hb dL_law_356 rfl (lv_at hl 2 rfl) ?_
  refine ldx hx hb hX hbl hbA hS hi hL (j := 1) (by omega) (lv_at hl 0 rfl) (lv_at hl 3 rfl) dL_law_357 dL_law_358 dL_law_359 dL_law_360 dL_law_361 ?_
  refine ldx hx hb hX hbl hbA hS hi hL (j := 2) (by omega) (lv_at hl 0 rfl) (lv_at hl 3 rfl) dL_law_362 dL_law_363 dL_law_364 dL_law_365 dL_law_366 ?_
  refine ldx hx hb hX hbl hbA hS hi hL (j := 3) (by omega) (lv_at hl 0 rfl) (lv_at hl 3 rfl) dL_law_367 dL_law_368 dL_law_369 dL_law_370 dL_law_371 ?_
  refine ldx hx hb hX hbl hbA hS hi hL (j := 4) (by omega) (lv_at hl 0 rfl) (lv_at hl 3 rfl) dL_law_372 dL_law_373 dL_law_374 dL_law_375 dL_law_376 ?_
  refine lMV (As := [.int (xs (i + 1)), .int (xs (i + 2)), .int (xs (i + 3)), .int (xs (i + 4))]) (rest := [.int r]) (ci := 4) S (ctX4_kind l g a2 (xs (i + 1)) (xs (i + 2)) (xs (i + 3)) (xs (i + 4)) mw mh mke mnx mdo mtr mma mto mah mrs mab ce mk mo mwa mmc mmf mhy myw myh myr mpi mme mde mwe mla (r, mk1, mo1) e4) (cwV 4 hts gL_law_X4_kind rfl rfl rfl (by decide +kernel) ⟨Nat.le_of_ble_eq_true rfl, Nat.le_of_ble_eq_true rfl⟩) hK hP hD hS hA (wr := _) (p_back) rfl rfl rfl rfl hl.1 rfl (Nat.le_of_ble_eq_true rfl) dL_law_377 hf0 (fun H locs hP hD hS => ?_)
  have hP := P_perm p_back.symm hP
  have hD := D_perm p_back.symm hD
  refine lv_icmp_eq (tgt := 877) hx hb dL_law_380 (by decide) (fun _ => ?_) (fun h9 => absurd rfl h9)
  refine W.widen (k := cells + 2) (n := slots + 9) (Nat.le_add_right _ 2) (Nat.le_add_right _ 9) ?_
  exact kk _ _ ⟨_, _, _, _, _, _, _, _, _, _, _, _, _, _, _, _, _, _, _, _, _, _, _, _, _, _, _, _, _, _, _, _, _, _, _, _, _, _, _, _, _, _, _, _, _, _, _, (hB1.more (by omega)), hy1, hy2, hy3, hP, hD⟩ hS
end LCASES
