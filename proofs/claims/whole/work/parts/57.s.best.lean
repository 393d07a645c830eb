/-! the law: one theorem for each call of the script -/
section LCASES
variable {p : Program} {l : Launch} {e : Env} {s : State} {m : MethodId} {args : Array Value} {below : List Frame} {meth : Method} {c : Code} {Q : State → Prop} {g : GG} {a a2 : Nat → Nat} {b L n i : Nat} {xs : Nat → Int32} {H : Heap} {locs : List Loc} {cells slots : Nat} {ls : Array Slot}
set_option maxHeartbeats 4000000 in
set_option maxRecDepth 100000 in
theorem lc_best (C0 : LCx p s m args c b L xs) (hK : Kx g s) (hI : LI g a a2 (fun q : Nat => s.heap.size ≤ q) n H) (hS : va_S (fun q : Nat => s.heap.size ≤ q) s.heap H locs) (hl : lv_has ls 4 [(0, .ref b), (1, .ref (a 0)), (2, .ref (a2 0)), (3, .int (nI i))]) (hi : i + 5 ≤ L) (hn : n ≤ 512) (hf : cells + 2 ≤ 600000 ∧ slots + 9 ≤ 7302250) (kk : ∀ (H1 : Heap) (locs1 : List Loc), LI g a a2 (fun q : Nat => s.heap.size ≤ q) (n + 1) H1 → va_S (fun q : Nat => s.heap.size ≤ q) s.heap H1 locs1 → W p l e room_1 s m args below meth c H1 locs1 (cells + 2) (slots + 9) Q (F0 m 877 ls [])) : W p l e room_1 s m args below meth c H locs cells slots Q (F0 m 748 ls []) := by
  obtain ⟨hx, hb, hml, hown, hts, hX, hbl, hL⟩ := C0
  have S : CallFix p m c cL_law 4 s args wsL_law RL := ⟨hx, hb, hml, hown, hts⟩
  have hA : ∀ q : Nat, s.heap.size ≤ q → (fun q : Nat => s.heap.size ≤ q) q := fun _ h => h
  have hbA : ¬ (fun q : Nat => s.heap.size ≤ q) b := Nat.not_le.mpr hbl
  obtain ⟨ask, gw, gh, gl, top, kep, don, vc, vf, bx, tt, pl, we, le, ab, rw, ki, ow, wa, yy, mw, mh, mke, mnx, mdo, mtr, mma, mto, mah, mrs, mab, ce, mk, mo, mwa, mmc, mmf, mhy, myw, myh, myr, mpi, mme, mde, mwe, mla, ys, hB, hy1, hy2, hy3, hP, hD⟩ := hI
  have hf0 : cells ≤ room_1.cells ∧ slots ≤ room_1.slots := ⟨Nat.le_trans (Nat.le_add_right _ 2) hf.1, Nat.le_trans (Nat.le_add_right _ 9) hf.2⟩
  obtain ⟨r, c1, c2, c3, c4, c5, c6, c7, m1, m2, m3, m4, m5, m6, m7, e3, e4⟩ := b_best hB  bx tt mma mto mah mrs mab pl we le ab rw mwe mla
  refine lv_aload_n hx hb dL_law_748 rfl (lv_at hl 1 rfl) ?_
  refine lMV (As := []) (rest := []) (ci := 3) S (ctX3_best l g a  ask gw gh gl top kep don vc vf bx tt pl we le ab rw ki ow wa (r, c1, c2, c3, c4, c5, c6, c7) e3) (cwV 0 hts gL_law_X3_best rfl rfl rfl (by decide +kernel) ⟨Nat.le_of_ble_eq_true rfl, Nat.le_of_ble_eq_true rfl⟩) hK hP hD hS hA (wr := _) (List.Perm.refl _) rfl rfl rfl rfl hl.1 rfl (Nat.le_of_ble_eq_true rfl) dL_law_749 hf0 (fun H locs hP hD hS => ?_)
  refine lv_aload_n hx hb dL_law_752 rfl (lv_at hl 2 rfl) ?_
  refine lMV (As := []) (rest := [.int r]) (ci := 4) S (ctX4_best l g a2  mw mh mke mnx mdo mtr mma mto mah mrs mab ce mk mo mwa mmc mmf mhy myw myh myr mpi mme mde mwe mla (r, m1, m2, m3, m4, m5, m6, m7) e4) (cwV 0 hts gL_law_X4_best rfl rfl rfl (by decide +kernel) ⟨Nat.le_of_ble_eq_true rfl, Nat.le_of_ble_eq_true rfl⟩) hK hP hD hS hA (wr := _) (p_back) rfl rfl rfl rfl hl.1 rfl (Nat.le_of_ble_eq_true rfl) dL_law_753 hf0 (fun H locs hP hD hS => ?_)
  have hP := P_perm p_back.symm hP
  have hD := D_perm p_back.symm hD
  refine lv_icmp_eq (tgt := 877) hx hb dL_law_756 (by decide) (fun _ => ?_) (fun h9 => absurd rfl h9)
  refine W.widen (k := cells + 2) (n := slots + 9) (Nat.le_add_right _ 2) (Nat.le_add_right _ 9) ?_
  exact kk _ _ ⟨_, _, _, _, _, _, _, _, _, _, _, _, _, _, _, _, _, _, _, _, _, _, _, _, _, _, _, _, _, _, _, _, _, _, _, _, _, _, _, _, _, _, _, _, _, _, _, (hB.more (by omega)), hy1, hy2, hy3, hP, hD⟩ hS
end LCASES
