/-! the law: one theorem for each call of the script -/
section LCASES
variable {p : Program} {l : Launch} {e : Env} {s : State} {m : MethodId} {args : Array Value} {below : List Frame} {meth : Method} {c : Code} {Q : State → Prop} {g : GG} {a a2 : Nat → Nat} {b L n i : Nat} {xs : Nat → Int32} {H : Heap} {locs : List Loc} {cells slots : Nat} {ls : Array Slot}
set_option maxHeartbeats 4000000 in
set_option maxRecDepth 100000 in
theorem lc_set (C0 : LCx p s m args c b L xs) (hK : Kx g s) (hI : LI g a a2 (fun q : Nat => s.heap.size ≤ q) n H) (hS : va_S (fun q : Nat => s.heap.size ≤ q) s.heap H locs) (hl : lv_has ls 4 [(0, .ref b), (1, .ref (a 0)), (2, .ref (a2 0)), (3, .int (nI i))]) (hi : i + 5 ≤ L) (hn : n ≤ 512) (hf : cells + 2 ≤ 600000 ∧ slots + 9 ≤ 7302250) (kk : ∀ (H1 : Heap) (locs1 : List Loc), LI g a a2 (fun q : Nat => s.heap.size ≤ q) (n + 1) H1 → va_S (fun q : Nat => s.heap.size ≤ q) s.heap H1 locs1 → W p l e room_1 s m args below meth c H1 locs1 (cells + 2) (slots + 9) Q (F0 m 877 ls [])) : W p l e room_1 s m args below meth c H locs cells slots Q (F0 m 177 ls []) := by
  obtain ⟨hx, hb, hml, hown, hts, hX, hbl, hL⟩ := C0
  have S : CallFix p m c cL_law 4 s args wsL_law RL := ⟨hx, hb, hml, hown, hts⟩
  have hA : ∀ q : Nat, s.heap.size ≤ q → (fun q : Nat => s.heap.size ≤ q) q := fun _ h => h
  have hbA : ¬ (fun q : Nat => s.heap.size ≤ q) b := Nat.not_le.mpr hbl
  obtain ⟨ask, gw, gh, gl, top, kep, don, vc, vf, bx, tt, pl, we, le, ab, rw, ki, ow, wa, yy, mw, mh, mke, mnx, mdo, mtr, mma, mto, mah, mrs, mab, ce, mk, mo, mwa, mmc, mmf, mhy, myw, myh, myr, mpi, mme, mde, mwe, mla, ys, hB, hy1, hy2, hy3, hP, hD⟩ := hI
  have hf0 : cells ≤ room_1.cells ∧ slots ≤ room_1.slots := ⟨Nat.le_trans (Nat.le_add_right _ 2) hf.1, Nat.le_trans (Nat.le_add_right _ 9) hf.2⟩
  obtain ⟨r, gl1, kep1, mke1, ce1, e3, e4, hB1⟩ := b_set hB (xs (i + 1)) (xs (i + 2)) (xs (i + 3))
  refine lv_aload_n hx hb dL_law_177 rfl (lv_at hl 1 rfl) ?_
  refine ldx hx hb hX hbl hbA hS hi hL (j := 1) (by omega) (lv_at hl 0 rfl) (lv_at hl 3 rfl) dL_law_178 dL_law_179 dL_law_180 dL_law_181 dL_law_182 ?_
  refine ldx hx hb hX hbl hbA hS hi hL (j := 2) (by omega) (lv_at hl 0 rfl) (lv_at hl 3 rfl) dL_law_183 dL_law_184 dL_law_185 dL_law_186 dL_law_187 ?_
  refine ldx hx hb hX hbl hbA hS hi hL (j := 3) (by omega) (lv_at hl 0 rfl) (lv_at hl 3 rfl) dL_law_188 dL_law_189 dL_law_190 dL_law_191 dL_law_192 ?_
  refine lMV (As := [.int (xs (i + 1)), .int (xs (i + 2)), .int (xs (i + 3))]) (rest := []) (ci := 3) S (ctX3_set l g a (xs (i + 1)) (xs (i + 2)) (xs (i + 3)) ask gw gh gl top kep don vc vf bx tt pl we le ab rw ki ow wa (r, gl1, kep1) e3) (cwV 3 hts gL_law_X3_set rfl rfl rfl (by decide +kernel) ⟨Nat.le_of_ble_eq_true rfl, Nat.le_of_ble_eq_true rfl⟩) hK hP hD hS hA (wr := _) (List.Perm.refl _) rfl rfl rfl rfl hl.1 rfl (Nat.le_of_ble_eq_true rfl) dL_law_193 hf0 (fun H locs hP hD hS => ?_)
  refine lv_aload_n hx hb dL_law_196 rfl (lv_at hl 2 rfl) ?_
  refine ldx hx hb hX hbl hbA hS hi hL (j := 1) (by omega) (lv_at hl 0 rfl) (lv_at hl 3 rfl) dL_law_197 dL_law_198 dL_law_199 dL_law_200 dL_law_201 ?_
  refine ldx hx hb hX hbl hbA hS hi hL (j := 2) (by omega) (lv_at hl 0 rfl) (lv_at hl 3 rfl) dL_law_202 dL_law_203 dL_law_204 dL_law_205 dL_law_206 ?_
  refine ldx hx hb hX hbl hbA hS hi hL (j := 3) (by omega) (lv_at hl 0 rfl) (lv_at hl 3 rfl) dL_law_207 dL_law_208 dL_law_209 dL_law_210 dL_law_211 ?_
  refine lMV (As := [.int (xs (i + 1)), .int (xs (i + 2)), .int (xs (i + 3))]) (rest := [.int r]) (ci := 4) S (ctX4_set l g a2 (xs (i + 1)) (xs (i + 2)) (xs (i + 3)) mw mh mke mnx mdo mtr mma mto mah mrs mab ce mk mo mwa mmc mmf mhy myw myh myr mpi mme mde mwe mla (r, mke1, ce1) e4) (cwV 3 hts gL_law_X4_set rfl rfl rfl (by decide +kernel) ⟨Nat.le_of_ble_eq_true rfl, Nat.le_of_ble_eq_true rfl⟩) hK hP hD hS hA (wr := _) (p_back) rfl rfl rfl rfl hl.1 rfl (Nat.le_of_ble_eq_true rfl) dL_law_212 hf0 (fun H locs hP hD hS => ?_)
  have hP := P_perm p_back.symm hP
  have hD := D_perm p_back.symm hD
  refine lv_icmp_eq (tgt := 877) hx hb dL_law_215 (by decide) (fun _ => ?_) (fun h9 => absurd rfl h9)
  refine W.widen (k := cells + 2) (n := slots + 9) (Nat.le_add_right _ 2) (Nat.le_add_right _ 9) ?_
  exact kk _ _ ⟨_, _, _, _, _, _, _, _, _, _, _, _, _, _, _, _, _, _, _, _, _, _, _, _, _, _, _, _, _, _, _, _, _, _, _, _, _, _, _, _, _, _, _, _, _, _, _, (hB1.more (by omega)), hy1, hy2, hy3, hP, hD⟩ hS
end LCASES
