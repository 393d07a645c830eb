/-! the law: one theorem for each call of the script -/
section LCASES
variable {p : Program} {l : Launch} {e : Env} {s : State} {m : MethodId} {args : Array Value} {below : List Frame} {meth : Method} {c : Code} {Q : State → Prop} {g : GG} {a a2 : Nat → Nat} {b L n i : Nat} {xs : Nat → Int32} {H : Heap} {locs : List Loc} {cells slots : Nat} {ls : Array Slot}
set_option maxHeartbeats 4000000 in
set_option maxRecDepth 100000 in
theorem lc_board (C0 : LCx p s m args c b L xs) (hK : Kx g s) (hI : LI g a a2 (fun q : Nat => s.heap.size ≤ q) n H) (hS : va_S (fun q : Nat => s.heap.size ≤ q) s.heap H locs) (hl : lv_has ls 4 [(0, .ref b), (1, .ref (a 0)), (2, .ref (a2 0)), (3, .int (nI i))]) (hi : i + 5 ≤ L) (hn : n ≤ 512) (hf : cells + 2 ≤ 600000 ∧ slots + 11 ≤ 7302250) (kk : ∀ (H1 : Heap) (locs1 : List Loc), LI g a a2 (fun q : Nat => s.heap.size ≤ q) (n + 1) H1 → va_S (fun q : Nat => s.heap.size ≤ q) s.heap H1 locs1 → W p l e room_1 s m args below meth c H1 locs1 (cells + 2) (slots + 11) Q (F0 m 877 ls [])) : W p l e room_1 s m args below meth c H locs cells slots Q (F0 m 144 ls []) := by
  obtain ⟨hx, hb, hml, hown, hts, hX, hbl, hL⟩ := C0
  have S : CallFix p m c cL_law 4 s args wsL_law RL := ⟨hx, hb, hml, hown, hts⟩
  have hA : ∀ q : Nat, s.heap.size ≤ q → (fun q : Nat => s.heap.size ≤ q) q := fun _ h => h
  have hbA : ¬ (fun q : Nat => s.heap.size ≤ q) b := Nat.not_le.mpr hbl
  obtain ⟨ask, gw, gh, al, ed, gl, top, kep, don, vc, vf, bx, tt, pl, we, le, ab, rw, ki, ow, wa, yy, mw, mh, mke, mnx, mdo, mtr, mma, mto, mah, mrs, mab, ce, mk, mo, mwa, mmc, mmf, mhy, myw, myh, myr, mpi, mme, mde, mwe, mla, ys, hB, hy1, hy2, hy3, hP, hD⟩ := hI
  have hf0 : cells ≤ room_1.cells ∧ slots ≤ room_1.slots := ⟨Nat.le_trans (Nat.le_add_right _ 2) hf.1, Nat.le_trans (Nat.le_add_right _ 11) hf.2⟩
  obtain ⟨r, gw1, gh1, al1, ed1, gl1, kep1, ki1, ow1, mke1, ce1, mk1, mo1, e3, e4, hB1⟩ := b_board hB (xs (i + 1)) (xs (i + 2))
  refine lv_aload_n hx hb dL_law_144 rfl (lv_at hl 1 rfl) ?_
  refine ldx hx hb hX hbl hbA hS hi hL (j := 1) (by omega) (lv_at hl 0 rfl) (lv_at hl 3 rfl) dL_law_145 dL_law_146 dL_law_147 dL_law_148 dL_law_149 ?_
  refine ldx hx hb hX hbl hbA hS hi hL (j := 2) (by omega) (lv_at hl 0 rfl) (lv_at hl 3 rfl) dL_law_150 dL_law_151 dL_law_152 dL_law_153 dL_law_154 ?_
  refine lMV (As := [.int (xs (i + 1)), .int (xs (i + 2))]) (rest := []) (ci := 3) S (ctX3_board l g a (xs (i + 1)) (xs (i + 2)) ask gw gh al ed gl top kep don vc vf bx tt pl we le ab rw ki ow wa (r, gw1, gh1, al1, ed1, gl1, kep1, ki1, ow1) e3) (cwV 2 hts gL_law_X3_board rfl rfl rfl (by decide +kernel) ⟨Nat.le_of_ble_eq_true rfl, Nat.le_of_ble_eq_true rfl⟩) hK hP hD hS hA (wr := _) (List.Perm.refl _) rfl rfl rfl rfl hl.1 rfl (Nat.le_of_ble_eq_true rfl) dL_law_155 hf0 (fun H locs hP hD hS => ?_)
  refine lv_aload_n hx hb dL_law_158 rfl (lv_at hl 2 rfl) ?_
  refine ldx hx hb hX hbl hbA hS hi hL (j := 1) (by omega) (lv_at hl 0 rfl) (lv_at hl 3 rfl) dL_law_159 dL_law_160 dL_law_161 dL_law_162 dL_law_163 ?_
  refine ldx hx hb hX hbl hbA hS hi hL (j := 2) (by omega) (lv_at hl 0 rfl) (lv_at hl 3 rfl) dL_law_164 dL_law_165 dL_law_166 dL_law_167 dL_law_168 ?_
  refine lMV (As := [.int (xs (i + 1)), .int (xs (i + 2))]) (rest := [.int r]) (ci := 4) S (ctX4_board l g a2 (xs (i + 1)) (xs (i + 2)) mw mh mke mnx mdo mtr mma mto mah mrs mab ce mk mo mwa mmc mmf mhy myw myh myr mpi mme mde mwe mla (r, gw1, gh1, mke1, ce1, mk1, mo1) e4) (cwV 2 hts gL_law_X4_board rfl rfl rfl (by decide +kernel) ⟨Nat.le_of_ble_eq_true rfl, Nat.le_of_ble_eq_true rfl⟩) hK hP hD hS hA (wr := _) (p_back) rfl rfl rfl rfl hl.1 rfl (Nat.le_of_ble_eq_true rfl) dL_law_169 hf0 (fun H locs hP hD hS => ?_)
  have hP := P_perm p_back.symm hP
  have hD := D_perm p_back.symm hD
  refine lv_icmp_eq (tgt := 877) hx hb dL_law_172 (by decide) (fun _ => ?_) (fun h9 => absurd rfl h9)
  refine W.widen (k := cells + 2) (n := slots + 11) (Nat.le_add_right _ 2) (Nat.le_add_right _ 11) ?_
  exact kk _ _ ⟨_, _, _, _, _, _, _, _, _, _, _, _, _, _, _, _, _, _, _, _, _, _, _, _, _, _, _, _, _, _, _, _, _, _, _, _, _, _, _, _, _, _, _, _, _, _, _, _, _, (hB1.more (by omega)), hy1, hy2, hy3, hP, hD⟩ hS
set_option maxHeartbeats 4000000 in
set_option maxRecDepth 100000 in
theorem lc_set (C0 : LCx p s m args c b L xs) (hK : Kx g s) (hI : LI g a a2 (fun q : Nat => s.heap.size ≤ q) n H) (hS : va_S (fun q : Nat => s.heap.size ≤ q) s.heap H locs) (hl : lv_has ls 4 [(0, .ref b), (1, .ref (a 0)), (2, .ref (a2 0)), (3, .int (nI i))]) (hi : i + 5 ≤ L) (hn : n ≤ 512) (hf : cells + 2 ≤ 600000 ∧ slots + 11 ≤ 7302250) (kk : ∀ (H1 : Heap) (locs1 : List Loc), LI g a a2 (fun q : Nat => s.heap.size ≤ q) (n + 1) H1 → va_S (fun q : Nat => s.heap.size ≤ q) s.heap H1 locs1 → W p l e room_1 s m args below meth c H1 locs1 (cells + 2) (slots + 11) Q (F0 m 877 ls [])) : W p l e room_1 s m args below meth c H locs cells slots Q (F0 m 177 ls []) := by
  obtain ⟨hx, hb, hml, hown, hts, hX, hbl, hL⟩ := C0
  have S : CallFix p m c cL_law 4 s args wsL_law RL := ⟨hx, hb, hml, hown, hts⟩
  have hA : ∀ q : Nat, s.heap.size ≤ q → (fun q : Nat => s.heap.size ≤ q) q := fun _ h => h
  have hbA : ¬ (fun q : Nat => s.heap.size ≤ q) b := Nat.not_le.mpr hbl
  obtain ⟨ask, gw, gh, al, ed, gl, top, kep, don, vc, vf, bx, tt, pl, we, le, ab, rw, ki, ow, wa, yy, mw, mh, mke, mnx, mdo, mtr, mma, mto, mah, mrs, mab, ce, mk, mo, mwa, mmc, mmf, mhy, myw, myh, myr, mpi, mme, mde, mwe, mla, ys, hB, hy1, hy2, hy3, hP, hD⟩ := hI
  have hf0 : cells ≤ room_1.cells ∧ slots ≤ room_1.slots := ⟨Nat.le_trans (Nat.le_add_right _ 2) hf.1, Nat.le_trans (Nat.le_add_right _ 11) hf.2⟩
  obtain ⟨r, gl1, kep1, mke1, ce1, e3, e4, hB1⟩ := b_set hB (xs (i + 1)) (xs (i + 2)) (xs (i + 3))
  refine lv_aload_n hx hb dL_law_177 rfl (lv_at hl 1 rfl) ?_
  refine ldx hx hb hX hbl hbA hS hi hL (j := 1) (by omega) (lv_at hl 0 rfl) (lv_at hl 3 rfl) dL_law_178 dL_law_179 dL_law_180 dL_law_181 dL_law_182 ?_
  refine ldx hx hb hX hbl hbA hS hi hL (j := 2) (by omega) (lv_at hl 0 rfl) (lv_at hl 3 rfl) dL_law_183 dL_law_184 dL_law_185 dL_law_186 dL_law_187 ?_
  refine ldx hx hb hX hbl hbA hS hi hL (j := 3) (by omega) (lv_at hl 0 rfl) (lv_at hl 3 rfl) dL_law_188 dL_law_189 dL_law_190 dL_law_191 dL_law_192 ?_
  refine lMV (As := [.int (xs (i + 1)), .int (xs (i + 2)), .int (xs (i + 3))]) (rest := []) (ci := 3) S (ctX3_set l g a (xs (i + 1)) (xs (i + 2)) (xs (i + 3)) ask gw gh al ed gl top kep don vc vf bx tt pl we le ab rw ki ow wa (r, gl1, kep1) e3) (cwV 3 hts gL_law_X3_set rfl rfl rfl (by decide +kernel) ⟨Nat.le_of_ble_eq_true rfl, Nat.le_of_ble_eq_true rfl⟩) hK hP hD hS hA (wr := _) (List.Perm.refl _) rfl rfl rfl rfl hl.1 rfl (Nat.le_of_ble_eq_true rfl) dL_law_193 hf0 (fun H locs hP hD hS => ?_)
  refine lv_aload_n hx hb dL_law_196 rfl (lv_at hl 2 rfl) ?_
  refine ldx hx hb hX hbl hbA hS hi hL (j := 1) (by omega) (lv_at hl 0 rfl) (lv_at hl 3 rfl) dL_law_197 dL_law_198 dL_law_199 dL_law_200 dL_law_201 ?_
  refine ldx hx hb hX hbl hbA hS hi hL (j := 2) (by omega) (lv_at hl 0 rfl) (lv_at hl 3 rfl) dL_law_202 dL_law_203 dL_law_204 dL_law_205 dL_law_206 ?_
  refine ldx hx hb hX hbl hbA hS hi hL (j := 3) (by omega) (lv_at hl 0 rfl) (lv_at hl 3 rfl) dL_law_207 dL_law_208 dL_law_209 dL_law_210 dL_law_211 ?_
  refine lMV (As := [.int (xs (i + 1)), .int (xs (i + 2)), .int (xs (i + 3))]) (rest := [.int r]) (ci := 4) S (ctX4_set l g a2 (xs (i + 1)) (xs (i + 2)) (xs (i + 3)) mw mh mke mnx mdo mtr mma mto mah mrs mab ce mk mo mwa mmc mmf mhy myw myh myr mpi mme mde mwe mla (r, mke1, ce1) e4) (cwV 3 hts gL_law_X4_set rfl rfl rfl (by decide +kernel) ⟨Nat.le_of_ble_eq_true rfl, Nat.le_of_ble_eq_true rfl⟩) hK hP hD hS hA (wr := _) (p_back) rfl rfl rfl rfl hl.1 rfl (Nat.le_of_ble_eq_true rfl) dL_law_212 hf0 (fun H locs hP hD hS => ?_)
  have hP := P_perm p_back.symm hP
  have hD := D_perm p_back.symm hD
  refine lv_icmp_eq (tgt := 877) hx hb dL_law_215 (by decide) (fun _ => ?_) (fun h9 => absurd rfl h9)
  refine W.widen (k := cells + 2) (n := slots + 11) (Nat.le_add_right _ 2) (Nat.le_add_right _ 11) ?_
  exact kk _ _ ⟨_, _, _, _, _, _, _, _, _, _, _, _, _, _, _, _, _, _, _, _, _, _, _, _, _, _, _, _, _, _, _, _, _, _, _, _, _, _, _, _, _, _, _, _, _, _, _, _, _, (hB1.more (by omega)), hy1, hy2, hy3, hP, hD⟩ hS
set_option maxHeartbeats 4000000 in
set_option maxRecDepth 100000 in
theorem lc_at (C0 : LCx p s m args c b L xs) (hK : Kx g s) (hI : LI g a a2 (fun q : Nat => s.heap.size ≤ q) n H) (hS : va_S (fun q : Nat => s.heap.size ≤ q) s.heap H locs) (hl : lv_has ls 4 [(0, .ref b), (1, .ref (a 0)), (2, .ref (a2 0)), (3, .int (nI i))]) (hi : i + 5 ≤ L) (hn : n ≤ 512) (hf : cells + 2 ≤ 600000 ∧ slots + 11 ≤ 7302250) (kk : ∀ (H1 : Heap) (locs1 : List Loc), LI g a a2 (fun q : Nat => s.heap.size ≤ q) (n + 1) H1 → va_S (fun q : Nat => s.heap.size ≤ q) s.heap H1 locs1 → W p l e room_1 s m args below meth c H1 locs1 (cells + 2) (slots + 11) Q (F0 m 877 ls [])) : W p l e room_1 s m args below meth c H locs cells slots Q (F0 m 220 ls []) := by
  obtain ⟨hx, hb, hml, hown, hts, hX, hbl, hL⟩ := C0
  have S : CallFix p m c cL_law 4 s args wsL_law RL := ⟨hx, hb, hml, hown, hts⟩
  have hA : ∀ q : Nat, s.heap.size ≤ q → (fun q : Nat => s.heap.size ≤ q) q := fun _ h => h
  have hbA : ¬ (fun q : Nat => s.heap.size ≤ q) b := Nat.not_le.mpr hbl
  obtain ⟨ask, gw, gh, al, ed, gl, top, kep, don, vc, vf, bx, tt, pl, we, le, ab, rw, ki, ow, wa, yy, mw, mh, mke, mnx, mdo, mtr, mma, mto, mah, mrs, mab, ce, mk, mo, mwa, mmc, mmf, mhy, myw, myh, myr, mpi, mme, mde, mwe, mla, ys, hB, hy1, hy2, hy3, hP, hD⟩ := hI
  have hf0 : cells ≤ room_1.cells ∧ slots ≤ room_1.slots := ⟨Nat.le_trans (Nat.le_add_right _ 2) hf.1, Nat.le_trans (Nat.le_add_right _ 11) hf.2⟩
  obtain ⟨r, e3, e4⟩ := b_at hB (xs (i + 1)) (xs (i + 2))
  refine lv_aload_n hx hb dL_law_220 rfl (lv_at hl 1 rfl) ?_
  refine ldx hx hb hX hbl hbA hS hi hL (j := 1) (by omega) (lv_at hl 0 rfl) (lv_at hl 3 rfl) dL_law_221 dL_law_222 dL_law_223 dL_law_224 dL_law_225 ?_
  refine ldx hx hb hX hbl hbA hS hi hL (j := 2) (by omega) (lv_at hl 0 rfl) (lv_at hl 3 rfl) dL_law_226 dL_law_227 dL_law_228 dL_law_229 dL_law_230 ?_
  refine lPV (As := [.int (xs (i + 1)), .int (xs (i + 2))]) (rest := []) (ci := 3) S (ctX3_at l g a (xs (i + 1)) (xs (i + 2)) ask gw gh al ed gl top kep don vc vf bx tt pl we le ab rw ki ow wa r e3) (cwV 2 hts gL_law_X3_at rfl rfl rfl (by decide +kernel) ⟨Nat.le_of_ble_eq_true rfl, Nat.le_of_ble_eq_true rfl⟩) hK hP (fun q h => m_B q h) rfl rfl rfl rfl hl.1 rfl (Nat.le_of_ble_eq_true rfl) dL_law_231 hf0 ?_
  refine lv_aload_n hx hb dL_law_234 rfl (lv_at hl 2 rfl) ?_
  refine ldx hx hb hX hbl hbA hS hi hL (j := 1) (by omega) (lv_at hl 0 rfl) (lv_at hl 3 rfl) dL_law_235 dL_law_236 dL_law_237 dL_law_238 dL_law_239 ?_
  refine ldx hx hb hX hbl hbA hS hi hL (j := 2) (by omega) (lv_at hl 0 rfl) (lv_at hl 3 rfl) dL_law_240 dL_law_241 dL_law_242 dL_law_243 dL_law_244 ?_
  refine lPV (As := [.int (xs (i + 1)), .int (xs (i + 2))]) (rest := [.int r]) (ci := 4) S (ctX4_at l g a2 (xs (i + 1)) (xs (i + 2)) mw mh mke mnx mdo mtr mma mto mah mrs mab ce mk mo mwa mmc mmf mhy myw myh myr mpi mme mde mwe mla r e4) (cwV 2 hts gL_law_X4_at rfl rfl rfl (by decide +kernel) ⟨Nat.le_of_ble_eq_true rfl, Nat.le_of_ble_eq_true rfl⟩) hK hP (fun q h => m_M q h) rfl rfl rfl rfl hl.1 rfl (Nat.le_of_ble_eq_true rfl) dL_law_245 hf0 ?_
  refine lv_icmp_eq (tgt := 877) hx hb dL_law_248 (by decide) (fun _ => ?_) (fun h9 => absurd rfl h9)
  refine W.widen (k := cells + 2) (n := slots + 11) (Nat.le_add_right _ 2) (Nat.le_add_right _ 11) ?_
  exact kk _ _ ⟨_, _, _, _, _, _, _, _, _, _, _, _, _, _, _, _, _, _, _, _, _, _, _, _, _, _, _, _, _, _, _, _, _, _, _, _, _, _, _, _, _, _, _, _, _, _, _, _, _, (hB.more (by omega)), hy1, hy2, hy3, hP, hD⟩ hS
set_option maxHeartbeats 4000000 in
set_option maxRecDepth 100000 in
theorem lc_size (C0 : LCx p s m args c b L xs) (hK : Kx g s) (hI : LI g a a2 (fun q : Nat => s.heap.size ≤ q) n H) (hS : va_S (fun q : Nat => s.heap.size ≤ q) s.heap H locs) (hl : lv_has ls 4 [(0, .ref b), (1, .ref (a 0)), (2, .ref (a2 0)), (3, .int (nI i))]) (hi : i + 5 ≤ L) (hn : n ≤ 512) (hf : cells + 2 ≤ 600000 ∧ slots + 11 ≤ 7302250) (kk : ∀ (H1 : Heap) (locs1 : List Loc), LI g a a2 (fun q : Nat => s.heap.size ≤ q) (n + 1) H1 → va_S (fun q : Nat => s.heap.size ≤ q) s.heap H1 locs1 → W p l e room_1 s m args below meth c H1 locs1 (cells + 2) (slots + 11) Q (F0 m 877 ls [])) : W p l e room_1 s m args below meth c H locs cells slots Q (F0 m 253 ls []) := by
  obtain ⟨hx, hb, hml, hown, hts, hX, hbl, hL⟩ := C0
  have S : CallFix p m c cL_law 4 s args wsL_law RL := ⟨hx, hb, hml, hown, hts⟩
  have hA : ∀ q : Nat, s.heap.size ≤ q → (fun q : Nat => s.heap.size ≤ q) q := fun _ h => h
  have hbA : ¬ (fun q : Nat => s.heap.size ≤ q) b := Nat.not_le.mpr hbl
  obtain ⟨ask, gw, gh, al, ed, gl, top, kep, don, vc, vf, bx, tt, pl, we, le, ab, rw, ki, ow, wa, yy, mw, mh, mke, mnx, mdo, mtr, mma, mto, mah, mrs, mab, ce, mk, mo, mwa, mmc, mmf, mhy, myw, myh, myr, mpi, mme, mde, mwe, mla, ys, hB, hy1, hy2, hy3, hP, hD⟩ := hI
  have hf0 : cells ≤ room_1.cells ∧ slots ≤ room_1.slots := ⟨Nat.le_trans (Nat.le_add_right _ 2) hf.1, Nat.le_trans (Nat.le_add_right _ 11) hf.2⟩
  obtain ⟨r, e3, e4⟩ := b_size hB (xs (i + 1))
  refine lv_aload_n hx hb dL_law_253 rfl (lv_at hl 1 rfl) ?_
  refine ldx hx hb hX hbl hbA hS hi hL (j := 1) (by omega) (lv_at hl 0 rfl) (lv_at hl 3 rfl) dL_law_254 dL_law_255 dL_law_256 dL_law_257 dL_law_258 ?_
  refine lPV (As := [.int (xs (i + 1))]) (rest := []) (ci := 3) S (ctX3_size l g a (xs (i + 1)) ask gw gh al ed gl top kep don vc vf bx tt pl we le ab rw ki ow wa r e3) (cwV 1 hts gL_law_X3_size rfl rfl rfl (by decide +kernel) ⟨Nat.le_of_ble_eq_true rfl, Nat.le_of_ble_eq_true rfl⟩) hK hP (fun q h => m_B q h) rfl rfl rfl rfl hl.1 rfl (Nat.le_of_ble_eq_true rfl) dL_law_259 hf0 ?_
  refine lv_aload_n hx hb dL_law_262 rfl (lv_at hl 2 rfl) ?_
  refine ldx hx hb hX hbl hbA hS hi hL (j := 1) (by omega) (lv_at hl 0 rfl) (lv_at hl 3 rfl) dL_law_263 dL_law_264 dL_law_265 dL_law_266 dL_law_267 ?_
  refine lPV (As := [.int (xs (i + 1))]) (rest := [.int r]) (ci := 4) S (ctX4_size l g a2 (xs (i + 1)) mw mh mke mnx mdo mtr mma mto mah mrs mab ce mk mo mwa mmc mmf mhy myw myh myr mpi mme mde mwe mla r e4) (cwV 1 hts gL_law_X4_size rfl rfl rfl (by decide +kernel) ⟨Nat.le_of_ble_eq_true rfl, Nat.le_of_ble_eq_true rfl⟩) hK hP (fun q h => m_M q h) rfl rfl rfl rfl hl.1 rfl (Nat.le_of_ble_eq_true rfl) dL_law_268 hf0 ?_
  refine lv_icmp_eq (tgt := 877) hx hb dL_law_271 (by decide) (fun _ => ?_) (fun h9 => absurd rfl h9)
  refine W.widen (k := cells + 2) (n := slots + 11) (Nat.le_add_right _ 2) (Nat.le_add_right _ 11) ?_
  exact kk _ _ ⟨_, _, _, _, _, _, _, _, _, _, _, _, _, _, _, _, _, _, _, _, _, _, _, _, _, _, _, _, _, _, _, _, _, _, _, _, _, _, _, _, _, _, _, _, _, _, _, _, _, (hB.more (by omega)), hy1, hy2, hy3, hP, hD⟩ hS
set_option maxHeartbeats 4000000 in
set_option maxRecDepth 100000 in
theorem lc_whole (C0 : LCx p s m args c b L xs) (hK : Kx g s) (hI : LI g a a2 (fun q : Nat => s.heap.size ≤ q) n H) (hS : va_S (fun q : Nat => s.heap.size ≤ q) s.heap H locs) (hl : lv_has ls 4 [(0, .ref b), (1, .ref (a 0)), (2, .ref (a2 0)), (3, .int (nI i))]) (hi : i + 5 ≤ L) (hn : n ≤ 512) (hf : cells + 2 ≤ 600000 ∧ slots + 11 ≤ 7302250) (kk : ∀ (H1 : Heap) (locs1 : List Loc), LI g a a2 (fun q : Nat => s.heap.size ≤ q) (n + 1) H1 → va_S (fun q : Nat => s.heap.size ≤ q) s.heap H1 locs1 → W p l e room_1 s m args below meth c H1 locs1 (cells + 2) (slots + 11) Q (F0 m 877 ls [])) : W p l e room_1 s m args below meth c H locs cells slots Q (F0 m 276 ls []) := by
  obtain ⟨hx, hb, hml, hown, hts, hX, hbl, hL⟩ := C0
  have S : CallFix p m c cL_law 4 s args wsL_law RL := ⟨hx, hb, hml, hown, hts⟩
  have hA : ∀ q : Nat, s.heap.size ≤ q → (fun q : Nat => s.heap.size ≤ q) q := fun _ h => h
  have hbA : ¬ (fun q : Nat => s.heap.size ≤ q) b := Nat.not_le.mpr hbl
  obtain ⟨ask, gw, gh, al, ed, gl, top, kep, don, vc, vf, bx, tt, pl, we, le, ab, rw, ki, ow, wa, yy, mw, mh, mke, mnx, mdo, mtr, mma, mto, mah, mrs, mab, ce, mk, mo, mwa, mmc, mmf, mhy, myw, myh, myr, mpi, mme, mde, mwe, mla, ys, hB, hy1, hy2, hy3, hP, hD⟩ := hI
  have hf0 : cells ≤ room_1.cells ∧ slots ≤ room_1.slots := ⟨Nat.le_trans (Nat.le_add_right _ 2) hf.1, Nat.le_trans (Nat.le_add_right _ 11) hf.2⟩
  obtain ⟨r, pi1, me1, e3, e4⟩ := b_whole hB (xs (i + 1)) mpi mme
  refine lv_aload_n hx hb dL_law_276 rfl (lv_at hl 1 rfl) ?_
  refine ldx hx hb hX hbl hbA hS hi hL (j := 1) (by omega) (lv_at hl 0 rfl) (lv_at hl 3 rfl) dL_law_277 dL_law_278 dL_law_279 dL_law_280 dL_law_281 ?_
  refine lPV (As := [.int (xs (i + 1))]) (rest := []) (ci := 3) S (ctX3_whole l g a (xs (i + 1)) ask gw gh al ed gl top kep don vc vf bx tt pl we le ab rw ki ow wa r e3) (cwV 1 hts gL_law_X3_whole rfl rfl rfl (by decide +kernel) ⟨Nat.le_of_ble_eq_true rfl, Nat.le_of_ble_eq_true rfl⟩) hK hP (fun q h => m_B q h) rfl rfl rfl rfl hl.1 rfl (Nat.le_of_ble_eq_true rfl) dL_law_282 hf0 ?_
  refine lv_aload_n hx hb dL_law_285 rfl (lv_at hl 2 rfl) ?_
  refine ldx hx hb hX hbl hbA hS hi hL (j := 1) (by omega) (lv_at hl 0 rfl) (lv_at hl 3 rfl) dL_law_286 dL_law_287 dL_law_288 dL_law_289 dL_law_290 ?_
  refine lMV (As := [.int (xs (i + 1))]) (rest := [.int r]) (ci := 4) S (ctX4_whole l g a2 (xs (i + 1)) mw mh mke mnx mdo mtr mma mto mah mrs mab ce mk mo mwa mmc mmf mhy myw myh myr mpi mme mde mwe mla (r, pi1, me1) e4) (cwV 1 hts gL_law_X4_whole rfl rfl rfl (by decide +kernel) ⟨Nat.le_of_ble_eq_true rfl, Nat.le_of_ble_eq_true rfl⟩) hK hP hD hS hA (wr := _) (p_back) rfl rfl rfl rfl hl.1 rfl (Nat.le_of_ble_eq_true rfl) dL_law_291 hf0 (fun H locs hP hD hS => ?_)
  have hP := P_perm p_back.symm hP
  have hD := D_perm p_back.symm hD
  refine lv_icmp_eq (tgt := 877) hx hb dL_law_294 (by decide) (fun _ => ?_) (fun h9 => absurd rfl h9)
  refine W.widen (k := cells + 2) (n := slots + 11) (Nat.le_add_right _ 2) (Nat.le_add_right _ 11) ?_
  exact kk _ _ ⟨_, _, _, _, _, _, _, _, _, _, _, _, _, _, _, _, _, _, _, _, _, _, _, _, _, _, _, _, _, _, _, _, _, _, _, _, _, _, _, _, _, _, _, _, _, _, _, _, _, (hB.more (by omega)), hy1, hy2, hy3, hP, hD⟩ hS
set_option maxHeartbeats 4000000 in
set_option maxRecDepth 100000 in
theorem lc_touch (C0 : LCx p s m args c b L xs) (hK : Kx g s) (hI : LI g a a2 (fun q : Nat => s.heap.size ≤ q) n H) (hS : va_S (fun q : Nat => s.heap.size ≤ q) s.heap H locs) (hl : lv_has ls 4 [(0, .ref b), (1, .ref (a 0)), (2, .ref (a2 0)), (3, .int (nI i))]) (hi : i + 5 ≤ L) (hn : n ≤ 512) (hf : cells + 2 ≤ 600000 ∧ slots + 11 ≤ 7302250) (kk : ∀ (H1 : Heap) (locs1 : List Loc), LI g a a2 (fun q : Nat => s.heap.size ≤ q) (n + 1) H1 → va_S (fun q : Nat => s.heap.size ≤ q) s.heap H1 locs1 → W p l e room_1 s m args below meth c H1 locs1 (cells + 2) (slots + 11) Q (F0 m 877 ls [])) : W p l e room_1 s m args below meth c H locs cells slots Q (F0 m 299 ls []) := by
  obtain ⟨hx, hb, hml, hown, hts, hX, hbl, hL⟩ := C0
  have S : CallFix p m c cL_law 4 s args wsL_law RL := ⟨hx, hb, hml, hown, hts⟩
  have hA : ∀ q : Nat, s.heap.size ≤ q → (fun q : Nat => s.heap.size ≤ q) q := fun _ h => h
  have hbA : ¬ (fun q : Nat => s.heap.size ≤ q) b := Nat.not_le.mpr hbl
  obtain ⟨ask, gw, gh, al, ed, gl, top, kep, don, vc, vf, bx, tt, pl, we, le, ab, rw, ki, ow, wa, yy, mw, mh, mke, mnx, mdo, mtr, mma, mto, mah, mrs, mab, ce, mk, mo, mwa, mmc, mmf, mhy, myw, myh, myr, mpi, mme, mde, mwe, mla, ys, hB, hy1, hy2, hy3, hP, hD⟩ := hI
  have hf0 : cells ≤ room_1.cells ∧ slots ≤ room_1.slots := ⟨Nat.le_trans (Nat.le_add_right _ 2) hf.1, Nat.le_trans (Nat.le_add_right _ 11) hf.2⟩
  obtain ⟨r, e3, e4⟩ := b_touch hB (xs (i + 1)) (xs (i + 2))
  refine lv_aload_n hx hb dL_law_299 rfl (lv_at hl 1 rfl) ?_
  refine ldx hx hb hX hbl hbA hS hi hL (j := 1) (by omega) (lv_at hl 0 rfl) (lv_at hl 3 rfl) dL_law_300 dL_law_301 dL_law_302 dL_law_303 dL_law_304 ?_
  refine ldx hx hb hX hbl hbA hS hi hL (j := 2) (by omega) (lv_at hl 0 rfl) (lv_at hl 3 rfl) dL_law_305 dL_law_306 dL_law_307 dL_law_308 dL_law_309 ?_
  refine lPV (As := [.int (xs (i + 1)), .int (xs (i + 2))]) (rest := []) (ci := 3) S (ctX3_touch l g a (xs (i + 1)) (xs (i + 2)) ask gw gh al ed gl top kep don vc vf bx tt pl we le ab rw ki ow wa r e3) (cwV 2 hts gL_law_X3_touch rfl rfl rfl (by decide +kernel) ⟨Nat.le_of_ble_eq_true rfl, Nat.le_of_ble_eq_true rfl⟩) hK hP (fun q h => m_B q h) rfl rfl rfl rfl hl.1 rfl (Nat.le_of_ble_eq_true rfl) dL_law_310 hf0 ?_
  refine lv_aload_n hx hb dL_law_313 rfl (lv_at hl 2 rfl) ?_
  refine ldx hx hb hX hbl hbA hS hi hL (j := 1) (by omega) (lv_at hl 0 rfl) (lv_at hl 3 rfl) dL_law_314 dL_law_315 dL_law_316 dL_law_317 dL_law_318 ?_
  refine ldx hx hb hX hbl hbA hS hi hL (j := 2) (by omega) (lv_at hl 0 rfl) (lv_at hl 3 rfl) dL_law_319 dL_law_320 dL_law_321 dL_law_322 dL_law_323 ?_
  refine lPV (As := [.int (xs (i + 1)), .int (xs (i + 2))]) (rest := [.int r]) (ci := 4) S (ctX4_touch l g a2 (xs (i + 1)) (xs (i + 2)) mw mh mke mnx mdo mtr mma mto mah mrs mab ce mk mo mwa mmc mmf mhy myw myh myr mpi mme mde mwe mla r e4) (cwV 2 hts gL_law_X4_touch rfl rfl rfl (by decide +kernel) ⟨Nat.le_of_ble_eq_true rfl, Nat.le_of_ble_eq_true rfl⟩) hK hP (fun q h => m_M q h) rfl rfl rfl rfl hl.1 rfl (Nat.le_of_ble_eq_true rfl) dL_law_324 hf0 ?_
  refine lv_icmp_eq (tgt := 877) hx hb dL_law_327 (by decide) (fun _ => ?_) (fun h9 => absurd rfl h9)
  refine W.widen (k := cells + 2) (n := slots + 11) (Nat.le_add_right _ 2) (Nat.le_add_right _ 11) ?_
  exact kk _ _ ⟨_, _, _, _, _, _, _, _, _, _, _, _, _, _, _, _, _, _, _, _, _, _, _, _, _, _, _, _, _, _, _, _, _, _, _, _, _, _, _, _, _, _, _, _, _, _, _, _, _, (hB.more (by omega)), hy1, hy2, hy3, hP, hD⟩ hS
set_option maxHeartbeats 4000000 in
set_option maxRecDepth 100000 in
theorem lc_kind (C0 : LCx p s m args c b L xs) (hK : Kx g s) (hI : LI g a a2 (fun q : Nat => s.heap.size ≤ q) n H) (hS : va_S (fun q : Nat => s.heap.size ≤ q) s.heap H locs) (hl : lv_has ls 4 [(0, .ref b), (1, .ref (a 0)), (2, .ref (a2 0)), (3, .int (nI i))]) (hi : i + 5 ≤ L) (hn : n ≤ 512) (hf : cells + 2 ≤ 600000 ∧ slots + 11 ≤ 7302250) (kk : ∀ (H1 : Heap) (locs1 : List Loc), LI g a a2 (fun q : Nat => s.heap.size ≤ q) (n + 1) H1 → va_S (fun q : Nat => s.heap.size ≤ q) s.heap H1 locs1 → W p l e room_1 s m args below meth c H1 locs1 (cells + 2) (slots + 11) Q (F0 m 877 ls [])) : W p l e room_1 s m args below meth c H locs cells slots Q (F0 m 332 ls []) := by
  obtain ⟨hx, hb, hml, hown, hts, hX, hbl, hL⟩ := C0
  have S : CallFix p m c cL_law 4 s args wsL_law RL := ⟨hx, hb, hml, hown, hts⟩
  have hA : ∀ q : Nat, s.heap.size ≤ q → (fun q : Nat => s.heap.size ≤ q) q := fun _ h => h
  have hbA : ¬ (fun q : Nat => s.heap.size ≤ q) b := Nat.not_le.mpr hbl
  obtain ⟨ask, gw, gh, al, ed, gl, top, kep, don, vc, vf, bx, tt, pl, we, le, ab, rw, ki, ow, wa, yy, mw, mh, mke, mnx, mdo, mtr, mma, mto, mah, mrs, mab, ce, mk, mo, mwa, mmc, mmf, mhy, myw, myh, myr, mpi, mme, mde, mwe, mla, ys, hB, hy1, hy2, hy3, hP, hD⟩ := hI
  have hf0 : cells ≤ room_1.cells ∧ slots ≤ room_1.slots := ⟨Nat.le_trans (Nat.le_add_right _ 2) hf.1, Nat.le_trans (Nat.le_add_right _ 11) hf.2⟩
  obtain ⟨r, ki1, ow1, mk1, mo1, e3, e4, hB1⟩ := b_kind hB (xs (i + 1)) (xs (i + 2)) (xs (i + 3)) (xs (i + 4))
  refine lv_aload_n hx hb dL_law_332 rfl (lv_at hl 1 rfl) ?_
  refine ldx hx hb hX hbl hbA hS hi hL (j := 1) (by omega) (lv_at hl 0 rfl) (lv_at hl 3 rfl) dL_law_333 dL_law_334 dL_law_335 dL_law_336 dL_law_337 ?_
  refine ldx hx hb hX hbl hbA hS hi hL (j := 2) (by omega) (lv_at hl 0 rfl) (lv_at hl 3 rfl) dL_law_338 dL_law_339 dL_law_340 dL_law_341 dL_law_342 ?_
  refine ldx hx hb hX hbl hbA hS hi hL (j := 3) (by omega) (lv_at hl 0 rfl) (lv_at hl 3 rfl) dL_law_343 dL_law_344 dL_law_345 dL_law_346 dL_law_347 ?_
  refine ldx hx hb hX hbl hbA hS hi hL (j := 4) (by omega) (lv_at hl 0 rfl) (lv_at hl 3 rfl) dL_law_348 dL_law_349 dL_law_350 dL_law_351 dL_law_352 ?_
  refine lMV (As := [.int (xs (i + 1)), .int (xs (i + 2)), .int (xs (i + 3)), .int (xs (i + 4))]) (rest := []) (ci := 3) S (ctX3_kind l g a (xs (i + 1)) (xs (i + 2)) (xs (i + 3)) (xs (i + 4)) ask gw gh al ed gl top kep don vc vf bx tt pl we le ab rw ki ow wa (r, ki1, ow1) e3) (cwV 4 hts gL_law_X3_kind rfl rfl rfl (by decide +kernel) ⟨Nat.le_of_ble_eq_true rfl, Nat.le_of_ble_eq_true rfl⟩) hK hP hD hS hA (wr := _) (List.Perm.refl _) rfl rfl rfl rfl hl.1 rfl (Nat.le_of_ble_eq_true rfl) dL_law_353 hf0 (fun H locs hP hD hS => ?_)
  refine lv_aload_n hx hb dL_law_356 rfl (lv_at hl 2 rfl) ?_
  refine ldx hx hb hX hbl hbA hS hi hL (j := 1) (by omega) (lv_at hl 0 rfl) (lv_at hl 3 rfl) dL_law_357 dL_law_358 dL_law_359 dL_law_360 dL_law_361 ?_
  refine ldx hx hb hX hbl hbA hS hi hL (j := 2) (by omega) (lv_at hl 0 rfl) (lv_at hl 3 rfl) dL_law_362 dL_law_363 dL_law_364 dL_law_365 dL_law_366 ?_
  refine ldx hx hb hX hbl hbA hS hi hL (j := 3) (by omega) (lv_at hl 0 rfl) (lv_at hl 3 rfl) dL_law_367 dL_law_368 dL_law_369 dL_law_370 dL_law_371 ?_
  refine ldx hx hb hX hbl hbA hS hi hL (j := 4) (by omega) (lv_at hl 0 rfl) (lv_at hl 3 rfl) dL_law_372 dL_law_373 dL_law_374 dL_law_375 dL_law_376 ?_
  refine lMV (As := [.int (xs (i + 1)), .int (xs (i + 2)), .int (xs (i + 3)), .int (xs (i + 4))]) (rest := [.int r]) (ci := 4) S (ctX4_kind l g a2 (xs (i + 1)) (xs (i + 2)) (xs (i + 3)) (xs (i + 4)) mw mh mke mnx mdo mtr mma mto mah mrs mab ce mk mo mwa mmc mmf mhy myw myh myr mpi mme mde mwe mla (r, mk1, mo1) e4) (cwV 4 hts gL_law_X4_kind rfl rfl rfl (by decide +kernel) ⟨Nat.le_of_ble_eq_true rfl, Nat.le_of_ble_eq_true rfl⟩) hK hP hD hS hA (wr := _) (p_back) rfl rfl rfl rfl hl.1 rfl (Nat.le_of_ble_eq_true rfl) dL_law_377 hf0 (fun H locs hP hD hS => ?_)
  have hP := P_perm p_back.symm hP
  have hD := D_perm p_back.symm hD
  refine lv_icmp_eq (tgt := 877) hx hb dL_law_380 (by decide) (fun _ => ?_) (fun h9 => absurd rfl h9)
  refine W.widen (k := cells + 2) (n := slots + 11) (Nat.le_add_right _ 2) (Nat.le_add_right _ 11) ?_
  exact kk _ _ ⟨_, _, _, _, _, _, _, _, _, _, _, _, _, _, _, _, _, _, _, _, _, _, _, _, _, _, _, _, _, _, _, _, _, _, _, _, _, _, _, _, _, _, _, _, _, _, _, _, _, (hB1.more (by omega)), hy1, hy2, hy3, hP, hD⟩ hS
set_option maxHeartbeats 4000000 in
set_option maxRecDepth 100000 in
theorem lc_about (C0 : LCx p s m args c b L xs) (hK : Kx g s) (hI : LI g a a2 (fun q : Nat => s.heap.size ≤ q) n H) (hS : va_S (fun q : Nat => s.heap.size ≤ q) s.heap H locs) (hl : lv_has ls 4 [(0, .ref b), (1, .ref (a 0)), (2, .ref (a2 0)), (3, .int (nI i))]) (hi : i + 5 ≤ L) (hn : n ≤ 512) (hf : cells + 2 ≤ 600000 ∧ slots + 11 ≤ 7302250) (kk : ∀ (H1 : Heap) (locs1 : List Loc), LI g a a2 (fun q : Nat => s.heap.size ≤ q) (n + 1) H1 → va_S (fun q : Nat => s.heap.size ≤ q) s.heap H1 locs1 → W p l e room_1 s m args below meth c H1 locs1 (cells + 2) (slots + 11) Q (F0 m 877 ls [])) : W p l e room_1 s m args below meth c H locs cells slots Q (F0 m 385 ls []) := by
  obtain ⟨hx, hb, hml, hown, hts, hX, hbl, hL⟩ := C0
  have S : CallFix p m c cL_law 4 s args wsL_law RL := ⟨hx, hb, hml, hown, hts⟩
  have hA : ∀ q : Nat, s.heap.size ≤ q → (fun q : Nat => s.heap.size ≤ q) q := fun _ h => h
  have hbA : ¬ (fun q : Nat => s.heap.size ≤ q) b := Nat.not_le.mpr hbl
  obtain ⟨ask, gw, gh, al, ed, gl, top, kep, don, vc, vf, bx, tt, pl, we, le, ab, rw, ki, ow, wa, yy, mw, mh, mke, mnx, mdo, mtr, mma, mto, mah, mrs, mab, ce, mk, mo, mwa, mmc, mmf, mhy, myw, myh, myr, mpi, mme, mde, mwe, mla, ys, hB, hy1, hy2, hy3, hP, hD⟩ := hI
  have hf0 : cells ≤ room_1.cells ∧ slots ≤ room_1.slots := ⟨Nat.le_trans (Nat.le_add_right _ 2) hf.1, Nat.le_trans (Nat.le_add_right _ 11) hf.2⟩
  obtain ⟨r, e3, e4⟩ := b_about hB (xs (i + 1)) (xs (i + 2))
  refine lv_aload_n hx hb dL_law_385 rfl (lv_at hl 1 rfl) ?_
  refine ldx hx hb hX hbl hbA hS hi hL (j := 1) (by omega) (lv_at hl 0 rfl) (lv_at hl 3 rfl) dL_law_386 dL_law_387 dL_law_388 dL_law_389 dL_law_390 ?_
  refine ldx hx hb hX hbl hbA hS hi hL (j := 2) (by omega) (lv_at hl 0 rfl) (lv_at hl 3 rfl) dL_law_391 dL_law_392 dL_law_393 dL_law_394 dL_law_395 ?_
  refine lPV (As := [.int (xs (i + 1)), .int (xs (i + 2))]) (rest := []) (ci := 3) S (ctX3_about l g a (xs (i + 1)) (xs (i + 2)) ask gw gh al ed gl top kep don vc vf bx tt pl we le ab rw ki ow wa r e3) (cwV 2 hts gL_law_X3_about rfl rfl rfl (by decide +kernel) ⟨Nat.le_of_ble_eq_true rfl, Nat.le_of_ble_eq_true rfl⟩) hK hP (fun q h => m_B q h) rfl rfl rfl rfl hl.1 rfl (Nat.le_of_ble_eq_true rfl) dL_law_396 hf0 ?_
  refine lv_aload_n hx hb dL_law_399 rfl (lv_at hl 2 rfl) ?_
  refine ldx hx hb hX hbl hbA hS hi hL (j := 1) (by omega) (lv_at hl 0 rfl) (lv_at hl 3 rfl) dL_law_400 dL_law_401 dL_law_402 dL_law_403 dL_law_404 ?_
  refine ldx hx hb hX hbl hbA hS hi hL (j := 2) (by omega) (lv_at hl 0 rfl) (lv_at hl 3 rfl) dL_law_405 dL_law_406 dL_law_407 dL_law_408 dL_law_409 ?_
  refine lPV (As := [.int (xs (i + 1)), .int (xs (i + 2))]) (rest := [.int r]) (ci := 4) S (ctX4_about l g a2 (xs (i + 1)) (xs (i + 2)) mw mh mke mnx mdo mtr mma mto mah mrs mab ce mk mo mwa mmc mmf mhy myw myh myr mpi mme mde mwe mla r e4) (cwV 2 hts gL_law_X4_about rfl rfl rfl (by decide +kernel) ⟨Nat.le_of_ble_eq_true rfl, Nat.le_of_ble_eq_true rfl⟩) hK hP (fun q h => m_M q h) rfl rfl rfl rfl hl.1 rfl (Nat.le_of_ble_eq_true rfl) dL_law_410 hf0 ?_
  refine lv_icmp_eq (tgt := 877) hx hb dL_law_413 (by decide) (fun _ => ?_) (fun h9 => absurd rfl h9)
  refine W.widen (k := cells + 2) (n := slots + 11) (Nat.le_add_right _ 2) (Nat.le_add_right _ 11) ?_
  exact kk _ _ ⟨_, _, _, _, _, _, _, _, _, _, _, _, _, _, _, _, _, _, _, _, _, _, _, _, _, _, _, _, _, _, _, _, _, _, _, _, _, _, _, _, _, _, _, _, _, _, _, _, _, (hB.more (by omega)), hy1, hy2, hy3, hP, hD⟩ hS
set_option maxHeartbeats 4000000 in
set_option maxRecDepth 100000 in
theorem lc_leaves (C0 : LCx p s m args c b L xs) (hK : Kx g s) (hI : LI g a a2 (fun q : Nat => s.heap.size ≤ q) n H) (hS : va_S (fun q : Nat => s.heap.size ≤ q) s.heap H locs) (hl : lv_has ls 4 [(0, .ref b), (1, .ref (a 0)), (2, .ref (a2 0)), (3, .int (nI i))]) (hi : i + 5 ≤ L) (hn : n ≤ 512) (hf : cells + 2 ≤ 600000 ∧ slots + 11 ≤ 7302250) (kk : ∀ (H1 : Heap) (locs1 : List Loc), LI g a a2 (fun q : Nat => s.heap.size ≤ q) (n + 1) H1 → va_S (fun q : Nat => s.heap.size ≤ q) s.heap H1 locs1 → W p l e room_1 s m args below meth c H1 locs1 (cells + 2) (slots + 11) Q (F0 m 877 ls [])) : W p l e room_1 s m args below meth c H locs cells slots Q (F0 m 418 ls []) := by
  obtain ⟨hx, hb, hml, hown, hts, hX, hbl, hL⟩ := C0
  have S : CallFix p m c cL_law 4 s args wsL_law RL := ⟨hx, hb, hml, hown, hts⟩
  have hA : ∀ q : Nat, s.heap.size ≤ q → (fun q : Nat => s.heap.size ≤ q) q := fun _ h => h
  have hbA : ¬ (fun q : Nat => s.heap.size ≤ q) b := Nat.not_le.mpr hbl
  obtain ⟨ask, gw, gh, al, ed, gl, top, kep, don, vc, vf, bx, tt, pl, we, le, ab, rw, ki, ow, wa, yy, mw, mh, mke, mnx, mdo, mtr, mma, mto, mah, mrs, mab, ce, mk, mo, mwa, mmc, mmf, mhy, myw, myh, myr, mpi, mme, mde, mwe, mla, ys, hB, hy1, hy2, hy3, hP, hD⟩ := hI
  have hf0 : cells ≤ room_1.cells ∧ slots ≤ room_1.slots := ⟨Nat.le_trans (Nat.le_add_right _ 2) hf.1, Nat.le_trans (Nat.le_add_right _ 11) hf.2⟩
  obtain ⟨r, ask1, mtr1, pi1, me1, e3, e4, hB1⟩ := b_leaves hB (xs (i + 1)) (xs (i + 2)) mpi mme
  refine lv_aload_n hx hb dL_law_418 rfl (lv_at hl 1 rfl) ?_
  refine ldx hx hb hX hbl hbA hS hi hL (j := 1) (by omega) (lv_at hl 0 rfl) (lv_at hl 3 rfl) dL_law_419 dL_law_420 dL_law_421 dL_law_422 dL_law_423 ?_
  refine ldx hx hb hX hbl hbA hS hi hL (j := 2) (by omega) (lv_at hl 0 rfl) (lv_at hl 3 rfl) dL_law_424 dL_law_425 dL_law_426 dL_law_427 dL_law_428 ?_
  refine lMV (As := [.int (xs (i + 1)), .int (xs (i + 2))]) (rest := []) (ci := 3) S (ctX3_leaves l g a (xs (i + 1)) (xs (i + 2)) ask gw gh al ed gl top kep don vc vf bx tt pl we le ab rw ki ow wa (r, ask1) e3) (cwV 2 hts gL_law_X3_leaves rfl rfl rfl (by decide +kernel) ⟨Nat.le_of_ble_eq_true rfl, Nat.le_of_ble_eq_true rfl⟩) hK hP hD hS hA (wr := _) (List.Perm.refl _) rfl rfl rfl rfl hl.1 rfl (Nat.le_of_ble_eq_true rfl) dL_law_429 hf0 (fun H locs hP hD hS => ?_)
  refine lv_aload_n hx hb dL_law_432 rfl (lv_at hl 2 rfl) ?_
  refine ldx hx hb hX hbl hbA hS hi hL (j := 1) (by omega) (lv_at hl 0 rfl) (lv_at hl 3 rfl) dL_law_433 dL_law_434 dL_law_435 dL_law_436 dL_law_437 ?_
  refine ldx hx hb hX hbl hbA hS hi hL (j := 2) (by omega) (lv_at hl 0 rfl) (lv_at hl 3 rfl) dL_law_438 dL_law_439 dL_law_440 dL_law_441 dL_law_442 ?_
  refine lMV (As := [.int (xs (i + 1)), .int (xs (i + 2))]) (rest := [.int r]) (ci := 4) S (ctX4_leaves l g a2 (xs (i + 1)) (xs (i + 2)) mw mh mke mnx mdo mtr mma mto mah mrs mab ce mk mo mwa mmc mmf mhy myw myh myr mpi mme mde mwe mla (r, mtr1, ce, pi1, me1) e4) (cwV 2 hts gL_law_X4_leaves rfl rfl rfl (by decide +kernel) ⟨Nat.le_of_ble_eq_true rfl, Nat.le_of_ble_eq_true rfl⟩) hK hP hD hS hA (wr := _) (p_back) rfl rfl rfl rfl hl.1 rfl (Nat.le_of_ble_eq_true rfl) dL_law_443 hf0 (fun H locs hP hD hS => ?_)
  have hP := P_perm p_back.symm hP
  have hD := D_perm p_back.symm hD
  refine lv_icmp_eq (tgt := 877) hx hb dL_law_446 (by decide) (fun _ => ?_) (fun h9 => absurd rfl h9)
  refine W.widen (k := cells + 2) (n := slots + 11) (Nat.le_add_right _ 2) (Nat.le_add_right _ 11) ?_
  exact kk _ _ ⟨_, _, _, _, _, _, _, _, _, _, _, _, _, _, _, _, _, _, _, _, _, _, _, _, _, _, _, _, _, _, _, _, _, _, _, _, _, _, _, _, _, _, _, _, _, _, _, _, _, (hB1.more (by omega)), hy1, hy2, hy3, hP, hD⟩ hS
set_option maxHeartbeats 4000000 in
set_option maxRecDepth 100000 in
theorem lc_may (C0 : LCx p s m args c b L xs) (hK : Kx g s) (hI : LI g a a2 (fun q : Nat => s.heap.size ≤ q) n H) (hS : va_S (fun q : Nat => s.heap.size ≤ q) s.heap H locs) (hl : lv_has ls 4 [(0, .ref b), (1, .ref (a 0)), (2, .ref (a2 0)), (3, .int (nI i))]) (hi : i + 5 ≤ L) (hn : n ≤ 512) (hf : cells + 2 ≤ 600000 ∧ slots + 11 ≤ 7302250) (kk : ∀ (H1 : Heap) (locs1 : List Loc), LI g a a2 (fun q : Nat => s.heap.size ≤ q) (n + 1) H1 → va_S (fun q : Nat => s.heap.size ≤ q) s.heap H1 locs1 → W p l e room_1 s m args below meth c H1 locs1 (cells + 2) (slots + 11) Q (F0 m 877 ls [])) : W p l e room_1 s m args below meth c H locs cells slots Q (F0 m 451 ls []) := by
  obtain ⟨hx, hb, hml, hown, hts, hX, hbl, hL⟩ := C0
  have S : CallFix p m c cL_law 4 s args wsL_law RL := ⟨hx, hb, hml, hown, hts⟩
  have hA : ∀ q : Nat, s.heap.size ≤ q → (fun q : Nat => s.heap.size ≤ q) q := fun _ h => h
  have hbA : ¬ (fun q : Nat => s.heap.size ≤ q) b := Nat.not_le.mpr hbl
  obtain ⟨ask, gw, gh, al, ed, gl, top, kep, don, vc, vf, bx, tt, pl, we, le, ab, rw, ki, ow, wa, yy, mw, mh, mke, mnx, mdo, mtr, mma, mto, mah, mrs, mab, ce, mk, mo, mwa, mmc, mmf, mhy, myw, myh, myr, mpi, mme, mde, mwe, mla, ys, hB, hy1, hy2, hy3, hP, hD⟩ := hI
  have hf0 : cells ≤ room_1.cells ∧ slots ≤ room_1.slots := ⟨Nat.le_trans (Nat.le_add_right _ 2) hf.1, Nat.le_trans (Nat.le_add_right _ 11) hf.2⟩
  obtain ⟨r, pi1, me1, e3, e4⟩ := b_may hB (xs (i + 1)) (xs (i + 2)) (xs (i + 3)) mpi mme
  refine lv_aload_n hx hb dL_law_451 rfl (lv_at hl 1 rfl) ?_
  refine ldx hx hb hX hbl hbA hS hi hL (j := 1) (by omega) (lv_at hl 0 rfl) (lv_at hl 3 rfl) dL_law_452 dL_law_453 dL_law_454 dL_law_455 dL_law_456 ?_
  refine ldx hx hb hX hbl hbA hS hi hL (j := 2) (by omega) (lv_at hl 0 rfl) (lv_at hl 3 rfl) dL_law_457 dL_law_458 dL_law_459 dL_law_460 dL_law_461 ?_
  refine ldx hx hb hX hbl hbA hS hi hL (j := 3) (by omega) (lv_at hl 0 rfl) (lv_at hl 3 rfl) dL_law_462 dL_law_463 dL_law_464 dL_law_465 dL_law_466 ?_
  refine lMV (As := [.int (xs (i + 1)), .int (xs (i + 2)), .int (xs (i + 3))]) (rest := []) (ci := 3) S (ctX3_may l g a (xs (i + 1)) (xs (i + 2)) (xs (i + 3)) ask gw gh al ed gl top kep don vc vf bx tt pl we le ab rw ki ow wa (r, gl) e3) (cwV 3 hts gL_law_X3_may rfl rfl rfl (by decide +kernel) ⟨Nat.le_of_ble_eq_true rfl, Nat.le_of_ble_eq_true rfl⟩) hK hP hD hS hA (wr := _) (List.Perm.refl _) rfl rfl rfl rfl hl.1 rfl (Nat.le_of_ble_eq_true rfl) dL_law_467 hf0 (fun H locs hP hD hS => ?_)
  refine lv_aload_n hx hb dL_law_470 rfl (lv_at hl 2 rfl) ?_
  refine ldx hx hb hX hbl hbA hS hi hL (j := 1) (by omega) (lv_at hl 0 rfl) (lv_at hl 3 rfl) dL_law_471 dL_law_472 dL_law_473 dL_law_474 dL_law_475 ?_
  refine ldx hx hb hX hbl hbA hS hi hL (j := 2) (by omega) (lv_at hl 0 rfl) (lv_at hl 3 rfl) dL_law_476 dL_law_477 dL_law_478 dL_law_479 dL_law_480 ?_
  refine ldx hx hb hX hbl hbA hS hi hL (j := 3) (by omega) (lv_at hl 0 rfl) (lv_at hl 3 rfl) dL_law_481 dL_law_482 dL_law_483 dL_law_484 dL_law_485 ?_
  refine lMV (As := [.int (xs (i + 1)), .int (xs (i + 2)), .int (xs (i + 3))]) (rest := [.int r]) (ci := 4) S (ctX4_may l g a2 (xs (i + 1)) (xs (i + 2)) (xs (i + 3)) mw mh mke mnx mdo mtr mma mto mah mrs mab ce mk mo mwa mmc mmf mhy myw myh myr mpi mme mde mwe mla (r, ce, pi1, me1) e4) (cwV 3 hts gL_law_X4_may rfl rfl rfl (by decide +kernel) ⟨Nat.le_of_ble_eq_true rfl, Nat.le_of_ble_eq_true rfl⟩) hK hP hD hS hA (wr := _) (p_back) rfl rfl rfl rfl hl.1 rfl (Nat.le_of_ble_eq_true rfl) dL_law_486 hf0 (fun H locs hP hD hS => ?_)
  have hP := P_perm p_back.symm hP
  have hD := D_perm p_back.symm hD
  refine lv_icmp_eq (tgt := 877) hx hb dL_law_489 (by decide) (fun _ => ?_) (fun h9 => absurd rfl h9)
  refine W.widen (k := cells + 2) (n := slots + 11) (Nat.le_add_right _ 2) (Nat.le_add_right _ 11) ?_
  exact kk _ _ ⟨_, _, _, _, _, _, _, _, _, _, _, _, _, _, _, _, _, _, _, _, _, _, _, _, _, _, _, _, _, _, _, _, _, _, _, _, _, _, _, _, _, _, _, _, _, _, _, _, _, (hB.more (by omega)), hy1, hy2, hy3, hP, hD⟩ hS
set_option maxHeartbeats 4000000 in
set_option maxRecDepth 100000 in
theorem lc_move (C0 : LCx p s m args c b L xs) (hK : Kx g s) (hI : LI g a a2 (fun q : Nat => s.heap.size ≤ q) n H) (hS : va_S (fun q : Nat => s.heap.size ≤ q) s.heap H locs) (hl : lv_has ls 4 [(0, .ref b), (1, .ref (a 0)), (2, .ref (a2 0)), (3, .int (nI i))]) (hi : i + 5 ≤ L) (hn : n ≤ 512) (hf : cells + 2 ≤ 600000 ∧ slots + 11 ≤ 7302250) (kk : ∀ (H1 : Heap) (locs1 : List Loc), LI g a a2 (fun q : Nat => s.heap.size ≤ q) (n + 1) H1 → va_S (fun q : Nat => s.heap.size ≤ q) s.heap H1 locs1 → W p l e room_1 s m args below meth c H1 locs1 (cells + 2) (slots + 11) Q (F0 m 877 ls [])) : W p l e room_1 s m args below meth c H locs cells slots Q (F0 m 494 ls []) := by
  obtain ⟨hx, hb, hml, hown, hts, hX, hbl, hL⟩ := C0
  have S : CallFix p m c cL_law 4 s args wsL_law RL := ⟨hx, hb, hml, hown, hts⟩
  have hA : ∀ q : Nat, s.heap.size ≤ q → (fun q : Nat => s.heap.size ≤ q) q := fun _ h => h
  have hbA : ¬ (fun q : Nat => s.heap.size ≤ q) b := Nat.not_le.mpr hbl
  obtain ⟨ask, gw, gh, al, ed, gl, top, kep, don, vc, vf, bx, tt, pl, we, le, ab, rw, ki, ow, wa, yy, mw, mh, mke, mnx, mdo, mtr, mma, mto, mah, mrs, mab, ce, mk, mo, mwa, mmc, mmf, mhy, myw, myh, myr, mpi, mme, mde, mwe, mla, ys, hB, hy1, hy2, hy3, hP, hD⟩ := hI
  have hf0 : cells ≤ room_1.cells ∧ slots ≤ room_1.slots := ⟨Nat.le_trans (Nat.le_add_right _ 2) hf.1, Nat.le_trans (Nat.le_add_right _ 11) hf.2⟩
  obtain ⟨r, gl1, top1, kep1, don1, vc1, vf1, mke1, mnx1, mdo1, ce1, mmc1, mmf1, pi1, me1, e3, e4, hB1⟩ := b_move hB (by omega) (xs (i + 1)) (xs (i + 2)) (xs (i + 3)) mpi mme
  refine lv_aload_n hx hb dL_law_494 rfl (lv_at hl 1 rfl) ?_
  refine ldx hx hb hX hbl hbA hS hi hL (j := 1) (by omega) (lv_at hl 0 rfl) (lv_at hl 3 rfl) dL_law_495 dL_law_496 dL_law_497 dL_law_498 dL_law_499 ?_
  refine ldx hx hb hX hbl hbA hS hi hL (j := 2) (by omega) (lv_at hl 0 rfl) (lv_at hl 3 rfl) dL_law_500 dL_law_501 dL_law_502 dL_law_503 dL_law_504 ?_
  refine ldx hx hb hX hbl hbA hS hi hL (j := 3) (by omega) (lv_at hl 0 rfl) (lv_at hl 3 rfl) dL_law_505 dL_law_506 dL_law_507 dL_law_508 dL_law_509 ?_
  refine lMV (As := [.int (xs (i + 1)), .int (xs (i + 2)), .int (xs (i + 3))]) (rest := []) (ci := 3) S (ctX3_move l g a (xs (i + 1)) (xs (i + 2)) (xs (i + 3)) ask gw gh al ed gl top kep don vc vf bx tt pl we le ab rw ki ow wa (r, gl1, top1, kep1, don1, vc1, vf1) e3) (cwV 3 hts gL_law_X3_move rfl rfl rfl (by decide +kernel) ⟨Nat.le_of_ble_eq_true rfl, Nat.le_of_ble_eq_true rfl⟩) hK hP hD hS hA (wr := _) (List.Perm.refl _) rfl rfl rfl rfl hl.1 rfl (Nat.le_of_ble_eq_true rfl) dL_law_510 hf0 (fun H locs hP hD hS => ?_)
  refine lv_aload_n hx hb dL_law_513 rfl (lv_at hl 2 rfl) ?_
  refine ldx hx hb hX hbl hbA hS hi hL (j := 1) (by omega) (lv_at hl 0 rfl) (lv_at hl 3 rfl) dL_law_514 dL_law_515 dL_law_516 dL_law_517 dL_law_518 ?_
  refine ldx hx hb hX hbl hbA hS hi hL (j := 2) (by omega) (lv_at hl 0 rfl) (lv_at hl 3 rfl) dL_law_519 dL_law_520 dL_law_521 dL_law_522 dL_law_523 ?_
  refine ldx hx hb hX hbl hbA hS hi hL (j := 3) (by omega) (lv_at hl 0 rfl) (lv_at hl 3 rfl) dL_law_524 dL_law_525 dL_law_526 dL_law_527 dL_law_528 ?_
  refine lMV (As := [.int (xs (i + 1)), .int (xs (i + 2)), .int (xs (i + 3))]) (rest := [.int r]) (ci := 4) S (ctX4_move l g a2 (xs (i + 1)) (xs (i + 2)) (xs (i + 3)) mw mh mke mnx mdo mtr mma mto mah mrs mab ce mk mo mwa mmc mmf mhy myw myh myr mpi mme mde mwe mla (r, mke1, mnx1, mdo1, ce1, mmc1, mmf1, pi1, me1) e4) (cwV 3 hts gL_law_X4_move rfl rfl rfl (by decide +kernel) ⟨Nat.le_of_ble_eq_true rfl, Nat.le_of_ble_eq_true rfl⟩) hK hP hD hS hA (wr := _) (p_back) rfl rfl rfl rfl hl.1 rfl (Nat.le_of_ble_eq_true rfl) dL_law_529 hf0 (fun H locs hP hD hS => ?_)
  have hP := P_perm p_back.symm hP
  have hD := D_perm p_back.symm hD
  refine lv_icmp_eq (tgt := 877) hx hb dL_law_532 (by decide) (fun _ => ?_) (fun h9 => absurd rfl h9)
  refine W.widen (k := cells + 2) (n := slots + 11) (Nat.le_add_right _ 2) (Nat.le_add_right _ 11) ?_
  exact kk _ _ ⟨_, _, _, _, _, _, _, _, _, _, _, _, _, _, _, _, _, _, _, _, _, _, _, _, _, _, _, _, _, _, _, _, _, _, _, _, _, _, _, _, _, _, _, _, _, _, _, _, _, (hB1.more (by omega)), hy1, hy2, hy3, hP, hD⟩ hS
set_option maxHeartbeats 4000000 in
set_option maxRecDepth 100000 in
theorem lc_want (C0 : LCx p s m args c b L xs) (hK : Kx g s) (hI : LI g a a2 (fun q : Nat => s.heap.size ≤ q) n H) (hS : va_S (fun q : Nat => s.heap.size ≤ q) s.heap H locs) (hl : lv_has ls 4 [(0, .ref b), (1, .ref (a 0)), (2, .ref (a2 0)), (3, .int (nI i))]) (hi : i + 5 ≤ L) (hn : n ≤ 512) (hf : cells + 2 ≤ 600000 ∧ slots + 11 ≤ 7302250) (kk : ∀ (H1 : Heap) (locs1 : List Loc), LI g a a2 (fun q : Nat => s.heap.size ≤ q) (n + 1) H1 → va_S (fun q : Nat => s.heap.size ≤ q) s.heap H1 locs1 → W p l e room_1 s m args below meth c H1 locs1 (cells + 2) (slots + 11) Q (F0 m 877 ls [])) : W p l e room_1 s m args below meth c H locs cells slots Q (F0 m 537 ls []) := by
  obtain ⟨hx, hb, hml, hown, hts, hX, hbl, hL⟩ := C0
  have S : CallFix p m c cL_law 4 s args wsL_law RL := ⟨hx, hb, hml, hown, hts⟩
  have hA : ∀ q : Nat, s.heap.size ≤ q → (fun q : Nat => s.heap.size ≤ q) q := fun _ h => h
  have hbA : ¬ (fun q : Nat => s.heap.size ≤ q) b := Nat.not_le.mpr hbl
  obtain ⟨ask, gw, gh, al, ed, gl, top, kep, don, vc, vf, bx, tt, pl, we, le, ab, rw, ki, ow, wa, yy, mw, mh, mke, mnx, mdo, mtr, mma, mto, mah, mrs, mab, ce, mk, mo, mwa, mmc, mmf, mhy, myw, myh, myr, mpi, mme, mde, mwe, mla, ys, hB, hy1, hy2, hy3, hP, hD⟩ := hI
  have hf0 : cells ≤ room_1.cells ∧ slots ≤ room_1.slots := ⟨Nat.le_trans (Nat.le_add_right _ 2) hf.1, Nat.le_trans (Nat.le_add_right _ 11) hf.2⟩
  obtain ⟨r, wa1, mwa1, e3, e4, hB1⟩ := b_want hB (xs (i + 1)) (xs (i + 2))
  refine lv_aload_n hx hb dL_law_537 rfl (lv_at hl 1 rfl) ?_
  refine ldx hx hb hX hbl hbA hS hi hL (j := 1) (by omega) (lv_at hl 0 rfl) (lv_at hl 3 rfl) dL_law_538 dL_law_539 dL_law_540 dL_law_541 dL_law_542 ?_
  refine ldx hx hb hX hbl hbA hS hi hL (j := 2) (by omega) (lv_at hl 0 rfl) (lv_at hl 3 rfl) dL_law_543 dL_law_544 dL_law_545 dL_law_546 dL_law_547 ?_
  refine lMV (As := [.int (xs (i + 1)), .int (xs (i + 2))]) (rest := []) (ci := 3) S (ctX3_want l g a (xs (i + 1)) (xs (i + 2)) ask gw gh al ed gl top kep don vc vf bx tt pl we le ab rw ki ow wa (r, wa1) e3) (cwV 2 hts gL_law_X3_want rfl rfl rfl (by decide +kernel) ⟨Nat.le_of_ble_eq_true rfl, Nat.le_of_ble_eq_true rfl⟩) hK hP hD hS hA (wr := _) (List.Perm.refl _) rfl rfl rfl rfl hl.1 rfl (Nat.le_of_ble_eq_true rfl) dL_law_548 hf0 (fun H locs hP hD hS => ?_)
  refine lv_aload_n hx hb dL_law_551 rfl (lv_at hl 2 rfl) ?_
  refine ldx hx hb hX hbl hbA hS hi hL (j := 1) (by omega) (lv_at hl 0 rfl) (lv_at hl 3 rfl) dL_law_552 dL_law_553 dL_law_554 dL_law_555 dL_law_556 ?_
  refine ldx hx hb hX hbl hbA hS hi hL (j := 2) (by omega) (lv_at hl 0 rfl) (lv_at hl 3 rfl) dL_law_557 dL_law_558 dL_law_559 dL_law_560 dL_law_561 ?_
  refine lMV (As := [.int (xs (i + 1)), .int (xs (i + 2))]) (rest := [.int r]) (ci := 4) S (ctX4_want l g a2 (xs (i + 1)) (xs (i + 2)) mw mh mke mnx mdo mtr mma mto mah mrs mab ce mk mo mwa mmc mmf mhy myw myh myr mpi mme mde mwe mla (r, mwa1) e4) (cwV 2 hts gL_law_X4_want rfl rfl rfl (by decide +kernel) ⟨Nat.le_of_ble_eq_true rfl, Nat.le_of_ble_eq_true rfl⟩) hK hP hD hS hA (wr := _) (p_back) rfl rfl rfl rfl hl.1 rfl (Nat.le_of_ble_eq_true rfl) dL_law_562 hf0 (fun H locs hP hD hS => ?_)
  have hP := P_perm p_back.symm hP
  have hD := D_perm p_back.symm hD
  refine lv_icmp_eq (tgt := 877) hx hb dL_law_565 (by decide) (fun _ => ?_) (fun h9 => absurd rfl h9)
  refine W.widen (k := cells + 2) (n := slots + 11) (Nat.le_add_right _ 2) (Nat.le_add_right _ 11) ?_
  exact kk _ _ ⟨_, _, _, _, _, _, _, _, _, _, _, _, _, _, _, _, _, _, _, _, _, _, _, _, _, _, _, _, _, _, _, _, _, _, _, _, _, _, _, _, _, _, _, _, _, _, _, _, _, (hB1.more (by omega)), hy1, hy2, hy3, hP, hD⟩ hS
set_option maxHeartbeats 4000000 in
set_option maxRecDepth 100000 in
theorem lc_miss (C0 : LCx p s m args c b L xs) (hK : Kx g s) (hI : LI g a a2 (fun q : Nat => s.heap.size ≤ q) n H) (hS : va_S (fun q : Nat => s.heap.size ≤ q) s.heap H locs) (hl : lv_has ls 4 [(0, .ref b), (1, .ref (a 0)), (2, .ref (a2 0)), (3, .int (nI i))]) (hi : i + 5 ≤ L) (hn : n ≤ 512) (hf : cells + 2 ≤ 600000 ∧ slots + 11 ≤ 7302250) (kk : ∀ (H1 : Heap) (locs1 : List Loc), LI g a a2 (fun q : Nat => s.heap.size ≤ q) (n + 1) H1 → va_S (fun q : Nat => s.heap.size ≤ q) s.heap H1 locs1 → W p l e room_1 s m args below meth c H1 locs1 (cells + 2) (slots + 11) Q (F0 m 877 ls [])) : W p l e room_1 s m args below meth c H locs cells slots Q (F0 m 570 ls []) := by
  obtain ⟨hx, hb, hml, hown, hts, hX, hbl, hL⟩ := C0
  have S : CallFix p m c cL_law 4 s args wsL_law RL := ⟨hx, hb, hml, hown, hts⟩
  have hA : ∀ q : Nat, s.heap.size ≤ q → (fun q : Nat => s.heap.size ≤ q) q := fun _ h => h
  have hbA : ¬ (fun q : Nat => s.heap.size ≤ q) b := Nat.not_le.mpr hbl
  obtain ⟨ask, gw, gh, al, ed, gl, top, kep, don, vc, vf, bx, tt, pl, we, le, ab, rw, ki, ow, wa, yy, mw, mh, mke, mnx, mdo, mtr, mma, mto, mah, mrs, mab, ce, mk, mo, mwa, mmc, mmf, mhy, myw, myh, myr, mpi, mme, mde, mwe, mla, ys, hB, hy1, hy2, hy3, hP, hD⟩ := hI
  have hf0 : cells ≤ room_1.cells ∧ slots ≤ room_1.slots := ⟨Nat.le_trans (Nat.le_add_right _ 2) hf.1, Nat.le_trans (Nat.le_add_right _ 11) hf.2⟩
  obtain ⟨r, e3, e4⟩ := b_miss hB
  refine lv_aload_n hx hb dL_law_570 rfl (lv_at hl 1 rfl) ?_
  refine lPV (As := []) (rest := []) (ci := 3) S (ctX3_miss l g a  ask gw gh al ed gl top kep don vc vf bx tt pl we le ab rw ki ow wa r e3) (cwV 0 hts gL_law_X3_miss rfl rfl rfl (by decide +kernel) ⟨Nat.le_of_ble_eq_true rfl, Nat.le_of_ble_eq_true rfl⟩) hK hP (fun q h => m_B q h) rfl rfl rfl rfl hl.1 rfl (Nat.le_of_ble_eq_true rfl) dL_law_571 hf0 ?_
  refine lv_aload_n hx hb dL_law_574 rfl (lv_at hl 2 rfl) ?_
  refine lPV (As := []) (rest := [.int r]) (ci := 4) S (ctX4_miss l g a2  mw mh mke mnx mdo mtr mma mto mah mrs mab ce mk mo mwa mmc mmf mhy myw myh myr mpi mme mde mwe mla r e4) (cwV 0 hts gL_law_X4_miss rfl rfl rfl (by decide +kernel) ⟨Nat.le_of_ble_eq_true rfl, Nat.le_of_ble_eq_true rfl⟩) hK hP (fun q h => m_M q h) rfl rfl rfl rfl hl.1 rfl (Nat.le_of_ble_eq_true rfl) dL_law_575 hf0 ?_
  refine lv_icmp_eq (tgt := 877) hx hb dL_law_578 (by decide) (fun _ => ?_) (fun h9 => absurd rfl h9)
  refine W.widen (k := cells + 2) (n := slots + 11) (Nat.le_add_right _ 2) (Nat.le_add_right _ 11) ?_
  exact kk _ _ ⟨_, _, _, _, _, _, _, _, _, _, _, _, _, _, _, _, _, _, _, _, _, _, _, _, _, _, _, _, _, _, _, _, _, _, _, _, _, _, _, _, _, _, _, _, _, _, _, _, _, (hB.more (by omega)), hy1, hy2, hy3, hP, hD⟩ hS
set_option maxHeartbeats 4000000 in
set_option maxRecDepth 100000 in
theorem lc_steps (C0 : LCx p s m args c b L xs) (hK : Kx g s) (hI : LI g a a2 (fun q : Nat => s.heap.size ≤ q) n H) (hS : va_S (fun q : Nat => s.heap.size ≤ q) s.heap H locs) (hl : lv_has ls 4 [(0, .ref b), (1, .ref (a 0)), (2, .ref (a2 0)), (3, .int (nI i))]) (hi : i + 5 ≤ L) (hn : n ≤ 512) (hf : cells + 2 ≤ 600000 ∧ slots + 11 ≤ 7302250) (kk : ∀ (H1 : Heap) (locs1 : List Loc), LI g a a2 (fun q : Nat => s.heap.size ≤ q) (n + 1) H1 → va_S (fun q : Nat => s.heap.size ≤ q) s.heap H1 locs1 → W p l e room_1 s m args below meth c H1 locs1 (cells + 2) (slots + 11) Q (F0 m 877 ls [])) : W p l e room_1 s m args below meth c H locs cells slots Q (F0 m 583 ls []) := by
  obtain ⟨hx, hb, hml, hown, hts, hX, hbl, hL⟩ := C0
  have S : CallFix p m c cL_law 4 s args wsL_law RL := ⟨hx, hb, hml, hown, hts⟩
  have hA : ∀ q : Nat, s.heap.size ≤ q → (fun q : Nat => s.heap.size ≤ q) q := fun _ h => h
  have hbA : ¬ (fun q : Nat => s.heap.size ≤ q) b := Nat.not_le.mpr hbl
  obtain ⟨ask, gw, gh, al, ed, gl, top, kep, don, vc, vf, bx, tt, pl, we, le, ab, rw, ki, ow, wa, yy, mw, mh, mke, mnx, mdo, mtr, mma, mto, mah, mrs, mab, ce, mk, mo, mwa, mmc, mmf, mhy, myw, myh, myr, mpi, mme, mde, mwe, mla, ys, hB, hy1, hy2, hy3, hP, hD⟩ := hI
  have hf0 : cells ≤ room_1.cells ∧ slots ≤ room_1.slots := ⟨Nat.le_trans (Nat.le_add_right _ 2) hf.1, Nat.le_trans (Nat.le_add_right _ 11) hf.2⟩
  obtain ⟨r, gl1, top1, kep1, don1, vc1, vf1, mke1, mnx1, mdo1, ce1, mmc1, mmf1, pi1, me1, e3, e4, hB1⟩ := b_steps hB (by omega) (xs (i + 1)) mpi mme
  refine lv_aload_n hx hb dL_law_583 rfl (lv_at hl 1 rfl) ?_
  refine ldx hx hb hX hbl hbA hS hi hL (j := 1) (by omega) (lv_at hl 0 rfl) (lv_at hl 3 rfl) dL_law_584 dL_law_585 dL_law_586 dL_law_587 dL_law_588 ?_
  refine lMV (As := [.int (xs (i + 1))]) (rest := []) (ci := 3) S (ctX3_steps l g a (xs (i + 1)) ask gw gh al ed gl top kep don vc vf bx tt pl we le ab rw ki ow wa (r, gl1, top1, kep1, don1, vc1, vf1) e3) (cwV 1 hts gL_law_X3_steps rfl rfl rfl (by decide +kernel) ⟨Nat.le_of_ble_eq_true rfl, Nat.le_of_ble_eq_true rfl⟩) hK hP hD hS hA (wr := _) (List.Perm.refl _) rfl rfl rfl rfl hl.1 rfl (Nat.le_of_ble_eq_true rfl) dL_law_589 hf0 (fun H locs hP hD hS => ?_)
  refine lv_aload_n hx hb dL_law_592 rfl (lv_at hl 2 rfl) ?_
  refine ldx hx hb hX hbl hbA hS hi hL (j := 1) (by omega) (lv_at hl 0 rfl) (lv_at hl 3 rfl) dL_law_593 dL_law_594 dL_law_595 dL_law_596 dL_law_597 ?_
  refine lMV (As := [.int (xs (i + 1))]) (rest := [.int r]) (ci := 4) S (ctX4_steps l g a2 (xs (i + 1)) mw mh mke mnx mdo mtr mma mto mah mrs mab ce mk mo mwa mmc mmf mhy myw myh myr mpi mme mde mwe mla (r, mke1, mnx1, mdo1, ce1, mmc1, mmf1, pi1, me1) e4) (cwV 1 hts gL_law_X4_steps rfl rfl rfl (by decide +kernel) ⟨Nat.le_of_ble_eq_true rfl, Nat.le_of_ble_eq_true rfl⟩) hK hP hD hS hA (wr := _) (p_back) rfl rfl rfl rfl hl.1 rfl (Nat.le_of_ble_eq_true rfl) dL_law_598 hf0 (fun H locs hP hD hS => ?_)
  have hP := P_perm p_back.symm hP
  have hD := D_perm p_back.symm hD
  refine lv_icmp_eq (tgt := 877) hx hb dL_law_601 (by decide) (fun _ => ?_) (fun h9 => absurd rfl h9)
  refine W.widen (k := cells + 2) (n := slots + 11) (Nat.le_add_right _ 2) (Nat.le_add_right _ 11) ?_
  exact kk _ _ ⟨_, _, _, _, _, _, _, _, _, _, _, _, _, _, _, _, _, _, _, _, _, _, _, _, _, _, _, _, _, _, _, _, _, _, _, _, _, _, _, _, _, _, _, _, _, _, _, _, _, (hB1.more (by omega)), hy1, hy2, hy3, hP, hD⟩ hS
set_option maxHeartbeats 4000000 in
set_option maxRecDepth 100000 in
theorem lc_undo (C0 : LCx p s m args c b L xs) (hK : Kx g s) (hI : LI g a a2 (fun q : Nat => s.heap.size ≤ q) n H) (hS : va_S (fun q : Nat => s.heap.size ≤ q) s.heap H locs) (hl : lv_has ls 4 [(0, .ref b), (1, .ref (a 0)), (2, .ref (a2 0)), (3, .int (nI i))]) (hi : i + 5 ≤ L) (hn : n ≤ 512) (hf : cells + 2 ≤ 600000 ∧ slots + 11 ≤ 7302250) (kk : ∀ (H1 : Heap) (locs1 : List Loc), LI g a a2 (fun q : Nat => s.heap.size ≤ q) (n + 1) H1 → va_S (fun q : Nat => s.heap.size ≤ q) s.heap H1 locs1 → W p l e room_1 s m args below meth c H1 locs1 (cells + 2) (slots + 11) Q (F0 m 877 ls [])) : W p l e room_1 s m args below meth c H locs cells slots Q (F0 m 606 ls []) := by
  obtain ⟨hx, hb, hml, hown, hts, hX, hbl, hL⟩ := C0
  have S : CallFix p m c cL_law 4 s args wsL_law RL := ⟨hx, hb, hml, hown, hts⟩
  have hA : ∀ q : Nat, s.heap.size ≤ q → (fun q : Nat => s.heap.size ≤ q) q := fun _ h => h
  have hbA : ¬ (fun q : Nat => s.heap.size ≤ q) b := Nat.not_le.mpr hbl
  obtain ⟨ask, gw, gh, al, ed, gl, top, kep, don, vc, vf, bx, tt, pl, we, le, ab, rw, ki, ow, wa, yy, mw, mh, mke, mnx, mdo, mtr, mma, mto, mah, mrs, mab, ce, mk, mo, mwa, mmc, mmf, mhy, myw, myh, myr, mpi, mme, mde, mwe, mla, ys, hB, hy1, hy2, hy3, hP, hD⟩ := hI
  have hf0 : cells ≤ room_1.cells ∧ slots ≤ room_1.slots := ⟨Nat.le_trans (Nat.le_add_right _ 2) hf.1, Nat.le_trans (Nat.le_add_right _ 11) hf.2⟩
  obtain ⟨r, gl1, top1, kep1, mke1, mnx1, ce1, e3, e4, hB1⟩ := b_undo hB (by omega) (xs (i + 1))
  refine lv_aload_n hx hb dL_law_606 rfl (lv_at hl 1 rfl) ?_
  refine ldx hx hb hX hbl hbA hS hi hL (j := 1) (by omega) (lv_at hl 0 rfl) (lv_at hl 3 rfl) dL_law_607 dL_law_608 dL_law_609 dL_law_610 dL_law_611 ?_
  refine lMV (As := [.int (xs (i + 1))]) (rest := []) (ci := 3) S (ctX3_undo l g a (xs (i + 1)) ask gw gh al ed gl top kep don vc vf bx tt pl we le ab rw ki ow wa (r, gl1, top1, kep1) e3) (cwV 1 hts gL_law_X3_undo rfl rfl rfl (by decide +kernel) ⟨Nat.le_of_ble_eq_true rfl, Nat.le_of_ble_eq_true rfl⟩) hK hP hD hS hA (wr := _) (List.Perm.refl _) rfl rfl rfl rfl hl.1 rfl (Nat.le_of_ble_eq_true rfl) dL_law_612 hf0 (fun H locs hP hD hS => ?_)
  refine lv_aload_n hx hb dL_law_615 rfl (lv_at hl 2 rfl) ?_
  refine ldx hx hb hX hbl hbA hS hi hL (j := 1) (by omega) (lv_at hl 0 rfl) (lv_at hl 3 rfl) dL_law_616 dL_law_617 dL_law_618 dL_law_619 dL_law_620 ?_
  refine lMV (As := [.int (xs (i + 1))]) (rest := [.int r]) (ci := 4) S (ctX4_undo l g a2 (xs (i + 1)) mw mh mke mnx mdo mtr mma mto mah mrs mab ce mk mo mwa mmc mmf mhy myw myh myr mpi mme mde mwe mla (r, mke1, mnx1, ce1) e4) (cwV 1 hts gL_law_X4_undo rfl rfl rfl (by decide +kernel) ⟨Nat.le_of_ble_eq_true rfl, Nat.le_of_ble_eq_true rfl⟩) hK hP hD hS hA (wr := _) (p_back) rfl rfl rfl rfl hl.1 rfl (Nat.le_of_ble_eq_true rfl) dL_law_621 hf0 (fun H locs hP hD hS => ?_)
  have hP := P_perm p_back.symm hP
  have hD := D_perm p_back.symm hD
  refine lv_icmp_eq (tgt := 877) hx hb dL_law_624 (by decide) (fun _ => ?_) (fun h9 => absurd rfl h9)
  refine W.widen (k := cells + 2) (n := slots + 11) (Nat.le_add_right _ 2) (Nat.le_add_right _ 11) ?_
  exact kk _ _ ⟨_, _, _, _, _, _, _, _, _, _, _, _, _, _, _, _, _, _, _, _, _, _, _, _, _, _, _, _, _, _, _, _, _, _, _, _, _, _, _, _, _, _, _, _, _, _, _, _, _, (hB1.more (by omega)), hy1, hy2, hy3, hP, hD⟩ hS
set_option maxHeartbeats 4000000 in
set_option maxRecDepth 100000 in
theorem lc_label (C0 : LCx p s m args c b L xs) (hK : Kx g s) (hI : LI g a a2 (fun q : Nat => s.heap.size ≤ q) n H) (hS : va_S (fun q : Nat => s.heap.size ≤ q) s.heap H locs) (hl : lv_has ls 4 [(0, .ref b), (1, .ref (a 0)), (2, .ref (a2 0)), (3, .int (nI i))]) (hi : i + 5 ≤ L) (hn : n ≤ 512) (hf : cells + 2 ≤ 600000 ∧ slots + 11 ≤ 7302250) (kk : ∀ (H1 : Heap) (locs1 : List Loc), LI g a a2 (fun q : Nat => s.heap.size ≤ q) (n + 1) H1 → va_S (fun q : Nat => s.heap.size ≤ q) s.heap H1 locs1 → W p l e room_1 s m args below meth c H1 locs1 (cells + 2) (slots + 11) Q (F0 m 877 ls [])) : W p l e room_1 s m args below meth c H locs cells slots Q (F0 m 629 ls []) := by
  obtain ⟨hx, hb, hml, hown, hts, hX, hbl, hL⟩ := C0
  have S : CallFix p m c cL_law 4 s args wsL_law RL := ⟨hx, hb, hml, hown, hts⟩
  have hA : ∀ q : Nat, s.heap.size ≤ q → (fun q : Nat => s.heap.size ≤ q) q := fun _ h => h
  have hbA : ¬ (fun q : Nat => s.heap.size ≤ q) b := Nat.not_le.mpr hbl
  obtain ⟨ask, gw, gh, al, ed, gl, top, kep, don, vc, vf, bx, tt, pl, we, le, ab, rw, ki, ow, wa, yy, mw, mh, mke, mnx, mdo, mtr, mma, mto, mah, mrs, mab, ce, mk, mo, mwa, mmc, mmf, mhy, myw, myh, myr, mpi, mme, mde, mwe, mla, ys, hB, hy1, hy2, hy3, hP, hD⟩ := hI
  have hf0 : cells ≤ room_1.cells ∧ slots ≤ room_1.slots := ⟨Nat.le_trans (Nat.le_add_right _ 2) hf.1, Nat.le_trans (Nat.le_add_right _ 11) hf.2⟩
  obtain ⟨r, de1, e3, e4⟩ := b_label hB (xs (i + 1)) (xs (i + 2)) mde
  refine lv_aload_n hx hb dL_law_629 rfl (lv_at hl 1 rfl) ?_
  refine ldx hx hb hX hbl hbA hS hi hL (j := 1) (by omega) (lv_at hl 0 rfl) (lv_at hl 3 rfl) dL_law_630 dL_law_631 dL_law_632 dL_law_633 dL_law_634 ?_
  refine ldx hx hb hX hbl hbA hS hi hL (j := 2) (by omega) (lv_at hl 0 rfl) (lv_at hl 3 rfl) dL_law_635 dL_law_636 dL_law_637 dL_law_638 dL_law_639 ?_
  refine lPV (As := [.int (xs (i + 1)), .int (xs (i + 2))]) (rest := []) (ci := 3) S (ctX3_label l g a (xs (i + 1)) (xs (i + 2)) ask gw gh al ed gl top kep don vc vf bx tt pl we le ab rw ki ow wa r e3) (cwV 2 hts gL_law_X3_label rfl rfl rfl (by decide +kernel) ⟨Nat.le_of_ble_eq_true rfl, Nat.le_of_ble_eq_true rfl⟩) hK hP (fun q h => m_B q h) rfl rfl rfl rfl hl.1 rfl (Nat.le_of_ble_eq_true rfl) dL_law_640 hf0 ?_
  refine lv_aload_n hx hb dL_law_643 rfl (lv_at hl 2 rfl) ?_
  refine ldx hx hb hX hbl hbA hS hi hL (j := 1) (by omega) (lv_at hl 0 rfl) (lv_at hl 3 rfl) dL_law_644 dL_law_645 dL_law_646 dL_law_647 dL_law_648 ?_
  refine ldx hx hb hX hbl hbA hS hi hL (j := 2) (by omega) (lv_at hl 0 rfl) (lv_at hl 3 rfl) dL_law_649 dL_law_650 dL_law_651 dL_law_652 dL_law_653 ?_
  refine lMV (As := [.int (xs (i + 1)), .int (xs (i + 2))]) (rest := [.int r]) (ci := 4) S (ctX4_label l g a2 (xs (i + 1)) (xs (i + 2)) mw mh mke mnx mdo mtr mma mto mah mrs mab ce mk mo mwa mmc mmf mhy myw myh myr mpi mme mde mwe mla (r, de1) e4) (cwV 2 hts gL_law_X4_label rfl rfl rfl (by decide +kernel) ⟨Nat.le_of_ble_eq_true rfl, Nat.le_of_ble_eq_true rfl⟩) hK hP hD hS hA (wr := _) (p_back) rfl rfl rfl rfl hl.1 rfl (Nat.le_of_ble_eq_true rfl) dL_law_654 hf0 (fun H locs hP hD hS => ?_)
  have hP := P_perm p_back.symm hP
  have hD := D_perm p_back.symm hD
  refine lv_icmp_eq (tgt := 877) hx hb dL_law_657 (by decide) (fun _ => ?_) (fun h9 => absurd rfl h9)
  refine W.widen (k := cells + 2) (n := slots + 11) (Nat.le_add_right _ 2) (Nat.le_add_right _ 11) ?_
  exact kk _ _ ⟨_, _, _, _, _, _, _, _, _, _, _, _, _, _, _, _, _, _, _, _, _, _, _, _, _, _, _, _, _, _, _, _, _, _, _, _, _, _, _, _, _, _, _, _, _, _, _, _, _, (hB.more (by omega)), hy1, hy2, hy3, hP, hD⟩ hS
set_option maxHeartbeats 4000000 in
set_option maxRecDepth 100000 in
theorem lc_longer (C0 : LCx p s m args c b L xs) (hK : Kx g s) (hI : LI g a a2 (fun q : Nat => s.heap.size ≤ q) n H) (hS : va_S (fun q : Nat => s.heap.size ≤ q) s.heap H locs) (hl : lv_has ls 4 [(0, .ref b), (1, .ref (a 0)), (2, .ref (a2 0)), (3, .int (nI i))]) (hi : i + 5 ≤ L) (hn : n ≤ 512) (hf : cells + 2 ≤ 600000 ∧ slots + 11 ≤ 7302250) (kk : ∀ (H1 : Heap) (locs1 : List Loc), LI g a a2 (fun q : Nat => s.heap.size ≤ q) (n + 1) H1 → va_S (fun q : Nat => s.heap.size ≤ q) s.heap H1 locs1 → W p l e room_1 s m args below meth c H1 locs1 (cells + 2) (slots + 11) Q (F0 m 877 ls [])) : W p l e room_1 s m args below meth c H locs cells slots Q (F0 m 662 ls []) := by
  obtain ⟨hx, hb, hml, hown, hts, hX, hbl, hL⟩ := C0
  have S : CallFix p m c cL_law 4 s args wsL_law RL := ⟨hx, hb, hml, hown, hts⟩
  have hA : ∀ q : Nat, s.heap.size ≤ q → (fun q : Nat => s.heap.size ≤ q) q := fun _ h => h
  have hbA : ¬ (fun q : Nat => s.heap.size ≤ q) b := Nat.not_le.mpr hbl
  obtain ⟨ask, gw, gh, al, ed, gl, top, kep, don, vc, vf, bx, tt, pl, we, le, ab, rw, ki, ow, wa, yy, mw, mh, mke, mnx, mdo, mtr, mma, mto, mah, mrs, mab, ce, mk, mo, mwa, mmc, mmf, mhy, myw, myh, myr, mpi, mme, mde, mwe, mla, ys, hB, hy1, hy2, hy3, hP, hD⟩ := hI
  have hf0 : cells ≤ room_1.cells ∧ slots ≤ room_1.slots := ⟨Nat.le_trans (Nat.le_add_right _ 2) hf.1, Nat.le_trans (Nat.le_add_right _ 11) hf.2⟩
  obtain ⟨r, c1, c2, c3, c4, c5, c6, c7, m1, m2, m3, m4, m5, m6, m7, e3, e4⟩ := b_longer hB (xs (i + 1)) (xs (i + 2)) (xs (i + 3)) bx tt mma mto mah mrs mab pl we le ab rw mwe mla
  refine lv_aload_n hx hb dL_law_662 rfl (lv_at hl 1 rfl) ?_
  refine ldx hx hb hX hbl hbA hS hi hL (j := 1) (by omega) (lv_at hl 0 rfl) (lv_at hl 3 rfl) dL_law_663 dL_law_664 dL_law_665 dL_law_666 dL_law_667 ?_
  refine ldx hx hb hX hbl hbA hS hi hL (j := 2) (by omega) (lv_at hl 0 rfl) (lv_at hl 3 rfl) dL_law_668 dL_law_669 dL_law_670 dL_law_671 dL_law_672 ?_
  refine ldx hx hb hX hbl hbA hS hi hL (j := 3) (by omega) (lv_at hl 0 rfl) (lv_at hl 3 rfl) dL_law_673 dL_law_674 dL_law_675 dL_law_676 dL_law_677 ?_
  refine lMV (As := [.int (xs (i + 1)), .int (xs (i + 2)), .int (xs (i + 3))]) (rest := []) (ci := 3) S (ctX3_longer l g a (xs (i + 1)) (xs (i + 2)) (xs (i + 3)) ask gw gh al ed gl top kep don vc vf bx tt pl we le ab rw ki ow wa (r, c1, c2, c3, c4, c5, c6, c7) e3) (cwV 3 hts gL_law_X3_longer rfl rfl rfl (by decide +kernel) ⟨Nat.le_of_ble_eq_true rfl, Nat.le_of_ble_eq_true rfl⟩) hK hP hD hS hA (wr := _) (List.Perm.refl _) rfl rfl rfl rfl hl.1 rfl (Nat.le_of_ble_eq_true rfl) dL_law_678 hf0 (fun H locs hP hD hS => ?_)
  refine lv_aload_n hx hb dL_law_681 rfl (lv_at hl 2 rfl) ?_
  refine ldx hx hb hX hbl hbA hS hi hL (j := 1) (by omega) (lv_at hl 0 rfl) (lv_at hl 3 rfl) dL_law_682 dL_law_683 dL_law_684 dL_law_685 dL_law_686 ?_
  refine ldx hx hb hX hbl hbA hS hi hL (j := 2) (by omega) (lv_at hl 0 rfl) (lv_at hl 3 rfl) dL_law_687 dL_law_688 dL_law_689 dL_law_690 dL_law_691 ?_
  refine ldx hx hb hX hbl hbA hS hi hL (j := 3) (by omega) (lv_at hl 0 rfl) (lv_at hl 3 rfl) dL_law_692 dL_law_693 dL_law_694 dL_law_695 dL_law_696 ?_
  refine lMV (As := [.int (xs (i + 1)), .int (xs (i + 2)), .int (xs (i + 3))]) (rest := [.int r]) (ci := 4) S (ctX4_longer l g a2 (xs (i + 1)) (xs (i + 2)) (xs (i + 3)) mw mh mke mnx mdo mtr mma mto mah mrs mab ce mk mo mwa mmc mmf mhy myw myh myr mpi mme mde mwe mla (r, m1, m2, m3, m4, m5, m6, m7) e4) (cwV 3 hts gL_law_X4_longer rfl rfl rfl (by decide +kernel) ⟨Nat.le_of_ble_eq_true rfl, Nat.le_of_ble_eq_true rfl⟩) hK hP hD hS hA (wr := _) (p_back) rfl rfl rfl rfl hl.1 rfl (Nat.le_of_ble_eq_true rfl) dL_law_697 hf0 (fun H locs hP hD hS => ?_)
  have hP := P_perm p_back.symm hP
  have hD := D_perm p_back.symm hD
  refine lv_icmp_eq (tgt := 877) hx hb dL_law_700 (by decide) (fun _ => ?_) (fun h9 => absurd rfl h9)
  refine W.widen (k := cells + 2) (n := slots + 11) (Nat.le_add_right _ 2) (Nat.le_add_right _ 11) ?_
  exact kk _ _ ⟨_, _, _, _, _, _, _, _, _, _, _, _, _, _, _, _, _, _, _, _, _, _, _, _, _, _, _, _, _, _, _, _, _, _, _, _, _, _, _, _, _, _, _, _, _, _, _, _, _, (hB.more (by omega)), hy1, hy2, hy3, hP, hD⟩ hS
set_option maxHeartbeats 4000000 in
set_option maxRecDepth 100000 in
theorem lc_box (C0 : LCx p s m args c b L xs) (hK : Kx g s) (hI : LI g a a2 (fun q : Nat => s.heap.size ≤ q) n H) (hS : va_S (fun q : Nat => s.heap.size ≤ q) s.heap H locs) (hl : lv_has ls 4 [(0, .ref b), (1, .ref (a 0)), (2, .ref (a2 0)), (3, .int (nI i))]) (hi : i + 5 ≤ L) (hn : n ≤ 512) (hf : cells + 2 ≤ 600000 ∧ slots + 11 ≤ 7302250) (kk : ∀ (H1 : Heap) (locs1 : List Loc), LI g a a2 (fun q : Nat => s.heap.size ≤ q) (n + 1) H1 → va_S (fun q : Nat => s.heap.size ≤ q) s.heap H1 locs1 → W p l e room_1 s m args below meth c H1 locs1 (cells + 2) (slots + 11) Q (F0 m 877 ls [])) : W p l e room_1 s m args below meth c H locs cells slots Q (F0 m 705 ls []) := by
  obtain ⟨hx, hb, hml, hown, hts, hX, hbl, hL⟩ := C0
  have S : CallFix p m c cL_law 4 s args wsL_law RL := ⟨hx, hb, hml, hown, hts⟩
  have hA : ∀ q : Nat, s.heap.size ≤ q → (fun q : Nat => s.heap.size ≤ q) q := fun _ h => h
  have hbA : ¬ (fun q : Nat => s.heap.size ≤ q) b := Nat.not_le.mpr hbl
  obtain ⟨ask, gw, gh, al, ed, gl, top, kep, don, vc, vf, bx, tt, pl, we, le, ab, rw, ki, ow, wa, yy, mw, mh, mke, mnx, mdo, mtr, mma, mto, mah, mrs, mab, ce, mk, mo, mwa, mmc, mmf, mhy, myw, myh, myr, mpi, mme, mde, mwe, mla, ys, hB, hy1, hy2, hy3, hP, hD⟩ := hI
  have hf0 : cells ≤ room_1.cells ∧ slots ≤ room_1.slots := ⟨Nat.le_trans (Nat.le_add_right _ 2) hf.1, Nat.le_trans (Nat.le_add_right _ 11) hf.2⟩
  obtain ⟨r, c1, c2, c3, c4, c5, c6, c7, m1, m2, m3, m4, m5, m6, m7, e3, e4⟩ := b_box hB (xs (i + 1)) (xs (i + 2)) (xs (i + 3)) bx tt mma mto mah mrs mab pl we le ab rw mwe mla
  refine lv_aload_n hx hb dL_law_705 rfl (lv_at hl 1 rfl) ?_
  refine ldx hx hb hX hbl hbA hS hi hL (j := 1) (by omega) (lv_at hl 0 rfl) (lv_at hl 3 rfl) dL_law_706 dL_law_707 dL_law_708 dL_law_709 dL_law_710 ?_
  refine ldx hx hb hX hbl hbA hS hi hL (j := 2) (by omega) (lv_at hl 0 rfl) (lv_at hl 3 rfl) dL_law_711 dL_law_712 dL_law_713 dL_law_714 dL_law_715 ?_
  refine ldx hx hb hX hbl hbA hS hi hL (j := 3) (by omega) (lv_at hl 0 rfl) (lv_at hl 3 rfl) dL_law_716 dL_law_717 dL_law_718 dL_law_719 dL_law_720 ?_
  refine lMV (As := [.int (xs (i + 1)), .int (xs (i + 2)), .int (xs (i + 3))]) (rest := []) (ci := 3) S (ctX3_box l g a (xs (i + 1)) (xs (i + 2)) (xs (i + 3)) ask gw gh al ed gl top kep don vc vf bx tt pl we le ab rw ki ow wa (r, c1, c2, c3, c4, c5, c6, c7) e3) (cwV 3 hts gL_law_X3_box rfl rfl rfl (by decide +kernel) ⟨Nat.le_of_ble_eq_true rfl, Nat.le_of_ble_eq_true rfl⟩) hK hP hD hS hA (wr := _) (List.Perm.refl _) rfl rfl rfl rfl hl.1 rfl (Nat.le_of_ble_eq_true rfl) dL_law_721 hf0 (fun H locs hP hD hS => ?_)
  refine lv_aload_n hx hb dL_law_724 rfl (lv_at hl 2 rfl) ?_
  refine ldx hx hb hX hbl hbA hS hi hL (j := 1) (by omega) (lv_at hl 0 rfl) (lv_at hl 3 rfl) dL_law_725 dL_law_726 dL_law_727 dL_law_728 dL_law_729 ?_
  refine ldx hx hb hX hbl hbA hS hi hL (j := 2) (by omega) (lv_at hl 0 rfl) (lv_at hl 3 rfl) dL_law_730 dL_law_731 dL_law_732 dL_law_733 dL_law_734 ?_
  refine ldx hx hb hX hbl hbA hS hi hL (j := 3) (by omega) (lv_at hl 0 rfl) (lv_at hl 3 rfl) dL_law_735 dL_law_736 dL_law_737 dL_law_738 dL_law_739 ?_
  refine lMV (As := [.int (xs (i + 1)), .int (xs (i + 2)), .int (xs (i + 3))]) (rest := [.int r]) (ci := 4) S (ctX4_box l g a2 (xs (i + 1)) (xs (i + 2)) (xs (i + 3)) mw mh mke mnx mdo mtr mma mto mah mrs mab ce mk mo mwa mmc mmf mhy myw myh myr mpi mme mde mwe mla (r, m1, m2, m3, m4, m5, m6, m7) e4) (cwV 3 hts gL_law_X4_box rfl rfl rfl (by decide +kernel) ⟨Nat.le_of_ble_eq_true rfl, Nat.le_of_ble_eq_true rfl⟩) hK hP hD hS hA (wr := _) (p_back) rfl rfl rfl rfl hl.1 rfl (Nat.le_of_ble_eq_true rfl) dL_law_740 hf0 (fun H locs hP hD hS => ?_)
  have hP := P_perm p_back.symm hP
  have hD := D_perm p_back.symm hD
  refine lv_icmp_eq (tgt := 877) hx hb dL_law_743 (by decide) (fun _ => ?_) (fun h9 => absurd rfl h9)
  refine W.widen (k := cells + 2) (n := slots + 11) (Nat.le_add_right _ 2) (Nat.le_add_right _ 11) ?_
  exact kk _ _ ⟨_, _, _, _, _, _, _, _, _, _, _, _, _, _, _, _, _, _, _, _, _, _, _, _, _, _, _, _, _, _, _, _, _, _, _, _, _, _, _, _, _, _, _, _, _, _, _, _, _, (hB.more (by omega)), hy1, hy2, hy3, hP, hD⟩ hS
set_option maxHeartbeats 4000000 in
set_option maxRecDepth 100000 in
theorem lc_best (C0 : LCx p s m args c b L xs) (hK : Kx g s) (hI : LI g a a2 (fun q : Nat => s.heap.size ≤ q) n H) (hS : va_S (fun q : Nat => s.heap.size ≤ q) s.heap H locs) (hl : lv_has ls 4 [(0, .ref b), (1, .ref (a 0)), (2, .ref (a2 0)), (3, .int (nI i))]) (hi : i + 5 ≤ L) (hn : n ≤ 512) (hf : cells + 2 ≤ 600000 ∧ slots + 11 ≤ 7302250) (kk : ∀ (H1 : Heap) (locs1 : List Loc), LI g a a2 (fun q : Nat => s.heap.size ≤ q) (n + 1) H1 → va_S (fun q : Nat => s.heap.size ≤ q) s.heap H1 locs1 → W p l e room_1 s m args below meth c H1 locs1 (cells + 2) (slots + 11) Q (F0 m 877 ls [])) : W p l e room_1 s m args below meth c H locs cells slots Q (F0 m 748 ls []) := by
  obtain ⟨hx, hb, hml, hown, hts, hX, hbl, hL⟩ := C0
  have S : CallFix p m c cL_law 4 s args wsL_law RL := ⟨hx, hb, hml, hown, hts⟩
  have hA : ∀ q : Nat, s.heap.size ≤ q → (fun q : Nat => s.heap.size ≤ q) q := fun _ h => h
  have hbA : ¬ (fun q : Nat => s.heap.size ≤ q) b := Nat.not_le.mpr hbl
  obtain ⟨ask, gw, gh, al, ed, gl, top, kep, don, vc, vf, bx, tt, pl, we, le, ab, rw, ki, ow, wa, yy, mw, mh, mke, mnx, mdo, mtr, mma, mto, mah, mrs, mab, ce, mk, mo, mwa, mmc, mmf, mhy, myw, myh, myr, mpi, mme, mde, mwe, mla, ys, hB, hy1, hy2, hy3, hP, hD⟩ := hI
  have hf0 : cells ≤ room_1.cells ∧ slots ≤ room_1.slots := ⟨Nat.le_trans (Nat.le_add_right _ 2) hf.1, Nat.le_trans (Nat.le_add_right _ 11) hf.2⟩
  obtain ⟨r, c1, c2, c3, c4, c5, c6, c7, m1, m2, m3, m4, m5, m6, m7, e3, e4⟩ := b_best hB  bx tt mma mto mah mrs mab pl we le ab rw mwe mla
  refine lv_aload_n hx hb dL_law_748 rfl (lv_at hl 1 rfl) ?_
  refine lMV (As := []) (rest := []) (ci := 3) S (ctX3_best l g a  ask gw gh al ed gl top kep don vc vf bx tt pl we le ab rw ki ow wa (r, c1, c2, c3, c4, c5, c6, c7) e3) (cwV 0 hts gL_law_X3_best rfl rfl rfl (by decide +kernel) ⟨Nat.le_of_ble_eq_true rfl, Nat.le_of_ble_eq_true rfl⟩) hK hP hD hS hA (wr := _) (List.Perm.refl _) rfl rfl rfl rfl hl.1 rfl (Nat.le_of_ble_eq_true rfl) dL_law_749 hf0 (fun H locs hP hD hS => ?_)
  refine lv_aload_n hx hb dL_law_752 rfl (lv_at hl 2 rfl) ?_
  refine lMV (As := []) (rest := [.int r]) (ci := 4) S (ctX4_best l g a2  mw mh mke mnx mdo mtr mma mto mah mrs mab ce mk mo mwa mmc mmf mhy myw myh myr mpi mme mde mwe mla (r, m1, m2, m3, m4, m5, m6, m7) e4) (cwV 0 hts gL_law_X4_best rfl rfl rfl (by decide +kernel) ⟨Nat.le_of_ble_eq_true rfl, Nat.le_of_ble_eq_true rfl⟩) hK hP hD hS hA (wr := _) (p_back) rfl rfl rfl rfl hl.1 rfl (Nat.le_of_ble_eq_true rfl) dL_law_753 hf0 (fun H locs hP hD hS => ?_)
  have hP := P_perm p_back.symm hP
  have hD := D_perm p_back.symm hD
  refine lv_icmp_eq (tgt := 877) hx hb dL_law_756 (by decide) (fun _ => ?_) (fun h9 => absurd rfl h9)
  refine W.widen (k := cells + 2) (n := slots + 11) (Nat.le_add_right _ 2) (Nat.le_add_right _ 11) ?_
  exact kk _ _ ⟨_, _, _, _, _, _, _, _, _, _, _, _, _, _, _, _, _, _, _, _, _, _, _, _, _, _, _, _, _, _, _, _, _, _, _, _, _, _, _, _, _, _, _, _, _, _, _, _, _, (hB.more (by omega)), hy1, hy2, hy3, hP, hD⟩ hS
set_option maxHeartbeats 4000000 in
set_option maxRecDepth 100000 in
theorem lc_count (C0 : LCx p s m args c b L xs) (hK : Kx g s) (hI : LI g a a2 (fun q : Nat => s.heap.size ≤ q) n H) (hS : va_S (fun q : Nat => s.heap.size ≤ q) s.heap H locs) (hl : lv_has ls 4 [(0, .ref b), (1, .ref (a 0)), (2, .ref (a2 0)), (3, .int (nI i))]) (hi : i + 5 ≤ L) (hn : n ≤ 512) (hf : cells + 2 ≤ 600000 ∧ slots + 11 ≤ 7302250) (kk : ∀ (H1 : Heap) (locs1 : List Loc), LI g a a2 (fun q : Nat => s.heap.size ≤ q) (n + 1) H1 → va_S (fun q : Nat => s.heap.size ≤ q) s.heap H1 locs1 → W p l e room_1 s m args below meth c H1 locs1 (cells + 2) (slots + 11) Q (F0 m 877 ls [])) : W p l e room_1 s m args below meth c H locs cells slots Q (F0 m 840 ls []) := by
  obtain ⟨hx, hb, hml, hown, hts, hX, hbl, hL⟩ := C0
  have S : CallFix p m c cL_law 4 s args wsL_law RL := ⟨hx, hb, hml, hown, hts⟩
  have hA : ∀ q : Nat, s.heap.size ≤ q → (fun q : Nat => s.heap.size ≤ q) q := fun _ h => h
  have hbA : ¬ (fun q : Nat => s.heap.size ≤ q) b := Nat.not_le.mpr hbl
  obtain ⟨ask, gw, gh, al, ed, gl, top, kep, don, vc, vf, bx, tt, pl, we, le, ab, rw, ki, ow, wa, yy, mw, mh, mke, mnx, mdo, mtr, mma, mto, mah, mrs, mab, ce, mk, mo, mwa, mmc, mmf, mhy, myw, myh, myr, mpi, mme, mde, mwe, mla, ys, hB, hy1, hy2, hy3, hP, hD⟩ := hI
  have hf0 : cells ≤ room_1.cells ∧ slots ≤ room_1.slots := ⟨Nat.le_trans (Nat.le_add_right _ 2) hf.1, Nat.le_trans (Nat.le_add_right _ 11) hf.2⟩
  obtain ⟨r, e3, e4⟩ := b_count hB (xs (i + 1))
  refine lv_aload_n hx hb dL_law_840 rfl (lv_at hl 1 rfl) ?_
  refine ldx hx hb hX hbl hbA hS hi hL (j := 1) (by omega) (lv_at hl 0 rfl) (lv_at hl 3 rfl) dL_law_841 dL_law_842 dL_law_843 dL_law_844 dL_law_845 ?_
  refine lPV (As := [.int (xs (i + 1))]) (rest := []) (ci := 3) S (ctX3_count l g a (xs (i + 1)) ask gw gh al ed gl top kep don vc vf bx tt pl we le ab rw ki ow wa r e3) (cwV 1 hts gL_law_X3_count rfl rfl rfl (by decide +kernel) ⟨Nat.le_of_ble_eq_true rfl, Nat.le_of_ble_eq_true rfl⟩) hK hP (fun q h => m_B q h) rfl rfl rfl rfl hl.1 rfl (Nat.le_of_ble_eq_true rfl) dL_law_846 hf0 ?_
  refine lv_aload_n hx hb dL_law_849 rfl (lv_at hl 2 rfl) ?_
  refine ldx hx hb hX hbl hbA hS hi hL (j := 1) (by omega) (lv_at hl 0 rfl) (lv_at hl 3 rfl) dL_law_850 dL_law_851 dL_law_852 dL_law_853 dL_law_854 ?_
  refine lPV (As := [.int (xs (i + 1))]) (rest := [.int r]) (ci := 4) S (ctX4_count l g a2 (xs (i + 1)) mw mh mke mnx mdo mtr mma mto mah mrs mab ce mk mo mwa mmc mmf mhy myw myh myr mpi mme mde mwe mla r e4) (cwV 1 hts gL_law_X4_count rfl rfl rfl (by decide +kernel) ⟨Nat.le_of_ble_eq_true rfl, Nat.le_of_ble_eq_true rfl⟩) hK hP (fun q h => m_M q h) rfl rfl rfl rfl hl.1 rfl (Nat.le_of_ble_eq_true rfl) dL_law_855 hf0 ?_
  refine lv_icmp_eq (tgt := 877) hx hb dL_law_858 (by decide) (fun _ => ?_) (fun h9 => absurd rfl h9)
  refine W.widen (k := cells + 2) (n := slots + 11) (Nat.le_add_right _ 2) (Nat.le_add_right _ 11) ?_
  exact kk _ _ ⟨_, _, _, _, _, _, _, _, _, _, _, _, _, _, _, _, _, _, _, _, _, _, _, _, _, _, _, _, _, _, _, _, _, _, _, _, _, _, _, _, _, _, _, _, _, _, _, _, _, (hB.more (by omega)), hy1, hy2, hy3, hP, hD⟩ hS
set_option maxHeartbeats 4000000 in
set_option maxRecDepth 100000 in
theorem lc_trace (C0 : LCx p s m args c b L xs) (hK : Kx g s) (hI : LI g a a2 (fun q : Nat => s.heap.size ≤ q) n H) (hS : va_S (fun q : Nat => s.heap.size ≤ q) s.heap H locs) (hl : lv_has ls 4 [(0, .ref b), (1, .ref (a 0)), (2, .ref (a2 0)), (3, .int (nI i))]) (hi : i + 5 ≤ L) (hn : n ≤ 512) (hf : cells + 2 ≤ 600000 ∧ slots + 11 ≤ 7302250) (kk : ∀ (H1 : Heap) (locs1 : List Loc), LI g a a2 (fun q : Nat => s.heap.size ≤ q) (n + 1) H1 → va_S (fun q : Nat => s.heap.size ≤ q) s.heap H1 locs1 → W p l e room_1 s m args below meth c H1 locs1 (cells + 2) (slots + 11) Q (F0 m 877 ls [])) : W p l e room_1 s m args below meth c H locs cells slots Q (F0 m 863 ls []) := by
  obtain ⟨hx, hb, hml, hown, hts, hX, hbl, hL⟩ := C0
  have S : CallFix p m c cL_law 4 s args wsL_law RL := ⟨hx, hb, hml, hown, hts⟩
  have hA : ∀ q : Nat, s.heap.size ≤ q → (fun q : Nat => s.heap.size ≤ q) q := fun _ h => h
  have hbA : ¬ (fun q : Nat => s.heap.size ≤ q) b := Nat.not_le.mpr hbl
  obtain ⟨ask, gw, gh, al, ed, gl, top, kep, don, vc, vf, bx, tt, pl, we, le, ab, rw, ki, ow, wa, yy, mw, mh, mke, mnx, mdo, mtr, mma, mto, mah, mrs, mab, ce, mk, mo, mwa, mmc, mmf, mhy, myw, myh, myr, mpi, mme, mde, mwe, mla, ys, hB, hy1, hy2, hy3, hP, hD⟩ := hI
  have hf0 : cells ≤ room_1.cells ∧ slots ≤ room_1.slots := ⟨Nat.le_trans (Nat.le_add_right _ 2) hf.1, Nat.le_trans (Nat.le_add_right _ 11) hf.2⟩
  have et : ask = mtr := by obtain ⟨W, H, cell, kk, ws, h1, h2, h3, h4, h5, h6⟩ := hB; exact h5
  refine lv_aload_n hx hb dL_law_863 rfl (lv_at hl 1 rfl) ?_
  refine lPV (As := []) (rest := []) (ci := 3) S (ctX3_trace l g a  ask gw gh al ed gl top kep don vc vf bx tt pl we le ab rw ki ow wa ask rfl) (cwV 0 hts gL_law_X3_trace rfl rfl rfl (by decide +kernel) ⟨Nat.le_of_ble_eq_true rfl, Nat.le_of_ble_eq_true rfl⟩) hK hP (fun q h => m_B q h) rfl rfl rfl rfl hl.1 rfl (Nat.le_of_ble_eq_true rfl) dL_law_864 hf0 ?_
  refine lv_aload_n hx hb dL_law_867 rfl (lv_at hl 2 rfl) ?_
  refine lPV (As := []) (rest := [.long ask]) (ci := 4) S (ctX4_trace l g a2  mw mh mke mnx mdo mtr mma mto mah mrs mab ce mk mo mwa mmc mmf mhy myw myh myr mpi mme mde mwe mla mtr rfl) (cwV 0 hts gL_law_X4_trace rfl rfl rfl (by decide +kernel) ⟨Nat.le_of_ble_eq_true rfl, Nat.le_of_ble_eq_true rfl⟩) hK hP (fun q h => m_M q h) rfl rfl rfl rfl hl.1 rfl (Nat.le_of_ble_eq_true rfl) dL_law_868 hf0 ?_
  refine W.lcmp hx hb dL_law_871 ?_
  refine lv_if_eq (tgt := 877) hx hb dL_law_872 (by decide) (fun _ => ?_) (fun h9 => absurd (by rw [et]; unfold lg_cmp; rw [if_neg (Int64.lt_irrefl), if_pos rfl]) h9)
  refine W.widen (k := cells + 2) (n := slots + 11) (Nat.le_add_right _ 2) (Nat.le_add_right _ 11) ?_
  exact kk _ _ ⟨_, _, _, _, _, _, _, _, _, _, _, _, _, _, _, _, _, _, _, _, _, _, _, _, _, _, _, _, _, _, _, _, _, _, _, _, _, _, _, _, _, _, _, _, _, _, _, _, _, (hB.more (by omega)), hy1, hy2, hy3, hP, hD⟩ hS
end LCASES
