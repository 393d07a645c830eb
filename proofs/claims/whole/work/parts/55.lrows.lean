/-! the law's own rows: worlds up to order, calls in the middle of a world -/
theorem P_mem {D : va_G} {cl : List vw_C} {ws : va_W} {H : Heap} : va_P D cl ws H ↔ ∀ q ∈ ws, va_at D cl q H :=
  ⟨fun h q hq => by obtain ⟨k, hk⟩ := List.getElem?_of_mem hq; exact h k q hk, fun h k q hk => h q (List.mem_of_getElem? hk)⟩
theorem P_perm {D : va_G} {cl : List vw_C} {w1 w2 : va_W} {H : Heap} (h : w1.Perm w2) (hP : va_P D cl w1 H) : va_P D cl w2 H := P_mem.mpr (fun q hq => P_mem.mp hP q (h.mem_iff.mpr hq))
theorem P_in {D : va_G} {cl : List vw_C} {w1 w2 : va_W} {H : Heap} (h : ∀ q ∈ w2, q ∈ w1) (hP : va_P D cl w1 H) : va_P D cl w2 H := P_mem.mpr (fun q hq => P_mem.mp hP q (h q hq))
theorem D_nd {A : Nat → Prop} {ws : va_W} : va_D A ws ↔ (ws.map (fun q => q.1)).Nodup ∧ ∀ q ∈ ws, A q.1 := by
  constructor
  · rintro ⟨h1, h2⟩
    refine ⟨List.pairwise_iff_getElem.mpr (fun i j hi hj hij e => ?_), fun q hq => by obtain ⟨k, hk⟩ := List.getElem?_of_mem hq; exact h2 k q hk⟩
    rw [List.length_map] at hi hj
    rw [List.getElem_map, List.getElem_map] at e
    have := h1 i j _ _ (List.getElem?_eq_getElem hi) (List.getElem?_eq_getElem hj) e
    omega
  · rintro ⟨h1, h2⟩
    refine ⟨fun i j p q hi hj hpq => ?_, fun k q hk => h2 q (List.mem_of_getElem? hk)⟩
    have h1 := List.pairwise_iff_getElem.mp h1
    obtain ⟨hil, ei⟩ := List.getElem?_eq_some_iff.mp hi
    obtain ⟨hjl, ej⟩ := List.getElem?_eq_some_iff.mp hj
    rcases Nat.lt_trichotomy i j with z | z | z
    · exact absurd (by rw [List.getElem_map, List.getElem_map, ei, ej]; exact hpq) (h1 i j (by rw [List.length_map]; exact hil) (by rw [List.length_map]; exact hjl) z)
    · exact z
    · exact absurd (by rw [List.getElem_map, List.getElem_map, ei, ej]; exact hpq.symm) (h1 j i (by rw [List.length_map]; exact hjl) (by rw [List.length_map]; exact hil) z)
theorem D_perm {A : Nat → Prop} {w1 w2 : va_W} (h : w1.Perm w2) (hD : va_D A w1) : va_D A w2 := by
  obtain ⟨h1, h2⟩ := D_nd.mp hD
  exact D_nd.mpr ⟨(h.map _).nodup_iff.mp h1, fun q hq => h2 q (h.mem_iff.mpr hq)⟩
theorem D_left {A : Nat → Prop} {w wr : va_W} (hD : va_D A (w ++ wr)) : va_D A w := by
  obtain ⟨h1, h2⟩ := D_nd.mp hD
  rw [List.map_append] at h1
  exact D_nd.mpr ⟨(List.nodup_append.mp h1).1, fun q hq => h2 q (List.mem_append_left _ hq)⟩
theorem ws_free {A0 : Nat → Prop} {w wr : va_W} {H0 H : Heap} {locs : List Loc} (hD : va_D A0 (w ++ wr)) (hS : va_S A0 H0 H locs) (hA : ∀ q, H0.size ≤ q → A0 q) : ∀ q, va_A w H.size q → A0 q := by
  rintro q (⟨k, e, hk⟩ | h)
  · exact (D_nd.mp hD).2 (q, e) (List.mem_append_left _ (List.mem_of_getElem? hk))
  · exact hA q (Nat.le_trans hS.1 h)
theorem ws_join {A0 : Nat → Prop} {D : va_G} {cl : List vw_C} {w wr w1 : va_W} {H H1 : Heap} (hP : va_P D cl (w ++ wr) H) (hD : va_D A0 (w ++ wr)) (hk : ∀ q : Nat, q < H.size → ¬ va_A w H.size q → H1[q]? = H[q]?) (hF : ∀ q, va_A w H.size q → A0 q) (hP1 : va_P D cl w1 H1) (hD1 : va_D (va_A w H.size) w1) : va_P D cl (w1 ++ wr) H1 ∧ va_D A0 (w1 ++ wr) := by
  obtain ⟨n1, n2⟩ := D_nd.mp hD
  obtain ⟨m1, m2⟩ := D_nd.mp hD1
  rw [List.map_append, List.nodup_append] at n1
  obtain ⟨n3, n4, n5⟩ := n1
  have hPr : va_P D cl wr H := P_in (fun q hq => List.mem_append_right _ hq) hP
  have apart : ∀ q ∈ wr, q.1 < H.size ∧ ¬ va_A w H.size q.1 := by
    intro q hq
    obtain ⟨k, hk'⟩ := List.getElem?_of_mem hq
    have hl := (hPr k q hk').lt
    refine ⟨hl, ?_⟩
    rintro (⟨j, e, hj⟩ | h)
    · exact n5 q.1 (List.mem_map.mpr ⟨(q.1, e), List.mem_of_getElem? hj, rfl⟩) q.1 (List.mem_map.mpr ⟨q, hq, rfl⟩) rfl
    · omega
  refine ⟨hP1.app (hPr.kept (fun k x hx => ?_)), D_nd.mpr ⟨?_, fun q hq => ?_⟩⟩
  · have := apart x (List.mem_of_getElem? hx)
    exact hk x.1 this.1 this.2
  · rw [List.map_append, List.nodup_append]
    refine ⟨m1, n4, fun x hx y hy e => ?_⟩
    obtain ⟨q, hq, rfl⟩ := List.mem_map.mp hx
    obtain ⟨r, hr, rfl⟩ := List.mem_map.mp hy
    exact (apart r hr).2 (e ▸ m2 q hq)
  · rcases List.mem_append.mp hq with h | h
    · exact hF _ (m2 q h)
    · exact n2 q (List.mem_append_right _ h)
section LROWS
variable {p : Program} {l : Launch} {e : Env} {R : Room} {s : State} {m : MethodId} {args : Array Value} {below : List Frame} {meth : Method} {c : Code} {H : Heap} {locs : List Loc} {cells slots : Nat} {Q : State → Prop}
variable {Ts wsc ws' : List Cond} {cc bytes : ByteArray} {nL maxL idx n pc : Nat} {own C host : String} {y : MethodName} {ret : Option FieldType} {rm : Room} {b : Addr} {As rest st0 : List Value} {ls : Array Slot} {g : GG} {w w' : va_W} {r : Value} {ro : Option Value}
/-- a call that only reads -/
theorem lPV (S : CallFix p m c cc nL s args Ts own) (hM : MP l y wsc rm g (.ref b :: As) w r) (cw : CallW R s args own C idx y bytes maxL ret wsc rm 0 0 n) (hK : Kx g s) {W0 : va_W} (hP : va_P g.1 vwCl W0 H) (hw : ∀ q ∈ w, q ∈ W0) {ci : Nat} {q : vw_C} {fs : List Value} (hc : vwCl[ci]? = some q) (he : w[0]? = some (b, .inr (ci, fs))) (hC : q.1 = C) (hn : As.length = n) (hl : ls.size = nL) (hst : st0 = As.reverse ++ .ref b :: rest) (hroom : (rest.map fun v => v.category).sum ≤ 8) (hdg : decode cc pc = .ok (.invokevirtual idx, 3)) (hf : cells ≤ R.cells ∧ slots ≤ R.slots)
    (kk : W p l e R s m args below meth c H locs cells slots Q (F0 m (pc + 3) ls (r :: rest))) : W p l e R s m args below meth c H locs cells slots Q (F0 m pc ls st0) := by
  have hPc := P_in hw hP
  have hr := va_recv hK.1 hPc hc he
  rw [hC] at hr
  exact W.callV (W.runV (As := As) (rest := rest) S hM cw ⟨mp_blind, hr, fun U hU hW => ⟨rfl, by rw [hU]; exact hPc, hK.warm hW⟩⟩ rfl hn hl hst (lv_room hroom) hdg hf) kk
/-- a call that writes -/
theorem lMV {A : Nat → Prop} {W0 wr : va_W} (S : CallFix p m c cc nL s args Ts own) (hM : MM l y wsc rm g (.ref b :: As) w w' ro) (cw : CallW R s args own C idx y bytes maxL ret wsc rm 0 0 n) (hK : Kx g s) (hP : va_P g.1 vwCl W0 H) (hD : va_D A W0) (hS : va_S A s.heap H locs) (hA : ∀ q, s.heap.size ≤ q → A q) (hperm : W0.Perm (w ++ wr))
    {ci : Nat} {q : vw_C} {fs : List Value} (hc : vwCl[ci]? = some q) (he : w[0]? = some (b, .inr (ci, fs))) (hCl : q.1 = C) (hn : As.length = n) (hl : ls.size = nL) (hst : st0 = As.reverse ++ .ref b :: rest) (hroom : (rest.map fun v => v.category).sum ≤ 8) (hdg : decode cc pc = .ok (.invokevirtual idx, 3)) (hf : cells ≤ R.cells ∧ slots ≤ R.slots)
    (kk : ∀ (H1 : Heap) (locs1 : List Loc), va_P g.1 vwCl (w' ++ wr) H1 → va_D A (w' ++ wr) → va_S A s.heap H1 locs1 → W p l e R s m args below meth c H1 locs1 cells slots Q (F0 m (pc + 3) ls (ro.toList ++ rest))) : W p l e R s m args below meth c H locs cells slots Q (F0 m pc ls st0) := by
  have hP := P_perm hperm hP
  have hD := D_perm hperm hD
  have hPc : va_P g.1 vwCl w H := P_in (fun q hq => List.mem_append_left _ hq) hP
  have hDc := D_left hD
  have hr := va_recv hK.1 hPc hc he
  rw [hCl] at hr
  have hrun := va_runV (As := As) (rest := rest) (below := below) (meth := meth) (e := e) S (hM H.size) cw ⟨mm_blind, hr, fun U hU hW => ⟨rfl, by rw [hU], by rw [hU]; exact hPc, hK.warm hW, hDc.weaken (fun _ _ _ _ => trivial)⟩⟩ (g := F0 m pc ls st0) (H := H) (locs := locs) (cells := cells) (slots := slots) rfl hn hl hst (lv_room hroom) hdg hf
  intro T hT X
  obtain ⟨v, st₀, t, T', L, h0, X', hL, e1, e2, ⟨⟨hv, hp1, hd1⟩, hz, hk⟩, st⟩ := hrun T hT X
  cases hv
  rw [h0] at hz hk
  have hF := ws_free hD hS hA
  obtain ⟨hP1, hD1⟩ := ws_join hP hD hk hF hp1 hd1
  obtain ⟨t2, a1, b1⟩ := kk T'.heap (locs ++ L) (by rw [e1]; exact hP1) hD1
    ⟨Nat.le_trans hS.1 (by rw [e1]; exact hz), fun q h1 h2 => by rw [e1, hk q (Nat.lt_of_lt_of_le h1 hS.1) (fun z => h2 (hF q z))]; exact hS.2.1 q h1 h2, fun q hq => by
      rcases List.mem_append.mp hq with h | h
      · exact hS.2.2 q h
      · exact hF _ (hL q h)⟩ T' rfl X'
  exact ⟨t2, st t2 a1, b1⟩
/-- a call that writes and makes cells -/
theorem lRV {A : Nat → Prop} {W0 wr : va_W} {wA : List Nat → va_W} {mc ms : Nat} (S : CallFix p m c cc nL s args Ts own) (hM : MR l y wsc rm g (.ref b :: As) w wA ro mc ms) (cw : CallW R s args own C idx y bytes maxL ret wsc rm mc ms n) (hK : Kx g s) (hP : va_P g.1 vwCl W0 H) (hD : va_D A W0) (hS : va_S A s.heap H locs) (hA : ∀ q, s.heap.size ≤ q → A q) (hperm : W0.Perm (w ++ wr))
    {ci : Nat} {q : vw_C} {fs : List Value} (hc : vwCl[ci]? = some q) (he : w[0]? = some (b, .inr (ci, fs))) (hCl : q.1 = C) (hn : As.length = n) (hl : ls.size = nL) (hst : st0 = As.reverse ++ .ref b :: rest) (hroom : (rest.map fun v => v.category).sum ≤ 8) (hdg : decode cc pc = .ok (.invokevirtual idx, 3)) (hf : cells + mc ≤ R.cells ∧ slots + ms ≤ R.slots)
    (kk : ∀ (as : List Nat) (H1 : Heap) (locs1 : List Loc), va_P g.1 vwCl (wA as ++ wr) H1 → va_D A (wA as ++ wr) → va_S A s.heap H1 locs1 → W p l e R s m args below meth c H1 locs1 (cells + mc) (slots + ms) Q (F0 m (pc + 3) ls (ro.toList ++ rest))) : W p l e R s m args below meth c H locs cells slots Q (F0 m pc ls st0) := by
  have hP := P_perm hperm hP
  have hD := D_perm hperm hD
  have hPc : va_P g.1 vwCl w H := P_in (fun q hq => List.mem_append_left _ hq) hP
  have hDc := D_left hD
  have hr := va_recv hK.1 hPc hc he
  rw [hCl] at hr
  have hrun := va_runV (As := As) (rest := rest) (below := below) (meth := meth) (e := e) S (hM H.size) cw ⟨mm_blind, hr, fun U hU hW => ⟨rfl, by rw [hU], by rw [hU]; exact hPc, hK.warm hW, hDc.weaken (fun _ _ _ _ => trivial)⟩⟩ (g := F0 m pc ls st0) (H := H) (locs := locs) (cells := cells) (slots := slots) rfl hn hl hst (lv_room hroom) hdg hf
  intro T hT X
  obtain ⟨v, st₀, t, T', L, h0, X', hL, e1, e2, ⟨⟨hv, as, hp1, hd1⟩, hz, hk⟩, st⟩ := hrun T hT X
  cases hv
  rw [h0] at hz hk
  have hF := ws_free hD hS hA
  obtain ⟨hP1, hD1⟩ := ws_join hP hD hk hF hp1 hd1
  obtain ⟨t2, a1, b1⟩ := kk as T'.heap (locs ++ L) (by rw [e1]; exact hP1) hD1
    ⟨Nat.le_trans hS.1 (by rw [e1]; exact hz), fun q h1 h2 => by rw [e1, hk q (Nat.lt_of_lt_of_le h1 hS.1) (fun z => h2 (hF q z))]; exact hS.2.1 q h1 h2, fun q hq => by
      rcases List.mem_append.mp hq with h | h
      · exact hS.2.2 q h
      · exact hF _ (hL q h)⟩ T' rfl X'
  exact ⟨t2, st t2 a1, b1⟩
end LROWS
-- the script
section SCRIPT
variable {p : Program} {l : Launch} {e : Env} {R : Room} {s : State} {m : MethodId} {args : Array Value} {below : List Frame} {meth : Method} {c : Code} {H : Heap} {locs : List Loc} {cells slots : Nat} {Q : State → Prop}
theorem ldx (hx : p.tables.exec = Jvm.exec) (hb : c.code = cL_law) {b L i j pc : Nat} {xs : Nat → Int32} {A : Nat → Prop} (hX : va_X b L xs s s.heap) (hbl : b < s.heap.size) (hbA : ¬ A b) (hS : va_S A s.heap H locs) (hi : i + 5 ≤ L) (hL : L ≤ 2560) (hj : j < 5) {ls : Array Slot} (h0 : ls[0]? = some (.val (.ref b))) (h3 : ls[3]? = some (.val (.int (nI i)))) {rest : List Value}
    (d0 : decode cL_law pc = .ok (.aload_n 0, 1)) (d1 : decode cL_law (pc + 1) = .ok (.iload_n 3, 1)) (d2 : decode cL_law (pc + 2) = .ok (.iconst (j : Int), 1)) (d3 : decode cL_law (pc + 3) = .ok (.iadd, 1)) (d4 : decode cL_law (pc + 4) = .ok (.iaload, 1))
    (kk : W p l e R s m args below meth c H locs cells slots Q (F0 m (pc + 5) ls (.int (xs (i + j)) :: rest))) : W p l e R s m args below meth c H locs cells slots Q (F0 m pc ls rest) := by
  refine lv_aload_n hx hb d0 rfl h0 ?_
  refine lv_iload_n hx hb d1 rfl h3 ?_
  refine lv_iconst (v := nI j) hx hb d2 rfl ?_
  refine lv_iadd hx hb d3 ?_
  rw [nI_add]
  refine va_sld hx hb hX hbl hbA hS (vp_in_nI (by omega) (by omega)) d4 ?_
  rw [nI_clamp (by omega)]
  exact kk
end SCRIPT
