/-! the law: its loop, its start -/
section LLOOP
variable {p : Program} {l : Launch} {e : Env} {s : State} {m : MethodId} {args : Array Value} {below : List Frame} {meth : Method} {c : Code} {Q : State → Prop} {g : GG} {a a2 : Nat → Nat} {b L : Nat} {xs : Nat → Int32}
theorem LI_more {A : Nat → Prop} {n : Nat} {H : Heap} (h : LI g a a2 A n H) : LI g a a2 A (n + 1) H := by
  unfold LI at h ⊢
  obtain ⟨x0, x1, x2, x3, x4, x5, x6, x7, x8, x9, x10, x11, x12, x13, x14, x15, x16, x17, x18, x19, x20, x21, x22, x23, x24, x25, x26, x27, x28, x29, x30, x31, x32, x33, x34, x35, x36, x37, x38, x39, x40, x41, x42, x43, x44, x45, x46, hB, h1⟩ := h
  exact ⟨x0, x1, x2, x3, x4, x5, x6, x7, x8, x9, x10, x11, x12, x13, x14, x15, x16, x17, x18, x19, x20, x21, x22, x23, x24, x25, x26, x27, x28, x29, x30, x31, x32, x33, x34, x35, x36, x37, x38, x39, x40, x41, x42, x43, x44, x45, x46, hB.more (by omega), h1⟩
theorem no_room {L n : Nat} (hL : L ≤ 2560) (hi : 5 * n ≤ L) (h : ¬ Int32.ofNat L - 5 < nI (5 * n)) : 5 * n + 5 ≤ L := by
  rcases Nat.lt_or_ge L 5 with q | q
  · exfalso
    obtain rfl : n = 0 := by omega
    rcases (show L = 0 ∨ L = 1 ∨ L = 2 ∨ L = 3 ∨ L = 4 by omega) with rfl | rfl | rfl | rfl | rfl <;> exact h (by decide)
  · obtain ⟨k, rfl⟩ := Nat.exists_eq_add_of_le q
    have e5 : Int32.ofNat (5 + k) - 5 = nI k := by
      have e1 : Int32.ofNat (5 + k) = nI k + 5 := by
        rw [show (5 : Int32) = nI 5 from rfl, nI_add, Nat.add_comm]; rfl
      rw [e1, Int32.add_sub_cancel]
    rw [e5, nI_ltI (by omega) (by omega)] at h
    omega
set_option maxHeartbeats 4000000 in
theorem law_loop (C0 : LCx p s m args c b L xs) (hK : Kx g s) (kend : ∀ (H1 : Heap) (locs1 : List Loc) (ls : Array Slot), va_S (fun q : Nat => s.heap.size ≤ q) s.heap H1 locs1 → W p l e room_1 s m args below meth c H1 locs1 600000 7302250 Q (F0 m 884 ls [.int 1])) : ∀ (k n : Nat), 5 * n ≤ L → L + 1 ≤ 5 * n + k → ∀ (H : Heap) (locs : List Loc) (ls : Array Slot), LI g a a2 (fun q : Nat => s.heap.size ≤ q) n H → va_S (fun q : Nat => s.heap.size ≤ q) s.heap H locs → lv_has ls 4 [(0, .ref b), (1, .ref (a 0)), (2, .ref (a2 0)), (3, .int (nI (5 * n)))] → W p l e room_1 s m args below meth c H locs (32 + 2 * n) (1061 + 9 * n) Q (F0 m 18 ls []) := by
  have C1 := C0
  obtain ⟨hx, hb, hml, hown, hts, hX, hbl, hL⟩ := C0
  have hbA : ¬ (fun q : Nat => s.heap.size ≤ q) b := Nat.not_le.mpr hbl
  intro k
  induction k with
  | zero =>
    intro n h1 h2
    exact absurd h2 (by omega)
  | succ k ih =>
    intro n h1 h2 H locs ls hI hS hl
    refine lv_iload_n hx hb dL_law_18 rfl (lv_at hl 3 rfl) ?_
    refine lv_aload_n hx hb dL_law_19 rfl (lv_at hl 0 rfl) ?_
    refine va_slen hx hb hX hbl hbA hS dL_law_20 ?_
    refine lv_iconst (v := 5) hx hb dL_law_21 (by decide) ?_
    refine lv_isub hx hb dL_law_22 ?_
    refine lv_icmp_gt (tgt := 883) hx hb dL_law_23 (by decide) (fun _ => ?_) (fun c1 => ?_)
    · refine lv_iconst (v := 1) hx hb dL_law_883 (by decide) ?_
      refine W.widen (k := 600000) (n := 7302250) (by omega) (by omega) ?_
      exact kend H locs ls hS
    · have hi : 5 * n + 5 ≤ L := no_room hL h1 c1
      have hn : n ≤ 512 := by omega
      have hf : (32 + 2 * n) + 2 ≤ 600000 ∧ (1061 + 9 * n) + 9 ≤ 7302250 := ⟨by omega, by omega⟩
      have kk : ∀ (H1 : Heap) (locs1 : List Loc), LI g a a2 (fun q : Nat => s.heap.size ≤ q) (n + 1) H1 → va_S (fun q : Nat => s.heap.size ≤ q) s.heap H1 locs1 → W p l e room_1 s m args below meth c H1 locs1 ((32 + 2 * n) + 2) ((1061 + 9 * n) + 9) Q (F0 m 877 ls []) := by
        intro H1 locs1 hI1 hS1
        refine lv_iinc (v := nI (5 * (n + 1))) (lv' := [(3, .int (nI (5 * (n + 1)))), (0, .ref b), (1, .ref (a 0)), (2, .ref (a2 0))]) hx hb dL_law_877 hl (k := 3) rfl (by rw [show (5 : Int) = ((5 : Nat) : Int) from rfl]; exact nI_add (5 * n) 5) (by decide) rfl (fun ls hl => ?_)
        refine lv_goto (tgt := 18) hx hb dL_law_880 (by decide) ?_
        exact ih (n + 1) (by omega) (by omega) H1 locs1 ls hI1 hS1 (lv_sub hl [1, 2, 3, 0] rfl)
      refine lv_aload_n hx hb dL_law_26 rfl (lv_at hl 0 rfl) ?_
      refine lv_iload_n hx hb dL_law_27 rfl (lv_at hl 3 rfl) ?_
      refine va_sld hx hb hX hbl hbA hS (vp_in_nI (by omega) (by omega)) dL_law_28 ?_
      refine lv_bipush (v := 31) hx hb dL_law_29 (by decide) ?_
      refine lv_iand hx hb dL_law_31 ?_
      generalize (xs (nI (5 * n)).toNatClampNeg &&& 31) = v
      by_cases h0 : v = 0
      · exact tswIn 0 h0 hx hb dL_law_32 (by decide) (by decide) rfl (tgt := 144) (by decide) (lc_board C1 hK hI hS hl hi hn hf kk)
      by_cases h1 : v = 1
      · exact tswIn 1 h1 hx hb dL_law_32 (by decide) (by decide) rfl (tgt := 177) (by decide) (lc_set C1 hK hI hS hl hi hn hf kk)
      by_cases h2 : v = 2
      · exact tswIn 2 h2 hx hb dL_law_32 (by decide) (by decide) rfl (tgt := 220) (by decide) (lc_at C1 hK hI hS hl hi hn hf kk)
      by_cases h3 : v = 3
      · exact tswIn 3 h3 hx hb dL_law_32 (by decide) (by decide) rfl (tgt := 253) (by decide) (lc_size C1 hK hI hS hl hi hn hf kk)
      by_cases h4 : v = 4
      · exact tswIn 4 h4 hx hb dL_law_32 (by decide) (by decide) rfl (tgt := 276) (by decide) (lc_whole C1 hK hI hS hl hi hn hf kk)
      by_cases h5 : v = 5
      · exact tswIn 5 h5 hx hb dL_law_32 (by decide) (by decide) rfl (tgt := 299) (by decide) (lc_touch C1 hK hI hS hl hi hn hf kk)
      by_cases h6 : v = 6
      · exact tswIn 6 h6 hx hb dL_law_32 (by decide) (by decide) rfl (tgt := 332) (by decide) (lc_kind C1 hK hI hS hl hi hn hf kk)
      by_cases h7 : v = 7
      · exact tswIn 7 h7 hx hb dL_law_32 (by decide) (by decide) rfl (tgt := 385) (by decide) (lc_about C1 hK hI hS hl hi hn hf kk)
      by_cases h8 : v = 8
      · exact tswIn 8 h8 hx hb dL_law_32 (by decide) (by decide) rfl (tgt := 418) (by decide) (lc_leaves C1 hK hI hS hl hi hn hf kk)
      by_cases h9 : v = 9
      · exact tswIn 9 h9 hx hb dL_law_32 (by decide) (by decide) rfl (tgt := 451) (by decide) (lc_may C1 hK hI hS hl hi hn hf kk)
      by_cases h10 : v = 10
      · exact tswIn 10 h10 hx hb dL_law_32 (by decide) (by decide) rfl (tgt := 494) (by decide) (lc_move C1 hK hI hS hl hi hn hf kk)
      by_cases h11 : v = 11
      · exact tswIn 11 h11 hx hb dL_law_32 (by decide) (by decide) rfl (tgt := 537) (by decide) (lc_want C1 hK hI hS hl hi hn hf kk)
      by_cases h12 : v = 12
      · exact tswIn 12 h12 hx hb dL_law_32 (by decide) (by decide) rfl (tgt := 570) (by decide) (lc_miss C1 hK hI hS hl hi hn hf kk)
      by_cases h13 : v = 13
      · exact tswIn 13 h13 hx hb dL_law_32 (by decide) (by decide) rfl (tgt := 583) (by decide) (lc_steps C1 hK hI hS hl hi hn hf kk)
      by_cases h14 : v = 14
      · exact tswIn 14 h14 hx hb dL_law_32 (by decide) (by decide) rfl (tgt := 606) (by decide) (lc_undo C1 hK hI hS hl hi hn hf kk)
      by_cases h15 : v = 15
      · exact tswIn 15 h15 hx hb dL_law_32 (by decide) (by decide) rfl (tgt := 629) (by decide) (lc_label C1 hK hI hS hl hi hn hf kk)
      by_cases h16 : v = 16
      · exact tswIn 16 h16 hx hb dL_law_32 (by decide) (by decide) rfl (tgt := 662) (by decide) (lc_longer C1 hK hI hS hl hi hn hf kk)
      by_cases h17 : v = 17
      · exact tswIn 17 h17 hx hb dL_law_32 (by decide) (by decide) rfl (tgt := 705) (by decide) (lc_box C1 hK hI hS hl hi hn hf kk)
      by_cases h18 : v = 18
      · exact tswIn 18 h18 hx hb dL_law_32 (by decide) (by decide) rfl (tgt := 748) (by decide) (lc_best C1 hK hI hS hl hi hn hf kk)
      by_cases h19 : v = 19
      · exact tswIn 19 h19 hx hb dL_law_32 (by decide) (by decide) rfl (tgt := 761) (by decide) (lc_keep C1 hK hI hS hl hi hn hf kk)
      by_cases h20 : v = 20
      · exact tswIn 20 h20 hx hb dL_law_32 (by decide) (by decide) rfl (tgt := 784) (by decide) (lc_back C1 hK hI hS hl hi hn hf kk)
      by_cases h21 : v = 21
      · exact tswIn 21 h21 hx hb dL_law_32 (by decide) (by decide) rfl (tgt := 807) (by decide) (lc_moved C1 hK hI hS hl hi hn hf kk)
      by_cases h22 : v = 22
      · exact tswIn 22 h22 hx hb dL_law_32 (by decide) (by decide) rfl (tgt := 840) (by decide) (lc_count C1 hK hI hS hl hi hn hf kk)
      by_cases h23 : v = 23
      · exact tswIn 23 h23 hx hb dL_law_32 (by decide) (by decide) rfl (tgt := 863) (by decide) (lc_trace C1 hK hI hS hl hi hn hf kk)
      refine lv_tableOut (tgt := 877) hx hb dL_law_32 (tsw_out (n := 24) (fun j hj e9 => ?_) (by decide)) (by decide) ?_
      · rcases (show j = 0 ∨ j = 1 ∨ j = 2 ∨ j = 3 ∨ j = 4 ∨ j = 5 ∨ j = 6 ∨ j = 7 ∨ j = 8 ∨ j = 9 ∨ j = 10 ∨ j = 11 ∨ j = 12 ∨ j = 13 ∨ j = 14 ∨ j = 15 ∨ j = 16 ∨ j = 17 ∨ j = 18 ∨ j = 19 ∨ j = 20 ∨ j = 21 ∨ j = 22 ∨ j = 23 by omega) with rfl | rfl | rfl | rfl | rfl | rfl | rfl | rfl | rfl | rfl | rfl | rfl | rfl | rfl | rfl | rfl | rfl | rfl | rfl | rfl | rfl | rfl | rfl | rfl
        · exact h0 e9
        · exact h1 e9
        · exact h2 e9
        · exact h3 e9
        · exact h4 e9
        · exact h5 e9
        · exact h6 e9
        · exact h7 e9
        · exact h8 e9
        · exact h9 e9
        · exact h10 e9
        · exact h11 e9
        · exact h12 e9
        · exact h13 e9
        · exact h14 e9
        · exact h15 e9
        · exact h16 e9
        · exact h17 e9
        · exact h18 e9
        · exact h19 e9
        · exact h20 e9
        · exact h21 e9
        · exact h22 e9
        · exact h23 e9
      refine W.widen (k := (32 + 2 * n) + 2) (n := (1061 + 9 * n) + 9) (by omega) (by omega) ?_
      exact kk H locs (LI_more hI) hS
end LLOOP
