section
-- ===== PART A: goes FIRST, ahead of the names: the tables' words, and 'selects' of the private methods out of them =====
/-- a private method of a class that the tables say can be made, by its rows of tables_1 -/
def lw_okq (q : MethodName × Nat) : Prop := (q.1.cls ≠ "java/lang/invoke/MethodHandle" ∧ q.1.cls ≠ "java/lang/invoke/VarHandle") ∧ Cond.instantiable q.1.cls q.2 ∈ tables_1 ∧ Cond.privateMethod q.1 ∈ tables_1 ∧ Cond.instanceMethod q.1 ∈ tables_1
theorem lw_p0 : lw_okq (⟨"LandBoard", "forgetKinds", "()V"⟩, 8) := ⟨⟨by decide +kernel, by decide +kernel⟩, List.mem_of_getElem? (i := 9) (by decide +kernel), List.mem_of_getElem? (i := 113) (by decide +kernel), List.mem_of_getElem? (i := 114) (by decide +kernel)⟩
theorem lw_p1 : lw_okq (⟨"LandBoard$Grid", "peopledCells", "()J"⟩, 5) := ⟨⟨by decide +kernel, by decide +kernel⟩, List.mem_of_getElem? (i := 17) (by decide +kernel), List.mem_of_getElem? (i := 223) (by decide +kernel), List.mem_of_getElem? (i := 224) (by decide +kernel)⟩
theorem lw_p2 : lw_okq (⟨"LandBoard", "letsGo", "(II)Z"⟩, 8) := ⟨⟨by decide +kernel, by decide +kernel⟩, List.mem_of_getElem? (i := 9) (by decide +kernel), List.mem_of_getElem? (i := 250) (by decide +kernel), List.mem_of_getElem? (i := 251) (by decide +kernel)⟩
theorem lw_p3 : lw_okq (⟨"LandBoard", "canGo", "(II)Z"⟩, 8) := ⟨⟨by decide +kernel, by decide +kernel⟩, List.mem_of_getElem? (i := 9) (by decide +kernel), List.mem_of_getElem? (i := 260) (by decide +kernel), List.mem_of_getElem? (i := 261) (by decide +kernel)⟩
theorem lw_p4 : lw_okq (⟨"LandBoard", "go", "(II)V"⟩, 8) := ⟨⟨by decide +kernel, by decide +kernel⟩, List.mem_of_getElem? (i := 9) (by decide +kernel), List.mem_of_getElem? (i := 273) (by decide +kernel), List.mem_of_getElem? (i := 274) (by decide +kernel)⟩
theorem lw_p5 : lw_okq (⟨"LandBoard", "missWith", "(II)I"⟩, 8) := ⟨⟨by decide +kernel, by decide +kernel⟩, List.mem_of_getElem? (i := 9) (by decide +kernel), List.mem_of_getElem? (i := 295) (by decide +kernel), List.mem_of_getElem? (i := 296) (by decide +kernel)⟩
theorem lw_p6 : lw_okq (⟨"LandBoard", "step", "()Z"⟩, 8) := ⟨⟨by decide +kernel, by decide +kernel⟩, List.mem_of_getElem? (i := 9) (by decide +kernel), List.mem_of_getElem? (i := 306) (by decide +kernel), List.mem_of_getElem? (i := 307) (by decide +kernel)⟩
theorem lw_p7 : lw_okq (⟨"LandBoard", "missBehind", "(III)I"⟩, 8) := ⟨⟨by decide +kernel, by decide +kernel⟩, List.mem_of_getElem? (i := 9) (by decide +kernel), List.mem_of_getElem? (i := 311) (by decide +kernel), List.mem_of_getElem? (i := 312) (by decide +kernel)⟩
theorem lw_p8 : lw_okq (⟨"LandBoard", "hasBox", "(II)Z"⟩, 8) := ⟨⟨by decide +kernel, by decide +kernel⟩, List.mem_of_getElem? (i := 9) (by decide +kernel), List.mem_of_getElem? (i := 343) (by decide +kernel), List.mem_of_getElem? (i := 344) (by decide +kernel)⟩
theorem lw_p9 : lw_okq (⟨"LandBoard$Rows", "layRow", "(III)I"⟩, 7) := ⟨⟨by decide +kernel, by decide +kernel⟩, List.mem_of_getElem? (i := 67) (by decide +kernel), List.mem_of_getElem? (i := 360) (by decide +kernel), List.mem_of_getElem? (i := 361) (by decide +kernel)⟩
theorem lw_p10 : lw_okq (⟨"LandBoard$Rows", "scaledHeight", "(I)I"⟩, 7) := ⟨⟨by decide +kernel, by decide +kernel⟩, List.mem_of_getElem? (i := 67) (by decide +kernel), List.mem_of_getElem? (i := 376) (by decide +kernel), List.mem_of_getElem? (i := 377) (by decide +kernel)⟩
theorem lw_p11 : lw_okq (⟨"LandBoard$Rows", "scaledWidth", "(I)I"⟩, 7) := ⟨⟨by decide +kernel, by decide +kernel⟩, List.mem_of_getElem? (i := 67) (by decide +kernel), List.mem_of_getElem? (i := 380) (by decide +kernel), List.mem_of_getElem? (i := 381) (by decide +kernel)⟩
theorem lw_p12 : lw_okq (⟨"LandBoard$Rows", "longestPlace", "()I"⟩, 7) := ⟨⟨by decide +kernel, by decide +kernel⟩, List.mem_of_getElem? (i := 67) (by decide +kernel), List.mem_of_getElem? (i := 412) (by decide +kernel), List.mem_of_getElem? (i := 413) (by decide +kernel)⟩
theorem lw_p13 : lw_okq (⟨"LandBoardModel", "clears", "()V"⟩, 26) := ⟨⟨by decide +kernel, by decide +kernel⟩, List.mem_of_getElem? (i := 457) (by decide +kernel), List.mem_of_getElem? (i := 463) (by decide +kernel), List.mem_of_getElem? (i := 464) (by decide +kernel)⟩
theorem lw_p14 : lw_okq (⟨"LandBoardModel", "plain", "()V"⟩, 26) := ⟨⟨by decide +kernel, by decide +kernel⟩, List.mem_of_getElem? (i := 457) (by decide +kernel), List.mem_of_getElem? (i := 467) (by decide +kernel), List.mem_of_getElem? (i := 468) (by decide +kernel)⟩
theorem lw_p15 : lw_okq (⟨"LandBoardModel", "cellAt", "(II)I"⟩, 26) := ⟨⟨by decide +kernel, by decide +kernel⟩, List.mem_of_getElem? (i := 457) (by decide +kernel), List.mem_of_getElem? (i := 562) (by decide +kernel), List.mem_of_getElem? (i := 563) (by decide +kernel)⟩
def lw_privs_1 : List (MethodName × Nat) := [(⟨"LandBoard", "forgetKinds", "()V"⟩, 8), (⟨"LandBoard$Grid", "peopledCells", "()J"⟩, 5), (⟨"LandBoard", "letsGo", "(II)Z"⟩, 8), (⟨"LandBoard", "canGo", "(II)Z"⟩, 8), (⟨"LandBoard", "go", "(II)V"⟩, 8), (⟨"LandBoard", "missWith", "(II)I"⟩, 8), (⟨"LandBoard", "step", "()Z"⟩, 8), (⟨"LandBoard", "missBehind", "(III)I"⟩, 8), (⟨"LandBoard", "hasBox", "(II)Z"⟩, 8), (⟨"LandBoard$Rows", "layRow", "(III)I"⟩, 7), (⟨"LandBoard$Rows", "scaledHeight", "(I)I"⟩, 7), (⟨"LandBoard$Rows", "scaledWidth", "(I)I"⟩, 7), (⟨"LandBoard$Rows", "longestPlace", "()I"⟩, 7), (⟨"LandBoardModel", "clears", "()V"⟩, 26), (⟨"LandBoardModel", "plain", "()V"⟩, 26), (⟨"LandBoardModel", "cellAt", "(II)I"⟩, 26)]
theorem lw_r1 : ∀ q ∈ lw_privs_1, lw_okq q := List.forall_mem_cons.mpr ⟨lw_p0, List.forall_mem_cons.mpr ⟨lw_p1, List.forall_mem_cons.mpr ⟨lw_p2, List.forall_mem_cons.mpr ⟨lw_p3, List.forall_mem_cons.mpr ⟨lw_p4, List.forall_mem_cons.mpr ⟨lw_p5, List.forall_mem_cons.mpr ⟨lw_p6, List.forall_mem_cons.mpr ⟨lw_p7, List.forall_mem_cons.mpr ⟨lw_p8, List.forall_mem_cons.mpr ⟨lw_p9, List.forall_mem_cons.mpr ⟨lw_p10, List.forall_mem_cons.mpr ⟨lw_p11, List.forall_mem_cons.mpr ⟨lw_p12, List.forall_mem_cons.mpr ⟨lw_p13, List.forall_mem_cons.mpr ⟨lw_p14, List.forall_mem_cons.mpr ⟨lw_p15, fun _ h => absurd h List.not_mem_nil⟩⟩⟩⟩⟩⟩⟩⟩⟩⟩⟩⟩⟩⟩⟩⟩
theorem lw_p16 : lw_okq (⟨"LandBoardModel", "isOn", "(II)Z"⟩, 26) := ⟨⟨by decide +kernel, by decide +kernel⟩, List.mem_of_getElem? (i := 457) (by decide +kernel), List.mem_of_getElem? (i := 566) (by decide +kernel), List.mem_of_getElem? (i := 567) (by decide +kernel)⟩
theorem lw_p17 : lw_okq (⟨"LandBoardModel", "sizeOf", "(I)I"⟩, 26) := ⟨⟨by decide +kernel, by decide +kernel⟩, List.mem_of_getElem? (i := 457) (by decide +kernel), List.mem_of_getElem? (i := 581) (by decide +kernel), List.mem_of_getElem? (i := 582) (by decide +kernel)⟩
theorem lw_p18 : lw_okq (⟨"LandBoardModel", "isWhole", "(I)Z"⟩, 26) := ⟨⟨by decide +kernel, by decide +kernel⟩, List.mem_of_getElem? (i := 457) (by decide +kernel), List.mem_of_getElem? (i := 589) (by decide +kernel), List.mem_of_getElem? (i := 590) (by decide +kernel)⟩
theorem lw_p19 : lw_okq (⟨"LandBoardModel", "beside", "(II)I"⟩, 26) := ⟨⟨by decide +kernel, by decide +kernel⟩, List.mem_of_getElem? (i := 457) (by decide +kernel), List.mem_of_getElem? (i := 593) (by decide +kernel), List.mem_of_getElem? (i := 594) (by decide +kernel)⟩
theorem lw_p20 : lw_okq (⟨"LandBoardModel", "areTouching", "(II)Z"⟩, 26) := ⟨⟨by decide +kernel, by decide +kernel⟩, List.mem_of_getElem? (i := 457) (by decide +kernel), List.mem_of_getElem? (i := 601) (by decide +kernel), List.mem_of_getElem? (i := 602) (by decide +kernel)⟩
theorem lw_p21 : lw_okq (⟨"LandBoardModel", "touches", "()J"⟩, 26) := ⟨⟨by decide +kernel, by decide +kernel⟩, List.mem_of_getElem? (i := 457) (by decide +kernel), List.mem_of_getElem? (i := 605) (by decide +kernel), List.mem_of_getElem? (i := 606) (by decide +kernel)⟩
theorem lw_p22 : lw_okq (⟨"LandBoardModel", "doesLeave", "(I)Z"⟩, 26) := ⟨⟨by decide +kernel, by decide +kernel⟩, List.mem_of_getElem? (i := 457) (by decide +kernel), List.mem_of_getElem? (i := 626) (by decide +kernel), List.mem_of_getElem? (i := 627) (by decide +kernel)⟩
theorem lw_p23 : lw_okq (⟨"LandBoardModel", "mayGo", "(II)Z"⟩, 26) := ⟨⟨by decide +kernel, by decide +kernel⟩, List.mem_of_getElem? (i := 457) (by decide +kernel), List.mem_of_getElem? (i := 634) (by decide +kernel), List.mem_of_getElem? (i := 635) (by decide +kernel)⟩
theorem lw_p24 : lw_okq (⟨"LandBoardModel", "goes", "(II)V"⟩, 26) := ⟨⟨by decide +kernel, by decide +kernel⟩, List.mem_of_getElem? (i := 457) (by decide +kernel), List.mem_of_getElem? (i := 642) (by decide +kernel), List.mem_of_getElem? (i := 643) (by decide +kernel)⟩
theorem lw_p25 : lw_okq (⟨"LandBoardModel", "missNow", "()I"⟩, 26) := ⟨⟨by decide +kernel, by decide +kernel⟩, List.mem_of_getElem? (i := 457) (by decide +kernel), List.mem_of_getElem? (i := 654) (by decide +kernel), List.mem_of_getElem? (i := 655) (by decide +kernel)⟩
theorem lw_p26 : lw_okq (⟨"LandBoardModel", "goesOn", "()Z"⟩, 26) := ⟨⟨by decide +kernel, by decide +kernel⟩, List.mem_of_getElem? (i := 457) (by decide +kernel), List.mem_of_getElem? (i := 662) (by decide +kernel), List.mem_of_getElem? (i := 663) (by decide +kernel)⟩
theorem lw_p27 : lw_okq (⟨"LandBoardModel", "sound", "(I)V"⟩, 26) := ⟨⟨by decide +kernel, by decide +kernel⟩, List.mem_of_getElem? (i := 457) (by decide +kernel), List.mem_of_getElem? (i := 674) (by decide +kernel), List.mem_of_getElem? (i := 675) (by decide +kernel)⟩
theorem lw_p28 : lw_okq (⟨"LandBoardModel", "boxOf", "(II)I"⟩, 26) := ⟨⟨by decide +kernel, by decide +kernel⟩, List.mem_of_getElem? (i := 457) (by decide +kernel), List.mem_of_getElem? (i := 682) (by decide +kernel), List.mem_of_getElem? (i := 683) (by decide +kernel)⟩
theorem lw_p29 : lw_okq (⟨"LandBoardModel", "weigh", "()V"⟩, 26) := ⟨⟨by decide +kernel, by decide +kernel⟩, List.mem_of_getElem? (i := 457) (by decide +kernel), List.mem_of_getElem? (i := 686) (by decide +kernel), List.mem_of_getElem? (i := 687) (by decide +kernel)⟩
theorem lw_p30 : lw_okq (⟨"LandBoardModel", "lay", "(II)V"⟩, 26) := ⟨⟨by decide +kernel, by decide +kernel⟩, List.mem_of_getElem? (i := 457) (by decide +kernel), List.mem_of_getElem? (i := 690) (by decide +kernel), List.mem_of_getElem? (i := 691) (by decide +kernel)⟩
theorem lw_p31 : lw_okq (⟨"LandBoardModel", "longUp", "(I)I"⟩, 26) := ⟨⟨by decide +kernel, by decide +kernel⟩, List.mem_of_getElem? (i := 457) (by decide +kernel), List.mem_of_getElem? (i := 694) (by decide +kernel), List.mem_of_getElem? (i := 695) (by decide +kernel)⟩
def lw_privs_2 : List (MethodName × Nat) := [(⟨"LandBoardModel", "isOn", "(II)Z"⟩, 26), (⟨"LandBoardModel", "sizeOf", "(I)I"⟩, 26), (⟨"LandBoardModel", "isWhole", "(I)Z"⟩, 26), (⟨"LandBoardModel", "beside", "(II)I"⟩, 26), (⟨"LandBoardModel", "areTouching", "(II)Z"⟩, 26), (⟨"LandBoardModel", "touches", "()J"⟩, 26), (⟨"LandBoardModel", "doesLeave", "(I)Z"⟩, 26), (⟨"LandBoardModel", "mayGo", "(II)Z"⟩, 26), (⟨"LandBoardModel", "goes", "(II)V"⟩, 26), (⟨"LandBoardModel", "missNow", "()I"⟩, 26), (⟨"LandBoardModel", "goesOn", "()Z"⟩, 26), (⟨"LandBoardModel", "sound", "(I)V"⟩, 26), (⟨"LandBoardModel", "boxOf", "(II)I"⟩, 26), (⟨"LandBoardModel", "weigh", "()V"⟩, 26), (⟨"LandBoardModel", "lay", "(II)V"⟩, 26), (⟨"LandBoardModel", "longUp", "(I)I"⟩, 26)]
theorem lw_r2 : ∀ q ∈ lw_privs_2, lw_okq q := List.forall_mem_cons.mpr ⟨lw_p16, List.forall_mem_cons.mpr ⟨lw_p17, List.forall_mem_cons.mpr ⟨lw_p18, List.forall_mem_cons.mpr ⟨lw_p19, List.forall_mem_cons.mpr ⟨lw_p20, List.forall_mem_cons.mpr ⟨lw_p21, List.forall_mem_cons.mpr ⟨lw_p22, List.forall_mem_cons.mpr ⟨lw_p23, List.forall_mem_cons.mpr ⟨lw_p24, List.forall_mem_cons.mpr ⟨lw_p25, List.forall_mem_cons.mpr ⟨lw_p26, List.forall_mem_cons.mpr ⟨lw_p27, List.forall_mem_cons.mpr ⟨lw_p28, List.forall_mem_cons.mpr ⟨lw_p29, List.forall_mem_cons.mpr ⟨lw_p30, List.forall_mem_cons.mpr ⟨lw_p31, fun _ h => absurd h List.not_mem_nil⟩⟩⟩⟩⟩⟩⟩⟩⟩⟩⟩⟩⟩⟩⟩⟩
theorem lw_p32 : lw_okq (⟨"LandBoardModel", "longDown", "(I)I"⟩, 26) := ⟨⟨by decide +kernel, by decide +kernel⟩, List.mem_of_getElem? (i := 457) (by decide +kernel), List.mem_of_getElem? (i := 701) (by decide +kernel), List.mem_of_getElem? (i := 702) (by decide +kernel)⟩
theorem lw_p33 : lw_okq (⟨"LandBoardModel", "landCells", "()I"⟩, 26) := ⟨⟨by decide +kernel, by decide +kernel⟩, List.mem_of_getElem? (i := 457) (by decide +kernel), List.mem_of_getElem? (i := 720) (by decide +kernel), List.mem_of_getElem? (i := 721) (by decide +kernel)⟩
def lw_privs_3 : List (MethodName × Nat) := [(⟨"LandBoardModel", "longDown", "(I)I"⟩, 26), (⟨"LandBoardModel", "landCells", "()I"⟩, 26)]
theorem lw_r3 : ∀ q ∈ lw_privs_3, lw_okq q := List.forall_mem_cons.mpr ⟨lw_p32, List.forall_mem_cons.mpr ⟨lw_p33, fun _ h => absurd h List.not_mem_nil⟩⟩
def lw_privs : List (MethodName × Nat) := lw_privs_1 ++ (lw_privs_2 ++ (lw_privs_3))
def lw_tbl : List Cond := k2_sels lw_privs ++ tables_1
theorem lw_privs_ok : ∀ q ∈ lw_privs, lw_okq q := by
  show ∀ q ∈ lw_privs_1 ++ (lw_privs_2 ++ (lw_privs_3)), lw_okq q
  exact List.forall_mem_append.mpr ⟨lw_r1, List.forall_mem_append.mpr ⟨lw_r2, lw_r3⟩⟩
-- ===== end of PART A; then your names; then what follows =====
end
section
/-! ===== BEGIN words of one list among another's, by their places ===== -/
theorem goodIn_r {big : List Cond} (ws : List Cond) (ps : List Nat) (hp : ws = ps.filterMap (fun i => big[i]?)) (h : ws.all goodWord = true) : GoodIn big ws := by
  intro w hw
  have h1 := List.all_eq_true.mp h w hw
  rw [hp] at hw
  obtain ⟨i, -, hi⟩ := List.mem_filterMap.mp hw
  have hm : w ∈ big := by first | exact List.mem_of_getElem? hi | exact List.getElem?_mem hi
  exact ⟨hm, good_of_word h1⟩
theorem goodIn_app {big a b : List Cond} (ha : GoodIn big a) (hb : GoodIn big b) : GoodIn big (a ++ b) := fun w h => (List.mem_append.mp h).elim (ha w) (hb w)
theorem goodIn_ca {big a b : List Cond} {c : Cond} (ha : GoodIn big (c :: a)) (hb : GoodIn big b) : GoodIn big (c :: (a ++ b)) := fun w h => (List.mem_cons.mp h).elim (fun e => ha w (List.mem_cons.mpr (Or.inl e))) (fun h => (List.mem_append.mp h).elim (fun h => ha w (List.mem_cons.mpr (Or.inr h))) (hb w))
theorem goodIn_sub {big ws : List Cond} (hm : ∀ w ∈ ws, w ∈ big) (h : ws.all goodWord = true) : GoodIn big ws := fun w hw => ⟨hm w hw, good_of_word (List.all_eq_true.mp h w hw)⟩
/-! ===== END ===== -/

/-! ===== BEGIN printed: names, fields, word lists, decode rows ===== -/
def RX0 : String := "LandBoard$Grid"
def TX0 : u_T := fun k => match k with
  | 0 => ("LandBoard$Grid", "lands", "[J", true)
  | 1 => ("LandBoard$Grid", "width", "I", false)
  | 2 => ("LandBoard$Grid", "height", "I", false)
  | 3 => ("LandBoard$Grid", "all", "J", false)
  | _ => ("LandBoard$Grid", "edge", "J", false)
def tyX0 : Nat → FieldType := fun k => match k with
  | 0 => .array .long
  | 1 => .int
  | 2 => .int
  | 3 => .long
  | _ => .long
abbrev wsX00 : List Cond := u_ws RX0 TX0 5
theorem nmX0 : ∀ a, a < 5 → ∀ b, b < 5 → a ≠ b → (TX0 a).2.1 ≠ (TX0 b).2.1 := by decide +kernel
theorem tyX0_ok : ∀ k, k < 5 → parseFieldDescriptor (TX0 k).2.2.1 = some (tyX0 k) := by decide +kernel
abbrev cX0_init : ByteArray := prog_2_method_1_code
def yX0_init : MethodName := ⟨RX0, "<init>", "()V"⟩
abbrev cX0_clear : ByteArray := prog_2_method_2_code
def yX0_clear : MethodName := ⟨RX0, "clear", "(II)V"⟩
abbrev cX0_copy : ByteArray := prog_2_method_3_code
def yX0_copy : MethodName := ⟨RX0, "copy", "(LLandBoard$Grid;)V"⟩
abbrev cX0_has : ByteArray := prog_2_method_4_code
def yX0_has : MethodName := ⟨RX0, "has", "(II)Z"⟩
abbrev cX0_landOf : ByteArray := prog_2_method_5_code
def yX0_landOf : MethodName := ⟨RX0, "landOf", "(I)I"⟩
abbrev cX0_put : ByteArray := prog_2_method_6_code
def yX0_put : MethodName := ⟨RX0, "put", "(II)V"⟩
abbrev cX0_cellsOf : ByteArray := prog_2_method_7_code
def yX0_cellsOf : MethodName := ⟨RX0, "cellsOf", "(I)J"⟩
abbrev cX0_sizeOf : ByteArray := prog_2_method_8_code
def yX0_sizeOf : MethodName := ⟨RX0, "sizeOf", "(I)I"⟩
abbrev cX0_peopledCells : ByteArray := prog_2_method_9_code
def yX0_peopledCells : MethodName := ⟨RX0, "peopledCells", "()J"⟩
abbrev cX0_landCells : ByteArray := prog_2_method_10_code
def yX0_landCells : MethodName := ⟨RX0, "landCells", "()I"⟩
abbrev cX0_peopled : ByteArray := prog_2_method_11_code
def yX0_peopled : MethodName := ⟨RX0, "peopled", "()I"⟩
abbrev cX0_isAtSea : ByteArray := prog_2_method_12_code
def yX0_isAtSea : MethodName := ⟨RX0, "isAtSea", "(J)Z"⟩
abbrev cX0_touching : ByteArray := prog_2_method_13_code
def yX0_touching : MethodName := ⟨RX0, "touching", "()J"⟩
abbrev cX0_isAsLargeAs : ByteArray := prog_2_method_14_code
def yX0_isAsLargeAs : MethodName := ⟨RX0, "isAsLargeAs", "(LLandBoard$Grid;)Z"⟩
abbrev cX0_unlike : ByteArray := prog_2_method_15_code
def yX0_unlike : MethodName := ⟨RX0, "unlike", "(LLandBoard$Grid;)I"⟩
def RX1 : String := "LandBoard$Moves"
def TX1 : u_T := fun k => match k with
  | 0 => ("LandBoard$Moves", "cells", "[I", true)
  | 1 => ("LandBoard$Moves", "froms", "[I", true)
  | 2 => ("LandBoard$Moves", "top", "I", false)
  | 3 => ("LandBoard$Moves", "kept", "I", false)
  | _ => ("LandBoard$Moves", "done", "I", false)
def tyX1 : Nat → FieldType := fun k => match k with
  | 0 => .array .int
  | 1 => .array .int
  | 2 => .int
  | 3 => .int
  | _ => .int
abbrev wsX10 : List Cond := u_ws RX1 TX1 5
theorem nmX1 : ∀ a, a < 5 → ∀ b, b < 5 → a ≠ b → (TX1 a).2.1 ≠ (TX1 b).2.1 := by decide +kernel
theorem tyX1_ok : ∀ k, k < 5 → parseFieldDescriptor (TX1 k).2.2.1 = some (tyX1 k) := by decide +kernel
abbrev cX1_init : ByteArray := prog_3_method_1_code
def yX1_init : MethodName := ⟨RX1, "<init>", "()V"⟩
abbrev cX1_add : ByteArray := prog_3_method_2_code
def yX1_add : MethodName := ⟨RX1, "add", "(II)V"⟩
abbrev cX1_latestCell : ByteArray := prog_3_method_3_code
def yX1_latestCell : MethodName := ⟨RX1, "latestCell", "()I"⟩
abbrev cX1_latestFrom : ByteArray := prog_3_method_4_code
def yX1_latestFrom : MethodName := ⟨RX1, "latestFrom", "()I"⟩
abbrev cX1_dropLatest : ByteArray := prog_3_method_5_code
def yX1_dropLatest : MethodName := ⟨RX1, "dropLatest", "()V"⟩
abbrev cX1_forget : ByteArray := prog_3_method_6_code
def yX1_forget : MethodName := ⟨RX1, "forget", "()V"⟩
def RX2 : String := "LandBoard$Rows"
def TX2 : u_T := fun k => match k with
  | 0 => ("LandBoard$Rows", "places", "[I", true)
  | 1 => ("LandBoard$Rows", "weights", "[I", true)
  | 2 => ("LandBoard$Rows", "lefts", "[I", true)
  | 3 => ("LandBoard$Rows", "aboves", "[I", true)
  | 4 => ("LandBoard$Rows", "rowWeights", "[I", true)
  | 5 => ("LandBoard$Rows", "boxes", "I", false)
  | _ => ("LandBoard$Rows", "total", "I", false)
def tyX2 : Nat → FieldType := fun k => match k with
  | 0 => .array .int
  | 1 => .array .int
  | 2 => .array .int
  | 3 => .array .int
  | 4 => .array .int
  | 5 => .int
  | _ => .int
abbrev wsX20 : List Cond := u_ws RX2 TX2 7
theorem nmX2 : ∀ a, a < 7 → ∀ b, b < 7 → a ≠ b → (TX2 a).2.1 ≠ (TX2 b).2.1 := by decide +kernel
theorem tyX2_ok : ∀ k, k < 7 → parseFieldDescriptor (TX2 k).2.2.1 = some (tyX2 k) := by decide +kernel
abbrev cX2_init : ByteArray := prog_4_method_1_code
def yX2_init : MethodName := ⟨RX2, "<init>", "()V"⟩
abbrev cX2_read : ByteArray := prog_4_method_2_code
def yX2_read : MethodName := ⟨RX2, "read", "(LLandBoard$Grid;)V"⟩
abbrev cX2_placeOf : ByteArray := prog_4_method_3_code
def yX2_placeOf : MethodName := ⟨RX2, "placeOf", "(I)I"⟩
abbrev cX2_lay : ByteArray := prog_4_method_4_code
def yX2_lay : MethodName := ⟨RX2, "lay", "(I)V"⟩
abbrev cX2_layRow : ByteArray := prog_4_method_5_code
def yX2_layRow : MethodName := ⟨RX2, "layRow", "(III)I"⟩
abbrev cX2_side : ByteArray := prog_4_method_6_code
def yX2_side : MethodName := ⟨RX2, "side", "(II)I"⟩
abbrev cX2_scaledHeight : ByteArray := prog_4_method_7_code
def yX2_scaledHeight : MethodName := ⟨RX2, "scaledHeight", "(I)I"⟩
abbrev cX2_scaledWidth : ByteArray := prog_4_method_8_code
def yX2_scaledWidth : MethodName := ⟨RX2, "scaledWidth", "(I)I"⟩
abbrev cX2_longUpper : ByteArray := prog_4_method_9_code
def yX2_longUpper : MethodName := ⟨RX2, "longUpper", "(I)I"⟩
abbrev cX2_longLower : ByteArray := prog_4_method_10_code
def yX2_longLower : MethodName := ⟨RX2, "longLower", "(I)I"⟩
abbrev cX2_longestPlace : ByteArray := prog_4_method_11_code
def yX2_longestPlace : MethodName := ⟨RX2, "longestPlace", "()I"⟩
abbrev cX2_bestCuts : ByteArray := prog_4_method_12_code
def yX2_bestCuts : MethodName := ⟨RX2, "bestCuts", "()I"⟩
def RX3 : String := "LandBoard"
def TX3 : u_T := fun k => match k with
  | 0 => ("LandBoard", "now", "LLandBoard$Grid;", true)
  | 1 => ("LandBoard", "moves", "LLandBoard$Moves;", true)
  | 2 => ("LandBoard", "rows", "LLandBoard$Rows;", true)
  | 3 => ("LandBoard", "years", "[LLandBoard$Grid;", true)
  | 4 => ("LandBoard", "kinds", "[I", true)
  | 5 => ("LandBoard", "owns", "[I", true)
  | 6 => ("LandBoard", "wants", "[I", true)
  | _ => ("LandBoard", "asked", "J", false)
def tyX3 : Nat → FieldType := fun k => match k with
  | 0 => .object "LandBoard$Grid"
  | 1 => .object "LandBoard$Moves"
  | 2 => .object "LandBoard$Rows"
  | 3 => .array (.object "LandBoard$Grid")
  | 4 => .array .int
  | 5 => .array .int
  | 6 => .array .int
  | _ => .long
abbrev wsX30 : List Cond := u_ws RX3 TX3 8
theorem nmX3 : ∀ a, a < 8 → ∀ b, b < 8 → a ≠ b → (TX3 a).2.1 ≠ (TX3 b).2.1 := by decide +kernel
theorem tyX3_ok : ∀ k, k < 8 → parseFieldDescriptor (TX3 k).2.2.1 = some (tyX3 k) := by decide +kernel
abbrev cX3_init : ByteArray := prog_1_method_1_code
def yX3_init : MethodName := ⟨RX3, "<init>", "()V"⟩
abbrev cX3_board : ByteArray := prog_1_method_2_code
def yX3_board : MethodName := ⟨RX3, "board", "(II)I"⟩
abbrev cX3_set : ByteArray := prog_1_method_3_code
def yX3_set : MethodName := ⟨RX3, "set", "(III)I"⟩
abbrev cX3_at : ByteArray := prog_1_method_4_code
def yX3_at : MethodName := ⟨RX3, "at", "(II)I"⟩
abbrev cX3_size : ByteArray := prog_1_method_5_code
def yX3_size : MethodName := ⟨RX3, "size", "(I)I"⟩
abbrev cX3_whole : ByteArray := prog_1_method_6_code
def yX3_whole : MethodName := ⟨RX3, "whole", "(I)I"⟩
abbrev cX3_touch : ByteArray := prog_1_method_7_code
def yX3_touch : MethodName := ⟨RX3, "touch", "(II)I"⟩
abbrev cX3_kind : ByteArray := prog_1_method_8_code
def yX3_kind : MethodName := ⟨RX3, "kind", "(IIII)I"⟩
abbrev cX3_about : ByteArray := prog_1_method_9_code
def yX3_about : MethodName := ⟨RX3, "about", "(II)I"⟩
abbrev cX3_leaves : ByteArray := prog_1_method_10_code
def yX3_leaves : MethodName := ⟨RX3, "leaves", "(II)I"⟩
abbrev cX3_may : ByteArray := prog_1_method_11_code
def yX3_may : MethodName := ⟨RX3, "may", "(III)I"⟩
abbrev cX3_move : ByteArray := prog_1_method_12_code
def yX3_move : MethodName := ⟨RX3, "move", "(III)I"⟩
abbrev cX3_want : ByteArray := prog_1_method_13_code
def yX3_want : MethodName := ⟨RX3, "want", "(II)I"⟩
abbrev cX3_miss : ByteArray := prog_1_method_14_code
def yX3_miss : MethodName := ⟨RX3, "miss", "()I"⟩
abbrev cX3_steps : ByteArray := prog_1_method_15_code
def yX3_steps : MethodName := ⟨RX3, "steps", "(I)I"⟩
abbrev cX3_undo : ByteArray := prog_1_method_16_code
def yX3_undo : MethodName := ⟨RX3, "undo", "(I)I"⟩
abbrev cX3_label : ByteArray := prog_1_method_17_code
def yX3_label : MethodName := ⟨RX3, "label", "(II)I"⟩
abbrev cX3_longer : ByteArray := prog_1_method_18_code
def yX3_longer : MethodName := ⟨RX3, "longer", "(III)I"⟩
abbrev cX3_box : ByteArray := prog_1_method_19_code
def yX3_box : MethodName := ⟨RX3, "box", "(III)I"⟩
abbrev cX3_best : ByteArray := prog_1_method_20_code
def yX3_best : MethodName := ⟨RX3, "best", "()I"⟩
abbrev cX3_keep : ByteArray := prog_1_method_21_code
def yX3_keep : MethodName := ⟨RX3, "keep", "(I)I"⟩
abbrev cX3_back : ByteArray := prog_1_method_22_code
def yX3_back : MethodName := ⟨RX3, "back", "(I)I"⟩
abbrev cX3_moved : ByteArray := prog_1_method_23_code
def yX3_moved : MethodName := ⟨RX3, "moved", "(II)I"⟩
abbrev cX3_count : ByteArray := prog_1_method_24_code
def yX3_count : MethodName := ⟨RX3, "count", "(I)I"⟩
abbrev cX3_trace : ByteArray := prog_1_method_25_code
def yX3_trace : MethodName := ⟨RX3, "trace", "()J"⟩
abbrev cX3_forgetKinds : ByteArray := prog_1_method_26_code
def yX3_forgetKinds : MethodName := ⟨RX3, "forgetKinds", "()V"⟩
abbrev cX3_bodiesAsked : ByteArray := prog_1_method_27_code
def yX3_bodiesAsked : MethodName := ⟨RX3, "bodiesAsked", "(I)I"⟩
abbrev cX3_letsGo : ByteArray := prog_1_method_28_code
def yX3_letsGo : MethodName := ⟨RX3, "letsGo", "(II)Z"⟩
abbrev cX3_canGo : ByteArray := prog_1_method_29_code
def yX3_canGo : MethodName := ⟨RX3, "canGo", "(II)Z"⟩
abbrev cX3_go : ByteArray := prog_1_method_30_code
def yX3_go : MethodName := ⟨RX3, "go", "(II)V"⟩
abbrev cX3_missWith : ByteArray := prog_1_method_31_code
def yX3_missWith : MethodName := ⟨RX3, "missWith", "(II)I"⟩
abbrev cX3_missBehind : ByteArray := prog_1_method_32_code
def yX3_missBehind : MethodName := ⟨RX3, "missBehind", "(III)I"⟩
abbrev cX3_step : ByteArray := prog_1_method_33_code
def yX3_step : MethodName := ⟨RX3, "step", "()Z"⟩
abbrev cX3_answer : ByteArray := prog_1_method_34_code
def yX3_answer : MethodName := ⟨RX3, "answer", "(Z)I"⟩
abbrev cX3_isLand : ByteArray := prog_1_method_35_code
def yX3_isLand : MethodName := ⟨RX3, "isLand", "(I)Z"⟩
abbrev cX3_isLandOrSea : ByteArray := prog_1_method_36_code
def yX3_isLandOrSea : MethodName := ⟨RX3, "isLandOrSea", "(I)Z"⟩
abbrev cX3_isYear : ByteArray := prog_1_method_37_code
def yX3_isYear : MethodName := ⟨RX3, "isYear", "(I)Z"⟩
abbrev cX3_hasBox : ByteArray := prog_1_method_38_code
def yX3_hasBox : MethodName := ⟨RX3, "hasBox", "(II)Z"⟩
abbrev cX3_thousandths : ByteArray := prog_1_method_39_code
def yX3_thousandths : MethodName := ⟨RX3, "thousandths", "(II)I"⟩
abbrev cX3_commonDivisor : ByteArray := prog_1_method_40_code
def yX3_commonDivisor : MethodName := ⟨RX3, "commonDivisor", "(II)I"⟩
abbrev cX3_cellAt : ByteArray := prog_1_method_41_code
def yX3_cellAt : MethodName := ⟨RX3, "cellAt", "(II)I"⟩
abbrev cX3_columnOf : ByteArray := prog_1_method_42_code
def yX3_columnOf : MethodName := ⟨RX3, "columnOf", "(I)I"⟩
abbrev cX3_rowOf : ByteArray := prog_1_method_43_code
def yX3_rowOf : MethodName := ⟨RX3, "rowOf", "(I)I"⟩
abbrev cX3_bit : ByteArray := prog_1_method_44_code
def yX3_bit : MethodName := ⟨RX3, "bit", "(I)J"⟩
abbrev cX3_toRight : ByteArray := prog_1_method_45_code
def yX3_toRight : MethodName := ⟨RX3, "toRight", "(J)J"⟩
abbrev cX3_toLeft : ByteArray := prog_1_method_46_code
def yX3_toLeft : MethodName := ⟨RX3, "toLeft", "(J)J"⟩
abbrev cX3_around : ByteArray := prog_1_method_47_code
def yX3_around : MethodName := ⟨RX3, "around", "(J)J"⟩
abbrev cX3_inside : ByteArray := prog_1_method_48_code
def yX3_inside : MethodName := ⟨RX3, "inside", "(J)J"⟩
abbrev cX3_isWhole : ByteArray := prog_1_method_49_code
def yX3_isWhole : MethodName := ⟨RX3, "isWhole", "(J)Z"⟩
abbrev cX3_firstOf : ByteArray := prog_1_method_50_code
def yX3_firstOf : MethodName := ⟨RX3, "firstOf", "(J)I"⟩
def RX4 : String := "LandBoardModel"
def TX4 : u_T := fun k => match k with
  | 0 => ("LandBoardModel", "w", "I", false)
  | 1 => ("LandBoardModel", "h", "I", false)
  | 2 => ("LandBoardModel", "cells", "[I", true)
  | 3 => ("LandBoardModel", "kind", "[I", true)
  | 4 => ("LandBoardModel", "own", "[I", true)
  | 5 => ("LandBoardModel", "wanted", "[I", true)
  | 6 => ("LandBoardModel", "kept", "I", false)
  | 7 => ("LandBoardModel", "nextMove", "I", false)
  | 8 => ("LandBoardModel", "done", "I", false)
  | 9 => ("LandBoardModel", "movedCell", "[I", true)
  | 10 => ("LandBoardModel", "movedFrom", "[I", true)
  | 11 => ("LandBoardModel", "hasYear", "[Z", true)
  | 12 => ("LandBoardModel", "yearW", "[I", true)
  | 13 => ("LandBoardModel", "yearH", "[I", true)
  | 14 => ("LandBoardModel", "year", "[I", true)
  | 15 => ("LandBoardModel", "trace", "J", false)
  | 16 => ("LandBoardModel", "pile", "[I", true)
  | 17 => ("LandBoardModel", "isMet", "[Z", true)
  | 18 => ("LandBoardModel", "deep", "[I", true)
  | 19 => ("LandBoardModel", "many", "I", false)
  | 20 => ("LandBoardModel", "weight", "[I", true)
  | 21 => ("LandBoardModel", "lands", "[I", true)
  | 22 => ("LandBoardModel", "total", "I", false)
  | 23 => ("LandBoardModel", "ahead", "I", false)
  | 24 => ("LandBoardModel", "rowSum", "I", false)
  | _ => ("LandBoardModel", "above", "I", false)
def tyX4 : Nat → FieldType := fun k => match k with
  | 0 => .int
  | 1 => .int
  | 2 => .array .int
  | 3 => .array .int
  | 4 => .array .int
  | 5 => .array .int
  | 6 => .int
  | 7 => .int
  | 8 => .int
  | 9 => .array .int
  | 10 => .array .int
  | 11 => .array .boolean
  | 12 => .array .int
  | 13 => .array .int
  | 14 => .array .int
  | 15 => .long
  | 16 => .array .int
  | 17 => .array .boolean
  | 18 => .array .int
  | 19 => .int
  | 20 => .array .int
  | 21 => .array .int
  | 22 => .int
  | 23 => .int
  | 24 => .int
  | _ => .int
abbrev wsX40 : List Cond := u_ws RX4 TX4 26
theorem nmX4 : ∀ a, a < 26 → ∀ b, b < 26 → a ≠ b → (TX4 a).2.1 ≠ (TX4 b).2.1 := by decide +kernel
theorem tyX4_ok : ∀ k, k < 26 → parseFieldDescriptor (TX4 k).2.2.1 = some (tyX4 k) := by decide +kernel
abbrev cX4_init : ByteArray := prog_6_method_1_code
def yX4_init : MethodName := ⟨RX4, "<init>", "()V"⟩
abbrev cX4_in : ByteArray := prog_6_method_3_code
def yX4_in : MethodName := ⟨RX4, "in", "(III)Z"⟩
abbrev cX4_clears : ByteArray := prog_6_method_4_code
def yX4_clears : MethodName := ⟨RX4, "clears", "()V"⟩
abbrev cX4_plain : ByteArray := prog_6_method_5_code
def yX4_plain : MethodName := ⟨RX4, "plain", "()V"⟩
abbrev cX4_isLand : ByteArray := prog_6_method_6_code
def yX4_isLand : MethodName := ⟨RX4, "isLand", "(I)Z"⟩
abbrev cX4_isOn : ByteArray := prog_6_method_7_code
def yX4_isOn : MethodName := ⟨RX4, "isOn", "(II)Z"⟩
abbrev cX4_cellAt : ByteArray := prog_6_method_8_code
def yX4_cellAt : MethodName := ⟨RX4, "cellAt", "(II)I"⟩
abbrev cX4_beside : ByteArray := prog_6_method_9_code
def yX4_beside : MethodName := ⟨RX4, "beside", "(II)I"⟩
abbrev cX4_board : ByteArray := prog_6_method_10_code
def yX4_board : MethodName := ⟨RX4, "board", "(II)I"⟩
abbrev cX4_set : ByteArray := prog_6_method_11_code
def yX4_set : MethodName := ⟨RX4, "set", "(III)I"⟩
abbrev cX4_at : ByteArray := prog_6_method_12_code
def yX4_at : MethodName := ⟨RX4, "at", "(II)I"⟩
abbrev cX4_sizeOf : ByteArray := prog_6_method_13_code
def yX4_sizeOf : MethodName := ⟨RX4, "sizeOf", "(I)I"⟩
abbrev cX4_size : ByteArray := prog_6_method_14_code
def yX4_size : MethodName := ⟨RX4, "size", "(I)I"⟩
abbrev cX4_isWhole : ByteArray := prog_6_method_15_code
def yX4_isWhole : MethodName := ⟨RX4, "isWhole", "(I)Z"⟩
abbrev cX4_whole : ByteArray := prog_6_method_16_code
def yX4_whole : MethodName := ⟨RX4, "whole", "(I)I"⟩
abbrev cX4_numberOf : ByteArray := prog_6_method_17_code
def yX4_numberOf : MethodName := ⟨RX4, "numberOf", "(I)I"⟩
abbrev cX4_touches : ByteArray := prog_6_method_18_code
def yX4_touches : MethodName := ⟨RX4, "touches", "()J"⟩
abbrev cX4_areTouching : ByteArray := prog_6_method_19_code
def yX4_areTouching : MethodName := ⟨RX4, "areTouching", "(II)Z"⟩
abbrev cX4_touch : ByteArray := prog_6_method_20_code
def yX4_touch : MethodName := ⟨RX4, "touch", "(II)I"⟩
abbrev cX4_kind : ByteArray := prog_6_method_21_code
def yX4_kind : MethodName := ⟨RX4, "kind", "(IIII)I"⟩
abbrev cX4_about : ByteArray := prog_6_method_22_code
def yX4_about : MethodName := ⟨RX4, "about", "(II)I"⟩
abbrev cX4_doesLeave : ByteArray := prog_6_method_23_code
def yX4_doesLeave : MethodName := ⟨RX4, "doesLeave", "(I)Z"⟩
abbrev cX4_leaves : ByteArray := prog_6_method_24_code
def yX4_leaves : MethodName := ⟨RX4, "leaves", "(II)I"⟩
abbrev cX4_mayGo : ByteArray := prog_6_method_25_code
def yX4_mayGo : MethodName := ⟨RX4, "mayGo", "(II)Z"⟩
abbrev cX4_may : ByteArray := prog_6_method_26_code
def yX4_may : MethodName := ⟨RX4, "may", "(III)I"⟩
abbrev cX4_goes : ByteArray := prog_6_method_27_code
def yX4_goes : MethodName := ⟨RX4, "goes", "(II)V"⟩
abbrev cX4_move : ByteArray := prog_6_method_28_code
def yX4_move : MethodName := ⟨RX4, "move", "(III)I"⟩
abbrev cX4_want : ByteArray := prog_6_method_29_code
def yX4_want : MethodName := ⟨RX4, "want", "(II)I"⟩
abbrev cX4_missNow : ByteArray := prog_6_method_30_code
def yX4_missNow : MethodName := ⟨RX4, "missNow", "()I"⟩
abbrev cX4_miss : ByteArray := prog_6_method_31_code
def yX4_miss : MethodName := ⟨RX4, "miss", "()I"⟩
abbrev cX4_goesOn : ByteArray := prog_6_method_32_code
def yX4_goesOn : MethodName := ⟨RX4, "goesOn", "()Z"⟩
abbrev cX4_steps : ByteArray := prog_6_method_33_code
def yX4_steps : MethodName := ⟨RX4, "steps", "(I)I"⟩
abbrev cX4_undo : ByteArray := prog_6_method_34_code
def yX4_undo : MethodName := ⟨RX4, "undo", "(I)I"⟩
abbrev cX4_sound : ByteArray := prog_6_method_35_code
def yX4_sound : MethodName := ⟨RX4, "sound", "(I)V"⟩
abbrev cX4_label : ByteArray := prog_6_method_36_code
def yX4_label : MethodName := ⟨RX4, "label", "(II)I"⟩
abbrev cX4_weigh : ByteArray := prog_6_method_37_code
def yX4_weigh : MethodName := ⟨RX4, "weigh", "()V"⟩
abbrev cX4_lay : ByteArray := prog_6_method_38_code
def yX4_lay : MethodName := ⟨RX4, "lay", "(II)V"⟩
abbrev cX4_boxOf : ByteArray := prog_6_method_39_code
def yX4_boxOf : MethodName := ⟨RX4, "boxOf", "(II)I"⟩
abbrev cX4_common : ByteArray := prog_6_method_40_code
def yX4_common : MethodName := ⟨RX4, "common", "(II)I"⟩
abbrev cX4_longUp : ByteArray := prog_6_method_41_code
def yX4_longUp : MethodName := ⟨RX4, "longUp", "(I)I"⟩
abbrev cX4_longDown : ByteArray := prog_6_method_42_code
def yX4_longDown : MethodName := ⟨RX4, "longDown", "(I)I"⟩
abbrev cX4_longer : ByteArray := prog_6_method_43_code
def yX4_longer : MethodName := ⟨RX4, "longer", "(III)I"⟩
abbrev cX4_box : ByteArray := prog_6_method_44_code
def yX4_box : MethodName := ⟨RX4, "box", "(III)I"⟩
abbrev cX4_best : ByteArray := prog_6_method_45_code
def yX4_best : MethodName := ⟨RX4, "best", "()I"⟩
abbrev cX4_isYear : ByteArray := prog_6_method_46_code
def yX4_isYear : MethodName := ⟨RX4, "isYear", "(I)Z"⟩
abbrev cX4_landCells : ByteArray := prog_6_method_47_code
def yX4_landCells : MethodName := ⟨RX4, "landCells", "()I"⟩
abbrev cX4_keep : ByteArray := prog_6_method_48_code
def yX4_keep : MethodName := ⟨RX4, "keep", "(I)I"⟩
abbrev cX4_back : ByteArray := prog_6_method_49_code
def yX4_back : MethodName := ⟨RX4, "back", "(I)I"⟩
abbrev cX4_moved : ByteArray := prog_6_method_50_code
def yX4_moved : MethodName := ⟨RX4, "moved", "(II)I"⟩
abbrev cX4_count : ByteArray := prog_6_method_51_code
def yX4_count : MethodName := ⟨RX4, "count", "(I)I"⟩
abbrev cX4_trace : ByteArray := prog_6_method_52_code
def yX4_trace : MethodName := ⟨RX4, "trace", "()J"⟩
def RJ13 : String := "java/lang/Long"
def TJ13 : u_T := fun k => match k with
  | _ => ("", "", "", false)
def tyJ13 : Nat → FieldType := fun k => match k with
  | _ => .int
abbrev wsJ130 : List Cond := u_ws RJ13 TJ13 0
theorem nmJ13 : ∀ a, a < 0 → ∀ b, b < 0 → a ≠ b → (TJ13 a).2.1 ≠ (TJ13 b).2.1 := by decide +kernel
theorem tyJ13_ok : ∀ k, k < 0 → parseFieldDescriptor (TJ13 k).2.2.1 = some (tyJ13 k) := by decide +kernel
abbrev cJ13_bitCount_95d88 : ByteArray := prog_7_method_50_code
def yJ13_bitCount_95d88 : MethodName := ⟨RJ13, "bitCount", "(J)I"⟩
def RJ9 : String := "java/lang/Math"
def TJ9 : u_T := fun k => match k with
  | _ => ("", "", "", false)
def tyJ9 : Nat → FieldType := fun k => match k with
  | _ => .int
abbrev wsJ90 : List Cond := u_ws RJ9 TJ9 0
theorem nmJ9 : ∀ a, a < 0 → ∀ b, b < 0 → a ≠ b → (TJ9 a).2.1 ≠ (TJ9 b).2.1 := by decide +kernel
theorem tyJ9_ok : ∀ k, k < 0 → parseFieldDescriptor (TJ9 k).2.2.1 = some (tyJ9 k) := by decide +kernel
abbrev cJ9_floorMod_7cf53 : ByteArray := prog_8_method_50_code
def yJ9_floorMod_7cf53 : MethodName := ⟨RJ9, "floorMod", "(II)I"⟩
abbrev cJ9_abs_0f7a4 : ByteArray := prog_8_method_59_code
def yJ9_abs_0f7a4 : MethodName := ⟨RJ9, "abs", "(I)I"⟩
abbrev cJ9_max_7cf53 : ByteArray := prog_8_method_65_code
def yJ9_max_7cf53 : MethodName := ⟨RJ9, "max", "(II)I"⟩
abbrev cJ9_min_7cf53 : ByteArray := prog_8_method_69_code
def yJ9_min_7cf53 : MethodName := ⟨RJ9, "min", "(II)I"⟩
def RL : String := "LandBoardLaw"
abbrev cL_law : ByteArray := code
def yL_law : MethodName := ⟨RL, "law", "([I)Z"⟩
def wsX0_init : List Cond := .code yX0_init cX0_init 1 none :: ([.methodLink RX0 3 objectInit, .instanceMethod objectInit, .code objectInit ⟨#[0xb1]⟩ 1 none, .arrayClass .long, .fieldLink RX0 9 "LandBoard$Grid" "lands" "[J"] ++ wsX00)
def wsX3_toRight : List Cond := .code yX3_toRight cX3_toRight 2 (some .long) :: ([.constantLong RX3 236 (9187201950435737471)])
def wsX3_toLeft : List Cond := .code yX3_toLeft cX3_toLeft 2 (some .long) :: ([.constantLong RX3 238 (-72340172838076674)])
def wsX3_inside : List Cond := .code yX3_inside cX3_inside 2 (some .long) :: ([.methodLink RX3 240 yX3_toRight, .static yX3_toRight, .initialized RX3, .code yX3_toRight cX3_toRight 2 (some .long), .constantLong RX3 236 (9187201950435737471), .methodLink RX3 243 yX3_toLeft, .static yX3_toLeft, .code yX3_toLeft cX3_toLeft 2 (some .long), .constantLong RX3 238 (-72340172838076674)])
def wsX0_clear : List Cond := .code yX0_clear cX0_clear 4 none :: ([.fieldLink RX0 15 "LandBoard$Grid" "width" "I", .fieldLink RX0 19 "LandBoard$Grid" "height" "I", .fieldLink RX0 22 "LandBoard$Grid" "all" "J", .constantLong RX0 30 (-1), .fieldLink RX0 32 "LandBoard$Grid" "edge" "J", .fieldLink RX0 9 "LandBoard$Grid" "lands" "[J", .static yX3_inside, .initialized RX3, .code yX3_inside cX3_inside 2 (some .long), .methodLink RX3 240 yX3_toRight, .static yX3_toRight, .code yX3_toRight cX3_toRight 2 (some .long), .constantLong RX3 236 (9187201950435737471), .methodLink RX3 243 yX3_toLeft, .static yX3_toLeft, .code yX3_toLeft cX3_toLeft 2 (some .long), .constantLong RX3 238 (-72340172838076674)] ++ wsX00)
def wsX0_copy : List Cond := .code yX0_copy cX0_copy 3 none :: ([.fieldLink RX0 15 "LandBoard$Grid" "width" "I", .fieldLink RX0 19 "LandBoard$Grid" "height" "I", .fieldLink RX0 22 "LandBoard$Grid" "all" "J", .fieldLink RX0 32 "LandBoard$Grid" "edge" "J", .fieldLink RX0 9 "LandBoard$Grid" "lands" "[J"] ++ wsX00)
def wsX0_has : List Cond := .code yX0_has cX0_has 3 (some .boolean) :: ([.fieldLink RX0 15 "LandBoard$Grid" "width" "I", .fieldLink RX0 19 "LandBoard$Grid" "height" "I"] ++ wsX00)
def wsX3_bit : List Cond := .code yX3_bit cX3_bit 1 (some .long) :: ([])
def wsX0_landOf : List Cond := .code yX0_landOf cX0_landOf 3 (some .int) :: ([.fieldLink RX0 9 "LandBoard$Grid" "lands" "[J", .static yX3_bit, .initialized RX3, .code yX3_bit cX3_bit 1 (some .long)] ++ wsX00)
def wsX0_put : List Cond := .code yX0_put cX0_put 4 none :: ([.fieldLink RX0 9 "LandBoard$Grid" "lands" "[J", .constantLong RX0 30 (-1), .static yX3_bit, .initialized RX3, .code yX3_bit cX3_bit 1 (some .long)] ++ wsX00)
def wsX3_isLand : List Cond := .code yX3_isLand cX3_isLand 1 (some .boolean) :: ([])
def wsX0_cellsOf : List Cond := .code yX0_cellsOf cX0_cellsOf 2 (some .long) :: ([.fieldLink RX0 9 "LandBoard$Grid" "lands" "[J", .static yX3_isLand, .initialized RX3, .code yX3_isLand cX3_isLand 1 (some .boolean)] ++ wsX00)
def wsJ13_bitCount_95d88 : List Cond := .code yJ13_bitCount_95d88 cJ13_bitCount_95d88 2 (some .int) :: ([.constantLong RJ13 314 (6148914691236517205), .constantLong RJ13 316 (3689348814741910323), .constantLong RJ13 318 (1085102592571150095)])
def wsX0_sizeOf : List Cond := .code yX0_sizeOf cX0_sizeOf 2 (some .int) :: ([.methodLink RX0 43 yX0_cellsOf, .instanceMethod yX0_cellsOf, .selects RX0 yX0_cellsOf yX0_cellsOf, .initialized RX0, .code yX0_cellsOf cX0_cellsOf 2 (some .long), .fieldLink RX0 9 "LandBoard$Grid" "lands" "[J", .static yX3_isLand, .initialized RX3, .code yX3_isLand cX3_isLand 1 (some .boolean), .methodLink RX0 46 yJ13_bitCount_95d88, .static yJ13_bitCount_95d88, .initialized RJ13, .code yJ13_bitCount_95d88 cJ13_bitCount_95d88 2 (some .int), .constantLong RJ13 314 (6148914691236517205), .constantLong RJ13 316 (3689348814741910323), .constantLong RJ13 318 (1085102592571150095)] ++ wsX00)
def wsX0_peopledCells : List Cond := .code yX0_peopledCells cX0_peopledCells 4 (some .long) :: ([.fieldLink RX0 9 "LandBoard$Grid" "lands" "[J"] ++ wsX00)
def wsX0_landCells : List Cond := .code yX0_landCells cX0_landCells 1 (some .int) :: ([.methodLink RX0 52 yX0_peopledCells, .instanceMethod yX0_peopledCells, .selects RX0 yX0_peopledCells yX0_peopledCells, .initialized RX0, .code yX0_peopledCells cX0_peopledCells 4 (some .long), .fieldLink RX0 9 "LandBoard$Grid" "lands" "[J", .methodLink RX0 46 yJ13_bitCount_95d88, .static yJ13_bitCount_95d88, .initialized RJ13, .code yJ13_bitCount_95d88 cJ13_bitCount_95d88 2 (some .int), .constantLong RJ13 314 (6148914691236517205), .constantLong RJ13 316 (3689348814741910323), .constantLong RJ13 318 (1085102592571150095)] ++ wsX00)
def wsX0_peopled : List Cond := .code yX0_peopled cX0_peopled 3 (some .int) :: ([.fieldLink RX0 9 "LandBoard$Grid" "lands" "[J"] ++ wsX00)
def wsX3_around : List Cond := .code yX3_around cX3_around 2 (some .long) :: ([.methodLink RX3 240 yX3_toRight, .static yX3_toRight, .initialized RX3, .code yX3_toRight cX3_toRight 2 (some .long), .constantLong RX3 236 (9187201950435737471), .methodLink RX3 243 yX3_toLeft, .static yX3_toLeft, .code yX3_toLeft cX3_toLeft 2 (some .long), .constantLong RX3 238 (-72340172838076674)])
def wsX0_isAtSea : List Cond := .code yX0_isAtSea cX0_isAtSea 5 (some .boolean) :: ([.fieldLink RX0 22 "LandBoard$Grid" "all" "J", .constantLong RX0 30 (-1), .fieldLink RX0 32 "LandBoard$Grid" "edge" "J", .methodLink RX0 52 yX0_peopledCells, .instanceMethod yX0_peopledCells, .selects RX0 yX0_peopledCells yX0_peopledCells, .initialized RX0, .code yX0_peopledCells cX0_peopledCells 4 (some .long), .fieldLink RX0 9 "LandBoard$Grid" "lands" "[J", .static yX3_around, .initialized RX3, .code yX3_around cX3_around 2 (some .long), .methodLink RX3 240 yX3_toRight, .static yX3_toRight, .code yX3_toRight cX3_toRight 2 (some .long), .constantLong RX3 236 (9187201950435737471), .methodLink RX3 243 yX3_toLeft, .static yX3_toLeft, .code yX3_toLeft cX3_toLeft 2 (some .long), .constantLong RX3 238 (-72340172838076674)] ++ wsX00)
def wsX0_touching_r1 : List Cond := [Cond.fieldLink RX0 9 "LandBoard$Grid" "lands" "[J", Cond.static yX3_around, Cond.initialized RX3, Cond.code yX3_around cX3_around 2 (some .long), Cond.methodLink RX3 240 yX3_toRight, Cond.static yX3_toRight, Cond.code yX3_toRight cX3_toRight 2 (some .long), Cond.constantLong RX3 236 (9187201950435737471), Cond.methodLink RX3 243 yX3_toLeft, Cond.static yX3_toLeft, Cond.code yX3_toLeft cX3_toLeft 2 (some .long), Cond.constantLong RX3 238 (-72340172838076674), Cond.static yX3_bit, Cond.code yX3_bit cX3_bit 1 (some .long), Cond.methodLink RX0 59 yX0_isAtSea, Cond.instanceMethod yX0_isAtSea, Cond.selects RX0 yX0_isAtSea yX0_isAtSea, Cond.initialized RX0, Cond.code yX0_isAtSea cX0_isAtSea 5 (some .boolean), Cond.fieldLink RX0 22 "LandBoard$Grid" "all" "J", Cond.constantLong RX0 30 (-1), Cond.fieldLink RX0 32 "LandBoard$Grid" "edge" "J", Cond.methodLink RX0 52 yX0_peopledCells, Cond.instanceMethod yX0_peopledCells]
def wsX0_touching_r2 : List Cond := [Cond.selects RX0 yX0_peopledCells yX0_peopledCells, Cond.code yX0_peopledCells cX0_peopledCells 4 (some .long)]
def wsX0_touching : List Cond := .code yX0_touching cX0_touching 7 (some .long) :: ((wsX0_touching_r1 ++ wsX0_touching_r2) ++ wsX00)
def wsX0_isAsLargeAs : List Cond := .code yX0_isAsLargeAs cX0_isAsLargeAs 2 (some .boolean) :: ([.fieldLink RX0 15 "LandBoard$Grid" "width" "I", .fieldLink RX0 19 "LandBoard$Grid" "height" "I"] ++ wsX00)
def wsX0_unlike : List Cond := .code yX0_unlike cX0_unlike 5 (some .int) :: ([.fieldLink RX0 9 "LandBoard$Grid" "lands" "[J", .methodLink RX0 46 yJ13_bitCount_95d88, .static yJ13_bitCount_95d88, .initialized RJ13, .code yJ13_bitCount_95d88 cJ13_bitCount_95d88 2 (some .int), .constantLong RJ13 314 (6148914691236517205), .constantLong RJ13 316 (3689348814741910323), .constantLong RJ13 318 (1085102592571150095)] ++ wsX00)
def wsX1_init : List Cond := .code yX1_init cX1_init 1 none :: ([.methodLink RX1 3 objectInit, .instanceMethod objectInit, .code objectInit ⟨#[0xb1]⟩ 1 none, .arrayClass .int, .fieldLink RX1 9 "LandBoard$Moves" "cells" "[I", .fieldLink RX1 15 "LandBoard$Moves" "froms" "[I"] ++ wsX10)
def wsJ9_floorMod_7cf53 : List Cond := .code yJ9_floorMod_7cf53 cJ9_floorMod_7cf53 3 (some .int) :: ([])
def wsX1_add : List Cond := .code yX1_add cX1_add 4 none :: ([.fieldLink RX1 18 "LandBoard$Moves" "top" "I", .fieldLink RX1 9 "LandBoard$Moves" "cells" "[I", .fieldLink RX1 15 "LandBoard$Moves" "froms" "[I", .fieldLink RX1 28 "LandBoard$Moves" "kept" "I", .methodLink RX1 31 Lib.Math.min.name, .static Lib.Math.min.name, .initialized "java/lang/Math", .code Lib.Math.min.name Lib.Math.min.code 2 (some .int), .fieldLink RX1 34 "LandBoard$Moves" "done" "I", .methodLink RX1 22 yJ9_floorMod_7cf53, .static yJ9_floorMod_7cf53, .initialized RJ9, .code yJ9_floorMod_7cf53 cJ9_floorMod_7cf53 3 (some .int)] ++ wsX10)
def wsX1_latestCell : List Cond := .code yX1_latestCell cX1_latestCell 1 (some .int) :: ([.fieldLink RX1 9 "LandBoard$Moves" "cells" "[I", .fieldLink RX1 18 "LandBoard$Moves" "top" "I", .methodLink RX1 22 yJ9_floorMod_7cf53, .static yJ9_floorMod_7cf53, .initialized RJ9, .code yJ9_floorMod_7cf53 cJ9_floorMod_7cf53 3 (some .int)] ++ wsX10)
def wsX1_latestFrom : List Cond := .code yX1_latestFrom cX1_latestFrom 1 (some .int) :: ([.fieldLink RX1 15 "LandBoard$Moves" "froms" "[I", .fieldLink RX1 18 "LandBoard$Moves" "top" "I", .methodLink RX1 22 yJ9_floorMod_7cf53, .static yJ9_floorMod_7cf53, .initialized RJ9, .code yJ9_floorMod_7cf53 cJ9_floorMod_7cf53 3 (some .int)] ++ wsX10)
def wsX1_dropLatest : List Cond := .code yX1_dropLatest cX1_dropLatest 1 none :: ([.fieldLink RX1 18 "LandBoard$Moves" "top" "I", .fieldLink RX1 28 "LandBoard$Moves" "kept" "I"] ++ wsX10)
def wsX1_forget : List Cond := .code yX1_forget cX1_forget 1 none :: ([.fieldLink RX1 28 "LandBoard$Moves" "kept" "I"] ++ wsX10)
def wsX2_init : List Cond := .code yX2_init cX2_init 1 none :: ([.methodLink RX2 3 objectInit, .instanceMethod objectInit, .code objectInit ⟨#[0xb1]⟩ 1 none, .arrayClass .int, .fieldLink RX2 9 "LandBoard$Rows" "places" "[I", .fieldLink RX2 15 "LandBoard$Rows" "weights" "[I", .fieldLink RX2 18 "LandBoard$Rows" "lefts" "[I", .fieldLink RX2 21 "LandBoard$Rows" "aboves" "[I", .fieldLink RX2 24 "LandBoard$Rows" "rowWeights" "[I"] ++ wsX20)
def wsX2_read : List Cond := .code yX2_read cX2_read 3 none :: ([.fieldLink RX2 27 "LandBoard$Rows" "boxes" "I", .fieldLink RX2 31 "LandBoard$Rows" "total" "I", .fieldLink RX2 9 "LandBoard$Rows" "places" "[I", .fieldLink RX2 15 "LandBoard$Rows" "weights" "[I", .methodLink RX2 34 yX0_sizeOf, .instanceMethod yX0_sizeOf, .selects RX0 yX0_sizeOf yX0_sizeOf, .initialized RX0, .code yX0_sizeOf cX0_sizeOf 2 (some .int), .methodLink RX0 43 yX0_cellsOf, .instanceMethod yX0_cellsOf, .selects RX0 yX0_cellsOf yX0_cellsOf, .code yX0_cellsOf cX0_cellsOf 2 (some .long), .fieldLink RX0 9 "LandBoard$Grid" "lands" "[J", .static yX3_isLand, .initialized RX3, .code yX3_isLand cX3_isLand 1 (some .boolean), .methodLink RX0 46 yJ13_bitCount_95d88, .static yJ13_bitCount_95d88, .initialized RJ13, .code yJ13_bitCount_95d88 cJ13_bitCount_95d88 2 (some .int), .constantLong RJ13 314 (6148914691236517205), .constantLong RJ13 316 (3689348814741910323), .constantLong RJ13 318 (1085102592571150095)] ++ wsX20 ++ wsX00)
def wsX2_placeOf : List Cond := .code yX2_placeOf cX2_placeOf 2 (some .int) :: ([.fieldLink RX2 9 "LandBoard$Rows" "places" "[I", .static yX3_isLand, .initialized RX3, .code yX3_isLand cX3_isLand 1 (some .boolean)] ++ wsX20)
def wsX2_layRow : List Cond := .code yX2_layRow cX2_layRow 6 (some .int) :: ([.methodLink RX2 48 Lib.Math.max.name, .static Lib.Math.max.name, .initialized "java/lang/Math", .code Lib.Math.max.name Lib.Math.max.code 2 (some .int), .fieldLink RX2 18 "LandBoard$Rows" "lefts" "[I", .fieldLink RX2 21 "LandBoard$Rows" "aboves" "[I", .fieldLink RX2 15 "LandBoard$Rows" "weights" "[I", .fieldLink RX2 24 "LandBoard$Rows" "rowWeights" "[I"] ++ wsX20)
def wsX2_lay : List Cond := .code yX2_lay cX2_lay 5 none :: ([.fieldLink RX2 27 "LandBoard$Rows" "boxes" "I", .methodLink RX2 44 yX2_layRow, .instanceMethod yX2_layRow, .selects RX2 yX2_layRow yX2_layRow, .initialized RX2, .code yX2_layRow cX2_layRow 6 (some .int), .methodLink RX2 48 Lib.Math.max.name, .static Lib.Math.max.name, .initialized "java/lang/Math", .code Lib.Math.max.name Lib.Math.max.code 2 (some .int), .fieldLink RX2 18 "LandBoard$Rows" "lefts" "[I", .fieldLink RX2 21 "LandBoard$Rows" "aboves" "[I", .fieldLink RX2 15 "LandBoard$Rows" "weights" "[I", .fieldLink RX2 24 "LandBoard$Rows" "rowWeights" "[I"] ++ wsX20)
def wsX3_thousandths : List Cond := .code yX3_thousandths cX3_thousandths 2 (some .int) :: ([])
def wsX2_side : List Cond := .code yX2_side cX2_side 3 (some .int) :: ([.fieldLink RX2 18 "LandBoard$Rows" "lefts" "[I", .fieldLink RX2 24 "LandBoard$Rows" "rowWeights" "[I", .fieldLink RX2 21 "LandBoard$Rows" "aboves" "[I", .fieldLink RX2 31 "LandBoard$Rows" "total" "I", .fieldLink RX2 15 "LandBoard$Rows" "weights" "[I", .static yX3_thousandths, .initialized RX3, .code yX3_thousandths cX3_thousandths 2 (some .int)] ++ wsX20)
def wsX2_scaledHeight : List Cond := .code yX2_scaledHeight cX2_scaledHeight 2 (some .int) :: ([.fieldLink RX2 24 "LandBoard$Rows" "rowWeights" "[I"] ++ wsX20)
def wsX2_scaledWidth : List Cond := .code yX2_scaledWidth cX2_scaledWidth 2 (some .int) :: ([.fieldLink RX2 15 "LandBoard$Rows" "weights" "[I", .fieldLink RX2 31 "LandBoard$Rows" "total" "I"] ++ wsX20)
def wsX2_longUpper : List Cond := .code yX2_longUpper cX2_longUpper 2 (some .int) :: ([.methodLink RX2 48 Lib.Math.max.name, .static Lib.Math.max.name, .initialized "java/lang/Math", .code Lib.Math.max.name Lib.Math.max.code 2 (some .int), .methodLink RX2 57 yX2_scaledHeight, .instanceMethod yX2_scaledHeight, .selects RX2 yX2_scaledHeight yX2_scaledHeight, .initialized RX2, .code yX2_scaledHeight cX2_scaledHeight 2 (some .int), .fieldLink RX2 24 "LandBoard$Rows" "rowWeights" "[I", .methodLink RX2 60 yX2_scaledWidth, .instanceMethod yX2_scaledWidth, .selects RX2 yX2_scaledWidth yX2_scaledWidth, .code yX2_scaledWidth cX2_scaledWidth 2 (some .int), .fieldLink RX2 15 "LandBoard$Rows" "weights" "[I", .fieldLink RX2 31 "LandBoard$Rows" "total" "I"] ++ wsX20)
def wsX2_longLower : List Cond := .code yX2_longLower cX2_longLower 2 (some .int) :: ([.methodLink RX2 63 Lib.Math.min.name, .static Lib.Math.min.name, .initialized "java/lang/Math", .code Lib.Math.min.name Lib.Math.min.code 2 (some .int), .methodLink RX2 57 yX2_scaledHeight, .instanceMethod yX2_scaledHeight, .selects RX2 yX2_scaledHeight yX2_scaledHeight, .initialized RX2, .code yX2_scaledHeight cX2_scaledHeight 2 (some .int), .fieldLink RX2 24 "LandBoard$Rows" "rowWeights" "[I", .methodLink RX2 60 yX2_scaledWidth, .instanceMethod yX2_scaledWidth, .selects RX2 yX2_scaledWidth yX2_scaledWidth, .code yX2_scaledWidth cX2_scaledWidth 2 (some .int), .fieldLink RX2 15 "LandBoard$Rows" "weights" "[I", .fieldLink RX2 31 "LandBoard$Rows" "total" "I"] ++ wsX20)
def wsX2_longestPlace_r1 : List Cond := [Cond.fieldLink RX2 27 "LandBoard$Rows" "boxes" "I", Cond.methodLink RX2 66 yX2_longUpper, Cond.instanceMethod yX2_longUpper, Cond.selects RX2 yX2_longUpper yX2_longUpper, Cond.initialized RX2, Cond.code yX2_longUpper cX2_longUpper 2 (some .int), Cond.methodLink RX2 48 Lib.Math.max.name, Cond.static Lib.Math.max.name, Cond.initialized "java/lang/Math", Cond.code Lib.Math.max.name Lib.Math.max.code 2 (some .int), Cond.methodLink RX2 57 yX2_scaledHeight, Cond.instanceMethod yX2_scaledHeight, Cond.selects RX2 yX2_scaledHeight yX2_scaledHeight, Cond.code yX2_scaledHeight cX2_scaledHeight 2 (some .int), Cond.fieldLink RX2 24 "LandBoard$Rows" "rowWeights" "[I", Cond.methodLink RX2 60 yX2_scaledWidth, Cond.instanceMethod yX2_scaledWidth, Cond.selects RX2 yX2_scaledWidth yX2_scaledWidth, Cond.code yX2_scaledWidth cX2_scaledWidth 2 (some .int), Cond.fieldLink RX2 15 "LandBoard$Rows" "weights" "[I", Cond.fieldLink RX2 31 "LandBoard$Rows" "total" "I", Cond.methodLink RX2 69 yX2_longLower, Cond.instanceMethod yX2_longLower, Cond.selects RX2 yX2_longLower yX2_longLower]
def wsX2_longestPlace_r2 : List Cond := [Cond.code yX2_longLower cX2_longLower 2 (some .int), Cond.methodLink RX2 63 Lib.Math.min.name, Cond.static Lib.Math.min.name, Cond.code Lib.Math.min.name Lib.Math.min.code 2 (some .int)]
def wsX2_longestPlace : List Cond := .code yX2_longestPlace cX2_longestPlace 3 (some .int) :: ((wsX2_longestPlace_r1 ++ wsX2_longestPlace_r2) ++ wsX20)
def wsX2_bestCuts_r1 : List Cond := [Cond.fieldLink RX2 27 "LandBoard$Rows" "boxes" "I", Cond.methodLink RX2 48 Lib.Math.max.name, Cond.static Lib.Math.max.name, Cond.initialized "java/lang/Math", Cond.code Lib.Math.max.name Lib.Math.max.code 2 (some .int), Cond.methodLink RX2 72 yX2_lay, Cond.instanceMethod yX2_lay, Cond.selects RX2 yX2_lay yX2_lay, Cond.initialized RX2, Cond.code yX2_lay cX2_lay 5 none, Cond.methodLink RX2 44 yX2_layRow, Cond.instanceMethod yX2_layRow, Cond.selects RX2 yX2_layRow yX2_layRow, Cond.code yX2_layRow cX2_layRow 6 (some .int), Cond.fieldLink RX2 18 "LandBoard$Rows" "lefts" "[I", Cond.fieldLink RX2 21 "LandBoard$Rows" "aboves" "[I", Cond.fieldLink RX2 15 "LandBoard$Rows" "weights" "[I", Cond.fieldLink RX2 24 "LandBoard$Rows" "rowWeights" "[I", Cond.methodLink RX2 76 yX2_longestPlace, Cond.instanceMethod yX2_longestPlace, Cond.selects RX2 yX2_longestPlace yX2_longestPlace, Cond.code yX2_longestPlace cX2_longestPlace 3 (some .int), Cond.methodLink RX2 66 yX2_longUpper, Cond.instanceMethod yX2_longUpper]
def wsX2_bestCuts_r2 : List Cond := [Cond.selects RX2 yX2_longUpper yX2_longUpper, Cond.code yX2_longUpper cX2_longUpper 2 (some .int), Cond.methodLink RX2 57 yX2_scaledHeight, Cond.instanceMethod yX2_scaledHeight, Cond.selects RX2 yX2_scaledHeight yX2_scaledHeight, Cond.code yX2_scaledHeight cX2_scaledHeight 2 (some .int), Cond.methodLink RX2 60 yX2_scaledWidth, Cond.instanceMethod yX2_scaledWidth, Cond.selects RX2 yX2_scaledWidth yX2_scaledWidth, Cond.code yX2_scaledWidth cX2_scaledWidth 2 (some .int), Cond.fieldLink RX2 31 "LandBoard$Rows" "total" "I", Cond.methodLink RX2 69 yX2_longLower, Cond.instanceMethod yX2_longLower, Cond.selects RX2 yX2_longLower yX2_longLower, Cond.code yX2_longLower cX2_longLower 2 (some .int), Cond.methodLink RX2 63 Lib.Math.min.name, Cond.static Lib.Math.min.name, Cond.code Lib.Math.min.name Lib.Math.min.code 2 (some .int)]
def wsX2_bestCuts : List Cond := .code yX2_bestCuts cX2_bestCuts 7 (some .int) :: ((wsX2_bestCuts_r1 ++ wsX2_bestCuts_r2) ++ wsX20)
def wsX3_forgetKinds : List Cond := .code yX3_forgetKinds cX3_forgetKinds 2 none :: ([.fieldLink RX3 34 "LandBoard" "kinds" "[I", .fieldLink RX3 38 "LandBoard" "owns" "[I"] ++ wsX30)
def wsX3_init_r1 : List Cond := [Cond.methodLink RX3 3 objectInit, Cond.instanceMethod objectInit, Cond.code objectInit ⟨#[0xb1]⟩ 1 none, Cond.classLink RX3 9 RX0, Cond.instantiable RX0 5, Cond.initialized RX0, Cond.fieldLink RX3 12 "LandBoard" "now" "LLandBoard$Grid;", Cond.classLink RX3 16 RX1, Cond.instantiable RX1 5, Cond.initialized RX1, Cond.fieldLink RX3 19 "LandBoard" "moves" "LLandBoard$Moves;", Cond.classLink RX3 23 RX2, Cond.instantiable RX2 7, Cond.initialized RX2, Cond.fieldLink RX3 26 "LandBoard" "rows" "LLandBoard$Rows;", Cond.fieldLink RX3 30 "LandBoard" "years" "[LLandBoard$Grid;", Cond.arrayClass .int, Cond.fieldLink RX3 34 "LandBoard" "kinds" "[I", Cond.fieldLink RX3 38 "LandBoard" "owns" "[I", Cond.fieldLink RX3 41 "LandBoard" "wants" "[I", Cond.instanceMethod yX0_init, Cond.code yX0_init cX0_init 1 none, Cond.methodLink RX0 3 objectInit, Cond.arrayClass .long]
def wsX3_init_r2 : List Cond := [Cond.fieldLink RX0 9 "LandBoard$Grid" "lands" "[J", Cond.instanceMethod yX1_init, Cond.code yX1_init cX1_init 1 none, Cond.methodLink RX1 3 objectInit, Cond.fieldLink RX1 9 "LandBoard$Moves" "cells" "[I", Cond.fieldLink RX1 15 "LandBoard$Moves" "froms" "[I", Cond.instanceMethod yX2_init, Cond.code yX2_init cX2_init 1 none, Cond.methodLink RX2 3 objectInit, Cond.fieldLink RX2 9 "LandBoard$Rows" "places" "[I", Cond.fieldLink RX2 15 "LandBoard$Rows" "weights" "[I", Cond.fieldLink RX2 18 "LandBoard$Rows" "lefts" "[I", Cond.fieldLink RX2 21 "LandBoard$Rows" "aboves" "[I", Cond.fieldLink RX2 24 "LandBoard$Rows" "rowWeights" "[I", Cond.methodLink RX3 44 yX0_clear, Cond.instanceMethod yX0_clear, Cond.selects RX0 yX0_clear yX0_clear, Cond.code yX0_clear cX0_clear 4 none, Cond.fieldLink RX0 15 "LandBoard$Grid" "width" "I", Cond.fieldLink RX0 19 "LandBoard$Grid" "height" "I", Cond.fieldLink RX0 22 "LandBoard$Grid" "all" "J", Cond.constantLong RX0 30 (-1), Cond.fieldLink RX0 32 "LandBoard$Grid" "edge" "J", Cond.static yX3_inside]
def wsX3_init_r3 : List Cond := [Cond.initialized RX3, Cond.code yX3_inside cX3_inside 2 (some .long), Cond.methodLink RX3 240 yX3_toRight, Cond.static yX3_toRight, Cond.code yX3_toRight cX3_toRight 2 (some .long), Cond.constantLong RX3 236 (9187201950435737471), Cond.methodLink RX3 243 yX3_toLeft, Cond.static yX3_toLeft, Cond.code yX3_toLeft cX3_toLeft 2 (some .long), Cond.constantLong RX3 238 (-72340172838076674), Cond.methodLink RX3 48 yX3_forgetKinds, Cond.instanceMethod yX3_forgetKinds, Cond.selects RX3 yX3_forgetKinds yX3_forgetKinds, Cond.code yX3_forgetKinds cX3_forgetKinds 2 none]
def wsX3_init : List Cond := .code yX3_init cX3_init 1 none :: ((wsX3_init_r1 ++ (wsX3_init_r2 ++ wsX3_init_r3)) ++ wsX00 ++ wsX30 ++ wsX10 ++ wsX20)
def wsX3_board_r1 : List Cond := [Cond.fieldLink RX3 12 "LandBoard" "now" "LLandBoard$Grid;", Cond.fieldLink RX3 19 "LandBoard" "moves" "LLandBoard$Moves;", Cond.methodLink RX3 44 yX0_clear, Cond.instanceMethod yX0_clear, Cond.selects RX0 yX0_clear yX0_clear, Cond.initialized RX0, Cond.code yX0_clear cX0_clear 4 none, Cond.fieldLink RX0 15 "LandBoard$Grid" "width" "I", Cond.fieldLink RX0 19 "LandBoard$Grid" "height" "I", Cond.fieldLink RX0 22 "LandBoard$Grid" "all" "J", Cond.constantLong RX0 30 (-1), Cond.fieldLink RX0 32 "LandBoard$Grid" "edge" "J", Cond.fieldLink RX0 9 "LandBoard$Grid" "lands" "[J", Cond.static yX3_inside, Cond.initialized RX3, Cond.code yX3_inside cX3_inside 2 (some .long), Cond.methodLink RX3 240 yX3_toRight, Cond.static yX3_toRight, Cond.code yX3_toRight cX3_toRight 2 (some .long), Cond.constantLong RX3 236 (9187201950435737471), Cond.methodLink RX3 243 yX3_toLeft, Cond.static yX3_toLeft, Cond.code yX3_toLeft cX3_toLeft 2 (some .long), Cond.constantLong RX3 238 (-72340172838076674)]
def wsX3_board_r2 : List Cond := [Cond.methodLink RX3 48 yX3_forgetKinds, Cond.instanceMethod yX3_forgetKinds, Cond.selects RX3 yX3_forgetKinds yX3_forgetKinds, Cond.code yX3_forgetKinds cX3_forgetKinds 2 none, Cond.fieldLink RX3 34 "LandBoard" "kinds" "[I", Cond.fieldLink RX3 38 "LandBoard" "owns" "[I", Cond.methodLink RX3 51 yX1_forget, Cond.instanceMethod yX1_forget, Cond.selects RX1 yX1_forget yX1_forget, Cond.initialized RX1, Cond.code yX1_forget cX1_forget 1 none, Cond.fieldLink RX1 28 "LandBoard$Moves" "kept" "I"]
def wsX3_board : List Cond := .code yX3_board cX3_board 3 (some .int) :: ((wsX3_board_r1 ++ wsX3_board_r2) ++ wsX30 ++ wsX00 ++ wsX10)
def wsX3_isLandOrSea : List Cond := .code yX3_isLandOrSea cX3_isLandOrSea 1 (some .boolean) :: ([.methodLink RX3 73 yX3_isLand, .static yX3_isLand, .initialized RX3, .code yX3_isLand cX3_isLand 1 (some .boolean)])
def wsX3_cellAt : List Cond := .code yX3_cellAt cX3_cellAt 2 (some .int) :: ([])
def wsX3_set_r1 : List Cond := [Cond.fieldLink RX3 12 "LandBoard" "now" "LLandBoard$Grid;", Cond.fieldLink RX3 19 "LandBoard" "moves" "LLandBoard$Moves;", Cond.methodLink RX3 54 yX0_has, Cond.instanceMethod yX0_has, Cond.selects RX0 yX0_has yX0_has, Cond.initialized RX0, Cond.code yX0_has cX0_has 3 (some .boolean), Cond.fieldLink RX0 15 "LandBoard$Grid" "width" "I", Cond.fieldLink RX0 19 "LandBoard$Grid" "height" "I", Cond.methodLink RX3 58 yX3_isLandOrSea, Cond.static yX3_isLandOrSea, Cond.initialized RX3, Cond.code yX3_isLandOrSea cX3_isLandOrSea 1 (some .boolean), Cond.methodLink RX3 73 yX3_isLand, Cond.static yX3_isLand, Cond.code yX3_isLand cX3_isLand 1 (some .boolean), Cond.methodLink RX3 62 yX3_cellAt, Cond.static yX3_cellAt, Cond.code yX3_cellAt cX3_cellAt 2 (some .int), Cond.methodLink RX3 66 yX0_landOf, Cond.instanceMethod yX0_landOf, Cond.selects RX0 yX0_landOf yX0_landOf, Cond.code yX0_landOf cX0_landOf 3 (some .int), Cond.fieldLink RX0 9 "LandBoard$Grid" "lands" "[J"]
def wsX3_set_r2 : List Cond := [Cond.static yX3_bit, Cond.code yX3_bit cX3_bit 1 (some .long), Cond.methodLink RX3 70 yX0_put, Cond.instanceMethod yX0_put, Cond.selects RX0 yX0_put yX0_put, Cond.code yX0_put cX0_put 4 none, Cond.constantLong RX0 30 (-1), Cond.methodLink RX3 51 yX1_forget, Cond.instanceMethod yX1_forget, Cond.selects RX1 yX1_forget yX1_forget, Cond.initialized RX1, Cond.code yX1_forget cX1_forget 1 none, Cond.fieldLink RX1 28 "LandBoard$Moves" "kept" "I"]
def wsX3_set : List Cond := .code yX3_set cX3_set 5 (some .int) :: ((wsX3_set_r1 ++ wsX3_set_r2) ++ wsX30 ++ wsX00 ++ wsX10)
def wsX3_at : List Cond := .code yX3_at cX3_at 3 (some .int) :: ([.fieldLink RX3 12 "LandBoard" "now" "LLandBoard$Grid;", .methodLink RX3 54 yX0_has, .instanceMethod yX0_has, .selects RX0 yX0_has yX0_has, .initialized RX0, .code yX0_has cX0_has 3 (some .boolean), .fieldLink RX0 15 "LandBoard$Grid" "width" "I", .fieldLink RX0 19 "LandBoard$Grid" "height" "I", .methodLink RX3 62 yX3_cellAt, .static yX3_cellAt, .initialized RX3, .code yX3_cellAt cX3_cellAt 2 (some .int), .methodLink RX3 66 yX0_landOf, .instanceMethod yX0_landOf, .selects RX0 yX0_landOf yX0_landOf, .code yX0_landOf cX0_landOf 3 (some .int), .fieldLink RX0 9 "LandBoard$Grid" "lands" "[J", .static yX3_bit, .code yX3_bit cX3_bit 1 (some .long)] ++ wsX30 ++ wsX00)
def wsX3_size : List Cond := .code yX3_size cX3_size 2 (some .int) :: ([.fieldLink RX3 12 "LandBoard" "now" "LLandBoard$Grid;", .methodLink RX3 73 yX3_isLand, .static yX3_isLand, .initialized RX3, .code yX3_isLand cX3_isLand 1 (some .boolean), .methodLink RX3 76 yX0_sizeOf, .instanceMethod yX0_sizeOf, .selects RX0 yX0_sizeOf yX0_sizeOf, .initialized RX0, .code yX0_sizeOf cX0_sizeOf 2 (some .int), .methodLink RX0 43 yX0_cellsOf, .instanceMethod yX0_cellsOf, .selects RX0 yX0_cellsOf yX0_cellsOf, .code yX0_cellsOf cX0_cellsOf 2 (some .long), .fieldLink RX0 9 "LandBoard$Grid" "lands" "[J", .methodLink RX0 46 yJ13_bitCount_95d88, .static yJ13_bitCount_95d88, .initialized RJ13, .code yJ13_bitCount_95d88 cJ13_bitCount_95d88 2 (some .int), .constantLong RJ13 314 (6148914691236517205), .constantLong RJ13 316 (3689348814741910323), .constantLong RJ13 318 (1085102592571150095)] ++ wsX30 ++ wsX00)
def wsX3_isWhole : List Cond := .code yX3_isWhole cX3_isWhole 7 (some .boolean) :: ([.methodLink RX3 94 yX3_around, .static yX3_around, .initialized RX3, .code yX3_around cX3_around 2 (some .long), .methodLink RX3 240 yX3_toRight, .static yX3_toRight, .code yX3_toRight cX3_toRight 2 (some .long), .constantLong RX3 236 (9187201950435737471), .methodLink RX3 243 yX3_toLeft, .static yX3_toLeft, .code yX3_toLeft cX3_toLeft 2 (some .long), .constantLong RX3 238 (-72340172838076674)])
def wsX3_answer : List Cond := .code yX3_answer cX3_answer 1 (some .int) :: ([])
def wsX3_whole_r1 : List Cond := [Cond.fieldLink RX3 12 "LandBoard" "now" "LLandBoard$Grid;", Cond.methodLink RX3 73 yX3_isLand, Cond.static yX3_isLand, Cond.initialized RX3, Cond.code yX3_isLand cX3_isLand 1 (some .boolean), Cond.methodLink RX3 79 yX0_cellsOf, Cond.instanceMethod yX0_cellsOf, Cond.selects RX0 yX0_cellsOf yX0_cellsOf, Cond.initialized RX0, Cond.code yX0_cellsOf cX0_cellsOf 2 (some .long), Cond.fieldLink RX0 9 "LandBoard$Grid" "lands" "[J", Cond.methodLink RX3 83 yX3_isWhole, Cond.static yX3_isWhole, Cond.code yX3_isWhole cX3_isWhole 7 (some .boolean), Cond.methodLink RX3 94 yX3_around, Cond.static yX3_around, Cond.code yX3_around cX3_around 2 (some .long), Cond.methodLink RX3 240 yX3_toRight, Cond.static yX3_toRight, Cond.code yX3_toRight cX3_toRight 2 (some .long), Cond.constantLong RX3 236 (9187201950435737471), Cond.methodLink RX3 243 yX3_toLeft, Cond.static yX3_toLeft, Cond.code yX3_toLeft cX3_toLeft 2 (some .long)]
def wsX3_whole_r2 : List Cond := [Cond.constantLong RX3 238 (-72340172838076674), Cond.methodLink RX3 87 yX3_answer, Cond.static yX3_answer, Cond.code yX3_answer cX3_answer 1 (some .int)]
def wsX3_whole : List Cond := .code yX3_whole cX3_whole 2 (some .int) :: ((wsX3_whole_r1 ++ wsX3_whole_r2) ++ wsX30 ++ wsX00)
def wsX3_touch_r1 : List Cond := [Cond.fieldLink RX3 12 "LandBoard" "now" "LLandBoard$Grid;", Cond.methodLink RX3 58 yX3_isLandOrSea, Cond.static yX3_isLandOrSea, Cond.initialized RX3, Cond.code yX3_isLandOrSea cX3_isLandOrSea 1 (some .boolean), Cond.methodLink RX3 73 yX3_isLand, Cond.static yX3_isLand, Cond.code yX3_isLand cX3_isLand 1 (some .boolean), Cond.methodLink RX3 79 yX0_cellsOf, Cond.instanceMethod yX0_cellsOf, Cond.selects RX0 yX0_cellsOf yX0_cellsOf, Cond.initialized RX0, Cond.code yX0_cellsOf cX0_cellsOf 2 (some .long), Cond.fieldLink RX0 9 "LandBoard$Grid" "lands" "[J", Cond.methodLink RX3 91 yX0_isAtSea, Cond.instanceMethod yX0_isAtSea, Cond.selects RX0 yX0_isAtSea yX0_isAtSea, Cond.code yX0_isAtSea cX0_isAtSea 5 (some .boolean), Cond.fieldLink RX0 22 "LandBoard$Grid" "all" "J", Cond.constantLong RX0 30 (-1), Cond.fieldLink RX0 32 "LandBoard$Grid" "edge" "J", Cond.methodLink RX0 52 yX0_peopledCells, Cond.instanceMethod yX0_peopledCells, Cond.selects RX0 yX0_peopledCells yX0_peopledCells]
def wsX3_touch_r2 : List Cond := [Cond.code yX0_peopledCells cX0_peopledCells 4 (some .long), Cond.static yX3_around, Cond.code yX3_around cX3_around 2 (some .long), Cond.methodLink RX3 240 yX3_toRight, Cond.static yX3_toRight, Cond.code yX3_toRight cX3_toRight 2 (some .long), Cond.constantLong RX3 236 (9187201950435737471), Cond.methodLink RX3 243 yX3_toLeft, Cond.static yX3_toLeft, Cond.code yX3_toLeft cX3_toLeft 2 (some .long), Cond.constantLong RX3 238 (-72340172838076674), Cond.methodLink RX3 87 yX3_answer, Cond.static yX3_answer, Cond.code yX3_answer cX3_answer 1 (some .int), Cond.methodLink RX3 94 yX3_around]
def wsX3_touch : List Cond := .code yX3_touch cX3_touch 3 (some .int) :: ((wsX3_touch_r1 ++ wsX3_touch_r2) ++ wsX30 ++ wsX00)
def wsX3_kind : List Cond := .code yX3_kind cX3_kind 5 (some .int) :: ([.fieldLink RX3 12 "LandBoard" "now" "LLandBoard$Grid;", .fieldLink RX3 34 "LandBoard" "kinds" "[I", .fieldLink RX3 38 "LandBoard" "owns" "[I", .methodLink RX3 73 yX3_isLand, .static yX3_isLand, .initialized RX3, .code yX3_isLand cX3_isLand 1 (some .boolean), .methodLink RX3 54 yX0_has, .instanceMethod yX0_has, .selects RX0 yX0_has yX0_has, .initialized RX0, .code yX0_has cX0_has 3 (some .boolean), .fieldLink RX0 15 "LandBoard$Grid" "width" "I", .fieldLink RX0 19 "LandBoard$Grid" "height" "I", .methodLink RX3 62 yX3_cellAt, .static yX3_cellAt, .code yX3_cellAt cX3_cellAt 2 (some .int), .methodLink RX3 66 yX0_landOf, .instanceMethod yX0_landOf, .selects RX0 yX0_landOf yX0_landOf, .code yX0_landOf cX0_landOf 3 (some .int), .fieldLink RX0 9 "LandBoard$Grid" "lands" "[J", .static yX3_bit, .code yX3_bit cX3_bit 1 (some .long)] ++ wsX30 ++ wsX00)
def wsX3_columnOf : List Cond := .code yX3_columnOf cX3_columnOf 1 (some .int) :: ([])
def wsX3_rowOf : List Cond := .code yX3_rowOf cX3_rowOf 1 (some .int) :: ([])
def wsX3_about : List Cond := .code yX3_about cX3_about 3 (some .int) :: ([.fieldLink RX3 34 "LandBoard" "kinds" "[I", .fieldLink RX3 38 "LandBoard" "owns" "[I", .fieldLink RX3 41 "LandBoard" "wants" "[I", .methodLink RX3 73 yX3_isLand, .static yX3_isLand, .initialized RX3, .code yX3_isLand cX3_isLand 1 (some .boolean), .methodLink RX3 98 yX3_columnOf, .static yX3_columnOf, .code yX3_columnOf cX3_columnOf 1 (some .int), .methodLink RX3 101 yX3_rowOf, .static yX3_rowOf, .code yX3_rowOf cX3_rowOf 1 (some .int)] ++ wsX30)
def wsX3_bodiesAsked : List Cond := .code yX3_bodiesAsked cX3_bodiesAsked 1 (some .int) :: ([])
def wsX3_letsGo_r1 : List Cond := [Cond.fieldLink RX3 12 "LandBoard" "now" "LLandBoard$Grid;", Cond.constantLong RX3 215 (-1), Cond.fieldLink RX3 38 "LandBoard" "owns" "[I", Cond.fieldLink RX3 34 "LandBoard" "kinds" "[I", Cond.methodLink RX3 73 yX3_isLand, Cond.static yX3_isLand, Cond.initialized RX3, Cond.code yX3_isLand cX3_isLand 1 (some .boolean), Cond.methodLink RX3 79 yX0_cellsOf, Cond.instanceMethod yX0_cellsOf, Cond.selects RX0 yX0_cellsOf yX0_cellsOf, Cond.initialized RX0, Cond.code yX0_cellsOf cX0_cellsOf 2 (some .long), Cond.fieldLink RX0 9 "LandBoard$Grid" "lands" "[J", Cond.methodLink RX3 212 yX3_bit, Cond.static yX3_bit, Cond.code yX3_bit cX3_bit 1 (some .long), Cond.methodLink RX3 83 yX3_isWhole, Cond.static yX3_isWhole, Cond.code yX3_isWhole cX3_isWhole 7 (some .boolean), Cond.methodLink RX3 94 yX3_around, Cond.static yX3_around, Cond.code yX3_around cX3_around 2 (some .long), Cond.methodLink RX3 240 yX3_toRight]
def wsX3_letsGo_r2 : List Cond := [Cond.static yX3_toRight, Cond.code yX3_toRight cX3_toRight 2 (some .long), Cond.constantLong RX3 236 (9187201950435737471), Cond.methodLink RX3 243 yX3_toLeft, Cond.static yX3_toLeft, Cond.code yX3_toLeft cX3_toLeft 2 (some .long), Cond.constantLong RX3 238 (-72340172838076674), Cond.methodLink RX3 91 yX0_isAtSea, Cond.instanceMethod yX0_isAtSea, Cond.selects RX0 yX0_isAtSea yX0_isAtSea, Cond.code yX0_isAtSea cX0_isAtSea 5 (some .boolean), Cond.fieldLink RX0 22 "LandBoard$Grid" "all" "J", Cond.constantLong RX0 30 (-1), Cond.fieldLink RX0 32 "LandBoard$Grid" "edge" "J", Cond.methodLink RX0 52 yX0_peopledCells, Cond.instanceMethod yX0_peopledCells, Cond.selects RX0 yX0_peopledCells yX0_peopledCells, Cond.code yX0_peopledCells cX0_peopledCells 4 (some .long)]
def wsX3_letsGo : List Cond := .code yX3_letsGo cX3_letsGo 8 (some .boolean) :: ((wsX3_letsGo_r1 ++ wsX3_letsGo_r2) ++ wsX30 ++ wsX00)
def wsX3_leaves_r1 : List Cond := [Cond.fieldLink RX3 107 "LandBoard" "asked" "J", Cond.fieldLink RX3 34 "LandBoard" "kinds" "[I", Cond.methodLink RX3 104 yX3_at, Cond.instanceMethod yX3_at, Cond.selects RX3 yX3_at yX3_at, Cond.initialized RX3, Cond.code yX3_at cX3_at 3 (some .int), Cond.fieldLink RX3 12 "LandBoard" "now" "LLandBoard$Grid;", Cond.methodLink RX3 54 yX0_has, Cond.instanceMethod yX0_has, Cond.selects RX0 yX0_has yX0_has, Cond.initialized RX0, Cond.code yX0_has cX0_has 3 (some .boolean), Cond.fieldLink RX0 15 "LandBoard$Grid" "width" "I", Cond.fieldLink RX0 19 "LandBoard$Grid" "height" "I", Cond.methodLink RX3 62 yX3_cellAt, Cond.static yX3_cellAt, Cond.code yX3_cellAt cX3_cellAt 2 (some .int), Cond.methodLink RX3 66 yX0_landOf, Cond.instanceMethod yX0_landOf, Cond.selects RX0 yX0_landOf yX0_landOf, Cond.code yX0_landOf cX0_landOf 3 (some .int), Cond.fieldLink RX0 9 "LandBoard$Grid" "lands" "[J", Cond.static yX3_bit]
def wsX3_leaves_r2 : List Cond := [Cond.code yX3_bit cX3_bit 1 (some .long), Cond.methodLink RX3 73 yX3_isLand, Cond.static yX3_isLand, Cond.code yX3_isLand cX3_isLand 1 (some .boolean), Cond.methodLink RX3 111 yX3_bodiesAsked, Cond.static yX3_bodiesAsked, Cond.code yX3_bodiesAsked cX3_bodiesAsked 1 (some .int), Cond.methodLink RX3 114 yX3_letsGo, Cond.instanceMethod yX3_letsGo, Cond.selects RX3 yX3_letsGo yX3_letsGo, Cond.code yX3_letsGo cX3_letsGo 8 (some .boolean), Cond.constantLong RX3 215 (-1), Cond.fieldLink RX3 38 "LandBoard" "owns" "[I", Cond.methodLink RX3 79 yX0_cellsOf, Cond.instanceMethod yX0_cellsOf, Cond.selects RX0 yX0_cellsOf yX0_cellsOf, Cond.code yX0_cellsOf cX0_cellsOf 2 (some .long), Cond.methodLink RX3 212 yX3_bit, Cond.methodLink RX3 83 yX3_isWhole, Cond.static yX3_isWhole, Cond.code yX3_isWhole cX3_isWhole 7 (some .boolean), Cond.methodLink RX3 94 yX3_around, Cond.static yX3_around, Cond.code yX3_around cX3_around 2 (some .long)]
def wsX3_leaves_r3 : List Cond := [Cond.methodLink RX3 240 yX3_toRight, Cond.static yX3_toRight, Cond.code yX3_toRight cX3_toRight 2 (some .long), Cond.constantLong RX3 236 (9187201950435737471), Cond.methodLink RX3 243 yX3_toLeft, Cond.static yX3_toLeft, Cond.code yX3_toLeft cX3_toLeft 2 (some .long), Cond.constantLong RX3 238 (-72340172838076674), Cond.methodLink RX3 91 yX0_isAtSea, Cond.instanceMethod yX0_isAtSea, Cond.selects RX0 yX0_isAtSea yX0_isAtSea, Cond.code yX0_isAtSea cX0_isAtSea 5 (some .boolean), Cond.fieldLink RX0 22 "LandBoard$Grid" "all" "J", Cond.constantLong RX0 30 (-1), Cond.fieldLink RX0 32 "LandBoard$Grid" "edge" "J", Cond.methodLink RX0 52 yX0_peopledCells, Cond.instanceMethod yX0_peopledCells, Cond.selects RX0 yX0_peopledCells yX0_peopledCells, Cond.code yX0_peopledCells cX0_peopledCells 4 (some .long), Cond.methodLink RX3 87 yX3_answer, Cond.static yX3_answer, Cond.code yX3_answer cX3_answer 1 (some .int)]
def wsX3_leaves : List Cond := .code yX3_leaves cX3_leaves 4 (some .int) :: ((wsX3_leaves_r1 ++ (wsX3_leaves_r2 ++ wsX3_leaves_r3)) ++ wsX30 ++ wsX00)
def wsX3_canGo_r1 : List Cond := [Cond.fieldLink RX3 12 "LandBoard" "now" "LLandBoard$Grid;", Cond.methodLink RX3 66 yX0_landOf, Cond.instanceMethod yX0_landOf, Cond.selects RX0 yX0_landOf yX0_landOf, Cond.initialized RX0, Cond.code yX0_landOf cX0_landOf 3 (some .int), Cond.fieldLink RX0 9 "LandBoard$Grid" "lands" "[J", Cond.static yX3_bit, Cond.initialized RX3, Cond.code yX3_bit cX3_bit 1 (some .long), Cond.methodLink RX3 212 yX3_bit, Cond.methodLink RX3 94 yX3_around, Cond.static yX3_around, Cond.code yX3_around cX3_around 2 (some .long), Cond.methodLink RX3 240 yX3_toRight, Cond.static yX3_toRight, Cond.code yX3_toRight cX3_toRight 2 (some .long), Cond.constantLong RX3 236 (9187201950435737471), Cond.methodLink RX3 243 yX3_toLeft, Cond.static yX3_toLeft, Cond.code yX3_toLeft cX3_toLeft 2 (some .long), Cond.constantLong RX3 238 (-72340172838076674), Cond.methodLink RX3 79 yX0_cellsOf, Cond.instanceMethod yX0_cellsOf]
def wsX3_canGo_r2 : List Cond := [Cond.selects RX0 yX0_cellsOf yX0_cellsOf, Cond.code yX0_cellsOf cX0_cellsOf 2 (some .long), Cond.static yX3_isLand, Cond.code yX3_isLand cX3_isLand 1 (some .boolean), Cond.methodLink RX3 114 yX3_letsGo, Cond.instanceMethod yX3_letsGo, Cond.selects RX3 yX3_letsGo yX3_letsGo, Cond.code yX3_letsGo cX3_letsGo 8 (some .boolean), Cond.constantLong RX3 215 (-1), Cond.fieldLink RX3 38 "LandBoard" "owns" "[I", Cond.fieldLink RX3 34 "LandBoard" "kinds" "[I", Cond.methodLink RX3 73 yX3_isLand, Cond.methodLink RX3 83 yX3_isWhole, Cond.static yX3_isWhole, Cond.code yX3_isWhole cX3_isWhole 7 (some .boolean), Cond.methodLink RX3 91 yX0_isAtSea, Cond.instanceMethod yX0_isAtSea, Cond.selects RX0 yX0_isAtSea yX0_isAtSea, Cond.code yX0_isAtSea cX0_isAtSea 5 (some .boolean), Cond.fieldLink RX0 22 "LandBoard$Grid" "all" "J", Cond.constantLong RX0 30 (-1), Cond.fieldLink RX0 32 "LandBoard$Grid" "edge" "J", Cond.methodLink RX0 52 yX0_peopledCells, Cond.instanceMethod yX0_peopledCells]
def wsX3_canGo_r3 : List Cond := [Cond.selects RX0 yX0_peopledCells yX0_peopledCells, Cond.code yX0_peopledCells cX0_peopledCells 4 (some .long), Cond.methodLink RX3 217 yX0_touching, Cond.instanceMethod yX0_touching, Cond.selects RX0 yX0_touching yX0_touching, Cond.code yX0_touching cX0_touching 7 (some .long), Cond.methodLink RX0 59 yX0_isAtSea, Cond.methodLink RX3 70 yX0_put, Cond.instanceMethod yX0_put, Cond.selects RX0 yX0_put yX0_put, Cond.code yX0_put cX0_put 4 none]
def wsX3_canGo : List Cond := .code yX3_canGo cX3_canGo 8 (some .boolean) :: ((wsX3_canGo_r1 ++ (wsX3_canGo_r2 ++ wsX3_canGo_r3)) ++ wsX30 ++ wsX00)
def wsX3_may_r1 : List Cond := [Cond.fieldLink RX3 12 "LandBoard" "now" "LLandBoard$Grid;", Cond.methodLink RX3 54 yX0_has, Cond.instanceMethod yX0_has, Cond.selects RX0 yX0_has yX0_has, Cond.initialized RX0, Cond.code yX0_has cX0_has 3 (some .boolean), Cond.fieldLink RX0 15 "LandBoard$Grid" "width" "I", Cond.fieldLink RX0 19 "LandBoard$Grid" "height" "I", Cond.methodLink RX3 73 yX3_isLand, Cond.static yX3_isLand, Cond.initialized RX3, Cond.code yX3_isLand cX3_isLand 1 (some .boolean), Cond.methodLink RX3 62 yX3_cellAt, Cond.static yX3_cellAt, Cond.code yX3_cellAt cX3_cellAt 2 (some .int), Cond.methodLink RX3 117 yX3_canGo, Cond.instanceMethod yX3_canGo, Cond.selects RX3 yX3_canGo yX3_canGo, Cond.code yX3_canGo cX3_canGo 8 (some .boolean), Cond.methodLink RX3 66 yX0_landOf, Cond.instanceMethod yX0_landOf, Cond.selects RX0 yX0_landOf yX0_landOf, Cond.code yX0_landOf cX0_landOf 3 (some .int), Cond.fieldLink RX0 9 "LandBoard$Grid" "lands" "[J"]
def wsX3_may_r2 : List Cond := [Cond.static yX3_bit, Cond.code yX3_bit cX3_bit 1 (some .long), Cond.methodLink RX3 212 yX3_bit, Cond.methodLink RX3 94 yX3_around, Cond.static yX3_around, Cond.code yX3_around cX3_around 2 (some .long), Cond.methodLink RX3 240 yX3_toRight, Cond.static yX3_toRight, Cond.code yX3_toRight cX3_toRight 2 (some .long), Cond.constantLong RX3 236 (9187201950435737471), Cond.methodLink RX3 243 yX3_toLeft, Cond.static yX3_toLeft, Cond.code yX3_toLeft cX3_toLeft 2 (some .long), Cond.constantLong RX3 238 (-72340172838076674), Cond.methodLink RX3 79 yX0_cellsOf, Cond.instanceMethod yX0_cellsOf, Cond.selects RX0 yX0_cellsOf yX0_cellsOf, Cond.code yX0_cellsOf cX0_cellsOf 2 (some .long), Cond.methodLink RX3 114 yX3_letsGo, Cond.instanceMethod yX3_letsGo, Cond.selects RX3 yX3_letsGo yX3_letsGo, Cond.code yX3_letsGo cX3_letsGo 8 (some .boolean), Cond.constantLong RX3 215 (-1), Cond.fieldLink RX3 38 "LandBoard" "owns" "[I"]
def wsX3_may_r3 : List Cond := [Cond.fieldLink RX3 34 "LandBoard" "kinds" "[I", Cond.methodLink RX3 83 yX3_isWhole, Cond.static yX3_isWhole, Cond.code yX3_isWhole cX3_isWhole 7 (some .boolean), Cond.methodLink RX3 91 yX0_isAtSea, Cond.instanceMethod yX0_isAtSea, Cond.selects RX0 yX0_isAtSea yX0_isAtSea, Cond.code yX0_isAtSea cX0_isAtSea 5 (some .boolean), Cond.fieldLink RX0 22 "LandBoard$Grid" "all" "J", Cond.constantLong RX0 30 (-1), Cond.fieldLink RX0 32 "LandBoard$Grid" "edge" "J", Cond.methodLink RX0 52 yX0_peopledCells, Cond.instanceMethod yX0_peopledCells, Cond.selects RX0 yX0_peopledCells yX0_peopledCells, Cond.code yX0_peopledCells cX0_peopledCells 4 (some .long), Cond.methodLink RX3 217 yX0_touching, Cond.instanceMethod yX0_touching, Cond.selects RX0 yX0_touching yX0_touching, Cond.code yX0_touching cX0_touching 7 (some .long), Cond.methodLink RX0 59 yX0_isAtSea, Cond.methodLink RX3 70 yX0_put, Cond.instanceMethod yX0_put, Cond.selects RX0 yX0_put yX0_put, Cond.code yX0_put cX0_put 4 none]
def wsX3_may_r4 : List Cond := [Cond.methodLink RX3 87 yX3_answer, Cond.static yX3_answer, Cond.code yX3_answer cX3_answer 1 (some .int)]
def wsX3_may : List Cond := .code yX3_may cX3_may 4 (some .int) :: ((wsX3_may_r1 ++ (wsX3_may_r2 ++ (wsX3_may_r3 ++ wsX3_may_r4))) ++ wsX30 ++ wsX00)
def wsX3_go_r1 : List Cond := [Cond.fieldLink RX3 19 "LandBoard" "moves" "LLandBoard$Moves;", Cond.fieldLink RX3 12 "LandBoard" "now" "LLandBoard$Grid;", Cond.methodLink RX3 66 yX0_landOf, Cond.instanceMethod yX0_landOf, Cond.selects RX0 yX0_landOf yX0_landOf, Cond.initialized RX0, Cond.code yX0_landOf cX0_landOf 3 (some .int), Cond.fieldLink RX0 9 "LandBoard$Grid" "lands" "[J", Cond.static yX3_bit, Cond.initialized RX3, Cond.code yX3_bit cX3_bit 1 (some .long), Cond.methodLink RX3 221 yX1_add, Cond.instanceMethod yX1_add, Cond.selects RX1 yX1_add yX1_add, Cond.initialized RX1, Cond.code yX1_add cX1_add 4 none, Cond.fieldLink RX1 18 "LandBoard$Moves" "top" "I", Cond.fieldLink RX1 9 "LandBoard$Moves" "cells" "[I", Cond.fieldLink RX1 15 "LandBoard$Moves" "froms" "[I", Cond.fieldLink RX1 28 "LandBoard$Moves" "kept" "I", Cond.methodLink RX1 31 Lib.Math.min.name, Cond.static Lib.Math.min.name, Cond.initialized "java/lang/Math", Cond.code Lib.Math.min.name Lib.Math.min.code 2 (some .int)]
def wsX3_go_r2 : List Cond := [Cond.fieldLink RX1 34 "LandBoard$Moves" "done" "I", Cond.methodLink RX1 22 yJ9_floorMod_7cf53, Cond.static yJ9_floorMod_7cf53, Cond.initialized RJ9, Cond.code yJ9_floorMod_7cf53 cJ9_floorMod_7cf53 3 (some .int), Cond.methodLink RX3 70 yX0_put, Cond.instanceMethod yX0_put, Cond.selects RX0 yX0_put yX0_put, Cond.code yX0_put cX0_put 4 none, Cond.constantLong RX0 30 (-1)]
def wsX3_go : List Cond := .code yX3_go cX3_go 3 none :: ((wsX3_go_r1 ++ wsX3_go_r2) ++ wsX30 ++ wsX00 ++ wsX10)
def wsX3_move_r1 : List Cond := [Cond.fieldLink RX3 12 "LandBoard" "now" "LLandBoard$Grid;", Cond.methodLink RX3 54 yX0_has, Cond.instanceMethod yX0_has, Cond.selects RX0 yX0_has yX0_has, Cond.initialized RX0, Cond.code yX0_has cX0_has 3 (some .boolean), Cond.fieldLink RX0 15 "LandBoard$Grid" "width" "I", Cond.fieldLink RX0 19 "LandBoard$Grid" "height" "I", Cond.methodLink RX3 73 yX3_isLand, Cond.static yX3_isLand, Cond.initialized RX3, Cond.code yX3_isLand cX3_isLand 1 (some .boolean), Cond.methodLink RX3 62 yX3_cellAt, Cond.static yX3_cellAt, Cond.code yX3_cellAt cX3_cellAt 2 (some .int), Cond.methodLink RX3 117 yX3_canGo, Cond.instanceMethod yX3_canGo, Cond.selects RX3 yX3_canGo yX3_canGo, Cond.code yX3_canGo cX3_canGo 8 (some .boolean), Cond.methodLink RX3 66 yX0_landOf, Cond.instanceMethod yX0_landOf, Cond.selects RX0 yX0_landOf yX0_landOf, Cond.code yX0_landOf cX0_landOf 3 (some .int), Cond.fieldLink RX0 9 "LandBoard$Grid" "lands" "[J"]
def wsX3_move_r2 : List Cond := [Cond.static yX3_bit, Cond.code yX3_bit cX3_bit 1 (some .long), Cond.methodLink RX3 212 yX3_bit, Cond.methodLink RX3 94 yX3_around, Cond.static yX3_around, Cond.code yX3_around cX3_around 2 (some .long), Cond.methodLink RX3 240 yX3_toRight, Cond.static yX3_toRight, Cond.code yX3_toRight cX3_toRight 2 (some .long), Cond.constantLong RX3 236 (9187201950435737471), Cond.methodLink RX3 243 yX3_toLeft, Cond.static yX3_toLeft, Cond.code yX3_toLeft cX3_toLeft 2 (some .long), Cond.constantLong RX3 238 (-72340172838076674), Cond.methodLink RX3 79 yX0_cellsOf, Cond.instanceMethod yX0_cellsOf, Cond.selects RX0 yX0_cellsOf yX0_cellsOf, Cond.code yX0_cellsOf cX0_cellsOf 2 (some .long), Cond.methodLink RX3 114 yX3_letsGo, Cond.instanceMethod yX3_letsGo, Cond.selects RX3 yX3_letsGo yX3_letsGo, Cond.code yX3_letsGo cX3_letsGo 8 (some .boolean), Cond.constantLong RX3 215 (-1), Cond.fieldLink RX3 38 "LandBoard" "owns" "[I"]
def wsX3_move_r3 : List Cond := [Cond.fieldLink RX3 34 "LandBoard" "kinds" "[I", Cond.methodLink RX3 83 yX3_isWhole, Cond.static yX3_isWhole, Cond.code yX3_isWhole cX3_isWhole 7 (some .boolean), Cond.methodLink RX3 91 yX0_isAtSea, Cond.instanceMethod yX0_isAtSea, Cond.selects RX0 yX0_isAtSea yX0_isAtSea, Cond.code yX0_isAtSea cX0_isAtSea 5 (some .boolean), Cond.fieldLink RX0 22 "LandBoard$Grid" "all" "J", Cond.constantLong RX0 30 (-1), Cond.fieldLink RX0 32 "LandBoard$Grid" "edge" "J", Cond.methodLink RX0 52 yX0_peopledCells, Cond.instanceMethod yX0_peopledCells, Cond.selects RX0 yX0_peopledCells yX0_peopledCells, Cond.code yX0_peopledCells cX0_peopledCells 4 (some .long), Cond.methodLink RX3 217 yX0_touching, Cond.instanceMethod yX0_touching, Cond.selects RX0 yX0_touching yX0_touching, Cond.code yX0_touching cX0_touching 7 (some .long), Cond.methodLink RX0 59 yX0_isAtSea, Cond.methodLink RX3 70 yX0_put, Cond.instanceMethod yX0_put, Cond.selects RX0 yX0_put yX0_put, Cond.code yX0_put cX0_put 4 none]
def wsX3_move_r4 : List Cond := [Cond.methodLink RX3 120 yX3_go, Cond.instanceMethod yX3_go, Cond.selects RX3 yX3_go yX3_go, Cond.code yX3_go cX3_go 3 none, Cond.fieldLink RX3 19 "LandBoard" "moves" "LLandBoard$Moves;", Cond.methodLink RX3 221 yX1_add, Cond.instanceMethod yX1_add, Cond.selects RX1 yX1_add yX1_add, Cond.initialized RX1, Cond.code yX1_add cX1_add 4 none, Cond.fieldLink RX1 18 "LandBoard$Moves" "top" "I", Cond.fieldLink RX1 9 "LandBoard$Moves" "cells" "[I", Cond.fieldLink RX1 15 "LandBoard$Moves" "froms" "[I", Cond.fieldLink RX1 28 "LandBoard$Moves" "kept" "I", Cond.methodLink RX1 31 Lib.Math.min.name, Cond.static Lib.Math.min.name, Cond.initialized "java/lang/Math", Cond.code Lib.Math.min.name Lib.Math.min.code 2 (some .int), Cond.fieldLink RX1 34 "LandBoard$Moves" "done" "I", Cond.methodLink RX1 22 yJ9_floorMod_7cf53, Cond.static yJ9_floorMod_7cf53, Cond.initialized RJ9, Cond.code yJ9_floorMod_7cf53 cJ9_floorMod_7cf53 3 (some .int)]
def wsX3_move : List Cond := .code yX3_move cX3_move 5 (some .int) :: ((wsX3_move_r1 ++ (wsX3_move_r2 ++ (wsX3_move_r3 ++ wsX3_move_r4))) ++ wsX30 ++ wsX00 ++ wsX10)
def wsX3_want : List Cond := .code yX3_want cX3_want 4 (some .int) :: ([.fieldLink RX3 41 "LandBoard" "wants" "[I", .methodLink RX3 73 yX3_isLand, .static yX3_isLand, .initialized RX3, .code yX3_isLand cX3_isLand 1 (some .boolean)] ++ wsX30)
def wsX3_missWith : List Cond := .code yX3_missWith cX3_missWith 3 (some .int) :: ([.fieldLink RX3 41 "LandBoard" "wants" "[I", .methodLink RX3 224 Lib.Math.abs.name, .static Lib.Math.abs.name, .initialized "java/lang/Math", .code Lib.Math.abs.name Lib.Math.abs.code 1 (some .int), .methodLink RX3 73 yX3_isLand, .static yX3_isLand, .initialized RX3, .code yX3_isLand cX3_isLand 1 (some .boolean)] ++ wsX30)
def wsX3_miss_r1 : List Cond := [Cond.fieldLink RX3 12 "LandBoard" "now" "LLandBoard$Grid;", Cond.methodLink RX3 76 yX0_sizeOf, Cond.instanceMethod yX0_sizeOf, Cond.selects RX0 yX0_sizeOf yX0_sizeOf, Cond.initialized RX0, Cond.code yX0_sizeOf cX0_sizeOf 2 (some .int), Cond.methodLink RX0 43 yX0_cellsOf, Cond.instanceMethod yX0_cellsOf, Cond.selects RX0 yX0_cellsOf yX0_cellsOf, Cond.code yX0_cellsOf cX0_cellsOf 2 (some .long), Cond.fieldLink RX0 9 "LandBoard$Grid" "lands" "[J", Cond.static yX3_isLand, Cond.initialized RX3, Cond.code yX3_isLand cX3_isLand 1 (some .boolean), Cond.methodLink RX0 46 yJ13_bitCount_95d88, Cond.static yJ13_bitCount_95d88, Cond.initialized RJ13, Cond.code yJ13_bitCount_95d88 cJ13_bitCount_95d88 2 (some .int), Cond.constantLong RJ13 314 (6148914691236517205), Cond.constantLong RJ13 316 (3689348814741910323), Cond.constantLong RJ13 318 (1085102592571150095), Cond.methodLink RX3 123 yX3_missWith, Cond.instanceMethod yX3_missWith, Cond.selects RX3 yX3_missWith yX3_missWith]
def wsX3_miss_r2 : List Cond := [Cond.code yX3_missWith cX3_missWith 3 (some .int), Cond.fieldLink RX3 41 "LandBoard" "wants" "[I", Cond.methodLink RX3 224 Lib.Math.abs.name, Cond.static Lib.Math.abs.name, Cond.initialized "java/lang/Math", Cond.code Lib.Math.abs.name Lib.Math.abs.code 1 (some .int), Cond.methodLink RX3 73 yX3_isLand]
def wsX3_miss : List Cond := .code yX3_miss cX3_miss 3 (some .int) :: ((wsX3_miss_r1 ++ wsX3_miss_r2) ++ wsX30 ++ wsX00)
def wsX3_missBehind_r1 : List Cond := [Cond.fieldLink RX3 12 "LandBoard" "now" "LLandBoard$Grid;", Cond.methodLink RX3 76 yX0_sizeOf, Cond.instanceMethod yX0_sizeOf, Cond.selects RX0 yX0_sizeOf yX0_sizeOf, Cond.initialized RX0, Cond.code yX0_sizeOf cX0_sizeOf 2 (some .int), Cond.methodLink RX0 43 yX0_cellsOf, Cond.instanceMethod yX0_cellsOf, Cond.selects RX0 yX0_cellsOf yX0_cellsOf, Cond.code yX0_cellsOf cX0_cellsOf 2 (some .long), Cond.fieldLink RX0 9 "LandBoard$Grid" "lands" "[J", Cond.static yX3_isLand, Cond.initialized RX3, Cond.code yX3_isLand cX3_isLand 1 (some .boolean), Cond.methodLink RX0 46 yJ13_bitCount_95d88, Cond.static yJ13_bitCount_95d88, Cond.initialized RJ13, Cond.code yJ13_bitCount_95d88 cJ13_bitCount_95d88 2 (some .int), Cond.constantLong RJ13 314 (6148914691236517205), Cond.constantLong RJ13 316 (3689348814741910323), Cond.constantLong RJ13 318 (1085102592571150095), Cond.methodLink RX3 123 yX3_missWith, Cond.instanceMethod yX3_missWith, Cond.selects RX3 yX3_missWith yX3_missWith]
def wsX3_missBehind_r2 : List Cond := [Cond.code yX3_missWith cX3_missWith 3 (some .int), Cond.fieldLink RX3 41 "LandBoard" "wants" "[I", Cond.methodLink RX3 224 Lib.Math.abs.name, Cond.static Lib.Math.abs.name, Cond.initialized "java/lang/Math", Cond.code Lib.Math.abs.name Lib.Math.abs.code 1 (some .int), Cond.methodLink RX3 73 yX3_isLand]
def wsX3_missBehind : List Cond := .code yX3_missBehind cX3_missBehind 6 (some .int) :: ((wsX3_missBehind_r1 ++ wsX3_missBehind_r2) ++ wsX30 ++ wsX00)
def wsX3_step_r1 : List Cond := [Cond.fieldLink RX3 12 "LandBoard" "now" "LLandBoard$Grid;", Cond.methodLink RX3 229 yX3_miss, Cond.instanceMethod yX3_miss, Cond.selects RX3 yX3_miss yX3_miss, Cond.initialized RX3, Cond.code yX3_miss cX3_miss 3 (some .int), Cond.methodLink RX3 76 yX0_sizeOf, Cond.instanceMethod yX0_sizeOf, Cond.selects RX0 yX0_sizeOf yX0_sizeOf, Cond.initialized RX0, Cond.code yX0_sizeOf cX0_sizeOf 2 (some .int), Cond.methodLink RX0 43 yX0_cellsOf, Cond.instanceMethod yX0_cellsOf, Cond.selects RX0 yX0_cellsOf yX0_cellsOf, Cond.code yX0_cellsOf cX0_cellsOf 2 (some .long), Cond.fieldLink RX0 9 "LandBoard$Grid" "lands" "[J", Cond.static yX3_isLand, Cond.code yX3_isLand cX3_isLand 1 (some .boolean), Cond.methodLink RX0 46 yJ13_bitCount_95d88, Cond.static yJ13_bitCount_95d88, Cond.initialized RJ13, Cond.code yJ13_bitCount_95d88 cJ13_bitCount_95d88 2 (some .int), Cond.constantLong RJ13 314 (6148914691236517205), Cond.constantLong RJ13 316 (3689348814741910323)]
def wsX3_step_r2 : List Cond := [Cond.constantLong RJ13 318 (1085102592571150095), Cond.methodLink RX3 123 yX3_missWith, Cond.instanceMethod yX3_missWith, Cond.selects RX3 yX3_missWith yX3_missWith, Cond.code yX3_missWith cX3_missWith 3 (some .int), Cond.fieldLink RX3 41 "LandBoard" "wants" "[I", Cond.methodLink RX3 224 Lib.Math.abs.name, Cond.static Lib.Math.abs.name, Cond.initialized "java/lang/Math", Cond.code Lib.Math.abs.name Lib.Math.abs.code 1 (some .int), Cond.methodLink RX3 73 yX3_isLand, Cond.methodLink RX3 66 yX0_landOf, Cond.instanceMethod yX0_landOf, Cond.selects RX0 yX0_landOf yX0_landOf, Cond.code yX0_landOf cX0_landOf 3 (some .int), Cond.static yX3_bit, Cond.code yX3_bit cX3_bit 1 (some .long), Cond.methodLink RX3 232 yX3_missBehind, Cond.instanceMethod yX3_missBehind, Cond.selects RX3 yX3_missBehind yX3_missBehind, Cond.code yX3_missBehind cX3_missBehind 6 (some .int), Cond.methodLink RX3 117 yX3_canGo, Cond.instanceMethod yX3_canGo, Cond.selects RX3 yX3_canGo yX3_canGo]
def wsX3_step_r3 : List Cond := [Cond.code yX3_canGo cX3_canGo 8 (some .boolean), Cond.methodLink RX3 212 yX3_bit, Cond.methodLink RX3 94 yX3_around, Cond.static yX3_around, Cond.code yX3_around cX3_around 2 (some .long), Cond.methodLink RX3 240 yX3_toRight, Cond.static yX3_toRight, Cond.code yX3_toRight cX3_toRight 2 (some .long), Cond.constantLong RX3 236 (9187201950435737471), Cond.methodLink RX3 243 yX3_toLeft, Cond.static yX3_toLeft, Cond.code yX3_toLeft cX3_toLeft 2 (some .long), Cond.constantLong RX3 238 (-72340172838076674), Cond.methodLink RX3 79 yX0_cellsOf, Cond.methodLink RX3 114 yX3_letsGo, Cond.instanceMethod yX3_letsGo, Cond.selects RX3 yX3_letsGo yX3_letsGo, Cond.code yX3_letsGo cX3_letsGo 8 (some .boolean), Cond.constantLong RX3 215 (-1), Cond.fieldLink RX3 38 "LandBoard" "owns" "[I", Cond.fieldLink RX3 34 "LandBoard" "kinds" "[I", Cond.methodLink RX3 83 yX3_isWhole, Cond.static yX3_isWhole, Cond.code yX3_isWhole cX3_isWhole 7 (some .boolean)]
def wsX3_step_r4 : List Cond := [Cond.methodLink RX3 91 yX0_isAtSea, Cond.instanceMethod yX0_isAtSea, Cond.selects RX0 yX0_isAtSea yX0_isAtSea, Cond.code yX0_isAtSea cX0_isAtSea 5 (some .boolean), Cond.fieldLink RX0 22 "LandBoard$Grid" "all" "J", Cond.constantLong RX0 30 (-1), Cond.fieldLink RX0 32 "LandBoard$Grid" "edge" "J", Cond.methodLink RX0 52 yX0_peopledCells, Cond.instanceMethod yX0_peopledCells, Cond.selects RX0 yX0_peopledCells yX0_peopledCells, Cond.code yX0_peopledCells cX0_peopledCells 4 (some .long), Cond.methodLink RX3 217 yX0_touching, Cond.instanceMethod yX0_touching, Cond.selects RX0 yX0_touching yX0_touching, Cond.code yX0_touching cX0_touching 7 (some .long), Cond.methodLink RX0 59 yX0_isAtSea, Cond.methodLink RX3 70 yX0_put, Cond.instanceMethod yX0_put, Cond.selects RX0 yX0_put yX0_put, Cond.code yX0_put cX0_put 4 none, Cond.methodLink RX3 120 yX3_go, Cond.instanceMethod yX3_go, Cond.selects RX3 yX3_go yX3_go, Cond.code yX3_go cX3_go 3 none]
def wsX3_step_r5 : List Cond := [Cond.fieldLink RX3 19 "LandBoard" "moves" "LLandBoard$Moves;", Cond.methodLink RX3 221 yX1_add, Cond.instanceMethod yX1_add, Cond.selects RX1 yX1_add yX1_add, Cond.initialized RX1, Cond.code yX1_add cX1_add 4 none, Cond.fieldLink RX1 18 "LandBoard$Moves" "top" "I", Cond.fieldLink RX1 9 "LandBoard$Moves" "cells" "[I", Cond.fieldLink RX1 15 "LandBoard$Moves" "froms" "[I", Cond.fieldLink RX1 28 "LandBoard$Moves" "kept" "I", Cond.methodLink RX1 31 Lib.Math.min.name, Cond.static Lib.Math.min.name, Cond.code Lib.Math.min.name Lib.Math.min.code 2 (some .int), Cond.fieldLink RX1 34 "LandBoard$Moves" "done" "I", Cond.methodLink RX1 22 yJ9_floorMod_7cf53, Cond.static yJ9_floorMod_7cf53, Cond.initialized RJ9, Cond.code yJ9_floorMod_7cf53 cJ9_floorMod_7cf53 3 (some .int)]
def wsX3_step : List Cond := .code yX3_step cX3_step 9 (some .boolean) :: ((wsX3_step_r1 ++ (wsX3_step_r2 ++ (wsX3_step_r3 ++ (wsX3_step_r4 ++ wsX3_step_r5)))) ++ wsX30 ++ wsX00 ++ wsX10)
def wsX3_steps_r1 : List Cond := [Cond.methodLink RX3 126 yX3_step, Cond.instanceMethod yX3_step, Cond.selects RX3 yX3_step yX3_step, Cond.initialized RX3, Cond.code yX3_step cX3_step 9 (some .boolean), Cond.fieldLink RX3 12 "LandBoard" "now" "LLandBoard$Grid;", Cond.methodLink RX3 229 yX3_miss, Cond.instanceMethod yX3_miss, Cond.selects RX3 yX3_miss yX3_miss, Cond.code yX3_miss cX3_miss 3 (some .int), Cond.methodLink RX3 76 yX0_sizeOf, Cond.instanceMethod yX0_sizeOf, Cond.selects RX0 yX0_sizeOf yX0_sizeOf, Cond.initialized RX0, Cond.code yX0_sizeOf cX0_sizeOf 2 (some .int), Cond.methodLink RX0 43 yX0_cellsOf, Cond.instanceMethod yX0_cellsOf, Cond.selects RX0 yX0_cellsOf yX0_cellsOf, Cond.code yX0_cellsOf cX0_cellsOf 2 (some .long), Cond.fieldLink RX0 9 "LandBoard$Grid" "lands" "[J", Cond.static yX3_isLand, Cond.code yX3_isLand cX3_isLand 1 (some .boolean), Cond.methodLink RX0 46 yJ13_bitCount_95d88, Cond.static yJ13_bitCount_95d88]
def wsX3_steps_r2 : List Cond := [Cond.initialized RJ13, Cond.code yJ13_bitCount_95d88 cJ13_bitCount_95d88 2 (some .int), Cond.constantLong RJ13 314 (6148914691236517205), Cond.constantLong RJ13 316 (3689348814741910323), Cond.constantLong RJ13 318 (1085102592571150095), Cond.methodLink RX3 123 yX3_missWith, Cond.instanceMethod yX3_missWith, Cond.selects RX3 yX3_missWith yX3_missWith, Cond.code yX3_missWith cX3_missWith 3 (some .int), Cond.fieldLink RX3 41 "LandBoard" "wants" "[I", Cond.methodLink RX3 224 Lib.Math.abs.name, Cond.static Lib.Math.abs.name, Cond.initialized "java/lang/Math", Cond.code Lib.Math.abs.name Lib.Math.abs.code 1 (some .int), Cond.methodLink RX3 73 yX3_isLand, Cond.methodLink RX3 66 yX0_landOf, Cond.instanceMethod yX0_landOf, Cond.selects RX0 yX0_landOf yX0_landOf, Cond.code yX0_landOf cX0_landOf 3 (some .int), Cond.static yX3_bit, Cond.code yX3_bit cX3_bit 1 (some .long), Cond.methodLink RX3 232 yX3_missBehind, Cond.instanceMethod yX3_missBehind, Cond.selects RX3 yX3_missBehind yX3_missBehind]
def wsX3_steps_r3 : List Cond := [Cond.code yX3_missBehind cX3_missBehind 6 (some .int), Cond.methodLink RX3 117 yX3_canGo, Cond.instanceMethod yX3_canGo, Cond.selects RX3 yX3_canGo yX3_canGo, Cond.code yX3_canGo cX3_canGo 8 (some .boolean), Cond.methodLink RX3 212 yX3_bit, Cond.methodLink RX3 94 yX3_around, Cond.static yX3_around, Cond.code yX3_around cX3_around 2 (some .long), Cond.methodLink RX3 240 yX3_toRight, Cond.static yX3_toRight, Cond.code yX3_toRight cX3_toRight 2 (some .long), Cond.constantLong RX3 236 (9187201950435737471), Cond.methodLink RX3 243 yX3_toLeft, Cond.static yX3_toLeft, Cond.code yX3_toLeft cX3_toLeft 2 (some .long), Cond.constantLong RX3 238 (-72340172838076674), Cond.methodLink RX3 79 yX0_cellsOf, Cond.methodLink RX3 114 yX3_letsGo, Cond.instanceMethod yX3_letsGo, Cond.selects RX3 yX3_letsGo yX3_letsGo, Cond.code yX3_letsGo cX3_letsGo 8 (some .boolean), Cond.constantLong RX3 215 (-1), Cond.fieldLink RX3 38 "LandBoard" "owns" "[I"]
def wsX3_steps_r4 : List Cond := [Cond.fieldLink RX3 34 "LandBoard" "kinds" "[I", Cond.methodLink RX3 83 yX3_isWhole, Cond.static yX3_isWhole, Cond.code yX3_isWhole cX3_isWhole 7 (some .boolean), Cond.methodLink RX3 91 yX0_isAtSea, Cond.instanceMethod yX0_isAtSea, Cond.selects RX0 yX0_isAtSea yX0_isAtSea, Cond.code yX0_isAtSea cX0_isAtSea 5 (some .boolean), Cond.fieldLink RX0 22 "LandBoard$Grid" "all" "J", Cond.constantLong RX0 30 (-1), Cond.fieldLink RX0 32 "LandBoard$Grid" "edge" "J", Cond.methodLink RX0 52 yX0_peopledCells, Cond.instanceMethod yX0_peopledCells, Cond.selects RX0 yX0_peopledCells yX0_peopledCells, Cond.code yX0_peopledCells cX0_peopledCells 4 (some .long), Cond.methodLink RX3 217 yX0_touching, Cond.instanceMethod yX0_touching, Cond.selects RX0 yX0_touching yX0_touching, Cond.code yX0_touching cX0_touching 7 (some .long), Cond.methodLink RX0 59 yX0_isAtSea, Cond.methodLink RX3 70 yX0_put, Cond.instanceMethod yX0_put, Cond.selects RX0 yX0_put yX0_put, Cond.code yX0_put cX0_put 4 none]
def wsX3_steps_r5 : List Cond := [Cond.methodLink RX3 120 yX3_go, Cond.instanceMethod yX3_go, Cond.selects RX3 yX3_go yX3_go, Cond.code yX3_go cX3_go 3 none, Cond.fieldLink RX3 19 "LandBoard" "moves" "LLandBoard$Moves;", Cond.methodLink RX3 221 yX1_add, Cond.instanceMethod yX1_add, Cond.selects RX1 yX1_add yX1_add, Cond.initialized RX1, Cond.code yX1_add cX1_add 4 none, Cond.fieldLink RX1 18 "LandBoard$Moves" "top" "I", Cond.fieldLink RX1 9 "LandBoard$Moves" "cells" "[I", Cond.fieldLink RX1 15 "LandBoard$Moves" "froms" "[I", Cond.fieldLink RX1 28 "LandBoard$Moves" "kept" "I", Cond.methodLink RX1 31 Lib.Math.min.name, Cond.static Lib.Math.min.name, Cond.code Lib.Math.min.name Lib.Math.min.code 2 (some .int), Cond.fieldLink RX1 34 "LandBoard$Moves" "done" "I", Cond.methodLink RX1 22 yJ9_floorMod_7cf53, Cond.static yJ9_floorMod_7cf53, Cond.initialized RJ9, Cond.code yJ9_floorMod_7cf53 cJ9_floorMod_7cf53 3 (some .int)]
def wsX3_steps : List Cond := .code yX3_steps cX3_steps 3 (some .int) :: ((wsX3_steps_r1 ++ (wsX3_steps_r2 ++ (wsX3_steps_r3 ++ (wsX3_steps_r4 ++ wsX3_steps_r5)))) ++ wsX30 ++ wsX00 ++ wsX10)
def wsX3_undo_r1 : List Cond := [Cond.fieldLink RX3 19 "LandBoard" "moves" "LLandBoard$Moves;", Cond.fieldLink RX3 130 "LandBoard$Moves" "kept" "I", Cond.fieldLink RX3 12 "LandBoard" "now" "LLandBoard$Grid;", Cond.methodLink RX3 134 yX1_latestCell, Cond.instanceMethod yX1_latestCell, Cond.selects RX1 yX1_latestCell yX1_latestCell, Cond.initialized RX1, Cond.code yX1_latestCell cX1_latestCell 1 (some .int), Cond.fieldLink RX1 9 "LandBoard$Moves" "cells" "[I", Cond.fieldLink RX1 18 "LandBoard$Moves" "top" "I", Cond.methodLink RX1 22 yJ9_floorMod_7cf53, Cond.static yJ9_floorMod_7cf53, Cond.initialized RJ9, Cond.code yJ9_floorMod_7cf53 cJ9_floorMod_7cf53 3 (some .int), Cond.methodLink RX3 138 yX1_latestFrom, Cond.instanceMethod yX1_latestFrom, Cond.selects RX1 yX1_latestFrom yX1_latestFrom, Cond.code yX1_latestFrom cX1_latestFrom 1 (some .int), Cond.fieldLink RX1 15 "LandBoard$Moves" "froms" "[I", Cond.methodLink RX3 70 yX0_put, Cond.instanceMethod yX0_put, Cond.selects RX0 yX0_put yX0_put, Cond.initialized RX0, Cond.code yX0_put cX0_put 4 none]
def wsX3_undo_r2 : List Cond := [Cond.fieldLink RX0 9 "LandBoard$Grid" "lands" "[J", Cond.constantLong RX0 30 (-1), Cond.static yX3_bit, Cond.initialized RX3, Cond.code yX3_bit cX3_bit 1 (some .long), Cond.methodLink RX3 141 yX1_dropLatest, Cond.instanceMethod yX1_dropLatest, Cond.selects RX1 yX1_dropLatest yX1_dropLatest, Cond.code yX1_dropLatest cX1_dropLatest 1 none, Cond.fieldLink RX1 28 "LandBoard$Moves" "kept" "I"]
def wsX3_undo : List Cond := .code yX3_undo cX3_undo 3 (some .int) :: ((wsX3_undo_r1 ++ wsX3_undo_r2) ++ wsX30 ++ wsX10 ++ wsX00)
def wsX3_firstOf : List Cond := .code yX3_firstOf cX3_firstOf 3 (some .int) :: ([.methodLink RX3 212 yX3_bit, .static yX3_bit, .initialized RX3, .code yX3_bit cX3_bit 1 (some .long)])
def wsX3_label_r1 : List Cond := [Cond.fieldLink RX3 12 "LandBoard" "now" "LLandBoard$Grid;", Cond.methodLink RX3 73 yX3_isLand, Cond.static yX3_isLand, Cond.initialized RX3, Cond.code yX3_isLand cX3_isLand 1 (some .boolean), Cond.methodLink RX3 79 yX0_cellsOf, Cond.instanceMethod yX0_cellsOf, Cond.selects RX0 yX0_cellsOf yX0_cellsOf, Cond.initialized RX0, Cond.code yX0_cellsOf cX0_cellsOf 2 (some .long), Cond.fieldLink RX0 9 "LandBoard$Grid" "lands" "[J", Cond.methodLink RX3 144 yX3_inside, Cond.static yX3_inside, Cond.code yX3_inside cX3_inside 2 (some .long), Cond.methodLink RX3 240 yX3_toRight, Cond.static yX3_toRight, Cond.code yX3_toRight cX3_toRight 2 (some .long), Cond.constantLong RX3 236 (9187201950435737471), Cond.methodLink RX3 243 yX3_toLeft, Cond.static yX3_toLeft, Cond.code yX3_toLeft cX3_toLeft 2 (some .long), Cond.constantLong RX3 238 (-72340172838076674), Cond.methodLink RX3 147 yX3_firstOf, Cond.static yX3_firstOf]
def wsX3_label_r2 : List Cond := [Cond.code yX3_firstOf cX3_firstOf 3 (some .int), Cond.methodLink RX3 212 yX3_bit, Cond.static yX3_bit, Cond.code yX3_bit cX3_bit 1 (some .long), Cond.methodLink RX3 98 yX3_columnOf, Cond.static yX3_columnOf, Cond.code yX3_columnOf cX3_columnOf 1 (some .int), Cond.methodLink RX3 101 yX3_rowOf, Cond.static yX3_rowOf, Cond.code yX3_rowOf cX3_rowOf 1 (some .int)]
def wsX3_label : List Cond := .code yX3_label cX3_label 7 (some .int) :: ((wsX3_label_r1 ++ wsX3_label_r2) ++ wsX30 ++ wsX00)
def wsX3_hasBox_r1 : List Cond := [Cond.fieldLink RX3 12 "LandBoard" "now" "LLandBoard$Grid;", Cond.methodLink RX3 73 yX3_isLand, Cond.static yX3_isLand, Cond.initialized RX3, Cond.code yX3_isLand cX3_isLand 1 (some .boolean), Cond.methodLink RX3 76 yX0_sizeOf, Cond.instanceMethod yX0_sizeOf, Cond.selects RX0 yX0_sizeOf yX0_sizeOf, Cond.initialized RX0, Cond.code yX0_sizeOf cX0_sizeOf 2 (some .int), Cond.methodLink RX0 43 yX0_cellsOf, Cond.instanceMethod yX0_cellsOf, Cond.selects RX0 yX0_cellsOf yX0_cellsOf, Cond.code yX0_cellsOf cX0_cellsOf 2 (some .long), Cond.fieldLink RX0 9 "LandBoard$Grid" "lands" "[J", Cond.methodLink RX0 46 yJ13_bitCount_95d88, Cond.static yJ13_bitCount_95d88, Cond.initialized RJ13, Cond.code yJ13_bitCount_95d88 cJ13_bitCount_95d88 2 (some .int), Cond.constantLong RJ13 314 (6148914691236517205), Cond.constantLong RJ13 316 (3689348814741910323), Cond.constantLong RJ13 318 (1085102592571150095), Cond.methodLink RX3 206 yX0_peopled, Cond.instanceMethod yX0_peopled]
def wsX3_hasBox_r2 : List Cond := [Cond.selects RX0 yX0_peopled yX0_peopled, Cond.code yX0_peopled cX0_peopled 3 (some .int)]
def wsX3_hasBox : List Cond := .code yX3_hasBox cX3_hasBox 3 (some .boolean) :: ((wsX3_hasBox_r1 ++ wsX3_hasBox_r2) ++ wsX30 ++ wsX00)
def wsX3_commonDivisor : List Cond := .code yX3_commonDivisor cX3_commonDivisor 6 (some .int) :: ([])
def wsX3_longer_r1 : List Cond := [Cond.fieldLink RX3 26 "LandBoard" "rows" "LLandBoard$Rows;", Cond.fieldLink RX3 12 "LandBoard" "now" "LLandBoard$Grid;", Cond.methodLink RX3 151 yX3_hasBox, Cond.instanceMethod yX3_hasBox, Cond.selects RX3 yX3_hasBox yX3_hasBox, Cond.initialized RX3, Cond.code yX3_hasBox cX3_hasBox 3 (some .boolean), Cond.methodLink RX3 73 yX3_isLand, Cond.static yX3_isLand, Cond.code yX3_isLand cX3_isLand 1 (some .boolean), Cond.methodLink RX3 76 yX0_sizeOf, Cond.instanceMethod yX0_sizeOf, Cond.selects RX0 yX0_sizeOf yX0_sizeOf, Cond.initialized RX0, Cond.code yX0_sizeOf cX0_sizeOf 2 (some .int), Cond.methodLink RX0 43 yX0_cellsOf, Cond.instanceMethod yX0_cellsOf, Cond.selects RX0 yX0_cellsOf yX0_cellsOf, Cond.code yX0_cellsOf cX0_cellsOf 2 (some .long), Cond.fieldLink RX0 9 "LandBoard$Grid" "lands" "[J", Cond.methodLink RX0 46 yJ13_bitCount_95d88, Cond.static yJ13_bitCount_95d88, Cond.initialized RJ13, Cond.code yJ13_bitCount_95d88 cJ13_bitCount_95d88 2 (some .int)]
def wsX3_longer_r2 : List Cond := [Cond.constantLong RJ13 314 (6148914691236517205), Cond.constantLong RJ13 316 (3689348814741910323), Cond.constantLong RJ13 318 (1085102592571150095), Cond.methodLink RX3 206 yX0_peopled, Cond.instanceMethod yX0_peopled, Cond.selects RX0 yX0_peopled yX0_peopled, Cond.code yX0_peopled cX0_peopled 3 (some .int), Cond.methodLink RX3 154 yX2_read, Cond.instanceMethod yX2_read, Cond.selects RX2 yX2_read yX2_read, Cond.initialized RX2, Cond.code yX2_read cX2_read 3 none, Cond.fieldLink RX2 27 "LandBoard$Rows" "boxes" "I", Cond.fieldLink RX2 31 "LandBoard$Rows" "total" "I", Cond.fieldLink RX2 9 "LandBoard$Rows" "places" "[I", Cond.fieldLink RX2 15 "LandBoard$Rows" "weights" "[I", Cond.methodLink RX2 34 yX0_sizeOf, Cond.methodLink RX3 158 yX2_lay, Cond.instanceMethod yX2_lay, Cond.selects RX2 yX2_lay yX2_lay, Cond.code yX2_lay cX2_lay 5 none, Cond.methodLink RX2 44 yX2_layRow, Cond.instanceMethod yX2_layRow, Cond.selects RX2 yX2_layRow yX2_layRow]
def wsX3_longer_r3 : List Cond := [Cond.code yX2_layRow cX2_layRow 6 (some .int), Cond.methodLink RX2 48 Lib.Math.max.name, Cond.static Lib.Math.max.name, Cond.initialized "java/lang/Math", Cond.code Lib.Math.max.name Lib.Math.max.code 2 (some .int), Cond.fieldLink RX2 18 "LandBoard$Rows" "lefts" "[I", Cond.fieldLink RX2 21 "LandBoard$Rows" "aboves" "[I", Cond.fieldLink RX2 24 "LandBoard$Rows" "rowWeights" "[I", Cond.methodLink RX3 162 yX2_placeOf, Cond.instanceMethod yX2_placeOf, Cond.selects RX2 yX2_placeOf yX2_placeOf, Cond.code yX2_placeOf cX2_placeOf 2 (some .int), Cond.methodLink RX3 165 yX2_longUpper, Cond.instanceMethod yX2_longUpper, Cond.selects RX2 yX2_longUpper yX2_longUpper, Cond.code yX2_longUpper cX2_longUpper 2 (some .int), Cond.methodLink RX2 57 yX2_scaledHeight, Cond.instanceMethod yX2_scaledHeight, Cond.selects RX2 yX2_scaledHeight yX2_scaledHeight, Cond.code yX2_scaledHeight cX2_scaledHeight 2 (some .int), Cond.methodLink RX2 60 yX2_scaledWidth, Cond.instanceMethod yX2_scaledWidth, Cond.selects RX2 yX2_scaledWidth yX2_scaledWidth, Cond.code yX2_scaledWidth cX2_scaledWidth 2 (some .int)]
def wsX3_longer_r4 : List Cond := [Cond.methodLink RX3 168 yX2_longLower, Cond.instanceMethod yX2_longLower, Cond.selects RX2 yX2_longLower yX2_longLower, Cond.code yX2_longLower cX2_longLower 2 (some .int), Cond.methodLink RX2 63 Lib.Math.min.name, Cond.static Lib.Math.min.name, Cond.code Lib.Math.min.name Lib.Math.min.code 2 (some .int), Cond.methodLink RX3 171 yX3_commonDivisor, Cond.static yX3_commonDivisor, Cond.code yX3_commonDivisor cX3_commonDivisor 6 (some .int)]
def wsX3_longer : List Cond := .code yX3_longer cX3_longer 7 (some .int) :: ((wsX3_longer_r1 ++ (wsX3_longer_r2 ++ (wsX3_longer_r3 ++ wsX3_longer_r4))) ++ wsX30 ++ wsX00 ++ wsX20)
def wsX3_box_r1 : List Cond := [Cond.fieldLink RX3 26 "LandBoard" "rows" "LLandBoard$Rows;", Cond.fieldLink RX3 12 "LandBoard" "now" "LLandBoard$Grid;", Cond.methodLink RX3 151 yX3_hasBox, Cond.instanceMethod yX3_hasBox, Cond.selects RX3 yX3_hasBox yX3_hasBox, Cond.initialized RX3, Cond.code yX3_hasBox cX3_hasBox 3 (some .boolean), Cond.methodLink RX3 73 yX3_isLand, Cond.static yX3_isLand, Cond.code yX3_isLand cX3_isLand 1 (some .boolean), Cond.methodLink RX3 76 yX0_sizeOf, Cond.instanceMethod yX0_sizeOf, Cond.selects RX0 yX0_sizeOf yX0_sizeOf, Cond.initialized RX0, Cond.code yX0_sizeOf cX0_sizeOf 2 (some .int), Cond.methodLink RX0 43 yX0_cellsOf, Cond.instanceMethod yX0_cellsOf, Cond.selects RX0 yX0_cellsOf yX0_cellsOf, Cond.code yX0_cellsOf cX0_cellsOf 2 (some .long), Cond.fieldLink RX0 9 "LandBoard$Grid" "lands" "[J", Cond.methodLink RX0 46 yJ13_bitCount_95d88, Cond.static yJ13_bitCount_95d88, Cond.initialized RJ13, Cond.code yJ13_bitCount_95d88 cJ13_bitCount_95d88 2 (some .int)]
def wsX3_box_r2 : List Cond := [Cond.constantLong RJ13 314 (6148914691236517205), Cond.constantLong RJ13 316 (3689348814741910323), Cond.constantLong RJ13 318 (1085102592571150095), Cond.methodLink RX3 206 yX0_peopled, Cond.instanceMethod yX0_peopled, Cond.selects RX0 yX0_peopled yX0_peopled, Cond.code yX0_peopled cX0_peopled 3 (some .int), Cond.methodLink RX3 154 yX2_read, Cond.instanceMethod yX2_read, Cond.selects RX2 yX2_read yX2_read, Cond.initialized RX2, Cond.code yX2_read cX2_read 3 none, Cond.fieldLink RX2 27 "LandBoard$Rows" "boxes" "I", Cond.fieldLink RX2 31 "LandBoard$Rows" "total" "I", Cond.fieldLink RX2 9 "LandBoard$Rows" "places" "[I", Cond.fieldLink RX2 15 "LandBoard$Rows" "weights" "[I", Cond.methodLink RX2 34 yX0_sizeOf, Cond.methodLink RX3 158 yX2_lay, Cond.instanceMethod yX2_lay, Cond.selects RX2 yX2_lay yX2_lay, Cond.code yX2_lay cX2_lay 5 none, Cond.methodLink RX2 44 yX2_layRow, Cond.instanceMethod yX2_layRow, Cond.selects RX2 yX2_layRow yX2_layRow]
def wsX3_box_r3 : List Cond := [Cond.code yX2_layRow cX2_layRow 6 (some .int), Cond.methodLink RX2 48 Lib.Math.max.name, Cond.static Lib.Math.max.name, Cond.initialized "java/lang/Math", Cond.code Lib.Math.max.name Lib.Math.max.code 2 (some .int), Cond.fieldLink RX2 18 "LandBoard$Rows" "lefts" "[I", Cond.fieldLink RX2 21 "LandBoard$Rows" "aboves" "[I", Cond.fieldLink RX2 24 "LandBoard$Rows" "rowWeights" "[I", Cond.methodLink RX3 162 yX2_placeOf, Cond.instanceMethod yX2_placeOf, Cond.selects RX2 yX2_placeOf yX2_placeOf, Cond.code yX2_placeOf cX2_placeOf 2 (some .int), Cond.methodLink RX3 174 yX2_side, Cond.instanceMethod yX2_side, Cond.selects RX2 yX2_side yX2_side, Cond.code yX2_side cX2_side 3 (some .int), Cond.static yX3_thousandths, Cond.code yX3_thousandths cX3_thousandths 2 (some .int)]
def wsX3_box : List Cond := .code yX3_box cX3_box 4 (some .int) :: ((wsX3_box_r1 ++ (wsX3_box_r2 ++ wsX3_box_r3)) ++ wsX30 ++ wsX00 ++ wsX20)
def wsX3_best_r1 : List Cond := [Cond.fieldLink RX3 26 "LandBoard" "rows" "LLandBoard$Rows;", Cond.fieldLink RX3 12 "LandBoard" "now" "LLandBoard$Grid;", Cond.fieldLink RX3 177 "LandBoard$Rows" "boxes" "I", Cond.methodLink RX3 154 yX2_read, Cond.instanceMethod yX2_read, Cond.selects RX2 yX2_read yX2_read, Cond.initialized RX2, Cond.code yX2_read cX2_read 3 none, Cond.fieldLink RX2 27 "LandBoard$Rows" "boxes" "I", Cond.fieldLink RX2 31 "LandBoard$Rows" "total" "I", Cond.fieldLink RX2 9 "LandBoard$Rows" "places" "[I", Cond.fieldLink RX2 15 "LandBoard$Rows" "weights" "[I", Cond.methodLink RX2 34 yX0_sizeOf, Cond.instanceMethod yX0_sizeOf, Cond.selects RX0 yX0_sizeOf yX0_sizeOf, Cond.initialized RX0, Cond.code yX0_sizeOf cX0_sizeOf 2 (some .int), Cond.methodLink RX0 43 yX0_cellsOf, Cond.instanceMethod yX0_cellsOf, Cond.selects RX0 yX0_cellsOf yX0_cellsOf, Cond.code yX0_cellsOf cX0_cellsOf 2 (some .long), Cond.fieldLink RX0 9 "LandBoard$Grid" "lands" "[J", Cond.static yX3_isLand, Cond.initialized RX3]
def wsX3_best_r2 : List Cond := [Cond.code yX3_isLand cX3_isLand 1 (some .boolean), Cond.methodLink RX0 46 yJ13_bitCount_95d88, Cond.static yJ13_bitCount_95d88, Cond.initialized RJ13, Cond.code yJ13_bitCount_95d88 cJ13_bitCount_95d88 2 (some .int), Cond.constantLong RJ13 314 (6148914691236517205), Cond.constantLong RJ13 316 (3689348814741910323), Cond.constantLong RJ13 318 (1085102592571150095), Cond.methodLink RX3 180 yX2_bestCuts, Cond.instanceMethod yX2_bestCuts, Cond.selects RX2 yX2_bestCuts yX2_bestCuts, Cond.code yX2_bestCuts cX2_bestCuts 7 (some .int), Cond.methodLink RX2 48 Lib.Math.max.name, Cond.static Lib.Math.max.name, Cond.initialized "java/lang/Math", Cond.code Lib.Math.max.name Lib.Math.max.code 2 (some .int), Cond.methodLink RX2 72 yX2_lay, Cond.instanceMethod yX2_lay, Cond.selects RX2 yX2_lay yX2_lay, Cond.code yX2_lay cX2_lay 5 none, Cond.methodLink RX2 44 yX2_layRow, Cond.instanceMethod yX2_layRow, Cond.selects RX2 yX2_layRow yX2_layRow, Cond.code yX2_layRow cX2_layRow 6 (some .int)]
def wsX3_best_r3 : List Cond := [Cond.fieldLink RX2 18 "LandBoard$Rows" "lefts" "[I", Cond.fieldLink RX2 21 "LandBoard$Rows" "aboves" "[I", Cond.fieldLink RX2 24 "LandBoard$Rows" "rowWeights" "[I", Cond.methodLink RX2 76 yX2_longestPlace, Cond.instanceMethod yX2_longestPlace, Cond.selects RX2 yX2_longestPlace yX2_longestPlace, Cond.code yX2_longestPlace cX2_longestPlace 3 (some .int), Cond.methodLink RX2 66 yX2_longUpper, Cond.instanceMethod yX2_longUpper, Cond.selects RX2 yX2_longUpper yX2_longUpper, Cond.code yX2_longUpper cX2_longUpper 2 (some .int), Cond.methodLink RX2 57 yX2_scaledHeight, Cond.instanceMethod yX2_scaledHeight, Cond.selects RX2 yX2_scaledHeight yX2_scaledHeight, Cond.code yX2_scaledHeight cX2_scaledHeight 2 (some .int), Cond.methodLink RX2 60 yX2_scaledWidth, Cond.instanceMethod yX2_scaledWidth, Cond.selects RX2 yX2_scaledWidth yX2_scaledWidth, Cond.code yX2_scaledWidth cX2_scaledWidth 2 (some .int), Cond.methodLink RX2 69 yX2_longLower, Cond.instanceMethod yX2_longLower, Cond.selects RX2 yX2_longLower yX2_longLower, Cond.code yX2_longLower cX2_longLower 2 (some .int), Cond.methodLink RX2 63 Lib.Math.min.name]
def wsX3_best_r4 : List Cond := [Cond.static Lib.Math.min.name, Cond.code Lib.Math.min.name Lib.Math.min.code 2 (some .int)]
def wsX3_best : List Cond := .code yX3_best cX3_best 1 (some .int) :: ((wsX3_best_r1 ++ (wsX3_best_r2 ++ (wsX3_best_r3 ++ wsX3_best_r4))) ++ wsX30 ++ wsX20 ++ wsX00)
def wsX3_isYear : List Cond := .code yX3_isYear cX3_isYear 1 (some .boolean) :: ([])
def wsX3_keep_r1 : List Cond := [Cond.fieldLink RX3 30 "LandBoard" "years" "[LLandBoard$Grid;", Cond.classLink RX3 9 RX0, Cond.instantiable RX0 5, Cond.initialized RX0, Cond.fieldLink RX3 12 "LandBoard" "now" "LLandBoard$Grid;", Cond.methodLink RX3 183 yX3_isYear, Cond.static yX3_isYear, Cond.initialized RX3, Cond.code yX3_isYear cX3_isYear 1 (some .boolean), Cond.instanceMethod yX0_init, Cond.code yX0_init cX0_init 1 none, Cond.methodLink RX0 3 objectInit, Cond.instanceMethod objectInit, Cond.code objectInit ⟨#[0xb1]⟩ 1 none, Cond.arrayClass .long, Cond.fieldLink RX0 9 "LandBoard$Grid" "lands" "[J", Cond.methodLink RX3 186 yX0_copy, Cond.instanceMethod yX0_copy, Cond.selects RX0 yX0_copy yX0_copy, Cond.code yX0_copy cX0_copy 3 none, Cond.fieldLink RX0 15 "LandBoard$Grid" "width" "I", Cond.fieldLink RX0 19 "LandBoard$Grid" "height" "I", Cond.fieldLink RX0 22 "LandBoard$Grid" "all" "J", Cond.fieldLink RX0 32 "LandBoard$Grid" "edge" "J"]
def wsX3_keep_r2 : List Cond := [Cond.methodLink RX3 189 yX0_landCells, Cond.instanceMethod yX0_landCells, Cond.selects RX0 yX0_landCells yX0_landCells, Cond.code yX0_landCells cX0_landCells 1 (some .int), Cond.methodLink RX0 52 yX0_peopledCells, Cond.instanceMethod yX0_peopledCells, Cond.selects RX0 yX0_peopledCells yX0_peopledCells, Cond.code yX0_peopledCells cX0_peopledCells 4 (some .long), Cond.methodLink RX0 46 yJ13_bitCount_95d88, Cond.static yJ13_bitCount_95d88, Cond.initialized RJ13, Cond.code yJ13_bitCount_95d88 cJ13_bitCount_95d88 2 (some .int), Cond.constantLong RJ13 314 (6148914691236517205), Cond.constantLong RJ13 316 (3689348814741910323), Cond.constantLong RJ13 318 (1085102592571150095)]
def wsX3_keep : List Cond := .code yX3_keep cX3_keep 3 (some .int) :: ((wsX3_keep_r1 ++ wsX3_keep_r2) ++ wsX30 ++ wsX00)
def wsX3_back_r1 : List Cond := [Cond.fieldLink RX3 30 "LandBoard" "years" "[LLandBoard$Grid;", Cond.fieldLink RX3 12 "LandBoard" "now" "LLandBoard$Grid;", Cond.fieldLink RX3 19 "LandBoard" "moves" "LLandBoard$Moves;", Cond.methodLink RX3 183 yX3_isYear, Cond.static yX3_isYear, Cond.initialized RX3, Cond.code yX3_isYear cX3_isYear 1 (some .boolean), Cond.methodLink RX3 186 yX0_copy, Cond.instanceMethod yX0_copy, Cond.selects RX0 yX0_copy yX0_copy, Cond.initialized RX0, Cond.code yX0_copy cX0_copy 3 none, Cond.fieldLink RX0 15 "LandBoard$Grid" "width" "I", Cond.fieldLink RX0 19 "LandBoard$Grid" "height" "I", Cond.fieldLink RX0 22 "LandBoard$Grid" "all" "J", Cond.fieldLink RX0 32 "LandBoard$Grid" "edge" "J", Cond.fieldLink RX0 9 "LandBoard$Grid" "lands" "[J", Cond.methodLink RX3 48 yX3_forgetKinds, Cond.instanceMethod yX3_forgetKinds, Cond.selects RX3 yX3_forgetKinds yX3_forgetKinds, Cond.code yX3_forgetKinds cX3_forgetKinds 2 none, Cond.fieldLink RX3 34 "LandBoard" "kinds" "[I", Cond.fieldLink RX3 38 "LandBoard" "owns" "[I", Cond.methodLink RX3 51 yX1_forget]
def wsX3_back_r2 : List Cond := [Cond.instanceMethod yX1_forget, Cond.selects RX1 yX1_forget yX1_forget, Cond.initialized RX1, Cond.code yX1_forget cX1_forget 1 none, Cond.fieldLink RX1 28 "LandBoard$Moves" "kept" "I", Cond.methodLink RX3 189 yX0_landCells, Cond.instanceMethod yX0_landCells, Cond.selects RX0 yX0_landCells yX0_landCells, Cond.code yX0_landCells cX0_landCells 1 (some .int), Cond.methodLink RX0 52 yX0_peopledCells, Cond.instanceMethod yX0_peopledCells, Cond.selects RX0 yX0_peopledCells yX0_peopledCells, Cond.code yX0_peopledCells cX0_peopledCells 4 (some .long), Cond.methodLink RX0 46 yJ13_bitCount_95d88, Cond.static yJ13_bitCount_95d88, Cond.initialized RJ13, Cond.code yJ13_bitCount_95d88 cJ13_bitCount_95d88 2 (some .int), Cond.constantLong RJ13 314 (6148914691236517205), Cond.constantLong RJ13 316 (3689348814741910323), Cond.constantLong RJ13 318 (1085102592571150095)]
def wsX3_back : List Cond := .code yX3_back cX3_back 3 (some .int) :: ((wsX3_back_r1 ++ wsX3_back_r2) ++ wsX30 ++ wsX00 ++ wsX10)
def wsX3_moved : List Cond := .code yX3_moved cX3_moved 5 (some .int) :: ([.fieldLink RX3 30 "LandBoard" "years" "[LLandBoard$Grid;", .methodLink RX3 183 yX3_isYear, .static yX3_isYear, .initialized RX3, .code yX3_isYear cX3_isYear 1 (some .boolean), .methodLink RX3 192 yX0_isAsLargeAs, .instanceMethod yX0_isAsLargeAs, .selects RX0 yX0_isAsLargeAs yX0_isAsLargeAs, .initialized RX0, .code yX0_isAsLargeAs cX0_isAsLargeAs 2 (some .boolean), .fieldLink RX0 15 "LandBoard$Grid" "width" "I", .fieldLink RX0 19 "LandBoard$Grid" "height" "I", .methodLink RX3 196 yX0_unlike, .instanceMethod yX0_unlike, .selects RX0 yX0_unlike yX0_unlike, .code yX0_unlike cX0_unlike 5 (some .int), .fieldLink RX0 9 "LandBoard$Grid" "lands" "[J", .methodLink RX0 46 yJ13_bitCount_95d88, .static yJ13_bitCount_95d88, .initialized RJ13, .code yJ13_bitCount_95d88 cJ13_bitCount_95d88 2 (some .int), .constantLong RJ13 314 (6148914691236517205), .constantLong RJ13 316 (3689348814741910323), .constantLong RJ13 318 (1085102592571150095)] ++ wsX30 ++ wsX00)
def wsX3_count : List Cond := .code yX3_count cX3_count 2 (some .int) :: ([.fieldLink RX3 12 "LandBoard" "now" "LLandBoard$Grid;", .fieldLink RX3 200 "LandBoard$Grid" "width" "I", .fieldLink RX3 203 "LandBoard$Grid" "height" "I", .fieldLink RX3 19 "LandBoard" "moves" "LLandBoard$Moves;", .fieldLink RX3 130 "LandBoard$Moves" "kept" "I", .fieldLink RX3 209 "LandBoard$Moves" "done" "I", .methodLink RX3 206 yX0_peopled, .instanceMethod yX0_peopled, .selects RX0 yX0_peopled yX0_peopled, .initialized RX0, .code yX0_peopled cX0_peopled 3 (some .int), .fieldLink RX0 9 "LandBoard$Grid" "lands" "[J"] ++ wsX30 ++ wsX00 ++ wsX10)
def wsX3_trace : List Cond := .code yX3_trace cX3_trace 1 (some .long) :: ([.fieldLink RX3 107 "LandBoard" "asked" "J"] ++ wsX30)
def wsX4_plain : List Cond := .code yX4_plain cX4_plain 2 none :: ([.fieldLink RX4 20 "LandBoardModel" "kind" "[I", .fieldLink RX4 23 "LandBoardModel" "own" "[I", .fieldLink RX4 69 "LandBoardModel" "kept" "I"] ++ wsX40)
def wsX4_clears : List Cond := .code yX4_clears cX4_clears 2 none :: ([.fieldLink RX4 16 "LandBoardModel" "cells" "[I", .methodLink RX4 66 yX4_plain, .instanceMethod yX4_plain, .selects RX4 yX4_plain yX4_plain, .initialized RX4, .code yX4_plain cX4_plain 2 none, .fieldLink RX4 20 "LandBoardModel" "kind" "[I", .fieldLink RX4 23 "LandBoardModel" "own" "[I", .fieldLink RX4 69 "LandBoardModel" "kept" "I"] ++ wsX40)
def wsX4_init_r1 : List Cond := [Cond.methodLink RX4 1 objectInit, Cond.instanceMethod objectInit, Cond.code objectInit ⟨#[0xb1]⟩ 1 none, Cond.fieldLink RX4 7 "LandBoardModel" "w" "I", Cond.fieldLink RX4 13 "LandBoardModel" "h" "I", Cond.arrayClass .int, Cond.fieldLink RX4 16 "LandBoardModel" "cells" "[I", Cond.fieldLink RX4 20 "LandBoardModel" "kind" "[I", Cond.fieldLink RX4 23 "LandBoardModel" "own" "[I", Cond.fieldLink RX4 26 "LandBoardModel" "wanted" "[I", Cond.fieldLink RX4 29 "LandBoardModel" "movedCell" "[I", Cond.fieldLink RX4 32 "LandBoardModel" "movedFrom" "[I", Cond.arrayClass .boolean, Cond.fieldLink RX4 35 "LandBoardModel" "hasYear" "[Z", Cond.fieldLink RX4 39 "LandBoardModel" "yearW" "[I", Cond.fieldLink RX4 42 "LandBoardModel" "yearH" "[I", Cond.fieldLink RX4 45 "LandBoardModel" "year" "[I", Cond.fieldLink RX4 48 "LandBoardModel" "pile" "[I", Cond.fieldLink RX4 51 "LandBoardModel" "isMet" "[Z", Cond.fieldLink RX4 54 "LandBoardModel" "deep" "[I", Cond.fieldLink RX4 57 "LandBoardModel" "weight" "[I", Cond.fieldLink RX4 60 "LandBoardModel" "lands" "[I", Cond.methodLink RX4 63 yX4_clears, Cond.instanceMethod yX4_clears]
def wsX4_init_r2 : List Cond := [Cond.selects RX4 yX4_clears yX4_clears, Cond.initialized RX4, Cond.code yX4_clears cX4_clears 2 none, Cond.methodLink RX4 66 yX4_plain, Cond.instanceMethod yX4_plain, Cond.selects RX4 yX4_plain yX4_plain, Cond.code yX4_plain cX4_plain 2 none, Cond.fieldLink RX4 69 "LandBoardModel" "kept" "I"]
def wsX4_init : List Cond := .code yX4_init cX4_init 1 none :: ((wsX4_init_r1 ++ wsX4_init_r2) ++ wsX40)
def wsX4_in : List Cond := .code yX4_in cX4_in 3 (some .boolean) :: ([])
def wsX4_isLand : List Cond := .code yX4_isLand cX4_isLand 1 (some .boolean) :: ([.methodLink RX4 72 yX4_in, .static yX4_in, .initialized RX4, .code yX4_in cX4_in 3 (some .boolean)])
def wsX4_isOn : List Cond := .code yX4_isOn cX4_isOn 3 (some .boolean) :: ([.fieldLink RX4 7 "LandBoardModel" "w" "I", .fieldLink RX4 13 "LandBoardModel" "h" "I", .methodLink RX4 72 yX4_in, .static yX4_in, .initialized RX4, .code yX4_in cX4_in 3 (some .boolean)] ++ wsX40)
def wsX4_cellAt : List Cond := .code yX4_cellAt cX4_cellAt 3 (some .int) :: ([.fieldLink RX4 7 "LandBoardModel" "w" "I", .methodLink RX4 76 yX4_isOn, .instanceMethod yX4_isOn, .selects RX4 yX4_isOn yX4_isOn, .initialized RX4, .code yX4_isOn cX4_isOn 3 (some .boolean), .fieldLink RX4 13 "LandBoardModel" "h" "I", .methodLink RX4 72 yX4_in, .static yX4_in, .code yX4_in cX4_in 3 (some .boolean)] ++ wsX40)
def wsX4_beside : List Cond := .code yX4_beside cX4_beside 5 (some .int) :: ([.fieldLink RX4 7 "LandBoardModel" "w" "I", .methodLink RX4 80 yX4_cellAt, .instanceMethod yX4_cellAt, .selects RX4 yX4_cellAt yX4_cellAt, .initialized RX4, .code yX4_cellAt cX4_cellAt 3 (some .int), .methodLink RX4 76 yX4_isOn, .instanceMethod yX4_isOn, .selects RX4 yX4_isOn yX4_isOn, .code yX4_isOn cX4_isOn 3 (some .boolean), .fieldLink RX4 13 "LandBoardModel" "h" "I", .methodLink RX4 72 yX4_in, .static yX4_in, .code yX4_in cX4_in 3 (some .boolean)] ++ wsX40)
def wsX4_board : List Cond := .code yX4_board cX4_board 3 (some .int) :: ([.fieldLink RX4 7 "LandBoardModel" "w" "I", .fieldLink RX4 13 "LandBoardModel" "h" "I", .methodLink RX4 72 yX4_in, .static yX4_in, .initialized RX4, .code yX4_in cX4_in 3 (some .boolean), .methodLink RX4 63 yX4_clears, .instanceMethod yX4_clears, .selects RX4 yX4_clears yX4_clears, .code yX4_clears cX4_clears 2 none, .fieldLink RX4 16 "LandBoardModel" "cells" "[I", .methodLink RX4 66 yX4_plain, .instanceMethod yX4_plain, .selects RX4 yX4_plain yX4_plain, .code yX4_plain cX4_plain 2 none, .fieldLink RX4 20 "LandBoardModel" "kind" "[I", .fieldLink RX4 23 "LandBoardModel" "own" "[I", .fieldLink RX4 69 "LandBoardModel" "kept" "I"] ++ wsX40)
def wsX4_set : List Cond := .code yX4_set cX4_set 6 (some .int) :: ([.fieldLink RX4 16 "LandBoardModel" "cells" "[I", .fieldLink RX4 69 "LandBoardModel" "kept" "I", .methodLink RX4 80 yX4_cellAt, .instanceMethod yX4_cellAt, .selects RX4 yX4_cellAt yX4_cellAt, .initialized RX4, .code yX4_cellAt cX4_cellAt 3 (some .int), .fieldLink RX4 7 "LandBoardModel" "w" "I", .methodLink RX4 76 yX4_isOn, .instanceMethod yX4_isOn, .selects RX4 yX4_isOn yX4_isOn, .code yX4_isOn cX4_isOn 3 (some .boolean), .fieldLink RX4 13 "LandBoardModel" "h" "I", .methodLink RX4 72 yX4_in, .static yX4_in, .code yX4_in cX4_in 3 (some .boolean), .methodLink RX4 84 yX4_isLand, .static yX4_isLand, .code yX4_isLand cX4_isLand 1 (some .boolean)] ++ wsX40)
def wsX4_at : List Cond := .code yX4_at cX4_at 4 (some .int) :: ([.fieldLink RX4 16 "LandBoardModel" "cells" "[I", .methodLink RX4 80 yX4_cellAt, .instanceMethod yX4_cellAt, .selects RX4 yX4_cellAt yX4_cellAt, .initialized RX4, .code yX4_cellAt cX4_cellAt 3 (some .int), .fieldLink RX4 7 "LandBoardModel" "w" "I", .methodLink RX4 76 yX4_isOn, .instanceMethod yX4_isOn, .selects RX4 yX4_isOn yX4_isOn, .code yX4_isOn cX4_isOn 3 (some .boolean), .fieldLink RX4 13 "LandBoardModel" "h" "I", .methodLink RX4 72 yX4_in, .static yX4_in, .code yX4_in cX4_in 3 (some .boolean)] ++ wsX40)
def wsX4_sizeOf : List Cond := .code yX4_sizeOf cX4_sizeOf 4 (some .int) :: ([.fieldLink RX4 7 "LandBoardModel" "w" "I", .fieldLink RX4 13 "LandBoardModel" "h" "I", .fieldLink RX4 16 "LandBoardModel" "cells" "[I"] ++ wsX40)
def wsX4_size : List Cond := .code yX4_size cX4_size 2 (some .int) :: ([.methodLink RX4 84 yX4_isLand, .static yX4_isLand, .initialized RX4, .code yX4_isLand cX4_isLand 1 (some .boolean), .methodLink RX4 72 yX4_in, .static yX4_in, .code yX4_in cX4_in 3 (some .boolean), .methodLink RX4 88 yX4_sizeOf, .instanceMethod yX4_sizeOf, .selects RX4 yX4_sizeOf yX4_sizeOf, .code yX4_sizeOf cX4_sizeOf 4 (some .int), .fieldLink RX4 7 "LandBoardModel" "w" "I", .fieldLink RX4 13 "LandBoardModel" "h" "I", .fieldLink RX4 16 "LandBoardModel" "cells" "[I"] ++ wsX40)
def wsX4_isWhole_r1 : List Cond := [Cond.fieldLink RX4 7 "LandBoardModel" "w" "I", Cond.fieldLink RX4 13 "LandBoardModel" "h" "I", Cond.fieldLink RX4 16 "LandBoardModel" "cells" "[I", Cond.fieldLink RX4 51 "LandBoardModel" "isMet" "[Z", Cond.fieldLink RX4 48 "LandBoardModel" "pile" "[I", Cond.methodLink RX4 92 yX4_beside, Cond.instanceMethod yX4_beside, Cond.selects RX4 yX4_beside yX4_beside, Cond.initialized RX4, Cond.code yX4_beside cX4_beside 5 (some .int), Cond.methodLink RX4 80 yX4_cellAt, Cond.instanceMethod yX4_cellAt, Cond.selects RX4 yX4_cellAt yX4_cellAt, Cond.code yX4_cellAt cX4_cellAt 3 (some .int), Cond.methodLink RX4 76 yX4_isOn, Cond.instanceMethod yX4_isOn, Cond.selects RX4 yX4_isOn yX4_isOn, Cond.code yX4_isOn cX4_isOn 3 (some .boolean), Cond.methodLink RX4 72 yX4_in, Cond.static yX4_in, Cond.code yX4_in cX4_in 3 (some .boolean), Cond.methodLink RX4 88 yX4_sizeOf, Cond.instanceMethod yX4_sizeOf, Cond.selects RX4 yX4_sizeOf yX4_sizeOf]
def wsX4_isWhole_r2 : List Cond := [Cond.code yX4_sizeOf cX4_sizeOf 4 (some .int)]
def wsX4_isWhole : List Cond := .code yX4_isWhole cX4_isWhole 8 (some .boolean) :: ((wsX4_isWhole_r1 ++ wsX4_isWhole_r2) ++ wsX40)
def wsX4_whole_r1 : List Cond := [Cond.methodLink RX4 84 yX4_isLand, Cond.static yX4_isLand, Cond.initialized RX4, Cond.code yX4_isLand cX4_isLand 1 (some .boolean), Cond.methodLink RX4 72 yX4_in, Cond.static yX4_in, Cond.code yX4_in cX4_in 3 (some .boolean), Cond.methodLink RX4 95 yX4_isWhole, Cond.instanceMethod yX4_isWhole, Cond.selects RX4 yX4_isWhole yX4_isWhole, Cond.code yX4_isWhole cX4_isWhole 8 (some .boolean), Cond.fieldLink RX4 7 "LandBoardModel" "w" "I", Cond.fieldLink RX4 13 "LandBoardModel" "h" "I", Cond.fieldLink RX4 16 "LandBoardModel" "cells" "[I", Cond.fieldLink RX4 51 "LandBoardModel" "isMet" "[Z", Cond.fieldLink RX4 48 "LandBoardModel" "pile" "[I", Cond.methodLink RX4 92 yX4_beside, Cond.instanceMethod yX4_beside, Cond.selects RX4 yX4_beside yX4_beside, Cond.code yX4_beside cX4_beside 5 (some .int), Cond.methodLink RX4 80 yX4_cellAt, Cond.instanceMethod yX4_cellAt, Cond.selects RX4 yX4_cellAt yX4_cellAt, Cond.code yX4_cellAt cX4_cellAt 3 (some .int)]
def wsX4_whole_r2 : List Cond := [Cond.methodLink RX4 76 yX4_isOn, Cond.instanceMethod yX4_isOn, Cond.selects RX4 yX4_isOn yX4_isOn, Cond.code yX4_isOn cX4_isOn 3 (some .boolean), Cond.methodLink RX4 88 yX4_sizeOf, Cond.instanceMethod yX4_sizeOf, Cond.selects RX4 yX4_sizeOf yX4_sizeOf, Cond.code yX4_sizeOf cX4_sizeOf 4 (some .int)]
def wsX4_whole : List Cond := .code yX4_whole cX4_whole 2 (some .int) :: ((wsX4_whole_r1 ++ wsX4_whole_r2) ++ wsX40)
def wsX4_numberOf : List Cond := .code yX4_numberOf cX4_numberOf 1 (some .int) :: ([])
def wsX4_touches : List Cond := .code yX4_touches cX4_touches 8 (some .long) :: ([.fieldLink RX4 7 "LandBoardModel" "w" "I", .fieldLink RX4 13 "LandBoardModel" "h" "I", .fieldLink RX4 16 "LandBoardModel" "cells" "[I", .methodLink RX4 92 yX4_beside, .instanceMethod yX4_beside, .selects RX4 yX4_beside yX4_beside, .initialized RX4, .code yX4_beside cX4_beside 5 (some .int), .methodLink RX4 80 yX4_cellAt, .instanceMethod yX4_cellAt, .selects RX4 yX4_cellAt yX4_cellAt, .code yX4_cellAt cX4_cellAt 3 (some .int), .methodLink RX4 76 yX4_isOn, .instanceMethod yX4_isOn, .selects RX4 yX4_isOn yX4_isOn, .code yX4_isOn cX4_isOn 3 (some .boolean), .methodLink RX4 72 yX4_in, .static yX4_in, .code yX4_in cX4_in 3 (some .boolean), .methodLink RX4 98 yX4_numberOf, .static yX4_numberOf, .code yX4_numberOf cX4_numberOf 1 (some .int)] ++ wsX40)
def wsX4_areTouching_r1 : List Cond := [Cond.methodLink RX4 101 yX4_touches, Cond.instanceMethod yX4_touches, Cond.selects RX4 yX4_touches yX4_touches, Cond.initialized RX4, Cond.code yX4_touches cX4_touches 8 (some .long), Cond.fieldLink RX4 7 "LandBoardModel" "w" "I", Cond.fieldLink RX4 13 "LandBoardModel" "h" "I", Cond.fieldLink RX4 16 "LandBoardModel" "cells" "[I", Cond.methodLink RX4 92 yX4_beside, Cond.instanceMethod yX4_beside, Cond.selects RX4 yX4_beside yX4_beside, Cond.code yX4_beside cX4_beside 5 (some .int), Cond.methodLink RX4 80 yX4_cellAt, Cond.instanceMethod yX4_cellAt, Cond.selects RX4 yX4_cellAt yX4_cellAt, Cond.code yX4_cellAt cX4_cellAt 3 (some .int), Cond.methodLink RX4 76 yX4_isOn, Cond.instanceMethod yX4_isOn, Cond.selects RX4 yX4_isOn yX4_isOn, Cond.code yX4_isOn cX4_isOn 3 (some .boolean), Cond.methodLink RX4 72 yX4_in, Cond.static yX4_in, Cond.code yX4_in cX4_in 3 (some .boolean), Cond.methodLink RX4 98 yX4_numberOf]
def wsX4_areTouching_r2 : List Cond := [Cond.static yX4_numberOf, Cond.code yX4_numberOf cX4_numberOf 1 (some .int)]
def wsX4_areTouching : List Cond := .code yX4_areTouching cX4_areTouching 3 (some .boolean) :: ((wsX4_areTouching_r1 ++ wsX4_areTouching_r2) ++ wsX40)
def wsX4_touch_r1 : List Cond := [Cond.methodLink RX4 84 yX4_isLand, Cond.static yX4_isLand, Cond.initialized RX4, Cond.code yX4_isLand cX4_isLand 1 (some .boolean), Cond.methodLink RX4 72 yX4_in, Cond.static yX4_in, Cond.code yX4_in cX4_in 3 (some .boolean), Cond.methodLink RX4 105 yX4_areTouching, Cond.instanceMethod yX4_areTouching, Cond.selects RX4 yX4_areTouching yX4_areTouching, Cond.code yX4_areTouching cX4_areTouching 3 (some .boolean), Cond.methodLink RX4 101 yX4_touches, Cond.instanceMethod yX4_touches, Cond.selects RX4 yX4_touches yX4_touches, Cond.code yX4_touches cX4_touches 8 (some .long), Cond.fieldLink RX4 7 "LandBoardModel" "w" "I", Cond.fieldLink RX4 13 "LandBoardModel" "h" "I", Cond.fieldLink RX4 16 "LandBoardModel" "cells" "[I", Cond.methodLink RX4 92 yX4_beside, Cond.instanceMethod yX4_beside, Cond.selects RX4 yX4_beside yX4_beside, Cond.code yX4_beside cX4_beside 5 (some .int), Cond.methodLink RX4 80 yX4_cellAt, Cond.instanceMethod yX4_cellAt]
def wsX4_touch_r2 : List Cond := [Cond.selects RX4 yX4_cellAt yX4_cellAt, Cond.code yX4_cellAt cX4_cellAt 3 (some .int), Cond.methodLink RX4 76 yX4_isOn, Cond.instanceMethod yX4_isOn, Cond.selects RX4 yX4_isOn yX4_isOn, Cond.code yX4_isOn cX4_isOn 3 (some .boolean), Cond.methodLink RX4 98 yX4_numberOf, Cond.static yX4_numberOf, Cond.code yX4_numberOf cX4_numberOf 1 (some .int)]
def wsX4_touch : List Cond := .code yX4_touch cX4_touch 4 (some .int) :: ((wsX4_touch_r1 ++ wsX4_touch_r2) ++ wsX40)
def wsX4_kind : List Cond := .code yX4_kind cX4_kind 5 (some .int) :: ([.fieldLink RX4 16 "LandBoardModel" "cells" "[I", .fieldLink RX4 20 "LandBoardModel" "kind" "[I", .fieldLink RX4 23 "LandBoardModel" "own" "[I", .methodLink RX4 84 yX4_isLand, .static yX4_isLand, .initialized RX4, .code yX4_isLand cX4_isLand 1 (some .boolean), .methodLink RX4 72 yX4_in, .static yX4_in, .code yX4_in cX4_in 3 (some .boolean), .methodLink RX4 76 yX4_isOn, .instanceMethod yX4_isOn, .selects RX4 yX4_isOn yX4_isOn, .code yX4_isOn cX4_isOn 3 (some .boolean), .fieldLink RX4 7 "LandBoardModel" "w" "I", .fieldLink RX4 13 "LandBoardModel" "h" "I", .methodLink RX4 80 yX4_cellAt, .instanceMethod yX4_cellAt, .selects RX4 yX4_cellAt yX4_cellAt, .code yX4_cellAt cX4_cellAt 3 (some .int)] ++ wsX40)
def wsX4_about : List Cond := .code yX4_about cX4_about 3 (some .int) :: ([.fieldLink RX4 20 "LandBoardModel" "kind" "[I", .fieldLink RX4 23 "LandBoardModel" "own" "[I", .fieldLink RX4 7 "LandBoardModel" "w" "I", .fieldLink RX4 26 "LandBoardModel" "wanted" "[I", .methodLink RX4 84 yX4_isLand, .static yX4_isLand, .initialized RX4, .code yX4_isLand cX4_isLand 1 (some .boolean), .methodLink RX4 72 yX4_in, .static yX4_in, .code yX4_in cX4_in 3 (some .boolean)] ++ wsX40)
def wsX4_doesLeave_r1 : List Cond := [Cond.fieldLink RX4 16 "LandBoardModel" "cells" "[I", Cond.fieldLink RX4 7 "LandBoardModel" "w" "I", Cond.fieldLink RX4 13 "LandBoardModel" "h" "I", Cond.fieldLink RX4 20 "LandBoardModel" "kind" "[I", Cond.fieldLink RX4 23 "LandBoardModel" "own" "[I", Cond.methodLink RX4 95 yX4_isWhole, Cond.instanceMethod yX4_isWhole, Cond.selects RX4 yX4_isWhole yX4_isWhole, Cond.initialized RX4, Cond.code yX4_isWhole cX4_isWhole 8 (some .boolean), Cond.fieldLink RX4 51 "LandBoardModel" "isMet" "[Z", Cond.fieldLink RX4 48 "LandBoardModel" "pile" "[I", Cond.methodLink RX4 92 yX4_beside, Cond.instanceMethod yX4_beside, Cond.selects RX4 yX4_beside yX4_beside, Cond.code yX4_beside cX4_beside 5 (some .int), Cond.methodLink RX4 80 yX4_cellAt, Cond.instanceMethod yX4_cellAt, Cond.selects RX4 yX4_cellAt yX4_cellAt, Cond.code yX4_cellAt cX4_cellAt 3 (some .int), Cond.methodLink RX4 76 yX4_isOn, Cond.instanceMethod yX4_isOn, Cond.selects RX4 yX4_isOn yX4_isOn, Cond.code yX4_isOn cX4_isOn 3 (some .boolean)]
def wsX4_doesLeave_r2 : List Cond := [Cond.methodLink RX4 72 yX4_in, Cond.static yX4_in, Cond.code yX4_in cX4_in 3 (some .boolean), Cond.methodLink RX4 88 yX4_sizeOf, Cond.instanceMethod yX4_sizeOf, Cond.selects RX4 yX4_sizeOf yX4_sizeOf, Cond.code yX4_sizeOf cX4_sizeOf 4 (some .int)]
def wsX4_doesLeave : List Cond := .code yX4_doesLeave cX4_doesLeave 8 (some .boolean) :: ((wsX4_doesLeave_r1 ++ wsX4_doesLeave_r2) ++ wsX40)
def wsX4_leaves_r1 : List Cond := [Cond.fieldLink RX4 16 "LandBoardModel" "cells" "[I", Cond.fieldLink RX4 20 "LandBoardModel" "kind" "[I", Cond.fieldLink RX4 108 "LandBoardModel" "trace" "J", Cond.constantLong RX4 112 (11), Cond.constantLong RX4 114 (111), Cond.methodLink RX4 80 yX4_cellAt, Cond.instanceMethod yX4_cellAt, Cond.selects RX4 yX4_cellAt yX4_cellAt, Cond.initialized RX4, Cond.code yX4_cellAt cX4_cellAt 3 (some .int), Cond.fieldLink RX4 7 "LandBoardModel" "w" "I", Cond.methodLink RX4 76 yX4_isOn, Cond.instanceMethod yX4_isOn, Cond.selects RX4 yX4_isOn yX4_isOn, Cond.code yX4_isOn cX4_isOn 3 (some .boolean), Cond.fieldLink RX4 13 "LandBoardModel" "h" "I", Cond.methodLink RX4 72 yX4_in, Cond.static yX4_in, Cond.code yX4_in cX4_in 3 (some .boolean), Cond.methodLink RX4 116 yX4_doesLeave, Cond.instanceMethod yX4_doesLeave, Cond.selects RX4 yX4_doesLeave yX4_doesLeave, Cond.code yX4_doesLeave cX4_doesLeave 8 (some .boolean), Cond.fieldLink RX4 23 "LandBoardModel" "own" "[I"]
def wsX4_leaves_r2 : List Cond := [Cond.methodLink RX4 95 yX4_isWhole, Cond.instanceMethod yX4_isWhole, Cond.selects RX4 yX4_isWhole yX4_isWhole, Cond.code yX4_isWhole cX4_isWhole 8 (some .boolean), Cond.fieldLink RX4 51 "LandBoardModel" "isMet" "[Z", Cond.fieldLink RX4 48 "LandBoardModel" "pile" "[I", Cond.methodLink RX4 92 yX4_beside, Cond.instanceMethod yX4_beside, Cond.selects RX4 yX4_beside yX4_beside, Cond.code yX4_beside cX4_beside 5 (some .int), Cond.methodLink RX4 88 yX4_sizeOf, Cond.instanceMethod yX4_sizeOf, Cond.selects RX4 yX4_sizeOf yX4_sizeOf, Cond.code yX4_sizeOf cX4_sizeOf 4 (some .int)]
def wsX4_leaves : List Cond := .code yX4_leaves cX4_leaves 5 (some .int) :: ((wsX4_leaves_r1 ++ wsX4_leaves_r2) ++ wsX40)
def wsX4_mayGo_r1 : List Cond := [Cond.fieldLink RX4 16 "LandBoardModel" "cells" "[I", Cond.methodLink RX4 92 yX4_beside, Cond.instanceMethod yX4_beside, Cond.selects RX4 yX4_beside yX4_beside, Cond.initialized RX4, Cond.code yX4_beside cX4_beside 5 (some .int), Cond.fieldLink RX4 7 "LandBoardModel" "w" "I", Cond.methodLink RX4 80 yX4_cellAt, Cond.instanceMethod yX4_cellAt, Cond.selects RX4 yX4_cellAt yX4_cellAt, Cond.code yX4_cellAt cX4_cellAt 3 (some .int), Cond.methodLink RX4 76 yX4_isOn, Cond.instanceMethod yX4_isOn, Cond.selects RX4 yX4_isOn yX4_isOn, Cond.code yX4_isOn cX4_isOn 3 (some .boolean), Cond.fieldLink RX4 13 "LandBoardModel" "h" "I", Cond.methodLink RX4 72 yX4_in, Cond.static yX4_in, Cond.code yX4_in cX4_in 3 (some .boolean), Cond.methodLink RX4 116 yX4_doesLeave, Cond.instanceMethod yX4_doesLeave, Cond.selects RX4 yX4_doesLeave yX4_doesLeave, Cond.code yX4_doesLeave cX4_doesLeave 8 (some .boolean), Cond.fieldLink RX4 20 "LandBoardModel" "kind" "[I"]
def wsX4_mayGo_r2 : List Cond := [Cond.fieldLink RX4 23 "LandBoardModel" "own" "[I", Cond.methodLink RX4 95 yX4_isWhole, Cond.instanceMethod yX4_isWhole, Cond.selects RX4 yX4_isWhole yX4_isWhole, Cond.code yX4_isWhole cX4_isWhole 8 (some .boolean), Cond.fieldLink RX4 51 "LandBoardModel" "isMet" "[Z", Cond.fieldLink RX4 48 "LandBoardModel" "pile" "[I", Cond.methodLink RX4 88 yX4_sizeOf, Cond.instanceMethod yX4_sizeOf, Cond.selects RX4 yX4_sizeOf yX4_sizeOf, Cond.code yX4_sizeOf cX4_sizeOf 4 (some .int), Cond.methodLink RX4 101 yX4_touches, Cond.instanceMethod yX4_touches, Cond.selects RX4 yX4_touches yX4_touches, Cond.code yX4_touches cX4_touches 8 (some .long), Cond.methodLink RX4 98 yX4_numberOf, Cond.static yX4_numberOf, Cond.code yX4_numberOf cX4_numberOf 1 (some .int)]
def wsX4_mayGo : List Cond := .code yX4_mayGo cX4_mayGo 8 (some .boolean) :: ((wsX4_mayGo_r1 ++ wsX4_mayGo_r2) ++ wsX40)
def wsX4_may_r1 : List Cond := [Cond.methodLink RX4 80 yX4_cellAt, Cond.instanceMethod yX4_cellAt, Cond.selects RX4 yX4_cellAt yX4_cellAt, Cond.initialized RX4, Cond.code yX4_cellAt cX4_cellAt 3 (some .int), Cond.fieldLink RX4 7 "LandBoardModel" "w" "I", Cond.methodLink RX4 76 yX4_isOn, Cond.instanceMethod yX4_isOn, Cond.selects RX4 yX4_isOn yX4_isOn, Cond.code yX4_isOn cX4_isOn 3 (some .boolean), Cond.fieldLink RX4 13 "LandBoardModel" "h" "I", Cond.methodLink RX4 72 yX4_in, Cond.static yX4_in, Cond.code yX4_in cX4_in 3 (some .boolean), Cond.methodLink RX4 84 yX4_isLand, Cond.static yX4_isLand, Cond.code yX4_isLand cX4_isLand 1 (some .boolean), Cond.methodLink RX4 119 yX4_mayGo, Cond.instanceMethod yX4_mayGo, Cond.selects RX4 yX4_mayGo yX4_mayGo, Cond.code yX4_mayGo cX4_mayGo 8 (some .boolean), Cond.fieldLink RX4 16 "LandBoardModel" "cells" "[I", Cond.methodLink RX4 92 yX4_beside, Cond.instanceMethod yX4_beside]
def wsX4_may_r2 : List Cond := [Cond.selects RX4 yX4_beside yX4_beside, Cond.code yX4_beside cX4_beside 5 (some .int), Cond.methodLink RX4 116 yX4_doesLeave, Cond.instanceMethod yX4_doesLeave, Cond.selects RX4 yX4_doesLeave yX4_doesLeave, Cond.code yX4_doesLeave cX4_doesLeave 8 (some .boolean), Cond.fieldLink RX4 20 "LandBoardModel" "kind" "[I", Cond.fieldLink RX4 23 "LandBoardModel" "own" "[I", Cond.methodLink RX4 95 yX4_isWhole, Cond.instanceMethod yX4_isWhole, Cond.selects RX4 yX4_isWhole yX4_isWhole, Cond.code yX4_isWhole cX4_isWhole 8 (some .boolean), Cond.fieldLink RX4 51 "LandBoardModel" "isMet" "[Z", Cond.fieldLink RX4 48 "LandBoardModel" "pile" "[I", Cond.methodLink RX4 88 yX4_sizeOf, Cond.instanceMethod yX4_sizeOf, Cond.selects RX4 yX4_sizeOf yX4_sizeOf, Cond.code yX4_sizeOf cX4_sizeOf 4 (some .int), Cond.methodLink RX4 101 yX4_touches, Cond.instanceMethod yX4_touches, Cond.selects RX4 yX4_touches yX4_touches, Cond.code yX4_touches cX4_touches 8 (some .long), Cond.methodLink RX4 98 yX4_numberOf, Cond.static yX4_numberOf]
def wsX4_may_r3 : List Cond := [Cond.code yX4_numberOf cX4_numberOf 1 (some .int)]
def wsX4_may : List Cond := .code yX4_may cX4_may 5 (some .int) :: ((wsX4_may_r1 ++ (wsX4_may_r2 ++ wsX4_may_r3)) ++ wsX40)
def wsX4_goes : List Cond := .code yX4_goes cX4_goes 3 none :: ([.fieldLink RX4 29 "LandBoardModel" "movedCell" "[I", .fieldLink RX4 122 "LandBoardModel" "nextMove" "I", .fieldLink RX4 32 "LandBoardModel" "movedFrom" "[I", .fieldLink RX4 16 "LandBoardModel" "cells" "[I", .fieldLink RX4 69 "LandBoardModel" "kept" "I", .fieldLink RX4 125 "LandBoardModel" "done" "I"] ++ wsX40)
def wsX4_move_r1 : List Cond := [Cond.fieldLink RX4 16 "LandBoardModel" "cells" "[I", Cond.methodLink RX4 80 yX4_cellAt, Cond.instanceMethod yX4_cellAt, Cond.selects RX4 yX4_cellAt yX4_cellAt, Cond.initialized RX4, Cond.code yX4_cellAt cX4_cellAt 3 (some .int), Cond.fieldLink RX4 7 "LandBoardModel" "w" "I", Cond.methodLink RX4 76 yX4_isOn, Cond.instanceMethod yX4_isOn, Cond.selects RX4 yX4_isOn yX4_isOn, Cond.code yX4_isOn cX4_isOn 3 (some .boolean), Cond.fieldLink RX4 13 "LandBoardModel" "h" "I", Cond.methodLink RX4 72 yX4_in, Cond.static yX4_in, Cond.code yX4_in cX4_in 3 (some .boolean), Cond.methodLink RX4 84 yX4_isLand, Cond.static yX4_isLand, Cond.code yX4_isLand cX4_isLand 1 (some .boolean), Cond.methodLink RX4 119 yX4_mayGo, Cond.instanceMethod yX4_mayGo, Cond.selects RX4 yX4_mayGo yX4_mayGo, Cond.code yX4_mayGo cX4_mayGo 8 (some .boolean), Cond.methodLink RX4 92 yX4_beside, Cond.instanceMethod yX4_beside]
def wsX4_move_r2 : List Cond := [Cond.selects RX4 yX4_beside yX4_beside, Cond.code yX4_beside cX4_beside 5 (some .int), Cond.methodLink RX4 116 yX4_doesLeave, Cond.instanceMethod yX4_doesLeave, Cond.selects RX4 yX4_doesLeave yX4_doesLeave, Cond.code yX4_doesLeave cX4_doesLeave 8 (some .boolean), Cond.fieldLink RX4 20 "LandBoardModel" "kind" "[I", Cond.fieldLink RX4 23 "LandBoardModel" "own" "[I", Cond.methodLink RX4 95 yX4_isWhole, Cond.instanceMethod yX4_isWhole, Cond.selects RX4 yX4_isWhole yX4_isWhole, Cond.code yX4_isWhole cX4_isWhole 8 (some .boolean), Cond.fieldLink RX4 51 "LandBoardModel" "isMet" "[Z", Cond.fieldLink RX4 48 "LandBoardModel" "pile" "[I", Cond.methodLink RX4 88 yX4_sizeOf, Cond.instanceMethod yX4_sizeOf, Cond.selects RX4 yX4_sizeOf yX4_sizeOf, Cond.code yX4_sizeOf cX4_sizeOf 4 (some .int), Cond.methodLink RX4 101 yX4_touches, Cond.instanceMethod yX4_touches, Cond.selects RX4 yX4_touches yX4_touches, Cond.code yX4_touches cX4_touches 8 (some .long), Cond.methodLink RX4 98 yX4_numberOf, Cond.static yX4_numberOf]
def wsX4_move_r3 : List Cond := [Cond.code yX4_numberOf cX4_numberOf 1 (some .int), Cond.methodLink RX4 128 yX4_goes, Cond.instanceMethod yX4_goes, Cond.selects RX4 yX4_goes yX4_goes, Cond.code yX4_goes cX4_goes 3 none, Cond.fieldLink RX4 29 "LandBoardModel" "movedCell" "[I", Cond.fieldLink RX4 122 "LandBoardModel" "nextMove" "I", Cond.fieldLink RX4 32 "LandBoardModel" "movedFrom" "[I", Cond.fieldLink RX4 69 "LandBoardModel" "kept" "I", Cond.fieldLink RX4 125 "LandBoardModel" "done" "I"]
def wsX4_move : List Cond := .code yX4_move cX4_move 6 (some .int) :: ((wsX4_move_r1 ++ (wsX4_move_r2 ++ wsX4_move_r3)) ++ wsX40)
def wsX4_want : List Cond := .code yX4_want cX4_want 4 (some .int) :: ([.fieldLink RX4 26 "LandBoardModel" "wanted" "[I", .methodLink RX4 84 yX4_isLand, .static yX4_isLand, .initialized RX4, .code yX4_isLand cX4_isLand 1 (some .boolean), .methodLink RX4 72 yX4_in, .static yX4_in, .code yX4_in cX4_in 3 (some .boolean)] ++ wsX40)
def wsX4_missNow : List Cond := .code yX4_missNow cX4_missNow 5 (some .int) :: ([.fieldLink RX4 26 "LandBoardModel" "wanted" "[I", .methodLink RX4 88 yX4_sizeOf, .instanceMethod yX4_sizeOf, .selects RX4 yX4_sizeOf yX4_sizeOf, .initialized RX4, .code yX4_sizeOf cX4_sizeOf 4 (some .int), .fieldLink RX4 7 "LandBoardModel" "w" "I", .fieldLink RX4 13 "LandBoardModel" "h" "I", .fieldLink RX4 16 "LandBoardModel" "cells" "[I"] ++ wsX40)
def wsX4_miss : List Cond := .code yX4_miss cX4_miss 1 (some .int) :: ([.methodLink RX4 132 yX4_missNow, .instanceMethod yX4_missNow, .selects RX4 yX4_missNow yX4_missNow, .initialized RX4, .code yX4_missNow cX4_missNow 5 (some .int), .fieldLink RX4 26 "LandBoardModel" "wanted" "[I", .methodLink RX4 88 yX4_sizeOf, .instanceMethod yX4_sizeOf, .selects RX4 yX4_sizeOf yX4_sizeOf, .code yX4_sizeOf cX4_sizeOf 4 (some .int), .fieldLink RX4 7 "LandBoardModel" "w" "I", .fieldLink RX4 13 "LandBoardModel" "h" "I", .fieldLink RX4 16 "LandBoardModel" "cells" "[I"] ++ wsX40)
def wsX4_goesOn_r1 : List Cond := [Cond.fieldLink RX4 7 "LandBoardModel" "w" "I", Cond.fieldLink RX4 13 "LandBoardModel" "h" "I", Cond.fieldLink RX4 16 "LandBoardModel" "cells" "[I", Cond.methodLink RX4 132 yX4_missNow, Cond.instanceMethod yX4_missNow, Cond.selects RX4 yX4_missNow yX4_missNow, Cond.initialized RX4, Cond.code yX4_missNow cX4_missNow 5 (some .int), Cond.fieldLink RX4 26 "LandBoardModel" "wanted" "[I", Cond.methodLink RX4 88 yX4_sizeOf, Cond.instanceMethod yX4_sizeOf, Cond.selects RX4 yX4_sizeOf yX4_sizeOf, Cond.code yX4_sizeOf cX4_sizeOf 4 (some .int), Cond.methodLink RX4 119 yX4_mayGo, Cond.instanceMethod yX4_mayGo, Cond.selects RX4 yX4_mayGo yX4_mayGo, Cond.code yX4_mayGo cX4_mayGo 8 (some .boolean), Cond.methodLink RX4 92 yX4_beside, Cond.instanceMethod yX4_beside, Cond.selects RX4 yX4_beside yX4_beside, Cond.code yX4_beside cX4_beside 5 (some .int), Cond.methodLink RX4 80 yX4_cellAt, Cond.instanceMethod yX4_cellAt, Cond.selects RX4 yX4_cellAt yX4_cellAt]
def wsX4_goesOn_r2 : List Cond := [Cond.code yX4_cellAt cX4_cellAt 3 (some .int), Cond.methodLink RX4 76 yX4_isOn, Cond.instanceMethod yX4_isOn, Cond.selects RX4 yX4_isOn yX4_isOn, Cond.code yX4_isOn cX4_isOn 3 (some .boolean), Cond.methodLink RX4 72 yX4_in, Cond.static yX4_in, Cond.code yX4_in cX4_in 3 (some .boolean), Cond.methodLink RX4 116 yX4_doesLeave, Cond.instanceMethod yX4_doesLeave, Cond.selects RX4 yX4_doesLeave yX4_doesLeave, Cond.code yX4_doesLeave cX4_doesLeave 8 (some .boolean), Cond.fieldLink RX4 20 "LandBoardModel" "kind" "[I", Cond.fieldLink RX4 23 "LandBoardModel" "own" "[I", Cond.methodLink RX4 95 yX4_isWhole, Cond.instanceMethod yX4_isWhole, Cond.selects RX4 yX4_isWhole yX4_isWhole, Cond.code yX4_isWhole cX4_isWhole 8 (some .boolean), Cond.fieldLink RX4 51 "LandBoardModel" "isMet" "[Z", Cond.fieldLink RX4 48 "LandBoardModel" "pile" "[I", Cond.methodLink RX4 101 yX4_touches, Cond.instanceMethod yX4_touches, Cond.selects RX4 yX4_touches yX4_touches, Cond.code yX4_touches cX4_touches 8 (some .long)]
def wsX4_goesOn_r3 : List Cond := [Cond.methodLink RX4 98 yX4_numberOf, Cond.static yX4_numberOf, Cond.code yX4_numberOf cX4_numberOf 1 (some .int), Cond.methodLink RX4 128 yX4_goes, Cond.instanceMethod yX4_goes, Cond.selects RX4 yX4_goes yX4_goes, Cond.code yX4_goes cX4_goes 3 none, Cond.fieldLink RX4 29 "LandBoardModel" "movedCell" "[I", Cond.fieldLink RX4 122 "LandBoardModel" "nextMove" "I", Cond.fieldLink RX4 32 "LandBoardModel" "movedFrom" "[I", Cond.fieldLink RX4 69 "LandBoardModel" "kept" "I", Cond.fieldLink RX4 125 "LandBoardModel" "done" "I"]
def wsX4_goesOn : List Cond := .code yX4_goesOn cX4_goesOn 8 (some .boolean) :: ((wsX4_goesOn_r1 ++ (wsX4_goesOn_r2 ++ wsX4_goesOn_r3)) ++ wsX40)
def wsX4_steps_r1 : List Cond := [Cond.methodLink RX4 72 yX4_in, Cond.static yX4_in, Cond.initialized RX4, Cond.code yX4_in cX4_in 3 (some .boolean), Cond.methodLink RX4 136 yX4_goesOn, Cond.instanceMethod yX4_goesOn, Cond.selects RX4 yX4_goesOn yX4_goesOn, Cond.code yX4_goesOn cX4_goesOn 8 (some .boolean), Cond.fieldLink RX4 7 "LandBoardModel" "w" "I", Cond.fieldLink RX4 13 "LandBoardModel" "h" "I", Cond.fieldLink RX4 16 "LandBoardModel" "cells" "[I", Cond.methodLink RX4 132 yX4_missNow, Cond.instanceMethod yX4_missNow, Cond.selects RX4 yX4_missNow yX4_missNow, Cond.code yX4_missNow cX4_missNow 5 (some .int), Cond.fieldLink RX4 26 "LandBoardModel" "wanted" "[I", Cond.methodLink RX4 88 yX4_sizeOf, Cond.instanceMethod yX4_sizeOf, Cond.selects RX4 yX4_sizeOf yX4_sizeOf, Cond.code yX4_sizeOf cX4_sizeOf 4 (some .int), Cond.methodLink RX4 119 yX4_mayGo, Cond.instanceMethod yX4_mayGo, Cond.selects RX4 yX4_mayGo yX4_mayGo, Cond.code yX4_mayGo cX4_mayGo 8 (some .boolean)]
def wsX4_steps_r2 : List Cond := [Cond.methodLink RX4 92 yX4_beside, Cond.instanceMethod yX4_beside, Cond.selects RX4 yX4_beside yX4_beside, Cond.code yX4_beside cX4_beside 5 (some .int), Cond.methodLink RX4 80 yX4_cellAt, Cond.instanceMethod yX4_cellAt, Cond.selects RX4 yX4_cellAt yX4_cellAt, Cond.code yX4_cellAt cX4_cellAt 3 (some .int), Cond.methodLink RX4 76 yX4_isOn, Cond.instanceMethod yX4_isOn, Cond.selects RX4 yX4_isOn yX4_isOn, Cond.code yX4_isOn cX4_isOn 3 (some .boolean), Cond.methodLink RX4 116 yX4_doesLeave, Cond.instanceMethod yX4_doesLeave, Cond.selects RX4 yX4_doesLeave yX4_doesLeave, Cond.code yX4_doesLeave cX4_doesLeave 8 (some .boolean), Cond.fieldLink RX4 20 "LandBoardModel" "kind" "[I", Cond.fieldLink RX4 23 "LandBoardModel" "own" "[I", Cond.methodLink RX4 95 yX4_isWhole, Cond.instanceMethod yX4_isWhole, Cond.selects RX4 yX4_isWhole yX4_isWhole, Cond.code yX4_isWhole cX4_isWhole 8 (some .boolean), Cond.fieldLink RX4 51 "LandBoardModel" "isMet" "[Z", Cond.fieldLink RX4 48 "LandBoardModel" "pile" "[I"]
def wsX4_steps_r3 : List Cond := [Cond.methodLink RX4 101 yX4_touches, Cond.instanceMethod yX4_touches, Cond.selects RX4 yX4_touches yX4_touches, Cond.code yX4_touches cX4_touches 8 (some .long), Cond.methodLink RX4 98 yX4_numberOf, Cond.static yX4_numberOf, Cond.code yX4_numberOf cX4_numberOf 1 (some .int), Cond.methodLink RX4 128 yX4_goes, Cond.instanceMethod yX4_goes, Cond.selects RX4 yX4_goes yX4_goes, Cond.code yX4_goes cX4_goes 3 none, Cond.fieldLink RX4 29 "LandBoardModel" "movedCell" "[I", Cond.fieldLink RX4 122 "LandBoardModel" "nextMove" "I", Cond.fieldLink RX4 32 "LandBoardModel" "movedFrom" "[I", Cond.fieldLink RX4 69 "LandBoardModel" "kept" "I", Cond.fieldLink RX4 125 "LandBoardModel" "done" "I"]
def wsX4_steps : List Cond := .code yX4_steps cX4_steps 4 (some .int) :: ((wsX4_steps_r1 ++ (wsX4_steps_r2 ++ wsX4_steps_r3)) ++ wsX40)
def wsX4_undo : List Cond := .code yX4_undo cX4_undo 3 (some .int) :: ([.fieldLink RX4 69 "LandBoardModel" "kept" "I", .fieldLink RX4 122 "LandBoardModel" "nextMove" "I", .fieldLink RX4 16 "LandBoardModel" "cells" "[I", .fieldLink RX4 29 "LandBoardModel" "movedCell" "[I", .fieldLink RX4 32 "LandBoardModel" "movedFrom" "[I", .methodLink RX4 72 yX4_in, .static yX4_in, .initialized RX4, .code yX4_in cX4_in 3 (some .boolean)] ++ wsX40)
def wsX4_sound : List Cond := .code yX4_sound cX4_sound 7 none :: ([.fieldLink RX4 7 "LandBoardModel" "w" "I", .fieldLink RX4 13 "LandBoardModel" "h" "I", .fieldLink RX4 54 "LandBoardModel" "deep" "[I", .fieldLink RX4 16 "LandBoardModel" "cells" "[I", .methodLink RX4 92 yX4_beside, .instanceMethod yX4_beside, .selects RX4 yX4_beside yX4_beside, .initialized RX4, .code yX4_beside cX4_beside 5 (some .int), .methodLink RX4 80 yX4_cellAt, .instanceMethod yX4_cellAt, .selects RX4 yX4_cellAt yX4_cellAt, .code yX4_cellAt cX4_cellAt 3 (some .int), .methodLink RX4 76 yX4_isOn, .instanceMethod yX4_isOn, .selects RX4 yX4_isOn yX4_isOn, .code yX4_isOn cX4_isOn 3 (some .boolean), .methodLink RX4 72 yX4_in, .static yX4_in, .code yX4_in cX4_in 3 (some .boolean)] ++ wsX40)
def wsX4_label_r1 : List Cond := [Cond.fieldLink RX4 7 "LandBoardModel" "w" "I", Cond.fieldLink RX4 13 "LandBoardModel" "h" "I", Cond.fieldLink RX4 54 "LandBoardModel" "deep" "[I", Cond.methodLink RX4 84 yX4_isLand, Cond.static yX4_isLand, Cond.initialized RX4, Cond.code yX4_isLand cX4_isLand 1 (some .boolean), Cond.methodLink RX4 72 yX4_in, Cond.static yX4_in, Cond.code yX4_in cX4_in 3 (some .boolean), Cond.methodLink RX4 88 yX4_sizeOf, Cond.instanceMethod yX4_sizeOf, Cond.selects RX4 yX4_sizeOf yX4_sizeOf, Cond.code yX4_sizeOf cX4_sizeOf 4 (some .int), Cond.fieldLink RX4 16 "LandBoardModel" "cells" "[I", Cond.methodLink RX4 140 yX4_sound, Cond.instanceMethod yX4_sound, Cond.selects RX4 yX4_sound yX4_sound, Cond.code yX4_sound cX4_sound 7 none, Cond.methodLink RX4 92 yX4_beside, Cond.instanceMethod yX4_beside, Cond.selects RX4 yX4_beside yX4_beside, Cond.code yX4_beside cX4_beside 5 (some .int), Cond.methodLink RX4 80 yX4_cellAt]
def wsX4_label_r2 : List Cond := [Cond.instanceMethod yX4_cellAt, Cond.selects RX4 yX4_cellAt yX4_cellAt, Cond.code yX4_cellAt cX4_cellAt 3 (some .int), Cond.methodLink RX4 76 yX4_isOn, Cond.instanceMethod yX4_isOn, Cond.selects RX4 yX4_isOn yX4_isOn, Cond.code yX4_isOn cX4_isOn 3 (some .boolean)]
def wsX4_label : List Cond := .code yX4_label cX4_label 5 (some .int) :: ((wsX4_label_r1 ++ wsX4_label_r2) ++ wsX40)
def wsX4_weigh : List Cond := .code yX4_weigh cX4_weigh 3 none :: ([.fieldLink RX4 144 "LandBoardModel" "many" "I", .fieldLink RX4 147 "LandBoardModel" "total" "I", .fieldLink RX4 57 "LandBoardModel" "weight" "[I", .fieldLink RX4 60 "LandBoardModel" "lands" "[I", .methodLink RX4 88 yX4_sizeOf, .instanceMethod yX4_sizeOf, .selects RX4 yX4_sizeOf yX4_sizeOf, .initialized RX4, .code yX4_sizeOf cX4_sizeOf 4 (some .int), .fieldLink RX4 7 "LandBoardModel" "w" "I", .fieldLink RX4 13 "LandBoardModel" "h" "I", .fieldLink RX4 16 "LandBoardModel" "cells" "[I"] ++ wsX40)
def wsX4_lay : List Cond := .code yX4_lay cX4_lay 6 none :: ([.fieldLink RX4 150 "LandBoardModel" "ahead" "I", .fieldLink RX4 153 "LandBoardModel" "rowSum" "I", .fieldLink RX4 156 "LandBoardModel" "above" "I", .fieldLink RX4 57 "LandBoardModel" "weight" "[I", .fieldLink RX4 144 "LandBoardModel" "many" "I"] ++ wsX40)
def wsX4_boxOf_r1 : List Cond := [Cond.fieldLink RX4 144 "LandBoardModel" "many" "I", Cond.fieldLink RX4 60 "LandBoardModel" "lands" "[I", Cond.methodLink RX4 84 yX4_isLand, Cond.static yX4_isLand, Cond.initialized RX4, Cond.code yX4_isLand cX4_isLand 1 (some .boolean), Cond.methodLink RX4 72 yX4_in, Cond.static yX4_in, Cond.code yX4_in cX4_in 3 (some .boolean), Cond.methodLink RX4 88 yX4_sizeOf, Cond.instanceMethod yX4_sizeOf, Cond.selects RX4 yX4_sizeOf yX4_sizeOf, Cond.code yX4_sizeOf cX4_sizeOf 4 (some .int), Cond.fieldLink RX4 7 "LandBoardModel" "w" "I", Cond.fieldLink RX4 13 "LandBoardModel" "h" "I", Cond.fieldLink RX4 16 "LandBoardModel" "cells" "[I", Cond.methodLink RX4 159 yX4_weigh, Cond.instanceMethod yX4_weigh, Cond.selects RX4 yX4_weigh yX4_weigh, Cond.code yX4_weigh cX4_weigh 3 none, Cond.fieldLink RX4 147 "LandBoardModel" "total" "I", Cond.fieldLink RX4 57 "LandBoardModel" "weight" "[I", Cond.methodLink RX4 162 yX4_lay, Cond.instanceMethod yX4_lay]
def wsX4_boxOf_r2 : List Cond := [Cond.selects RX4 yX4_lay yX4_lay, Cond.code yX4_lay cX4_lay 6 none, Cond.fieldLink RX4 150 "LandBoardModel" "ahead" "I", Cond.fieldLink RX4 153 "LandBoardModel" "rowSum" "I", Cond.fieldLink RX4 156 "LandBoardModel" "above" "I"]
def wsX4_boxOf : List Cond := .code yX4_boxOf cX4_boxOf 4 (some .int) :: ((wsX4_boxOf_r1 ++ wsX4_boxOf_r2) ++ wsX40)
def wsX4_common : List Cond := .code yX4_common cX4_common 5 (some .int) :: ([])
def wsX4_longUp : List Cond := .code yX4_longUp cX4_longUp 4 (some .int) :: ([.fieldLink RX4 57 "LandBoardModel" "weight" "[I", .fieldLink RX4 147 "LandBoardModel" "total" "I", .fieldLink RX4 153 "LandBoardModel" "rowSum" "I", .methodLink RX4 165 yX4_common, .static yX4_common, .initialized RX4, .code yX4_common cX4_common 5 (some .int)] ++ wsX40)
def wsX4_longDown : List Cond := .code yX4_longDown cX4_longDown 4 (some .int) :: ([.fieldLink RX4 57 "LandBoardModel" "weight" "[I", .fieldLink RX4 147 "LandBoardModel" "total" "I", .fieldLink RX4 153 "LandBoardModel" "rowSum" "I", .methodLink RX4 165 yX4_common, .static yX4_common, .initialized RX4, .code yX4_common cX4_common 5 (some .int)] ++ wsX40)
def wsX4_longer_r1 : List Cond := [Cond.methodLink RX4 72 yX4_in, Cond.static yX4_in, Cond.initialized RX4, Cond.code yX4_in cX4_in 3 (some .boolean), Cond.methodLink RX4 168 yX4_boxOf, Cond.instanceMethod yX4_boxOf, Cond.selects RX4 yX4_boxOf yX4_boxOf, Cond.code yX4_boxOf cX4_boxOf 4 (some .int), Cond.fieldLink RX4 144 "LandBoardModel" "many" "I", Cond.fieldLink RX4 60 "LandBoardModel" "lands" "[I", Cond.methodLink RX4 84 yX4_isLand, Cond.static yX4_isLand, Cond.code yX4_isLand cX4_isLand 1 (some .boolean), Cond.methodLink RX4 88 yX4_sizeOf, Cond.instanceMethod yX4_sizeOf, Cond.selects RX4 yX4_sizeOf yX4_sizeOf, Cond.code yX4_sizeOf cX4_sizeOf 4 (some .int), Cond.fieldLink RX4 7 "LandBoardModel" "w" "I", Cond.fieldLink RX4 13 "LandBoardModel" "h" "I", Cond.fieldLink RX4 16 "LandBoardModel" "cells" "[I", Cond.methodLink RX4 159 yX4_weigh, Cond.instanceMethod yX4_weigh, Cond.selects RX4 yX4_weigh yX4_weigh, Cond.code yX4_weigh cX4_weigh 3 none]
def wsX4_longer_r2 : List Cond := [Cond.fieldLink RX4 147 "LandBoardModel" "total" "I", Cond.fieldLink RX4 57 "LandBoardModel" "weight" "[I", Cond.methodLink RX4 162 yX4_lay, Cond.instanceMethod yX4_lay, Cond.selects RX4 yX4_lay yX4_lay, Cond.code yX4_lay cX4_lay 6 none, Cond.fieldLink RX4 150 "LandBoardModel" "ahead" "I", Cond.fieldLink RX4 153 "LandBoardModel" "rowSum" "I", Cond.fieldLink RX4 156 "LandBoardModel" "above" "I", Cond.methodLink RX4 171 yX4_longUp, Cond.instanceMethod yX4_longUp, Cond.selects RX4 yX4_longUp yX4_longUp, Cond.code yX4_longUp cX4_longUp 4 (some .int), Cond.methodLink RX4 165 yX4_common, Cond.static yX4_common, Cond.code yX4_common cX4_common 5 (some .int), Cond.methodLink RX4 174 yX4_longDown, Cond.instanceMethod yX4_longDown, Cond.selects RX4 yX4_longDown yX4_longDown, Cond.code yX4_longDown cX4_longDown 4 (some .int)]
def wsX4_longer : List Cond := .code yX4_longer cX4_longer 5 (some .int) :: ((wsX4_longer_r1 ++ wsX4_longer_r2) ++ wsX40)
def wsX4_box_r1 : List Cond := [Cond.fieldLink RX4 150 "LandBoardModel" "ahead" "I", Cond.fieldLink RX4 153 "LandBoardModel" "rowSum" "I", Cond.fieldLink RX4 156 "LandBoardModel" "above" "I", Cond.fieldLink RX4 147 "LandBoardModel" "total" "I", Cond.fieldLink RX4 57 "LandBoardModel" "weight" "[I", Cond.methodLink RX4 72 yX4_in, Cond.static yX4_in, Cond.initialized RX4, Cond.code yX4_in cX4_in 3 (some .boolean), Cond.methodLink RX4 168 yX4_boxOf, Cond.instanceMethod yX4_boxOf, Cond.selects RX4 yX4_boxOf yX4_boxOf, Cond.code yX4_boxOf cX4_boxOf 4 (some .int), Cond.fieldLink RX4 144 "LandBoardModel" "many" "I", Cond.fieldLink RX4 60 "LandBoardModel" "lands" "[I", Cond.methodLink RX4 84 yX4_isLand, Cond.static yX4_isLand, Cond.code yX4_isLand cX4_isLand 1 (some .boolean), Cond.methodLink RX4 88 yX4_sizeOf, Cond.instanceMethod yX4_sizeOf, Cond.selects RX4 yX4_sizeOf yX4_sizeOf, Cond.code yX4_sizeOf cX4_sizeOf 4 (some .int), Cond.fieldLink RX4 7 "LandBoardModel" "w" "I", Cond.fieldLink RX4 13 "LandBoardModel" "h" "I"]
def wsX4_box_r2 : List Cond := [Cond.fieldLink RX4 16 "LandBoardModel" "cells" "[I", Cond.methodLink RX4 159 yX4_weigh, Cond.instanceMethod yX4_weigh, Cond.selects RX4 yX4_weigh yX4_weigh, Cond.code yX4_weigh cX4_weigh 3 none, Cond.methodLink RX4 162 yX4_lay, Cond.instanceMethod yX4_lay, Cond.selects RX4 yX4_lay yX4_lay, Cond.code yX4_lay cX4_lay 6 none]
def wsX4_box : List Cond := .code yX4_box cX4_box 5 (some .int) :: ((wsX4_box_r1 ++ wsX4_box_r2) ++ wsX40)
def wsX4_best_r1 : List Cond := [Cond.fieldLink RX4 144 "LandBoardModel" "many" "I", Cond.methodLink RX4 159 yX4_weigh, Cond.instanceMethod yX4_weigh, Cond.selects RX4 yX4_weigh yX4_weigh, Cond.initialized RX4, Cond.code yX4_weigh cX4_weigh 3 none, Cond.fieldLink RX4 147 "LandBoardModel" "total" "I", Cond.fieldLink RX4 57 "LandBoardModel" "weight" "[I", Cond.fieldLink RX4 60 "LandBoardModel" "lands" "[I", Cond.methodLink RX4 88 yX4_sizeOf, Cond.instanceMethod yX4_sizeOf, Cond.selects RX4 yX4_sizeOf yX4_sizeOf, Cond.code yX4_sizeOf cX4_sizeOf 4 (some .int), Cond.fieldLink RX4 7 "LandBoardModel" "w" "I", Cond.fieldLink RX4 13 "LandBoardModel" "h" "I", Cond.fieldLink RX4 16 "LandBoardModel" "cells" "[I", Cond.methodLink RX4 162 yX4_lay, Cond.instanceMethod yX4_lay, Cond.selects RX4 yX4_lay yX4_lay, Cond.code yX4_lay cX4_lay 6 none, Cond.fieldLink RX4 150 "LandBoardModel" "ahead" "I", Cond.fieldLink RX4 153 "LandBoardModel" "rowSum" "I", Cond.fieldLink RX4 156 "LandBoardModel" "above" "I", Cond.methodLink RX4 171 yX4_longUp]
def wsX4_best_r2 : List Cond := [Cond.instanceMethod yX4_longUp, Cond.selects RX4 yX4_longUp yX4_longUp, Cond.code yX4_longUp cX4_longUp 4 (some .int), Cond.methodLink RX4 165 yX4_common, Cond.static yX4_common, Cond.code yX4_common cX4_common 5 (some .int), Cond.methodLink RX4 174 yX4_longDown, Cond.instanceMethod yX4_longDown, Cond.selects RX4 yX4_longDown yX4_longDown, Cond.code yX4_longDown cX4_longDown 4 (some .int)]
def wsX4_best : List Cond := .code yX4_best cX4_best 11 (some .int) :: ((wsX4_best_r1 ++ wsX4_best_r2) ++ wsX40)
def wsX4_isYear : List Cond := .code yX4_isYear cX4_isYear 1 (some .boolean) :: ([.methodLink RX4 72 yX4_in, .static yX4_in, .initialized RX4, .code yX4_in cX4_in 3 (some .boolean)])
def wsX4_landCells : List Cond := .code yX4_landCells cX4_landCells 1 (some .int) :: ([.fieldLink RX4 7 "LandBoardModel" "w" "I", .fieldLink RX4 13 "LandBoardModel" "h" "I", .methodLink RX4 88 yX4_sizeOf, .instanceMethod yX4_sizeOf, .selects RX4 yX4_sizeOf yX4_sizeOf, .initialized RX4, .code yX4_sizeOf cX4_sizeOf 4 (some .int), .fieldLink RX4 16 "LandBoardModel" "cells" "[I"] ++ wsX40)
def wsX4_keep : List Cond := .code yX4_keep cX4_keep 3 (some .int) :: ([.fieldLink RX4 35 "LandBoardModel" "hasYear" "[Z", .fieldLink RX4 39 "LandBoardModel" "yearW" "[I", .fieldLink RX4 7 "LandBoardModel" "w" "I", .fieldLink RX4 42 "LandBoardModel" "yearH" "[I", .fieldLink RX4 13 "LandBoardModel" "h" "I", .fieldLink RX4 45 "LandBoardModel" "year" "[I", .fieldLink RX4 16 "LandBoardModel" "cells" "[I", .methodLink RX4 177 yX4_isYear, .static yX4_isYear, .initialized RX4, .code yX4_isYear cX4_isYear 1 (some .boolean), .methodLink RX4 72 yX4_in, .static yX4_in, .code yX4_in cX4_in 3 (some .boolean), .methodLink RX4 180 yX4_landCells, .instanceMethod yX4_landCells, .selects RX4 yX4_landCells yX4_landCells, .code yX4_landCells cX4_landCells 1 (some .int), .methodLink RX4 88 yX4_sizeOf, .instanceMethod yX4_sizeOf, .selects RX4 yX4_sizeOf yX4_sizeOf, .code yX4_sizeOf cX4_sizeOf 4 (some .int)] ++ wsX40)
def wsX4_back_r1 : List Cond := [Cond.fieldLink RX4 35 "LandBoardModel" "hasYear" "[Z", Cond.fieldLink RX4 39 "LandBoardModel" "yearW" "[I", Cond.fieldLink RX4 7 "LandBoardModel" "w" "I", Cond.fieldLink RX4 42 "LandBoardModel" "yearH" "[I", Cond.fieldLink RX4 13 "LandBoardModel" "h" "I", Cond.fieldLink RX4 16 "LandBoardModel" "cells" "[I", Cond.fieldLink RX4 45 "LandBoardModel" "year" "[I", Cond.methodLink RX4 177 yX4_isYear, Cond.static yX4_isYear, Cond.initialized RX4, Cond.code yX4_isYear cX4_isYear 1 (some .boolean), Cond.methodLink RX4 72 yX4_in, Cond.static yX4_in, Cond.code yX4_in cX4_in 3 (some .boolean), Cond.methodLink RX4 66 yX4_plain, Cond.instanceMethod yX4_plain, Cond.selects RX4 yX4_plain yX4_plain, Cond.code yX4_plain cX4_plain 2 none, Cond.fieldLink RX4 20 "LandBoardModel" "kind" "[I", Cond.fieldLink RX4 23 "LandBoardModel" "own" "[I", Cond.fieldLink RX4 69 "LandBoardModel" "kept" "I", Cond.methodLink RX4 180 yX4_landCells, Cond.instanceMethod yX4_landCells, Cond.selects RX4 yX4_landCells yX4_landCells]
def wsX4_back_r2 : List Cond := [Cond.code yX4_landCells cX4_landCells 1 (some .int), Cond.methodLink RX4 88 yX4_sizeOf, Cond.instanceMethod yX4_sizeOf, Cond.selects RX4 yX4_sizeOf yX4_sizeOf, Cond.code yX4_sizeOf cX4_sizeOf 4 (some .int)]
def wsX4_back : List Cond := .code yX4_back cX4_back 3 (some .int) :: ((wsX4_back_r1 ++ wsX4_back_r2) ++ wsX40)
def wsX4_moved : List Cond := .code yX4_moved cX4_moved 5 (some .int) :: ([.fieldLink RX4 35 "LandBoardModel" "hasYear" "[Z", .fieldLink RX4 39 "LandBoardModel" "yearW" "[I", .fieldLink RX4 42 "LandBoardModel" "yearH" "[I", .fieldLink RX4 45 "LandBoardModel" "year" "[I", .methodLink RX4 177 yX4_isYear, .static yX4_isYear, .initialized RX4, .code yX4_isYear cX4_isYear 1 (some .boolean), .methodLink RX4 72 yX4_in, .static yX4_in, .code yX4_in cX4_in 3 (some .boolean)] ++ wsX40)
def wsX4_count : List Cond := .code yX4_count cX4_count 4 (some .int) :: ([.fieldLink RX4 7 "LandBoardModel" "w" "I", .fieldLink RX4 13 "LandBoardModel" "h" "I", .fieldLink RX4 69 "LandBoardModel" "kept" "I", .fieldLink RX4 125 "LandBoardModel" "done" "I", .methodLink RX4 88 yX4_sizeOf, .instanceMethod yX4_sizeOf, .selects RX4 yX4_sizeOf yX4_sizeOf, .initialized RX4, .code yX4_sizeOf cX4_sizeOf 4 (some .int), .fieldLink RX4 16 "LandBoardModel" "cells" "[I"] ++ wsX40)
def wsX4_trace : List Cond := .code yX4_trace cX4_trace 1 (some .long) :: ([.fieldLink RX4 108 "LandBoardModel" "trace" "J"] ++ wsX40)
def wsJ9_abs_0f7a4 : List Cond := .code yJ9_abs_0f7a4 cJ9_abs_0f7a4 1 (some .int) :: ([])
def wsJ9_max_7cf53 : List Cond := .code yJ9_max_7cf53 cJ9_max_7cf53 2 (some .int) :: ([])
def wsJ9_min_7cf53 : List Cond := .code yJ9_min_7cf53 cJ9_min_7cf53 2 (some .int) :: ([])
def wsL_law_r1 : List Cond := [Cond.classLink RL 7 RX3, Cond.instantiable RX3 8, Cond.initialized RX3, Cond.classLink RL 10 RX4, Cond.instantiable RX4 26, Cond.initialized RX4, Cond.methodLink RL 9 yX3_init, Cond.instanceMethod yX3_init, Cond.code yX3_init cX3_init 1 none, Cond.methodLink RX3 3 objectInit, Cond.instanceMethod objectInit, Cond.code objectInit ⟨#[0xb1]⟩ 1 none, Cond.classLink RX3 9 RX0, Cond.instantiable RX0 5, Cond.initialized RX0, Cond.fieldLink RX3 12 "LandBoard" "now" "LLandBoard$Grid;", Cond.classLink RX3 16 RX1, Cond.instantiable RX1 5, Cond.initialized RX1, Cond.fieldLink RX3 19 "LandBoard" "moves" "LLandBoard$Moves;", Cond.classLink RX3 23 RX2, Cond.instantiable RX2 7, Cond.initialized RX2, Cond.fieldLink RX3 26 "LandBoard" "rows" "LLandBoard$Rows;"]
def wsL_law_r2 : List Cond := [Cond.fieldLink RX3 30 "LandBoard" "years" "[LLandBoard$Grid;", Cond.arrayClass .int, Cond.fieldLink RX3 34 "LandBoard" "kinds" "[I", Cond.fieldLink RX3 38 "LandBoard" "owns" "[I", Cond.fieldLink RX3 41 "LandBoard" "wants" "[I", Cond.instanceMethod yX0_init, Cond.code yX0_init cX0_init 1 none, Cond.methodLink RX0 3 objectInit, Cond.arrayClass .long, Cond.fieldLink RX0 9 "LandBoard$Grid" "lands" "[J", Cond.instanceMethod yX1_init, Cond.code yX1_init cX1_init 1 none, Cond.methodLink RX1 3 objectInit, Cond.fieldLink RX1 9 "LandBoard$Moves" "cells" "[I", Cond.fieldLink RX1 15 "LandBoard$Moves" "froms" "[I", Cond.instanceMethod yX2_init, Cond.code yX2_init cX2_init 1 none, Cond.methodLink RX2 3 objectInit, Cond.fieldLink RX2 9 "LandBoard$Rows" "places" "[I", Cond.fieldLink RX2 15 "LandBoard$Rows" "weights" "[I", Cond.fieldLink RX2 18 "LandBoard$Rows" "lefts" "[I", Cond.fieldLink RX2 21 "LandBoard$Rows" "aboves" "[I", Cond.fieldLink RX2 24 "LandBoard$Rows" "rowWeights" "[I", Cond.methodLink RX3 44 yX0_clear]
def wsL_law_r3 : List Cond := [Cond.instanceMethod yX0_clear, Cond.selects RX0 yX0_clear yX0_clear, Cond.code yX0_clear cX0_clear 4 none, Cond.fieldLink RX0 15 "LandBoard$Grid" "width" "I", Cond.fieldLink RX0 19 "LandBoard$Grid" "height" "I", Cond.fieldLink RX0 22 "LandBoard$Grid" "all" "J", Cond.constantLong RX0 30 (-1), Cond.fieldLink RX0 32 "LandBoard$Grid" "edge" "J", Cond.static yX3_inside, Cond.code yX3_inside cX3_inside 2 (some .long), Cond.methodLink RX3 240 yX3_toRight, Cond.static yX3_toRight, Cond.code yX3_toRight cX3_toRight 2 (some .long), Cond.constantLong RX3 236 (9187201950435737471), Cond.methodLink RX3 243 yX3_toLeft, Cond.static yX3_toLeft, Cond.code yX3_toLeft cX3_toLeft 2 (some .long), Cond.constantLong RX3 238 (-72340172838076674), Cond.methodLink RX3 48 yX3_forgetKinds, Cond.instanceMethod yX3_forgetKinds, Cond.selects RX3 yX3_forgetKinds yX3_forgetKinds, Cond.code yX3_forgetKinds cX3_forgetKinds 2 none, Cond.methodLink RL 12 yX4_init, Cond.instanceMethod yX4_init]
def wsL_law_r4 : List Cond := [Cond.code yX4_init cX4_init 1 none, Cond.methodLink RX4 1 objectInit, Cond.fieldLink RX4 7 "LandBoardModel" "w" "I", Cond.fieldLink RX4 13 "LandBoardModel" "h" "I", Cond.fieldLink RX4 16 "LandBoardModel" "cells" "[I", Cond.fieldLink RX4 20 "LandBoardModel" "kind" "[I", Cond.fieldLink RX4 23 "LandBoardModel" "own" "[I", Cond.fieldLink RX4 26 "LandBoardModel" "wanted" "[I", Cond.fieldLink RX4 29 "LandBoardModel" "movedCell" "[I", Cond.fieldLink RX4 32 "LandBoardModel" "movedFrom" "[I", Cond.arrayClass .boolean, Cond.fieldLink RX4 35 "LandBoardModel" "hasYear" "[Z", Cond.fieldLink RX4 39 "LandBoardModel" "yearW" "[I", Cond.fieldLink RX4 42 "LandBoardModel" "yearH" "[I", Cond.fieldLink RX4 45 "LandBoardModel" "year" "[I", Cond.fieldLink RX4 48 "LandBoardModel" "pile" "[I", Cond.fieldLink RX4 51 "LandBoardModel" "isMet" "[Z", Cond.fieldLink RX4 54 "LandBoardModel" "deep" "[I", Cond.fieldLink RX4 57 "LandBoardModel" "weight" "[I", Cond.fieldLink RX4 60 "LandBoardModel" "lands" "[I", Cond.methodLink RX4 63 yX4_clears, Cond.instanceMethod yX4_clears, Cond.selects RX4 yX4_clears yX4_clears, Cond.code yX4_clears cX4_clears 2 none]
def wsL_law_r5 : List Cond := [Cond.methodLink RX4 66 yX4_plain, Cond.instanceMethod yX4_plain, Cond.selects RX4 yX4_plain yX4_plain, Cond.code yX4_plain cX4_plain 2 none, Cond.fieldLink RX4 69 "LandBoardModel" "kept" "I", Cond.methodLink RL 13 yX3_board, Cond.instanceMethod yX3_board, Cond.selects RX3 yX3_board yX3_board, Cond.code yX3_board cX3_board 3 (some .int), Cond.methodLink RX3 51 yX1_forget, Cond.instanceMethod yX1_forget, Cond.selects RX1 yX1_forget yX1_forget, Cond.code yX1_forget cX1_forget 1 none, Cond.fieldLink RX1 28 "LandBoard$Moves" "kept" "I", Cond.methodLink RL 17 yX4_board, Cond.instanceMethod yX4_board, Cond.selects RX4 yX4_board yX4_board, Cond.code yX4_board cX4_board 3 (some .int), Cond.methodLink RX4 72 yX4_in, Cond.static yX4_in, Cond.code yX4_in cX4_in 3 (some .boolean), Cond.methodLink RL 18 yX3_set, Cond.instanceMethod yX3_set, Cond.selects RX3 yX3_set yX3_set]
def wsL_law_r6 : List Cond := [Cond.code yX3_set cX3_set 5 (some .int), Cond.methodLink RX3 54 yX0_has, Cond.instanceMethod yX0_has, Cond.selects RX0 yX0_has yX0_has, Cond.code yX0_has cX0_has 3 (some .boolean), Cond.methodLink RX3 58 yX3_isLandOrSea, Cond.static yX3_isLandOrSea, Cond.code yX3_isLandOrSea cX3_isLandOrSea 1 (some .boolean), Cond.methodLink RX3 73 yX3_isLand, Cond.static yX3_isLand, Cond.code yX3_isLand cX3_isLand 1 (some .boolean), Cond.methodLink RX3 62 yX3_cellAt, Cond.static yX3_cellAt, Cond.code yX3_cellAt cX3_cellAt 2 (some .int), Cond.methodLink RX3 66 yX0_landOf, Cond.instanceMethod yX0_landOf, Cond.selects RX0 yX0_landOf yX0_landOf, Cond.code yX0_landOf cX0_landOf 3 (some .int), Cond.static yX3_bit, Cond.code yX3_bit cX3_bit 1 (some .long), Cond.methodLink RX3 70 yX0_put, Cond.instanceMethod yX0_put, Cond.selects RX0 yX0_put yX0_put, Cond.code yX0_put cX0_put 4 none]
def wsL_law_r7 : List Cond := [Cond.methodLink RL 22 yX4_set, Cond.instanceMethod yX4_set, Cond.selects RX4 yX4_set yX4_set, Cond.code yX4_set cX4_set 6 (some .int), Cond.methodLink RX4 80 yX4_cellAt, Cond.instanceMethod yX4_cellAt, Cond.selects RX4 yX4_cellAt yX4_cellAt, Cond.code yX4_cellAt cX4_cellAt 3 (some .int), Cond.methodLink RX4 76 yX4_isOn, Cond.instanceMethod yX4_isOn, Cond.selects RX4 yX4_isOn yX4_isOn, Cond.code yX4_isOn cX4_isOn 3 (some .boolean), Cond.methodLink RX4 84 yX4_isLand, Cond.static yX4_isLand, Cond.code yX4_isLand cX4_isLand 1 (some .boolean), Cond.methodLink RL 23 yX3_at, Cond.instanceMethod yX3_at, Cond.selects RX3 yX3_at yX3_at, Cond.code yX3_at cX3_at 3 (some .int), Cond.methodLink RL 26 yX4_at, Cond.instanceMethod yX4_at, Cond.selects RX4 yX4_at yX4_at, Cond.code yX4_at cX4_at 4 (some .int), Cond.methodLink RL 27 yX3_size]
def wsL_law_r8 : List Cond := [Cond.instanceMethod yX3_size, Cond.selects RX3 yX3_size yX3_size, Cond.code yX3_size cX3_size 2 (some .int), Cond.methodLink RX3 76 yX0_sizeOf, Cond.instanceMethod yX0_sizeOf, Cond.selects RX0 yX0_sizeOf yX0_sizeOf, Cond.code yX0_sizeOf cX0_sizeOf 2 (some .int), Cond.methodLink RX0 43 yX0_cellsOf, Cond.instanceMethod yX0_cellsOf, Cond.selects RX0 yX0_cellsOf yX0_cellsOf, Cond.code yX0_cellsOf cX0_cellsOf 2 (some .long), Cond.methodLink RX0 46 yJ13_bitCount_95d88, Cond.static yJ13_bitCount_95d88, Cond.initialized RJ13, Cond.code yJ13_bitCount_95d88 cJ13_bitCount_95d88 2 (some .int), Cond.constantLong RJ13 314 (6148914691236517205), Cond.constantLong RJ13 316 (3689348814741910323), Cond.constantLong RJ13 318 (1085102592571150095), Cond.methodLink RL 31 yX4_size, Cond.instanceMethod yX4_size, Cond.selects RX4 yX4_size yX4_size, Cond.code yX4_size cX4_size 2 (some .int), Cond.methodLink RX4 88 yX4_sizeOf, Cond.instanceMethod yX4_sizeOf]
def wsL_law_r9 : List Cond := [Cond.selects RX4 yX4_sizeOf yX4_sizeOf, Cond.code yX4_sizeOf cX4_sizeOf 4 (some .int), Cond.methodLink RL 32 yX3_whole, Cond.instanceMethod yX3_whole, Cond.selects RX3 yX3_whole yX3_whole, Cond.code yX3_whole cX3_whole 2 (some .int), Cond.methodLink RX3 79 yX0_cellsOf, Cond.methodLink RX3 83 yX3_isWhole, Cond.static yX3_isWhole, Cond.code yX3_isWhole cX3_isWhole 7 (some .boolean), Cond.methodLink RX3 94 yX3_around, Cond.static yX3_around, Cond.code yX3_around cX3_around 2 (some .long), Cond.methodLink RX3 87 yX3_answer, Cond.static yX3_answer, Cond.code yX3_answer cX3_answer 1 (some .int), Cond.methodLink RL 35 yX4_whole, Cond.instanceMethod yX4_whole, Cond.selects RX4 yX4_whole yX4_whole, Cond.code yX4_whole cX4_whole 2 (some .int), Cond.methodLink RX4 95 yX4_isWhole, Cond.instanceMethod yX4_isWhole, Cond.selects RX4 yX4_isWhole yX4_isWhole, Cond.code yX4_isWhole cX4_isWhole 8 (some .boolean)]
def wsL_law_r10 : List Cond := [Cond.methodLink RX4 92 yX4_beside, Cond.instanceMethod yX4_beside, Cond.selects RX4 yX4_beside yX4_beside, Cond.code yX4_beside cX4_beside 5 (some .int), Cond.methodLink RL 36 yX3_touch, Cond.instanceMethod yX3_touch, Cond.selects RX3 yX3_touch yX3_touch, Cond.code yX3_touch cX3_touch 3 (some .int), Cond.methodLink RX3 91 yX0_isAtSea, Cond.instanceMethod yX0_isAtSea, Cond.selects RX0 yX0_isAtSea yX0_isAtSea, Cond.code yX0_isAtSea cX0_isAtSea 5 (some .boolean), Cond.methodLink RX0 52 yX0_peopledCells, Cond.instanceMethod yX0_peopledCells, Cond.selects RX0 yX0_peopledCells yX0_peopledCells, Cond.code yX0_peopledCells cX0_peopledCells 4 (some .long), Cond.methodLink RL 39 yX4_touch, Cond.instanceMethod yX4_touch, Cond.selects RX4 yX4_touch yX4_touch, Cond.code yX4_touch cX4_touch 4 (some .int), Cond.methodLink RX4 105 yX4_areTouching, Cond.instanceMethod yX4_areTouching, Cond.selects RX4 yX4_areTouching yX4_areTouching, Cond.code yX4_areTouching cX4_areTouching 3 (some .boolean)]
def wsL_law_r11 : List Cond := [Cond.methodLink RX4 101 yX4_touches, Cond.instanceMethod yX4_touches, Cond.selects RX4 yX4_touches yX4_touches, Cond.code yX4_touches cX4_touches 8 (some .long), Cond.methodLink RX4 98 yX4_numberOf, Cond.static yX4_numberOf, Cond.code yX4_numberOf cX4_numberOf 1 (some .int), Cond.methodLink RL 40 yX3_kind, Cond.instanceMethod yX3_kind, Cond.selects RX3 yX3_kind yX3_kind, Cond.code yX3_kind cX3_kind 5 (some .int), Cond.methodLink RL 44 yX4_kind, Cond.instanceMethod yX4_kind, Cond.selects RX4 yX4_kind yX4_kind, Cond.code yX4_kind cX4_kind 5 (some .int), Cond.methodLink RL 45 yX3_about, Cond.instanceMethod yX3_about, Cond.selects RX3 yX3_about yX3_about, Cond.code yX3_about cX3_about 3 (some .int), Cond.methodLink RX3 98 yX3_columnOf, Cond.static yX3_columnOf, Cond.code yX3_columnOf cX3_columnOf 1 (some .int), Cond.methodLink RX3 101 yX3_rowOf, Cond.static yX3_rowOf]
def wsL_law_r12 : List Cond := [Cond.code yX3_rowOf cX3_rowOf 1 (some .int), Cond.methodLink RL 48 yX4_about, Cond.instanceMethod yX4_about, Cond.selects RX4 yX4_about yX4_about, Cond.code yX4_about cX4_about 3 (some .int), Cond.methodLink RL 49 yX3_leaves, Cond.instanceMethod yX3_leaves, Cond.selects RX3 yX3_leaves yX3_leaves, Cond.code yX3_leaves cX3_leaves 4 (some .int), Cond.fieldLink RX3 107 "LandBoard" "asked" "J", Cond.methodLink RX3 104 yX3_at, Cond.methodLink RX3 111 yX3_bodiesAsked, Cond.static yX3_bodiesAsked, Cond.code yX3_bodiesAsked cX3_bodiesAsked 1 (some .int), Cond.methodLink RX3 114 yX3_letsGo, Cond.instanceMethod yX3_letsGo, Cond.selects RX3 yX3_letsGo yX3_letsGo, Cond.code yX3_letsGo cX3_letsGo 8 (some .boolean), Cond.constantLong RX3 215 (-1), Cond.methodLink RX3 212 yX3_bit, Cond.methodLink RL 52 yX4_leaves, Cond.instanceMethod yX4_leaves, Cond.selects RX4 yX4_leaves yX4_leaves, Cond.code yX4_leaves cX4_leaves 5 (some .int)]
def wsL_law_r13 : List Cond := [Cond.fieldLink RX4 108 "LandBoardModel" "trace" "J", Cond.constantLong RX4 112 (11), Cond.constantLong RX4 114 (111), Cond.methodLink RX4 116 yX4_doesLeave, Cond.instanceMethod yX4_doesLeave, Cond.selects RX4 yX4_doesLeave yX4_doesLeave, Cond.code yX4_doesLeave cX4_doesLeave 8 (some .boolean), Cond.methodLink RL 53 yX3_may, Cond.instanceMethod yX3_may, Cond.selects RX3 yX3_may yX3_may, Cond.code yX3_may cX3_may 4 (some .int), Cond.methodLink RX3 117 yX3_canGo, Cond.instanceMethod yX3_canGo, Cond.selects RX3 yX3_canGo yX3_canGo, Cond.code yX3_canGo cX3_canGo 8 (some .boolean), Cond.methodLink RX3 217 yX0_touching, Cond.instanceMethod yX0_touching, Cond.selects RX0 yX0_touching yX0_touching, Cond.code yX0_touching cX0_touching 7 (some .long), Cond.methodLink RX0 59 yX0_isAtSea, Cond.methodLink RL 56 yX4_may, Cond.instanceMethod yX4_may, Cond.selects RX4 yX4_may yX4_may, Cond.code yX4_may cX4_may 5 (some .int)]
def wsL_law_r14 : List Cond := [Cond.methodLink RX4 119 yX4_mayGo, Cond.instanceMethod yX4_mayGo, Cond.selects RX4 yX4_mayGo yX4_mayGo, Cond.code yX4_mayGo cX4_mayGo 8 (some .boolean), Cond.methodLink RL 57 yX3_move, Cond.instanceMethod yX3_move, Cond.selects RX3 yX3_move yX3_move, Cond.code yX3_move cX3_move 5 (some .int), Cond.methodLink RX3 120 yX3_go, Cond.instanceMethod yX3_go, Cond.selects RX3 yX3_go yX3_go, Cond.code yX3_go cX3_go 3 none, Cond.methodLink RX3 221 yX1_add, Cond.instanceMethod yX1_add, Cond.selects RX1 yX1_add yX1_add, Cond.code yX1_add cX1_add 4 none, Cond.fieldLink RX1 18 "LandBoard$Moves" "top" "I", Cond.methodLink RX1 31 Lib.Math.min.name, Cond.static Lib.Math.min.name, Cond.initialized "java/lang/Math", Cond.code Lib.Math.min.name Lib.Math.min.code 2 (some .int), Cond.fieldLink RX1 34 "LandBoard$Moves" "done" "I", Cond.methodLink RX1 22 yJ9_floorMod_7cf53, Cond.static yJ9_floorMod_7cf53]
def wsL_law_r15 : List Cond := [Cond.initialized RJ9, Cond.code yJ9_floorMod_7cf53 cJ9_floorMod_7cf53 3 (some .int), Cond.methodLink RL 60 yX4_move, Cond.instanceMethod yX4_move, Cond.selects RX4 yX4_move yX4_move, Cond.code yX4_move cX4_move 6 (some .int), Cond.methodLink RX4 128 yX4_goes, Cond.instanceMethod yX4_goes, Cond.selects RX4 yX4_goes yX4_goes, Cond.code yX4_goes cX4_goes 3 none, Cond.fieldLink RX4 122 "LandBoardModel" "nextMove" "I", Cond.fieldLink RX4 125 "LandBoardModel" "done" "I", Cond.methodLink RL 61 yX3_want, Cond.instanceMethod yX3_want, Cond.selects RX3 yX3_want yX3_want, Cond.code yX3_want cX3_want 4 (some .int), Cond.methodLink RL 64 yX4_want, Cond.instanceMethod yX4_want, Cond.selects RX4 yX4_want yX4_want, Cond.code yX4_want cX4_want 4 (some .int), Cond.methodLink RL 65 yX3_miss, Cond.instanceMethod yX3_miss, Cond.selects RX3 yX3_miss yX3_miss, Cond.code yX3_miss cX3_miss 3 (some .int)]
def wsL_law_r16 : List Cond := [Cond.methodLink RX3 123 yX3_missWith, Cond.instanceMethod yX3_missWith, Cond.selects RX3 yX3_missWith yX3_missWith, Cond.code yX3_missWith cX3_missWith 3 (some .int), Cond.methodLink RX3 224 Lib.Math.abs.name, Cond.static Lib.Math.abs.name, Cond.code Lib.Math.abs.name Lib.Math.abs.code 1 (some .int), Cond.methodLink RL 69 yX4_miss, Cond.instanceMethod yX4_miss, Cond.selects RX4 yX4_miss yX4_miss, Cond.code yX4_miss cX4_miss 1 (some .int), Cond.methodLink RX4 132 yX4_missNow, Cond.instanceMethod yX4_missNow, Cond.selects RX4 yX4_missNow yX4_missNow, Cond.code yX4_missNow cX4_missNow 5 (some .int), Cond.methodLink RL 70 yX3_steps, Cond.instanceMethod yX3_steps, Cond.selects RX3 yX3_steps yX3_steps, Cond.code yX3_steps cX3_steps 3 (some .int), Cond.methodLink RX3 126 yX3_step, Cond.instanceMethod yX3_step, Cond.selects RX3 yX3_step yX3_step, Cond.code yX3_step cX3_step 9 (some .boolean), Cond.methodLink RX3 229 yX3_miss]
def wsL_law_r17 : List Cond := [Cond.methodLink RX3 232 yX3_missBehind, Cond.instanceMethod yX3_missBehind, Cond.selects RX3 yX3_missBehind yX3_missBehind, Cond.code yX3_missBehind cX3_missBehind 6 (some .int), Cond.methodLink RL 73 yX4_steps, Cond.instanceMethod yX4_steps, Cond.selects RX4 yX4_steps yX4_steps, Cond.code yX4_steps cX4_steps 4 (some .int), Cond.methodLink RX4 136 yX4_goesOn, Cond.instanceMethod yX4_goesOn, Cond.selects RX4 yX4_goesOn yX4_goesOn, Cond.code yX4_goesOn cX4_goesOn 8 (some .boolean), Cond.methodLink RL 74 yX3_undo, Cond.instanceMethod yX3_undo, Cond.selects RX3 yX3_undo yX3_undo, Cond.code yX3_undo cX3_undo 3 (some .int), Cond.fieldLink RX3 130 "LandBoard$Moves" "kept" "I", Cond.methodLink RX3 134 yX1_latestCell, Cond.instanceMethod yX1_latestCell, Cond.selects RX1 yX1_latestCell yX1_latestCell, Cond.code yX1_latestCell cX1_latestCell 1 (some .int), Cond.methodLink RX3 138 yX1_latestFrom, Cond.instanceMethod yX1_latestFrom, Cond.selects RX1 yX1_latestFrom yX1_latestFrom]
def wsL_law_r18 : List Cond := [Cond.code yX1_latestFrom cX1_latestFrom 1 (some .int), Cond.methodLink RX3 141 yX1_dropLatest, Cond.instanceMethod yX1_dropLatest, Cond.selects RX1 yX1_dropLatest yX1_dropLatest, Cond.code yX1_dropLatest cX1_dropLatest 1 none, Cond.methodLink RL 77 yX4_undo, Cond.instanceMethod yX4_undo, Cond.selects RX4 yX4_undo yX4_undo, Cond.code yX4_undo cX4_undo 3 (some .int), Cond.methodLink RL 78 yX3_label, Cond.instanceMethod yX3_label, Cond.selects RX3 yX3_label yX3_label, Cond.code yX3_label cX3_label 7 (some .int), Cond.methodLink RX3 144 yX3_inside, Cond.methodLink RX3 147 yX3_firstOf, Cond.static yX3_firstOf, Cond.code yX3_firstOf cX3_firstOf 3 (some .int), Cond.methodLink RL 81 yX4_label, Cond.instanceMethod yX4_label, Cond.selects RX4 yX4_label yX4_label, Cond.code yX4_label cX4_label 5 (some .int), Cond.methodLink RX4 140 yX4_sound, Cond.instanceMethod yX4_sound, Cond.selects RX4 yX4_sound yX4_sound]
def wsL_law_r19 : List Cond := [Cond.code yX4_sound cX4_sound 7 none, Cond.methodLink RL 82 yX3_longer, Cond.instanceMethod yX3_longer, Cond.selects RX3 yX3_longer yX3_longer, Cond.code yX3_longer cX3_longer 7 (some .int), Cond.methodLink RX3 151 yX3_hasBox, Cond.instanceMethod yX3_hasBox, Cond.selects RX3 yX3_hasBox yX3_hasBox, Cond.code yX3_hasBox cX3_hasBox 3 (some .boolean), Cond.methodLink RX3 206 yX0_peopled, Cond.instanceMethod yX0_peopled, Cond.selects RX0 yX0_peopled yX0_peopled, Cond.code yX0_peopled cX0_peopled 3 (some .int), Cond.methodLink RX3 154 yX2_read, Cond.instanceMethod yX2_read, Cond.selects RX2 yX2_read yX2_read, Cond.code yX2_read cX2_read 3 none, Cond.fieldLink RX2 27 "LandBoard$Rows" "boxes" "I", Cond.fieldLink RX2 31 "LandBoard$Rows" "total" "I", Cond.methodLink RX2 34 yX0_sizeOf, Cond.methodLink RX3 158 yX2_lay, Cond.instanceMethod yX2_lay, Cond.selects RX2 yX2_lay yX2_lay, Cond.code yX2_lay cX2_lay 5 none]
def wsL_law_r20 : List Cond := [Cond.methodLink RX2 44 yX2_layRow, Cond.instanceMethod yX2_layRow, Cond.selects RX2 yX2_layRow yX2_layRow, Cond.code yX2_layRow cX2_layRow 6 (some .int), Cond.methodLink RX2 48 Lib.Math.max.name, Cond.static Lib.Math.max.name, Cond.code Lib.Math.max.name Lib.Math.max.code 2 (some .int), Cond.methodLink RX3 162 yX2_placeOf, Cond.instanceMethod yX2_placeOf, Cond.selects RX2 yX2_placeOf yX2_placeOf, Cond.code yX2_placeOf cX2_placeOf 2 (some .int), Cond.methodLink RX3 165 yX2_longUpper, Cond.instanceMethod yX2_longUpper, Cond.selects RX2 yX2_longUpper yX2_longUpper, Cond.code yX2_longUpper cX2_longUpper 2 (some .int), Cond.methodLink RX2 57 yX2_scaledHeight, Cond.instanceMethod yX2_scaledHeight, Cond.selects RX2 yX2_scaledHeight yX2_scaledHeight, Cond.code yX2_scaledHeight cX2_scaledHeight 2 (some .int), Cond.methodLink RX2 60 yX2_scaledWidth, Cond.instanceMethod yX2_scaledWidth, Cond.selects RX2 yX2_scaledWidth yX2_scaledWidth, Cond.code yX2_scaledWidth cX2_scaledWidth 2 (some .int), Cond.methodLink RX3 168 yX2_longLower]
def wsL_law_r21 : List Cond := [Cond.instanceMethod yX2_longLower, Cond.selects RX2 yX2_longLower yX2_longLower, Cond.code yX2_longLower cX2_longLower 2 (some .int), Cond.methodLink RX2 63 Lib.Math.min.name, Cond.methodLink RX3 171 yX3_commonDivisor, Cond.static yX3_commonDivisor, Cond.code yX3_commonDivisor cX3_commonDivisor 6 (some .int), Cond.methodLink RL 85 yX4_longer, Cond.instanceMethod yX4_longer, Cond.selects RX4 yX4_longer yX4_longer, Cond.code yX4_longer cX4_longer 5 (some .int), Cond.methodLink RX4 168 yX4_boxOf, Cond.instanceMethod yX4_boxOf, Cond.selects RX4 yX4_boxOf yX4_boxOf, Cond.code yX4_boxOf cX4_boxOf 4 (some .int), Cond.fieldLink RX4 144 "LandBoardModel" "many" "I", Cond.methodLink RX4 159 yX4_weigh, Cond.instanceMethod yX4_weigh, Cond.selects RX4 yX4_weigh yX4_weigh, Cond.code yX4_weigh cX4_weigh 3 none, Cond.fieldLink RX4 147 "LandBoardModel" "total" "I", Cond.methodLink RX4 162 yX4_lay, Cond.instanceMethod yX4_lay, Cond.selects RX4 yX4_lay yX4_lay]
def wsL_law_r22 : List Cond := [Cond.code yX4_lay cX4_lay 6 none, Cond.fieldLink RX4 150 "LandBoardModel" "ahead" "I", Cond.fieldLink RX4 153 "LandBoardModel" "rowSum" "I", Cond.fieldLink RX4 156 "LandBoardModel" "above" "I", Cond.methodLink RX4 171 yX4_longUp, Cond.instanceMethod yX4_longUp, Cond.selects RX4 yX4_longUp yX4_longUp, Cond.code yX4_longUp cX4_longUp 4 (some .int), Cond.methodLink RX4 165 yX4_common, Cond.static yX4_common, Cond.code yX4_common cX4_common 5 (some .int), Cond.methodLink RX4 174 yX4_longDown, Cond.instanceMethod yX4_longDown, Cond.selects RX4 yX4_longDown yX4_longDown, Cond.code yX4_longDown cX4_longDown 4 (some .int), Cond.methodLink RL 86 yX3_box, Cond.instanceMethod yX3_box, Cond.selects RX3 yX3_box yX3_box, Cond.code yX3_box cX3_box 4 (some .int), Cond.methodLink RX3 174 yX2_side, Cond.instanceMethod yX2_side, Cond.selects RX2 yX2_side yX2_side, Cond.code yX2_side cX2_side 3 (some .int), Cond.static yX3_thousandths]
def wsL_law_r23 : List Cond := [Cond.code yX3_thousandths cX3_thousandths 2 (some .int), Cond.methodLink RL 89 yX4_box, Cond.instanceMethod yX4_box, Cond.selects RX4 yX4_box yX4_box, Cond.code yX4_box cX4_box 5 (some .int), Cond.methodLink RL 90 yX3_best, Cond.instanceMethod yX3_best, Cond.selects RX3 yX3_best yX3_best, Cond.code yX3_best cX3_best 1 (some .int), Cond.fieldLink RX3 177 "LandBoard$Rows" "boxes" "I", Cond.methodLink RX3 180 yX2_bestCuts, Cond.instanceMethod yX2_bestCuts, Cond.selects RX2 yX2_bestCuts yX2_bestCuts, Cond.code yX2_bestCuts cX2_bestCuts 7 (some .int), Cond.methodLink RX2 72 yX2_lay, Cond.methodLink RX2 76 yX2_longestPlace, Cond.instanceMethod yX2_longestPlace, Cond.selects RX2 yX2_longestPlace yX2_longestPlace, Cond.code yX2_longestPlace cX2_longestPlace 3 (some .int), Cond.methodLink RX2 66 yX2_longUpper, Cond.methodLink RX2 69 yX2_longLower, Cond.methodLink RL 93 yX4_best, Cond.instanceMethod yX4_best, Cond.selects RX4 yX4_best yX4_best]
def wsL_law_r24 : List Cond := [Cond.code yX4_best cX4_best 11 (some .int), Cond.methodLink RL 94 yX3_keep, Cond.instanceMethod yX3_keep, Cond.selects RX3 yX3_keep yX3_keep, Cond.code yX3_keep cX3_keep 3 (some .int), Cond.methodLink RX3 183 yX3_isYear, Cond.static yX3_isYear, Cond.code yX3_isYear cX3_isYear 1 (some .boolean), Cond.methodLink RX3 186 yX0_copy, Cond.instanceMethod yX0_copy, Cond.selects RX0 yX0_copy yX0_copy, Cond.code yX0_copy cX0_copy 3 none, Cond.methodLink RX3 189 yX0_landCells, Cond.instanceMethod yX0_landCells, Cond.selects RX0 yX0_landCells yX0_landCells, Cond.code yX0_landCells cX0_landCells 1 (some .int), Cond.methodLink RL 97 yX4_keep, Cond.instanceMethod yX4_keep, Cond.selects RX4 yX4_keep yX4_keep, Cond.code yX4_keep cX4_keep 3 (some .int), Cond.methodLink RX4 177 yX4_isYear, Cond.static yX4_isYear, Cond.code yX4_isYear cX4_isYear 1 (some .boolean), Cond.methodLink RX4 180 yX4_landCells]
def wsL_law_r25 : List Cond := [Cond.instanceMethod yX4_landCells, Cond.selects RX4 yX4_landCells yX4_landCells, Cond.code yX4_landCells cX4_landCells 1 (some .int), Cond.methodLink RL 98 yX3_back, Cond.instanceMethod yX3_back, Cond.selects RX3 yX3_back yX3_back, Cond.code yX3_back cX3_back 3 (some .int), Cond.methodLink RL 101 yX4_back, Cond.instanceMethod yX4_back, Cond.selects RX4 yX4_back yX4_back, Cond.code yX4_back cX4_back 3 (some .int), Cond.methodLink RL 102 yX3_moved, Cond.instanceMethod yX3_moved, Cond.selects RX3 yX3_moved yX3_moved, Cond.code yX3_moved cX3_moved 5 (some .int), Cond.methodLink RX3 192 yX0_isAsLargeAs, Cond.instanceMethod yX0_isAsLargeAs, Cond.selects RX0 yX0_isAsLargeAs yX0_isAsLargeAs, Cond.code yX0_isAsLargeAs cX0_isAsLargeAs 2 (some .boolean), Cond.methodLink RX3 196 yX0_unlike, Cond.instanceMethod yX0_unlike, Cond.selects RX0 yX0_unlike yX0_unlike, Cond.code yX0_unlike cX0_unlike 5 (some .int), Cond.methodLink RL 105 yX4_moved]
def wsL_law_r26 : List Cond := [Cond.instanceMethod yX4_moved, Cond.selects RX4 yX4_moved yX4_moved, Cond.code yX4_moved cX4_moved 5 (some .int), Cond.methodLink RL 106 yX3_count, Cond.instanceMethod yX3_count, Cond.selects RX3 yX3_count yX3_count, Cond.code yX3_count cX3_count 2 (some .int), Cond.fieldLink RX3 200 "LandBoard$Grid" "width" "I", Cond.fieldLink RX3 203 "LandBoard$Grid" "height" "I", Cond.fieldLink RX3 209 "LandBoard$Moves" "done" "I", Cond.methodLink RL 109 yX4_count, Cond.instanceMethod yX4_count, Cond.selects RX4 yX4_count yX4_count, Cond.code yX4_count cX4_count 4 (some .int), Cond.methodLink RL 110 yX3_trace, Cond.instanceMethod yX3_trace, Cond.selects RX3 yX3_trace yX3_trace, Cond.code yX3_trace cX3_trace 1 (some .long), Cond.methodLink RL 114 yX4_trace, Cond.instanceMethod yX4_trace, Cond.selects RX4 yX4_trace yX4_trace, Cond.code yX4_trace cX4_trace 1 (some .long)]
def wsL_law : List Cond := (wsL_law_r1 ++ (wsL_law_r2 ++ (wsL_law_r3 ++ (wsL_law_r4 ++ (wsL_law_r5 ++ (wsL_law_r6 ++ (wsL_law_r7 ++ (wsL_law_r8 ++ (wsL_law_r9 ++ (wsL_law_r10 ++ (wsL_law_r11 ++ (wsL_law_r12 ++ (wsL_law_r13 ++ (wsL_law_r14 ++ (wsL_law_r15 ++ (wsL_law_r16 ++ (wsL_law_r17 ++ (wsL_law_r18 ++ (wsL_law_r19 ++ (wsL_law_r20 ++ (wsL_law_r21 ++ (wsL_law_r22 ++ (wsL_law_r23 ++ (wsL_law_r24 ++ (wsL_law_r25 ++ wsL_law_r26))))))))))))))))))))))))) ++ wsX30 ++ wsX40 ++ wsX00 ++ wsX10 ++ wsX20 ++ ([] : List Cond)
end
section
/-! the law's words among the tables, list by list -/
set_option maxRecDepth 20000 in
theorem wl_wsL_law_r1 : ∀ w ∈ wsL_law_r1, w ∈ lw_tbl := List.forall_mem_cons.mpr ⟨(by decide +kernel), List.forall_mem_cons.mpr ⟨(by decide +kernel), List.forall_mem_cons.mpr ⟨(by decide +kernel), List.forall_mem_cons.mpr ⟨(by decide +kernel), List.forall_mem_cons.mpr ⟨(by decide +kernel), List.forall_mem_cons.mpr ⟨(by decide +kernel), List.forall_mem_cons.mpr ⟨(by decide +kernel), List.forall_mem_cons.mpr ⟨(by decide +kernel), List.forall_mem_cons.mpr ⟨(by decide +kernel), List.forall_mem_cons.mpr ⟨(by decide +kernel), List.forall_mem_cons.mpr ⟨(by decide +kernel), List.forall_mem_cons.mpr ⟨(by decide +kernel), List.forall_mem_cons.mpr ⟨(by decide +kernel), List.forall_mem_cons.mpr ⟨(by decide +kernel), List.forall_mem_cons.mpr ⟨(by decide +kernel), List.forall_mem_cons.mpr ⟨(by decide +kernel), List.forall_mem_cons.mpr ⟨(by decide +kernel), List.forall_mem_cons.mpr ⟨(by decide +kernel), List.forall_mem_cons.mpr ⟨(by decide +kernel), List.forall_mem_cons.mpr ⟨(by decide +kernel), List.forall_mem_cons.mpr ⟨(by decide +kernel), List.forall_mem_cons.mpr ⟨(by decide +kernel), List.forall_mem_cons.mpr ⟨(by decide +kernel), List.forall_mem_cons.mpr ⟨(by decide +kernel), fun _ h => absurd h List.not_mem_nil⟩⟩⟩⟩⟩⟩⟩⟩⟩⟩⟩⟩⟩⟩⟩⟩⟩⟩⟩⟩⟩⟩⟩⟩
set_option maxRecDepth 20000 in
theorem wl_wsL_law_r2 : ∀ w ∈ wsL_law_r2, w ∈ lw_tbl := List.forall_mem_cons.mpr ⟨(by decide +kernel), List.forall_mem_cons.mpr ⟨(by decide +kernel), List.forall_mem_cons.mpr ⟨(by decide +kernel), List.forall_mem_cons.mpr ⟨(by decide +kernel), List.forall_mem_cons.mpr ⟨(by decide +kernel), List.forall_mem_cons.mpr ⟨(by decide +kernel), List.forall_mem_cons.mpr ⟨(by decide +kernel), List.forall_mem_cons.mpr ⟨(by decide +kernel), List.forall_mem_cons.mpr ⟨(by decide +kernel), List.forall_mem_cons.mpr ⟨(by decide +kernel), List.forall_mem_cons.mpr ⟨(by decide +kernel), List.forall_mem_cons.mpr ⟨(by decide +kernel), List.forall_mem_cons.mpr ⟨(by decide +kernel), List.forall_mem_cons.mpr ⟨(by decide +kernel), List.forall_mem_cons.mpr ⟨(by decide +kernel), List.forall_mem_cons.mpr ⟨(by decide +kernel), List.forall_mem_cons.mpr ⟨(by decide +kernel), List.forall_mem_cons.mpr ⟨(by decide +kernel), List.forall_mem_cons.mpr ⟨(by decide +kernel), List.forall_mem_cons.mpr ⟨(by decide +kernel), List.forall_mem_cons.mpr ⟨(by decide +kernel), List.forall_mem_cons.mpr ⟨(by decide +kernel), List.forall_mem_cons.mpr ⟨(by decide +kernel), List.forall_mem_cons.mpr ⟨(by decide +kernel), fun _ h => absurd h List.not_mem_nil⟩⟩⟩⟩⟩⟩⟩⟩⟩⟩⟩⟩⟩⟩⟩⟩⟩⟩⟩⟩⟩⟩⟩⟩
set_option maxRecDepth 20000 in
theorem wl_wsL_law_r3 : ∀ w ∈ wsL_law_r3, w ∈ lw_tbl := List.forall_mem_cons.mpr ⟨(by decide +kernel), List.forall_mem_cons.mpr ⟨(by decide +kernel), List.forall_mem_cons.mpr ⟨(by decide +kernel), List.forall_mem_cons.mpr ⟨(by decide +kernel), List.forall_mem_cons.mpr ⟨(by decide +kernel), List.forall_mem_cons.mpr ⟨(by decide +kernel), List.forall_mem_cons.mpr ⟨(by decide +kernel), List.forall_mem_cons.mpr ⟨(by decide +kernel), List.forall_mem_cons.mpr ⟨(by decide +kernel), List.forall_mem_cons.mpr ⟨(by decide +kernel), List.forall_mem_cons.mpr ⟨(by decide +kernel), List.forall_mem_cons.mpr ⟨(by decide +kernel), List.forall_mem_cons.mpr ⟨(by decide +kernel), List.forall_mem_cons.mpr ⟨(by decide +kernel), List.forall_mem_cons.mpr ⟨(by decide +kernel), List.forall_mem_cons.mpr ⟨(by decide +kernel), List.forall_mem_cons.mpr ⟨(by decide +kernel), List.forall_mem_cons.mpr ⟨(by decide +kernel), List.forall_mem_cons.mpr ⟨(by decide +kernel), List.forall_mem_cons.mpr ⟨(by decide +kernel), List.forall_mem_cons.mpr ⟨(by decide +kernel), List.forall_mem_cons.mpr ⟨(by decide +kernel), List.forall_mem_cons.mpr ⟨(by decide +kernel), List.forall_mem_cons.mpr ⟨(by decide +kernel), fun _ h => absurd h List.not_mem_nil⟩⟩⟩⟩⟩⟩⟩⟩⟩⟩⟩⟩⟩⟩⟩⟩⟩⟩⟩⟩⟩⟩⟩⟩
set_option maxRecDepth 20000 in
theorem wl_wsL_law_r4 : ∀ w ∈ wsL_law_r4, w ∈ lw_tbl := List.forall_mem_cons.mpr ⟨(by decide +kernel), List.forall_mem_cons.mpr ⟨(by decide +kernel), List.forall_mem_cons.mpr ⟨(by decide +kernel), List.forall_mem_cons.mpr ⟨(by decide +kernel), List.forall_mem_cons.mpr ⟨(by decide +kernel), List.forall_mem_cons.mpr ⟨(by decide +kernel), List.forall_mem_cons.mpr ⟨(by decide +kernel), List.forall_mem_cons.mpr ⟨(by decide +kernel), List.forall_mem_cons.mpr ⟨(by decide +kernel), List.forall_mem_cons.mpr ⟨(by decide +kernel), List.forall_mem_cons.mpr ⟨(by decide +kernel), List.forall_mem_cons.mpr ⟨(by decide +kernel), List.forall_mem_cons.mpr ⟨(by decide +kernel), List.forall_mem_cons.mpr ⟨(by decide +kernel), List.forall_mem_cons.mpr ⟨(by decide +kernel), List.forall_mem_cons.mpr ⟨(by decide +kernel), List.forall_mem_cons.mpr ⟨(by decide +kernel), List.forall_mem_cons.mpr ⟨(by decide +kernel), List.forall_mem_cons.mpr ⟨(by decide +kernel), List.forall_mem_cons.mpr ⟨(by decide +kernel), List.forall_mem_cons.mpr ⟨(by decide +kernel), List.forall_mem_cons.mpr ⟨(by decide +kernel), List.forall_mem_cons.mpr ⟨(by decide +kernel), List.forall_mem_cons.mpr ⟨(by decide +kernel), fun _ h => absurd h List.not_mem_nil⟩⟩⟩⟩⟩⟩⟩⟩⟩⟩⟩⟩⟩⟩⟩⟩⟩⟩⟩⟩⟩⟩⟩⟩
set_option maxRecDepth 20000 in
theorem wl_wsL_law_r5 : ∀ w ∈ wsL_law_r5, w ∈ lw_tbl := List.forall_mem_cons.mpr ⟨(by decide +kernel), List.forall_mem_cons.mpr ⟨(by decide +kernel), List.forall_mem_cons.mpr ⟨(by decide +kernel), List.forall_mem_cons.mpr ⟨(by decide +kernel), List.forall_mem_cons.mpr ⟨(by decide +kernel), List.forall_mem_cons.mpr ⟨(by decide +kernel), List.forall_mem_cons.mpr ⟨(by decide +kernel), List.forall_mem_cons.mpr ⟨(by decide +kernel), List.forall_mem_cons.mpr ⟨(by decide +kernel), List.forall_mem_cons.mpr ⟨(by decide +kernel), List.forall_mem_cons.mpr ⟨(by decide +kernel), List.forall_mem_cons.mpr ⟨(by decide +kernel), List.forall_mem_cons.mpr ⟨(by decide +kernel), List.forall_mem_cons.mpr ⟨(by decide +kernel), List.forall_mem_cons.mpr ⟨(by decide +kernel), List.forall_mem_cons.mpr ⟨(by decide +kernel), List.forall_mem_cons.mpr ⟨(by decide +kernel), List.forall_mem_cons.mpr ⟨(by decide +kernel), List.forall_mem_cons.mpr ⟨(by decide +kernel), List.forall_mem_cons.mpr ⟨(by decide +kernel), List.forall_mem_cons.mpr ⟨(by decide +kernel), List.forall_mem_cons.mpr ⟨(by decide +kernel), List.forall_mem_cons.mpr ⟨(by decide +kernel), List.forall_mem_cons.mpr ⟨(by decide +kernel), fun _ h => absurd h List.not_mem_nil⟩⟩⟩⟩⟩⟩⟩⟩⟩⟩⟩⟩⟩⟩⟩⟩⟩⟩⟩⟩⟩⟩⟩⟩
set_option maxRecDepth 20000 in
theorem wl_wsL_law_r6 : ∀ w ∈ wsL_law_r6, w ∈ lw_tbl := List.forall_mem_cons.mpr ⟨(by decide +kernel), List.forall_mem_cons.mpr ⟨(by decide +kernel), List.forall_mem_cons.mpr ⟨(by decide +kernel), List.forall_mem_cons.mpr ⟨(by decide +kernel), List.forall_mem_cons.mpr ⟨(by decide +kernel), List.forall_mem_cons.mpr ⟨(by decide +kernel), List.forall_mem_cons.mpr ⟨(by decide +kernel), List.forall_mem_cons.mpr ⟨(by decide +kernel), List.forall_mem_cons.mpr ⟨(by decide +kernel), List.forall_mem_cons.mpr ⟨(by decide +kernel), List.forall_mem_cons.mpr ⟨(by decide +kernel), List.forall_mem_cons.mpr ⟨(by decide +kernel), List.forall_mem_cons.mpr ⟨(by decide +kernel), List.forall_mem_cons.mpr ⟨(by decide +kernel), List.forall_mem_cons.mpr ⟨(by decide +kernel), List.forall_mem_cons.mpr ⟨(by decide +kernel), List.forall_mem_cons.mpr ⟨(by decide +kernel), List.forall_mem_cons.mpr ⟨(by decide +kernel), List.forall_mem_cons.mpr ⟨(by decide +kernel), List.forall_mem_cons.mpr ⟨(by decide +kernel), List.forall_mem_cons.mpr ⟨(by decide +kernel), List.forall_mem_cons.mpr ⟨(by decide +kernel), List.forall_mem_cons.mpr ⟨(by decide +kernel), List.forall_mem_cons.mpr ⟨(by decide +kernel), fun _ h => absurd h List.not_mem_nil⟩⟩⟩⟩⟩⟩⟩⟩⟩⟩⟩⟩⟩⟩⟩⟩⟩⟩⟩⟩⟩⟩⟩⟩
set_option maxRecDepth 20000 in
theorem wl_wsL_law_r7 : ∀ w ∈ wsL_law_r7, w ∈ lw_tbl := List.forall_mem_cons.mpr ⟨(by decide +kernel), List.forall_mem_cons.mpr ⟨(by decide +kernel), List.forall_mem_cons.mpr ⟨(by decide +kernel), List.forall_mem_cons.mpr ⟨(by decide +kernel), List.forall_mem_cons.mpr ⟨(by decide +kernel), List.forall_mem_cons.mpr ⟨(by decide +kernel), List.forall_mem_cons.mpr ⟨(by decide +kernel), List.forall_mem_cons.mpr ⟨(by decide +kernel), List.forall_mem_cons.mpr ⟨(by decide +kernel), List.forall_mem_cons.mpr ⟨(by decide +kernel), List.forall_mem_cons.mpr ⟨(by decide +kernel), List.forall_mem_cons.mpr ⟨(by decide +kernel), List.forall_mem_cons.mpr ⟨(by decide +kernel), List.forall_mem_cons.mpr ⟨(by decide +kernel), List.forall_mem_cons.mpr ⟨(by decide +kernel), List.forall_mem_cons.mpr ⟨(by decide +kernel), List.forall_mem_cons.mpr ⟨(by decide +kernel), List.forall_mem_cons.mpr ⟨(by decide +kernel), List.forall_mem_cons.mpr ⟨(by decide +kernel), List.forall_mem_cons.mpr ⟨(by decide +kernel), List.forall_mem_cons.mpr ⟨(by decide +kernel), List.forall_mem_cons.mpr ⟨(by decide +kernel), List.forall_mem_cons.mpr ⟨(by decide +kernel), List.forall_mem_cons.mpr ⟨(by decide +kernel), fun _ h => absurd h List.not_mem_nil⟩⟩⟩⟩⟩⟩⟩⟩⟩⟩⟩⟩⟩⟩⟩⟩⟩⟩⟩⟩⟩⟩⟩⟩
set_option maxRecDepth 20000 in
theorem wl_wsL_law_r8 : ∀ w ∈ wsL_law_r8, w ∈ lw_tbl := List.forall_mem_cons.mpr ⟨(by decide +kernel), List.forall_mem_cons.mpr ⟨(by decide +kernel), List.forall_mem_cons.mpr ⟨(by decide +kernel), List.forall_mem_cons.mpr ⟨(by decide +kernel), List.forall_mem_cons.mpr ⟨(by decide +kernel), List.forall_mem_cons.mpr ⟨(by decide +kernel), List.forall_mem_cons.mpr ⟨(by decide +kernel), List.forall_mem_cons.mpr ⟨(by decide +kernel), List.forall_mem_cons.mpr ⟨(by decide +kernel), List.forall_mem_cons.mpr ⟨(by decide +kernel), List.forall_mem_cons.mpr ⟨(by decide +kernel), List.forall_mem_cons.mpr ⟨(by decide +kernel), List.forall_mem_cons.mpr ⟨(by decide +kernel), List.forall_mem_cons.mpr ⟨(by decide +kernel), List.forall_mem_cons.mpr ⟨(by decide +kernel), List.forall_mem_cons.mpr ⟨(by decide +kernel), List.forall_mem_cons.mpr ⟨(by decide +kernel), List.forall_mem_cons.mpr ⟨(by decide +kernel), List.forall_mem_cons.mpr ⟨(by decide +kernel), List.forall_mem_cons.mpr ⟨(by decide +kernel), List.forall_mem_cons.mpr ⟨(by decide +kernel), List.forall_mem_cons.mpr ⟨(by decide +kernel), List.forall_mem_cons.mpr ⟨(by decide +kernel), List.forall_mem_cons.mpr ⟨(by decide +kernel), fun _ h => absurd h List.not_mem_nil⟩⟩⟩⟩⟩⟩⟩⟩⟩⟩⟩⟩⟩⟩⟩⟩⟩⟩⟩⟩⟩⟩⟩⟩
set_option maxRecDepth 20000 in
theorem wl_wsL_law_r9 : ∀ w ∈ wsL_law_r9, w ∈ lw_tbl := List.forall_mem_cons.mpr ⟨(by decide +kernel), List.forall_mem_cons.mpr ⟨(by decide +kernel), List.forall_mem_cons.mpr ⟨(by decide +kernel), List.forall_mem_cons.mpr ⟨(by decide +kernel), List.forall_mem_cons.mpr ⟨(by decide +kernel), List.forall_mem_cons.mpr ⟨(by decide +kernel), List.forall_mem_cons.mpr ⟨(by decide +kernel), List.forall_mem_cons.mpr ⟨(by decide +kernel), List.forall_mem_cons.mpr ⟨(by decide +kernel), List.forall_mem_cons.mpr ⟨(by decide +kernel), List.forall_mem_cons.mpr ⟨(by decide +kernel), List.forall_mem_cons.mpr ⟨(by decide +kernel), List.forall_mem_cons.mpr ⟨(by decide +kernel), List.forall_mem_cons.mpr ⟨(by decide +kernel), List.forall_mem_cons.mpr ⟨(by decide +kernel), List.forall_mem_cons.mpr ⟨(by decide +kernel), List.forall_mem_cons.mpr ⟨(by decide +kernel), List.forall_mem_cons.mpr ⟨(by decide +kernel), List.forall_mem_cons.mpr ⟨(by decide +kernel), List.forall_mem_cons.mpr ⟨(by decide +kernel), List.forall_mem_cons.mpr ⟨(by decide +kernel), List.forall_mem_cons.mpr ⟨(by decide +kernel), List.forall_mem_cons.mpr ⟨(by decide +kernel), List.forall_mem_cons.mpr ⟨(by decide +kernel), fun _ h => absurd h List.not_mem_nil⟩⟩⟩⟩⟩⟩⟩⟩⟩⟩⟩⟩⟩⟩⟩⟩⟩⟩⟩⟩⟩⟩⟩⟩
set_option maxRecDepth 20000 in
theorem wl_wsL_law_r10 : ∀ w ∈ wsL_law_r10, w ∈ lw_tbl := List.forall_mem_cons.mpr ⟨(by decide +kernel), List.forall_mem_cons.mpr ⟨(by decide +kernel), List.forall_mem_cons.mpr ⟨(by decide +kernel), List.forall_mem_cons.mpr ⟨(by decide +kernel), List.forall_mem_cons.mpr ⟨(by decide +kernel), List.forall_mem_cons.mpr ⟨(by decide +kernel), List.forall_mem_cons.mpr ⟨(by decide +kernel), List.forall_mem_cons.mpr ⟨(by decide +kernel), List.forall_mem_cons.mpr ⟨(by decide +kernel), List.forall_mem_cons.mpr ⟨(by decide +kernel), List.forall_mem_cons.mpr ⟨(by decide +kernel), List.forall_mem_cons.mpr ⟨(by decide +kernel), List.forall_mem_cons.mpr ⟨(by decide +kernel), List.forall_mem_cons.mpr ⟨(by decide +kernel), List.forall_mem_cons.mpr ⟨(by decide +kernel), List.forall_mem_cons.mpr ⟨(by decide +kernel), List.forall_mem_cons.mpr ⟨(by decide +kernel), List.forall_mem_cons.mpr ⟨(by decide +kernel), List.forall_mem_cons.mpr ⟨(by decide +kernel), List.forall_mem_cons.mpr ⟨(by decide +kernel), List.forall_mem_cons.mpr ⟨(by decide +kernel), List.forall_mem_cons.mpr ⟨(by decide +kernel), List.forall_mem_cons.mpr ⟨(by decide +kernel), List.forall_mem_cons.mpr ⟨(by decide +kernel), fun _ h => absurd h List.not_mem_nil⟩⟩⟩⟩⟩⟩⟩⟩⟩⟩⟩⟩⟩⟩⟩⟩⟩⟩⟩⟩⟩⟩⟩⟩
set_option maxRecDepth 20000 in
theorem wl_wsL_law_r11 : ∀ w ∈ wsL_law_r11, w ∈ lw_tbl := List.forall_mem_cons.mpr ⟨(by decide +kernel), List.forall_mem_cons.mpr ⟨(by decide +kernel), List.forall_mem_cons.mpr ⟨(by decide +kernel), List.forall_mem_cons.mpr ⟨(by decide +kernel), List.forall_mem_cons.mpr ⟨(by decide +kernel), List.forall_mem_cons.mpr ⟨(by decide +kernel), List.forall_mem_cons.mpr ⟨(by decide +kernel), List.forall_mem_cons.mpr ⟨(by decide +kernel), List.forall_mem_cons.mpr ⟨(by decide +kernel), List.forall_mem_cons.mpr ⟨(by decide +kernel), List.forall_mem_cons.mpr ⟨(by decide +kernel), List.forall_mem_cons.mpr ⟨(by decide +kernel), List.forall_mem_cons.mpr ⟨(by decide +kernel), List.forall_mem_cons.mpr ⟨(by decide +kernel), List.forall_mem_cons.mpr ⟨(by decide +kernel), List.forall_mem_cons.mpr ⟨(by decide +kernel), List.forall_mem_cons.mpr ⟨(by decide +kernel), List.forall_mem_cons.mpr ⟨(by decide +kernel), List.forall_mem_cons.mpr ⟨(by decide +kernel), List.forall_mem_cons.mpr ⟨(by decide +kernel), List.forall_mem_cons.mpr ⟨(by decide +kernel), List.forall_mem_cons.mpr ⟨(by decide +kernel), List.forall_mem_cons.mpr ⟨(by decide +kernel), List.forall_mem_cons.mpr ⟨(by decide +kernel), fun _ h => absurd h List.not_mem_nil⟩⟩⟩⟩⟩⟩⟩⟩⟩⟩⟩⟩⟩⟩⟩⟩⟩⟩⟩⟩⟩⟩⟩⟩
set_option maxRecDepth 20000 in
theorem wl_wsL_law_r12 : ∀ w ∈ wsL_law_r12, w ∈ lw_tbl := List.forall_mem_cons.mpr ⟨(by decide +kernel), List.forall_mem_cons.mpr ⟨(by decide +kernel), List.forall_mem_cons.mpr ⟨(by decide +kernel), List.forall_mem_cons.mpr ⟨(by decide +kernel), List.forall_mem_cons.mpr ⟨(by decide +kernel), List.forall_mem_cons.mpr ⟨(by decide +kernel), List.forall_mem_cons.mpr ⟨(by decide +kernel), List.forall_mem_cons.mpr ⟨(by decide +kernel), List.forall_mem_cons.mpr ⟨(by decide +kernel), List.forall_mem_cons.mpr ⟨(by decide +kernel), List.forall_mem_cons.mpr ⟨(by decide +kernel), List.forall_mem_cons.mpr ⟨(by decide +kernel), List.forall_mem_cons.mpr ⟨(by decide +kernel), List.forall_mem_cons.mpr ⟨(by decide +kernel), List.forall_mem_cons.mpr ⟨(by decide +kernel), List.forall_mem_cons.mpr ⟨(by decide +kernel), List.forall_mem_cons.mpr ⟨(by decide +kernel), List.forall_mem_cons.mpr ⟨(by decide +kernel), List.forall_mem_cons.mpr ⟨(by decide +kernel), List.forall_mem_cons.mpr ⟨(by decide +kernel), List.forall_mem_cons.mpr ⟨(by decide +kernel), List.forall_mem_cons.mpr ⟨(by decide +kernel), List.forall_mem_cons.mpr ⟨(by decide +kernel), List.forall_mem_cons.mpr ⟨(by decide +kernel), fun _ h => absurd h List.not_mem_nil⟩⟩⟩⟩⟩⟩⟩⟩⟩⟩⟩⟩⟩⟩⟩⟩⟩⟩⟩⟩⟩⟩⟩⟩
set_option maxRecDepth 20000 in
theorem wl_wsL_law_r13 : ∀ w ∈ wsL_law_r13, w ∈ lw_tbl := List.forall_mem_cons.mpr ⟨(by decide +kernel), List.forall_mem_cons.mpr ⟨(by decide +kernel), List.forall_mem_cons.mpr ⟨(by decide +kernel), List.forall_mem_cons.mpr ⟨(by decide +kernel), List.forall_mem_cons.mpr ⟨(by decide +kernel), List.forall_mem_cons.mpr ⟨(by decide +kernel), List.forall_mem_cons.mpr ⟨(by decide +kernel), List.forall_mem_cons.mpr ⟨(by decide +kernel), List.forall_mem_cons.mpr ⟨(by decide +kernel), List.forall_mem_cons.mpr ⟨(by decide +kernel), List.forall_mem_cons.mpr ⟨(by decide +kernel), List.forall_mem_cons.mpr ⟨(by decide +kernel), List.forall_mem_cons.mpr ⟨(by decide +kernel), List.forall_mem_cons.mpr ⟨(by decide +kernel), List.forall_mem_cons.mpr ⟨(by decide +kernel), List.forall_mem_cons.mpr ⟨(by decide +kernel), List.forall_mem_cons.mpr ⟨(by decide +kernel), List.forall_mem_cons.mpr ⟨(by decide +kernel), List.forall_mem_cons.mpr ⟨(by decide +kernel), List.forall_mem_cons.mpr ⟨(by decide +kernel), List.forall_mem_cons.mpr ⟨(by decide +kernel), List.forall_mem_cons.mpr ⟨(by decide +kernel), List.forall_mem_cons.mpr ⟨(by decide +kernel), List.forall_mem_cons.mpr ⟨(by decide +kernel), fun _ h => absurd h List.not_mem_nil⟩⟩⟩⟩⟩⟩⟩⟩⟩⟩⟩⟩⟩⟩⟩⟩⟩⟩⟩⟩⟩⟩⟩⟩
set_option maxRecDepth 20000 in
theorem wl_wsL_law_r14 : ∀ w ∈ wsL_law_r14, w ∈ lw_tbl := List.forall_mem_cons.mpr ⟨(by decide +kernel), List.forall_mem_cons.mpr ⟨(by decide +kernel), List.forall_mem_cons.mpr ⟨(by decide +kernel), List.forall_mem_cons.mpr ⟨(by decide +kernel), List.forall_mem_cons.mpr ⟨(by decide +kernel), List.forall_mem_cons.mpr ⟨(by decide +kernel), List.forall_mem_cons.mpr ⟨(by decide +kernel), List.forall_mem_cons.mpr ⟨(by decide +kernel), List.forall_mem_cons.mpr ⟨(by decide +kernel), List.forall_mem_cons.mpr ⟨(by decide +kernel), List.forall_mem_cons.mpr ⟨(by decide +kernel), List.forall_mem_cons.mpr ⟨(by decide +kernel), List.forall_mem_cons.mpr ⟨(by decide +kernel), List.forall_mem_cons.mpr ⟨(by decide +kernel), List.forall_mem_cons.mpr ⟨(by decide +kernel), List.forall_mem_cons.mpr ⟨(by decide +kernel), List.forall_mem_cons.mpr ⟨(by decide +kernel), List.forall_mem_cons.mpr ⟨(by decide +kernel), List.forall_mem_cons.mpr ⟨(by decide +kernel), List.forall_mem_cons.mpr ⟨(by decide +kernel), List.forall_mem_cons.mpr ⟨(by decide +kernel), List.forall_mem_cons.mpr ⟨(by decide +kernel), List.forall_mem_cons.mpr ⟨(by decide +kernel), List.forall_mem_cons.mpr ⟨(by decide +kernel), fun _ h => absurd h List.not_mem_nil⟩⟩⟩⟩⟩⟩⟩⟩⟩⟩⟩⟩⟩⟩⟩⟩⟩⟩⟩⟩⟩⟩⟩⟩
set_option maxRecDepth 20000 in
theorem wl_wsL_law_r15 : ∀ w ∈ wsL_law_r15, w ∈ lw_tbl := List.forall_mem_cons.mpr ⟨(by decide +kernel), List.forall_mem_cons.mpr ⟨(by decide +kernel), List.forall_mem_cons.mpr ⟨(by decide +kernel), List.forall_mem_cons.mpr ⟨(by decide +kernel), List.forall_mem_cons.mpr ⟨(by decide +kernel), List.forall_mem_cons.mpr ⟨(by decide +kernel), List.forall_mem_cons.mpr ⟨(by decide +kernel), List.forall_mem_cons.mpr ⟨(by decide +kernel), List.forall_mem_cons.mpr ⟨(by decide +kernel), List.forall_mem_cons.mpr ⟨(by decide +kernel), List.forall_mem_cons.mpr ⟨(by decide +kernel), List.forall_mem_cons.mpr ⟨(by decide +kernel), List.forall_mem_cons.mpr ⟨(by decide +kernel), List.forall_mem_cons.mpr ⟨(by decide +kernel), List.forall_mem_cons.mpr ⟨(by decide +kernel), List.forall_mem_cons.mpr ⟨(by decide +kernel), List.forall_mem_cons.mpr ⟨(by decide +kernel), List.forall_mem_cons.mpr ⟨(by decide +kernel), List.forall_mem_cons.mpr ⟨(by decide +kernel), List.forall_mem_cons.mpr ⟨(by decide +kernel), List.forall_mem_cons.mpr ⟨(by decide +kernel), List.forall_mem_cons.mpr ⟨(by decide +kernel), List.forall_mem_cons.mpr ⟨(by decide +kernel), List.forall_mem_cons.mpr ⟨(by decide +kernel), fun _ h => absurd h List.not_mem_nil⟩⟩⟩⟩⟩⟩⟩⟩⟩⟩⟩⟩⟩⟩⟩⟩⟩⟩⟩⟩⟩⟩⟩⟩
set_option maxRecDepth 20000 in
theorem wl_wsL_law_r16 : ∀ w ∈ wsL_law_r16, w ∈ lw_tbl := List.forall_mem_cons.mpr ⟨(by decide +kernel), List.forall_mem_cons.mpr ⟨(by decide +kernel), List.forall_mem_cons.mpr ⟨(by decide +kernel), List.forall_mem_cons.mpr ⟨(by decide +kernel), List.forall_mem_cons.mpr ⟨(by decide +kernel), List.forall_mem_cons.mpr ⟨(by decide +kernel), List.forall_mem_cons.mpr ⟨(by decide +kernel), List.forall_mem_cons.mpr ⟨(by decide +kernel), List.forall_mem_cons.mpr ⟨(by decide +kernel), List.forall_mem_cons.mpr ⟨(by decide +kernel), List.forall_mem_cons.mpr ⟨(by decide +kernel), List.forall_mem_cons.mpr ⟨(by decide +kernel), List.forall_mem_cons.mpr ⟨(by decide +kernel), List.forall_mem_cons.mpr ⟨(by decide +kernel), List.forall_mem_cons.mpr ⟨(by decide +kernel), List.forall_mem_cons.mpr ⟨(by decide +kernel), List.forall_mem_cons.mpr ⟨(by decide +kernel), List.forall_mem_cons.mpr ⟨(by decide +kernel), List.forall_mem_cons.mpr ⟨(by decide +kernel), List.forall_mem_cons.mpr ⟨(by decide +kernel), List.forall_mem_cons.mpr ⟨(by decide +kernel), List.forall_mem_cons.mpr ⟨(by decide +kernel), List.forall_mem_cons.mpr ⟨(by decide +kernel), List.forall_mem_cons.mpr ⟨(by decide +kernel), fun _ h => absurd h List.not_mem_nil⟩⟩⟩⟩⟩⟩⟩⟩⟩⟩⟩⟩⟩⟩⟩⟩⟩⟩⟩⟩⟩⟩⟩⟩
set_option maxRecDepth 20000 in
theorem wl_wsL_law_r17 : ∀ w ∈ wsL_law_r17, w ∈ lw_tbl := List.forall_mem_cons.mpr ⟨(by decide +kernel), List.forall_mem_cons.mpr ⟨(by decide +kernel), List.forall_mem_cons.mpr ⟨(by decide +kernel), List.forall_mem_cons.mpr ⟨(by decide +kernel), List.forall_mem_cons.mpr ⟨(by decide +kernel), List.forall_mem_cons.mpr ⟨(by decide +kernel), List.forall_mem_cons.mpr ⟨(by decide +kernel), List.forall_mem_cons.mpr ⟨(by decide +kernel), List.forall_mem_cons.mpr ⟨(by decide +kernel), List.forall_mem_cons.mpr ⟨(by decide +kernel), List.forall_mem_cons.mpr ⟨(by decide +kernel), List.forall_mem_cons.mpr ⟨(by decide +kernel), List.forall_mem_cons.mpr ⟨(by decide +kernel), List.forall_mem_cons.mpr ⟨(by decide +kernel), List.forall_mem_cons.mpr ⟨(by decide +kernel), List.forall_mem_cons.mpr ⟨(by decide +kernel), List.forall_mem_cons.mpr ⟨(by decide +kernel), List.forall_mem_cons.mpr ⟨(by decide +kernel), List.forall_mem_cons.mpr ⟨(by decide +kernel), List.forall_mem_cons.mpr ⟨(by decide +kernel), List.forall_mem_cons.mpr ⟨(by decide +kernel), List.forall_mem_cons.mpr ⟨(by decide +kernel), List.forall_mem_cons.mpr ⟨(by decide +kernel), List.forall_mem_cons.mpr ⟨(by decide +kernel), fun _ h => absurd h List.not_mem_nil⟩⟩⟩⟩⟩⟩⟩⟩⟩⟩⟩⟩⟩⟩⟩⟩⟩⟩⟩⟩⟩⟩⟩⟩
set_option maxRecDepth 20000 in
theorem wl_wsL_law_r18 : ∀ w ∈ wsL_law_r18, w ∈ lw_tbl := List.forall_mem_cons.mpr ⟨(by decide +kernel), List.forall_mem_cons.mpr ⟨(by decide +kernel), List.forall_mem_cons.mpr ⟨(by decide +kernel), List.forall_mem_cons.mpr ⟨(by decide +kernel), List.forall_mem_cons.mpr ⟨(by decide +kernel), List.forall_mem_cons.mpr ⟨(by decide +kernel), List.forall_mem_cons.mpr ⟨(by decide +kernel), List.forall_mem_cons.mpr ⟨(by decide +kernel), List.forall_mem_cons.mpr ⟨(by decide +kernel), List.forall_mem_cons.mpr ⟨(by decide +kernel), List.forall_mem_cons.mpr ⟨(by decide +kernel), List.forall_mem_cons.mpr ⟨(by decide +kernel), List.forall_mem_cons.mpr ⟨(by decide +kernel), List.forall_mem_cons.mpr ⟨(by decide +kernel), List.forall_mem_cons.mpr ⟨(by decide +kernel), List.forall_mem_cons.mpr ⟨(by decide +kernel), List.forall_mem_cons.mpr ⟨(by decide +kernel), List.forall_mem_cons.mpr ⟨(by decide +kernel), List.forall_mem_cons.mpr ⟨(by decide +kernel), List.forall_mem_cons.mpr ⟨(by decide +kernel), List.forall_mem_cons.mpr ⟨(by decide +kernel), List.forall_mem_cons.mpr ⟨(by decide +kernel), List.forall_mem_cons.mpr ⟨(by decide +kernel), List.forall_mem_cons.mpr ⟨(by decide +kernel), fun _ h => absurd h List.not_mem_nil⟩⟩⟩⟩⟩⟩⟩⟩⟩⟩⟩⟩⟩⟩⟩⟩⟩⟩⟩⟩⟩⟩⟩⟩
set_option maxRecDepth 20000 in
theorem wl_wsL_law_r19 : ∀ w ∈ wsL_law_r19, w ∈ lw_tbl := List.forall_mem_cons.mpr ⟨(by decide +kernel), List.forall_mem_cons.mpr ⟨(by decide +kernel), List.forall_mem_cons.mpr ⟨(by decide +kernel), List.forall_mem_cons.mpr ⟨(by decide +kernel), List.forall_mem_cons.mpr ⟨(by decide +kernel), List.forall_mem_cons.mpr ⟨(by decide +kernel), List.forall_mem_cons.mpr ⟨(by decide +kernel), List.forall_mem_cons.mpr ⟨(by decide +kernel), List.forall_mem_cons.mpr ⟨(by decide +kernel), List.forall_mem_cons.mpr ⟨(by decide +kernel), List.forall_mem_cons.mpr ⟨(by decide +kernel), List.forall_mem_cons.mpr ⟨(by decide +kernel), List.forall_mem_cons.mpr ⟨(by decide +kernel), List.forall_mem_cons.mpr ⟨(by decide +kernel), List.forall_mem_cons.mpr ⟨(by decide +kernel), List.forall_mem_cons.mpr ⟨(by decide +kernel), List.forall_mem_cons.mpr ⟨(by decide +kernel), List.forall_mem_cons.mpr ⟨(by decide +kernel), List.forall_mem_cons.mpr ⟨(by decide +kernel), List.forall_mem_cons.mpr ⟨(by decide +kernel), List.forall_mem_cons.mpr ⟨(by decide +kernel), List.forall_mem_cons.mpr ⟨(by decide +kernel), List.forall_mem_cons.mpr ⟨(by decide +kernel), List.forall_mem_cons.mpr ⟨(by decide +kernel), fun _ h => absurd h List.not_mem_nil⟩⟩⟩⟩⟩⟩⟩⟩⟩⟩⟩⟩⟩⟩⟩⟩⟩⟩⟩⟩⟩⟩⟩⟩
set_option maxRecDepth 20000 in
theorem wl_wsL_law_r20 : ∀ w ∈ wsL_law_r20, w ∈ lw_tbl := List.forall_mem_cons.mpr ⟨(by decide +kernel), List.forall_mem_cons.mpr ⟨(by decide +kernel), List.forall_mem_cons.mpr ⟨(by decide +kernel), List.forall_mem_cons.mpr ⟨(by decide +kernel), List.forall_mem_cons.mpr ⟨(by decide +kernel), List.forall_mem_cons.mpr ⟨(by decide +kernel), List.forall_mem_cons.mpr ⟨(by decide +kernel), List.forall_mem_cons.mpr ⟨(by decide +kernel), List.forall_mem_cons.mpr ⟨(by decide +kernel), List.forall_mem_cons.mpr ⟨(by decide +kernel), List.forall_mem_cons.mpr ⟨(by decide +kernel), List.forall_mem_cons.mpr ⟨(by decide +kernel), List.forall_mem_cons.mpr ⟨(by decide +kernel), List.forall_mem_cons.mpr ⟨(by decide +kernel), List.forall_mem_cons.mpr ⟨(by decide +kernel), List.forall_mem_cons.mpr ⟨(by decide +kernel), List.forall_mem_cons.mpr ⟨(by decide +kernel), List.forall_mem_cons.mpr ⟨(by decide +kernel), List.forall_mem_cons.mpr ⟨(by decide +kernel), List.forall_mem_cons.mpr ⟨(by decide +kernel), List.forall_mem_cons.mpr ⟨(by decide +kernel), List.forall_mem_cons.mpr ⟨(by decide +kernel), List.forall_mem_cons.mpr ⟨(by decide +kernel), List.forall_mem_cons.mpr ⟨(by decide +kernel), fun _ h => absurd h List.not_mem_nil⟩⟩⟩⟩⟩⟩⟩⟩⟩⟩⟩⟩⟩⟩⟩⟩⟩⟩⟩⟩⟩⟩⟩⟩
set_option maxRecDepth 20000 in
theorem wl_wsL_law_r21 : ∀ w ∈ wsL_law_r21, w ∈ lw_tbl := List.forall_mem_cons.mpr ⟨(by decide +kernel), List.forall_mem_cons.mpr ⟨(by decide +kernel), List.forall_mem_cons.mpr ⟨(by decide +kernel), List.forall_mem_cons.mpr ⟨(by decide +kernel), List.forall_mem_cons.mpr ⟨(by decide +kernel), List.forall_mem_cons.mpr ⟨(by decide +kernel), List.forall_mem_cons.mpr ⟨(by decide +kernel), List.forall_mem_cons.mpr ⟨(by decide +kernel), List.forall_mem_cons.mpr ⟨(by decide +kernel), List.forall_mem_cons.mpr ⟨(by decide +kernel), List.forall_mem_cons.mpr ⟨(by decide +kernel), List.forall_mem_cons.mpr ⟨(by decide +kernel), List.forall_mem_cons.mpr ⟨(by decide +kernel), List.forall_mem_cons.mpr ⟨(by decide +kernel), List.forall_mem_cons.mpr ⟨(by decide +kernel), List.forall_mem_cons.mpr ⟨(by decide +kernel), List.forall_mem_cons.mpr ⟨(by decide +kernel), List.forall_mem_cons.mpr ⟨(by decide +kernel), List.forall_mem_cons.mpr ⟨(by decide +kernel), List.forall_mem_cons.mpr ⟨(by decide +kernel), List.forall_mem_cons.mpr ⟨(by decide +kernel), List.forall_mem_cons.mpr ⟨(by decide +kernel), List.forall_mem_cons.mpr ⟨(by decide +kernel), List.forall_mem_cons.mpr ⟨(by decide +kernel), fun _ h => absurd h List.not_mem_nil⟩⟩⟩⟩⟩⟩⟩⟩⟩⟩⟩⟩⟩⟩⟩⟩⟩⟩⟩⟩⟩⟩⟩⟩
set_option maxRecDepth 20000 in
theorem wl_wsL_law_r22 : ∀ w ∈ wsL_law_r22, w ∈ lw_tbl := List.forall_mem_cons.mpr ⟨(by decide +kernel), List.forall_mem_cons.mpr ⟨(by decide +kernel), List.forall_mem_cons.mpr ⟨(by decide +kernel), List.forall_mem_cons.mpr ⟨(by decide +kernel), List.forall_mem_cons.mpr ⟨(by decide +kernel), List.forall_mem_cons.mpr ⟨(by decide +kernel), List.forall_mem_cons.mpr ⟨(by decide +kernel), List.forall_mem_cons.mpr ⟨(by decide +kernel), List.forall_mem_cons.mpr ⟨(by decide +kernel), List.forall_mem_cons.mpr ⟨(by decide +kernel), List.forall_mem_cons.mpr ⟨(by decide +kernel), List.forall_mem_cons.mpr ⟨(by decide +kernel), List.forall_mem_cons.mpr ⟨(by decide +kernel), List.forall_mem_cons.mpr ⟨(by decide +kernel), List.forall_mem_cons.mpr ⟨(by decide +kernel), List.forall_mem_cons.mpr ⟨(by decide +kernel), List.forall_mem_cons.mpr ⟨(by decide +kernel), List.forall_mem_cons.mpr ⟨(by decide +kernel), List.forall_mem_cons.mpr ⟨(by decide +kernel), List.forall_mem_cons.mpr ⟨(by decide +kernel), List.forall_mem_cons.mpr ⟨(by decide +kernel), List.forall_mem_cons.mpr ⟨(by decide +kernel), List.forall_mem_cons.mpr ⟨(by decide +kernel), List.forall_mem_cons.mpr ⟨(by decide +kernel), fun _ h => absurd h List.not_mem_nil⟩⟩⟩⟩⟩⟩⟩⟩⟩⟩⟩⟩⟩⟩⟩⟩⟩⟩⟩⟩⟩⟩⟩⟩
set_option maxRecDepth 20000 in
theorem wl_wsL_law_r23 : ∀ w ∈ wsL_law_r23, w ∈ lw_tbl := List.forall_mem_cons.mpr ⟨(by decide +kernel), List.forall_mem_cons.mpr ⟨(by decide +kernel), List.forall_mem_cons.mpr ⟨(by decide +kernel), List.forall_mem_cons.mpr ⟨(by decide +kernel), List.forall_mem_cons.mpr ⟨(by decide +kernel), List.forall_mem_cons.mpr ⟨(by decide +kernel), List.forall_mem_cons.mpr ⟨(by decide +kernel), List.forall_mem_cons.mpr ⟨(by decide +kernel), List.forall_mem_cons.mpr ⟨(by decide +kernel), List.forall_mem_cons.mpr ⟨(by decide +kernel), List.forall_mem_cons.mpr ⟨(by decide +kernel), List.forall_mem_cons.mpr ⟨(by decide +kernel), List.forall_mem_cons.mpr ⟨(by decide +kernel), List.forall_mem_cons.mpr ⟨(by decide +kernel), List.forall_mem_cons.mpr ⟨(by decide +kernel), List.forall_mem_cons.mpr ⟨(by decide +kernel), List.forall_mem_cons.mpr ⟨(by decide +kernel), List.forall_mem_cons.mpr ⟨(by decide +kernel), List.forall_mem_cons.mpr ⟨(by decide +kernel), List.forall_mem_cons.mpr ⟨(by decide +kernel), List.forall_mem_cons.mpr ⟨(by decide +kernel), List.forall_mem_cons.mpr ⟨(by decide +kernel), List.forall_mem_cons.mpr ⟨(by decide +kernel), List.forall_mem_cons.mpr ⟨(by decide +kernel), fun _ h => absurd h List.not_mem_nil⟩⟩⟩⟩⟩⟩⟩⟩⟩⟩⟩⟩⟩⟩⟩⟩⟩⟩⟩⟩⟩⟩⟩⟩
set_option maxRecDepth 20000 in
theorem wl_wsL_law_r24 : ∀ w ∈ wsL_law_r24, w ∈ lw_tbl := List.forall_mem_cons.mpr ⟨(by decide +kernel), List.forall_mem_cons.mpr ⟨(by decide +kernel), List.forall_mem_cons.mpr ⟨(by decide +kernel), List.forall_mem_cons.mpr ⟨(by decide +kernel), List.forall_mem_cons.mpr ⟨(by decide +kernel), List.forall_mem_cons.mpr ⟨(by decide +kernel), List.forall_mem_cons.mpr ⟨(by decide +kernel), List.forall_mem_cons.mpr ⟨(by decide +kernel), List.forall_mem_cons.mpr ⟨(by decide +kernel), List.forall_mem_cons.mpr ⟨(by decide +kernel), List.forall_mem_cons.mpr ⟨(by decide +kernel), List.forall_mem_cons.mpr ⟨(by decide +kernel), List.forall_mem_cons.mpr ⟨(by decide +kernel), List.forall_mem_cons.mpr ⟨(by decide +kernel), List.forall_mem_cons.mpr ⟨(by decide +kernel), List.forall_mem_cons.mpr ⟨(by decide +kernel), List.forall_mem_cons.mpr ⟨(by decide +kernel), List.forall_mem_cons.mpr ⟨(by decide +kernel), List.forall_mem_cons.mpr ⟨(by decide +kernel), List.forall_mem_cons.mpr ⟨(by decide +kernel), List.forall_mem_cons.mpr ⟨(by decide +kernel), List.forall_mem_cons.mpr ⟨(by decide +kernel), List.forall_mem_cons.mpr ⟨(by decide +kernel), List.forall_mem_cons.mpr ⟨(by decide +kernel), fun _ h => absurd h List.not_mem_nil⟩⟩⟩⟩⟩⟩⟩⟩⟩⟩⟩⟩⟩⟩⟩⟩⟩⟩⟩⟩⟩⟩⟩⟩
set_option maxRecDepth 20000 in
theorem wl_wsL_law_r25 : ∀ w ∈ wsL_law_r25, w ∈ lw_tbl := List.forall_mem_cons.mpr ⟨(by decide +kernel), List.forall_mem_cons.mpr ⟨(by decide +kernel), List.forall_mem_cons.mpr ⟨(by decide +kernel), List.forall_mem_cons.mpr ⟨(by decide +kernel), List.forall_mem_cons.mpr ⟨(by decide +kernel), List.forall_mem_cons.mpr ⟨(by decide +kernel), List.forall_mem_cons.mpr ⟨(by decide +kernel), List.forall_mem_cons.mpr ⟨(by decide +kernel), List.forall_mem_cons.mpr ⟨(by decide +kernel), List.forall_mem_cons.mpr ⟨(by decide +kernel), List.forall_mem_cons.mpr ⟨(by decide +kernel), List.forall_mem_cons.mpr ⟨(by decide +kernel), List.forall_mem_cons.mpr ⟨(by decide +kernel), List.forall_mem_cons.mpr ⟨(by decide +kernel), List.forall_mem_cons.mpr ⟨(by decide +kernel), List.forall_mem_cons.mpr ⟨(by decide +kernel), List.forall_mem_cons.mpr ⟨(by decide +kernel), List.forall_mem_cons.mpr ⟨(by decide +kernel), List.forall_mem_cons.mpr ⟨(by decide +kernel), List.forall_mem_cons.mpr ⟨(by decide +kernel), List.forall_mem_cons.mpr ⟨(by decide +kernel), List.forall_mem_cons.mpr ⟨(by decide +kernel), List.forall_mem_cons.mpr ⟨(by decide +kernel), List.forall_mem_cons.mpr ⟨(by decide +kernel), fun _ h => absurd h List.not_mem_nil⟩⟩⟩⟩⟩⟩⟩⟩⟩⟩⟩⟩⟩⟩⟩⟩⟩⟩⟩⟩⟩⟩⟩⟩
set_option maxRecDepth 20000 in
theorem wl_wsL_law_r26 : ∀ w ∈ wsL_law_r26, w ∈ lw_tbl := List.forall_mem_cons.mpr ⟨(by decide +kernel), List.forall_mem_cons.mpr ⟨(by decide +kernel), List.forall_mem_cons.mpr ⟨(by decide +kernel), List.forall_mem_cons.mpr ⟨(by decide +kernel), List.forall_mem_cons.mpr ⟨(by decide +kernel), List.forall_mem_cons.mpr ⟨(by decide +kernel), List.forall_mem_cons.mpr ⟨(by decide +kernel), List.forall_mem_cons.mpr ⟨(by decide +kernel), List.forall_mem_cons.mpr ⟨(by decide +kernel), List.forall_mem_cons.mpr ⟨(by decide +kernel), List.forall_mem_cons.mpr ⟨(by decide +kernel), List.forall_mem_cons.mpr ⟨(by decide +kernel), List.forall_mem_cons.mpr ⟨(by decide +kernel), List.forall_mem_cons.mpr ⟨(by decide +kernel), List.forall_mem_cons.mpr ⟨(by decide +kernel), List.forall_mem_cons.mpr ⟨(by decide +kernel), List.forall_mem_cons.mpr ⟨(by decide +kernel), List.forall_mem_cons.mpr ⟨(by decide +kernel), List.forall_mem_cons.mpr ⟨(by decide +kernel), List.forall_mem_cons.mpr ⟨(by decide +kernel), List.forall_mem_cons.mpr ⟨(by decide +kernel), List.forall_mem_cons.mpr ⟨(by decide +kernel), fun _ h => absurd h List.not_mem_nil⟩⟩⟩⟩⟩⟩⟩⟩⟩⟩⟩⟩⟩⟩⟩⟩⟩⟩⟩⟩⟩⟩
set_option maxRecDepth 20000 in
theorem wl_wsX30 : ∀ w ∈ wsX30, w ∈ lw_tbl := List.forall_mem_cons.mpr ⟨(by decide +kernel), List.forall_mem_cons.mpr ⟨(by decide +kernel), List.forall_mem_cons.mpr ⟨(by decide +kernel), List.forall_mem_cons.mpr ⟨(by decide +kernel), List.forall_mem_cons.mpr ⟨(by decide +kernel), List.forall_mem_cons.mpr ⟨(by decide +kernel), List.forall_mem_cons.mpr ⟨(by decide +kernel), List.forall_mem_cons.mpr ⟨(by decide +kernel), fun _ h => absurd h List.not_mem_nil⟩⟩⟩⟩⟩⟩⟩⟩
set_option maxRecDepth 20000 in
theorem wl_wsX40 : ∀ w ∈ wsX40, w ∈ lw_tbl := List.forall_mem_cons.mpr ⟨(by decide +kernel), List.forall_mem_cons.mpr ⟨(by decide +kernel), List.forall_mem_cons.mpr ⟨(by decide +kernel), List.forall_mem_cons.mpr ⟨(by decide +kernel), List.forall_mem_cons.mpr ⟨(by decide +kernel), List.forall_mem_cons.mpr ⟨(by decide +kernel), List.forall_mem_cons.mpr ⟨(by decide +kernel), List.forall_mem_cons.mpr ⟨(by decide +kernel), List.forall_mem_cons.mpr ⟨(by decide +kernel), List.forall_mem_cons.mpr ⟨(by decide +kernel), List.forall_mem_cons.mpr ⟨(by decide +kernel), List.forall_mem_cons.mpr ⟨(by decide +kernel), List.forall_mem_cons.mpr ⟨(by decide +kernel), List.forall_mem_cons.mpr ⟨(by decide +kernel), List.forall_mem_cons.mpr ⟨(by decide +kernel), List.forall_mem_cons.mpr ⟨(by decide +kernel), List.forall_mem_cons.mpr ⟨(by decide +kernel), List.forall_mem_cons.mpr ⟨(by decide +kernel), List.forall_mem_cons.mpr ⟨(by decide +kernel), List.forall_mem_cons.mpr ⟨(by decide +kernel), List.forall_mem_cons.mpr ⟨(by decide +kernel), List.forall_mem_cons.mpr ⟨(by decide +kernel), List.forall_mem_cons.mpr ⟨(by decide +kernel), List.forall_mem_cons.mpr ⟨(by decide +kernel), List.forall_mem_cons.mpr ⟨(by decide +kernel), List.forall_mem_cons.mpr ⟨(by decide +kernel), fun _ h => absurd h List.not_mem_nil⟩⟩⟩⟩⟩⟩⟩⟩⟩⟩⟩⟩⟩⟩⟩⟩⟩⟩⟩⟩⟩⟩⟩⟩⟩⟩
set_option maxRecDepth 20000 in
theorem wl_wsX00 : ∀ w ∈ wsX00, w ∈ lw_tbl := List.forall_mem_cons.mpr ⟨(by decide +kernel), List.forall_mem_cons.mpr ⟨(by decide +kernel), List.forall_mem_cons.mpr ⟨(by decide +kernel), List.forall_mem_cons.mpr ⟨(by decide +kernel), List.forall_mem_cons.mpr ⟨(by decide +kernel), fun _ h => absurd h List.not_mem_nil⟩⟩⟩⟩⟩
set_option maxRecDepth 20000 in
theorem wl_wsX10 : ∀ w ∈ wsX10, w ∈ lw_tbl := List.forall_mem_cons.mpr ⟨(by decide +kernel), List.forall_mem_cons.mpr ⟨(by decide +kernel), List.forall_mem_cons.mpr ⟨(by decide +kernel), List.forall_mem_cons.mpr ⟨(by decide +kernel), List.forall_mem_cons.mpr ⟨(by decide +kernel), fun _ h => absurd h List.not_mem_nil⟩⟩⟩⟩⟩
set_option maxRecDepth 20000 in
theorem wl_wsX20 : ∀ w ∈ wsX20, w ∈ lw_tbl := List.forall_mem_cons.mpr ⟨(by decide +kernel), List.forall_mem_cons.mpr ⟨(by decide +kernel), List.forall_mem_cons.mpr ⟨(by decide +kernel), List.forall_mem_cons.mpr ⟨(by decide +kernel), List.forall_mem_cons.mpr ⟨(by decide +kernel), List.forall_mem_cons.mpr ⟨(by decide +kernel), List.forall_mem_cons.mpr ⟨(by decide +kernel), fun _ h => absurd h List.not_mem_nil⟩⟩⟩⟩⟩⟩⟩
theorem wsL_law_in : ∀ w ∈ wsL_law, w ∈ lw_tbl := List.forall_mem_append.mpr ⟨List.forall_mem_append.mpr ⟨List.forall_mem_append.mpr ⟨List.forall_mem_append.mpr ⟨List.forall_mem_append.mpr ⟨List.forall_mem_append.mpr ⟨List.forall_mem_append.mpr ⟨wl_wsL_law_r1, List.forall_mem_append.mpr ⟨wl_wsL_law_r2, List.forall_mem_append.mpr ⟨wl_wsL_law_r3, List.forall_mem_append.mpr ⟨wl_wsL_law_r4, List.forall_mem_append.mpr ⟨wl_wsL_law_r5, List.forall_mem_append.mpr ⟨wl_wsL_law_r6, List.forall_mem_append.mpr ⟨wl_wsL_law_r7, List.forall_mem_append.mpr ⟨wl_wsL_law_r8, List.forall_mem_append.mpr ⟨wl_wsL_law_r9, List.forall_mem_append.mpr ⟨wl_wsL_law_r10, List.forall_mem_append.mpr ⟨wl_wsL_law_r11, List.forall_mem_append.mpr ⟨wl_wsL_law_r12, List.forall_mem_append.mpr ⟨wl_wsL_law_r13, List.forall_mem_append.mpr ⟨wl_wsL_law_r14, List.forall_mem_append.mpr ⟨wl_wsL_law_r15, List.forall_mem_append.mpr ⟨wl_wsL_law_r16, List.forall_mem_append.mpr ⟨wl_wsL_law_r17, List.forall_mem_append.mpr ⟨wl_wsL_law_r18, List.forall_mem_append.mpr ⟨wl_wsL_law_r19, List.forall_mem_append.mpr ⟨wl_wsL_law_r20, List.forall_mem_append.mpr ⟨wl_wsL_law_r21, List.forall_mem_append.mpr ⟨wl_wsL_law_r22, List.forall_mem_append.mpr ⟨wl_wsL_law_r23, List.forall_mem_append.mpr ⟨wl_wsL_law_r24, List.forall_mem_append.mpr ⟨wl_wsL_law_r25, wl_wsL_law_r26⟩⟩⟩⟩⟩⟩⟩⟩⟩⟩⟩⟩⟩⟩⟩⟩⟩⟩⟩⟩⟩⟩⟩⟩⟩, wl_wsX30⟩, wl_wsX40⟩, wl_wsX00⟩, wl_wsX10⟩, wl_wsX20⟩, fun _ h => absurd h List.not_mem_nil⟩
end
section
theorem inlX0 : ∀ w ∈ wsX00, w ∈ wsL_law := fun _ h => List.mem_append_left _ (List.mem_append_left _ (List.mem_append_left _ (List.mem_append_right _ h)))
theorem inX0 : ∀ w ∈ wsX00, w ∈ lw_tbl := fun w h => wsL_law_in w (inlX0 w h)
theorem inlX1 : ∀ w ∈ wsX10, w ∈ wsL_law := fun _ h => List.mem_append_left _ (List.mem_append_left _ (List.mem_append_right _ h))
theorem inX1 : ∀ w ∈ wsX10, w ∈ lw_tbl := fun w h => wsL_law_in w (inlX1 w h)
theorem inlX2 : ∀ w ∈ wsX20, w ∈ wsL_law := fun _ h => List.mem_append_left _ (List.mem_append_right _ h)
theorem inX2 : ∀ w ∈ wsX20, w ∈ lw_tbl := fun w h => wsL_law_in w (inlX2 w h)
theorem inlX3 : ∀ w ∈ wsX30, w ∈ wsL_law := fun _ h => List.mem_append_left _ (List.mem_append_left _ (List.mem_append_left _ (List.mem_append_left _ (List.mem_append_left _ (List.mem_append_right _ h)))))
theorem inX3 : ∀ w ∈ wsX30, w ∈ lw_tbl := fun w h => wsL_law_in w (inlX3 w h)
theorem inlX4 : ∀ w ∈ wsX40, w ∈ wsL_law := fun _ h => List.mem_append_left _ (List.mem_append_left _ (List.mem_append_left _ (List.mem_append_left _ (List.mem_append_right _ h))))
theorem inX4 : ∀ w ∈ wsX40, w ∈ lw_tbl := fun w h => wsL_law_in w (inlX4 w h)
theorem inJ13 : ∀ w ∈ wsJ130, w ∈ lw_tbl := by decide +kernel
theorem inJ9 : ∀ w ∈ wsJ90, w ∈ lw_tbl := by decide +kernel
theorem dX0_init_0 : decode cX0_init 0 = .ok (.aload_n 0, 1) := by decide +kernel
theorem dX0_init_1 : decode cX0_init 1 = .ok (.invokespecial 3, 3) := by decide +kernel
theorem dX0_init_4 : decode cX0_init 4 = .ok (.aload_n 0, 1) := by decide +kernel
theorem dX0_init_5 : decode cX0_init 5 = .ok (.bipush 6, 2) := by decide +kernel
theorem dX0_init_7 : decode cX0_init 7 = .ok (.newarray .long, 2) := by decide +kernel
theorem dX0_init_9 : decode cX0_init 9 = .ok (.putfield 9, 3) := by decide +kernel
theorem dX0_init_12 : decode cX0_init 12 = .ok (.return_, 1) := by decide +kernel
set_option maxRecDepth 20000 in
theorem ggX0_clear_X3_inside : GoodIn wsX0_clear wsX3_inside := goodIn_r _ [9, 10, 11, 8, 12, 13, 14, 15, 16, 17] (by decide +kernel) (by decide +kernel)
set_option maxRecDepth 20000 in
theorem gX0_clear_X3_inside_n26 : GoodIn wsX0_clear (wsX3_inside) := ggX0_clear_X3_inside
theorem dX0_clear_0 : decode cX0_clear 0 = .ok (.aload_n 0, 1) := by decide +kernel
theorem dX0_clear_1 : decode cX0_clear 1 = .ok (.iload_n 1, 1) := by decide +kernel
theorem dX0_clear_2 : decode cX0_clear 2 = .ok (.putfield 15, 3) := by decide +kernel
theorem dX0_clear_5 : decode cX0_clear 5 = .ok (.aload_n 0, 1) := by decide +kernel
theorem dX0_clear_6 : decode cX0_clear 6 = .ok (.iload_n 2, 1) := by decide +kernel
theorem dX0_clear_7 : decode cX0_clear 7 = .ok (.putfield 19, 3) := by decide +kernel
theorem dX0_clear_10 : decode cX0_clear 10 = .ok (.aload_n 0, 1) := by decide +kernel
theorem dX0_clear_11 : decode cX0_clear 11 = .ok (.lconst 0, 1) := by decide +kernel
theorem dX0_clear_12 : decode cX0_clear 12 = .ok (.putfield 22, 3) := by decide +kernel
theorem dX0_clear_15 : decode cX0_clear 15 = .ok (.iconst 0, 1) := by decide +kernel
theorem dX0_clear_16 : decode cX0_clear 16 = .ok (.istore_n 3, 1) := by decide +kernel
theorem dX0_clear_17 : decode cX0_clear 17 = .ok (.iload_n 3, 1) := by decide +kernel
theorem dX0_clear_18 : decode cX0_clear 18 = .ok (.iload_n 2, 1) := by decide +kernel
theorem dX0_clear_19 : decode cX0_clear 19 = .ok (.if_icmp .ge 34, 3) := by decide +kernel
theorem dX0_clear_22 : decode cX0_clear 22 = .ok (.iload_n 3, 1) := by decide +kernel
theorem dX0_clear_23 : decode cX0_clear 23 = .ok (.bipush 8, 2) := by decide +kernel
theorem dX0_clear_25 : decode cX0_clear 25 = .ok (.if_icmp .ge 28, 3) := by decide +kernel
theorem dX0_clear_28 : decode cX0_clear 28 = .ok (.aload_n 0, 1) := by decide +kernel
theorem dX0_clear_29 : decode cX0_clear 29 = .ok (.dup, 1) := by decide +kernel
theorem dX0_clear_30 : decode cX0_clear 30 = .ok (.getfield 22, 3) := by decide +kernel
theorem dX0_clear_33 : decode cX0_clear 33 = .ok (.lconst 1, 1) := by decide +kernel
theorem dX0_clear_34 : decode cX0_clear 34 = .ok (.iload_n 1, 1) := by decide +kernel
theorem dX0_clear_35 : decode cX0_clear 35 = .ok (.lshl, 1) := by decide +kernel
theorem dX0_clear_36 : decode cX0_clear 36 = .ok (.lconst 1, 1) := by decide +kernel
theorem dX0_clear_37 : decode cX0_clear 37 = .ok (.lsub, 1) := by decide +kernel
theorem dX0_clear_38 : decode cX0_clear 38 = .ok (.bipush 8, 2) := by decide +kernel
theorem dX0_clear_40 : decode cX0_clear 40 = .ok (.iload_n 3, 1) := by decide +kernel
theorem dX0_clear_41 : decode cX0_clear 41 = .ok (.imul, 1) := by decide +kernel
theorem dX0_clear_42 : decode cX0_clear 42 = .ok (.lshl, 1) := by decide +kernel
theorem dX0_clear_43 : decode cX0_clear 43 = .ok (.lor, 1) := by decide +kernel
theorem dX0_clear_44 : decode cX0_clear 44 = .ok (.putfield 22, 3) := by decide +kernel
theorem dX0_clear_47 : decode cX0_clear 47 = .ok (.iinc 3 1, 3) := by decide +kernel
theorem dX0_clear_50 : decode cX0_clear 50 = .ok (.goto (-33), 3) := by decide +kernel
theorem dX0_clear_53 : decode cX0_clear 53 = .ok (.aload_n 0, 1) := by decide +kernel
theorem dX0_clear_54 : decode cX0_clear 54 = .ok (.aload_n 0, 1) := by decide +kernel
theorem dX0_clear_55 : decode cX0_clear 55 = .ok (.getfield 22, 3) := by decide +kernel
theorem dX0_clear_58 : decode cX0_clear 58 = .ok (.aload_n 0, 1) := by decide +kernel
theorem dX0_clear_59 : decode cX0_clear 59 = .ok (.getfield 22, 3) := by decide +kernel
theorem dX0_clear_62 : decode cX0_clear 62 = .ok (.invokestatic 26, 3) := by decide +kernel
theorem dX0_clear_65 : decode cX0_clear 65 = .ok (.ldc2_w 30, 3) := by decide +kernel
theorem dX0_clear_68 : decode cX0_clear 68 = .ok (.lxor, 1) := by decide +kernel
theorem dX0_clear_69 : decode cX0_clear 69 = .ok (.land, 1) := by decide +kernel
theorem dX0_clear_70 : decode cX0_clear 70 = .ok (.putfield 32, 3) := by decide +kernel
theorem dX0_clear_73 : decode cX0_clear 73 = .ok (.iconst 0, 1) := by decide +kernel
theorem dX0_clear_74 : decode cX0_clear 74 = .ok (.istore_n 3, 1) := by decide +kernel
theorem dX0_clear_75 : decode cX0_clear 75 = .ok (.iload_n 3, 1) := by decide +kernel
theorem dX0_clear_76 : decode cX0_clear 76 = .ok (.bipush 6, 2) := by decide +kernel
theorem dX0_clear_78 : decode cX0_clear 78 = .ok (.if_icmp .ge 16, 3) := by decide +kernel
theorem dX0_clear_81 : decode cX0_clear 81 = .ok (.aload_n 0, 1) := by decide +kernel
theorem dX0_clear_82 : decode cX0_clear 82 = .ok (.getfield 9, 3) := by decide +kernel
theorem dX0_clear_85 : decode cX0_clear 85 = .ok (.iload_n 3, 1) := by decide +kernel
theorem dX0_clear_86 : decode cX0_clear 86 = .ok (.lconst 0, 1) := by decide +kernel
theorem dX0_clear_87 : decode cX0_clear 87 = .ok (.lastore, 1) := by decide +kernel
theorem dX0_clear_88 : decode cX0_clear 88 = .ok (.iinc 3 1, 3) := by decide +kernel
theorem dX0_clear_91 : decode cX0_clear 91 = .ok (.goto (-16), 3) := by decide +kernel
theorem dX0_clear_94 : decode cX0_clear 94 = .ok (.return_, 1) := by decide +kernel
theorem dX0_copy_0 : decode cX0_copy 0 = .ok (.aload_n 0, 1) := by decide +kernel
theorem dX0_copy_1 : decode cX0_copy 1 = .ok (.aload_n 1, 1) := by decide +kernel
theorem dX0_copy_2 : decode cX0_copy 2 = .ok (.getfield 15, 3) := by decide +kernel
theorem dX0_copy_5 : decode cX0_copy 5 = .ok (.putfield 15, 3) := by decide +kernel
theorem dX0_copy_8 : decode cX0_copy 8 = .ok (.aload_n 0, 1) := by decide +kernel
theorem dX0_copy_9 : decode cX0_copy 9 = .ok (.aload_n 1, 1) := by decide +kernel
theorem dX0_copy_10 : decode cX0_copy 10 = .ok (.getfield 19, 3) := by decide +kernel
theorem dX0_copy_13 : decode cX0_copy 13 = .ok (.putfield 19, 3) := by decide +kernel
theorem dX0_copy_16 : decode cX0_copy 16 = .ok (.aload_n 0, 1) := by decide +kernel
theorem dX0_copy_17 : decode cX0_copy 17 = .ok (.aload_n 1, 1) := by decide +kernel
theorem dX0_copy_18 : decode cX0_copy 18 = .ok (.getfield 22, 3) := by decide +kernel
theorem dX0_copy_21 : decode cX0_copy 21 = .ok (.putfield 22, 3) := by decide +kernel
theorem dX0_copy_24 : decode cX0_copy 24 = .ok (.aload_n 0, 1) := by decide +kernel
theorem dX0_copy_25 : decode cX0_copy 25 = .ok (.aload_n 1, 1) := by decide +kernel
theorem dX0_copy_26 : decode cX0_copy 26 = .ok (.getfield 32, 3) := by decide +kernel
theorem dX0_copy_29 : decode cX0_copy 29 = .ok (.putfield 32, 3) := by decide +kernel
theorem dX0_copy_32 : decode cX0_copy 32 = .ok (.iconst 0, 1) := by decide +kernel
theorem dX0_copy_33 : decode cX0_copy 33 = .ok (.istore_n 2, 1) := by decide +kernel
theorem dX0_copy_34 : decode cX0_copy 34 = .ok (.iload_n 2, 1) := by decide +kernel
theorem dX0_copy_35 : decode cX0_copy 35 = .ok (.bipush 6, 2) := by decide +kernel
theorem dX0_copy_37 : decode cX0_copy 37 = .ok (.if_icmp .ge 21, 3) := by decide +kernel
theorem dX0_copy_40 : decode cX0_copy 40 = .ok (.aload_n 0, 1) := by decide +kernel
theorem dX0_copy_41 : decode cX0_copy 41 = .ok (.getfield 9, 3) := by decide +kernel
theorem dX0_copy_44 : decode cX0_copy 44 = .ok (.iload_n 2, 1) := by decide +kernel
theorem dX0_copy_45 : decode cX0_copy 45 = .ok (.aload_n 1, 1) := by decide +kernel
theorem dX0_copy_46 : decode cX0_copy 46 = .ok (.getfield 9, 3) := by decide +kernel
theorem dX0_copy_49 : decode cX0_copy 49 = .ok (.iload_n 2, 1) := by decide +kernel
theorem dX0_copy_50 : decode cX0_copy 50 = .ok (.laload, 1) := by decide +kernel
theorem dX0_copy_51 : decode cX0_copy 51 = .ok (.lastore, 1) := by decide +kernel
theorem dX0_copy_52 : decode cX0_copy 52 = .ok (.iinc 2 1, 3) := by decide +kernel
theorem dX0_copy_55 : decode cX0_copy 55 = .ok (.goto (-21), 3) := by decide +kernel
theorem dX0_copy_58 : decode cX0_copy 58 = .ok (.return_, 1) := by decide +kernel
theorem dX0_has_0 : decode cX0_has 0 = .ok (.iload_n 1, 1) := by decide +kernel
theorem dX0_has_1 : decode cX0_has 1 = .ok (.ifCond .lt 27, 3) := by decide +kernel
theorem dX0_has_4 : decode cX0_has 4 = .ok (.iload_n 1, 1) := by decide +kernel
theorem dX0_has_5 : decode cX0_has 5 = .ok (.aload_n 0, 1) := by decide +kernel
theorem dX0_has_6 : decode cX0_has 6 = .ok (.getfield 15, 3) := by decide +kernel
theorem dX0_has_9 : decode cX0_has 9 = .ok (.if_icmp .ge 19, 3) := by decide +kernel
theorem dX0_has_12 : decode cX0_has 12 = .ok (.iload_n 2, 1) := by decide +kernel
theorem dX0_has_13 : decode cX0_has 13 = .ok (.ifCond .lt 15, 3) := by decide +kernel
theorem dX0_has_16 : decode cX0_has 16 = .ok (.iload_n 2, 1) := by decide +kernel
theorem dX0_has_17 : decode cX0_has 17 = .ok (.aload_n 0, 1) := by decide +kernel
theorem dX0_has_18 : decode cX0_has 18 = .ok (.getfield 19, 3) := by decide +kernel
theorem dX0_has_21 : decode cX0_has 21 = .ok (.if_icmp .ge 7, 3) := by decide +kernel
theorem dX0_has_24 : decode cX0_has 24 = .ok (.iconst 1, 1) := by decide +kernel
theorem dX0_has_25 : decode cX0_has 25 = .ok (.goto 4, 3) := by decide +kernel
theorem dX0_has_28 : decode cX0_has 28 = .ok (.iconst 0, 1) := by decide +kernel
theorem dX0_has_29 : decode cX0_has 29 = .ok (.ireturn, 1) := by decide +kernel
set_option maxRecDepth 20000 in
theorem ggX0_landOf_X3_bit : GoodIn wsX0_landOf wsX3_bit := goodIn_r _ [4] (by decide +kernel) (by decide +kernel)
set_option maxRecDepth 20000 in
theorem gX0_landOf_X3_bit_n35 : GoodIn wsX0_landOf (wsX3_bit) := ggX0_landOf_X3_bit
theorem dX0_landOf_0 : decode cX0_landOf 0 = .ok (.iconst 0, 1) := by decide +kernel
theorem dX0_landOf_1 : decode cX0_landOf 1 = .ok (.istore_n 2, 1) := by decide +kernel
theorem dX0_landOf_2 : decode cX0_landOf 2 = .ok (.iload_n 2, 1) := by decide +kernel
theorem dX0_landOf_3 : decode cX0_landOf 3 = .ok (.bipush 6, 2) := by decide +kernel
theorem dX0_landOf_5 : decode cX0_landOf 5 = .ok (.if_icmp .ge 27, 3) := by decide +kernel
theorem dX0_landOf_8 : decode cX0_landOf 8 = .ok (.aload_n 0, 1) := by decide +kernel
theorem dX0_landOf_9 : decode cX0_landOf 9 = .ok (.getfield 9, 3) := by decide +kernel
theorem dX0_landOf_12 : decode cX0_landOf 12 = .ok (.iload_n 2, 1) := by decide +kernel
theorem dX0_landOf_13 : decode cX0_landOf 13 = .ok (.laload, 1) := by decide +kernel
theorem dX0_landOf_14 : decode cX0_landOf 14 = .ok (.iload_n 1, 1) := by decide +kernel
theorem dX0_landOf_15 : decode cX0_landOf 15 = .ok (.invokestatic 35, 3) := by decide +kernel
theorem dX0_landOf_18 : decode cX0_landOf 18 = .ok (.land, 1) := by decide +kernel
theorem dX0_landOf_19 : decode cX0_landOf 19 = .ok (.lconst 0, 1) := by decide +kernel
theorem dX0_landOf_20 : decode cX0_landOf 20 = .ok (.lcmp, 1) := by decide +kernel
theorem dX0_landOf_21 : decode cX0_landOf 21 = .ok (.ifCond .eq 5, 3) := by decide +kernel
theorem dX0_landOf_24 : decode cX0_landOf 24 = .ok (.iload_n 2, 1) := by decide +kernel
theorem dX0_landOf_25 : decode cX0_landOf 25 = .ok (.ireturn, 1) := by decide +kernel
theorem dX0_landOf_26 : decode cX0_landOf 26 = .ok (.iinc 2 1, 3) := by decide +kernel
theorem dX0_landOf_29 : decode cX0_landOf 29 = .ok (.goto (-27), 3) := by decide +kernel
theorem dX0_landOf_32 : decode cX0_landOf 32 = .ok (.bipush (-4), 2) := by decide +kernel
theorem dX0_landOf_34 : decode cX0_landOf 34 = .ok (.ireturn, 1) := by decide +kernel
set_option maxRecDepth 20000 in
theorem ggX0_put_X3_bit : GoodIn wsX0_put wsX3_bit := goodIn_r _ [5] (by decide +kernel) (by decide +kernel)
set_option maxRecDepth 20000 in
theorem gX0_put_X3_bit_n35 : GoodIn wsX0_put (wsX3_bit) := ggX0_put_X3_bit
theorem dX0_put_0 : decode cX0_put 0 = .ok (.iconst 0, 1) := by decide +kernel
theorem dX0_put_1 : decode cX0_put 1 = .ok (.istore_n 3, 1) := by decide +kernel
theorem dX0_put_2 : decode cX0_put 2 = .ok (.iload_n 3, 1) := by decide +kernel
theorem dX0_put_3 : decode cX0_put 3 = .ok (.bipush 6, 2) := by decide +kernel
theorem dX0_put_5 : decode cX0_put 5 = .ok (.if_icmp .ge 44, 3) := by decide +kernel
theorem dX0_put_8 : decode cX0_put 8 = .ok (.aload_n 0, 1) := by decide +kernel
theorem dX0_put_9 : decode cX0_put 9 = .ok (.getfield 9, 3) := by decide +kernel
theorem dX0_put_12 : decode cX0_put 12 = .ok (.iload_n 3, 1) := by decide +kernel
theorem dX0_put_13 : decode cX0_put 13 = .ok (.dup2, 1) := by decide +kernel
theorem dX0_put_14 : decode cX0_put 14 = .ok (.laload, 1) := by decide +kernel
theorem dX0_put_15 : decode cX0_put 15 = .ok (.iload_n 1, 1) := by decide +kernel
theorem dX0_put_16 : decode cX0_put 16 = .ok (.invokestatic 35, 3) := by decide +kernel
theorem dX0_put_19 : decode cX0_put 19 = .ok (.ldc2_w 30, 3) := by decide +kernel
theorem dX0_put_22 : decode cX0_put 22 = .ok (.lxor, 1) := by decide +kernel
theorem dX0_put_23 : decode cX0_put 23 = .ok (.land, 1) := by decide +kernel
theorem dX0_put_24 : decode cX0_put 24 = .ok (.lastore, 1) := by decide +kernel
theorem dX0_put_25 : decode cX0_put 25 = .ok (.iload_n 3, 1) := by decide +kernel
theorem dX0_put_26 : decode cX0_put 26 = .ok (.iload_n 2, 1) := by decide +kernel
theorem dX0_put_27 : decode cX0_put 27 = .ok (.if_icmp .ne 16, 3) := by decide +kernel
theorem dX0_put_30 : decode cX0_put 30 = .ok (.aload_n 0, 1) := by decide +kernel
theorem dX0_put_31 : decode cX0_put 31 = .ok (.getfield 9, 3) := by decide +kernel
theorem dX0_put_34 : decode cX0_put 34 = .ok (.iload_n 3, 1) := by decide +kernel
theorem dX0_put_35 : decode cX0_put 35 = .ok (.dup2, 1) := by decide +kernel
theorem dX0_put_36 : decode cX0_put 36 = .ok (.laload, 1) := by decide +kernel
theorem dX0_put_37 : decode cX0_put 37 = .ok (.iload_n 1, 1) := by decide +kernel
theorem dX0_put_38 : decode cX0_put 38 = .ok (.invokestatic 35, 3) := by decide +kernel
theorem dX0_put_41 : decode cX0_put 41 = .ok (.lor, 1) := by decide +kernel
theorem dX0_put_42 : decode cX0_put 42 = .ok (.lastore, 1) := by decide +kernel
theorem dX0_put_43 : decode cX0_put 43 = .ok (.iinc 3 1, 3) := by decide +kernel
theorem dX0_put_46 : decode cX0_put 46 = .ok (.goto (-44), 3) := by decide +kernel
theorem dX0_put_49 : decode cX0_put 49 = .ok (.return_, 1) := by decide +kernel
set_option maxRecDepth 20000 in
theorem ggX0_cellsOf_X3_isLand : GoodIn wsX0_cellsOf wsX3_isLand := goodIn_r _ [4] (by decide +kernel) (by decide +kernel)
set_option maxRecDepth 20000 in
theorem gX0_cellsOf_X3_isLand_n39 : GoodIn wsX0_cellsOf (wsX3_isLand) := ggX0_cellsOf_X3_isLand
theorem dX0_cellsOf_0 : decode cX0_cellsOf 0 = .ok (.iload_n 1, 1) := by decide +kernel
theorem dX0_cellsOf_1 : decode cX0_cellsOf 1 = .ok (.invokestatic 39, 3) := by decide +kernel
theorem dX0_cellsOf_4 : decode cX0_cellsOf 4 = .ok (.ifCond .eq 12, 3) := by decide +kernel
theorem dX0_cellsOf_7 : decode cX0_cellsOf 7 = .ok (.aload_n 0, 1) := by decide +kernel
theorem dX0_cellsOf_8 : decode cX0_cellsOf 8 = .ok (.getfield 9, 3) := by decide +kernel
theorem dX0_cellsOf_11 : decode cX0_cellsOf 11 = .ok (.iload_n 1, 1) := by decide +kernel
theorem dX0_cellsOf_12 : decode cX0_cellsOf 12 = .ok (.laload, 1) := by decide +kernel
theorem dX0_cellsOf_13 : decode cX0_cellsOf 13 = .ok (.goto 4, 3) := by decide +kernel
theorem dX0_cellsOf_16 : decode cX0_cellsOf 16 = .ok (.lconst 0, 1) := by decide +kernel
theorem dX0_cellsOf_17 : decode cX0_cellsOf 17 = .ok (.lreturn, 1) := by decide +kernel
set_option maxRecDepth 20000 in
theorem ggX0_sizeOf_X0_cellsOf : GoodIn wsX0_sizeOf wsX0_cellsOf := goodIn_r _ [5, 6, 7, 8, 9, 17, 18, 19, 20, 21] (by decide +kernel) (by decide +kernel)
set_option maxRecDepth 20000 in
theorem gX0_sizeOf_X0_cellsOf : GoodIn wsX0_sizeOf (wsV RX0 43 RX0 yX0_cellsOf wsX0_cellsOf) := goodIn_app (goodIn_of _ (by decide +kernel)) ggX0_sizeOf_X0_cellsOf
set_option maxRecDepth 20000 in
theorem ggX0_sizeOf_J13_bitCount_95d88 : GoodIn wsX0_sizeOf wsJ13_bitCount_95d88 := goodIn_r _ [13, 14, 15, 16] (by decide +kernel) (by decide +kernel)
set_option maxRecDepth 20000 in
theorem gX0_sizeOf_J13_bitCount_95d88 : GoodIn wsX0_sizeOf (va_wsS RX0 46 yJ13_bitCount_95d88 wsJ13_bitCount_95d88) := goodIn_app (goodIn_of _ (by decide +kernel)) ggX0_sizeOf_J13_bitCount_95d88
theorem dX0_sizeOf_0 : decode cX0_sizeOf 0 = .ok (.aload_n 0, 1) := by decide +kernel
theorem dX0_sizeOf_1 : decode cX0_sizeOf 1 = .ok (.iload_n 1, 1) := by decide +kernel
theorem dX0_sizeOf_2 : decode cX0_sizeOf 2 = .ok (.invokevirtual 43, 3) := by decide +kernel
theorem dX0_sizeOf_5 : decode cX0_sizeOf 5 = .ok (.invokestatic 46, 3) := by decide +kernel
theorem dX0_sizeOf_8 : decode cX0_sizeOf 8 = .ok (.ireturn, 1) := by decide +kernel
theorem dX0_peopledCells_0 : decode cX0_peopledCells 0 = .ok (.lconst 0, 1) := by decide +kernel
theorem dX0_peopledCells_1 : decode cX0_peopledCells 1 = .ok (.lstore_n 1, 1) := by decide +kernel
theorem dX0_peopledCells_2 : decode cX0_peopledCells 2 = .ok (.iconst 0, 1) := by decide +kernel
theorem dX0_peopledCells_3 : decode cX0_peopledCells 3 = .ok (.istore_n 3, 1) := by decide +kernel
theorem dX0_peopledCells_4 : decode cX0_peopledCells 4 = .ok (.iload_n 3, 1) := by decide +kernel
theorem dX0_peopledCells_5 : decode cX0_peopledCells 5 = .ok (.bipush 6, 2) := by decide +kernel
theorem dX0_peopledCells_7 : decode cX0_peopledCells 7 = .ok (.if_icmp .ge 18, 3) := by decide +kernel
theorem dX0_peopledCells_10 : decode cX0_peopledCells 10 = .ok (.lload_n 1, 1) := by decide +kernel
theorem dX0_peopledCells_11 : decode cX0_peopledCells 11 = .ok (.aload_n 0, 1) := by decide +kernel
theorem dX0_peopledCells_12 : decode cX0_peopledCells 12 = .ok (.getfield 9, 3) := by decide +kernel
theorem dX0_peopledCells_15 : decode cX0_peopledCells 15 = .ok (.iload_n 3, 1) := by decide +kernel
theorem dX0_peopledCells_16 : decode cX0_peopledCells 16 = .ok (.laload, 1) := by decide +kernel
theorem dX0_peopledCells_17 : decode cX0_peopledCells 17 = .ok (.lor, 1) := by decide +kernel
theorem dX0_peopledCells_18 : decode cX0_peopledCells 18 = .ok (.lstore_n 1, 1) := by decide +kernel
theorem dX0_peopledCells_19 : decode cX0_peopledCells 19 = .ok (.iinc 3 1, 3) := by decide +kernel
theorem dX0_peopledCells_22 : decode cX0_peopledCells 22 = .ok (.goto (-18), 3) := by decide +kernel
theorem dX0_peopledCells_25 : decode cX0_peopledCells 25 = .ok (.lload_n 1, 1) := by decide +kernel
theorem dX0_peopledCells_26 : decode cX0_peopledCells 26 = .ok (.lreturn, 1) := by decide +kernel
set_option maxRecDepth 20000 in
theorem ggX0_landCells_X0_peopledCells : GoodIn wsX0_landCells wsX0_peopledCells := goodIn_r _ [5, 6, 14, 15, 16, 17, 18] (by decide +kernel) (by decide +kernel)
set_option maxRecDepth 20000 in
theorem gX0_landCells_X0_peopledCells : GoodIn wsX0_landCells (wsV RX0 52 RX0 yX0_peopledCells wsX0_peopledCells) := goodIn_app (goodIn_of _ (by decide +kernel)) ggX0_landCells_X0_peopledCells
set_option maxRecDepth 20000 in
theorem ggX0_landCells_J13_bitCount_95d88 : GoodIn wsX0_landCells wsJ13_bitCount_95d88 := goodIn_r _ [10, 11, 12, 13] (by decide +kernel) (by decide +kernel)
set_option maxRecDepth 20000 in
theorem gX0_landCells_J13_bitCount_95d88 : GoodIn wsX0_landCells (va_wsS RX0 46 yJ13_bitCount_95d88 wsJ13_bitCount_95d88) := goodIn_app (goodIn_of _ (by decide +kernel)) ggX0_landCells_J13_bitCount_95d88
theorem dX0_landCells_0 : decode cX0_landCells 0 = .ok (.aload_n 0, 1) := by decide +kernel
theorem dX0_landCells_1 : decode cX0_landCells 1 = .ok (.invokevirtual 52, 3) := by decide +kernel
theorem dX0_landCells_4 : decode cX0_landCells 4 = .ok (.invokestatic 46, 3) := by decide +kernel
theorem dX0_landCells_7 : decode cX0_landCells 7 = .ok (.ireturn, 1) := by decide +kernel
theorem dX0_peopled_0 : decode cX0_peopled 0 = .ok (.iconst 0, 1) := by decide +kernel
theorem dX0_peopled_1 : decode cX0_peopled 1 = .ok (.istore_n 1, 1) := by decide +kernel
theorem dX0_peopled_2 : decode cX0_peopled 2 = .ok (.iconst 0, 1) := by decide +kernel
theorem dX0_peopled_3 : decode cX0_peopled 3 = .ok (.istore_n 2, 1) := by decide +kernel
theorem dX0_peopled_4 : decode cX0_peopled 4 = .ok (.iload_n 2, 1) := by decide +kernel
theorem dX0_peopled_5 : decode cX0_peopled 5 = .ok (.bipush 6, 2) := by decide +kernel
theorem dX0_peopled_7 : decode cX0_peopled 7 = .ok (.if_icmp .ge 28, 3) := by decide +kernel
theorem dX0_peopled_10 : decode cX0_peopled 10 = .ok (.iload_n 1, 1) := by decide +kernel
theorem dX0_peopled_11 : decode cX0_peopled 11 = .ok (.aload_n 0, 1) := by decide +kernel
theorem dX0_peopled_12 : decode cX0_peopled 12 = .ok (.getfield 9, 3) := by decide +kernel
theorem dX0_peopled_15 : decode cX0_peopled 15 = .ok (.iload_n 2, 1) := by decide +kernel
theorem dX0_peopled_16 : decode cX0_peopled 16 = .ok (.laload, 1) := by decide +kernel
theorem dX0_peopled_17 : decode cX0_peopled 17 = .ok (.lconst 0, 1) := by decide +kernel
theorem dX0_peopled_18 : decode cX0_peopled 18 = .ok (.lcmp, 1) := by decide +kernel
theorem dX0_peopled_19 : decode cX0_peopled 19 = .ok (.ifCond .eq 7, 3) := by decide +kernel
theorem dX0_peopled_22 : decode cX0_peopled 22 = .ok (.iconst 1, 1) := by decide +kernel
theorem dX0_peopled_23 : decode cX0_peopled 23 = .ok (.goto 4, 3) := by decide +kernel
theorem dX0_peopled_26 : decode cX0_peopled 26 = .ok (.iconst 0, 1) := by decide +kernel
theorem dX0_peopled_27 : decode cX0_peopled 27 = .ok (.iadd, 1) := by decide +kernel
theorem dX0_peopled_28 : decode cX0_peopled 28 = .ok (.istore_n 1, 1) := by decide +kernel
theorem dX0_peopled_29 : decode cX0_peopled 29 = .ok (.iinc 2 1, 3) := by decide +kernel
theorem dX0_peopled_32 : decode cX0_peopled 32 = .ok (.goto (-28), 3) := by decide +kernel
theorem dX0_peopled_35 : decode cX0_peopled 35 = .ok (.iload_n 1, 1) := by decide +kernel
theorem dX0_peopled_36 : decode cX0_peopled 36 = .ok (.ireturn, 1) := by decide +kernel
set_option maxRecDepth 20000 in
theorem ggX0_isAtSea_X0_peopledCells : GoodIn wsX0_isAtSea wsX0_peopledCells := goodIn_r _ [8, 9, 21, 22, 23, 24, 25] (by decide +kernel) (by decide +kernel)
set_option maxRecDepth 20000 in
theorem gX0_isAtSea_X0_peopledCells : GoodIn wsX0_isAtSea (wsV RX0 52 RX0 yX0_peopledCells wsX0_peopledCells) := goodIn_app (goodIn_of _ (by decide +kernel)) ggX0_isAtSea_X0_peopledCells
set_option maxRecDepth 20000 in
theorem ggX0_isAtSea_X3_around : GoodIn wsX0_isAtSea wsX3_around := goodIn_r _ [12, 13, 14, 11, 15, 16, 17, 18, 19, 20] (by decide +kernel) (by decide +kernel)
set_option maxRecDepth 20000 in
theorem gX0_isAtSea_X3_around_n56 : GoodIn wsX0_isAtSea (wsX3_around) := ggX0_isAtSea_X3_around
theorem dX0_isAtSea_0 : decode cX0_isAtSea 0 = .ok (.aload_n 0, 1) := by decide +kernel
theorem dX0_isAtSea_1 : decode cX0_isAtSea 1 = .ok (.getfield 22, 3) := by decide +kernel
theorem dX0_isAtSea_4 : decode cX0_isAtSea 4 = .ok (.aload_n 0, 1) := by decide +kernel
theorem dX0_isAtSea_5 : decode cX0_isAtSea 5 = .ok (.invokevirtual 52, 3) := by decide +kernel
theorem dX0_isAtSea_8 : decode cX0_isAtSea 8 = .ok (.ldc2_w 30, 3) := by decide +kernel
theorem dX0_isAtSea_11 : decode cX0_isAtSea 11 = .ok (.lxor, 1) := by decide +kernel
theorem dX0_isAtSea_12 : decode cX0_isAtSea 12 = .ok (.land, 1) := by decide +kernel
theorem dX0_isAtSea_13 : decode cX0_isAtSea 13 = .ok (.lstore_n 3, 1) := by decide +kernel
theorem dX0_isAtSea_14 : decode cX0_isAtSea 14 = .ok (.lload_n 1, 1) := by decide +kernel
theorem dX0_isAtSea_15 : decode cX0_isAtSea 15 = .ok (.aload_n 0, 1) := by decide +kernel
theorem dX0_isAtSea_16 : decode cX0_isAtSea 16 = .ok (.getfield 32, 3) := by decide +kernel
theorem dX0_isAtSea_19 : decode cX0_isAtSea 19 = .ok (.land, 1) := by decide +kernel
theorem dX0_isAtSea_20 : decode cX0_isAtSea 20 = .ok (.lconst 0, 1) := by decide +kernel
theorem dX0_isAtSea_21 : decode cX0_isAtSea 21 = .ok (.lcmp, 1) := by decide +kernel
theorem dX0_isAtSea_22 : decode cX0_isAtSea 22 = .ok (.ifCond .ne 14, 3) := by decide +kernel
theorem dX0_isAtSea_25 : decode cX0_isAtSea 25 = .ok (.lload_n 1, 1) := by decide +kernel
theorem dX0_isAtSea_26 : decode cX0_isAtSea 26 = .ok (.invokestatic 56, 3) := by decide +kernel
theorem dX0_isAtSea_29 : decode cX0_isAtSea 29 = .ok (.lload_n 3, 1) := by decide +kernel
theorem dX0_isAtSea_30 : decode cX0_isAtSea 30 = .ok (.land, 1) := by decide +kernel
theorem dX0_isAtSea_31 : decode cX0_isAtSea 31 = .ok (.lconst 0, 1) := by decide +kernel
theorem dX0_isAtSea_32 : decode cX0_isAtSea 32 = .ok (.lcmp, 1) := by decide +kernel
theorem dX0_isAtSea_33 : decode cX0_isAtSea 33 = .ok (.ifCond .eq 7, 3) := by decide +kernel
theorem dX0_isAtSea_36 : decode cX0_isAtSea 36 = .ok (.iconst 1, 1) := by decide +kernel
theorem dX0_isAtSea_37 : decode cX0_isAtSea 37 = .ok (.goto 4, 3) := by decide +kernel
theorem dX0_isAtSea_40 : decode cX0_isAtSea 40 = .ok (.iconst 0, 1) := by decide +kernel
theorem dX0_isAtSea_41 : decode cX0_isAtSea 41 = .ok (.ireturn, 1) := by decide +kernel
set_option maxRecDepth 20000 in
theorem ggX0_touching_X3_around : GoodIn wsX0_touching wsX3_around := goodIn_r _ [4, 5, 6, 3, 7, 8, 9, 10, 11, 12] (by decide +kernel) (by decide +kernel)
set_option maxRecDepth 20000 in
theorem gX0_touching_X3_around_n56 : GoodIn wsX0_touching (wsX3_around) := ggX0_touching_X3_around
set_option maxRecDepth 20000 in
theorem ggX0_touching_X3_bit : GoodIn wsX0_touching wsX3_bit := goodIn_r _ [14] (by decide +kernel) (by decide +kernel)
set_option maxRecDepth 20000 in
theorem gX0_touching_X3_bit_n35 : GoodIn wsX0_touching (wsX3_bit) := ggX0_touching_X3_bit
set_option maxRecDepth 20000 in
theorem ggX0_touching_X0_isAtSea : GoodIn wsX0_touching wsX0_isAtSea := goodIn_r _ [19, 20, 21, 22, 23, 24, 25, 18, 26, 1, 2, 3, 4, 5, 6, 7, 8, 9, 10, 11, 12, 27, 28, 29, 30, 31] (by decide +kernel) (by decide +kernel)
set_option maxRecDepth 20000 in
theorem gX0_touching_X0_isAtSea : GoodIn wsX0_touching (wsV RX0 59 RX0 yX0_isAtSea wsX0_isAtSea) := goodIn_app (goodIn_of _ (by decide +kernel)) ggX0_touching_X0_isAtSea
theorem dX0_touching_0 : decode cX0_touching 0 = .ok (.lconst 0, 1) := by decide +kernel
theorem dX0_touching_1 : decode cX0_touching 1 = .ok (.lstore_n 1, 1) := by decide +kernel
theorem dX0_touching_2 : decode cX0_touching 2 = .ok (.iconst 0, 1) := by decide +kernel
theorem dX0_touching_3 : decode cX0_touching 3 = .ok (.istore_n 3, 1) := by decide +kernel
theorem dX0_touching_4 : decode cX0_touching 4 = .ok (.iload_n 3, 1) := by decide +kernel
theorem dX0_touching_5 : decode cX0_touching 5 = .ok (.bipush 6, 2) := by decide +kernel
theorem dX0_touching_7 : decode cX0_touching 7 = .ok (.if_icmp .ge 92, 3) := by decide +kernel
theorem dX0_touching_10 : decode cX0_touching 10 = .ok (.aload_n 0, 1) := by decide +kernel
theorem dX0_touching_11 : decode cX0_touching 11 = .ok (.getfield 9, 3) := by decide +kernel
theorem dX0_touching_14 : decode cX0_touching 14 = .ok (.iload_n 3, 1) := by decide +kernel
theorem dX0_touching_15 : decode cX0_touching 15 = .ok (.laload, 1) := by decide +kernel
theorem dX0_touching_16 : decode cX0_touching 16 = .ok (.invokestatic 56, 3) := by decide +kernel
theorem dX0_touching_19 : decode cX0_touching 19 = .ok (.lstore 4, 2) := by decide +kernel
theorem dX0_touching_21 : decode cX0_touching 21 = .ok (.iload_n 3, 1) := by decide +kernel
theorem dX0_touching_22 : decode cX0_touching 22 = .ok (.iconst 1, 1) := by decide +kernel
theorem dX0_touching_23 : decode cX0_touching 23 = .ok (.iadd, 1) := by decide +kernel
theorem dX0_touching_24 : decode cX0_touching 24 = .ok (.istore 6, 2) := by decide +kernel
theorem dX0_touching_26 : decode cX0_touching 26 = .ok (.iload 6, 2) := by decide +kernel
theorem dX0_touching_28 : decode cX0_touching 28 = .ok (.bipush 6, 2) := by decide +kernel
theorem dX0_touching_30 : decode cX0_touching 30 = .ok (.if_icmp .ge 37, 3) := by decide +kernel
theorem dX0_touching_33 : decode cX0_touching 33 = .ok (.lload 4, 2) := by decide +kernel
theorem dX0_touching_35 : decode cX0_touching 35 = .ok (.aload_n 0, 1) := by decide +kernel
theorem dX0_touching_36 : decode cX0_touching 36 = .ok (.getfield 9, 3) := by decide +kernel
theorem dX0_touching_39 : decode cX0_touching 39 = .ok (.iload 6, 2) := by decide +kernel
theorem dX0_touching_41 : decode cX0_touching 41 = .ok (.laload, 1) := by decide +kernel
theorem dX0_touching_42 : decode cX0_touching 42 = .ok (.land, 1) := by decide +kernel
theorem dX0_touching_43 : decode cX0_touching 43 = .ok (.lconst 0, 1) := by decide +kernel
theorem dX0_touching_44 : decode cX0_touching 44 = .ok (.lcmp, 1) := by decide +kernel
theorem dX0_touching_45 : decode cX0_touching 45 = .ok (.ifCond .eq 16, 3) := by decide +kernel
theorem dX0_touching_48 : decode cX0_touching 48 = .ok (.lload_n 1, 1) := by decide +kernel
theorem dX0_touching_49 : decode cX0_touching 49 = .ok (.iload_n 3, 1) := by decide +kernel
theorem dX0_touching_50 : decode cX0_touching 50 = .ok (.bipush 8, 2) := by decide +kernel
theorem dX0_touching_52 : decode cX0_touching 52 = .ok (.imul, 1) := by decide +kernel
theorem dX0_touching_53 : decode cX0_touching 53 = .ok (.iload 6, 2) := by decide +kernel
theorem dX0_touching_55 : decode cX0_touching 55 = .ok (.iadd, 1) := by decide +kernel
theorem dX0_touching_56 : decode cX0_touching 56 = .ok (.invokestatic 35, 3) := by decide +kernel
theorem dX0_touching_59 : decode cX0_touching 59 = .ok (.lor, 1) := by decide +kernel
theorem dX0_touching_60 : decode cX0_touching 60 = .ok (.lstore_n 1, 1) := by decide +kernel
theorem dX0_touching_61 : decode cX0_touching 61 = .ok (.iinc 6 1, 3) := by decide +kernel
theorem dX0_touching_64 : decode cX0_touching 64 = .ok (.goto (-38), 3) := by decide +kernel
theorem dX0_touching_67 : decode cX0_touching 67 = .ok (.aload_n 0, 1) := by decide +kernel
theorem dX0_touching_68 : decode cX0_touching 68 = .ok (.aload_n 0, 1) := by decide +kernel
theorem dX0_touching_69 : decode cX0_touching 69 = .ok (.getfield 9, 3) := by decide +kernel
theorem dX0_touching_72 : decode cX0_touching 72 = .ok (.iload_n 3, 1) := by decide +kernel
theorem dX0_touching_73 : decode cX0_touching 73 = .ok (.laload, 1) := by decide +kernel
theorem dX0_touching_74 : decode cX0_touching 74 = .ok (.invokevirtual 59, 3) := by decide +kernel
theorem dX0_touching_77 : decode cX0_touching 77 = .ok (.ifCond .eq 16, 3) := by decide +kernel
theorem dX0_touching_80 : decode cX0_touching 80 = .ok (.lload_n 1, 1) := by decide +kernel
theorem dX0_touching_81 : decode cX0_touching 81 = .ok (.iload_n 3, 1) := by decide +kernel
theorem dX0_touching_82 : decode cX0_touching 82 = .ok (.bipush 8, 2) := by decide +kernel
theorem dX0_touching_84 : decode cX0_touching 84 = .ok (.imul, 1) := by decide +kernel
theorem dX0_touching_85 : decode cX0_touching 85 = .ok (.bipush 6, 2) := by decide +kernel
theorem dX0_touching_87 : decode cX0_touching 87 = .ok (.iadd, 1) := by decide +kernel
theorem dX0_touching_88 : decode cX0_touching 88 = .ok (.invokestatic 35, 3) := by decide +kernel
theorem dX0_touching_91 : decode cX0_touching 91 = .ok (.lor, 1) := by decide +kernel
theorem dX0_touching_92 : decode cX0_touching 92 = .ok (.lstore_n 1, 1) := by decide +kernel
theorem dX0_touching_93 : decode cX0_touching 93 = .ok (.iinc 3 1, 3) := by decide +kernel
theorem dX0_touching_96 : decode cX0_touching 96 = .ok (.goto (-92), 3) := by decide +kernel
theorem dX0_touching_99 : decode cX0_touching 99 = .ok (.lload_n 1, 1) := by decide +kernel
theorem dX0_touching_100 : decode cX0_touching 100 = .ok (.lreturn, 1) := by decide +kernel
theorem dX0_isAsLargeAs_0 : decode cX0_isAsLargeAs 0 = .ok (.aload_n 0, 1) := by decide +kernel
theorem dX0_isAsLargeAs_1 : decode cX0_isAsLargeAs 1 = .ok (.getfield 15, 3) := by decide +kernel
theorem dX0_isAsLargeAs_4 : decode cX0_isAsLargeAs 4 = .ok (.aload_n 1, 1) := by decide +kernel
theorem dX0_isAsLargeAs_5 : decode cX0_isAsLargeAs 5 = .ok (.getfield 15, 3) := by decide +kernel
theorem dX0_isAsLargeAs_8 : decode cX0_isAsLargeAs 8 = .ok (.if_icmp .ne 18, 3) := by decide +kernel
theorem dX0_isAsLargeAs_11 : decode cX0_isAsLargeAs 11 = .ok (.aload_n 0, 1) := by decide +kernel
theorem dX0_isAsLargeAs_12 : decode cX0_isAsLargeAs 12 = .ok (.getfield 19, 3) := by decide +kernel
theorem dX0_isAsLargeAs_15 : decode cX0_isAsLargeAs 15 = .ok (.aload_n 1, 1) := by decide +kernel
theorem dX0_isAsLargeAs_16 : decode cX0_isAsLargeAs 16 = .ok (.getfield 19, 3) := by decide +kernel
theorem dX0_isAsLargeAs_19 : decode cX0_isAsLargeAs 19 = .ok (.if_icmp .ne 7, 3) := by decide +kernel
theorem dX0_isAsLargeAs_22 : decode cX0_isAsLargeAs 22 = .ok (.iconst 1, 1) := by decide +kernel
theorem dX0_isAsLargeAs_23 : decode cX0_isAsLargeAs 23 = .ok (.goto 4, 3) := by decide +kernel
theorem dX0_isAsLargeAs_26 : decode cX0_isAsLargeAs 26 = .ok (.iconst 0, 1) := by decide +kernel
theorem dX0_isAsLargeAs_27 : decode cX0_isAsLargeAs 27 = .ok (.ireturn, 1) := by decide +kernel
set_option maxRecDepth 20000 in
theorem ggX0_unlike_J13_bitCount_95d88 : GoodIn wsX0_unlike wsJ13_bitCount_95d88 := goodIn_r _ [5, 6, 7, 8] (by decide +kernel) (by decide +kernel)
set_option maxRecDepth 20000 in
theorem gX0_unlike_J13_bitCount_95d88 : GoodIn wsX0_unlike (va_wsS RX0 46 yJ13_bitCount_95d88 wsJ13_bitCount_95d88) := goodIn_app (goodIn_of _ (by decide +kernel)) ggX0_unlike_J13_bitCount_95d88
theorem dX0_unlike_0 : decode cX0_unlike 0 = .ok (.lconst 0, 1) := by decide +kernel
theorem dX0_unlike_1 : decode cX0_unlike 1 = .ok (.lstore_n 2, 1) := by decide +kernel
theorem dX0_unlike_2 : decode cX0_unlike 2 = .ok (.iconst 0, 1) := by decide +kernel
theorem dX0_unlike_3 : decode cX0_unlike 3 = .ok (.istore 4, 2) := by decide +kernel
theorem dX0_unlike_5 : decode cX0_unlike 5 = .ok (.iload 4, 2) := by decide +kernel
theorem dX0_unlike_7 : decode cX0_unlike 7 = .ok (.bipush 6, 2) := by decide +kernel
theorem dX0_unlike_9 : decode cX0_unlike 9 = .ok (.if_icmp .ge 27, 3) := by decide +kernel
theorem dX0_unlike_12 : decode cX0_unlike 12 = .ok (.lload_n 2, 1) := by decide +kernel
theorem dX0_unlike_13 : decode cX0_unlike 13 = .ok (.aload_n 0, 1) := by decide +kernel
theorem dX0_unlike_14 : decode cX0_unlike 14 = .ok (.getfield 9, 3) := by decide +kernel
theorem dX0_unlike_17 : decode cX0_unlike 17 = .ok (.iload 4, 2) := by decide +kernel
theorem dX0_unlike_19 : decode cX0_unlike 19 = .ok (.laload, 1) := by decide +kernel
theorem dX0_unlike_20 : decode cX0_unlike 20 = .ok (.aload_n 1, 1) := by decide +kernel
theorem dX0_unlike_21 : decode cX0_unlike 21 = .ok (.getfield 9, 3) := by decide +kernel
theorem dX0_unlike_24 : decode cX0_unlike 24 = .ok (.iload 4, 2) := by decide +kernel
theorem dX0_unlike_26 : decode cX0_unlike 26 = .ok (.laload, 1) := by decide +kernel
theorem dX0_unlike_27 : decode cX0_unlike 27 = .ok (.lxor, 1) := by decide +kernel
theorem dX0_unlike_28 : decode cX0_unlike 28 = .ok (.lor, 1) := by decide +kernel
theorem dX0_unlike_29 : decode cX0_unlike 29 = .ok (.lstore_n 2, 1) := by decide +kernel
theorem dX0_unlike_30 : decode cX0_unlike 30 = .ok (.iinc 4 1, 3) := by decide +kernel
theorem dX0_unlike_33 : decode cX0_unlike 33 = .ok (.goto (-28), 3) := by decide +kernel
theorem dX0_unlike_36 : decode cX0_unlike 36 = .ok (.lload_n 2, 1) := by decide +kernel
theorem dX0_unlike_37 : decode cX0_unlike 37 = .ok (.invokestatic 46, 3) := by decide +kernel
theorem dX0_unlike_40 : decode cX0_unlike 40 = .ok (.ireturn, 1) := by decide +kernel
theorem dX1_init_0 : decode cX1_init 0 = .ok (.aload_n 0, 1) := by decide +kernel
theorem dX1_init_1 : decode cX1_init 1 = .ok (.invokespecial 3, 3) := by decide +kernel
theorem dX1_init_4 : decode cX1_init 4 = .ok (.aload_n 0, 1) := by decide +kernel
theorem dX1_init_5 : decode cX1_init 5 = .ok (.bipush 100, 2) := by decide +kernel
theorem dX1_init_7 : decode cX1_init 7 = .ok (.newarray .int, 2) := by decide +kernel
theorem dX1_init_9 : decode cX1_init 9 = .ok (.putfield 9, 3) := by decide +kernel
theorem dX1_init_12 : decode cX1_init 12 = .ok (.aload_n 0, 1) := by decide +kernel
theorem dX1_init_13 : decode cX1_init 13 = .ok (.bipush 100, 2) := by decide +kernel
theorem dX1_init_15 : decode cX1_init 15 = .ok (.newarray .int, 2) := by decide +kernel
theorem dX1_init_17 : decode cX1_init 17 = .ok (.putfield 15, 3) := by decide +kernel
theorem dX1_init_20 : decode cX1_init 20 = .ok (.return_, 1) := by decide +kernel
set_option maxRecDepth 20000 in
theorem ggX1_add_J9_floorMod_7cf53 : GoodIn wsX1_add wsJ9_floorMod_7cf53 := goodIn_r _ [13] (by decide +kernel) (by decide +kernel)
set_option maxRecDepth 20000 in
theorem gX1_add_J9_floorMod_7cf53 : GoodIn wsX1_add (va_wsS RX1 22 yJ9_floorMod_7cf53 wsJ9_floorMod_7cf53) := goodIn_app (goodIn_of _ (by decide +kernel)) ggX1_add_J9_floorMod_7cf53
theorem dX1_add_0 : decode cX1_add 0 = .ok (.aload_n 0, 1) := by decide +kernel
theorem dX1_add_1 : decode cX1_add 1 = .ok (.getfield 18, 3) := by decide +kernel
theorem dX1_add_4 : decode cX1_add 4 = .ok (.bipush 100, 2) := by decide +kernel
theorem dX1_add_6 : decode cX1_add 6 = .ok (.invokestatic 22, 3) := by decide +kernel
theorem dX1_add_9 : decode cX1_add 9 = .ok (.istore_n 3, 1) := by decide +kernel
theorem dX1_add_10 : decode cX1_add 10 = .ok (.aload_n 0, 1) := by decide +kernel
theorem dX1_add_11 : decode cX1_add 11 = .ok (.getfield 9, 3) := by decide +kernel
theorem dX1_add_14 : decode cX1_add 14 = .ok (.iload_n 3, 1) := by decide +kernel
theorem dX1_add_15 : decode cX1_add 15 = .ok (.iload_n 1, 1) := by decide +kernel
theorem dX1_add_16 : decode cX1_add 16 = .ok (.iastore, 1) := by decide +kernel
theorem dX1_add_17 : decode cX1_add 17 = .ok (.aload_n 0, 1) := by decide +kernel
theorem dX1_add_18 : decode cX1_add 18 = .ok (.getfield 15, 3) := by decide +kernel
theorem dX1_add_21 : decode cX1_add 21 = .ok (.iload_n 3, 1) := by decide +kernel
theorem dX1_add_22 : decode cX1_add 22 = .ok (.iload_n 2, 1) := by decide +kernel
theorem dX1_add_23 : decode cX1_add 23 = .ok (.iastore, 1) := by decide +kernel
theorem dX1_add_24 : decode cX1_add 24 = .ok (.aload_n 0, 1) := by decide +kernel
theorem dX1_add_25 : decode cX1_add 25 = .ok (.dup, 1) := by decide +kernel
theorem dX1_add_26 : decode cX1_add 26 = .ok (.getfield 18, 3) := by decide +kernel
theorem dX1_add_29 : decode cX1_add 29 = .ok (.iconst 1, 1) := by decide +kernel
theorem dX1_add_30 : decode cX1_add 30 = .ok (.iadd, 1) := by decide +kernel
theorem dX1_add_31 : decode cX1_add 31 = .ok (.putfield 18, 3) := by decide +kernel
theorem dX1_add_34 : decode cX1_add 34 = .ok (.aload_n 0, 1) := by decide +kernel
theorem dX1_add_35 : decode cX1_add 35 = .ok (.aload_n 0, 1) := by decide +kernel
theorem dX1_add_36 : decode cX1_add 36 = .ok (.getfield 28, 3) := by decide +kernel
theorem dX1_add_39 : decode cX1_add 39 = .ok (.iconst 1, 1) := by decide +kernel
theorem dX1_add_40 : decode cX1_add 40 = .ok (.iadd, 1) := by decide +kernel
theorem dX1_add_41 : decode cX1_add 41 = .ok (.bipush 100, 2) := by decide +kernel
theorem dX1_add_43 : decode cX1_add 43 = .ok (.invokestatic 31, 3) := by decide +kernel
theorem dX1_add_46 : decode cX1_add 46 = .ok (.putfield 28, 3) := by decide +kernel
theorem dX1_add_49 : decode cX1_add 49 = .ok (.aload_n 0, 1) := by decide +kernel
theorem dX1_add_50 : decode cX1_add 50 = .ok (.dup, 1) := by decide +kernel
theorem dX1_add_51 : decode cX1_add 51 = .ok (.getfield 34, 3) := by decide +kernel
theorem dX1_add_54 : decode cX1_add 54 = .ok (.iconst 1, 1) := by decide +kernel
theorem dX1_add_55 : decode cX1_add 55 = .ok (.iadd, 1) := by decide +kernel
theorem dX1_add_56 : decode cX1_add 56 = .ok (.putfield 34, 3) := by decide +kernel
theorem dX1_add_59 : decode cX1_add 59 = .ok (.return_, 1) := by decide +kernel
set_option maxRecDepth 20000 in
theorem ggX1_latestCell_J9_floorMod_7cf53 : GoodIn wsX1_latestCell wsJ9_floorMod_7cf53 := goodIn_r _ [6] (by decide +kernel) (by decide +kernel)
set_option maxRecDepth 20000 in
theorem gX1_latestCell_J9_floorMod_7cf53 : GoodIn wsX1_latestCell (va_wsS RX1 22 yJ9_floorMod_7cf53 wsJ9_floorMod_7cf53) := goodIn_app (goodIn_of _ (by decide +kernel)) ggX1_latestCell_J9_floorMod_7cf53
theorem dX1_latestCell_0 : decode cX1_latestCell 0 = .ok (.aload_n 0, 1) := by decide +kernel
theorem dX1_latestCell_1 : decode cX1_latestCell 1 = .ok (.getfield 9, 3) := by decide +kernel
theorem dX1_latestCell_4 : decode cX1_latestCell 4 = .ok (.aload_n 0, 1) := by decide +kernel
theorem dX1_latestCell_5 : decode cX1_latestCell 5 = .ok (.getfield 18, 3) := by decide +kernel
theorem dX1_latestCell_8 : decode cX1_latestCell 8 = .ok (.iconst 1, 1) := by decide +kernel
theorem dX1_latestCell_9 : decode cX1_latestCell 9 = .ok (.isub, 1) := by decide +kernel
theorem dX1_latestCell_10 : decode cX1_latestCell 10 = .ok (.bipush 100, 2) := by decide +kernel
theorem dX1_latestCell_12 : decode cX1_latestCell 12 = .ok (.invokestatic 22, 3) := by decide +kernel
theorem dX1_latestCell_15 : decode cX1_latestCell 15 = .ok (.iaload, 1) := by decide +kernel
theorem dX1_latestCell_16 : decode cX1_latestCell 16 = .ok (.ireturn, 1) := by decide +kernel
set_option maxRecDepth 20000 in
theorem ggX1_latestFrom_J9_floorMod_7cf53 : GoodIn wsX1_latestFrom wsJ9_floorMod_7cf53 := goodIn_r _ [6] (by decide +kernel) (by decide +kernel)
set_option maxRecDepth 20000 in
theorem gX1_latestFrom_J9_floorMod_7cf53 : GoodIn wsX1_latestFrom (va_wsS RX1 22 yJ9_floorMod_7cf53 wsJ9_floorMod_7cf53) := goodIn_app (goodIn_of _ (by decide +kernel)) ggX1_latestFrom_J9_floorMod_7cf53
theorem dX1_latestFrom_0 : decode cX1_latestFrom 0 = .ok (.aload_n 0, 1) := by decide +kernel
theorem dX1_latestFrom_1 : decode cX1_latestFrom 1 = .ok (.getfield 15, 3) := by decide +kernel
theorem dX1_latestFrom_4 : decode cX1_latestFrom 4 = .ok (.aload_n 0, 1) := by decide +kernel
theorem dX1_latestFrom_5 : decode cX1_latestFrom 5 = .ok (.getfield 18, 3) := by decide +kernel
theorem dX1_latestFrom_8 : decode cX1_latestFrom 8 = .ok (.iconst 1, 1) := by decide +kernel
theorem dX1_latestFrom_9 : decode cX1_latestFrom 9 = .ok (.isub, 1) := by decide +kernel
theorem dX1_latestFrom_10 : decode cX1_latestFrom 10 = .ok (.bipush 100, 2) := by decide +kernel
theorem dX1_latestFrom_12 : decode cX1_latestFrom 12 = .ok (.invokestatic 22, 3) := by decide +kernel
theorem dX1_latestFrom_15 : decode cX1_latestFrom 15 = .ok (.iaload, 1) := by decide +kernel
theorem dX1_latestFrom_16 : decode cX1_latestFrom 16 = .ok (.ireturn, 1) := by decide +kernel
theorem dX1_dropLatest_0 : decode cX1_dropLatest 0 = .ok (.aload_n 0, 1) := by decide +kernel
theorem dX1_dropLatest_1 : decode cX1_dropLatest 1 = .ok (.dup, 1) := by decide +kernel
theorem dX1_dropLatest_2 : decode cX1_dropLatest 2 = .ok (.getfield 18, 3) := by decide +kernel
theorem dX1_dropLatest_5 : decode cX1_dropLatest 5 = .ok (.iconst 1, 1) := by decide +kernel
theorem dX1_dropLatest_6 : decode cX1_dropLatest 6 = .ok (.isub, 1) := by decide +kernel
theorem dX1_dropLatest_7 : decode cX1_dropLatest 7 = .ok (.putfield 18, 3) := by decide +kernel
theorem dX1_dropLatest_10 : decode cX1_dropLatest 10 = .ok (.aload_n 0, 1) := by decide +kernel
theorem dX1_dropLatest_11 : decode cX1_dropLatest 11 = .ok (.dup, 1) := by decide +kernel
theorem dX1_dropLatest_12 : decode cX1_dropLatest 12 = .ok (.getfield 28, 3) := by decide +kernel
theorem dX1_dropLatest_15 : decode cX1_dropLatest 15 = .ok (.iconst 1, 1) := by decide +kernel
theorem dX1_dropLatest_16 : decode cX1_dropLatest 16 = .ok (.isub, 1) := by decide +kernel
theorem dX1_dropLatest_17 : decode cX1_dropLatest 17 = .ok (.putfield 28, 3) := by decide +kernel
theorem dX1_dropLatest_20 : decode cX1_dropLatest 20 = .ok (.return_, 1) := by decide +kernel
theorem dX1_forget_0 : decode cX1_forget 0 = .ok (.aload_n 0, 1) := by decide +kernel
theorem dX1_forget_1 : decode cX1_forget 1 = .ok (.iconst 0, 1) := by decide +kernel
theorem dX1_forget_2 : decode cX1_forget 2 = .ok (.putfield 28, 3) := by decide +kernel
theorem dX1_forget_5 : decode cX1_forget 5 = .ok (.return_, 1) := by decide +kernel
theorem dX2_init_0 : decode cX2_init 0 = .ok (.aload_n 0, 1) := by decide +kernel
theorem dX2_init_1 : decode cX2_init 1 = .ok (.invokespecial 3, 3) := by decide +kernel
theorem dX2_init_4 : decode cX2_init 4 = .ok (.aload_n 0, 1) := by decide +kernel
theorem dX2_init_5 : decode cX2_init 5 = .ok (.bipush 6, 2) := by decide +kernel
theorem dX2_init_7 : decode cX2_init 7 = .ok (.newarray .int, 2) := by decide +kernel
theorem dX2_init_9 : decode cX2_init 9 = .ok (.putfield 9, 3) := by decide +kernel
theorem dX2_init_12 : decode cX2_init 12 = .ok (.aload_n 0, 1) := by decide +kernel
theorem dX2_init_13 : decode cX2_init 13 = .ok (.bipush 6, 2) := by decide +kernel
theorem dX2_init_15 : decode cX2_init 15 = .ok (.newarray .int, 2) := by decide +kernel
theorem dX2_init_17 : decode cX2_init 17 = .ok (.putfield 15, 3) := by decide +kernel
theorem dX2_init_20 : decode cX2_init 20 = .ok (.aload_n 0, 1) := by decide +kernel
theorem dX2_init_21 : decode cX2_init 21 = .ok (.bipush 6, 2) := by decide +kernel
theorem dX2_init_23 : decode cX2_init 23 = .ok (.newarray .int, 2) := by decide +kernel
theorem dX2_init_25 : decode cX2_init 25 = .ok (.putfield 18, 3) := by decide +kernel
theorem dX2_init_28 : decode cX2_init 28 = .ok (.aload_n 0, 1) := by decide +kernel
theorem dX2_init_29 : decode cX2_init 29 = .ok (.bipush 6, 2) := by decide +kernel
theorem dX2_init_31 : decode cX2_init 31 = .ok (.newarray .int, 2) := by decide +kernel
theorem dX2_init_33 : decode cX2_init 33 = .ok (.putfield 21, 3) := by decide +kernel
theorem dX2_init_36 : decode cX2_init 36 = .ok (.aload_n 0, 1) := by decide +kernel
theorem dX2_init_37 : decode cX2_init 37 = .ok (.bipush 6, 2) := by decide +kernel
theorem dX2_init_39 : decode cX2_init 39 = .ok (.newarray .int, 2) := by decide +kernel
theorem dX2_init_41 : decode cX2_init 41 = .ok (.putfield 24, 3) := by decide +kernel
theorem dX2_init_44 : decode cX2_init 44 = .ok (.return_, 1) := by decide +kernel
set_option maxRecDepth 20000 in
theorem ggX2_read_X0_sizeOf : GoodIn wsX2_read wsX0_sizeOf := goodIn_r _ [9, 10, 11, 12, 8, 13, 14, 15, 16, 17, 18, 19, 20, 21, 22, 23, 24, 32, 33, 34, 35, 36] (by decide +kernel) (by decide +kernel)
set_option maxRecDepth 20000 in
theorem gX2_read_X0_sizeOf : GoodIn wsX2_read (wsV RX2 34 RX0 yX0_sizeOf wsX0_sizeOf) := goodIn_app (goodIn_of _ (by decide +kernel)) ggX2_read_X0_sizeOf
theorem dX2_read_0 : decode cX2_read 0 = .ok (.aload_n 0, 1) := by decide +kernel
theorem dX2_read_1 : decode cX2_read 1 = .ok (.iconst 0, 1) := by decide +kernel
theorem dX2_read_2 : decode cX2_read 2 = .ok (.putfield 27, 3) := by decide +kernel
theorem dX2_read_5 : decode cX2_read 5 = .ok (.aload_n 0, 1) := by decide +kernel
theorem dX2_read_6 : decode cX2_read 6 = .ok (.iconst 0, 1) := by decide +kernel
theorem dX2_read_7 : decode cX2_read 7 = .ok (.putfield 31, 3) := by decide +kernel
theorem dX2_read_10 : decode cX2_read 10 = .ok (.iconst 0, 1) := by decide +kernel
theorem dX2_read_11 : decode cX2_read 11 = .ok (.istore_n 2, 1) := by decide +kernel
theorem dX2_read_12 : decode cX2_read 12 = .ok (.iload_n 2, 1) := by decide +kernel
theorem dX2_read_13 : decode cX2_read 13 = .ok (.bipush 6, 2) := by decide +kernel
theorem dX2_read_15 : decode cX2_read 15 = .ok (.if_icmp .ge 78, 3) := by decide +kernel
theorem dX2_read_18 : decode cX2_read 18 = .ok (.aload_n 0, 1) := by decide +kernel
theorem dX2_read_19 : decode cX2_read 19 = .ok (.getfield 9, 3) := by decide +kernel
theorem dX2_read_22 : decode cX2_read 22 = .ok (.iload_n 2, 1) := by decide +kernel
theorem dX2_read_23 : decode cX2_read 23 = .ok (.aload_n 0, 1) := by decide +kernel
theorem dX2_read_24 : decode cX2_read 24 = .ok (.getfield 27, 3) := by decide +kernel
theorem dX2_read_27 : decode cX2_read 27 = .ok (.iastore, 1) := by decide +kernel
theorem dX2_read_28 : decode cX2_read 28 = .ok (.aload_n 1, 1) := by decide +kernel
theorem dX2_read_29 : decode cX2_read 29 = .ok (.iload_n 2, 1) := by decide +kernel
theorem dX2_read_30 : decode cX2_read 30 = .ok (.invokevirtual 34, 3) := by decide +kernel
theorem dX2_read_33 : decode cX2_read 33 = .ok (.ifCond .le 54, 3) := by decide +kernel
theorem dX2_read_36 : decode cX2_read 36 = .ok (.aload_n 0, 1) := by decide +kernel
theorem dX2_read_37 : decode cX2_read 37 = .ok (.getfield 27, 3) := by decide +kernel
theorem dX2_read_40 : decode cX2_read 40 = .ok (.bipush 6, 2) := by decide +kernel
theorem dX2_read_42 : decode cX2_read 42 = .ok (.if_icmp .ge 45, 3) := by decide +kernel
theorem dX2_read_45 : decode cX2_read 45 = .ok (.aload_n 0, 1) := by decide +kernel
theorem dX2_read_46 : decode cX2_read 46 = .ok (.getfield 15, 3) := by decide +kernel
theorem dX2_read_49 : decode cX2_read 49 = .ok (.aload_n 0, 1) := by decide +kernel
theorem dX2_read_50 : decode cX2_read 50 = .ok (.getfield 27, 3) := by decide +kernel
theorem dX2_read_53 : decode cX2_read 53 = .ok (.aload_n 1, 1) := by decide +kernel
theorem dX2_read_54 : decode cX2_read 54 = .ok (.iload_n 2, 1) := by decide +kernel
theorem dX2_read_55 : decode cX2_read 55 = .ok (.invokevirtual 34, 3) := by decide +kernel
theorem dX2_read_58 : decode cX2_read 58 = .ok (.iastore, 1) := by decide +kernel
theorem dX2_read_59 : decode cX2_read 59 = .ok (.aload_n 0, 1) := by decide +kernel
theorem dX2_read_60 : decode cX2_read 60 = .ok (.dup, 1) := by decide +kernel
theorem dX2_read_61 : decode cX2_read 61 = .ok (.getfield 31, 3) := by decide +kernel
theorem dX2_read_64 : decode cX2_read 64 = .ok (.aload_n 0, 1) := by decide +kernel
theorem dX2_read_65 : decode cX2_read 65 = .ok (.getfield 15, 3) := by decide +kernel
theorem dX2_read_68 : decode cX2_read 68 = .ok (.aload_n 0, 1) := by decide +kernel
theorem dX2_read_69 : decode cX2_read 69 = .ok (.getfield 27, 3) := by decide +kernel
theorem dX2_read_72 : decode cX2_read 72 = .ok (.iaload, 1) := by decide +kernel
theorem dX2_read_73 : decode cX2_read 73 = .ok (.iadd, 1) := by decide +kernel
theorem dX2_read_74 : decode cX2_read 74 = .ok (.putfield 31, 3) := by decide +kernel
theorem dX2_read_77 : decode cX2_read 77 = .ok (.aload_n 0, 1) := by decide +kernel
theorem dX2_read_78 : decode cX2_read 78 = .ok (.dup, 1) := by decide +kernel
theorem dX2_read_79 : decode cX2_read 79 = .ok (.getfield 27, 3) := by decide +kernel
theorem dX2_read_82 : decode cX2_read 82 = .ok (.iconst 1, 1) := by decide +kernel
theorem dX2_read_83 : decode cX2_read 83 = .ok (.iadd, 1) := by decide +kernel
theorem dX2_read_84 : decode cX2_read 84 = .ok (.putfield 27, 3) := by decide +kernel
theorem dX2_read_87 : decode cX2_read 87 = .ok (.iinc 2 1, 3) := by decide +kernel
theorem dX2_read_90 : decode cX2_read 90 = .ok (.goto (-78), 3) := by decide +kernel
theorem dX2_read_93 : decode cX2_read 93 = .ok (.return_, 1) := by decide +kernel
set_option maxRecDepth 20000 in
theorem ggX2_placeOf_X3_isLand : GoodIn wsX2_placeOf wsX3_isLand := goodIn_r _ [4] (by decide +kernel) (by decide +kernel)
set_option maxRecDepth 20000 in
theorem gX2_placeOf_X3_isLand_n40 : GoodIn wsX2_placeOf (wsX3_isLand) := ggX2_placeOf_X3_isLand
theorem dX2_placeOf_0 : decode cX2_placeOf 0 = .ok (.iload_n 1, 1) := by decide +kernel
theorem dX2_placeOf_1 : decode cX2_placeOf 1 = .ok (.invokestatic 40, 3) := by decide +kernel
theorem dX2_placeOf_4 : decode cX2_placeOf 4 = .ok (.ifCond .eq 12, 3) := by decide +kernel
theorem dX2_placeOf_7 : decode cX2_placeOf 7 = .ok (.aload_n 0, 1) := by decide +kernel
theorem dX2_placeOf_8 : decode cX2_placeOf 8 = .ok (.getfield 9, 3) := by decide +kernel
theorem dX2_placeOf_11 : decode cX2_placeOf 11 = .ok (.iload_n 1, 1) := by decide +kernel
theorem dX2_placeOf_12 : decode cX2_placeOf 12 = .ok (.iaload, 1) := by decide +kernel
theorem dX2_placeOf_13 : decode cX2_placeOf 13 = .ok (.goto 4, 3) := by decide +kernel
theorem dX2_placeOf_16 : decode cX2_placeOf 16 = .ok (.iconst 0, 1) := by decide +kernel
theorem dX2_placeOf_17 : decode cX2_placeOf 17 = .ok (.ireturn, 1) := by decide +kernel
set_option maxRecDepth 20000 in
theorem ggX2_lay_X2_layRow : GoodIn wsX2_lay wsX2_layRow := goodIn_r _ [6, 7, 8, 9, 10, 11, 12, 13, 14, 15, 16, 17, 18, 19, 20, 21] (by decide +kernel) (by decide +kernel)
set_option maxRecDepth 20000 in
theorem gX2_lay_X2_layRow : GoodIn wsX2_lay (wsV RX2 44 RX2 yX2_layRow wsX2_layRow) := goodIn_app (goodIn_of _ (by decide +kernel)) ggX2_lay_X2_layRow
theorem dX2_lay_0 : decode cX2_lay 0 = .ok (.iconst 0, 1) := by decide +kernel
theorem dX2_lay_1 : decode cX2_lay 1 = .ok (.istore_n 2, 1) := by decide +kernel
theorem dX2_lay_2 : decode cX2_lay 2 = .ok (.iconst 0, 1) := by decide +kernel
theorem dX2_lay_3 : decode cX2_lay 3 = .ok (.istore_n 3, 1) := by decide +kernel
theorem dX2_lay_4 : decode cX2_lay 4 = .ok (.iconst 0, 1) := by decide +kernel
theorem dX2_lay_5 : decode cX2_lay 5 = .ok (.istore 4, 2) := by decide +kernel
theorem dX2_lay_7 : decode cX2_lay 7 = .ok (.iload 4, 2) := by decide +kernel
theorem dX2_lay_9 : decode cX2_lay 9 = .ok (.aload_n 0, 1) := by decide +kernel
theorem dX2_lay_10 : decode cX2_lay 10 = .ok (.getfield 27, 3) := by decide +kernel
theorem dX2_lay_13 : decode cX2_lay 13 = .ok (.if_icmp .ge 45, 3) := by decide +kernel
theorem dX2_lay_16 : decode cX2_lay 16 = .ok (.iload 4, 2) := by decide +kernel
theorem dX2_lay_18 : decode cX2_lay 18 = .ok (.aload_n 0, 1) := by decide +kernel
theorem dX2_lay_19 : decode cX2_lay 19 = .ok (.getfield 27, 3) := by decide +kernel
theorem dX2_lay_22 : decode cX2_lay 22 = .ok (.iconst 1, 1) := by decide +kernel
theorem dX2_lay_23 : decode cX2_lay 23 = .ok (.isub, 1) := by decide +kernel
theorem dX2_lay_24 : decode cX2_lay 24 = .ok (.if_icmp .eq 12, 3) := by decide +kernel
theorem dX2_lay_27 : decode cX2_lay 27 = .ok (.iload_n 1, 1) := by decide +kernel
theorem dX2_lay_28 : decode cX2_lay 28 = .ok (.iload 4, 2) := by decide +kernel
theorem dX2_lay_30 : decode cX2_lay 30 = .ok (.ishr, 1) := by decide +kernel
theorem dX2_lay_31 : decode cX2_lay 31 = .ok (.iconst 1, 1) := by decide +kernel
theorem dX2_lay_32 : decode cX2_lay 32 = .ok (.iand, 1) := by decide +kernel
theorem dX2_lay_33 : decode cX2_lay 33 = .ok (.ifCond .eq 19, 3) := by decide +kernel
theorem dX2_lay_36 : decode cX2_lay 36 = .ok (.iload_n 3, 1) := by decide +kernel
theorem dX2_lay_37 : decode cX2_lay 37 = .ok (.aload_n 0, 1) := by decide +kernel
theorem dX2_lay_38 : decode cX2_lay 38 = .ok (.iload_n 2, 1) := by decide +kernel
theorem dX2_lay_39 : decode cX2_lay 39 = .ok (.iload 4, 2) := by decide +kernel
theorem dX2_lay_41 : decode cX2_lay 41 = .ok (.iload_n 3, 1) := by decide +kernel
theorem dX2_lay_42 : decode cX2_lay 42 = .ok (.invokevirtual 44, 3) := by decide +kernel
theorem dX2_lay_45 : decode cX2_lay 45 = .ok (.iadd, 1) := by decide +kernel
theorem dX2_lay_46 : decode cX2_lay 46 = .ok (.istore_n 3, 1) := by decide +kernel
theorem dX2_lay_47 : decode cX2_lay 47 = .ok (.iload 4, 2) := by decide +kernel
theorem dX2_lay_49 : decode cX2_lay 49 = .ok (.iconst 1, 1) := by decide +kernel
theorem dX2_lay_50 : decode cX2_lay 50 = .ok (.iadd, 1) := by decide +kernel
theorem dX2_lay_51 : decode cX2_lay 51 = .ok (.istore_n 2, 1) := by decide +kernel
theorem dX2_lay_52 : decode cX2_lay 52 = .ok (.iinc 4 1, 3) := by decide +kernel
theorem dX2_lay_55 : decode cX2_lay 55 = .ok (.goto (-48), 3) := by decide +kernel
theorem dX2_lay_58 : decode cX2_lay 58 = .ok (.return_, 1) := by decide +kernel
theorem dX2_layRow_0 : decode cX2_layRow 0 = .ok (.iconst 0, 1) := by decide +kernel
theorem dX2_layRow_1 : decode cX2_layRow 1 = .ok (.istore 4, 2) := by decide +kernel
theorem dX2_layRow_3 : decode cX2_layRow 3 = .ok (.iload_n 1, 1) := by decide +kernel
theorem dX2_layRow_4 : decode cX2_layRow 4 = .ok (.iconst 0, 1) := by decide +kernel
theorem dX2_layRow_5 : decode cX2_layRow 5 = .ok (.invokestatic 48, 3) := by decide +kernel
theorem dX2_layRow_8 : decode cX2_layRow 8 = .ok (.istore 5, 2) := by decide +kernel
theorem dX2_layRow_10 : decode cX2_layRow 10 = .ok (.iload 5, 2) := by decide +kernel
theorem dX2_layRow_12 : decode cX2_layRow 12 = .ok (.iload_n 2, 1) := by decide +kernel
theorem dX2_layRow_13 : decode cX2_layRow 13 = .ok (.if_icmp .gt 45, 3) := by decide +kernel
theorem dX2_layRow_16 : decode cX2_layRow 16 = .ok (.iload 5, 2) := by decide +kernel
theorem dX2_layRow_18 : decode cX2_layRow 18 = .ok (.bipush 6, 2) := by decide +kernel
theorem dX2_layRow_20 : decode cX2_layRow 20 = .ok (.if_icmp .ge 38, 3) := by decide +kernel
theorem dX2_layRow_23 : decode cX2_layRow 23 = .ok (.aload_n 0, 1) := by decide +kernel
theorem dX2_layRow_24 : decode cX2_layRow 24 = .ok (.getfield 18, 3) := by decide +kernel
theorem dX2_layRow_27 : decode cX2_layRow 27 = .ok (.iload 5, 2) := by decide +kernel
theorem dX2_layRow_29 : decode cX2_layRow 29 = .ok (.iload 4, 2) := by decide +kernel
theorem dX2_layRow_31 : decode cX2_layRow 31 = .ok (.iastore, 1) := by decide +kernel
theorem dX2_layRow_32 : decode cX2_layRow 32 = .ok (.aload_n 0, 1) := by decide +kernel
theorem dX2_layRow_33 : decode cX2_layRow 33 = .ok (.getfield 21, 3) := by decide +kernel
theorem dX2_layRow_36 : decode cX2_layRow 36 = .ok (.iload 5, 2) := by decide +kernel
theorem dX2_layRow_38 : decode cX2_layRow 38 = .ok (.iload_n 3, 1) := by decide +kernel
theorem dX2_layRow_39 : decode cX2_layRow 39 = .ok (.iastore, 1) := by decide +kernel
theorem dX2_layRow_40 : decode cX2_layRow 40 = .ok (.iload 4, 2) := by decide +kernel
theorem dX2_layRow_42 : decode cX2_layRow 42 = .ok (.aload_n 0, 1) := by decide +kernel
theorem dX2_layRow_43 : decode cX2_layRow 43 = .ok (.getfield 15, 3) := by decide +kernel
theorem dX2_layRow_46 : decode cX2_layRow 46 = .ok (.iload 5, 2) := by decide +kernel
theorem dX2_layRow_48 : decode cX2_layRow 48 = .ok (.iaload, 1) := by decide +kernel
theorem dX2_layRow_49 : decode cX2_layRow 49 = .ok (.iadd, 1) := by decide +kernel
theorem dX2_layRow_50 : decode cX2_layRow 50 = .ok (.istore 4, 2) := by decide +kernel
theorem dX2_layRow_52 : decode cX2_layRow 52 = .ok (.iinc 5 1, 3) := by decide +kernel
theorem dX2_layRow_55 : decode cX2_layRow 55 = .ok (.goto (-45), 3) := by decide +kernel
theorem dX2_layRow_58 : decode cX2_layRow 58 = .ok (.iload_n 1, 1) := by decide +kernel
theorem dX2_layRow_59 : decode cX2_layRow 59 = .ok (.iconst 0, 1) := by decide +kernel
theorem dX2_layRow_60 : decode cX2_layRow 60 = .ok (.invokestatic 48, 3) := by decide +kernel
theorem dX2_layRow_63 : decode cX2_layRow 63 = .ok (.istore 5, 2) := by decide +kernel
theorem dX2_layRow_65 : decode cX2_layRow 65 = .ok (.iload 5, 2) := by decide +kernel
theorem dX2_layRow_67 : decode cX2_layRow 67 = .ok (.iload_n 2, 1) := by decide +kernel
theorem dX2_layRow_68 : decode cX2_layRow 68 = .ok (.if_icmp .gt 25, 3) := by decide +kernel
theorem dX2_layRow_71 : decode cX2_layRow 71 = .ok (.iload 5, 2) := by decide +kernel
theorem dX2_layRow_73 : decode cX2_layRow 73 = .ok (.bipush 6, 2) := by decide +kernel
theorem dX2_layRow_75 : decode cX2_layRow 75 = .ok (.if_icmp .ge 18, 3) := by decide +kernel
theorem dX2_layRow_78 : decode cX2_layRow 78 = .ok (.aload_n 0, 1) := by decide +kernel
theorem dX2_layRow_79 : decode cX2_layRow 79 = .ok (.getfield 24, 3) := by decide +kernel
theorem dX2_layRow_82 : decode cX2_layRow 82 = .ok (.iload 5, 2) := by decide +kernel
theorem dX2_layRow_84 : decode cX2_layRow 84 = .ok (.iload 4, 2) := by decide +kernel
theorem dX2_layRow_86 : decode cX2_layRow 86 = .ok (.iastore, 1) := by decide +kernel
theorem dX2_layRow_87 : decode cX2_layRow 87 = .ok (.iinc 5 1, 3) := by decide +kernel
theorem dX2_layRow_90 : decode cX2_layRow 90 = .ok (.goto (-25), 3) := by decide +kernel
theorem dX2_layRow_93 : decode cX2_layRow 93 = .ok (.iload 4, 2) := by decide +kernel
theorem dX2_layRow_95 : decode cX2_layRow 95 = .ok (.ireturn, 1) := by decide +kernel
set_option maxRecDepth 20000 in
theorem ggX2_side_X3_thousandths : GoodIn wsX2_side wsX3_thousandths := goodIn_r _ [8] (by decide +kernel) (by decide +kernel)
set_option maxRecDepth 20000 in
theorem gX2_side_X3_thousandths_n54 : GoodIn wsX2_side (wsX3_thousandths) := ggX2_side_X3_thousandths
theorem dX2_side_0 : decode cX2_side 0 = .ok (.iload_n 1, 1) := by decide +kernel
theorem dX2_side_1 : decode cX2_side 1 = .ok (.ifCond .lt 9, 3) := by decide +kernel
theorem dX2_side_4 : decode cX2_side 4 = .ok (.iload_n 1, 1) := by decide +kernel
theorem dX2_side_5 : decode cX2_side 5 = .ok (.bipush 6, 2) := by decide +kernel
theorem dX2_side_7 : decode cX2_side 7 = .ok (.if_icmp .lt 5, 3) := by decide +kernel
theorem dX2_side_10 : decode cX2_side 10 = .ok (.iconst 0, 1) := by decide +kernel
theorem dX2_side_11 : decode cX2_side 11 = .ok (.ireturn, 1) := by decide +kernel
theorem dX2_side_12 : decode cX2_side 12 = .ok (.iload_n 2, 1) := by decide +kernel
theorem dX2_side_13 : decode cX2_side 13 = .ok (.tableswitch 73 0 2 #[27, 43, 57], 27) := by decide +kernel
theorem dX2_side_40 : decode cX2_side 40 = .ok (.aload_n 0, 1) := by decide +kernel
theorem dX2_side_41 : decode cX2_side 41 = .ok (.getfield 18, 3) := by decide +kernel
theorem dX2_side_44 : decode cX2_side 44 = .ok (.iload_n 1, 1) := by decide +kernel
theorem dX2_side_45 : decode cX2_side 45 = .ok (.iaload, 1) := by decide +kernel
theorem dX2_side_46 : decode cX2_side 46 = .ok (.aload_n 0, 1) := by decide +kernel
theorem dX2_side_47 : decode cX2_side 47 = .ok (.getfield 24, 3) := by decide +kernel
theorem dX2_side_50 : decode cX2_side 50 = .ok (.iload_n 1, 1) := by decide +kernel
theorem dX2_side_51 : decode cX2_side 51 = .ok (.iaload, 1) := by decide +kernel
theorem dX2_side_52 : decode cX2_side 52 = .ok (.invokestatic 54, 3) := by decide +kernel
theorem dX2_side_55 : decode cX2_side 55 = .ok (.ireturn, 1) := by decide +kernel
theorem dX2_side_56 : decode cX2_side 56 = .ok (.aload_n 0, 1) := by decide +kernel
theorem dX2_side_57 : decode cX2_side 57 = .ok (.getfield 21, 3) := by decide +kernel
theorem dX2_side_60 : decode cX2_side 60 = .ok (.iload_n 1, 1) := by decide +kernel
theorem dX2_side_61 : decode cX2_side 61 = .ok (.iaload, 1) := by decide +kernel
theorem dX2_side_62 : decode cX2_side 62 = .ok (.aload_n 0, 1) := by decide +kernel
theorem dX2_side_63 : decode cX2_side 63 = .ok (.getfield 31, 3) := by decide +kernel
theorem dX2_side_66 : decode cX2_side 66 = .ok (.invokestatic 54, 3) := by decide +kernel
theorem dX2_side_69 : decode cX2_side 69 = .ok (.ireturn, 1) := by decide +kernel
theorem dX2_side_70 : decode cX2_side 70 = .ok (.aload_n 0, 1) := by decide +kernel
theorem dX2_side_71 : decode cX2_side 71 = .ok (.getfield 15, 3) := by decide +kernel
theorem dX2_side_74 : decode cX2_side 74 = .ok (.iload_n 1, 1) := by decide +kernel
theorem dX2_side_75 : decode cX2_side 75 = .ok (.iaload, 1) := by decide +kernel
theorem dX2_side_76 : decode cX2_side 76 = .ok (.aload_n 0, 1) := by decide +kernel
theorem dX2_side_77 : decode cX2_side 77 = .ok (.getfield 24, 3) := by decide +kernel
theorem dX2_side_80 : decode cX2_side 80 = .ok (.iload_n 1, 1) := by decide +kernel
theorem dX2_side_81 : decode cX2_side 81 = .ok (.iaload, 1) := by decide +kernel
theorem dX2_side_82 : decode cX2_side 82 = .ok (.invokestatic 54, 3) := by decide +kernel
theorem dX2_side_85 : decode cX2_side 85 = .ok (.ireturn, 1) := by decide +kernel
theorem dX2_side_86 : decode cX2_side 86 = .ok (.aload_n 0, 1) := by decide +kernel
theorem dX2_side_87 : decode cX2_side 87 = .ok (.getfield 24, 3) := by decide +kernel
theorem dX2_side_90 : decode cX2_side 90 = .ok (.iload_n 1, 1) := by decide +kernel
theorem dX2_side_91 : decode cX2_side 91 = .ok (.iaload, 1) := by decide +kernel
theorem dX2_side_92 : decode cX2_side 92 = .ok (.aload_n 0, 1) := by decide +kernel
theorem dX2_side_93 : decode cX2_side 93 = .ok (.getfield 31, 3) := by decide +kernel
theorem dX2_side_96 : decode cX2_side 96 = .ok (.invokestatic 54, 3) := by decide +kernel
theorem dX2_side_99 : decode cX2_side 99 = .ok (.ireturn, 1) := by decide +kernel
theorem dX2_scaledHeight_0 : decode cX2_scaledHeight 0 = .ok (.iload_n 1, 1) := by decide +kernel
theorem dX2_scaledHeight_1 : decode cX2_scaledHeight 1 = .ok (.ifCond .lt 25, 3) := by decide +kernel
theorem dX2_scaledHeight_4 : decode cX2_scaledHeight 4 = .ok (.iload_n 1, 1) := by decide +kernel
theorem dX2_scaledHeight_5 : decode cX2_scaledHeight 5 = .ok (.bipush 6, 2) := by decide +kernel
theorem dX2_scaledHeight_7 : decode cX2_scaledHeight 7 = .ok (.if_icmp .ge 19, 3) := by decide +kernel
theorem dX2_scaledHeight_10 : decode cX2_scaledHeight 10 = .ok (.aload_n 0, 1) := by decide +kernel
theorem dX2_scaledHeight_11 : decode cX2_scaledHeight 11 = .ok (.getfield 24, 3) := by decide +kernel
theorem dX2_scaledHeight_14 : decode cX2_scaledHeight 14 = .ok (.iload_n 1, 1) := by decide +kernel
theorem dX2_scaledHeight_15 : decode cX2_scaledHeight 15 = .ok (.iaload, 1) := by decide +kernel
theorem dX2_scaledHeight_16 : decode cX2_scaledHeight 16 = .ok (.aload_n 0, 1) := by decide +kernel
theorem dX2_scaledHeight_17 : decode cX2_scaledHeight 17 = .ok (.getfield 24, 3) := by decide +kernel
theorem dX2_scaledHeight_20 : decode cX2_scaledHeight 20 = .ok (.iload_n 1, 1) := by decide +kernel
theorem dX2_scaledHeight_21 : decode cX2_scaledHeight 21 = .ok (.iaload, 1) := by decide +kernel
theorem dX2_scaledHeight_22 : decode cX2_scaledHeight 22 = .ok (.imul, 1) := by decide +kernel
theorem dX2_scaledHeight_23 : decode cX2_scaledHeight 23 = .ok (.goto 4, 3) := by decide +kernel
theorem dX2_scaledHeight_26 : decode cX2_scaledHeight 26 = .ok (.iconst 0, 1) := by decide +kernel
theorem dX2_scaledHeight_27 : decode cX2_scaledHeight 27 = .ok (.ireturn, 1) := by decide +kernel
theorem dX2_scaledWidth_0 : decode cX2_scaledWidth 0 = .ok (.iload_n 1, 1) := by decide +kernel
theorem dX2_scaledWidth_1 : decode cX2_scaledWidth 1 = .ok (.ifCond .lt 23, 3) := by decide +kernel
theorem dX2_scaledWidth_4 : decode cX2_scaledWidth 4 = .ok (.iload_n 1, 1) := by decide +kernel
theorem dX2_scaledWidth_5 : decode cX2_scaledWidth 5 = .ok (.bipush 6, 2) := by decide +kernel
theorem dX2_scaledWidth_7 : decode cX2_scaledWidth 7 = .ok (.if_icmp .ge 17, 3) := by decide +kernel
theorem dX2_scaledWidth_10 : decode cX2_scaledWidth 10 = .ok (.aload_n 0, 1) := by decide +kernel
theorem dX2_scaledWidth_11 : decode cX2_scaledWidth 11 = .ok (.getfield 15, 3) := by decide +kernel
theorem dX2_scaledWidth_14 : decode cX2_scaledWidth 14 = .ok (.iload_n 1, 1) := by decide +kernel
theorem dX2_scaledWidth_15 : decode cX2_scaledWidth 15 = .ok (.iaload, 1) := by decide +kernel
theorem dX2_scaledWidth_16 : decode cX2_scaledWidth 16 = .ok (.aload_n 0, 1) := by decide +kernel
theorem dX2_scaledWidth_17 : decode cX2_scaledWidth 17 = .ok (.getfield 31, 3) := by decide +kernel
theorem dX2_scaledWidth_20 : decode cX2_scaledWidth 20 = .ok (.imul, 1) := by decide +kernel
theorem dX2_scaledWidth_21 : decode cX2_scaledWidth 21 = .ok (.goto 4, 3) := by decide +kernel
theorem dX2_scaledWidth_24 : decode cX2_scaledWidth 24 = .ok (.iconst 0, 1) := by decide +kernel
theorem dX2_scaledWidth_25 : decode cX2_scaledWidth 25 = .ok (.ireturn, 1) := by decide +kernel
set_option maxRecDepth 20000 in
theorem ggX2_longUpper_X2_scaledHeight : GoodIn wsX2_longUpper wsX2_scaledHeight := goodIn_r _ [9, 10, 17, 18, 19, 20, 21, 22, 23] (by decide +kernel) (by decide +kernel)
set_option maxRecDepth 20000 in
theorem gX2_longUpper_X2_scaledHeight : GoodIn wsX2_longUpper (wsV RX2 57 RX2 yX2_scaledHeight wsX2_scaledHeight) := goodIn_app (goodIn_of _ (by decide +kernel)) ggX2_longUpper_X2_scaledHeight
set_option maxRecDepth 20000 in
theorem ggX2_longUpper_X2_scaledWidth : GoodIn wsX2_longUpper wsX2_scaledWidth := goodIn_r _ [14, 15, 16, 17, 18, 19, 20, 21, 22, 23] (by decide +kernel) (by decide +kernel)
set_option maxRecDepth 20000 in
theorem gX2_longUpper_X2_scaledWidth : GoodIn wsX2_longUpper (wsV RX2 60 RX2 yX2_scaledWidth wsX2_scaledWidth) := goodIn_app (goodIn_of _ (by decide +kernel)) ggX2_longUpper_X2_scaledWidth
theorem dX2_longUpper_0 : decode cX2_longUpper 0 = .ok (.aload_n 0, 1) := by decide +kernel
theorem dX2_longUpper_1 : decode cX2_longUpper 1 = .ok (.iload_n 1, 1) := by decide +kernel
theorem dX2_longUpper_2 : decode cX2_longUpper 2 = .ok (.invokevirtual 57, 3) := by decide +kernel
theorem dX2_longUpper_5 : decode cX2_longUpper 5 = .ok (.aload_n 0, 1) := by decide +kernel
theorem dX2_longUpper_6 : decode cX2_longUpper 6 = .ok (.iload_n 1, 1) := by decide +kernel
theorem dX2_longUpper_7 : decode cX2_longUpper 7 = .ok (.invokevirtual 60, 3) := by decide +kernel
theorem dX2_longUpper_10 : decode cX2_longUpper 10 = .ok (.invokestatic 48, 3) := by decide +kernel
theorem dX2_longUpper_13 : decode cX2_longUpper 13 = .ok (.ireturn, 1) := by decide +kernel
set_option maxRecDepth 20000 in
theorem ggX2_longLower_X2_scaledHeight : GoodIn wsX2_longLower wsX2_scaledHeight := goodIn_r _ [9, 10, 17, 18, 19, 20, 21, 22, 23] (by decide +kernel) (by decide +kernel)
set_option maxRecDepth 20000 in
theorem gX2_longLower_X2_scaledHeight : GoodIn wsX2_longLower (wsV RX2 57 RX2 yX2_scaledHeight wsX2_scaledHeight) := goodIn_app (goodIn_of _ (by decide +kernel)) ggX2_longLower_X2_scaledHeight
set_option maxRecDepth 20000 in
theorem ggX2_longLower_X2_scaledWidth : GoodIn wsX2_longLower wsX2_scaledWidth := goodIn_r _ [14, 15, 16, 17, 18, 19, 20, 21, 22, 23] (by decide +kernel) (by decide +kernel)
set_option maxRecDepth 20000 in
theorem gX2_longLower_X2_scaledWidth : GoodIn wsX2_longLower (wsV RX2 60 RX2 yX2_scaledWidth wsX2_scaledWidth) := goodIn_app (goodIn_of _ (by decide +kernel)) ggX2_longLower_X2_scaledWidth
theorem dX2_longLower_0 : decode cX2_longLower 0 = .ok (.aload_n 0, 1) := by decide +kernel
theorem dX2_longLower_1 : decode cX2_longLower 1 = .ok (.iload_n 1, 1) := by decide +kernel
theorem dX2_longLower_2 : decode cX2_longLower 2 = .ok (.invokevirtual 57, 3) := by decide +kernel
theorem dX2_longLower_5 : decode cX2_longLower 5 = .ok (.aload_n 0, 1) := by decide +kernel
theorem dX2_longLower_6 : decode cX2_longLower 6 = .ok (.iload_n 1, 1) := by decide +kernel
theorem dX2_longLower_7 : decode cX2_longLower 7 = .ok (.invokevirtual 60, 3) := by decide +kernel
theorem dX2_longLower_10 : decode cX2_longLower 10 = .ok (.invokestatic 63, 3) := by decide +kernel
theorem dX2_longLower_13 : decode cX2_longLower 13 = .ok (.ireturn, 1) := by decide +kernel
set_option maxRecDepth 20000 in
theorem ggX2_longestPlace_X2_longUpper : GoodIn wsX2_longestPlace wsX2_longUpper := goodIn_r _ [6, 7, 8, 9, 10, 11, 12, 13, 5, 14, 15, 16, 17, 18, 19, 20, 21, 29, 30, 31, 32, 33, 34, 35] (by decide +kernel) (by decide +kernel)
set_option maxRecDepth 20000 in
theorem gX2_longestPlace_X2_longUpper : GoodIn wsX2_longestPlace (wsV RX2 66 RX2 yX2_longUpper wsX2_longUpper) := goodIn_app (goodIn_of _ (by decide +kernel)) ggX2_longestPlace_X2_longUpper
set_option maxRecDepth 20000 in
theorem ggX2_longestPlace_X2_longLower : GoodIn wsX2_longestPlace wsX2_longLower := goodIn_r _ [25, 26, 27, 9, 28, 11, 12, 13, 5, 14, 15, 16, 17, 18, 19, 20, 21, 29, 30, 31, 32, 33, 34, 35] (by decide +kernel) (by decide +kernel)
set_option maxRecDepth 20000 in
theorem gX2_longestPlace_X2_longLower : GoodIn wsX2_longestPlace (wsV RX2 69 RX2 yX2_longLower wsX2_longLower) := goodIn_app (goodIn_of _ (by decide +kernel)) ggX2_longestPlace_X2_longLower
theorem dX2_longestPlace_0 : decode cX2_longestPlace 0 = .ok (.iconst 0, 1) := by decide +kernel
theorem dX2_longestPlace_1 : decode cX2_longestPlace 1 = .ok (.istore_n 1, 1) := by decide +kernel
theorem dX2_longestPlace_2 : decode cX2_longestPlace 2 = .ok (.iconst 1, 1) := by decide +kernel
theorem dX2_longestPlace_3 : decode cX2_longestPlace 3 = .ok (.istore_n 2, 1) := by decide +kernel
theorem dX2_longestPlace_4 : decode cX2_longestPlace 4 = .ok (.iload_n 2, 1) := by decide +kernel
theorem dX2_longestPlace_5 : decode cX2_longestPlace 5 = .ok (.aload_n 0, 1) := by decide +kernel
theorem dX2_longestPlace_6 : decode cX2_longestPlace 6 = .ok (.getfield 27, 3) := by decide +kernel
theorem dX2_longestPlace_9 : decode cX2_longestPlace 9 = .ok (.if_icmp .ge 36, 3) := by decide +kernel
theorem dX2_longestPlace_12 : decode cX2_longestPlace 12 = .ok (.aload_n 0, 1) := by decide +kernel
theorem dX2_longestPlace_13 : decode cX2_longestPlace 13 = .ok (.iload_n 2, 1) := by decide +kernel
theorem dX2_longestPlace_14 : decode cX2_longestPlace 14 = .ok (.invokevirtual 66, 3) := by decide +kernel
theorem dX2_longestPlace_17 : decode cX2_longestPlace 17 = .ok (.aload_n 0, 1) := by decide +kernel
theorem dX2_longestPlace_18 : decode cX2_longestPlace 18 = .ok (.iload_n 1, 1) := by decide +kernel
theorem dX2_longestPlace_19 : decode cX2_longestPlace 19 = .ok (.invokevirtual 69, 3) := by decide +kernel
theorem dX2_longestPlace_22 : decode cX2_longestPlace 22 = .ok (.imul, 1) := by decide +kernel
theorem dX2_longestPlace_23 : decode cX2_longestPlace 23 = .ok (.aload_n 0, 1) := by decide +kernel
theorem dX2_longestPlace_24 : decode cX2_longestPlace 24 = .ok (.iload_n 1, 1) := by decide +kernel
theorem dX2_longestPlace_25 : decode cX2_longestPlace 25 = .ok (.invokevirtual 66, 3) := by decide +kernel
theorem dX2_longestPlace_28 : decode cX2_longestPlace 28 = .ok (.aload_n 0, 1) := by decide +kernel
theorem dX2_longestPlace_29 : decode cX2_longestPlace 29 = .ok (.iload_n 2, 1) := by decide +kernel
theorem dX2_longestPlace_30 : decode cX2_longestPlace 30 = .ok (.invokevirtual 69, 3) := by decide +kernel
theorem dX2_longestPlace_33 : decode cX2_longestPlace 33 = .ok (.imul, 1) := by decide +kernel
theorem dX2_longestPlace_34 : decode cX2_longestPlace 34 = .ok (.if_icmp .le 5, 3) := by decide +kernel
theorem dX2_longestPlace_37 : decode cX2_longestPlace 37 = .ok (.iload_n 2, 1) := by decide +kernel
theorem dX2_longestPlace_38 : decode cX2_longestPlace 38 = .ok (.istore_n 1, 1) := by decide +kernel
theorem dX2_longestPlace_39 : decode cX2_longestPlace 39 = .ok (.iinc 2 1, 3) := by decide +kernel
theorem dX2_longestPlace_42 : decode cX2_longestPlace 42 = .ok (.goto (-38), 3) := by decide +kernel
theorem dX2_longestPlace_45 : decode cX2_longestPlace 45 = .ok (.iload_n 1, 1) := by decide +kernel
theorem dX2_longestPlace_46 : decode cX2_longestPlace 46 = .ok (.ireturn, 1) := by decide +kernel
set_option maxRecDepth 20000 in
theorem ggX2_bestCuts_X2_lay : GoodIn wsX2_bestCuts wsX2_lay := goodIn_r _ [10, 1, 11, 12, 13, 9, 14, 2, 3, 4, 5, 15, 16, 17, 18, 43, 44, 45, 46, 47, 48, 49] (by decide +kernel) (by decide +kernel)
set_option maxRecDepth 20000 in
theorem gX2_bestCuts_X2_lay : GoodIn wsX2_bestCuts (wsV RX2 72 RX2 yX2_lay wsX2_lay) := goodIn_app (goodIn_of _ (by decide +kernel)) ggX2_bestCuts_X2_lay
set_option maxRecDepth 20000 in
theorem ggX2_bestCuts_X2_longestPlace : GoodIn wsX2_bestCuts wsX2_longestPlace := goodIn_r _ [22, 1, 23, 24, 25, 9, 26, 2, 3, 4, 5, 27, 28, 29, 30, 18, 31, 32, 33, 34, 17, 35, 36, 37, 38, 39, 40, 41, 42, 43, 44, 45, 46, 47, 48, 49] (by decide +kernel) (by decide +kernel)
set_option maxRecDepth 20000 in
theorem gX2_bestCuts_X2_longestPlace : GoodIn wsX2_bestCuts (wsV RX2 76 RX2 yX2_longestPlace wsX2_longestPlace) := goodIn_app (goodIn_of _ (by decide +kernel)) ggX2_bestCuts_X2_longestPlace
set_option maxRecDepth 20000 in
theorem ggX2_bestCuts_X2_longUpper : GoodIn wsX2_bestCuts wsX2_longUpper := goodIn_r _ [26, 2, 3, 4, 5, 27, 28, 29, 9, 30, 18, 31, 32, 33, 34, 17, 35, 43, 44, 45, 46, 47, 48, 49] (by decide +kernel) (by decide +kernel)
set_option maxRecDepth 20000 in
theorem gX2_bestCuts_X2_longUpper : GoodIn wsX2_bestCuts (wsV RX2 66 RX2 yX2_longUpper wsX2_longUpper) := goodIn_app (goodIn_of _ (by decide +kernel)) ggX2_bestCuts_X2_longUpper
set_option maxRecDepth 20000 in
theorem ggX2_bestCuts_X2_longLower : GoodIn wsX2_bestCuts wsX2_longLower := goodIn_r _ [39, 40, 41, 4, 42, 27, 28, 29, 9, 30, 18, 31, 32, 33, 34, 17, 35, 43, 44, 45, 46, 47, 48, 49] (by decide +kernel) (by decide +kernel)
set_option maxRecDepth 20000 in
theorem gX2_bestCuts_X2_longLower : GoodIn wsX2_bestCuts (wsV RX2 69 RX2 yX2_longLower wsX2_longLower) := goodIn_app (goodIn_of _ (by decide +kernel)) ggX2_bestCuts_X2_longLower
theorem dX2_bestCuts_0 : decode cX2_bestCuts 0 = .ok (.iconst 0, 1) := by decide +kernel
theorem dX2_bestCuts_1 : decode cX2_bestCuts 1 = .ok (.istore_n 1, 1) := by decide +kernel
theorem dX2_bestCuts_2 : decode cX2_bestCuts 2 = .ok (.iconst 0, 1) := by decide +kernel
theorem dX2_bestCuts_3 : decode cX2_bestCuts 3 = .ok (.istore_n 2, 1) := by decide +kernel
theorem dX2_bestCuts_4 : decode cX2_bestCuts 4 = .ok (.iconst 0, 1) := by decide +kernel
theorem dX2_bestCuts_5 : decode cX2_bestCuts 5 = .ok (.istore_n 3, 1) := by decide +kernel
theorem dX2_bestCuts_6 : decode cX2_bestCuts 6 = .ok (.iconst 0, 1) := by decide +kernel
theorem dX2_bestCuts_7 : decode cX2_bestCuts 7 = .ok (.istore 4, 2) := by decide +kernel
theorem dX2_bestCuts_9 : decode cX2_bestCuts 9 = .ok (.iload 4, 2) := by decide +kernel
theorem dX2_bestCuts_11 : decode cX2_bestCuts 11 = .ok (.iconst 1, 1) := by decide +kernel
theorem dX2_bestCuts_12 : decode cX2_bestCuts 12 = .ok (.aload_n 0, 1) := by decide +kernel
theorem dX2_bestCuts_13 : decode cX2_bestCuts 13 = .ok (.getfield 27, 3) := by decide +kernel
theorem dX2_bestCuts_16 : decode cX2_bestCuts 16 = .ok (.iconst 1, 1) := by decide +kernel
theorem dX2_bestCuts_17 : decode cX2_bestCuts 17 = .ok (.isub, 1) := by decide +kernel
theorem dX2_bestCuts_18 : decode cX2_bestCuts 18 = .ok (.iconst 0, 1) := by decide +kernel
theorem dX2_bestCuts_19 : decode cX2_bestCuts 19 = .ok (.invokestatic 48, 3) := by decide +kernel
theorem dX2_bestCuts_22 : decode cX2_bestCuts 22 = .ok (.ishl, 1) := by decide +kernel
theorem dX2_bestCuts_23 : decode cX2_bestCuts 23 = .ok (.if_icmp .ge 60, 3) := by decide +kernel
theorem dX2_bestCuts_26 : decode cX2_bestCuts 26 = .ok (.aload_n 0, 1) := by decide +kernel
theorem dX2_bestCuts_27 : decode cX2_bestCuts 27 = .ok (.iload 4, 2) := by decide +kernel
theorem dX2_bestCuts_29 : decode cX2_bestCuts 29 = .ok (.invokevirtual 72, 3) := by decide +kernel
theorem dX2_bestCuts_32 : decode cX2_bestCuts 32 = .ok (.aload_n 0, 1) := by decide +kernel
theorem dX2_bestCuts_33 : decode cX2_bestCuts 33 = .ok (.aload_n 0, 1) := by decide +kernel
theorem dX2_bestCuts_34 : decode cX2_bestCuts 34 = .ok (.invokevirtual 76, 3) := by decide +kernel
theorem dX2_bestCuts_37 : decode cX2_bestCuts 37 = .ok (.invokevirtual 66, 3) := by decide +kernel
theorem dX2_bestCuts_40 : decode cX2_bestCuts 40 = .ok (.istore 5, 2) := by decide +kernel
theorem dX2_bestCuts_42 : decode cX2_bestCuts 42 = .ok (.aload_n 0, 1) := by decide +kernel
theorem dX2_bestCuts_43 : decode cX2_bestCuts 43 = .ok (.aload_n 0, 1) := by decide +kernel
theorem dX2_bestCuts_44 : decode cX2_bestCuts 44 = .ok (.invokevirtual 76, 3) := by decide +kernel
theorem dX2_bestCuts_47 : decode cX2_bestCuts 47 = .ok (.invokevirtual 69, 3) := by decide +kernel
theorem dX2_bestCuts_50 : decode cX2_bestCuts 50 = .ok (.istore 6, 2) := by decide +kernel
theorem dX2_bestCuts_52 : decode cX2_bestCuts 52 = .ok (.iload 4, 2) := by decide +kernel
theorem dX2_bestCuts_54 : decode cX2_bestCuts 54 = .ok (.ifCond .eq 14, 3) := by decide +kernel
theorem dX2_bestCuts_57 : decode cX2_bestCuts 57 = .ok (.iload 5, 2) := by decide +kernel
theorem dX2_bestCuts_59 : decode cX2_bestCuts 59 = .ok (.iload_n 3, 1) := by decide +kernel
theorem dX2_bestCuts_60 : decode cX2_bestCuts 60 = .ok (.imul, 1) := by decide +kernel
theorem dX2_bestCuts_61 : decode cX2_bestCuts 61 = .ok (.iload_n 2, 1) := by decide +kernel
theorem dX2_bestCuts_62 : decode cX2_bestCuts 62 = .ok (.iload 6, 2) := by decide +kernel
theorem dX2_bestCuts_64 : decode cX2_bestCuts 64 = .ok (.imul, 1) := by decide +kernel
theorem dX2_bestCuts_65 : decode cX2_bestCuts 65 = .ok (.if_icmp .ge 12, 3) := by decide +kernel
theorem dX2_bestCuts_68 : decode cX2_bestCuts 68 = .ok (.iload 4, 2) := by decide +kernel
theorem dX2_bestCuts_70 : decode cX2_bestCuts 70 = .ok (.istore_n 1, 1) := by decide +kernel
theorem dX2_bestCuts_71 : decode cX2_bestCuts 71 = .ok (.iload 5, 2) := by decide +kernel
theorem dX2_bestCuts_73 : decode cX2_bestCuts 73 = .ok (.istore_n 2, 1) := by decide +kernel
theorem dX2_bestCuts_74 : decode cX2_bestCuts 74 = .ok (.iload 6, 2) := by decide +kernel
theorem dX2_bestCuts_76 : decode cX2_bestCuts 76 = .ok (.istore_n 3, 1) := by decide +kernel
theorem dX2_bestCuts_77 : decode cX2_bestCuts 77 = .ok (.iinc 4 1, 3) := by decide +kernel
theorem dX2_bestCuts_80 : decode cX2_bestCuts 80 = .ok (.goto (-71), 3) := by decide +kernel
theorem dX2_bestCuts_83 : decode cX2_bestCuts 83 = .ok (.iload_n 1, 1) := by decide +kernel
theorem dX2_bestCuts_84 : decode cX2_bestCuts 84 = .ok (.ireturn, 1) := by decide +kernel
set_option maxRecDepth 20000 in
theorem ggX3_init_X0_init : GoodIn wsX3_init wsX0_init := goodIn_r _ [22, 23, 2, 3, 24, 25, 63, 64, 65, 66, 67] (by decide +kernel) (by decide +kernel)
set_option maxRecDepth 20000 in
theorem gX3_init_X0_init_n11 : GoodIn wsX3_init (wsX0_init) := ggX3_init_X0_init
set_option maxRecDepth 20000 in
theorem ggX3_init_X1_init : GoodIn wsX3_init wsX1_init := goodIn_r _ [27, 28, 2, 3, 17, 29, 30, 76, 77, 78, 79, 80] (by decide +kernel) (by decide +kernel)
set_option maxRecDepth 20000 in
theorem gX3_init_X1_init_n18 : GoodIn wsX3_init (wsX1_init) := ggX3_init_X1_init
set_option maxRecDepth 20000 in
theorem ggX3_init_X2_init : GoodIn wsX3_init wsX2_init := goodIn_r _ [32, 33, 2, 3, 17, 34, 35, 36, 37, 38, 81, 82, 83, 84, 85, 86, 87] (by decide +kernel) (by decide +kernel)
set_option maxRecDepth 20000 in
theorem gX3_init_X2_init_n25 : GoodIn wsX3_init (wsX2_init) := ggX3_init_X2_init
set_option maxRecDepth 20000 in
theorem ggX3_init_X0_clear : GoodIn wsX3_init wsX0_clear := goodIn_r _ [42, 43, 44, 45, 46, 47, 25, 48, 49, 50, 51, 52, 53, 54, 55, 56, 57, 58, 63, 64, 65, 66, 67] (by decide +kernel) (by decide +kernel)
set_option maxRecDepth 20000 in
theorem gX3_init_X0_clear : GoodIn wsX3_init (wsV RX3 44 RX0 yX0_clear wsX0_clear) := goodIn_app (goodIn_of _ (by decide +kernel)) ggX3_init_X0_clear
set_option maxRecDepth 20000 in
theorem ggX3_init_X3_forgetKinds : GoodIn wsX3_init wsX3_forgetKinds := goodIn_r _ [62, 18, 19, 68, 69, 70, 71, 72, 73, 74, 75] (by decide +kernel) (by decide +kernel)
set_option maxRecDepth 20000 in
theorem gX3_init_X3_forgetKinds : GoodIn wsX3_init (wsV RX3 48 RX3 yX3_forgetKinds wsX3_forgetKinds) := goodIn_app (goodIn_of _ (by decide +kernel)) ggX3_init_X3_forgetKinds
theorem dX3_init_0 : decode cX3_init 0 = .ok (.aload_n 0, 1) := by decide +kernel
theorem dX3_init_1 : decode cX3_init 1 = .ok (.invokespecial 3, 3) := by decide +kernel
theorem dX3_init_4 : decode cX3_init 4 = .ok (.aload_n 0, 1) := by decide +kernel
theorem dX3_init_5 : decode cX3_init 5 = .ok (.new 9, 3) := by decide +kernel
theorem dX3_init_8 : decode cX3_init 8 = .ok (.dup, 1) := by decide +kernel
theorem dX3_init_9 : decode cX3_init 9 = .ok (.invokespecial 11, 3) := by decide +kernel
theorem dX3_init_12 : decode cX3_init 12 = .ok (.putfield 12, 3) := by decide +kernel
theorem dX3_init_15 : decode cX3_init 15 = .ok (.aload_n 0, 1) := by decide +kernel
theorem dX3_init_16 : decode cX3_init 16 = .ok (.new 16, 3) := by decide +kernel
theorem dX3_init_19 : decode cX3_init 19 = .ok (.dup, 1) := by decide +kernel
theorem dX3_init_20 : decode cX3_init 20 = .ok (.invokespecial 18, 3) := by decide +kernel
theorem dX3_init_23 : decode cX3_init 23 = .ok (.putfield 19, 3) := by decide +kernel
theorem dX3_init_26 : decode cX3_init 26 = .ok (.aload_n 0, 1) := by decide +kernel
theorem dX3_init_27 : decode cX3_init 27 = .ok (.new 23, 3) := by decide +kernel
theorem dX3_init_30 : decode cX3_init 30 = .ok (.dup, 1) := by decide +kernel
theorem dX3_init_31 : decode cX3_init 31 = .ok (.invokespecial 25, 3) := by decide +kernel
theorem dX3_init_34 : decode cX3_init 34 = .ok (.putfield 26, 3) := by decide +kernel
theorem dX3_init_37 : decode cX3_init 37 = .ok (.aload_n 0, 1) := by decide +kernel
theorem dX3_init_38 : decode cX3_init 38 = .ok (.iconst 4, 1) := by decide +kernel
theorem dX3_init_39 : decode cX3_init 39 = .ok (.anewarray 9, 3) := by decide +kernel
theorem dX3_init_42 : decode cX3_init 42 = .ok (.putfield 30, 3) := by decide +kernel
theorem dX3_init_45 : decode cX3_init 45 = .ok (.aload_n 0, 1) := by decide +kernel
theorem dX3_init_46 : decode cX3_init 46 = .ok (.bipush 6, 2) := by decide +kernel
theorem dX3_init_48 : decode cX3_init 48 = .ok (.newarray .int, 2) := by decide +kernel
theorem dX3_init_50 : decode cX3_init 50 = .ok (.putfield 34, 3) := by decide +kernel
theorem dX3_init_53 : decode cX3_init 53 = .ok (.aload_n 0, 1) := by decide +kernel
theorem dX3_init_54 : decode cX3_init 54 = .ok (.bipush 6, 2) := by decide +kernel
theorem dX3_init_56 : decode cX3_init 56 = .ok (.newarray .int, 2) := by decide +kernel
theorem dX3_init_58 : decode cX3_init 58 = .ok (.putfield 38, 3) := by decide +kernel
theorem dX3_init_61 : decode cX3_init 61 = .ok (.aload_n 0, 1) := by decide +kernel
theorem dX3_init_62 : decode cX3_init 62 = .ok (.bipush 6, 2) := by decide +kernel
theorem dX3_init_64 : decode cX3_init 64 = .ok (.newarray .int, 2) := by decide +kernel
theorem dX3_init_66 : decode cX3_init 66 = .ok (.putfield 41, 3) := by decide +kernel
theorem dX3_init_69 : decode cX3_init 69 = .ok (.aload_n 0, 1) := by decide +kernel
theorem dX3_init_70 : decode cX3_init 70 = .ok (.getfield 12, 3) := by decide +kernel
theorem dX3_init_73 : decode cX3_init 73 = .ok (.iconst 4, 1) := by decide +kernel
theorem dX3_init_74 : decode cX3_init 74 = .ok (.iconst 4, 1) := by decide +kernel
theorem dX3_init_75 : decode cX3_init 75 = .ok (.invokevirtual 44, 3) := by decide +kernel
theorem dX3_init_78 : decode cX3_init 78 = .ok (.aload_n 0, 1) := by decide +kernel
theorem dX3_init_79 : decode cX3_init 79 = .ok (.invokevirtual 48, 3) := by decide +kernel
theorem dX3_init_82 : decode cX3_init 82 = .ok (.return_, 1) := by decide +kernel
set_option maxRecDepth 20000 in
theorem ggX3_board_X0_clear : GoodIn wsX3_board wsX0_clear := goodIn_r _ [7, 8, 9, 10, 11, 12, 13, 14, 15, 16, 17, 18, 19, 20, 21, 22, 23, 24, 45, 46, 47, 48, 49] (by decide +kernel) (by decide +kernel)
set_option maxRecDepth 20000 in
theorem gX3_board_X0_clear : GoodIn wsX3_board (wsV RX3 44 RX0 yX0_clear wsX0_clear) := goodIn_app (goodIn_of _ (by decide +kernel)) ggX3_board_X0_clear
set_option maxRecDepth 20000 in
theorem ggX3_board_X3_forgetKinds : GoodIn wsX3_board wsX3_forgetKinds := goodIn_r _ [28, 29, 30, 37, 38, 39, 40, 41, 42, 43, 44] (by decide +kernel) (by decide +kernel)
set_option maxRecDepth 20000 in
theorem gX3_board_X3_forgetKinds : GoodIn wsX3_board (wsV RX3 48 RX3 yX3_forgetKinds wsX3_forgetKinds) := goodIn_app (goodIn_of _ (by decide +kernel)) ggX3_board_X3_forgetKinds
set_option maxRecDepth 20000 in
theorem ggX3_board_X1_forget : GoodIn wsX3_board wsX1_forget := goodIn_r _ [35, 36, 50, 51, 52, 53, 54] (by decide +kernel) (by decide +kernel)
set_option maxRecDepth 20000 in
theorem gX3_board_X1_forget : GoodIn wsX3_board (wsV RX3 51 RX1 yX1_forget wsX1_forget) := goodIn_app (goodIn_of _ (by decide +kernel)) ggX3_board_X1_forget
theorem dX3_board_0 : decode cX3_board 0 = .ok (.iload_n 1, 1) := by decide +kernel
theorem dX3_board_1 : decode cX3_board 1 = .ok (.iconst 1, 1) := by decide +kernel
theorem dX3_board_2 : decode cX3_board 2 = .ok (.if_icmp .lt 20, 3) := by decide +kernel
theorem dX3_board_5 : decode cX3_board 5 = .ok (.iload_n 1, 1) := by decide +kernel
theorem dX3_board_6 : decode cX3_board 6 = .ok (.bipush 8, 2) := by decide +kernel
theorem dX3_board_8 : decode cX3_board 8 = .ok (.if_icmp .gt 14, 3) := by decide +kernel
theorem dX3_board_11 : decode cX3_board 11 = .ok (.iload_n 2, 1) := by decide +kernel
theorem dX3_board_12 : decode cX3_board 12 = .ok (.iconst 1, 1) := by decide +kernel
theorem dX3_board_13 : decode cX3_board 13 = .ok (.if_icmp .lt 9, 3) := by decide +kernel
theorem dX3_board_16 : decode cX3_board 16 = .ok (.iload_n 2, 1) := by decide +kernel
theorem dX3_board_17 : decode cX3_board 17 = .ok (.bipush 8, 2) := by decide +kernel
theorem dX3_board_19 : decode cX3_board 19 = .ok (.if_icmp .le 5, 3) := by decide +kernel
theorem dX3_board_22 : decode cX3_board 22 = .ok (.iconst (-1), 1) := by decide +kernel
theorem dX3_board_23 : decode cX3_board 23 = .ok (.ireturn, 1) := by decide +kernel
theorem dX3_board_24 : decode cX3_board 24 = .ok (.aload_n 0, 1) := by decide +kernel
theorem dX3_board_25 : decode cX3_board 25 = .ok (.getfield 12, 3) := by decide +kernel
theorem dX3_board_28 : decode cX3_board 28 = .ok (.iload_n 1, 1) := by decide +kernel
theorem dX3_board_29 : decode cX3_board 29 = .ok (.iload_n 2, 1) := by decide +kernel
theorem dX3_board_30 : decode cX3_board 30 = .ok (.invokevirtual 44, 3) := by decide +kernel
theorem dX3_board_33 : decode cX3_board 33 = .ok (.aload_n 0, 1) := by decide +kernel
theorem dX3_board_34 : decode cX3_board 34 = .ok (.invokevirtual 48, 3) := by decide +kernel
theorem dX3_board_37 : decode cX3_board 37 = .ok (.aload_n 0, 1) := by decide +kernel
theorem dX3_board_38 : decode cX3_board 38 = .ok (.getfield 19, 3) := by decide +kernel
theorem dX3_board_41 : decode cX3_board 41 = .ok (.invokevirtual 51, 3) := by decide +kernel
theorem dX3_board_44 : decode cX3_board 44 = .ok (.iload_n 1, 1) := by decide +kernel
theorem dX3_board_45 : decode cX3_board 45 = .ok (.iload_n 2, 1) := by decide +kernel
theorem dX3_board_46 : decode cX3_board 46 = .ok (.imul, 1) := by decide +kernel
theorem dX3_board_47 : decode cX3_board 47 = .ok (.ireturn, 1) := by decide +kernel
set_option maxRecDepth 20000 in
theorem ggX3_set_X0_has : GoodIn wsX3_set wsX0_has := goodIn_r _ [7, 8, 9, 46, 47, 48, 49, 50] (by decide +kernel) (by decide +kernel)
set_option maxRecDepth 20000 in
theorem gX3_set_X0_has : GoodIn wsX3_set (wsV RX3 54 RX0 yX0_has wsX0_has) := goodIn_app (goodIn_of _ (by decide +kernel)) ggX3_set_X0_has
set_option maxRecDepth 20000 in
theorem ggX3_set_X3_isLandOrSea : GoodIn wsX3_set wsX3_isLandOrSea := goodIn_r _ [13, 14, 15, 12, 16] (by decide +kernel) (by decide +kernel)
set_option maxRecDepth 20000 in
theorem gX3_set_X3_isLandOrSea : GoodIn wsX3_set (va_wsS RX3 58 yX3_isLandOrSea wsX3_isLandOrSea) := goodIn_app (goodIn_of _ (by decide +kernel)) ggX3_set_X3_isLandOrSea
set_option maxRecDepth 20000 in
theorem ggX3_set_X3_cellAt : GoodIn wsX3_set wsX3_cellAt := goodIn_r _ [19] (by decide +kernel) (by decide +kernel)
set_option maxRecDepth 20000 in
theorem gX3_set_X3_cellAt : GoodIn wsX3_set (va_wsS RX3 62 yX3_cellAt wsX3_cellAt) := goodIn_app (goodIn_of _ (by decide +kernel)) ggX3_set_X3_cellAt
set_option maxRecDepth 20000 in
theorem ggX3_set_X0_landOf : GoodIn wsX3_set wsX0_landOf := goodIn_r _ [23, 24, 25, 12, 26, 46, 47, 48, 49, 50] (by decide +kernel) (by decide +kernel)
set_option maxRecDepth 20000 in
theorem gX3_set_X0_landOf : GoodIn wsX3_set (wsV RX3 66 RX0 yX0_landOf wsX0_landOf) := goodIn_app (goodIn_of _ (by decide +kernel)) ggX3_set_X0_landOf
set_option maxRecDepth 20000 in
theorem ggX3_set_X0_put : GoodIn wsX3_set wsX0_put := goodIn_r _ [30, 24, 31, 25, 12, 26, 46, 47, 48, 49, 50] (by decide +kernel) (by decide +kernel)
set_option maxRecDepth 20000 in
theorem gX3_set_X0_put : GoodIn wsX3_set (wsV RX3 70 RX0 yX0_put wsX0_put) := goodIn_app (goodIn_of _ (by decide +kernel)) ggX3_set_X0_put
set_option maxRecDepth 20000 in
theorem ggX3_set_X1_forget : GoodIn wsX3_set wsX1_forget := goodIn_r _ [36, 37, 51, 52, 53, 54, 55] (by decide +kernel) (by decide +kernel)
set_option maxRecDepth 20000 in
theorem gX3_set_X1_forget : GoodIn wsX3_set (wsV RX3 51 RX1 yX1_forget wsX1_forget) := goodIn_app (goodIn_of _ (by decide +kernel)) ggX3_set_X1_forget
theorem dX3_set_0 : decode cX3_set 0 = .ok (.aload_n 0, 1) := by decide +kernel
theorem dX3_set_1 : decode cX3_set 1 = .ok (.getfield 12, 3) := by decide +kernel
theorem dX3_set_4 : decode cX3_set 4 = .ok (.iload_n 1, 1) := by decide +kernel
theorem dX3_set_5 : decode cX3_set 5 = .ok (.iload_n 2, 1) := by decide +kernel
theorem dX3_set_6 : decode cX3_set 6 = .ok (.invokevirtual 54, 3) := by decide +kernel
theorem dX3_set_9 : decode cX3_set 9 = .ok (.ifCond .eq 10, 3) := by decide +kernel
theorem dX3_set_12 : decode cX3_set 12 = .ok (.iload_n 3, 1) := by decide +kernel
theorem dX3_set_13 : decode cX3_set 13 = .ok (.invokestatic 58, 3) := by decide +kernel
theorem dX3_set_16 : decode cX3_set 16 = .ok (.ifCond .ne 5, 3) := by decide +kernel
theorem dX3_set_19 : decode cX3_set 19 = .ok (.iconst (-1), 1) := by decide +kernel
theorem dX3_set_20 : decode cX3_set 20 = .ok (.ireturn, 1) := by decide +kernel
theorem dX3_set_21 : decode cX3_set 21 = .ok (.aload_n 0, 1) := by decide +kernel
theorem dX3_set_22 : decode cX3_set 22 = .ok (.getfield 12, 3) := by decide +kernel
theorem dX3_set_25 : decode cX3_set 25 = .ok (.iload_n 1, 1) := by decide +kernel
theorem dX3_set_26 : decode cX3_set 26 = .ok (.iload_n 2, 1) := by decide +kernel
theorem dX3_set_27 : decode cX3_set 27 = .ok (.invokestatic 62, 3) := by decide +kernel
theorem dX3_set_30 : decode cX3_set 30 = .ok (.invokevirtual 66, 3) := by decide +kernel
theorem dX3_set_33 : decode cX3_set 33 = .ok (.istore 4, 2) := by decide +kernel
theorem dX3_set_35 : decode cX3_set 35 = .ok (.aload_n 0, 1) := by decide +kernel
theorem dX3_set_36 : decode cX3_set 36 = .ok (.getfield 12, 3) := by decide +kernel
theorem dX3_set_39 : decode cX3_set 39 = .ok (.iload_n 1, 1) := by decide +kernel
theorem dX3_set_40 : decode cX3_set 40 = .ok (.iload_n 2, 1) := by decide +kernel
theorem dX3_set_41 : decode cX3_set 41 = .ok (.invokestatic 62, 3) := by decide +kernel
theorem dX3_set_44 : decode cX3_set 44 = .ok (.iload_n 3, 1) := by decide +kernel
theorem dX3_set_45 : decode cX3_set 45 = .ok (.invokevirtual 70, 3) := by decide +kernel
theorem dX3_set_48 : decode cX3_set 48 = .ok (.aload_n 0, 1) := by decide +kernel
theorem dX3_set_49 : decode cX3_set 49 = .ok (.getfield 19, 3) := by decide +kernel
theorem dX3_set_52 : decode cX3_set 52 = .ok (.invokevirtual 51, 3) := by decide +kernel
theorem dX3_set_55 : decode cX3_set 55 = .ok (.iload 4, 2) := by decide +kernel
theorem dX3_set_57 : decode cX3_set 57 = .ok (.ireturn, 1) := by decide +kernel
set_option maxRecDepth 20000 in
theorem ggX3_at_X0_has : GoodIn wsX3_at wsX0_has := goodIn_r _ [6, 7, 8, 28, 29, 30, 31, 32] (by decide +kernel) (by decide +kernel)
set_option maxRecDepth 20000 in
theorem gX3_at_X0_has : GoodIn wsX3_at (wsV RX3 54 RX0 yX0_has wsX0_has) := goodIn_app (goodIn_of _ (by decide +kernel)) ggX3_at_X0_has
set_option maxRecDepth 20000 in
theorem ggX3_at_X3_cellAt : GoodIn wsX3_at wsX3_cellAt := goodIn_r _ [12] (by decide +kernel) (by decide +kernel)
set_option maxRecDepth 20000 in
theorem gX3_at_X3_cellAt : GoodIn wsX3_at (va_wsS RX3 62 yX3_cellAt wsX3_cellAt) := goodIn_app (goodIn_of _ (by decide +kernel)) ggX3_at_X3_cellAt
set_option maxRecDepth 20000 in
theorem ggX3_at_X0_landOf : GoodIn wsX3_at wsX0_landOf := goodIn_r _ [16, 17, 18, 11, 19, 28, 29, 30, 31, 32] (by decide +kernel) (by decide +kernel)
set_option maxRecDepth 20000 in
theorem gX3_at_X0_landOf : GoodIn wsX3_at (wsV RX3 66 RX0 yX0_landOf wsX0_landOf) := goodIn_app (goodIn_of _ (by decide +kernel)) ggX3_at_X0_landOf
theorem dX3_at_0 : decode cX3_at 0 = .ok (.aload_n 0, 1) := by decide +kernel
theorem dX3_at_1 : decode cX3_at 1 = .ok (.getfield 12, 3) := by decide +kernel
theorem dX3_at_4 : decode cX3_at 4 = .ok (.iload_n 1, 1) := by decide +kernel
theorem dX3_at_5 : decode cX3_at 5 = .ok (.iload_n 2, 1) := by decide +kernel
theorem dX3_at_6 : decode cX3_at 6 = .ok (.invokevirtual 54, 3) := by decide +kernel
theorem dX3_at_9 : decode cX3_at 9 = .ok (.ifCond .eq 18, 3) := by decide +kernel
theorem dX3_at_12 : decode cX3_at 12 = .ok (.aload_n 0, 1) := by decide +kernel
theorem dX3_at_13 : decode cX3_at 13 = .ok (.getfield 12, 3) := by decide +kernel
theorem dX3_at_16 : decode cX3_at 16 = .ok (.iload_n 1, 1) := by decide +kernel
theorem dX3_at_17 : decode cX3_at 17 = .ok (.iload_n 2, 1) := by decide +kernel
theorem dX3_at_18 : decode cX3_at 18 = .ok (.invokestatic 62, 3) := by decide +kernel
theorem dX3_at_21 : decode cX3_at 21 = .ok (.invokevirtual 66, 3) := by decide +kernel
theorem dX3_at_24 : decode cX3_at 24 = .ok (.goto 4, 3) := by decide +kernel
theorem dX3_at_27 : decode cX3_at 27 = .ok (.iconst (-1), 1) := by decide +kernel
theorem dX3_at_28 : decode cX3_at 28 = .ok (.ireturn, 1) := by decide +kernel
set_option maxRecDepth 20000 in
theorem ggX3_size_X3_isLand : GoodIn wsX3_size wsX3_isLand := goodIn_r _ [5] (by decide +kernel) (by decide +kernel)
set_option maxRecDepth 20000 in
theorem gX3_size_X3_isLand : GoodIn wsX3_size (va_wsS RX3 73 yX3_isLand wsX3_isLand) := goodIn_app (goodIn_of _ (by decide +kernel)) ggX3_size_X3_isLand
set_option maxRecDepth 20000 in
theorem ggX3_size_X0_sizeOf : GoodIn wsX3_size wsX0_sizeOf := goodIn_r _ [10, 11, 12, 13, 9, 14, 15, 3, 4, 5, 16, 17, 18, 19, 20, 21, 22, 31, 32, 33, 34, 35] (by decide +kernel) (by decide +kernel)
set_option maxRecDepth 20000 in
theorem gX3_size_X0_sizeOf : GoodIn wsX3_size (wsV RX3 76 RX0 yX0_sizeOf wsX0_sizeOf) := goodIn_app (goodIn_of _ (by decide +kernel)) ggX3_size_X0_sizeOf
theorem dX3_size_0 : decode cX3_size 0 = .ok (.iload_n 1, 1) := by decide +kernel
theorem dX3_size_1 : decode cX3_size 1 = .ok (.invokestatic 73, 3) := by decide +kernel
theorem dX3_size_4 : decode cX3_size 4 = .ok (.ifCond .eq 14, 3) := by decide +kernel
theorem dX3_size_7 : decode cX3_size 7 = .ok (.aload_n 0, 1) := by decide +kernel
theorem dX3_size_8 : decode cX3_size 8 = .ok (.getfield 12, 3) := by decide +kernel
theorem dX3_size_11 : decode cX3_size 11 = .ok (.iload_n 1, 1) := by decide +kernel
theorem dX3_size_12 : decode cX3_size 12 = .ok (.invokevirtual 76, 3) := by decide +kernel
theorem dX3_size_15 : decode cX3_size 15 = .ok (.goto 4, 3) := by decide +kernel
theorem dX3_size_18 : decode cX3_size 18 = .ok (.iconst (-1), 1) := by decide +kernel
theorem dX3_size_19 : decode cX3_size 19 = .ok (.ireturn, 1) := by decide +kernel
set_option maxRecDepth 20000 in
theorem ggX3_whole_X3_isLand : GoodIn wsX3_whole wsX3_isLand := goodIn_r _ [5] (by decide +kernel) (by decide +kernel)
set_option maxRecDepth 20000 in
theorem gX3_whole_X3_isLand : GoodIn wsX3_whole (va_wsS RX3 73 yX3_isLand wsX3_isLand) := goodIn_app (goodIn_of _ (by decide +kernel)) ggX3_whole_X3_isLand
set_option maxRecDepth 20000 in
theorem ggX3_whole_X0_cellsOf : GoodIn wsX3_whole wsX0_cellsOf := goodIn_r _ [10, 11, 3, 4, 5, 37, 38, 39, 40, 41] (by decide +kernel) (by decide +kernel)
set_option maxRecDepth 20000 in
theorem gX3_whole_X0_cellsOf : GoodIn wsX3_whole (wsV RX3 79 RX0 yX0_cellsOf wsX0_cellsOf) := goodIn_app (goodIn_of _ (by decide +kernel)) ggX3_whole_X0_cellsOf
set_option maxRecDepth 20000 in
theorem ggX3_whole_X3_isWhole : GoodIn wsX3_whole wsX3_isWhole := goodIn_r _ [14, 15, 16, 4, 17, 18, 19, 20, 21, 22, 23, 24, 25] (by decide +kernel) (by decide +kernel)
set_option maxRecDepth 20000 in
theorem gX3_whole_X3_isWhole : GoodIn wsX3_whole (va_wsS RX3 83 yX3_isWhole wsX3_isWhole) := goodIn_app (goodIn_of _ (by decide +kernel)) ggX3_whole_X3_isWhole
set_option maxRecDepth 20000 in
theorem ggX3_whole_X3_answer : GoodIn wsX3_whole wsX3_answer := goodIn_r _ [28] (by decide +kernel) (by decide +kernel)
set_option maxRecDepth 20000 in
theorem gX3_whole_X3_answer : GoodIn wsX3_whole (va_wsS RX3 87 yX3_answer wsX3_answer) := goodIn_app (goodIn_of _ (by decide +kernel)) ggX3_whole_X3_answer
theorem dX3_whole_0 : decode cX3_whole 0 = .ok (.iload_n 1, 1) := by decide +kernel
theorem dX3_whole_1 : decode cX3_whole 1 = .ok (.invokestatic 73, 3) := by decide +kernel
theorem dX3_whole_4 : decode cX3_whole 4 = .ok (.ifCond .eq 20, 3) := by decide +kernel
theorem dX3_whole_7 : decode cX3_whole 7 = .ok (.aload_n 0, 1) := by decide +kernel
theorem dX3_whole_8 : decode cX3_whole 8 = .ok (.getfield 12, 3) := by decide +kernel
theorem dX3_whole_11 : decode cX3_whole 11 = .ok (.iload_n 1, 1) := by decide +kernel
theorem dX3_whole_12 : decode cX3_whole 12 = .ok (.invokevirtual 79, 3) := by decide +kernel
theorem dX3_whole_15 : decode cX3_whole 15 = .ok (.invokestatic 83, 3) := by decide +kernel
theorem dX3_whole_18 : decode cX3_whole 18 = .ok (.invokestatic 87, 3) := by decide +kernel
theorem dX3_whole_21 : decode cX3_whole 21 = .ok (.goto 4, 3) := by decide +kernel
theorem dX3_whole_24 : decode cX3_whole 24 = .ok (.iconst (-1), 1) := by decide +kernel
theorem dX3_whole_25 : decode cX3_whole 25 = .ok (.ireturn, 1) := by decide +kernel
set_option maxRecDepth 20000 in
theorem ggX3_touch_X3_isLandOrSea : GoodIn wsX3_touch wsX3_isLandOrSea := goodIn_r _ [5, 6, 7, 4, 8] (by decide +kernel) (by decide +kernel)
set_option maxRecDepth 20000 in
theorem gX3_touch_X3_isLandOrSea : GoodIn wsX3_touch (va_wsS RX3 58 yX3_isLandOrSea wsX3_isLandOrSea) := goodIn_app (goodIn_of _ (by decide +kernel)) ggX3_touch_X3_isLandOrSea
set_option maxRecDepth 20000 in
theorem ggX3_touch_X0_cellsOf : GoodIn wsX3_touch wsX0_cellsOf := goodIn_r _ [13, 14, 7, 4, 8, 48, 49, 50, 51, 52] (by decide +kernel) (by decide +kernel)
set_option maxRecDepth 20000 in
theorem gX3_touch_X0_cellsOf : GoodIn wsX3_touch (wsV RX3 79 RX0 yX0_cellsOf wsX0_cellsOf) := goodIn_app (goodIn_of _ (by decide +kernel)) ggX3_touch_X0_cellsOf
set_option maxRecDepth 20000 in
theorem ggX3_touch_X0_isAtSea : GoodIn wsX3_touch wsX0_isAtSea := goodIn_r _ [18, 19, 20, 21, 22, 23, 24, 12, 25, 14, 26, 4, 27, 28, 29, 30, 31, 32, 33, 34, 35, 48, 49, 50, 51, 52] (by decide +kernel) (by decide +kernel)
set_option maxRecDepth 20000 in
theorem gX3_touch_X0_isAtSea : GoodIn wsX3_touch (wsV RX3 91 RX0 yX0_isAtSea wsX0_isAtSea) := goodIn_app (goodIn_of _ (by decide +kernel)) ggX3_touch_X0_isAtSea
set_option maxRecDepth 20000 in
theorem ggX3_touch_X3_answer : GoodIn wsX3_touch wsX3_answer := goodIn_r _ [38] (by decide +kernel) (by decide +kernel)
set_option maxRecDepth 20000 in
theorem gX3_touch_X3_answer : GoodIn wsX3_touch (va_wsS RX3 87 yX3_answer wsX3_answer) := goodIn_app (goodIn_of _ (by decide +kernel)) ggX3_touch_X3_answer
set_option maxRecDepth 20000 in
theorem ggX3_touch_X3_around : GoodIn wsX3_touch wsX3_around := goodIn_r _ [27, 28, 29, 4, 30, 31, 32, 33, 34, 35] (by decide +kernel) (by decide +kernel)
set_option maxRecDepth 20000 in
theorem gX3_touch_X3_around : GoodIn wsX3_touch (va_wsS RX3 94 yX3_around wsX3_around) := goodIn_app (goodIn_of _ (by decide +kernel)) ggX3_touch_X3_around
theorem dX3_touch_0 : decode cX3_touch 0 = .ok (.iload_n 1, 1) := by decide +kernel
theorem dX3_touch_1 : decode cX3_touch 1 = .ok (.invokestatic 58, 3) := by decide +kernel
theorem dX3_touch_4 : decode cX3_touch 4 = .ok (.ifCond .eq 15, 3) := by decide +kernel
theorem dX3_touch_7 : decode cX3_touch 7 = .ok (.iload_n 2, 1) := by decide +kernel
theorem dX3_touch_8 : decode cX3_touch 8 = .ok (.invokestatic 58, 3) := by decide +kernel
theorem dX3_touch_11 : decode cX3_touch 11 = .ok (.ifCond .eq 8, 3) := by decide +kernel
theorem dX3_touch_14 : decode cX3_touch 14 = .ok (.iload_n 1, 1) := by decide +kernel
theorem dX3_touch_15 : decode cX3_touch 15 = .ok (.iload_n 2, 1) := by decide +kernel
theorem dX3_touch_16 : decode cX3_touch 16 = .ok (.if_icmp .ne 5, 3) := by decide +kernel
theorem dX3_touch_19 : decode cX3_touch 19 = .ok (.iconst (-1), 1) := by decide +kernel
theorem dX3_touch_20 : decode cX3_touch 20 = .ok (.ireturn, 1) := by decide +kernel
theorem dX3_touch_21 : decode cX3_touch 21 = .ok (.iload_n 1, 1) := by decide +kernel
theorem dX3_touch_22 : decode cX3_touch 22 = .ok (.bipush (-4), 2) := by decide +kernel
theorem dX3_touch_24 : decode cX3_touch 24 = .ok (.if_icmp .ne 22, 3) := by decide +kernel
theorem dX3_touch_27 : decode cX3_touch 27 = .ok (.aload_n 0, 1) := by decide +kernel
theorem dX3_touch_28 : decode cX3_touch 28 = .ok (.getfield 12, 3) := by decide +kernel
theorem dX3_touch_31 : decode cX3_touch 31 = .ok (.aload_n 0, 1) := by decide +kernel
theorem dX3_touch_32 : decode cX3_touch 32 = .ok (.getfield 12, 3) := by decide +kernel
theorem dX3_touch_35 : decode cX3_touch 35 = .ok (.iload_n 2, 1) := by decide +kernel
theorem dX3_touch_36 : decode cX3_touch 36 = .ok (.invokevirtual 79, 3) := by decide +kernel
theorem dX3_touch_39 : decode cX3_touch 39 = .ok (.invokevirtual 91, 3) := by decide +kernel
theorem dX3_touch_42 : decode cX3_touch 42 = .ok (.invokestatic 87, 3) := by decide +kernel
theorem dX3_touch_45 : decode cX3_touch 45 = .ok (.ireturn, 1) := by decide +kernel
theorem dX3_touch_46 : decode cX3_touch 46 = .ok (.iload_n 2, 1) := by decide +kernel
theorem dX3_touch_47 : decode cX3_touch 47 = .ok (.bipush (-4), 2) := by decide +kernel
theorem dX3_touch_49 : decode cX3_touch 49 = .ok (.if_icmp .ne 22, 3) := by decide +kernel
theorem dX3_touch_52 : decode cX3_touch 52 = .ok (.aload_n 0, 1) := by decide +kernel
theorem dX3_touch_53 : decode cX3_touch 53 = .ok (.getfield 12, 3) := by decide +kernel
theorem dX3_touch_56 : decode cX3_touch 56 = .ok (.aload_n 0, 1) := by decide +kernel
theorem dX3_touch_57 : decode cX3_touch 57 = .ok (.getfield 12, 3) := by decide +kernel
theorem dX3_touch_60 : decode cX3_touch 60 = .ok (.iload_n 1, 1) := by decide +kernel
theorem dX3_touch_61 : decode cX3_touch 61 = .ok (.invokevirtual 79, 3) := by decide +kernel
theorem dX3_touch_64 : decode cX3_touch 64 = .ok (.invokevirtual 91, 3) := by decide +kernel
theorem dX3_touch_67 : decode cX3_touch 67 = .ok (.invokestatic 87, 3) := by decide +kernel
theorem dX3_touch_70 : decode cX3_touch 70 = .ok (.ireturn, 1) := by decide +kernel
theorem dX3_touch_71 : decode cX3_touch 71 = .ok (.aload_n 0, 1) := by decide +kernel
theorem dX3_touch_72 : decode cX3_touch 72 = .ok (.getfield 12, 3) := by decide +kernel
theorem dX3_touch_75 : decode cX3_touch 75 = .ok (.iload_n 1, 1) := by decide +kernel
theorem dX3_touch_76 : decode cX3_touch 76 = .ok (.invokevirtual 79, 3) := by decide +kernel
theorem dX3_touch_79 : decode cX3_touch 79 = .ok (.invokestatic 94, 3) := by decide +kernel
theorem dX3_touch_82 : decode cX3_touch 82 = .ok (.aload_n 0, 1) := by decide +kernel
theorem dX3_touch_83 : decode cX3_touch 83 = .ok (.getfield 12, 3) := by decide +kernel
theorem dX3_touch_86 : decode cX3_touch 86 = .ok (.iload_n 2, 1) := by decide +kernel
theorem dX3_touch_87 : decode cX3_touch 87 = .ok (.invokevirtual 79, 3) := by decide +kernel
theorem dX3_touch_90 : decode cX3_touch 90 = .ok (.land, 1) := by decide +kernel
theorem dX3_touch_91 : decode cX3_touch 91 = .ok (.lconst 0, 1) := by decide +kernel
theorem dX3_touch_92 : decode cX3_touch 92 = .ok (.lcmp, 1) := by decide +kernel
theorem dX3_touch_93 : decode cX3_touch 93 = .ok (.ifCond .eq 7, 3) := by decide +kernel
theorem dX3_touch_96 : decode cX3_touch 96 = .ok (.iconst 1, 1) := by decide +kernel
theorem dX3_touch_97 : decode cX3_touch 97 = .ok (.goto 4, 3) := by decide +kernel
theorem dX3_touch_100 : decode cX3_touch 100 = .ok (.iconst 0, 1) := by decide +kernel
theorem dX3_touch_101 : decode cX3_touch 101 = .ok (.invokestatic 87, 3) := by decide +kernel
theorem dX3_touch_104 : decode cX3_touch 104 = .ok (.ireturn, 1) := by decide +kernel
set_option maxRecDepth 20000 in
theorem ggX3_kind_X3_isLand : GoodIn wsX3_kind wsX3_isLand := goodIn_r _ [7] (by decide +kernel) (by decide +kernel)
set_option maxRecDepth 20000 in
theorem gX3_kind_X3_isLand : GoodIn wsX3_kind (va_wsS RX3 73 yX3_isLand wsX3_isLand) := goodIn_app (goodIn_of _ (by decide +kernel)) ggX3_kind_X3_isLand
set_option maxRecDepth 20000 in
theorem ggX3_kind_X0_has : GoodIn wsX3_kind wsX0_has := goodIn_r _ [12, 13, 14, 33, 34, 35, 36, 37] (by decide +kernel) (by decide +kernel)
set_option maxRecDepth 20000 in
theorem gX3_kind_X0_has : GoodIn wsX3_kind (wsV RX3 54 RX0 yX0_has wsX0_has) := goodIn_app (goodIn_of _ (by decide +kernel)) ggX3_kind_X0_has
set_option maxRecDepth 20000 in
theorem ggX3_kind_X3_cellAt : GoodIn wsX3_kind wsX3_cellAt := goodIn_r _ [17] (by decide +kernel) (by decide +kernel)
set_option maxRecDepth 20000 in
theorem gX3_kind_X3_cellAt : GoodIn wsX3_kind (va_wsS RX3 62 yX3_cellAt wsX3_cellAt) := goodIn_app (goodIn_of _ (by decide +kernel)) ggX3_kind_X3_cellAt
set_option maxRecDepth 20000 in
theorem ggX3_kind_X0_landOf : GoodIn wsX3_kind wsX0_landOf := goodIn_r _ [21, 22, 23, 6, 24, 33, 34, 35, 36, 37] (by decide +kernel) (by decide +kernel)
set_option maxRecDepth 20000 in
theorem gX3_kind_X0_landOf : GoodIn wsX3_kind (wsV RX3 66 RX0 yX0_landOf wsX0_landOf) := goodIn_app (goodIn_of _ (by decide +kernel)) ggX3_kind_X0_landOf
theorem dX3_kind_0 : decode cX3_kind 0 = .ok (.iload_n 1, 1) := by decide +kernel
theorem dX3_kind_1 : decode cX3_kind 1 = .ok (.invokestatic 73, 3) := by decide +kernel
theorem dX3_kind_4 : decode cX3_kind 4 = .ok (.ifCond .eq 29, 3) := by decide +kernel
theorem dX3_kind_7 : decode cX3_kind 7 = .ok (.iload_n 2, 1) := by decide +kernel
theorem dX3_kind_8 : decode cX3_kind 8 = .ok (.ifCond .lt 25, 3) := by decide +kernel
theorem dX3_kind_11 : decode cX3_kind 11 = .ok (.iload_n 2, 1) := by decide +kernel
theorem dX3_kind_12 : decode cX3_kind 12 = .ok (.iconst 2, 1) := by decide +kernel
theorem dX3_kind_13 : decode cX3_kind 13 = .ok (.if_icmp .gt 20, 3) := by decide +kernel
theorem dX3_kind_16 : decode cX3_kind 16 = .ok (.iload_n 2, 1) := by decide +kernel
theorem dX3_kind_17 : decode cX3_kind 17 = .ok (.ifCond .eq 18, 3) := by decide +kernel
theorem dX3_kind_20 : decode cX3_kind 20 = .ok (.aload_n 0, 1) := by decide +kernel
theorem dX3_kind_21 : decode cX3_kind 21 = .ok (.getfield 12, 3) := by decide +kernel
theorem dX3_kind_24 : decode cX3_kind 24 = .ok (.iload_n 3, 1) := by decide +kernel
theorem dX3_kind_25 : decode cX3_kind 25 = .ok (.iload 4, 2) := by decide +kernel
theorem dX3_kind_27 : decode cX3_kind 27 = .ok (.invokevirtual 54, 3) := by decide +kernel
theorem dX3_kind_30 : decode cX3_kind 30 = .ok (.ifCond .ne 5, 3) := by decide +kernel
theorem dX3_kind_33 : decode cX3_kind 33 = .ok (.iconst (-1), 1) := by decide +kernel
theorem dX3_kind_34 : decode cX3_kind 34 = .ok (.ireturn, 1) := by decide +kernel
theorem dX3_kind_35 : decode cX3_kind 35 = .ok (.iload_n 2, 1) := by decide +kernel
theorem dX3_kind_36 : decode cX3_kind 36 = .ok (.ifCond .eq 23, 3) := by decide +kernel
theorem dX3_kind_39 : decode cX3_kind 39 = .ok (.aload_n 0, 1) := by decide +kernel
theorem dX3_kind_40 : decode cX3_kind 40 = .ok (.getfield 12, 3) := by decide +kernel
theorem dX3_kind_43 : decode cX3_kind 43 = .ok (.iload_n 3, 1) := by decide +kernel
theorem dX3_kind_44 : decode cX3_kind 44 = .ok (.iload 4, 2) := by decide +kernel
theorem dX3_kind_46 : decode cX3_kind 46 = .ok (.invokestatic 62, 3) := by decide +kernel
theorem dX3_kind_49 : decode cX3_kind 49 = .ok (.invokevirtual 66, 3) := by decide +kernel
theorem dX3_kind_52 : decode cX3_kind 52 = .ok (.iload_n 1, 1) := by decide +kernel
theorem dX3_kind_53 : decode cX3_kind 53 = .ok (.if_icmp .eq 6, 3) := by decide +kernel
theorem dX3_kind_56 : decode cX3_kind 56 = .ok (.bipush (-2), 2) := by decide +kernel
theorem dX3_kind_58 : decode cX3_kind 58 = .ok (.ireturn, 1) := by decide +kernel
theorem dX3_kind_59 : decode cX3_kind 59 = .ok (.aload_n 0, 1) := by decide +kernel
theorem dX3_kind_60 : decode cX3_kind 60 = .ok (.getfield 34, 3) := by decide +kernel
theorem dX3_kind_63 : decode cX3_kind 63 = .ok (.iload_n 1, 1) := by decide +kernel
theorem dX3_kind_64 : decode cX3_kind 64 = .ok (.iload_n 2, 1) := by decide +kernel
theorem dX3_kind_65 : decode cX3_kind 65 = .ok (.iastore, 1) := by decide +kernel
theorem dX3_kind_66 : decode cX3_kind 66 = .ok (.aload_n 0, 1) := by decide +kernel
theorem dX3_kind_67 : decode cX3_kind 67 = .ok (.getfield 38, 3) := by decide +kernel
theorem dX3_kind_70 : decode cX3_kind 70 = .ok (.iload_n 1, 1) := by decide +kernel
theorem dX3_kind_71 : decode cX3_kind 71 = .ok (.iload_n 2, 1) := by decide +kernel
theorem dX3_kind_72 : decode cX3_kind 72 = .ok (.ifCond .ne 8, 3) := by decide +kernel
theorem dX3_kind_75 : decode cX3_kind 75 = .ok (.bipush (-9), 2) := by decide +kernel
theorem dX3_kind_77 : decode cX3_kind 77 = .ok (.goto 9, 3) := by decide +kernel
theorem dX3_kind_80 : decode cX3_kind 80 = .ok (.iload_n 3, 1) := by decide +kernel
theorem dX3_kind_81 : decode cX3_kind 81 = .ok (.iload 4, 2) := by decide +kernel
theorem dX3_kind_83 : decode cX3_kind 83 = .ok (.invokestatic 62, 3) := by decide +kernel
theorem dX3_kind_86 : decode cX3_kind 86 = .ok (.iastore, 1) := by decide +kernel
theorem dX3_kind_87 : decode cX3_kind 87 = .ok (.iconst 1, 1) := by decide +kernel
theorem dX3_kind_88 : decode cX3_kind 88 = .ok (.ireturn, 1) := by decide +kernel
set_option maxRecDepth 20000 in
theorem ggX3_about_X3_isLand : GoodIn wsX3_about wsX3_isLand := goodIn_r _ [7] (by decide +kernel) (by decide +kernel)
set_option maxRecDepth 20000 in
theorem gX3_about_X3_isLand : GoodIn wsX3_about (va_wsS RX3 73 yX3_isLand wsX3_isLand) := goodIn_app (goodIn_of _ (by decide +kernel)) ggX3_about_X3_isLand
set_option maxRecDepth 20000 in
theorem ggX3_about_X3_columnOf : GoodIn wsX3_about wsX3_columnOf := goodIn_r _ [10] (by decide +kernel) (by decide +kernel)
set_option maxRecDepth 20000 in
theorem gX3_about_X3_columnOf : GoodIn wsX3_about (va_wsS RX3 98 yX3_columnOf wsX3_columnOf) := goodIn_app (goodIn_of _ (by decide +kernel)) ggX3_about_X3_columnOf
set_option maxRecDepth 20000 in
theorem ggX3_about_X3_rowOf : GoodIn wsX3_about wsX3_rowOf := goodIn_r _ [13] (by decide +kernel) (by decide +kernel)
set_option maxRecDepth 20000 in
theorem gX3_about_X3_rowOf : GoodIn wsX3_about (va_wsS RX3 101 yX3_rowOf wsX3_rowOf) := goodIn_app (goodIn_of _ (by decide +kernel)) ggX3_about_X3_rowOf
theorem dX3_about_0 : decode cX3_about 0 = .ok (.iload_n 1, 1) := by decide +kernel
theorem dX3_about_1 : decode cX3_about 1 = .ok (.invokestatic 73, 3) := by decide +kernel
theorem dX3_about_4 : decode cX3_about 4 = .ok (.ifCond .ne 5, 3) := by decide +kernel
theorem dX3_about_7 : decode cX3_about 7 = .ok (.iconst (-1), 1) := by decide +kernel
theorem dX3_about_8 : decode cX3_about 8 = .ok (.ireturn, 1) := by decide +kernel
theorem dX3_about_9 : decode cX3_about 9 = .ok (.iload_n 2, 1) := by decide +kernel
theorem dX3_about_10 : decode cX3_about 10 = .ok (.tableswitch 96 0 3 #[30, 37, 63, 89], 30) := by decide +kernel
theorem dX3_about_40 : decode cX3_about 40 = .ok (.aload_n 0, 1) := by decide +kernel
theorem dX3_about_41 : decode cX3_about 41 = .ok (.getfield 34, 3) := by decide +kernel
theorem dX3_about_44 : decode cX3_about 44 = .ok (.iload_n 1, 1) := by decide +kernel
theorem dX3_about_45 : decode cX3_about 45 = .ok (.iaload, 1) := by decide +kernel
theorem dX3_about_46 : decode cX3_about 46 = .ok (.ireturn, 1) := by decide +kernel
theorem dX3_about_47 : decode cX3_about 47 = .ok (.aload_n 0, 1) := by decide +kernel
theorem dX3_about_48 : decode cX3_about 48 = .ok (.getfield 38, 3) := by decide +kernel
theorem dX3_about_51 : decode cX3_about 51 = .ok (.iload_n 1, 1) := by decide +kernel
theorem dX3_about_52 : decode cX3_about 52 = .ok (.iaload, 1) := by decide +kernel
theorem dX3_about_53 : decode cX3_about 53 = .ok (.bipush (-9), 2) := by decide +kernel
theorem dX3_about_55 : decode cX3_about 55 = .ok (.if_icmp .ne 8, 3) := by decide +kernel
theorem dX3_about_58 : decode cX3_about 58 = .ok (.bipush (-9), 2) := by decide +kernel
theorem dX3_about_60 : decode cX3_about 60 = .ok (.goto 12, 3) := by decide +kernel
theorem dX3_about_63 : decode cX3_about 63 = .ok (.aload_n 0, 1) := by decide +kernel
theorem dX3_about_64 : decode cX3_about 64 = .ok (.getfield 38, 3) := by decide +kernel
theorem dX3_about_67 : decode cX3_about 67 = .ok (.iload_n 1, 1) := by decide +kernel
theorem dX3_about_68 : decode cX3_about 68 = .ok (.iaload, 1) := by decide +kernel
theorem dX3_about_69 : decode cX3_about 69 = .ok (.invokestatic 98, 3) := by decide +kernel
theorem dX3_about_72 : decode cX3_about 72 = .ok (.ireturn, 1) := by decide +kernel
theorem dX3_about_73 : decode cX3_about 73 = .ok (.aload_n 0, 1) := by decide +kernel
theorem dX3_about_74 : decode cX3_about 74 = .ok (.getfield 38, 3) := by decide +kernel
theorem dX3_about_77 : decode cX3_about 77 = .ok (.iload_n 1, 1) := by decide +kernel
theorem dX3_about_78 : decode cX3_about 78 = .ok (.iaload, 1) := by decide +kernel
theorem dX3_about_79 : decode cX3_about 79 = .ok (.bipush (-9), 2) := by decide +kernel
theorem dX3_about_81 : decode cX3_about 81 = .ok (.if_icmp .ne 8, 3) := by decide +kernel
theorem dX3_about_84 : decode cX3_about 84 = .ok (.bipush (-9), 2) := by decide +kernel
theorem dX3_about_86 : decode cX3_about 86 = .ok (.goto 12, 3) := by decide +kernel
theorem dX3_about_89 : decode cX3_about 89 = .ok (.aload_n 0, 1) := by decide +kernel
theorem dX3_about_90 : decode cX3_about 90 = .ok (.getfield 38, 3) := by decide +kernel
theorem dX3_about_93 : decode cX3_about 93 = .ok (.iload_n 1, 1) := by decide +kernel
theorem dX3_about_94 : decode cX3_about 94 = .ok (.iaload, 1) := by decide +kernel
theorem dX3_about_95 : decode cX3_about 95 = .ok (.invokestatic 101, 3) := by decide +kernel
theorem dX3_about_98 : decode cX3_about 98 = .ok (.ireturn, 1) := by decide +kernel
theorem dX3_about_99 : decode cX3_about 99 = .ok (.aload_n 0, 1) := by decide +kernel
theorem dX3_about_100 : decode cX3_about 100 = .ok (.getfield 41, 3) := by decide +kernel
theorem dX3_about_103 : decode cX3_about 103 = .ok (.iload_n 1, 1) := by decide +kernel
theorem dX3_about_104 : decode cX3_about 104 = .ok (.iaload, 1) := by decide +kernel
theorem dX3_about_105 : decode cX3_about 105 = .ok (.ireturn, 1) := by decide +kernel
theorem dX3_about_106 : decode cX3_about 106 = .ok (.iconst (-1), 1) := by decide +kernel
theorem dX3_about_107 : decode cX3_about 107 = .ok (.ireturn, 1) := by decide +kernel
set_option maxRecDepth 20000 in
theorem ggX3_leaves_X3_at : GoodIn wsX3_leaves wsX3_at := goodIn_r _ [7, 8, 9, 10, 11, 12, 13, 14, 15, 16, 17, 6, 18, 19, 20, 21, 22, 23, 24, 25, 71, 72, 73, 74, 75, 76, 77, 78, 79, 80, 81, 82, 83] (by decide +kernel) (by decide +kernel)
set_option maxRecDepth 20000 in
theorem gX3_leaves_X3_at : GoodIn wsX3_leaves (wsV RX3 104 RX3 yX3_at wsX3_at) := goodIn_app (goodIn_of _ (by decide +kernel)) ggX3_leaves_X3_at
set_option maxRecDepth 20000 in
theorem ggX3_leaves_X3_isLand : GoodIn wsX3_leaves wsX3_isLand := goodIn_r _ [28] (by decide +kernel) (by decide +kernel)
set_option maxRecDepth 20000 in
theorem gX3_leaves_X3_isLand : GoodIn wsX3_leaves (va_wsS RX3 73 yX3_isLand wsX3_isLand) := goodIn_app (goodIn_of _ (by decide +kernel)) ggX3_leaves_X3_isLand
set_option maxRecDepth 20000 in
theorem ggX3_leaves_X3_bodiesAsked : GoodIn wsX3_leaves wsX3_bodiesAsked := goodIn_r _ [31] (by decide +kernel) (by decide +kernel)
set_option maxRecDepth 20000 in
theorem gX3_leaves_X3_bodiesAsked : GoodIn wsX3_leaves (va_wsS RX3 111 yX3_bodiesAsked wsX3_bodiesAsked) := goodIn_app (goodIn_of _ (by decide +kernel)) ggX3_leaves_X3_bodiesAsked
set_option maxRecDepth 20000 in
theorem ggX3_leaves_X3_cellAt : GoodIn wsX3_leaves wsX3_cellAt := goodIn_r _ [18] (by decide +kernel) (by decide +kernel)
set_option maxRecDepth 20000 in
theorem gX3_leaves_X3_cellAt : GoodIn wsX3_leaves (va_wsS RX3 62 yX3_cellAt wsX3_cellAt) := goodIn_app (goodIn_of _ (by decide +kernel)) ggX3_leaves_X3_cellAt
set_option maxRecDepth 20000 in
theorem ggX3_leaves_X3_letsGo : GoodIn wsX3_leaves wsX3_letsGo := goodIn_r _ [35, 8, 36, 37, 2, 26, 27, 6, 28, 38, 39, 40, 12, 41, 23, 42, 24, 25, 43, 44, 45, 46, 47, 48, 49, 50, 51, 52, 53, 54, 55, 56, 57, 58, 59, 60, 61, 62, 63, 64, 65, 66, 67, 71, 72, 73, 74, 75, 76, 77, 78, 79, 80, 81, 82, 83] (by decide +kernel) (by decide +kernel)
set_option maxRecDepth 20000 in
theorem gX3_leaves_X3_letsGo : GoodIn wsX3_leaves (wsV RX3 114 RX3 yX3_letsGo wsX3_letsGo) := goodIn_app (goodIn_of _ (by decide +kernel)) ggX3_leaves_X3_letsGo
set_option maxRecDepth 20000 in
theorem ggX3_leaves_X3_answer : GoodIn wsX3_leaves wsX3_answer := goodIn_r _ [70] (by decide +kernel) (by decide +kernel)
set_option maxRecDepth 20000 in
theorem gX3_leaves_X3_answer : GoodIn wsX3_leaves (va_wsS RX3 87 yX3_answer wsX3_answer) := goodIn_app (goodIn_of _ (by decide +kernel)) ggX3_leaves_X3_answer
theorem dX3_leaves_0 : decode cX3_leaves 0 = .ok (.aload_n 0, 1) := by decide +kernel
theorem dX3_leaves_1 : decode cX3_leaves 1 = .ok (.iload_n 1, 1) := by decide +kernel
theorem dX3_leaves_2 : decode cX3_leaves 2 = .ok (.iload_n 2, 1) := by decide +kernel
theorem dX3_leaves_3 : decode cX3_leaves 3 = .ok (.invokevirtual 104, 3) := by decide +kernel
theorem dX3_leaves_6 : decode cX3_leaves 6 = .ok (.istore_n 3, 1) := by decide +kernel
theorem dX3_leaves_7 : decode cX3_leaves 7 = .ok (.iload_n 3, 1) := by decide +kernel
theorem dX3_leaves_8 : decode cX3_leaves 8 = .ok (.invokestatic 73, 3) := by decide +kernel
theorem dX3_leaves_11 : decode cX3_leaves 11 = .ok (.ifCond .ne 5, 3) := by decide +kernel
theorem dX3_leaves_14 : decode cX3_leaves 14 = .ok (.iconst (-1), 1) := by decide +kernel
theorem dX3_leaves_15 : decode cX3_leaves 15 = .ok (.ireturn, 1) := by decide +kernel
theorem dX3_leaves_16 : decode cX3_leaves 16 = .ok (.aload_n 0, 1) := by decide +kernel
theorem dX3_leaves_17 : decode cX3_leaves 17 = .ok (.dup, 1) := by decide +kernel
theorem dX3_leaves_18 : decode cX3_leaves 18 = .ok (.getfield 107, 3) := by decide +kernel
theorem dX3_leaves_21 : decode cX3_leaves 21 = .ok (.aload_n 0, 1) := by decide +kernel
theorem dX3_leaves_22 : decode cX3_leaves 22 = .ok (.getfield 34, 3) := by decide +kernel
theorem dX3_leaves_25 : decode cX3_leaves 25 = .ok (.iload_n 3, 1) := by decide +kernel
theorem dX3_leaves_26 : decode cX3_leaves 26 = .ok (.iaload, 1) := by decide +kernel
theorem dX3_leaves_27 : decode cX3_leaves 27 = .ok (.invokestatic 111, 3) := by decide +kernel
theorem dX3_leaves_30 : decode cX3_leaves 30 = .ok (.i2l, 1) := by decide +kernel
theorem dX3_leaves_31 : decode cX3_leaves 31 = .ok (.ladd, 1) := by decide +kernel
theorem dX3_leaves_32 : decode cX3_leaves 32 = .ok (.putfield 107, 3) := by decide +kernel
theorem dX3_leaves_35 : decode cX3_leaves 35 = .ok (.aload_n 0, 1) := by decide +kernel
theorem dX3_leaves_36 : decode cX3_leaves 36 = .ok (.iload_n 3, 1) := by decide +kernel
theorem dX3_leaves_37 : decode cX3_leaves 37 = .ok (.iload_n 1, 1) := by decide +kernel
theorem dX3_leaves_38 : decode cX3_leaves 38 = .ok (.iload_n 2, 1) := by decide +kernel
theorem dX3_leaves_39 : decode cX3_leaves 39 = .ok (.invokestatic 62, 3) := by decide +kernel
theorem dX3_leaves_42 : decode cX3_leaves 42 = .ok (.invokevirtual 114, 3) := by decide +kernel
theorem dX3_leaves_45 : decode cX3_leaves 45 = .ok (.invokestatic 87, 3) := by decide +kernel
theorem dX3_leaves_48 : decode cX3_leaves 48 = .ok (.ireturn, 1) := by decide +kernel
set_option maxRecDepth 20000 in
theorem ggX3_may_X0_has : GoodIn wsX3_may wsX0_has := goodIn_r _ [6, 7, 8, 84, 85, 86, 87, 88] (by decide +kernel) (by decide +kernel)
set_option maxRecDepth 20000 in
theorem gX3_may_X0_has : GoodIn wsX3_may (wsV RX3 54 RX0 yX0_has wsX0_has) := goodIn_app (goodIn_of _ (by decide +kernel)) ggX3_may_X0_has
set_option maxRecDepth 20000 in
theorem ggX3_may_X3_isLand : GoodIn wsX3_may wsX3_isLand := goodIn_r _ [12] (by decide +kernel) (by decide +kernel)
set_option maxRecDepth 20000 in
theorem gX3_may_X3_isLand : GoodIn wsX3_may (va_wsS RX3 73 yX3_isLand wsX3_isLand) := goodIn_app (goodIn_of _ (by decide +kernel)) ggX3_may_X3_isLand
set_option maxRecDepth 20000 in
theorem ggX3_may_X3_cellAt : GoodIn wsX3_may wsX3_cellAt := goodIn_r _ [15] (by decide +kernel) (by decide +kernel)
set_option maxRecDepth 20000 in
theorem gX3_may_X3_cellAt : GoodIn wsX3_may (va_wsS RX3 62 yX3_cellAt wsX3_cellAt) := goodIn_app (goodIn_of _ (by decide +kernel)) ggX3_may_X3_cellAt
set_option maxRecDepth 20000 in
theorem ggX3_may_X3_canGo : GoodIn wsX3_may wsX3_canGo := goodIn_r _ [19, 1, 20, 21, 22, 5, 23, 24, 25, 11, 26, 27, 28, 29, 30, 31, 32, 33, 34, 35, 36, 37, 38, 39, 40, 41, 42, 10, 12, 43, 44, 45, 46, 47, 48, 49, 9, 50, 51, 52, 53, 54, 55, 56, 57, 58, 59, 60, 61, 62, 63, 64, 65, 66, 67, 68, 69, 70, 71, 72, 76, 77, 78, 79, 80, 81, 82, 83, 84, 85, 86, 87, 88] (by decide +kernel) (by decide +kernel)
set_option maxRecDepth 20000 in
theorem gX3_may_X3_canGo : GoodIn wsX3_may (wsV RX3 117 RX3 yX3_canGo wsX3_canGo) := goodIn_app (goodIn_of _ (by decide +kernel)) ggX3_may_X3_canGo
set_option maxRecDepth 20000 in
theorem ggX3_may_X3_answer : GoodIn wsX3_may wsX3_answer := goodIn_r _ [75] (by decide +kernel) (by decide +kernel)
set_option maxRecDepth 20000 in
theorem gX3_may_X3_answer : GoodIn wsX3_may (va_wsS RX3 87 yX3_answer wsX3_answer) := goodIn_app (goodIn_of _ (by decide +kernel)) ggX3_may_X3_answer
theorem dX3_may_0 : decode cX3_may 0 = .ok (.aload_n 0, 1) := by decide +kernel
theorem dX3_may_1 : decode cX3_may 1 = .ok (.getfield 12, 3) := by decide +kernel
theorem dX3_may_4 : decode cX3_may 4 = .ok (.iload_n 1, 1) := by decide +kernel
theorem dX3_may_5 : decode cX3_may 5 = .ok (.iload_n 2, 1) := by decide +kernel
theorem dX3_may_6 : decode cX3_may 6 = .ok (.invokevirtual 54, 3) := by decide +kernel
theorem dX3_may_9 : decode cX3_may 9 = .ok (.ifCond .eq 26, 3) := by decide +kernel
theorem dX3_may_12 : decode cX3_may 12 = .ok (.iload_n 3, 1) := by decide +kernel
theorem dX3_may_13 : decode cX3_may 13 = .ok (.invokestatic 73, 3) := by decide +kernel
theorem dX3_may_16 : decode cX3_may 16 = .ok (.ifCond .eq 19, 3) := by decide +kernel
theorem dX3_may_19 : decode cX3_may 19 = .ok (.aload_n 0, 1) := by decide +kernel
theorem dX3_may_20 : decode cX3_may 20 = .ok (.iload_n 1, 1) := by decide +kernel
theorem dX3_may_21 : decode cX3_may 21 = .ok (.iload_n 2, 1) := by decide +kernel
theorem dX3_may_22 : decode cX3_may 22 = .ok (.invokestatic 62, 3) := by decide +kernel
theorem dX3_may_25 : decode cX3_may 25 = .ok (.iload_n 3, 1) := by decide +kernel
theorem dX3_may_26 : decode cX3_may 26 = .ok (.invokevirtual 117, 3) := by decide +kernel
theorem dX3_may_29 : decode cX3_may 29 = .ok (.invokestatic 87, 3) := by decide +kernel
theorem dX3_may_32 : decode cX3_may 32 = .ok (.goto 4, 3) := by decide +kernel
theorem dX3_may_35 : decode cX3_may 35 = .ok (.iconst (-1), 1) := by decide +kernel
theorem dX3_may_36 : decode cX3_may 36 = .ok (.ireturn, 1) := by decide +kernel
set_option maxRecDepth 20000 in
theorem ggX3_move_X0_has : GoodIn wsX3_move wsX0_has := goodIn_r _ [6, 7, 8, 104, 105, 106, 107, 108] (by decide +kernel) (by decide +kernel)
set_option maxRecDepth 20000 in
theorem gX3_move_X0_has : GoodIn wsX3_move (wsV RX3 54 RX0 yX0_has wsX0_has) := goodIn_app (goodIn_of _ (by decide +kernel)) ggX3_move_X0_has
set_option maxRecDepth 20000 in
theorem ggX3_move_X3_isLand : GoodIn wsX3_move wsX3_isLand := goodIn_r _ [12] (by decide +kernel) (by decide +kernel)
set_option maxRecDepth 20000 in
theorem gX3_move_X3_isLand : GoodIn wsX3_move (va_wsS RX3 73 yX3_isLand wsX3_isLand) := goodIn_app (goodIn_of _ (by decide +kernel)) ggX3_move_X3_isLand
set_option maxRecDepth 20000 in
theorem ggX3_move_X3_cellAt : GoodIn wsX3_move wsX3_cellAt := goodIn_r _ [15] (by decide +kernel) (by decide +kernel)
set_option maxRecDepth 20000 in
theorem gX3_move_X3_cellAt : GoodIn wsX3_move (va_wsS RX3 62 yX3_cellAt wsX3_cellAt) := goodIn_app (goodIn_of _ (by decide +kernel)) ggX3_move_X3_cellAt
set_option maxRecDepth 20000 in
theorem ggX3_move_X3_canGo : GoodIn wsX3_move wsX3_canGo := goodIn_r _ [19, 1, 20, 21, 22, 5, 23, 24, 25, 11, 26, 27, 28, 29, 30, 31, 32, 33, 34, 35, 36, 37, 38, 39, 40, 41, 42, 10, 12, 43, 44, 45, 46, 47, 48, 49, 9, 50, 51, 52, 53, 54, 55, 56, 57, 58, 59, 60, 61, 62, 63, 64, 65, 66, 67, 68, 69, 70, 71, 72, 96, 97, 98, 99, 100, 101, 102, 103, 104, 105, 106, 107, 108] (by decide +kernel) (by decide +kernel)
set_option maxRecDepth 20000 in
theorem gX3_move_X3_canGo : GoodIn wsX3_move (wsV RX3 117 RX3 yX3_canGo wsX3_canGo) := goodIn_app (goodIn_of _ (by decide +kernel)) ggX3_move_X3_canGo
set_option maxRecDepth 20000 in
theorem ggX3_move_X0_landOf : GoodIn wsX3_move wsX0_landOf := goodIn_r _ [23, 24, 25, 11, 26, 104, 105, 106, 107, 108] (by decide +kernel) (by decide +kernel)
set_option maxRecDepth 20000 in
theorem gX3_move_X0_landOf : GoodIn wsX3_move (wsV RX3 66 RX0 yX0_landOf wsX0_landOf) := goodIn_app (goodIn_of _ (by decide +kernel)) ggX3_move_X0_landOf
set_option maxRecDepth 20000 in
theorem ggX3_move_X3_go : GoodIn wsX3_move wsX3_go := goodIn_r _ [76, 77, 1, 20, 21, 22, 5, 23, 24, 25, 11, 26, 78, 79, 80, 81, 82, 83, 84, 85, 86, 87, 88, 89, 90, 91, 92, 93, 94, 95, 69, 70, 71, 72, 58, 96, 97, 98, 99, 100, 101, 102, 103, 104, 105, 106, 107, 108, 109, 110, 111, 112, 113] (by decide +kernel) (by decide +kernel)
set_option maxRecDepth 20000 in
theorem gX3_move_X3_go : GoodIn wsX3_move (wsV RX3 120 RX3 yX3_go wsX3_go) := goodIn_app (goodIn_of _ (by decide +kernel)) ggX3_move_X3_go
theorem dX3_move_0 : decode cX3_move 0 = .ok (.aload_n 0, 1) := by decide +kernel
theorem dX3_move_1 : decode cX3_move 1 = .ok (.getfield 12, 3) := by decide +kernel
theorem dX3_move_4 : decode cX3_move 4 = .ok (.iload_n 1, 1) := by decide +kernel
theorem dX3_move_5 : decode cX3_move 5 = .ok (.iload_n 2, 1) := by decide +kernel
theorem dX3_move_6 : decode cX3_move 6 = .ok (.invokevirtual 54, 3) := by decide +kernel
theorem dX3_move_9 : decode cX3_move 9 = .ok (.ifCond .eq 10, 3) := by decide +kernel
theorem dX3_move_12 : decode cX3_move 12 = .ok (.iload_n 3, 1) := by decide +kernel
theorem dX3_move_13 : decode cX3_move 13 = .ok (.invokestatic 73, 3) := by decide +kernel
theorem dX3_move_16 : decode cX3_move 16 = .ok (.ifCond .ne 5, 3) := by decide +kernel
theorem dX3_move_19 : decode cX3_move 19 = .ok (.iconst (-1), 1) := by decide +kernel
theorem dX3_move_20 : decode cX3_move 20 = .ok (.ireturn, 1) := by decide +kernel
theorem dX3_move_21 : decode cX3_move 21 = .ok (.aload_n 0, 1) := by decide +kernel
theorem dX3_move_22 : decode cX3_move 22 = .ok (.iload_n 1, 1) := by decide +kernel
theorem dX3_move_23 : decode cX3_move 23 = .ok (.iload_n 2, 1) := by decide +kernel
theorem dX3_move_24 : decode cX3_move 24 = .ok (.invokestatic 62, 3) := by decide +kernel
theorem dX3_move_27 : decode cX3_move 27 = .ok (.iload_n 3, 1) := by decide +kernel
theorem dX3_move_28 : decode cX3_move 28 = .ok (.invokevirtual 117, 3) := by decide +kernel
theorem dX3_move_31 : decode cX3_move 31 = .ok (.ifCond .ne 6, 3) := by decide +kernel
theorem dX3_move_34 : decode cX3_move 34 = .ok (.bipush (-2), 2) := by decide +kernel
theorem dX3_move_36 : decode cX3_move 36 = .ok (.ireturn, 1) := by decide +kernel
theorem dX3_move_37 : decode cX3_move 37 = .ok (.aload_n 0, 1) := by decide +kernel
theorem dX3_move_38 : decode cX3_move 38 = .ok (.getfield 12, 3) := by decide +kernel
theorem dX3_move_41 : decode cX3_move 41 = .ok (.iload_n 1, 1) := by decide +kernel
theorem dX3_move_42 : decode cX3_move 42 = .ok (.iload_n 2, 1) := by decide +kernel
theorem dX3_move_43 : decode cX3_move 43 = .ok (.invokestatic 62, 3) := by decide +kernel
theorem dX3_move_46 : decode cX3_move 46 = .ok (.invokevirtual 66, 3) := by decide +kernel
theorem dX3_move_49 : decode cX3_move 49 = .ok (.istore 4, 2) := by decide +kernel
theorem dX3_move_51 : decode cX3_move 51 = .ok (.aload_n 0, 1) := by decide +kernel
theorem dX3_move_52 : decode cX3_move 52 = .ok (.iload_n 1, 1) := by decide +kernel
theorem dX3_move_53 : decode cX3_move 53 = .ok (.iload_n 2, 1) := by decide +kernel
theorem dX3_move_54 : decode cX3_move 54 = .ok (.invokestatic 62, 3) := by decide +kernel
theorem dX3_move_57 : decode cX3_move 57 = .ok (.iload_n 3, 1) := by decide +kernel
theorem dX3_move_58 : decode cX3_move 58 = .ok (.invokevirtual 120, 3) := by decide +kernel
theorem dX3_move_61 : decode cX3_move 61 = .ok (.iload 4, 2) := by decide +kernel
theorem dX3_move_63 : decode cX3_move 63 = .ok (.ireturn, 1) := by decide +kernel
set_option maxRecDepth 20000 in
theorem ggX3_want_X3_isLand : GoodIn wsX3_want wsX3_isLand := goodIn_r _ [5] (by decide +kernel) (by decide +kernel)
set_option maxRecDepth 20000 in
theorem gX3_want_X3_isLand : GoodIn wsX3_want (va_wsS RX3 73 yX3_isLand wsX3_isLand) := goodIn_app (goodIn_of _ (by decide +kernel)) ggX3_want_X3_isLand
theorem dX3_want_0 : decode cX3_want 0 = .ok (.iload_n 1, 1) := by decide +kernel
theorem dX3_want_1 : decode cX3_want 1 = .ok (.invokestatic 73, 3) := by decide +kernel
theorem dX3_want_4 : decode cX3_want 4 = .ok (.ifCond .eq 13, 3) := by decide +kernel
theorem dX3_want_7 : decode cX3_want 7 = .ok (.iload_n 2, 1) := by decide +kernel
theorem dX3_want_8 : decode cX3_want 8 = .ok (.ifCond .lt 9, 3) := by decide +kernel
theorem dX3_want_11 : decode cX3_want 11 = .ok (.iload_n 2, 1) := by decide +kernel
theorem dX3_want_12 : decode cX3_want 12 = .ok (.bipush 64, 2) := by decide +kernel
theorem dX3_want_14 : decode cX3_want 14 = .ok (.if_icmp .le 5, 3) := by decide +kernel
theorem dX3_want_17 : decode cX3_want 17 = .ok (.iconst (-1), 1) := by decide +kernel
theorem dX3_want_18 : decode cX3_want 18 = .ok (.ireturn, 1) := by decide +kernel
theorem dX3_want_19 : decode cX3_want 19 = .ok (.aload_n 0, 1) := by decide +kernel
theorem dX3_want_20 : decode cX3_want 20 = .ok (.getfield 41, 3) := by decide +kernel
theorem dX3_want_23 : decode cX3_want 23 = .ok (.iload_n 1, 1) := by decide +kernel
theorem dX3_want_24 : decode cX3_want 24 = .ok (.iaload, 1) := by decide +kernel
theorem dX3_want_25 : decode cX3_want 25 = .ok (.istore_n 3, 1) := by decide +kernel
theorem dX3_want_26 : decode cX3_want 26 = .ok (.aload_n 0, 1) := by decide +kernel
theorem dX3_want_27 : decode cX3_want 27 = .ok (.getfield 41, 3) := by decide +kernel
theorem dX3_want_30 : decode cX3_want 30 = .ok (.iload_n 1, 1) := by decide +kernel
theorem dX3_want_31 : decode cX3_want 31 = .ok (.iload_n 2, 1) := by decide +kernel
theorem dX3_want_32 : decode cX3_want 32 = .ok (.iastore, 1) := by decide +kernel
theorem dX3_want_33 : decode cX3_want 33 = .ok (.iload_n 3, 1) := by decide +kernel
theorem dX3_want_34 : decode cX3_want 34 = .ok (.ireturn, 1) := by decide +kernel
set_option maxRecDepth 20000 in
theorem ggX3_miss_X0_sizeOf : GoodIn wsX3_miss wsX0_sizeOf := goodIn_r _ [6, 7, 8, 9, 5, 10, 11, 12, 13, 14, 15, 16, 17, 18, 19, 20, 21, 40, 41, 42, 43, 44] (by decide +kernel) (by decide +kernel)
set_option maxRecDepth 20000 in
theorem gX3_miss_X0_sizeOf : GoodIn wsX3_miss (wsV RX3 76 RX0 yX0_sizeOf wsX0_sizeOf) := goodIn_app (goodIn_of _ (by decide +kernel)) ggX3_miss_X0_sizeOf
set_option maxRecDepth 20000 in
theorem ggX3_miss_X3_missWith : GoodIn wsX3_miss wsX3_missWith := goodIn_r _ [25, 26, 27, 28, 29, 30, 31, 12, 13, 14, 32, 33, 34, 35, 36, 37, 38, 39] (by decide +kernel) (by decide +kernel)
set_option maxRecDepth 20000 in
theorem gX3_miss_X3_missWith : GoodIn wsX3_miss (wsV RX3 123 RX3 yX3_missWith wsX3_missWith) := goodIn_app (goodIn_of _ (by decide +kernel)) ggX3_miss_X3_missWith
theorem dX3_miss_0 : decode cX3_miss 0 = .ok (.iconst 0, 1) := by decide +kernel
theorem dX3_miss_1 : decode cX3_miss 1 = .ok (.istore_n 1, 1) := by decide +kernel
theorem dX3_miss_2 : decode cX3_miss 2 = .ok (.iconst 0, 1) := by decide +kernel
theorem dX3_miss_3 : decode cX3_miss 3 = .ok (.istore_n 2, 1) := by decide +kernel
theorem dX3_miss_4 : decode cX3_miss 4 = .ok (.iload_n 2, 1) := by decide +kernel
theorem dX3_miss_5 : decode cX3_miss 5 = .ok (.bipush 6, 2) := by decide +kernel
theorem dX3_miss_7 : decode cX3_miss 7 = .ok (.if_icmp .ge 36, 3) := by decide +kernel
theorem dX3_miss_10 : decode cX3_miss 10 = .ok (.aload_n 0, 1) := by decide +kernel
theorem dX3_miss_11 : decode cX3_miss 11 = .ok (.getfield 12, 3) := by decide +kernel
theorem dX3_miss_14 : decode cX3_miss 14 = .ok (.iload_n 2, 1) := by decide +kernel
theorem dX3_miss_15 : decode cX3_miss 15 = .ok (.invokevirtual 76, 3) := by decide +kernel
theorem dX3_miss_18 : decode cX3_miss 18 = .ok (.ifCond .le 19, 3) := by decide +kernel
theorem dX3_miss_21 : decode cX3_miss 21 = .ok (.iload_n 1, 1) := by decide +kernel
theorem dX3_miss_22 : decode cX3_miss 22 = .ok (.aload_n 0, 1) := by decide +kernel
theorem dX3_miss_23 : decode cX3_miss 23 = .ok (.iload_n 2, 1) := by decide +kernel
theorem dX3_miss_24 : decode cX3_miss 24 = .ok (.aload_n 0, 1) := by decide +kernel
theorem dX3_miss_25 : decode cX3_miss 25 = .ok (.getfield 12, 3) := by decide +kernel
theorem dX3_miss_28 : decode cX3_miss 28 = .ok (.iload_n 2, 1) := by decide +kernel
theorem dX3_miss_29 : decode cX3_miss 29 = .ok (.invokevirtual 76, 3) := by decide +kernel
theorem dX3_miss_32 : decode cX3_miss 32 = .ok (.invokevirtual 123, 3) := by decide +kernel
theorem dX3_miss_35 : decode cX3_miss 35 = .ok (.iadd, 1) := by decide +kernel
theorem dX3_miss_36 : decode cX3_miss 36 = .ok (.istore_n 1, 1) := by decide +kernel
theorem dX3_miss_37 : decode cX3_miss 37 = .ok (.iinc 2 1, 3) := by decide +kernel
theorem dX3_miss_40 : decode cX3_miss 40 = .ok (.goto (-36), 3) := by decide +kernel
theorem dX3_miss_43 : decode cX3_miss 43 = .ok (.iload_n 1, 1) := by decide +kernel
theorem dX3_miss_44 : decode cX3_miss 44 = .ok (.ireturn, 1) := by decide +kernel
set_option maxRecDepth 20000 in
theorem ggX3_steps_X3_step : GoodIn wsX3_steps wsX3_step := goodIn_r _ [5, 6, 7, 8, 9, 4, 10, 11, 12, 13, 14, 15, 16, 17, 18, 19, 20, 21, 22, 23, 24, 25, 26, 27, 28, 29, 30, 31, 32, 33, 34, 35, 36, 37, 38, 39, 40, 41, 42, 43, 44, 45, 46, 47, 48, 49, 50, 51, 52, 53, 54, 55, 56, 57, 58, 59, 60, 61, 62, 63, 64, 65, 66, 67, 68, 69, 70, 71, 72, 73, 74, 75, 76, 77, 78, 79, 80, 81, 82, 83, 84, 85, 86, 87, 88, 89, 90, 91, 92, 93, 94, 95, 96, 97, 98, 99, 100, 101, 102, 103, 104, 105, 106, 107, 108, 109, 110, 111, 112, 113, 114, 115, 116, 117, 118, 119, 120, 121, 122, 123, 124, 125, 126, 127, 128, 129, 130, 131, 132, 133, 134, 135, 136] (by decide +kernel) (by decide +kernel)
set_option maxRecDepth 20000 in
theorem gX3_steps_X3_step : GoodIn wsX3_steps (wsV RX3 126 RX3 yX3_step wsX3_step) := goodIn_app (goodIn_of _ (by decide +kernel)) ggX3_steps_X3_step
theorem dX3_steps_0 : decode cX3_steps 0 = .ok (.iload_n 1, 1) := by decide +kernel
theorem dX3_steps_1 : decode cX3_steps 1 = .ok (.iconst 1, 1) := by decide +kernel
theorem dX3_steps_2 : decode cX3_steps 2 = .ok (.if_icmp .lt 9, 3) := by decide +kernel
theorem dX3_steps_5 : decode cX3_steps 5 = .ok (.iload_n 1, 1) := by decide +kernel
theorem dX3_steps_6 : decode cX3_steps 6 = .ok (.bipush 64, 2) := by decide +kernel
theorem dX3_steps_8 : decode cX3_steps 8 = .ok (.if_icmp .le 5, 3) := by decide +kernel
theorem dX3_steps_11 : decode cX3_steps 11 = .ok (.iconst (-1), 1) := by decide +kernel
theorem dX3_steps_12 : decode cX3_steps 12 = .ok (.ireturn, 1) := by decide +kernel
theorem dX3_steps_13 : decode cX3_steps 13 = .ok (.iconst 0, 1) := by decide +kernel
theorem dX3_steps_14 : decode cX3_steps 14 = .ok (.istore_n 2, 1) := by decide +kernel
theorem dX3_steps_15 : decode cX3_steps 15 = .ok (.iload_n 2, 1) := by decide +kernel
theorem dX3_steps_16 : decode cX3_steps 16 = .ok (.iload_n 1, 1) := by decide +kernel
theorem dX3_steps_17 : decode cX3_steps 17 = .ok (.if_icmp .ge 16, 3) := by decide +kernel
theorem dX3_steps_20 : decode cX3_steps 20 = .ok (.aload_n 0, 1) := by decide +kernel
theorem dX3_steps_21 : decode cX3_steps 21 = .ok (.invokevirtual 126, 3) := by decide +kernel
theorem dX3_steps_24 : decode cX3_steps 24 = .ok (.ifCond .eq 9, 3) := by decide +kernel
theorem dX3_steps_27 : decode cX3_steps 27 = .ok (.iinc 2 1, 3) := by decide +kernel
theorem dX3_steps_30 : decode cX3_steps 30 = .ok (.goto (-15), 3) := by decide +kernel
theorem dX3_steps_33 : decode cX3_steps 33 = .ok (.iload_n 2, 1) := by decide +kernel
theorem dX3_steps_34 : decode cX3_steps 34 = .ok (.ireturn, 1) := by decide +kernel
set_option maxRecDepth 20000 in
theorem ggX3_undo_X1_latestCell : GoodIn wsX3_undo wsX1_latestCell := goodIn_r _ [8, 9, 10, 11, 12, 13, 14, 43, 44, 45, 46, 47] (by decide +kernel) (by decide +kernel)
set_option maxRecDepth 20000 in
theorem gX3_undo_X1_latestCell : GoodIn wsX3_undo (wsV RX3 134 RX1 yX1_latestCell wsX1_latestCell) := goodIn_app (goodIn_of _ (by decide +kernel)) ggX3_undo_X1_latestCell
set_option maxRecDepth 20000 in
theorem ggX3_undo_X1_latestFrom : GoodIn wsX3_undo wsX1_latestFrom := goodIn_r _ [18, 19, 10, 11, 12, 13, 14, 43, 44, 45, 46, 47] (by decide +kernel) (by decide +kernel)
set_option maxRecDepth 20000 in
theorem gX3_undo_X1_latestFrom : GoodIn wsX3_undo (wsV RX3 138 RX1 yX1_latestFrom wsX1_latestFrom) := goodIn_app (goodIn_of _ (by decide +kernel)) ggX3_undo_X1_latestFrom
set_option maxRecDepth 20000 in
theorem ggX3_undo_X0_put : GoodIn wsX3_undo wsX0_put := goodIn_r _ [24, 25, 26, 27, 28, 29, 48, 49, 50, 51, 52] (by decide +kernel) (by decide +kernel)
set_option maxRecDepth 20000 in
theorem gX3_undo_X0_put : GoodIn wsX3_undo (wsV RX3 70 RX0 yX0_put wsX0_put) := goodIn_app (goodIn_of _ (by decide +kernel)) ggX3_undo_X0_put
set_option maxRecDepth 20000 in
theorem ggX3_undo_X1_dropLatest : GoodIn wsX3_undo wsX1_dropLatest := goodIn_r _ [33, 10, 34, 43, 44, 45, 46, 47] (by decide +kernel) (by decide +kernel)
set_option maxRecDepth 20000 in
theorem gX3_undo_X1_dropLatest : GoodIn wsX3_undo (wsV RX3 141 RX1 yX1_dropLatest wsX1_dropLatest) := goodIn_app (goodIn_of _ (by decide +kernel)) ggX3_undo_X1_dropLatest
theorem dX3_undo_0 : decode cX3_undo 0 = .ok (.iload_n 1, 1) := by decide +kernel
theorem dX3_undo_1 : decode cX3_undo 1 = .ok (.iconst 1, 1) := by decide +kernel
theorem dX3_undo_2 : decode cX3_undo 2 = .ok (.if_icmp .lt 9, 3) := by decide +kernel
theorem dX3_undo_5 : decode cX3_undo 5 = .ok (.iload_n 1, 1) := by decide +kernel
theorem dX3_undo_6 : decode cX3_undo 6 = .ok (.bipush 100, 2) := by decide +kernel
theorem dX3_undo_8 : decode cX3_undo 8 = .ok (.if_icmp .le 5, 3) := by decide +kernel
theorem dX3_undo_11 : decode cX3_undo 11 = .ok (.iconst (-1), 1) := by decide +kernel
theorem dX3_undo_12 : decode cX3_undo 12 = .ok (.ireturn, 1) := by decide +kernel
theorem dX3_undo_13 : decode cX3_undo 13 = .ok (.iconst 0, 1) := by decide +kernel
theorem dX3_undo_14 : decode cX3_undo 14 = .ok (.istore_n 2, 1) := by decide +kernel
theorem dX3_undo_15 : decode cX3_undo 15 = .ok (.iload_n 2, 1) := by decide +kernel
theorem dX3_undo_16 : decode cX3_undo 16 = .ok (.iload_n 1, 1) := by decide +kernel
theorem dX3_undo_17 : decode cX3_undo 17 = .ok (.if_icmp .ge 47, 3) := by decide +kernel
theorem dX3_undo_20 : decode cX3_undo 20 = .ok (.aload_n 0, 1) := by decide +kernel
theorem dX3_undo_21 : decode cX3_undo 21 = .ok (.getfield 19, 3) := by decide +kernel
theorem dX3_undo_24 : decode cX3_undo 24 = .ok (.getfield 130, 3) := by decide +kernel
theorem dX3_undo_27 : decode cX3_undo 27 = .ok (.ifCond .le 37, 3) := by decide +kernel
theorem dX3_undo_30 : decode cX3_undo 30 = .ok (.aload_n 0, 1) := by decide +kernel
theorem dX3_undo_31 : decode cX3_undo 31 = .ok (.getfield 12, 3) := by decide +kernel
theorem dX3_undo_34 : decode cX3_undo 34 = .ok (.aload_n 0, 1) := by decide +kernel
theorem dX3_undo_35 : decode cX3_undo 35 = .ok (.getfield 19, 3) := by decide +kernel
theorem dX3_undo_38 : decode cX3_undo 38 = .ok (.invokevirtual 134, 3) := by decide +kernel
theorem dX3_undo_41 : decode cX3_undo 41 = .ok (.aload_n 0, 1) := by decide +kernel
theorem dX3_undo_42 : decode cX3_undo 42 = .ok (.getfield 19, 3) := by decide +kernel
theorem dX3_undo_45 : decode cX3_undo 45 = .ok (.invokevirtual 138, 3) := by decide +kernel
theorem dX3_undo_48 : decode cX3_undo 48 = .ok (.invokevirtual 70, 3) := by decide +kernel
theorem dX3_undo_51 : decode cX3_undo 51 = .ok (.aload_n 0, 1) := by decide +kernel
theorem dX3_undo_52 : decode cX3_undo 52 = .ok (.getfield 19, 3) := by decide +kernel
theorem dX3_undo_55 : decode cX3_undo 55 = .ok (.invokevirtual 141, 3) := by decide +kernel
theorem dX3_undo_58 : decode cX3_undo 58 = .ok (.iinc 2 1, 3) := by decide +kernel
theorem dX3_undo_61 : decode cX3_undo 61 = .ok (.goto (-46), 3) := by decide +kernel
theorem dX3_undo_64 : decode cX3_undo 64 = .ok (.iload_n 2, 1) := by decide +kernel
theorem dX3_undo_65 : decode cX3_undo 65 = .ok (.ireturn, 1) := by decide +kernel
set_option maxRecDepth 20000 in
theorem ggX3_label_X3_isLand : GoodIn wsX3_label wsX3_isLand := goodIn_r _ [5] (by decide +kernel) (by decide +kernel)
set_option maxRecDepth 20000 in
theorem gX3_label_X3_isLand : GoodIn wsX3_label (va_wsS RX3 73 yX3_isLand wsX3_isLand) := goodIn_app (goodIn_of _ (by decide +kernel)) ggX3_label_X3_isLand
set_option maxRecDepth 20000 in
theorem ggX3_label_X0_cellsOf : GoodIn wsX3_label wsX0_cellsOf := goodIn_r _ [10, 11, 3, 4, 5, 43, 44, 45, 46, 47] (by decide +kernel) (by decide +kernel)
set_option maxRecDepth 20000 in
theorem gX3_label_X0_cellsOf : GoodIn wsX3_label (wsV RX3 79 RX0 yX0_cellsOf wsX0_cellsOf) := goodIn_app (goodIn_of _ (by decide +kernel)) ggX3_label_X0_cellsOf
set_option maxRecDepth 20000 in
theorem ggX3_label_X3_inside : GoodIn wsX3_label wsX3_inside := goodIn_r _ [14, 15, 16, 4, 17, 18, 19, 20, 21, 22] (by decide +kernel) (by decide +kernel)
set_option maxRecDepth 20000 in
theorem gX3_label_X3_inside : GoodIn wsX3_label (va_wsS RX3 144 yX3_inside wsX3_inside) := goodIn_app (goodIn_of _ (by decide +kernel)) ggX3_label_X3_inside
set_option maxRecDepth 20000 in
theorem ggX3_label_X3_firstOf : GoodIn wsX3_label wsX3_firstOf := goodIn_r _ [25, 26, 27, 4, 28] (by decide +kernel) (by decide +kernel)
set_option maxRecDepth 20000 in
theorem gX3_label_X3_firstOf : GoodIn wsX3_label (va_wsS RX3 147 yX3_firstOf wsX3_firstOf) := goodIn_app (goodIn_of _ (by decide +kernel)) ggX3_label_X3_firstOf
set_option maxRecDepth 20000 in
theorem ggX3_label_X3_columnOf : GoodIn wsX3_label wsX3_columnOf := goodIn_r _ [31] (by decide +kernel) (by decide +kernel)
set_option maxRecDepth 20000 in
theorem gX3_label_X3_columnOf : GoodIn wsX3_label (va_wsS RX3 98 yX3_columnOf wsX3_columnOf) := goodIn_app (goodIn_of _ (by decide +kernel)) ggX3_label_X3_columnOf
set_option maxRecDepth 20000 in
theorem ggX3_label_X3_rowOf : GoodIn wsX3_label wsX3_rowOf := goodIn_r _ [34] (by decide +kernel) (by decide +kernel)
set_option maxRecDepth 20000 in
theorem gX3_label_X3_rowOf : GoodIn wsX3_label (va_wsS RX3 101 yX3_rowOf wsX3_rowOf) := goodIn_app (goodIn_of _ (by decide +kernel)) ggX3_label_X3_rowOf
theorem dX3_label_0 : decode cX3_label 0 = .ok (.iload_n 1, 1) := by decide +kernel
theorem dX3_label_1 : decode cX3_label 1 = .ok (.invokestatic 73, 3) := by decide +kernel
theorem dX3_label_4 : decode cX3_label 4 = .ok (.ifCond .eq 12, 3) := by decide +kernel
theorem dX3_label_7 : decode cX3_label 7 = .ok (.iload_n 2, 1) := by decide +kernel
theorem dX3_label_8 : decode cX3_label 8 = .ok (.ifCond .lt 8, 3) := by decide +kernel
theorem dX3_label_11 : decode cX3_label 11 = .ok (.iload_n 2, 1) := by decide +kernel
theorem dX3_label_12 : decode cX3_label 12 = .ok (.iconst 2, 1) := by decide +kernel
theorem dX3_label_13 : decode cX3_label 13 = .ok (.if_icmp .le 5, 3) := by decide +kernel
theorem dX3_label_16 : decode cX3_label 16 = .ok (.iconst (-1), 1) := by decide +kernel
theorem dX3_label_17 : decode cX3_label 17 = .ok (.ireturn, 1) := by decide +kernel
theorem dX3_label_18 : decode cX3_label 18 = .ok (.aload_n 0, 1) := by decide +kernel
theorem dX3_label_19 : decode cX3_label 19 = .ok (.getfield 12, 3) := by decide +kernel
theorem dX3_label_22 : decode cX3_label 22 = .ok (.iload_n 1, 1) := by decide +kernel
theorem dX3_label_23 : decode cX3_label 23 = .ok (.invokevirtual 79, 3) := by decide +kernel
theorem dX3_label_26 : decode cX3_label 26 = .ok (.lstore_n 3, 1) := by decide +kernel
theorem dX3_label_27 : decode cX3_label 27 = .ok (.lload_n 3, 1) := by decide +kernel
theorem dX3_label_28 : decode cX3_label 28 = .ok (.lconst 0, 1) := by decide +kernel
theorem dX3_label_29 : decode cX3_label 29 = .ok (.lcmp, 1) := by decide +kernel
theorem dX3_label_30 : decode cX3_label 30 = .ok (.ifCond .ne 6, 3) := by decide +kernel
theorem dX3_label_33 : decode cX3_label 33 = .ok (.bipush (-9), 2) := by decide +kernel
theorem dX3_label_35 : decode cX3_label 35 = .ok (.ireturn, 1) := by decide +kernel
theorem dX3_label_36 : decode cX3_label 36 = .ok (.iconst 1, 1) := by decide +kernel
theorem dX3_label_37 : decode cX3_label 37 = .ok (.istore 5, 2) := by decide +kernel
theorem dX3_label_39 : decode cX3_label 39 = .ok (.iconst 0, 1) := by decide +kernel
theorem dX3_label_40 : decode cX3_label 40 = .ok (.istore 6, 2) := by decide +kernel
theorem dX3_label_42 : decode cX3_label 42 = .ok (.iload 6, 2) := by decide +kernel
theorem dX3_label_44 : decode cX3_label 44 = .ok (.bipush 8, 2) := by decide +kernel
theorem dX3_label_46 : decode cX3_label 46 = .ok (.if_icmp .ge 26, 3) := by decide +kernel
theorem dX3_label_49 : decode cX3_label 49 = .ok (.lload_n 3, 1) := by decide +kernel
theorem dX3_label_50 : decode cX3_label 50 = .ok (.invokestatic 144, 3) := by decide +kernel
theorem dX3_label_53 : decode cX3_label 53 = .ok (.lconst 0, 1) := by decide +kernel
theorem dX3_label_54 : decode cX3_label 54 = .ok (.lcmp, 1) := by decide +kernel
theorem dX3_label_55 : decode cX3_label 55 = .ok (.ifCond .eq 17, 3) := by decide +kernel
theorem dX3_label_58 : decode cX3_label 58 = .ok (.lload_n 3, 1) := by decide +kernel
theorem dX3_label_59 : decode cX3_label 59 = .ok (.invokestatic 144, 3) := by decide +kernel
theorem dX3_label_62 : decode cX3_label 62 = .ok (.lstore_n 3, 1) := by decide +kernel
theorem dX3_label_63 : decode cX3_label 63 = .ok (.iinc 5 1, 3) := by decide +kernel
theorem dX3_label_66 : decode cX3_label 66 = .ok (.iinc 6 1, 3) := by decide +kernel
theorem dX3_label_69 : decode cX3_label 69 = .ok (.goto (-27), 3) := by decide +kernel
theorem dX3_label_72 : decode cX3_label 72 = .ok (.lload_n 3, 1) := by decide +kernel
theorem dX3_label_73 : decode cX3_label 73 = .ok (.invokestatic 147, 3) := by decide +kernel
theorem dX3_label_76 : decode cX3_label 76 = .ok (.istore 6, 2) := by decide +kernel
theorem dX3_label_78 : decode cX3_label 78 = .ok (.iload_n 2, 1) := by decide +kernel
theorem dX3_label_79 : decode cX3_label 79 = .ok (.ifCond .ne 11, 3) := by decide +kernel
theorem dX3_label_82 : decode cX3_label 82 = .ok (.iload 6, 2) := by decide +kernel
theorem dX3_label_84 : decode cX3_label 84 = .ok (.invokestatic 98, 3) := by decide +kernel
theorem dX3_label_87 : decode cX3_label 87 = .ok (.goto 18, 3) := by decide +kernel
theorem dX3_label_90 : decode cX3_label 90 = .ok (.iload_n 2, 1) := by decide +kernel
theorem dX3_label_91 : decode cX3_label 91 = .ok (.iconst 1, 1) := by decide +kernel
theorem dX3_label_92 : decode cX3_label 92 = .ok (.if_icmp .ne 11, 3) := by decide +kernel
theorem dX3_label_95 : decode cX3_label 95 = .ok (.iload 6, 2) := by decide +kernel
theorem dX3_label_97 : decode cX3_label 97 = .ok (.invokestatic 101, 3) := by decide +kernel
theorem dX3_label_100 : decode cX3_label 100 = .ok (.goto 5, 3) := by decide +kernel
theorem dX3_label_103 : decode cX3_label 103 = .ok (.iload 5, 2) := by decide +kernel
theorem dX3_label_105 : decode cX3_label 105 = .ok (.ireturn, 1) := by decide +kernel
set_option maxRecDepth 20000 in
theorem ggX3_longer_X3_hasBox : GoodIn wsX3_longer wsX3_hasBox := goodIn_r _ [7, 2, 8, 9, 6, 10, 11, 12, 13, 14, 15, 16, 17, 18, 19, 20, 21, 22, 23, 24, 25, 26, 27, 28, 29, 30, 31, 83, 84, 85, 86, 87, 88, 89, 90, 91, 92, 93, 94, 95] (by decide +kernel) (by decide +kernel)
set_option maxRecDepth 20000 in
theorem gX3_longer_X3_hasBox : GoodIn wsX3_longer (wsV RX3 151 RX3 yX3_hasBox wsX3_hasBox) := goodIn_app (goodIn_of _ (by decide +kernel)) ggX3_longer_X3_hasBox
set_option maxRecDepth 20000 in
theorem ggX3_longer_X2_read : GoodIn wsX3_longer wsX2_read := goodIn_r _ [36, 37, 38, 39, 40, 41, 12, 13, 14, 15, 16, 17, 18, 19, 20, 9, 6, 10, 21, 22, 23, 24, 25, 26, 27, 96, 97, 98, 99, 100, 101, 102, 91, 92, 93, 94, 95] (by decide +kernel) (by decide +kernel)
set_option maxRecDepth 20000 in
theorem gX3_longer_X2_read : GoodIn wsX3_longer (wsV RX3 154 RX2 yX2_read wsX2_read) := goodIn_app (goodIn_of _ (by decide +kernel)) ggX3_longer_X2_read
set_option maxRecDepth 20000 in
theorem ggX3_longer_X2_lay : GoodIn wsX3_longer wsX2_lay := goodIn_r _ [45, 37, 46, 47, 48, 35, 49, 50, 51, 52, 53, 54, 55, 40, 56, 96, 97, 98, 99, 100, 101, 102] (by decide +kernel) (by decide +kernel)
set_option maxRecDepth 20000 in
theorem gX3_longer_X2_lay : GoodIn wsX3_longer (wsV RX3 158 RX2 yX2_lay wsX2_lay) := goodIn_app (goodIn_of _ (by decide +kernel)) ggX3_longer_X2_lay
set_option maxRecDepth 20000 in
theorem ggX3_longer_X2_placeOf : GoodIn wsX3_longer wsX2_placeOf := goodIn_r _ [60, 39, 9, 6, 10, 96, 97, 98, 99, 100, 101, 102] (by decide +kernel) (by decide +kernel)
set_option maxRecDepth 20000 in
theorem gX3_longer_X2_placeOf : GoodIn wsX3_longer (wsV RX3 162 RX2 yX2_placeOf wsX2_placeOf) := goodIn_app (goodIn_of _ (by decide +kernel)) ggX3_longer_X2_placeOf
set_option maxRecDepth 20000 in
theorem ggX3_longer_X2_longUpper : GoodIn wsX3_longer wsX2_longUpper := goodIn_r _ [64, 50, 51, 52, 53, 65, 66, 67, 35, 68, 56, 69, 70, 71, 72, 40, 38, 96, 97, 98, 99, 100, 101, 102] (by decide +kernel) (by decide +kernel)
set_option maxRecDepth 20000 in
theorem gX3_longer_X2_longUpper : GoodIn wsX3_longer (wsV RX3 165 RX2 yX2_longUpper wsX2_longUpper) := goodIn_app (goodIn_of _ (by decide +kernel)) ggX3_longer_X2_longUpper
set_option maxRecDepth 20000 in
theorem ggX3_longer_X2_longLower : GoodIn wsX3_longer wsX2_longLower := goodIn_r _ [76, 77, 78, 52, 79, 65, 66, 67, 35, 68, 56, 69, 70, 71, 72, 40, 38, 96, 97, 98, 99, 100, 101, 102] (by decide +kernel) (by decide +kernel)
set_option maxRecDepth 20000 in
theorem gX3_longer_X2_longLower : GoodIn wsX3_longer (wsV RX3 168 RX2 yX2_longLower wsX2_longLower) := goodIn_app (goodIn_of _ (by decide +kernel)) ggX3_longer_X2_longLower
set_option maxRecDepth 20000 in
theorem ggX3_longer_X3_commonDivisor : GoodIn wsX3_longer wsX3_commonDivisor := goodIn_r _ [82] (by decide +kernel) (by decide +kernel)
set_option maxRecDepth 20000 in
theorem gX3_longer_X3_commonDivisor : GoodIn wsX3_longer (va_wsS RX3 171 yX3_commonDivisor wsX3_commonDivisor) := goodIn_app (goodIn_of _ (by decide +kernel)) ggX3_longer_X3_commonDivisor
theorem dX3_longer_0 : decode cX3_longer 0 = .ok (.iload_n 3, 1) := by decide +kernel
theorem dX3_longer_1 : decode cX3_longer 1 = .ok (.ifCond .lt 17, 3) := by decide +kernel
theorem dX3_longer_4 : decode cX3_longer 4 = .ok (.iload_n 3, 1) := by decide +kernel
theorem dX3_longer_5 : decode cX3_longer 5 = .ok (.iconst 1, 1) := by decide +kernel
theorem dX3_longer_6 : decode cX3_longer 6 = .ok (.if_icmp .gt 12, 3) := by decide +kernel
theorem dX3_longer_9 : decode cX3_longer 9 = .ok (.aload_n 0, 1) := by decide +kernel
theorem dX3_longer_10 : decode cX3_longer 10 = .ok (.iload_n 1, 1) := by decide +kernel
theorem dX3_longer_11 : decode cX3_longer 11 = .ok (.iload_n 2, 1) := by decide +kernel
theorem dX3_longer_12 : decode cX3_longer 12 = .ok (.invokevirtual 151, 3) := by decide +kernel
theorem dX3_longer_15 : decode cX3_longer 15 = .ok (.ifCond .ne 5, 3) := by decide +kernel
theorem dX3_longer_18 : decode cX3_longer 18 = .ok (.iconst (-1), 1) := by decide +kernel
theorem dX3_longer_19 : decode cX3_longer 19 = .ok (.ireturn, 1) := by decide +kernel
theorem dX3_longer_20 : decode cX3_longer 20 = .ok (.aload_n 0, 1) := by decide +kernel
theorem dX3_longer_21 : decode cX3_longer 21 = .ok (.getfield 26, 3) := by decide +kernel
theorem dX3_longer_24 : decode cX3_longer 24 = .ok (.aload_n 0, 1) := by decide +kernel
theorem dX3_longer_25 : decode cX3_longer 25 = .ok (.getfield 12, 3) := by decide +kernel
theorem dX3_longer_28 : decode cX3_longer 28 = .ok (.invokevirtual 154, 3) := by decide +kernel
theorem dX3_longer_31 : decode cX3_longer 31 = .ok (.aload_n 0, 1) := by decide +kernel
theorem dX3_longer_32 : decode cX3_longer 32 = .ok (.getfield 26, 3) := by decide +kernel
theorem dX3_longer_35 : decode cX3_longer 35 = .ok (.iload_n 1, 1) := by decide +kernel
theorem dX3_longer_36 : decode cX3_longer 36 = .ok (.invokevirtual 158, 3) := by decide +kernel
theorem dX3_longer_39 : decode cX3_longer 39 = .ok (.aload_n 0, 1) := by decide +kernel
theorem dX3_longer_40 : decode cX3_longer 40 = .ok (.getfield 26, 3) := by decide +kernel
theorem dX3_longer_43 : decode cX3_longer 43 = .ok (.aload_n 0, 1) := by decide +kernel
theorem dX3_longer_44 : decode cX3_longer 44 = .ok (.getfield 26, 3) := by decide +kernel
theorem dX3_longer_47 : decode cX3_longer 47 = .ok (.iload_n 2, 1) := by decide +kernel
theorem dX3_longer_48 : decode cX3_longer 48 = .ok (.invokevirtual 162, 3) := by decide +kernel
theorem dX3_longer_51 : decode cX3_longer 51 = .ok (.invokevirtual 165, 3) := by decide +kernel
theorem dX3_longer_54 : decode cX3_longer 54 = .ok (.istore 4, 2) := by decide +kernel
theorem dX3_longer_56 : decode cX3_longer 56 = .ok (.aload_n 0, 1) := by decide +kernel
theorem dX3_longer_57 : decode cX3_longer 57 = .ok (.getfield 26, 3) := by decide +kernel
theorem dX3_longer_60 : decode cX3_longer 60 = .ok (.aload_n 0, 1) := by decide +kernel
theorem dX3_longer_61 : decode cX3_longer 61 = .ok (.getfield 26, 3) := by decide +kernel
theorem dX3_longer_64 : decode cX3_longer 64 = .ok (.iload_n 2, 1) := by decide +kernel
theorem dX3_longer_65 : decode cX3_longer 65 = .ok (.invokevirtual 162, 3) := by decide +kernel
theorem dX3_longer_68 : decode cX3_longer 68 = .ok (.invokevirtual 168, 3) := by decide +kernel
theorem dX3_longer_71 : decode cX3_longer 71 = .ok (.istore 5, 2) := by decide +kernel
theorem dX3_longer_73 : decode cX3_longer 73 = .ok (.iload 4, 2) := by decide +kernel
theorem dX3_longer_75 : decode cX3_longer 75 = .ok (.iload 5, 2) := by decide +kernel
theorem dX3_longer_77 : decode cX3_longer 77 = .ok (.invokestatic 171, 3) := by decide +kernel
theorem dX3_longer_80 : decode cX3_longer 80 = .ok (.istore 6, 2) := by decide +kernel
theorem dX3_longer_82 : decode cX3_longer 82 = .ok (.iload 6, 2) := by decide +kernel
theorem dX3_longer_84 : decode cX3_longer 84 = .ok (.iconst 1, 1) := by decide +kernel
theorem dX3_longer_85 : decode cX3_longer 85 = .ok (.if_icmp .ge 7, 3) := by decide +kernel
theorem dX3_longer_88 : decode cX3_longer 88 = .ok (.iconst (-1), 1) := by decide +kernel
theorem dX3_longer_89 : decode cX3_longer 89 = .ok (.goto 17, 3) := by decide +kernel
theorem dX3_longer_92 : decode cX3_longer 92 = .ok (.iload_n 3, 1) := by decide +kernel
theorem dX3_longer_93 : decode cX3_longer 93 = .ok (.ifCond .ne 8, 3) := by decide +kernel
theorem dX3_longer_96 : decode cX3_longer 96 = .ok (.iload 4, 2) := by decide +kernel
theorem dX3_longer_98 : decode cX3_longer 98 = .ok (.goto 5, 3) := by decide +kernel
theorem dX3_longer_101 : decode cX3_longer 101 = .ok (.iload 5, 2) := by decide +kernel
theorem dX3_longer_103 : decode cX3_longer 103 = .ok (.iload 6, 2) := by decide +kernel
theorem dX3_longer_105 : decode cX3_longer 105 = .ok (.idiv, 1) := by decide +kernel
theorem dX3_longer_106 : decode cX3_longer 106 = .ok (.ireturn, 1) := by decide +kernel
set_option maxRecDepth 20000 in
theorem ggX3_box_X3_hasBox : GoodIn wsX3_box wsX3_hasBox := goodIn_r _ [7, 2, 8, 9, 6, 10, 11, 12, 13, 14, 15, 16, 17, 18, 19, 20, 21, 22, 23, 24, 25, 26, 27, 28, 29, 30, 31, 67, 68, 69, 70, 71, 72, 73, 74, 75, 76, 77, 78, 79] (by decide +kernel) (by decide +kernel)
set_option maxRecDepth 20000 in
theorem gX3_box_X3_hasBox : GoodIn wsX3_box (wsV RX3 151 RX3 yX3_hasBox wsX3_hasBox) := goodIn_app (goodIn_of _ (by decide +kernel)) ggX3_box_X3_hasBox
set_option maxRecDepth 20000 in
theorem ggX3_box_X2_read : GoodIn wsX3_box wsX2_read := goodIn_r _ [36, 37, 38, 39, 40, 41, 12, 13, 14, 15, 16, 17, 18, 19, 20, 9, 6, 10, 21, 22, 23, 24, 25, 26, 27, 80, 81, 82, 83, 84, 85, 86, 75, 76, 77, 78, 79] (by decide +kernel) (by decide +kernel)
set_option maxRecDepth 20000 in
theorem gX3_box_X2_read : GoodIn wsX3_box (wsV RX3 154 RX2 yX2_read wsX2_read) := goodIn_app (goodIn_of _ (by decide +kernel)) ggX3_box_X2_read
set_option maxRecDepth 20000 in
theorem ggX3_box_X2_lay : GoodIn wsX3_box wsX2_lay := goodIn_r _ [45, 37, 46, 47, 48, 35, 49, 50, 51, 52, 53, 54, 55, 40, 56, 80, 81, 82, 83, 84, 85, 86] (by decide +kernel) (by decide +kernel)
set_option maxRecDepth 20000 in
theorem gX3_box_X2_lay : GoodIn wsX3_box (wsV RX3 158 RX2 yX2_lay wsX2_lay) := goodIn_app (goodIn_of _ (by decide +kernel)) ggX3_box_X2_lay
set_option maxRecDepth 20000 in
theorem ggX3_box_X2_placeOf : GoodIn wsX3_box wsX2_placeOf := goodIn_r _ [60, 39, 9, 6, 10, 80, 81, 82, 83, 84, 85, 86] (by decide +kernel) (by decide +kernel)
set_option maxRecDepth 20000 in
theorem gX3_box_X2_placeOf : GoodIn wsX3_box (wsV RX3 162 RX2 yX2_placeOf wsX2_placeOf) := goodIn_app (goodIn_of _ (by decide +kernel)) ggX3_box_X2_placeOf
set_option maxRecDepth 20000 in
theorem ggX3_box_X2_side : GoodIn wsX3_box wsX2_side := goodIn_r _ [64, 54, 56, 55, 38, 40, 65, 6, 66, 80, 81, 82, 83, 84, 85, 86] (by decide +kernel) (by decide +kernel)
set_option maxRecDepth 20000 in
theorem gX3_box_X2_side : GoodIn wsX3_box (wsV RX3 174 RX2 yX2_side wsX2_side) := goodIn_app (goodIn_of _ (by decide +kernel)) ggX3_box_X2_side
theorem dX3_box_0 : decode cX3_box 0 = .ok (.iload_n 3, 1) := by decide +kernel
theorem dX3_box_1 : decode cX3_box 1 = .ok (.ifCond .lt 17, 3) := by decide +kernel
theorem dX3_box_4 : decode cX3_box 4 = .ok (.iload_n 3, 1) := by decide +kernel
theorem dX3_box_5 : decode cX3_box 5 = .ok (.iconst 3, 1) := by decide +kernel
theorem dX3_box_6 : decode cX3_box 6 = .ok (.if_icmp .gt 12, 3) := by decide +kernel
theorem dX3_box_9 : decode cX3_box 9 = .ok (.aload_n 0, 1) := by decide +kernel
theorem dX3_box_10 : decode cX3_box 10 = .ok (.iload_n 1, 1) := by decide +kernel
theorem dX3_box_11 : decode cX3_box 11 = .ok (.iload_n 2, 1) := by decide +kernel
theorem dX3_box_12 : decode cX3_box 12 = .ok (.invokevirtual 151, 3) := by decide +kernel
theorem dX3_box_15 : decode cX3_box 15 = .ok (.ifCond .ne 5, 3) := by decide +kernel
theorem dX3_box_18 : decode cX3_box 18 = .ok (.iconst (-1), 1) := by decide +kernel
theorem dX3_box_19 : decode cX3_box 19 = .ok (.ireturn, 1) := by decide +kernel
theorem dX3_box_20 : decode cX3_box 20 = .ok (.aload_n 0, 1) := by decide +kernel
theorem dX3_box_21 : decode cX3_box 21 = .ok (.getfield 26, 3) := by decide +kernel
theorem dX3_box_24 : decode cX3_box 24 = .ok (.aload_n 0, 1) := by decide +kernel
theorem dX3_box_25 : decode cX3_box 25 = .ok (.getfield 12, 3) := by decide +kernel
theorem dX3_box_28 : decode cX3_box 28 = .ok (.invokevirtual 154, 3) := by decide +kernel
theorem dX3_box_31 : decode cX3_box 31 = .ok (.aload_n 0, 1) := by decide +kernel
theorem dX3_box_32 : decode cX3_box 32 = .ok (.getfield 26, 3) := by decide +kernel
theorem dX3_box_35 : decode cX3_box 35 = .ok (.iload_n 1, 1) := by decide +kernel
theorem dX3_box_36 : decode cX3_box 36 = .ok (.invokevirtual 158, 3) := by decide +kernel
theorem dX3_box_39 : decode cX3_box 39 = .ok (.aload_n 0, 1) := by decide +kernel
theorem dX3_box_40 : decode cX3_box 40 = .ok (.getfield 26, 3) := by decide +kernel
theorem dX3_box_43 : decode cX3_box 43 = .ok (.aload_n 0, 1) := by decide +kernel
theorem dX3_box_44 : decode cX3_box 44 = .ok (.getfield 26, 3) := by decide +kernel
theorem dX3_box_47 : decode cX3_box 47 = .ok (.iload_n 2, 1) := by decide +kernel
theorem dX3_box_48 : decode cX3_box 48 = .ok (.invokevirtual 162, 3) := by decide +kernel
theorem dX3_box_51 : decode cX3_box 51 = .ok (.iload_n 3, 1) := by decide +kernel
theorem dX3_box_52 : decode cX3_box 52 = .ok (.invokevirtual 174, 3) := by decide +kernel
theorem dX3_box_55 : decode cX3_box 55 = .ok (.ireturn, 1) := by decide +kernel
set_option maxRecDepth 20000 in
theorem ggX3_best_X2_read : GoodIn wsX3_best wsX2_read := goodIn_r _ [8, 9, 10, 11, 12, 13, 14, 15, 16, 17, 18, 19, 20, 21, 22, 23, 24, 25, 26, 27, 28, 29, 30, 31, 32, 83, 84, 85, 86, 87, 88, 89, 90, 91, 92, 93, 94] (by decide +kernel) (by decide +kernel)
set_option maxRecDepth 20000 in
theorem gX3_best_X2_read : GoodIn wsX3_best (wsV RX3 154 RX2 yX2_read wsX2_read) := goodIn_app (goodIn_of _ (by decide +kernel)) ggX3_best_X2_read
set_option maxRecDepth 20000 in
theorem ggX3_best_X2_bestCuts : GoodIn wsX3_best wsX2_bestCuts := goodIn_r _ [36, 9, 37, 38, 39, 40, 41, 42, 43, 7, 44, 45, 46, 47, 48, 49, 50, 12, 51, 52, 53, 54, 55, 56, 57, 58, 59, 60, 61, 62, 63, 64, 65, 66, 67, 10, 68, 69, 70, 71, 72, 73, 74, 83, 84, 85, 86, 87, 88, 89] (by decide +kernel) (by decide +kernel)
set_option maxRecDepth 20000 in
theorem gX3_best_X2_bestCuts : GoodIn wsX3_best (wsV RX3 180 RX2 yX2_bestCuts wsX2_bestCuts) := goodIn_app (goodIn_of _ (by decide +kernel)) ggX3_best_X2_bestCuts
theorem dX3_best_0 : decode cX3_best 0 = .ok (.aload_n 0, 1) := by decide +kernel
theorem dX3_best_1 : decode cX3_best 1 = .ok (.getfield 26, 3) := by decide +kernel
theorem dX3_best_4 : decode cX3_best 4 = .ok (.aload_n 0, 1) := by decide +kernel
theorem dX3_best_5 : decode cX3_best 5 = .ok (.getfield 12, 3) := by decide +kernel
theorem dX3_best_8 : decode cX3_best 8 = .ok (.invokevirtual 154, 3) := by decide +kernel
theorem dX3_best_11 : decode cX3_best 11 = .ok (.aload_n 0, 1) := by decide +kernel
theorem dX3_best_12 : decode cX3_best 12 = .ok (.getfield 26, 3) := by decide +kernel
theorem dX3_best_15 : decode cX3_best 15 = .ok (.getfield 177, 3) := by decide +kernel
theorem dX3_best_18 : decode cX3_best 18 = .ok (.ifCond .ne 8, 3) := by decide +kernel
theorem dX3_best_21 : decode cX3_best 21 = .ok (.bipush (-9), 2) := by decide +kernel
theorem dX3_best_23 : decode cX3_best 23 = .ok (.goto 10, 3) := by decide +kernel
theorem dX3_best_26 : decode cX3_best 26 = .ok (.aload_n 0, 1) := by decide +kernel
theorem dX3_best_27 : decode cX3_best 27 = .ok (.getfield 26, 3) := by decide +kernel
theorem dX3_best_30 : decode cX3_best 30 = .ok (.invokevirtual 180, 3) := by decide +kernel
theorem dX3_best_33 : decode cX3_best 33 = .ok (.ireturn, 1) := by decide +kernel
set_option maxRecDepth 20000 in
theorem ggX3_keep_X3_isYear : GoodIn wsX3_keep wsX3_isYear := goodIn_r _ [9] (by decide +kernel) (by decide +kernel)
set_option maxRecDepth 20000 in
theorem gX3_keep_X3_isYear : GoodIn wsX3_keep (va_wsS RX3 183 yX3_isYear wsX3_isYear) := goodIn_app (goodIn_of _ (by decide +kernel)) ggX3_keep_X3_isYear
set_option maxRecDepth 20000 in
theorem ggX3_keep_X0_init : GoodIn wsX3_keep wsX0_init := goodIn_r _ [11, 12, 13, 14, 15, 16, 48, 49, 50, 51, 52] (by decide +kernel) (by decide +kernel)
set_option maxRecDepth 20000 in
theorem gX3_keep_X0_init_n11 : GoodIn wsX3_keep (wsX0_init) := ggX3_keep_X0_init
set_option maxRecDepth 20000 in
theorem ggX3_keep_X0_copy : GoodIn wsX3_keep wsX0_copy := goodIn_r _ [20, 21, 22, 23, 24, 16, 48, 49, 50, 51, 52] (by decide +kernel) (by decide +kernel)
set_option maxRecDepth 20000 in
theorem gX3_keep_X0_copy : GoodIn wsX3_keep (wsV RX3 186 RX0 yX0_copy wsX0_copy) := goodIn_app (goodIn_of _ (by decide +kernel)) ggX3_keep_X0_copy
set_option maxRecDepth 20000 in
theorem ggX3_keep_X0_landCells : GoodIn wsX3_keep wsX0_landCells := goodIn_r _ [28, 29, 30, 31, 4, 32, 16, 33, 34, 35, 36, 37, 38, 39, 48, 49, 50, 51, 52] (by decide +kernel) (by decide +kernel)
set_option maxRecDepth 20000 in
theorem gX3_keep_X0_landCells : GoodIn wsX3_keep (wsV RX3 189 RX0 yX0_landCells wsX0_landCells) := goodIn_app (goodIn_of _ (by decide +kernel)) ggX3_keep_X0_landCells
theorem dX3_keep_0 : decode cX3_keep 0 = .ok (.iload_n 1, 1) := by decide +kernel
theorem dX3_keep_1 : decode cX3_keep 1 = .ok (.invokestatic 183, 3) := by decide +kernel
theorem dX3_keep_4 : decode cX3_keep 4 = .ok (.ifCond .ne 5, 3) := by decide +kernel
theorem dX3_keep_7 : decode cX3_keep 7 = .ok (.iconst (-1), 1) := by decide +kernel
theorem dX3_keep_8 : decode cX3_keep 8 = .ok (.ireturn, 1) := by decide +kernel
theorem dX3_keep_9 : decode cX3_keep 9 = .ok (.aload_n 0, 1) := by decide +kernel
theorem dX3_keep_10 : decode cX3_keep 10 = .ok (.getfield 30, 3) := by decide +kernel
theorem dX3_keep_13 : decode cX3_keep 13 = .ok (.iload_n 1, 1) := by decide +kernel
theorem dX3_keep_14 : decode cX3_keep 14 = .ok (.aaload, 1) := by decide +kernel
theorem dX3_keep_15 : decode cX3_keep 15 = .ok (.astore_n 2, 1) := by decide +kernel
theorem dX3_keep_16 : decode cX3_keep 16 = .ok (.aload_n 2, 1) := by decide +kernel
theorem dX3_keep_17 : decode cX3_keep 17 = .ok (.ifnonnull 18, 3) := by decide +kernel
theorem dX3_keep_20 : decode cX3_keep 20 = .ok (.new 9, 3) := by decide +kernel
theorem dX3_keep_23 : decode cX3_keep 23 = .ok (.dup, 1) := by decide +kernel
theorem dX3_keep_24 : decode cX3_keep 24 = .ok (.invokespecial 11, 3) := by decide +kernel
theorem dX3_keep_27 : decode cX3_keep 27 = .ok (.astore_n 2, 1) := by decide +kernel
theorem dX3_keep_28 : decode cX3_keep 28 = .ok (.aload_n 0, 1) := by decide +kernel
theorem dX3_keep_29 : decode cX3_keep 29 = .ok (.getfield 30, 3) := by decide +kernel
theorem dX3_keep_32 : decode cX3_keep 32 = .ok (.iload_n 1, 1) := by decide +kernel
theorem dX3_keep_33 : decode cX3_keep 33 = .ok (.aload_n 2, 1) := by decide +kernel
theorem dX3_keep_34 : decode cX3_keep 34 = .ok (.aastore, 1) := by decide +kernel
theorem dX3_keep_35 : decode cX3_keep 35 = .ok (.aload_n 2, 1) := by decide +kernel
theorem dX3_keep_36 : decode cX3_keep 36 = .ok (.aload_n 0, 1) := by decide +kernel
theorem dX3_keep_37 : decode cX3_keep 37 = .ok (.getfield 12, 3) := by decide +kernel
theorem dX3_keep_40 : decode cX3_keep 40 = .ok (.invokevirtual 186, 3) := by decide +kernel
theorem dX3_keep_43 : decode cX3_keep 43 = .ok (.aload_n 0, 1) := by decide +kernel
theorem dX3_keep_44 : decode cX3_keep 44 = .ok (.getfield 12, 3) := by decide +kernel
theorem dX3_keep_47 : decode cX3_keep 47 = .ok (.invokevirtual 189, 3) := by decide +kernel
theorem dX3_keep_50 : decode cX3_keep 50 = .ok (.ireturn, 1) := by decide +kernel
set_option maxRecDepth 20000 in
theorem ggX3_back_X3_isYear : GoodIn wsX3_back wsX3_isYear := goodIn_r _ [7] (by decide +kernel) (by decide +kernel)
set_option maxRecDepth 20000 in
theorem gX3_back_X3_isYear : GoodIn wsX3_back (va_wsS RX3 183 yX3_isYear wsX3_isYear) := goodIn_app (goodIn_of _ (by decide +kernel)) ggX3_back_X3_isYear
set_option maxRecDepth 20000 in
theorem ggX3_back_X0_copy : GoodIn wsX3_back wsX0_copy := goodIn_r _ [12, 13, 14, 15, 16, 17, 53, 54, 55, 56, 57] (by decide +kernel) (by decide +kernel)
set_option maxRecDepth 20000 in
theorem gX3_back_X0_copy : GoodIn wsX3_back (wsV RX3 186 RX0 yX0_copy wsX0_copy) := goodIn_app (goodIn_of _ (by decide +kernel)) ggX3_back_X0_copy
set_option maxRecDepth 20000 in
theorem ggX3_back_X3_forgetKinds : GoodIn wsX3_back wsX3_forgetKinds := goodIn_r _ [21, 22, 23, 45, 46, 47, 48, 49, 50, 51, 52] (by decide +kernel) (by decide +kernel)
set_option maxRecDepth 20000 in
theorem gX3_back_X3_forgetKinds : GoodIn wsX3_back (wsV RX3 48 RX3 yX3_forgetKinds wsX3_forgetKinds) := goodIn_app (goodIn_of _ (by decide +kernel)) ggX3_back_X3_forgetKinds
set_option maxRecDepth 20000 in
theorem ggX3_back_X1_forget : GoodIn wsX3_back wsX1_forget := goodIn_r _ [28, 29, 58, 59, 60, 61, 62] (by decide +kernel) (by decide +kernel)
set_option maxRecDepth 20000 in
theorem gX3_back_X1_forget : GoodIn wsX3_back (wsV RX3 51 RX1 yX1_forget wsX1_forget) := goodIn_app (goodIn_of _ (by decide +kernel)) ggX3_back_X1_forget
set_option maxRecDepth 20000 in
theorem ggX3_back_X0_landCells : GoodIn wsX3_back wsX0_landCells := goodIn_r _ [33, 34, 35, 36, 11, 37, 17, 38, 39, 40, 41, 42, 43, 44, 53, 54, 55, 56, 57] (by decide +kernel) (by decide +kernel)
set_option maxRecDepth 20000 in
theorem gX3_back_X0_landCells : GoodIn wsX3_back (wsV RX3 189 RX0 yX0_landCells wsX0_landCells) := goodIn_app (goodIn_of _ (by decide +kernel)) ggX3_back_X0_landCells
theorem dX3_back_0 : decode cX3_back 0 = .ok (.iload_n 1, 1) := by decide +kernel
theorem dX3_back_1 : decode cX3_back 1 = .ok (.invokestatic 183, 3) := by decide +kernel
theorem dX3_back_4 : decode cX3_back 4 = .ok (.ifCond .ne 5, 3) := by decide +kernel
theorem dX3_back_7 : decode cX3_back 7 = .ok (.iconst (-1), 1) := by decide +kernel
theorem dX3_back_8 : decode cX3_back 8 = .ok (.ireturn, 1) := by decide +kernel
theorem dX3_back_9 : decode cX3_back 9 = .ok (.aload_n 0, 1) := by decide +kernel
theorem dX3_back_10 : decode cX3_back 10 = .ok (.getfield 30, 3) := by decide +kernel
theorem dX3_back_13 : decode cX3_back 13 = .ok (.iload_n 1, 1) := by decide +kernel
theorem dX3_back_14 : decode cX3_back 14 = .ok (.aaload, 1) := by decide +kernel
theorem dX3_back_15 : decode cX3_back 15 = .ok (.astore_n 2, 1) := by decide +kernel
theorem dX3_back_16 : decode cX3_back 16 = .ok (.aload_n 2, 1) := by decide +kernel
theorem dX3_back_17 : decode cX3_back 17 = .ok (.ifnonnull 6, 3) := by decide +kernel
theorem dX3_back_20 : decode cX3_back 20 = .ok (.bipush (-2), 2) := by decide +kernel
theorem dX3_back_22 : decode cX3_back 22 = .ok (.ireturn, 1) := by decide +kernel
theorem dX3_back_23 : decode cX3_back 23 = .ok (.aload_n 0, 1) := by decide +kernel
theorem dX3_back_24 : decode cX3_back 24 = .ok (.getfield 12, 3) := by decide +kernel
theorem dX3_back_27 : decode cX3_back 27 = .ok (.aload_n 2, 1) := by decide +kernel
theorem dX3_back_28 : decode cX3_back 28 = .ok (.invokevirtual 186, 3) := by decide +kernel
theorem dX3_back_31 : decode cX3_back 31 = .ok (.aload_n 0, 1) := by decide +kernel
theorem dX3_back_32 : decode cX3_back 32 = .ok (.invokevirtual 48, 3) := by decide +kernel
theorem dX3_back_35 : decode cX3_back 35 = .ok (.aload_n 0, 1) := by decide +kernel
theorem dX3_back_36 : decode cX3_back 36 = .ok (.getfield 19, 3) := by decide +kernel
theorem dX3_back_39 : decode cX3_back 39 = .ok (.invokevirtual 51, 3) := by decide +kernel
theorem dX3_back_42 : decode cX3_back 42 = .ok (.aload_n 0, 1) := by decide +kernel
theorem dX3_back_43 : decode cX3_back 43 = .ok (.getfield 12, 3) := by decide +kernel
theorem dX3_back_46 : decode cX3_back 46 = .ok (.invokevirtual 189, 3) := by decide +kernel
theorem dX3_back_49 : decode cX3_back 49 = .ok (.ireturn, 1) := by decide +kernel
set_option maxRecDepth 20000 in
theorem ggX3_moved_X3_isYear : GoodIn wsX3_moved wsX3_isYear := goodIn_r _ [5] (by decide +kernel) (by decide +kernel)
set_option maxRecDepth 20000 in
theorem gX3_moved_X3_isYear : GoodIn wsX3_moved (va_wsS RX3 183 yX3_isYear wsX3_isYear) := goodIn_app (goodIn_of _ (by decide +kernel)) ggX3_moved_X3_isYear
set_option maxRecDepth 20000 in
theorem ggX3_moved_X0_isAsLargeAs : GoodIn wsX3_moved wsX0_isAsLargeAs := goodIn_r _ [10, 11, 12, 33, 34, 35, 36, 37] (by decide +kernel) (by decide +kernel)
set_option maxRecDepth 20000 in
theorem gX3_moved_X0_isAsLargeAs : GoodIn wsX3_moved (wsV RX3 192 RX0 yX0_isAsLargeAs wsX0_isAsLargeAs) := goodIn_app (goodIn_of _ (by decide +kernel)) ggX3_moved_X0_isAsLargeAs
set_option maxRecDepth 20000 in
theorem ggX3_moved_X0_unlike : GoodIn wsX3_moved wsX0_unlike := goodIn_r _ [16, 17, 18, 19, 20, 21, 22, 23, 24, 33, 34, 35, 36, 37] (by decide +kernel) (by decide +kernel)
set_option maxRecDepth 20000 in
theorem gX3_moved_X0_unlike : GoodIn wsX3_moved (wsV RX3 196 RX0 yX0_unlike wsX0_unlike) := goodIn_app (goodIn_of _ (by decide +kernel)) ggX3_moved_X0_unlike
theorem dX3_moved_0 : decode cX3_moved 0 = .ok (.iload_n 1, 1) := by decide +kernel
theorem dX3_moved_1 : decode cX3_moved 1 = .ok (.invokestatic 183, 3) := by decide +kernel
theorem dX3_moved_4 : decode cX3_moved 4 = .ok (.ifCond .eq 10, 3) := by decide +kernel
theorem dX3_moved_7 : decode cX3_moved 7 = .ok (.iload_n 2, 1) := by decide +kernel
theorem dX3_moved_8 : decode cX3_moved 8 = .ok (.invokestatic 183, 3) := by decide +kernel
theorem dX3_moved_11 : decode cX3_moved 11 = .ok (.ifCond .ne 5, 3) := by decide +kernel
theorem dX3_moved_14 : decode cX3_moved 14 = .ok (.iconst (-1), 1) := by decide +kernel
theorem dX3_moved_15 : decode cX3_moved 15 = .ok (.ireturn, 1) := by decide +kernel
theorem dX3_moved_16 : decode cX3_moved 16 = .ok (.aload_n 0, 1) := by decide +kernel
theorem dX3_moved_17 : decode cX3_moved 17 = .ok (.getfield 30, 3) := by decide +kernel
theorem dX3_moved_20 : decode cX3_moved 20 = .ok (.iload_n 1, 1) := by decide +kernel
theorem dX3_moved_21 : decode cX3_moved 21 = .ok (.aaload, 1) := by decide +kernel
theorem dX3_moved_22 : decode cX3_moved 22 = .ok (.astore_n 3, 1) := by decide +kernel
theorem dX3_moved_23 : decode cX3_moved 23 = .ok (.aload_n 0, 1) := by decide +kernel
theorem dX3_moved_24 : decode cX3_moved 24 = .ok (.getfield 30, 3) := by decide +kernel
theorem dX3_moved_27 : decode cX3_moved 27 = .ok (.iload_n 2, 1) := by decide +kernel
theorem dX3_moved_28 : decode cX3_moved 28 = .ok (.aaload, 1) := by decide +kernel
theorem dX3_moved_29 : decode cX3_moved 29 = .ok (.astore 4, 2) := by decide +kernel
theorem dX3_moved_31 : decode cX3_moved 31 = .ok (.aload_n 3, 1) := by decide +kernel
theorem dX3_moved_32 : decode cX3_moved 32 = .ok (.ifnull 17, 3) := by decide +kernel
theorem dX3_moved_35 : decode cX3_moved 35 = .ok (.aload 4, 2) := by decide +kernel
theorem dX3_moved_37 : decode cX3_moved 37 = .ok (.ifnull 12, 3) := by decide +kernel
theorem dX3_moved_40 : decode cX3_moved 40 = .ok (.aload_n 3, 1) := by decide +kernel
theorem dX3_moved_41 : decode cX3_moved 41 = .ok (.aload 4, 2) := by decide +kernel
theorem dX3_moved_43 : decode cX3_moved 43 = .ok (.invokevirtual 192, 3) := by decide +kernel
theorem dX3_moved_46 : decode cX3_moved 46 = .ok (.ifCond .ne 6, 3) := by decide +kernel
theorem dX3_moved_49 : decode cX3_moved 49 = .ok (.bipush (-9), 2) := by decide +kernel
theorem dX3_moved_51 : decode cX3_moved 51 = .ok (.ireturn, 1) := by decide +kernel
theorem dX3_moved_52 : decode cX3_moved 52 = .ok (.aload_n 3, 1) := by decide +kernel
theorem dX3_moved_53 : decode cX3_moved 53 = .ok (.aload 4, 2) := by decide +kernel
theorem dX3_moved_55 : decode cX3_moved 55 = .ok (.invokevirtual 196, 3) := by decide +kernel
theorem dX3_moved_58 : decode cX3_moved 58 = .ok (.ireturn, 1) := by decide +kernel
set_option maxRecDepth 20000 in
theorem ggX3_count_X0_peopled : GoodIn wsX3_count wsX0_peopled := goodIn_r _ [11, 12, 21, 22, 23, 24, 25] (by decide +kernel) (by decide +kernel)
set_option maxRecDepth 20000 in
theorem gX3_count_X0_peopled : GoodIn wsX3_count (wsV RX3 206 RX0 yX0_peopled wsX0_peopled) := goodIn_app (goodIn_of _ (by decide +kernel)) ggX3_count_X0_peopled
theorem dX3_count_0 : decode cX3_count 0 = .ok (.iload_n 1, 1) := by decide +kernel
theorem dX3_count_1 : decode cX3_count 1 = .ok (.tableswitch 75 0 4 #[35, 43, 51, 59, 67], 35) := by decide +kernel
theorem dX3_count_36 : decode cX3_count 36 = .ok (.aload_n 0, 1) := by decide +kernel
theorem dX3_count_37 : decode cX3_count 37 = .ok (.getfield 12, 3) := by decide +kernel
theorem dX3_count_40 : decode cX3_count 40 = .ok (.getfield 200, 3) := by decide +kernel
theorem dX3_count_43 : decode cX3_count 43 = .ok (.ireturn, 1) := by decide +kernel
theorem dX3_count_44 : decode cX3_count 44 = .ok (.aload_n 0, 1) := by decide +kernel
theorem dX3_count_45 : decode cX3_count 45 = .ok (.getfield 12, 3) := by decide +kernel
theorem dX3_count_48 : decode cX3_count 48 = .ok (.getfield 203, 3) := by decide +kernel
theorem dX3_count_51 : decode cX3_count 51 = .ok (.ireturn, 1) := by decide +kernel
theorem dX3_count_52 : decode cX3_count 52 = .ok (.aload_n 0, 1) := by decide +kernel
theorem dX3_count_53 : decode cX3_count 53 = .ok (.getfield 12, 3) := by decide +kernel
theorem dX3_count_56 : decode cX3_count 56 = .ok (.invokevirtual 206, 3) := by decide +kernel
theorem dX3_count_59 : decode cX3_count 59 = .ok (.ireturn, 1) := by decide +kernel
theorem dX3_count_60 : decode cX3_count 60 = .ok (.aload_n 0, 1) := by decide +kernel
theorem dX3_count_61 : decode cX3_count 61 = .ok (.getfield 19, 3) := by decide +kernel
theorem dX3_count_64 : decode cX3_count 64 = .ok (.getfield 130, 3) := by decide +kernel
theorem dX3_count_67 : decode cX3_count 67 = .ok (.ireturn, 1) := by decide +kernel
theorem dX3_count_68 : decode cX3_count 68 = .ok (.aload_n 0, 1) := by decide +kernel
theorem dX3_count_69 : decode cX3_count 69 = .ok (.getfield 19, 3) := by decide +kernel
theorem dX3_count_72 : decode cX3_count 72 = .ok (.getfield 209, 3) := by decide +kernel
theorem dX3_count_75 : decode cX3_count 75 = .ok (.ireturn, 1) := by decide +kernel
theorem dX3_count_76 : decode cX3_count 76 = .ok (.iconst (-1), 1) := by decide +kernel
theorem dX3_count_77 : decode cX3_count 77 = .ok (.ireturn, 1) := by decide +kernel
theorem dX3_trace_0 : decode cX3_trace 0 = .ok (.aload_n 0, 1) := by decide +kernel
theorem dX3_trace_1 : decode cX3_trace 1 = .ok (.getfield 107, 3) := by decide +kernel
theorem dX3_trace_4 : decode cX3_trace 4 = .ok (.lreturn, 1) := by decide +kernel
theorem dX3_forgetKinds_0 : decode cX3_forgetKinds 0 = .ok (.iconst 0, 1) := by decide +kernel
theorem dX3_forgetKinds_1 : decode cX3_forgetKinds 1 = .ok (.istore_n 1, 1) := by decide +kernel
theorem dX3_forgetKinds_2 : decode cX3_forgetKinds 2 = .ok (.iload_n 1, 1) := by decide +kernel
theorem dX3_forgetKinds_3 : decode cX3_forgetKinds 3 = .ok (.bipush 6, 2) := by decide +kernel
theorem dX3_forgetKinds_5 : decode cX3_forgetKinds 5 = .ok (.if_icmp .ge 24, 3) := by decide +kernel
theorem dX3_forgetKinds_8 : decode cX3_forgetKinds 8 = .ok (.aload_n 0, 1) := by decide +kernel
theorem dX3_forgetKinds_9 : decode cX3_forgetKinds 9 = .ok (.getfield 34, 3) := by decide +kernel
theorem dX3_forgetKinds_12 : decode cX3_forgetKinds 12 = .ok (.iload_n 1, 1) := by decide +kernel
theorem dX3_forgetKinds_13 : decode cX3_forgetKinds 13 = .ok (.iconst 0, 1) := by decide +kernel
theorem dX3_forgetKinds_14 : decode cX3_forgetKinds 14 = .ok (.iastore, 1) := by decide +kernel
theorem dX3_forgetKinds_15 : decode cX3_forgetKinds 15 = .ok (.aload_n 0, 1) := by decide +kernel
theorem dX3_forgetKinds_16 : decode cX3_forgetKinds 16 = .ok (.getfield 38, 3) := by decide +kernel
theorem dX3_forgetKinds_19 : decode cX3_forgetKinds 19 = .ok (.iload_n 1, 1) := by decide +kernel
theorem dX3_forgetKinds_20 : decode cX3_forgetKinds 20 = .ok (.bipush (-9), 2) := by decide +kernel
theorem dX3_forgetKinds_22 : decode cX3_forgetKinds 22 = .ok (.iastore, 1) := by decide +kernel
theorem dX3_forgetKinds_23 : decode cX3_forgetKinds 23 = .ok (.iinc 1 1, 3) := by decide +kernel
theorem dX3_forgetKinds_26 : decode cX3_forgetKinds 26 = .ok (.goto (-24), 3) := by decide +kernel
theorem dX3_forgetKinds_29 : decode cX3_forgetKinds 29 = .ok (.return_, 1) := by decide +kernel
theorem dX3_bodiesAsked_0 : decode cX3_bodiesAsked 0 = .ok (.iload_n 0, 1) := by decide +kernel
theorem dX3_bodiesAsked_1 : decode cX3_bodiesAsked 1 = .ok (.iconst 2, 1) := by decide +kernel
theorem dX3_bodiesAsked_2 : decode cX3_bodiesAsked 2 = .ok (.if_icmp .ne 8, 3) := by decide +kernel
theorem dX3_bodiesAsked_5 : decode cX3_bodiesAsked 5 = .ok (.bipush 111, 2) := by decide +kernel
theorem dX3_bodiesAsked_7 : decode cX3_bodiesAsked 7 = .ok (.goto 14, 3) := by decide +kernel
theorem dX3_bodiesAsked_10 : decode cX3_bodiesAsked 10 = .ok (.iload_n 0, 1) := by decide +kernel
theorem dX3_bodiesAsked_11 : decode cX3_bodiesAsked 11 = .ok (.iconst 1, 1) := by decide +kernel
theorem dX3_bodiesAsked_12 : decode cX3_bodiesAsked 12 = .ok (.if_icmp .ne 8, 3) := by decide +kernel
theorem dX3_bodiesAsked_15 : decode cX3_bodiesAsked 15 = .ok (.bipush 11, 2) := by decide +kernel
theorem dX3_bodiesAsked_17 : decode cX3_bodiesAsked 17 = .ok (.goto 4, 3) := by decide +kernel
theorem dX3_bodiesAsked_20 : decode cX3_bodiesAsked 20 = .ok (.iconst 1, 1) := by decide +kernel
theorem dX3_bodiesAsked_21 : decode cX3_bodiesAsked 21 = .ok (.ireturn, 1) := by decide +kernel
set_option maxRecDepth 20000 in
theorem ggX3_letsGo_X3_isLand : GoodIn wsX3_letsGo wsX3_isLand := goodIn_r _ [8] (by decide +kernel) (by decide +kernel)
set_option maxRecDepth 20000 in
theorem gX3_letsGo_X3_isLand : GoodIn wsX3_letsGo (va_wsS RX3 73 yX3_isLand wsX3_isLand) := goodIn_app (goodIn_of _ (by decide +kernel)) ggX3_letsGo_X3_isLand
set_option maxRecDepth 20000 in
theorem ggX3_letsGo_X0_cellsOf : GoodIn wsX3_letsGo wsX0_cellsOf := goodIn_r _ [13, 14, 6, 7, 8, 51, 52, 53, 54, 55] (by decide +kernel) (by decide +kernel)
set_option maxRecDepth 20000 in
theorem gX3_letsGo_X0_cellsOf : GoodIn wsX3_letsGo (wsV RX3 79 RX0 yX0_cellsOf wsX0_cellsOf) := goodIn_app (goodIn_of _ (by decide +kernel)) ggX3_letsGo_X0_cellsOf
set_option maxRecDepth 20000 in
theorem ggX3_letsGo_X3_bit : GoodIn wsX3_letsGo wsX3_bit := goodIn_r _ [17] (by decide +kernel) (by decide +kernel)
set_option maxRecDepth 20000 in
theorem gX3_letsGo_X3_bit : GoodIn wsX3_letsGo (va_wsS RX3 212 yX3_bit wsX3_bit) := goodIn_app (goodIn_of _ (by decide +kernel)) ggX3_letsGo_X3_bit
set_option maxRecDepth 20000 in
theorem ggX3_letsGo_X3_isWhole : GoodIn wsX3_letsGo wsX3_isWhole := goodIn_r _ [20, 21, 22, 7, 23, 24, 25, 26, 27, 28, 29, 30, 31] (by decide +kernel) (by decide +kernel)
set_option maxRecDepth 20000 in
theorem gX3_letsGo_X3_isWhole : GoodIn wsX3_letsGo (va_wsS RX3 83 yX3_isWhole wsX3_isWhole) := goodIn_app (goodIn_of _ (by decide +kernel)) ggX3_letsGo_X3_isWhole
set_option maxRecDepth 20000 in
theorem ggX3_letsGo_X0_isAtSea : GoodIn wsX3_letsGo wsX0_isAtSea := goodIn_r _ [35, 36, 37, 38, 39, 40, 41, 12, 42, 14, 22, 7, 23, 24, 25, 26, 27, 28, 29, 30, 31, 51, 52, 53, 54, 55] (by decide +kernel) (by decide +kernel)
set_option maxRecDepth 20000 in
theorem gX3_letsGo_X0_isAtSea : GoodIn wsX3_letsGo (wsV RX3 91 RX0 yX0_isAtSea wsX0_isAtSea) := goodIn_app (goodIn_of _ (by decide +kernel)) ggX3_letsGo_X0_isAtSea
theorem dX3_letsGo_0 : decode cX3_letsGo 0 = .ok (.iload_n 1, 1) := by decide +kernel
theorem dX3_letsGo_1 : decode cX3_letsGo 1 = .ok (.invokestatic 73, 3) := by decide +kernel
theorem dX3_letsGo_4 : decode cX3_letsGo 4 = .ok (.ifCond .ne 5, 3) := by decide +kernel
theorem dX3_letsGo_7 : decode cX3_letsGo 7 = .ok (.iconst 0, 1) := by decide +kernel
theorem dX3_letsGo_8 : decode cX3_letsGo 8 = .ok (.ireturn, 1) := by decide +kernel
theorem dX3_letsGo_9 : decode cX3_letsGo 9 = .ok (.aload_n 0, 1) := by decide +kernel
theorem dX3_letsGo_10 : decode cX3_letsGo 10 = .ok (.getfield 12, 3) := by decide +kernel
theorem dX3_letsGo_13 : decode cX3_letsGo 13 = .ok (.iload_n 1, 1) := by decide +kernel
theorem dX3_letsGo_14 : decode cX3_letsGo 14 = .ok (.invokevirtual 79, 3) := by decide +kernel
theorem dX3_letsGo_17 : decode cX3_letsGo 17 = .ok (.iload_n 2, 1) := by decide +kernel
theorem dX3_letsGo_18 : decode cX3_letsGo 18 = .ok (.invokestatic 212, 3) := by decide +kernel
theorem dX3_letsGo_21 : decode cX3_letsGo 21 = .ok (.ldc2_w 215, 3) := by decide +kernel
theorem dX3_letsGo_24 : decode cX3_letsGo 24 = .ok (.lxor, 1) := by decide +kernel
theorem dX3_letsGo_25 : decode cX3_letsGo 25 = .ok (.land, 1) := by decide +kernel
theorem dX3_letsGo_26 : decode cX3_letsGo 26 = .ok (.lstore_n 3, 1) := by decide +kernel
theorem dX3_letsGo_27 : decode cX3_letsGo 27 = .ok (.lload_n 3, 1) := by decide +kernel
theorem dX3_letsGo_28 : decode cX3_letsGo 28 = .ok (.invokestatic 83, 3) := by decide +kernel
theorem dX3_letsGo_31 : decode cX3_letsGo 31 = .ok (.istore 5, 2) := by decide +kernel
theorem dX3_letsGo_33 : decode cX3_letsGo 33 = .ok (.iload 5, 2) := by decide +kernel
theorem dX3_letsGo_35 : decode cX3_letsGo 35 = .ok (.ifCond .eq 17, 3) := by decide +kernel
theorem dX3_letsGo_38 : decode cX3_letsGo 38 = .ok (.iload_n 2, 1) := by decide +kernel
theorem dX3_letsGo_39 : decode cX3_letsGo 39 = .ok (.aload_n 0, 1) := by decide +kernel
theorem dX3_letsGo_40 : decode cX3_letsGo 40 = .ok (.getfield 38, 3) := by decide +kernel
theorem dX3_letsGo_43 : decode cX3_letsGo 43 = .ok (.iload_n 1, 1) := by decide +kernel
theorem dX3_letsGo_44 : decode cX3_letsGo 44 = .ok (.iaload, 1) := by decide +kernel
theorem dX3_letsGo_45 : decode cX3_letsGo 45 = .ok (.if_icmp .eq 7, 3) := by decide +kernel
theorem dX3_letsGo_48 : decode cX3_letsGo 48 = .ok (.iconst 1, 1) := by decide +kernel
theorem dX3_letsGo_49 : decode cX3_letsGo 49 = .ok (.goto 4, 3) := by decide +kernel
theorem dX3_letsGo_52 : decode cX3_letsGo 52 = .ok (.iconst 0, 1) := by decide +kernel
theorem dX3_letsGo_53 : decode cX3_letsGo 53 = .ok (.istore 6, 2) := by decide +kernel
theorem dX3_letsGo_55 : decode cX3_letsGo 55 = .ok (.iload 6, 2) := by decide +kernel
theorem dX3_letsGo_57 : decode cX3_letsGo 57 = .ok (.ifCond .eq 18, 3) := by decide +kernel
theorem dX3_letsGo_60 : decode cX3_letsGo 60 = .ok (.aload_n 0, 1) := by decide +kernel
theorem dX3_letsGo_61 : decode cX3_letsGo 61 = .ok (.getfield 12, 3) := by decide +kernel
theorem dX3_letsGo_64 : decode cX3_letsGo 64 = .ok (.lload_n 3, 1) := by decide +kernel
theorem dX3_letsGo_65 : decode cX3_letsGo 65 = .ok (.invokevirtual 91, 3) := by decide +kernel
theorem dX3_letsGo_68 : decode cX3_letsGo 68 = .ok (.ifCond .eq 7, 3) := by decide +kernel
theorem dX3_letsGo_71 : decode cX3_letsGo 71 = .ok (.iconst 1, 1) := by decide +kernel
theorem dX3_letsGo_72 : decode cX3_letsGo 72 = .ok (.goto 4, 3) := by decide +kernel
theorem dX3_letsGo_75 : decode cX3_letsGo 75 = .ok (.iconst 0, 1) := by decide +kernel
theorem dX3_letsGo_76 : decode cX3_letsGo 76 = .ok (.istore 7, 2) := by decide +kernel
theorem dX3_letsGo_78 : decode cX3_letsGo 78 = .ok (.aload_n 0, 1) := by decide +kernel
theorem dX3_letsGo_79 : decode cX3_letsGo 79 = .ok (.getfield 34, 3) := by decide +kernel
theorem dX3_letsGo_82 : decode cX3_letsGo 82 = .ok (.iload_n 1, 1) := by decide +kernel
theorem dX3_letsGo_83 : decode cX3_letsGo 83 = .ok (.iaload, 1) := by decide +kernel
theorem dX3_letsGo_84 : decode cX3_letsGo 84 = .ok (.iconst 2, 1) := by decide +kernel
theorem dX3_letsGo_85 : decode cX3_letsGo 85 = .ok (.if_icmp .ne 8, 3) := by decide +kernel
theorem dX3_letsGo_88 : decode cX3_letsGo 88 = .ok (.iload 7, 2) := by decide +kernel
theorem dX3_letsGo_90 : decode cX3_letsGo 90 = .ok (.goto 20, 3) := by decide +kernel
theorem dX3_letsGo_93 : decode cX3_letsGo 93 = .ok (.aload_n 0, 1) := by decide +kernel
theorem dX3_letsGo_94 : decode cX3_letsGo 94 = .ok (.getfield 34, 3) := by decide +kernel
theorem dX3_letsGo_97 : decode cX3_letsGo 97 = .ok (.iload_n 1, 1) := by decide +kernel
theorem dX3_letsGo_98 : decode cX3_letsGo 98 = .ok (.iaload, 1) := by decide +kernel
theorem dX3_letsGo_99 : decode cX3_letsGo 99 = .ok (.iconst 1, 1) := by decide +kernel
theorem dX3_letsGo_100 : decode cX3_letsGo 100 = .ok (.if_icmp .ne 8, 3) := by decide +kernel
theorem dX3_letsGo_103 : decode cX3_letsGo 103 = .ok (.iload 6, 2) := by decide +kernel
theorem dX3_letsGo_105 : decode cX3_letsGo 105 = .ok (.goto 5, 3) := by decide +kernel
theorem dX3_letsGo_108 : decode cX3_letsGo 108 = .ok (.iload 5, 2) := by decide +kernel
theorem dX3_letsGo_110 : decode cX3_letsGo 110 = .ok (.ireturn, 1) := by decide +kernel
set_option maxRecDepth 20000 in
theorem ggX3_canGo_X0_landOf : GoodIn wsX3_canGo wsX0_landOf := goodIn_r _ [6, 7, 8, 9, 10, 68, 69, 70, 71, 72] (by decide +kernel) (by decide +kernel)
set_option maxRecDepth 20000 in
theorem gX3_canGo_X0_landOf : GoodIn wsX3_canGo (wsV RX3 66 RX0 yX0_landOf wsX0_landOf) := goodIn_app (goodIn_of _ (by decide +kernel)) ggX3_canGo_X0_landOf
set_option maxRecDepth 20000 in
theorem ggX3_canGo_X3_bit : GoodIn wsX3_canGo wsX3_bit := goodIn_r _ [10] (by decide +kernel) (by decide +kernel)
set_option maxRecDepth 20000 in
theorem gX3_canGo_X3_bit : GoodIn wsX3_canGo (va_wsS RX3 212 yX3_bit wsX3_bit) := goodIn_app (goodIn_of _ (by decide +kernel)) ggX3_canGo_X3_bit
set_option maxRecDepth 20000 in
theorem ggX3_canGo_X3_around : GoodIn wsX3_canGo wsX3_around := goodIn_r _ [14, 15, 16, 9, 17, 18, 19, 20, 21, 22] (by decide +kernel) (by decide +kernel)
set_option maxRecDepth 20000 in
theorem gX3_canGo_X3_around : GoodIn wsX3_canGo (va_wsS RX3 94 yX3_around wsX3_around) := goodIn_app (goodIn_of _ (by decide +kernel)) ggX3_canGo_X3_around
set_option maxRecDepth 20000 in
theorem ggX3_canGo_X0_cellsOf : GoodIn wsX3_canGo wsX0_cellsOf := goodIn_r _ [26, 7, 27, 9, 28, 68, 69, 70, 71, 72] (by decide +kernel) (by decide +kernel)
set_option maxRecDepth 20000 in
theorem gX3_canGo_X0_cellsOf : GoodIn wsX3_canGo (wsV RX3 79 RX0 yX0_cellsOf wsX0_cellsOf) := goodIn_app (goodIn_of _ (by decide +kernel)) ggX3_canGo_X0_cellsOf
set_option maxRecDepth 20000 in
theorem ggX3_canGo_X3_letsGo : GoodIn wsX3_canGo wsX3_letsGo := goodIn_r _ [32, 1, 33, 34, 35, 36, 27, 9, 28, 23, 24, 25, 5, 26, 7, 11, 8, 10, 37, 38, 39, 12, 13, 14, 15, 16, 17, 18, 19, 20, 21, 22, 40, 41, 42, 43, 44, 45, 46, 47, 48, 49, 50, 60, 61, 62, 63, 64, 65, 66, 67, 68, 69, 70, 71, 72] (by decide +kernel) (by decide +kernel)
set_option maxRecDepth 20000 in
theorem gX3_canGo_X3_letsGo : GoodIn wsX3_canGo (wsV RX3 114 RX3 yX3_letsGo wsX3_letsGo) := goodIn_app (goodIn_of _ (by decide +kernel)) ggX3_canGo_X3_letsGo
set_option maxRecDepth 20000 in
theorem ggX3_canGo_X0_touching : GoodIn wsX3_canGo wsX0_touching := goodIn_r _ [54, 7, 13, 9, 14, 15, 16, 17, 18, 19, 20, 21, 22, 8, 10, 55, 41, 42, 5, 43, 44, 45, 46, 47, 48, 49, 50, 68, 69, 70, 71, 72] (by decide +kernel) (by decide +kernel)
set_option maxRecDepth 20000 in
theorem gX3_canGo_X0_touching : GoodIn wsX3_canGo (wsV RX3 217 RX0 yX0_touching wsX0_touching) := goodIn_app (goodIn_of _ (by decide +kernel)) ggX3_canGo_X0_touching
set_option maxRecDepth 20000 in
theorem ggX3_canGo_X0_put : GoodIn wsX3_canGo wsX0_put := goodIn_r _ [59, 7, 45, 8, 9, 10, 68, 69, 70, 71, 72] (by decide +kernel) (by decide +kernel)
set_option maxRecDepth 20000 in
theorem gX3_canGo_X0_put : GoodIn wsX3_canGo (wsV RX3 70 RX0 yX0_put wsX0_put) := goodIn_app (goodIn_of _ (by decide +kernel)) ggX3_canGo_X0_put
theorem dX3_canGo_0 : decode cX3_canGo 0 = .ok (.aload_n 0, 1) := by decide +kernel
theorem dX3_canGo_1 : decode cX3_canGo 1 = .ok (.getfield 12, 3) := by decide +kernel
theorem dX3_canGo_4 : decode cX3_canGo 4 = .ok (.iload_n 1, 1) := by decide +kernel
theorem dX3_canGo_5 : decode cX3_canGo 5 = .ok (.invokevirtual 66, 3) := by decide +kernel
theorem dX3_canGo_8 : decode cX3_canGo 8 = .ok (.istore_n 3, 1) := by decide +kernel
theorem dX3_canGo_9 : decode cX3_canGo 9 = .ok (.iload_n 3, 1) := by decide +kernel
theorem dX3_canGo_10 : decode cX3_canGo 10 = .ok (.bipush (-4), 2) := by decide +kernel
theorem dX3_canGo_12 : decode cX3_canGo 12 = .ok (.if_icmp .eq 38, 3) := by decide +kernel
theorem dX3_canGo_15 : decode cX3_canGo 15 = .ok (.iload_n 3, 1) := by decide +kernel
theorem dX3_canGo_16 : decode cX3_canGo 16 = .ok (.iload_n 2, 1) := by decide +kernel
theorem dX3_canGo_17 : decode cX3_canGo 17 = .ok (.if_icmp .eq 33, 3) := by decide +kernel
theorem dX3_canGo_20 : decode cX3_canGo 20 = .ok (.iload_n 1, 1) := by decide +kernel
theorem dX3_canGo_21 : decode cX3_canGo 21 = .ok (.invokestatic 212, 3) := by decide +kernel
theorem dX3_canGo_24 : decode cX3_canGo 24 = .ok (.invokestatic 94, 3) := by decide +kernel
theorem dX3_canGo_27 : decode cX3_canGo 27 = .ok (.aload_n 0, 1) := by decide +kernel
theorem dX3_canGo_28 : decode cX3_canGo 28 = .ok (.getfield 12, 3) := by decide +kernel
theorem dX3_canGo_31 : decode cX3_canGo 31 = .ok (.iload_n 2, 1) := by decide +kernel
theorem dX3_canGo_32 : decode cX3_canGo 32 = .ok (.invokevirtual 79, 3) := by decide +kernel
theorem dX3_canGo_35 : decode cX3_canGo 35 = .ok (.land, 1) := by decide +kernel
theorem dX3_canGo_36 : decode cX3_canGo 36 = .ok (.lconst 0, 1) := by decide +kernel
theorem dX3_canGo_37 : decode cX3_canGo 37 = .ok (.lcmp, 1) := by decide +kernel
theorem dX3_canGo_38 : decode cX3_canGo 38 = .ok (.ifCond .eq 12, 3) := by decide +kernel
theorem dX3_canGo_41 : decode cX3_canGo 41 = .ok (.aload_n 0, 1) := by decide +kernel
theorem dX3_canGo_42 : decode cX3_canGo 42 = .ok (.iload_n 3, 1) := by decide +kernel
theorem dX3_canGo_43 : decode cX3_canGo 43 = .ok (.iload_n 1, 1) := by decide +kernel
theorem dX3_canGo_44 : decode cX3_canGo 44 = .ok (.invokevirtual 114, 3) := by decide +kernel
theorem dX3_canGo_47 : decode cX3_canGo 47 = .ok (.ifCond .ne 5, 3) := by decide +kernel
theorem dX3_canGo_50 : decode cX3_canGo 50 = .ok (.iconst 0, 1) := by decide +kernel
theorem dX3_canGo_51 : decode cX3_canGo 51 = .ok (.ireturn, 1) := by decide +kernel
theorem dX3_canGo_52 : decode cX3_canGo 52 = .ok (.aload_n 0, 1) := by decide +kernel
theorem dX3_canGo_53 : decode cX3_canGo 53 = .ok (.getfield 12, 3) := by decide +kernel
theorem dX3_canGo_56 : decode cX3_canGo 56 = .ok (.invokevirtual 217, 3) := by decide +kernel
theorem dX3_canGo_59 : decode cX3_canGo 59 = .ok (.lstore 4, 2) := by decide +kernel
theorem dX3_canGo_61 : decode cX3_canGo 61 = .ok (.aload_n 0, 1) := by decide +kernel
theorem dX3_canGo_62 : decode cX3_canGo 62 = .ok (.getfield 12, 3) := by decide +kernel
theorem dX3_canGo_65 : decode cX3_canGo 65 = .ok (.iload_n 1, 1) := by decide +kernel
theorem dX3_canGo_66 : decode cX3_canGo 66 = .ok (.iload_n 2, 1) := by decide +kernel
theorem dX3_canGo_67 : decode cX3_canGo 67 = .ok (.invokevirtual 70, 3) := by decide +kernel
theorem dX3_canGo_70 : decode cX3_canGo 70 = .ok (.aload_n 0, 1) := by decide +kernel
theorem dX3_canGo_71 : decode cX3_canGo 71 = .ok (.getfield 12, 3) := by decide +kernel
theorem dX3_canGo_74 : decode cX3_canGo 74 = .ok (.invokevirtual 217, 3) := by decide +kernel
theorem dX3_canGo_77 : decode cX3_canGo 77 = .ok (.lstore 6, 2) := by decide +kernel
theorem dX3_canGo_79 : decode cX3_canGo 79 = .ok (.aload_n 0, 1) := by decide +kernel
theorem dX3_canGo_80 : decode cX3_canGo 80 = .ok (.getfield 12, 3) := by decide +kernel
theorem dX3_canGo_83 : decode cX3_canGo 83 = .ok (.iload_n 1, 1) := by decide +kernel
theorem dX3_canGo_84 : decode cX3_canGo 84 = .ok (.iload_n 3, 1) := by decide +kernel
theorem dX3_canGo_85 : decode cX3_canGo 85 = .ok (.invokevirtual 70, 3) := by decide +kernel
theorem dX3_canGo_88 : decode cX3_canGo 88 = .ok (.lload 4, 2) := by decide +kernel
theorem dX3_canGo_90 : decode cX3_canGo 90 = .ok (.lload 6, 2) := by decide +kernel
theorem dX3_canGo_92 : decode cX3_canGo 92 = .ok (.lcmp, 1) := by decide +kernel
theorem dX3_canGo_93 : decode cX3_canGo 93 = .ok (.ifCond .ne 7, 3) := by decide +kernel
theorem dX3_canGo_96 : decode cX3_canGo 96 = .ok (.iconst 1, 1) := by decide +kernel
theorem dX3_canGo_97 : decode cX3_canGo 97 = .ok (.goto 4, 3) := by decide +kernel
theorem dX3_canGo_100 : decode cX3_canGo 100 = .ok (.iconst 0, 1) := by decide +kernel
theorem dX3_canGo_101 : decode cX3_canGo 101 = .ok (.ireturn, 1) := by decide +kernel
set_option maxRecDepth 20000 in
theorem ggX3_go_X0_landOf : GoodIn wsX3_go wsX0_landOf := goodIn_r _ [7, 8, 9, 10, 11, 43, 44, 45, 46, 47] (by decide +kernel) (by decide +kernel)
set_option maxRecDepth 20000 in
theorem gX3_go_X0_landOf : GoodIn wsX3_go (wsV RX3 66 RX0 yX0_landOf wsX0_landOf) := goodIn_app (goodIn_of _ (by decide +kernel)) ggX3_go_X0_landOf
set_option maxRecDepth 20000 in
theorem ggX3_go_X1_add : GoodIn wsX3_go wsX1_add := goodIn_r _ [16, 17, 18, 19, 20, 21, 22, 23, 24, 25, 26, 27, 28, 29, 48, 49, 50, 51, 52] (by decide +kernel) (by decide +kernel)
set_option maxRecDepth 20000 in
theorem gX3_go_X1_add : GoodIn wsX3_go (wsV RX3 221 RX1 yX1_add wsX1_add) := goodIn_app (goodIn_of _ (by decide +kernel)) ggX3_go_X1_add
set_option maxRecDepth 20000 in
theorem ggX3_go_X0_put : GoodIn wsX3_go wsX0_put := goodIn_r _ [33, 8, 34, 9, 10, 11, 43, 44, 45, 46, 47] (by decide +kernel) (by decide +kernel)
set_option maxRecDepth 20000 in
theorem gX3_go_X0_put : GoodIn wsX3_go (wsV RX3 70 RX0 yX0_put wsX0_put) := goodIn_app (goodIn_of _ (by decide +kernel)) ggX3_go_X0_put
theorem dX3_go_0 : decode cX3_go 0 = .ok (.aload_n 0, 1) := by decide +kernel
theorem dX3_go_1 : decode cX3_go 1 = .ok (.getfield 19, 3) := by decide +kernel
theorem dX3_go_4 : decode cX3_go 4 = .ok (.iload_n 1, 1) := by decide +kernel
theorem dX3_go_5 : decode cX3_go 5 = .ok (.aload_n 0, 1) := by decide +kernel
theorem dX3_go_6 : decode cX3_go 6 = .ok (.getfield 12, 3) := by decide +kernel
theorem dX3_go_9 : decode cX3_go 9 = .ok (.iload_n 1, 1) := by decide +kernel
theorem dX3_go_10 : decode cX3_go 10 = .ok (.invokevirtual 66, 3) := by decide +kernel
theorem dX3_go_13 : decode cX3_go 13 = .ok (.invokevirtual 221, 3) := by decide +kernel
theorem dX3_go_16 : decode cX3_go 16 = .ok (.aload_n 0, 1) := by decide +kernel
theorem dX3_go_17 : decode cX3_go 17 = .ok (.getfield 12, 3) := by decide +kernel
theorem dX3_go_20 : decode cX3_go 20 = .ok (.iload_n 1, 1) := by decide +kernel
theorem dX3_go_21 : decode cX3_go 21 = .ok (.iload_n 2, 1) := by decide +kernel
theorem dX3_go_22 : decode cX3_go 22 = .ok (.invokevirtual 70, 3) := by decide +kernel
theorem dX3_go_25 : decode cX3_go 25 = .ok (.return_, 1) := by decide +kernel
set_option maxRecDepth 20000 in
theorem ggX3_missWith_X3_isLand : GoodIn wsX3_missWith wsX3_isLand := goodIn_r _ [9] (by decide +kernel) (by decide +kernel)
set_option maxRecDepth 20000 in
theorem gX3_missWith_X3_isLand : GoodIn wsX3_missWith (va_wsS RX3 73 yX3_isLand wsX3_isLand) := goodIn_app (goodIn_of _ (by decide +kernel)) ggX3_missWith_X3_isLand
theorem dX3_missWith_0 : decode cX3_missWith 0 = .ok (.iload_n 1, 1) := by decide +kernel
theorem dX3_missWith_1 : decode cX3_missWith 1 = .ok (.invokestatic 73, 3) := by decide +kernel
theorem dX3_missWith_4 : decode cX3_missWith 4 = .ok (.ifCond .eq 17, 3) := by decide +kernel
theorem dX3_missWith_7 : decode cX3_missWith 7 = .ok (.iload_n 2, 1) := by decide +kernel
theorem dX3_missWith_8 : decode cX3_missWith 8 = .ok (.aload_n 0, 1) := by decide +kernel
theorem dX3_missWith_9 : decode cX3_missWith 9 = .ok (.getfield 41, 3) := by decide +kernel
theorem dX3_missWith_12 : decode cX3_missWith 12 = .ok (.iload_n 1, 1) := by decide +kernel
theorem dX3_missWith_13 : decode cX3_missWith 13 = .ok (.iaload, 1) := by decide +kernel
theorem dX3_missWith_14 : decode cX3_missWith 14 = .ok (.isub, 1) := by decide +kernel
theorem dX3_missWith_15 : decode cX3_missWith 15 = .ok (.invokestatic 224, 3) := by decide +kernel
theorem dX3_missWith_18 : decode cX3_missWith 18 = .ok (.goto 4, 3) := by decide +kernel
theorem dX3_missWith_21 : decode cX3_missWith 21 = .ok (.iconst 0, 1) := by decide +kernel
theorem dX3_missWith_22 : decode cX3_missWith 22 = .ok (.ireturn, 1) := by decide +kernel
set_option maxRecDepth 20000 in
theorem ggX3_missBehind_X0_sizeOf : GoodIn wsX3_missBehind wsX0_sizeOf := goodIn_r _ [6, 7, 8, 9, 5, 10, 11, 12, 13, 14, 15, 16, 17, 18, 19, 20, 21, 40, 41, 42, 43, 44] (by decide +kernel) (by decide +kernel)
set_option maxRecDepth 20000 in
theorem gX3_missBehind_X0_sizeOf : GoodIn wsX3_missBehind (wsV RX3 76 RX0 yX0_sizeOf wsX0_sizeOf) := goodIn_app (goodIn_of _ (by decide +kernel)) ggX3_missBehind_X0_sizeOf
set_option maxRecDepth 20000 in
theorem ggX3_missBehind_X3_missWith : GoodIn wsX3_missBehind wsX3_missWith := goodIn_r _ [25, 26, 27, 28, 29, 30, 31, 12, 13, 14, 32, 33, 34, 35, 36, 37, 38, 39] (by decide +kernel) (by decide +kernel)
set_option maxRecDepth 20000 in
theorem gX3_missBehind_X3_missWith : GoodIn wsX3_missBehind (wsV RX3 123 RX3 yX3_missWith wsX3_missWith) := goodIn_app (goodIn_of _ (by decide +kernel)) ggX3_missBehind_X3_missWith
theorem dX3_missBehind_0 : decode cX3_missBehind 0 = .ok (.aload_n 0, 1) := by decide +kernel
theorem dX3_missBehind_1 : decode cX3_missBehind 1 = .ok (.getfield 12, 3) := by decide +kernel
theorem dX3_missBehind_4 : decode cX3_missBehind 4 = .ok (.iload_n 2, 1) := by decide +kernel
theorem dX3_missBehind_5 : decode cX3_missBehind 5 = .ok (.invokevirtual 76, 3) := by decide +kernel
theorem dX3_missBehind_8 : decode cX3_missBehind 8 = .ok (.istore 4, 2) := by decide +kernel
theorem dX3_missBehind_10 : decode cX3_missBehind 10 = .ok (.aload_n 0, 1) := by decide +kernel
theorem dX3_missBehind_11 : decode cX3_missBehind 11 = .ok (.getfield 12, 3) := by decide +kernel
theorem dX3_missBehind_14 : decode cX3_missBehind 14 = .ok (.iload_n 3, 1) := by decide +kernel
theorem dX3_missBehind_15 : decode cX3_missBehind 15 = .ok (.invokevirtual 76, 3) := by decide +kernel
theorem dX3_missBehind_18 : decode cX3_missBehind 18 = .ok (.istore 5, 2) := by decide +kernel
theorem dX3_missBehind_20 : decode cX3_missBehind 20 = .ok (.iload_n 1, 1) := by decide +kernel
theorem dX3_missBehind_21 : decode cX3_missBehind 21 = .ok (.aload_n 0, 1) := by decide +kernel
theorem dX3_missBehind_22 : decode cX3_missBehind 22 = .ok (.iload_n 2, 1) := by decide +kernel
theorem dX3_missBehind_23 : decode cX3_missBehind 23 = .ok (.iload 4, 2) := by decide +kernel
theorem dX3_missBehind_25 : decode cX3_missBehind 25 = .ok (.invokevirtual 123, 3) := by decide +kernel
theorem dX3_missBehind_28 : decode cX3_missBehind 28 = .ok (.isub, 1) := by decide +kernel
theorem dX3_missBehind_29 : decode cX3_missBehind 29 = .ok (.aload_n 0, 1) := by decide +kernel
theorem dX3_missBehind_30 : decode cX3_missBehind 30 = .ok (.iload_n 2, 1) := by decide +kernel
theorem dX3_missBehind_31 : decode cX3_missBehind 31 = .ok (.iload 4, 2) := by decide +kernel
theorem dX3_missBehind_33 : decode cX3_missBehind 33 = .ok (.iconst 1, 1) := by decide +kernel
theorem dX3_missBehind_34 : decode cX3_missBehind 34 = .ok (.isub, 1) := by decide +kernel
theorem dX3_missBehind_35 : decode cX3_missBehind 35 = .ok (.invokevirtual 123, 3) := by decide +kernel
theorem dX3_missBehind_38 : decode cX3_missBehind 38 = .ok (.iadd, 1) := by decide +kernel
theorem dX3_missBehind_39 : decode cX3_missBehind 39 = .ok (.aload_n 0, 1) := by decide +kernel
theorem dX3_missBehind_40 : decode cX3_missBehind 40 = .ok (.iload_n 3, 1) := by decide +kernel
theorem dX3_missBehind_41 : decode cX3_missBehind 41 = .ok (.iload 5, 2) := by decide +kernel
theorem dX3_missBehind_43 : decode cX3_missBehind 43 = .ok (.invokevirtual 123, 3) := by decide +kernel
theorem dX3_missBehind_46 : decode cX3_missBehind 46 = .ok (.isub, 1) := by decide +kernel
theorem dX3_missBehind_47 : decode cX3_missBehind 47 = .ok (.aload_n 0, 1) := by decide +kernel
theorem dX3_missBehind_48 : decode cX3_missBehind 48 = .ok (.iload_n 3, 1) := by decide +kernel
theorem dX3_missBehind_49 : decode cX3_missBehind 49 = .ok (.iload 5, 2) := by decide +kernel
theorem dX3_missBehind_51 : decode cX3_missBehind 51 = .ok (.iconst 1, 1) := by decide +kernel
theorem dX3_missBehind_52 : decode cX3_missBehind 52 = .ok (.iadd, 1) := by decide +kernel
theorem dX3_missBehind_53 : decode cX3_missBehind 53 = .ok (.invokevirtual 123, 3) := by decide +kernel
theorem dX3_missBehind_56 : decode cX3_missBehind 56 = .ok (.iadd, 1) := by decide +kernel
theorem dX3_missBehind_57 : decode cX3_missBehind 57 = .ok (.ireturn, 1) := by decide +kernel
set_option maxRecDepth 20000 in
theorem ggX3_step_X3_miss : GoodIn wsX3_step wsX3_miss := goodIn_r _ [6, 1, 7, 8, 9, 10, 11, 12, 13, 14, 15, 16, 17, 5, 18, 19, 20, 21, 22, 23, 24, 25, 26, 27, 28, 29, 30, 31, 32, 33, 34, 35, 115, 116, 117, 118, 119, 120, 121, 122, 123, 124, 125, 126, 127] (by decide +kernel) (by decide +kernel)
set_option maxRecDepth 20000 in
theorem gX3_step_X3_miss : GoodIn wsX3_step (wsV RX3 229 RX3 yX3_miss wsX3_miss) := goodIn_app (goodIn_of _ (by decide +kernel)) ggX3_step_X3_miss
set_option maxRecDepth 20000 in
theorem ggX3_step_X0_landOf : GoodIn wsX3_step wsX0_landOf := goodIn_r _ [39, 16, 40, 5, 41, 123, 124, 125, 126, 127] (by decide +kernel) (by decide +kernel)
set_option maxRecDepth 20000 in
theorem gX3_step_X0_landOf : GoodIn wsX3_step (wsV RX3 66 RX0 yX0_landOf wsX0_landOf) := goodIn_app (goodIn_of _ (by decide +kernel)) ggX3_step_X0_landOf
set_option maxRecDepth 20000 in
theorem ggX3_step_X3_missBehind : GoodIn wsX3_step wsX3_missBehind := goodIn_r _ [45, 1, 7, 8, 9, 10, 11, 12, 13, 14, 15, 16, 17, 5, 18, 19, 20, 21, 22, 23, 24, 25, 26, 27, 28, 29, 30, 31, 32, 33, 34, 35, 115, 116, 117, 118, 119, 120, 121, 122, 123, 124, 125, 126, 127] (by decide +kernel) (by decide +kernel)
set_option maxRecDepth 20000 in
theorem gX3_step_X3_missBehind : GoodIn wsX3_step (wsV RX3 232 RX3 yX3_missBehind wsX3_missBehind) := goodIn_app (goodIn_of _ (by decide +kernel)) ggX3_step_X3_missBehind
set_option maxRecDepth 20000 in
theorem ggX3_step_X3_canGo : GoodIn wsX3_step wsX3_canGo := goodIn_r _ [49, 1, 36, 37, 38, 10, 39, 16, 40, 5, 41, 50, 51, 52, 53, 54, 55, 56, 57, 58, 59, 60, 61, 62, 13, 14, 15, 17, 18, 63, 64, 65, 66, 67, 68, 69, 35, 70, 71, 72, 73, 74, 75, 76, 77, 78, 79, 80, 81, 82, 83, 84, 85, 86, 87, 88, 89, 90, 91, 92, 115, 116, 117, 118, 119, 120, 121, 122, 123, 124, 125, 126, 127] (by decide +kernel) (by decide +kernel)
set_option maxRecDepth 20000 in
theorem gX3_step_X3_canGo : GoodIn wsX3_step (wsV RX3 117 RX3 yX3_canGo wsX3_canGo) := goodIn_app (goodIn_of _ (by decide +kernel)) ggX3_step_X3_canGo
set_option maxRecDepth 20000 in
theorem ggX3_step_X3_go : GoodIn wsX3_step wsX3_go := goodIn_r _ [96, 97, 1, 36, 37, 38, 10, 39, 16, 40, 5, 41, 98, 99, 100, 101, 102, 103, 104, 105, 106, 107, 108, 33, 109, 110, 111, 112, 113, 114, 89, 90, 91, 92, 78, 115, 116, 117, 118, 119, 120, 121, 122, 123, 124, 125, 126, 127, 128, 129, 130, 131, 132] (by decide +kernel) (by decide +kernel)
set_option maxRecDepth 20000 in
theorem gX3_step_X3_go : GoodIn wsX3_step (wsV RX3 120 RX3 yX3_go wsX3_go) := goodIn_app (goodIn_of _ (by decide +kernel)) ggX3_step_X3_go
theorem dX3_step_0 : decode cX3_step 0 = .ok (.aload_n 0, 1) := by decide +kernel
theorem dX3_step_1 : decode cX3_step 1 = .ok (.invokevirtual 229, 3) := by decide +kernel
theorem dX3_step_4 : decode cX3_step 4 = .ok (.istore_n 1, 1) := by decide +kernel
theorem dX3_step_5 : decode cX3_step 5 = .ok (.iload_n 1, 1) := by decide +kernel
theorem dX3_step_6 : decode cX3_step 6 = .ok (.istore_n 2, 1) := by decide +kernel
theorem dX3_step_7 : decode cX3_step 7 = .ok (.iconst 0, 1) := by decide +kernel
theorem dX3_step_8 : decode cX3_step 8 = .ok (.istore_n 3, 1) := by decide +kernel
theorem dX3_step_9 : decode cX3_step 9 = .ok (.iconst 0, 1) := by decide +kernel
theorem dX3_step_10 : decode cX3_step 10 = .ok (.istore 4, 2) := by decide +kernel
theorem dX3_step_12 : decode cX3_step 12 = .ok (.iconst 0, 1) := by decide +kernel
theorem dX3_step_13 : decode cX3_step 13 = .ok (.istore 5, 2) := by decide +kernel
theorem dX3_step_15 : decode cX3_step 15 = .ok (.iload 5, 2) := by decide +kernel
theorem dX3_step_17 : decode cX3_step 17 = .ok (.bipush 64, 2) := by decide +kernel
theorem dX3_step_19 : decode cX3_step 19 = .ok (.if_icmp .ge 81, 3) := by decide +kernel
theorem dX3_step_22 : decode cX3_step 22 = .ok (.aload_n 0, 1) := by decide +kernel
theorem dX3_step_23 : decode cX3_step 23 = .ok (.getfield 12, 3) := by decide +kernel
theorem dX3_step_26 : decode cX3_step 26 = .ok (.iload 5, 2) := by decide +kernel
theorem dX3_step_28 : decode cX3_step 28 = .ok (.invokevirtual 66, 3) := by decide +kernel
theorem dX3_step_31 : decode cX3_step 31 = .ok (.istore 6, 2) := by decide +kernel
theorem dX3_step_33 : decode cX3_step 33 = .ok (.iconst 0, 1) := by decide +kernel
theorem dX3_step_34 : decode cX3_step 34 = .ok (.istore 7, 2) := by decide +kernel
theorem dX3_step_36 : decode cX3_step 36 = .ok (.iload 7, 2) := by decide +kernel
theorem dX3_step_38 : decode cX3_step 38 = .ok (.bipush 6, 2) := by decide +kernel
theorem dX3_step_40 : decode cX3_step 40 = .ok (.if_icmp .ge 54, 3) := by decide +kernel
theorem dX3_step_43 : decode cX3_step 43 = .ok (.iload 6, 2) := by decide +kernel
theorem dX3_step_45 : decode cX3_step 45 = .ok (.bipush (-4), 2) := by decide +kernel
theorem dX3_step_47 : decode cX3_step 47 = .ok (.if_icmp .eq 47, 3) := by decide +kernel
theorem dX3_step_50 : decode cX3_step 50 = .ok (.aload_n 0, 1) := by decide +kernel
theorem dX3_step_51 : decode cX3_step 51 = .ok (.iload_n 1, 1) := by decide +kernel
theorem dX3_step_52 : decode cX3_step 52 = .ok (.iload 6, 2) := by decide +kernel
theorem dX3_step_54 : decode cX3_step 54 = .ok (.iload 7, 2) := by decide +kernel
theorem dX3_step_56 : decode cX3_step 56 = .ok (.invokevirtual 232, 3) := by decide +kernel
theorem dX3_step_59 : decode cX3_step 59 = .ok (.istore 8, 2) := by decide +kernel
theorem dX3_step_61 : decode cX3_step 61 = .ok (.iload 8, 2) := by decide +kernel
theorem dX3_step_63 : decode cX3_step 63 = .ok (.iload_n 2, 1) := by decide +kernel
theorem dX3_step_64 : decode cX3_step 64 = .ok (.if_icmp .ge 24, 3) := by decide +kernel
theorem dX3_step_67 : decode cX3_step 67 = .ok (.aload_n 0, 1) := by decide +kernel
theorem dX3_step_68 : decode cX3_step 68 = .ok (.iload 5, 2) := by decide +kernel
theorem dX3_step_70 : decode cX3_step 70 = .ok (.iload 7, 2) := by decide +kernel
theorem dX3_step_72 : decode cX3_step 72 = .ok (.invokevirtual 117, 3) := by decide +kernel
theorem dX3_step_75 : decode cX3_step 75 = .ok (.ifCond .eq 13, 3) := by decide +kernel
theorem dX3_step_78 : decode cX3_step 78 = .ok (.iload 8, 2) := by decide +kernel
theorem dX3_step_80 : decode cX3_step 80 = .ok (.istore_n 2, 1) := by decide +kernel
theorem dX3_step_81 : decode cX3_step 81 = .ok (.iload 5, 2) := by decide +kernel
theorem dX3_step_83 : decode cX3_step 83 = .ok (.istore_n 3, 1) := by decide +kernel
theorem dX3_step_84 : decode cX3_step 84 = .ok (.iload 7, 2) := by decide +kernel
theorem dX3_step_86 : decode cX3_step 86 = .ok (.istore 4, 2) := by decide +kernel
theorem dX3_step_88 : decode cX3_step 88 = .ok (.iinc 7 1, 3) := by decide +kernel
theorem dX3_step_91 : decode cX3_step 91 = .ok (.goto (-55), 3) := by decide +kernel
theorem dX3_step_94 : decode cX3_step 94 = .ok (.iinc 5 1, 3) := by decide +kernel
theorem dX3_step_97 : decode cX3_step 97 = .ok (.goto (-82), 3) := by decide +kernel
theorem dX3_step_100 : decode cX3_step 100 = .ok (.iload_n 2, 1) := by decide +kernel
theorem dX3_step_101 : decode cX3_step 101 = .ok (.iload_n 1, 1) := by decide +kernel
theorem dX3_step_102 : decode cX3_step 102 = .ok (.if_icmp .ge 10, 3) := by decide +kernel
theorem dX3_step_105 : decode cX3_step 105 = .ok (.aload_n 0, 1) := by decide +kernel
theorem dX3_step_106 : decode cX3_step 106 = .ok (.iload_n 3, 1) := by decide +kernel
theorem dX3_step_107 : decode cX3_step 107 = .ok (.iload 4, 2) := by decide +kernel
theorem dX3_step_109 : decode cX3_step 109 = .ok (.invokevirtual 120, 3) := by decide +kernel
theorem dX3_step_112 : decode cX3_step 112 = .ok (.iload_n 2, 1) := by decide +kernel
theorem dX3_step_113 : decode cX3_step 113 = .ok (.iload_n 1, 1) := by decide +kernel
theorem dX3_step_114 : decode cX3_step 114 = .ok (.if_icmp .ge 7, 3) := by decide +kernel
theorem dX3_step_117 : decode cX3_step 117 = .ok (.iconst 1, 1) := by decide +kernel
theorem dX3_step_118 : decode cX3_step 118 = .ok (.goto 4, 3) := by decide +kernel
theorem dX3_step_121 : decode cX3_step 121 = .ok (.iconst 0, 1) := by decide +kernel
theorem dX3_step_122 : decode cX3_step 122 = .ok (.ireturn, 1) := by decide +kernel
theorem dX3_answer_0 : decode cX3_answer 0 = .ok (.iload_n 0, 1) := by decide +kernel
theorem dX3_answer_1 : decode cX3_answer 1 = .ok (.ifCond .eq 7, 3) := by decide +kernel
theorem dX3_answer_4 : decode cX3_answer 4 = .ok (.iconst 1, 1) := by decide +kernel
theorem dX3_answer_5 : decode cX3_answer 5 = .ok (.goto 4, 3) := by decide +kernel
theorem dX3_answer_8 : decode cX3_answer 8 = .ok (.iconst 0, 1) := by decide +kernel
theorem dX3_answer_9 : decode cX3_answer 9 = .ok (.ireturn, 1) := by decide +kernel
theorem dX3_isLand_0 : decode cX3_isLand 0 = .ok (.iload_n 0, 1) := by decide +kernel
theorem dX3_isLand_1 : decode cX3_isLand 1 = .ok (.ifCond .lt 13, 3) := by decide +kernel
theorem dX3_isLand_4 : decode cX3_isLand 4 = .ok (.iload_n 0, 1) := by decide +kernel
theorem dX3_isLand_5 : decode cX3_isLand 5 = .ok (.bipush 6, 2) := by decide +kernel
theorem dX3_isLand_7 : decode cX3_isLand 7 = .ok (.if_icmp .ge 7, 3) := by decide +kernel
theorem dX3_isLand_10 : decode cX3_isLand 10 = .ok (.iconst 1, 1) := by decide +kernel
theorem dX3_isLand_11 : decode cX3_isLand 11 = .ok (.goto 4, 3) := by decide +kernel
theorem dX3_isLand_14 : decode cX3_isLand 14 = .ok (.iconst 0, 1) := by decide +kernel
theorem dX3_isLand_15 : decode cX3_isLand 15 = .ok (.ireturn, 1) := by decide +kernel
set_option maxRecDepth 20000 in
theorem ggX3_isLandOrSea_X3_isLand : GoodIn wsX3_isLandOrSea wsX3_isLand := goodIn_r _ [4] (by decide +kernel) (by decide +kernel)
set_option maxRecDepth 20000 in
theorem gX3_isLandOrSea_X3_isLand : GoodIn wsX3_isLandOrSea (va_wsS RX3 73 yX3_isLand wsX3_isLand) := goodIn_app (goodIn_of _ (by decide +kernel)) ggX3_isLandOrSea_X3_isLand
theorem dX3_isLandOrSea_0 : decode cX3_isLandOrSea 0 = .ok (.iload_n 0, 1) := by decide +kernel
theorem dX3_isLandOrSea_1 : decode cX3_isLandOrSea 1 = .ok (.bipush (-4), 2) := by decide +kernel
theorem dX3_isLandOrSea_3 : decode cX3_isLandOrSea 3 = .ok (.if_icmp .eq 10, 3) := by decide +kernel
theorem dX3_isLandOrSea_6 : decode cX3_isLandOrSea 6 = .ok (.iload_n 0, 1) := by decide +kernel
theorem dX3_isLandOrSea_7 : decode cX3_isLandOrSea 7 = .ok (.invokestatic 73, 3) := by decide +kernel
theorem dX3_isLandOrSea_10 : decode cX3_isLandOrSea 10 = .ok (.ifCond .eq 7, 3) := by decide +kernel
theorem dX3_isLandOrSea_13 : decode cX3_isLandOrSea 13 = .ok (.iconst 1, 1) := by decide +kernel
theorem dX3_isLandOrSea_14 : decode cX3_isLandOrSea 14 = .ok (.goto 4, 3) := by decide +kernel
theorem dX3_isLandOrSea_17 : decode cX3_isLandOrSea 17 = .ok (.iconst 0, 1) := by decide +kernel
theorem dX3_isLandOrSea_18 : decode cX3_isLandOrSea 18 = .ok (.ireturn, 1) := by decide +kernel
theorem dX3_isYear_0 : decode cX3_isYear 0 = .ok (.iload_n 0, 1) := by decide +kernel
theorem dX3_isYear_1 : decode cX3_isYear 1 = .ok (.ifCond .lt 12, 3) := by decide +kernel
theorem dX3_isYear_4 : decode cX3_isYear 4 = .ok (.iload_n 0, 1) := by decide +kernel
theorem dX3_isYear_5 : decode cX3_isYear 5 = .ok (.iconst 4, 1) := by decide +kernel
theorem dX3_isYear_6 : decode cX3_isYear 6 = .ok (.if_icmp .ge 7, 3) := by decide +kernel
theorem dX3_isYear_9 : decode cX3_isYear 9 = .ok (.iconst 1, 1) := by decide +kernel
theorem dX3_isYear_10 : decode cX3_isYear 10 = .ok (.goto 4, 3) := by decide +kernel
theorem dX3_isYear_13 : decode cX3_isYear 13 = .ok (.iconst 0, 1) := by decide +kernel
theorem dX3_isYear_14 : decode cX3_isYear 14 = .ok (.ireturn, 1) := by decide +kernel
set_option maxRecDepth 20000 in
theorem ggX3_hasBox_X3_isLand : GoodIn wsX3_hasBox wsX3_isLand := goodIn_r _ [5] (by decide +kernel) (by decide +kernel)
set_option maxRecDepth 20000 in
theorem gX3_hasBox_X3_isLand : GoodIn wsX3_hasBox (va_wsS RX3 73 yX3_isLand wsX3_isLand) := goodIn_app (goodIn_of _ (by decide +kernel)) ggX3_hasBox_X3_isLand
set_option maxRecDepth 20000 in
theorem ggX3_hasBox_X0_sizeOf : GoodIn wsX3_hasBox wsX0_sizeOf := goodIn_r _ [10, 11, 12, 13, 9, 14, 15, 3, 4, 5, 16, 17, 18, 19, 20, 21, 22, 35, 36, 37, 38, 39] (by decide +kernel) (by decide +kernel)
set_option maxRecDepth 20000 in
theorem gX3_hasBox_X0_sizeOf : GoodIn wsX3_hasBox (wsV RX3 76 RX0 yX0_sizeOf wsX0_sizeOf) := goodIn_app (goodIn_of _ (by decide +kernel)) ggX3_hasBox_X0_sizeOf
set_option maxRecDepth 20000 in
theorem ggX3_hasBox_X0_peopled : GoodIn wsX3_hasBox wsX0_peopled := goodIn_r _ [26, 15, 35, 36, 37, 38, 39] (by decide +kernel) (by decide +kernel)
set_option maxRecDepth 20000 in
theorem gX3_hasBox_X0_peopled : GoodIn wsX3_hasBox (wsV RX3 206 RX0 yX0_peopled wsX0_peopled) := goodIn_app (goodIn_of _ (by decide +kernel)) ggX3_hasBox_X0_peopled
theorem dX3_hasBox_0 : decode cX3_hasBox 0 = .ok (.iload_n 2, 1) := by decide +kernel
theorem dX3_hasBox_1 : decode cX3_hasBox 1 = .ok (.invokestatic 73, 3) := by decide +kernel
theorem dX3_hasBox_4 : decode cX3_hasBox 4 = .ok (.ifCond .eq 37, 3) := by decide +kernel
theorem dX3_hasBox_7 : decode cX3_hasBox 7 = .ok (.aload_n 0, 1) := by decide +kernel
theorem dX3_hasBox_8 : decode cX3_hasBox 8 = .ok (.getfield 12, 3) := by decide +kernel
theorem dX3_hasBox_11 : decode cX3_hasBox 11 = .ok (.iload_n 2, 1) := by decide +kernel
theorem dX3_hasBox_12 : decode cX3_hasBox 12 = .ok (.invokevirtual 76, 3) := by decide +kernel
theorem dX3_hasBox_15 : decode cX3_hasBox 15 = .ok (.ifCond .le 26, 3) := by decide +kernel
theorem dX3_hasBox_18 : decode cX3_hasBox 18 = .ok (.iload_n 1, 1) := by decide +kernel
theorem dX3_hasBox_19 : decode cX3_hasBox 19 = .ok (.ifCond .lt 22, 3) := by decide +kernel
theorem dX3_hasBox_22 : decode cX3_hasBox 22 = .ok (.iload_n 1, 1) := by decide +kernel
theorem dX3_hasBox_23 : decode cX3_hasBox 23 = .ok (.iconst 1, 1) := by decide +kernel
theorem dX3_hasBox_24 : decode cX3_hasBox 24 = .ok (.aload_n 0, 1) := by decide +kernel
theorem dX3_hasBox_25 : decode cX3_hasBox 25 = .ok (.getfield 12, 3) := by decide +kernel
theorem dX3_hasBox_28 : decode cX3_hasBox 28 = .ok (.invokevirtual 206, 3) := by decide +kernel
theorem dX3_hasBox_31 : decode cX3_hasBox 31 = .ok (.iconst 1, 1) := by decide +kernel
theorem dX3_hasBox_32 : decode cX3_hasBox 32 = .ok (.isub, 1) := by decide +kernel
theorem dX3_hasBox_33 : decode cX3_hasBox 33 = .ok (.ishl, 1) := by decide +kernel
theorem dX3_hasBox_34 : decode cX3_hasBox 34 = .ok (.if_icmp .ge 7, 3) := by decide +kernel
theorem dX3_hasBox_37 : decode cX3_hasBox 37 = .ok (.iconst 1, 1) := by decide +kernel
theorem dX3_hasBox_38 : decode cX3_hasBox 38 = .ok (.goto 4, 3) := by decide +kernel
theorem dX3_hasBox_41 : decode cX3_hasBox 41 = .ok (.iconst 0, 1) := by decide +kernel
theorem dX3_hasBox_42 : decode cX3_hasBox 42 = .ok (.ireturn, 1) := by decide +kernel
theorem dX3_thousandths_0 : decode cX3_thousandths 0 = .ok (.iload_n 1, 1) := by decide +kernel
theorem dX3_thousandths_1 : decode cX3_thousandths 1 = .ok (.ifCond .le 13, 3) := by decide +kernel
theorem dX3_thousandths_4 : decode cX3_thousandths 4 = .ok (.iload_n 0, 1) := by decide +kernel
theorem dX3_thousandths_5 : decode cX3_thousandths 5 = .ok (.sipush 1000, 3) := by decide +kernel
theorem dX3_thousandths_8 : decode cX3_thousandths 8 = .ok (.imul, 1) := by decide +kernel
theorem dX3_thousandths_9 : decode cX3_thousandths 9 = .ok (.iload_n 1, 1) := by decide +kernel
theorem dX3_thousandths_10 : decode cX3_thousandths 10 = .ok (.idiv, 1) := by decide +kernel
theorem dX3_thousandths_11 : decode cX3_thousandths 11 = .ok (.goto 4, 3) := by decide +kernel
theorem dX3_thousandths_14 : decode cX3_thousandths 14 = .ok (.iconst 0, 1) := by decide +kernel
theorem dX3_thousandths_15 : decode cX3_thousandths 15 = .ok (.ireturn, 1) := by decide +kernel
theorem dX3_commonDivisor_0 : decode cX3_commonDivisor 0 = .ok (.iload_n 0, 1) := by decide +kernel
theorem dX3_commonDivisor_1 : decode cX3_commonDivisor 1 = .ok (.istore_n 2, 1) := by decide +kernel
theorem dX3_commonDivisor_2 : decode cX3_commonDivisor 2 = .ok (.iload_n 1, 1) := by decide +kernel
theorem dX3_commonDivisor_3 : decode cX3_commonDivisor 3 = .ok (.istore_n 3, 1) := by decide +kernel
theorem dX3_commonDivisor_4 : decode cX3_commonDivisor 4 = .ok (.iconst 0, 1) := by decide +kernel
theorem dX3_commonDivisor_5 : decode cX3_commonDivisor 5 = .ok (.istore 4, 2) := by decide +kernel
theorem dX3_commonDivisor_7 : decode cX3_commonDivisor 7 = .ok (.iload 4, 2) := by decide +kernel
theorem dX3_commonDivisor_9 : decode cX3_commonDivisor 9 = .ok (.bipush 64, 2) := by decide +kernel
theorem dX3_commonDivisor_11 : decode cX3_commonDivisor 11 = .ok (.if_icmp .ge 23, 3) := by decide +kernel
theorem dX3_commonDivisor_14 : decode cX3_commonDivisor 14 = .ok (.iload_n 3, 1) := by decide +kernel
theorem dX3_commonDivisor_15 : decode cX3_commonDivisor 15 = .ok (.ifCond .eq 19, 3) := by decide +kernel
theorem dX3_commonDivisor_18 : decode cX3_commonDivisor 18 = .ok (.iload_n 2, 1) := by decide +kernel
theorem dX3_commonDivisor_19 : decode cX3_commonDivisor 19 = .ok (.iload_n 3, 1) := by decide +kernel
theorem dX3_commonDivisor_20 : decode cX3_commonDivisor 20 = .ok (.irem, 1) := by decide +kernel
theorem dX3_commonDivisor_21 : decode cX3_commonDivisor 21 = .ok (.istore 5, 2) := by decide +kernel
theorem dX3_commonDivisor_23 : decode cX3_commonDivisor 23 = .ok (.iload_n 3, 1) := by decide +kernel
theorem dX3_commonDivisor_24 : decode cX3_commonDivisor 24 = .ok (.istore_n 2, 1) := by decide +kernel
theorem dX3_commonDivisor_25 : decode cX3_commonDivisor 25 = .ok (.iload 5, 2) := by decide +kernel
theorem dX3_commonDivisor_27 : decode cX3_commonDivisor 27 = .ok (.istore_n 3, 1) := by decide +kernel
theorem dX3_commonDivisor_28 : decode cX3_commonDivisor 28 = .ok (.iinc 4 1, 3) := by decide +kernel
theorem dX3_commonDivisor_31 : decode cX3_commonDivisor 31 = .ok (.goto (-24), 3) := by decide +kernel
theorem dX3_commonDivisor_34 : decode cX3_commonDivisor 34 = .ok (.iload_n 2, 1) := by decide +kernel
theorem dX3_commonDivisor_35 : decode cX3_commonDivisor 35 = .ok (.ireturn, 1) := by decide +kernel
theorem dX3_cellAt_0 : decode cX3_cellAt 0 = .ok (.iload_n 0, 1) := by decide +kernel
theorem dX3_cellAt_1 : decode cX3_cellAt 1 = .ok (.bipush 8, 2) := by decide +kernel
theorem dX3_cellAt_3 : decode cX3_cellAt 3 = .ok (.iload_n 1, 1) := by decide +kernel
theorem dX3_cellAt_4 : decode cX3_cellAt 4 = .ok (.imul, 1) := by decide +kernel
theorem dX3_cellAt_5 : decode cX3_cellAt 5 = .ok (.iadd, 1) := by decide +kernel
theorem dX3_cellAt_6 : decode cX3_cellAt 6 = .ok (.ireturn, 1) := by decide +kernel
theorem dX3_columnOf_0 : decode cX3_columnOf 0 = .ok (.iload_n 0, 1) := by decide +kernel
theorem dX3_columnOf_1 : decode cX3_columnOf 1 = .ok (.bipush 8, 2) := by decide +kernel
theorem dX3_columnOf_3 : decode cX3_columnOf 3 = .ok (.irem, 1) := by decide +kernel
theorem dX3_columnOf_4 : decode cX3_columnOf 4 = .ok (.ireturn, 1) := by decide +kernel
theorem dX3_rowOf_0 : decode cX3_rowOf 0 = .ok (.iload_n 0, 1) := by decide +kernel
theorem dX3_rowOf_1 : decode cX3_rowOf 1 = .ok (.bipush 8, 2) := by decide +kernel
theorem dX3_rowOf_3 : decode cX3_rowOf 3 = .ok (.idiv, 1) := by decide +kernel
theorem dX3_rowOf_4 : decode cX3_rowOf 4 = .ok (.ireturn, 1) := by decide +kernel
theorem dX3_bit_0 : decode cX3_bit 0 = .ok (.lconst 1, 1) := by decide +kernel
theorem dX3_bit_1 : decode cX3_bit 1 = .ok (.iload_n 0, 1) := by decide +kernel
theorem dX3_bit_2 : decode cX3_bit 2 = .ok (.lshl, 1) := by decide +kernel
theorem dX3_bit_3 : decode cX3_bit 3 = .ok (.lreturn, 1) := by decide +kernel
theorem dX3_toRight_0 : decode cX3_toRight 0 = .ok (.lload_n 0, 1) := by decide +kernel
theorem dX3_toRight_1 : decode cX3_toRight 1 = .ok (.ldc2_w 236, 3) := by decide +kernel
theorem dX3_toRight_4 : decode cX3_toRight 4 = .ok (.land, 1) := by decide +kernel
theorem dX3_toRight_5 : decode cX3_toRight 5 = .ok (.iconst 1, 1) := by decide +kernel
theorem dX3_toRight_6 : decode cX3_toRight 6 = .ok (.lshl, 1) := by decide +kernel
theorem dX3_toRight_7 : decode cX3_toRight 7 = .ok (.lreturn, 1) := by decide +kernel
theorem dX3_toLeft_0 : decode cX3_toLeft 0 = .ok (.lload_n 0, 1) := by decide +kernel
theorem dX3_toLeft_1 : decode cX3_toLeft 1 = .ok (.ldc2_w 238, 3) := by decide +kernel
theorem dX3_toLeft_4 : decode cX3_toLeft 4 = .ok (.land, 1) := by decide +kernel
theorem dX3_toLeft_5 : decode cX3_toLeft 5 = .ok (.iconst 1, 1) := by decide +kernel
theorem dX3_toLeft_6 : decode cX3_toLeft 6 = .ok (.lushr, 1) := by decide +kernel
theorem dX3_toLeft_7 : decode cX3_toLeft 7 = .ok (.lreturn, 1) := by decide +kernel
set_option maxRecDepth 20000 in
theorem ggX3_around_X3_toRight : GoodIn wsX3_around wsX3_toRight := goodIn_r _ [4, 5] (by decide +kernel) (by decide +kernel)
set_option maxRecDepth 20000 in
theorem gX3_around_X3_toRight : GoodIn wsX3_around (va_wsS RX3 240 yX3_toRight wsX3_toRight) := goodIn_app (goodIn_of _ (by decide +kernel)) ggX3_around_X3_toRight
set_option maxRecDepth 20000 in
theorem ggX3_around_X3_toLeft : GoodIn wsX3_around wsX3_toLeft := goodIn_r _ [8, 9] (by decide +kernel) (by decide +kernel)
set_option maxRecDepth 20000 in
theorem gX3_around_X3_toLeft : GoodIn wsX3_around (va_wsS RX3 243 yX3_toLeft wsX3_toLeft) := goodIn_app (goodIn_of _ (by decide +kernel)) ggX3_around_X3_toLeft
theorem dX3_around_0 : decode cX3_around 0 = .ok (.lload_n 0, 1) := by decide +kernel
theorem dX3_around_1 : decode cX3_around 1 = .ok (.invokestatic 240, 3) := by decide +kernel
theorem dX3_around_4 : decode cX3_around 4 = .ok (.lload_n 0, 1) := by decide +kernel
theorem dX3_around_5 : decode cX3_around 5 = .ok (.invokestatic 243, 3) := by decide +kernel
theorem dX3_around_8 : decode cX3_around 8 = .ok (.lor, 1) := by decide +kernel
theorem dX3_around_9 : decode cX3_around 9 = .ok (.lload_n 0, 1) := by decide +kernel
theorem dX3_around_10 : decode cX3_around 10 = .ok (.bipush 8, 2) := by decide +kernel
theorem dX3_around_12 : decode cX3_around 12 = .ok (.lshl, 1) := by decide +kernel
theorem dX3_around_13 : decode cX3_around 13 = .ok (.lor, 1) := by decide +kernel
theorem dX3_around_14 : decode cX3_around 14 = .ok (.lload_n 0, 1) := by decide +kernel
theorem dX3_around_15 : decode cX3_around 15 = .ok (.bipush 8, 2) := by decide +kernel
theorem dX3_around_17 : decode cX3_around 17 = .ok (.lushr, 1) := by decide +kernel
theorem dX3_around_18 : decode cX3_around 18 = .ok (.lor, 1) := by decide +kernel
theorem dX3_around_19 : decode cX3_around 19 = .ok (.lreturn, 1) := by decide +kernel
set_option maxRecDepth 20000 in
theorem ggX3_inside_X3_toRight : GoodIn wsX3_inside wsX3_toRight := goodIn_r _ [4, 5] (by decide +kernel) (by decide +kernel)
set_option maxRecDepth 20000 in
theorem gX3_inside_X3_toRight : GoodIn wsX3_inside (va_wsS RX3 240 yX3_toRight wsX3_toRight) := goodIn_app (goodIn_of _ (by decide +kernel)) ggX3_inside_X3_toRight
set_option maxRecDepth 20000 in
theorem ggX3_inside_X3_toLeft : GoodIn wsX3_inside wsX3_toLeft := goodIn_r _ [8, 9] (by decide +kernel) (by decide +kernel)
set_option maxRecDepth 20000 in
theorem gX3_inside_X3_toLeft : GoodIn wsX3_inside (va_wsS RX3 243 yX3_toLeft wsX3_toLeft) := goodIn_app (goodIn_of _ (by decide +kernel)) ggX3_inside_X3_toLeft
theorem dX3_inside_0 : decode cX3_inside 0 = .ok (.lload_n 0, 1) := by decide +kernel
theorem dX3_inside_1 : decode cX3_inside 1 = .ok (.lload_n 0, 1) := by decide +kernel
theorem dX3_inside_2 : decode cX3_inside 2 = .ok (.invokestatic 240, 3) := by decide +kernel
theorem dX3_inside_5 : decode cX3_inside 5 = .ok (.land, 1) := by decide +kernel
theorem dX3_inside_6 : decode cX3_inside 6 = .ok (.lload_n 0, 1) := by decide +kernel
theorem dX3_inside_7 : decode cX3_inside 7 = .ok (.invokestatic 243, 3) := by decide +kernel
theorem dX3_inside_10 : decode cX3_inside 10 = .ok (.land, 1) := by decide +kernel
theorem dX3_inside_11 : decode cX3_inside 11 = .ok (.lload_n 0, 1) := by decide +kernel
theorem dX3_inside_12 : decode cX3_inside 12 = .ok (.bipush 8, 2) := by decide +kernel
theorem dX3_inside_14 : decode cX3_inside 14 = .ok (.lshl, 1) := by decide +kernel
theorem dX3_inside_15 : decode cX3_inside 15 = .ok (.land, 1) := by decide +kernel
theorem dX3_inside_16 : decode cX3_inside 16 = .ok (.lload_n 0, 1) := by decide +kernel
theorem dX3_inside_17 : decode cX3_inside 17 = .ok (.bipush 8, 2) := by decide +kernel
theorem dX3_inside_19 : decode cX3_inside 19 = .ok (.lushr, 1) := by decide +kernel
theorem dX3_inside_20 : decode cX3_inside 20 = .ok (.land, 1) := by decide +kernel
theorem dX3_inside_21 : decode cX3_inside 21 = .ok (.lreturn, 1) := by decide +kernel
set_option maxRecDepth 20000 in
theorem ggX3_isWhole_X3_around : GoodIn wsX3_isWhole wsX3_around := goodIn_r _ [4, 5, 6, 3, 7, 8, 9, 10, 11, 12] (by decide +kernel) (by decide +kernel)
set_option maxRecDepth 20000 in
theorem gX3_isWhole_X3_around : GoodIn wsX3_isWhole (va_wsS RX3 94 yX3_around wsX3_around) := goodIn_app (goodIn_of _ (by decide +kernel)) ggX3_isWhole_X3_around
theorem dX3_isWhole_0 : decode cX3_isWhole 0 = .ok (.lload_n 0, 1) := by decide +kernel
theorem dX3_isWhole_1 : decode cX3_isWhole 1 = .ok (.lload_n 0, 1) := by decide +kernel
theorem dX3_isWhole_2 : decode cX3_isWhole 2 = .ok (.lneg, 1) := by decide +kernel
theorem dX3_isWhole_3 : decode cX3_isWhole 3 = .ok (.land, 1) := by decide +kernel
theorem dX3_isWhole_4 : decode cX3_isWhole 4 = .ok (.lstore_n 2, 1) := by decide +kernel
theorem dX3_isWhole_5 : decode cX3_isWhole 5 = .ok (.iconst 0, 1) := by decide +kernel
theorem dX3_isWhole_6 : decode cX3_isWhole 6 = .ok (.istore 4, 2) := by decide +kernel
theorem dX3_isWhole_8 : decode cX3_isWhole 8 = .ok (.iload 4, 2) := by decide +kernel
theorem dX3_isWhole_10 : decode cX3_isWhole 10 = .ok (.bipush 64, 2) := by decide +kernel
theorem dX3_isWhole_12 : decode cX3_isWhole 12 = .ok (.if_icmp .ge 32, 3) := by decide +kernel
theorem dX3_isWhole_15 : decode cX3_isWhole 15 = .ok (.lload_n 2, 1) := by decide +kernel
theorem dX3_isWhole_16 : decode cX3_isWhole 16 = .ok (.lload_n 2, 1) := by decide +kernel
theorem dX3_isWhole_17 : decode cX3_isWhole 17 = .ok (.invokestatic 94, 3) := by decide +kernel
theorem dX3_isWhole_20 : decode cX3_isWhole 20 = .ok (.lload_n 0, 1) := by decide +kernel
theorem dX3_isWhole_21 : decode cX3_isWhole 21 = .ok (.land, 1) := by decide +kernel
theorem dX3_isWhole_22 : decode cX3_isWhole 22 = .ok (.lor, 1) := by decide +kernel
theorem dX3_isWhole_23 : decode cX3_isWhole 23 = .ok (.lstore 5, 2) := by decide +kernel
theorem dX3_isWhole_25 : decode cX3_isWhole 25 = .ok (.lload 5, 2) := by decide +kernel
theorem dX3_isWhole_27 : decode cX3_isWhole 27 = .ok (.lload_n 2, 1) := by decide +kernel
theorem dX3_isWhole_28 : decode cX3_isWhole 28 = .ok (.lcmp, 1) := by decide +kernel
theorem dX3_isWhole_29 : decode cX3_isWhole 29 = .ok (.ifCond .ne 6, 3) := by decide +kernel
theorem dX3_isWhole_32 : decode cX3_isWhole 32 = .ok (.goto 12, 3) := by decide +kernel
theorem dX3_isWhole_35 : decode cX3_isWhole 35 = .ok (.lload 5, 2) := by decide +kernel
theorem dX3_isWhole_37 : decode cX3_isWhole 37 = .ok (.lstore_n 2, 1) := by decide +kernel
theorem dX3_isWhole_38 : decode cX3_isWhole 38 = .ok (.iinc 4 1, 3) := by decide +kernel
theorem dX3_isWhole_41 : decode cX3_isWhole 41 = .ok (.goto (-33), 3) := by decide +kernel
theorem dX3_isWhole_44 : decode cX3_isWhole 44 = .ok (.lload_n 0, 1) := by decide +kernel
theorem dX3_isWhole_45 : decode cX3_isWhole 45 = .ok (.lconst 0, 1) := by decide +kernel
theorem dX3_isWhole_46 : decode cX3_isWhole 46 = .ok (.lcmp, 1) := by decide +kernel
theorem dX3_isWhole_47 : decode cX3_isWhole 47 = .ok (.ifCond .eq 13, 3) := by decide +kernel
theorem dX3_isWhole_50 : decode cX3_isWhole 50 = .ok (.lload_n 2, 1) := by decide +kernel
theorem dX3_isWhole_51 : decode cX3_isWhole 51 = .ok (.lload_n 0, 1) := by decide +kernel
theorem dX3_isWhole_52 : decode cX3_isWhole 52 = .ok (.lcmp, 1) := by decide +kernel
theorem dX3_isWhole_53 : decode cX3_isWhole 53 = .ok (.ifCond .ne 7, 3) := by decide +kernel
theorem dX3_isWhole_56 : decode cX3_isWhole 56 = .ok (.iconst 1, 1) := by decide +kernel
theorem dX3_isWhole_57 : decode cX3_isWhole 57 = .ok (.goto 4, 3) := by decide +kernel
theorem dX3_isWhole_60 : decode cX3_isWhole 60 = .ok (.iconst 0, 1) := by decide +kernel
theorem dX3_isWhole_61 : decode cX3_isWhole 61 = .ok (.ireturn, 1) := by decide +kernel
set_option maxRecDepth 20000 in
theorem ggX3_firstOf_X3_bit : GoodIn wsX3_firstOf wsX3_bit := goodIn_r _ [4] (by decide +kernel) (by decide +kernel)
set_option maxRecDepth 20000 in
theorem gX3_firstOf_X3_bit : GoodIn wsX3_firstOf (va_wsS RX3 212 yX3_bit wsX3_bit) := goodIn_app (goodIn_of _ (by decide +kernel)) ggX3_firstOf_X3_bit
theorem dX3_firstOf_0 : decode cX3_firstOf 0 = .ok (.iconst 0, 1) := by decide +kernel
theorem dX3_firstOf_1 : decode cX3_firstOf 1 = .ok (.istore_n 2, 1) := by decide +kernel
theorem dX3_firstOf_2 : decode cX3_firstOf 2 = .ok (.iload_n 2, 1) := by decide +kernel
theorem dX3_firstOf_3 : decode cX3_firstOf 3 = .ok (.bipush 64, 2) := by decide +kernel
theorem dX3_firstOf_5 : decode cX3_firstOf 5 = .ok (.if_icmp .ge 22, 3) := by decide +kernel
theorem dX3_firstOf_8 : decode cX3_firstOf 8 = .ok (.lload_n 0, 1) := by decide +kernel
theorem dX3_firstOf_9 : decode cX3_firstOf 9 = .ok (.iload_n 2, 1) := by decide +kernel
theorem dX3_firstOf_10 : decode cX3_firstOf 10 = .ok (.invokestatic 212, 3) := by decide +kernel
theorem dX3_firstOf_13 : decode cX3_firstOf 13 = .ok (.land, 1) := by decide +kernel
theorem dX3_firstOf_14 : decode cX3_firstOf 14 = .ok (.lconst 0, 1) := by decide +kernel
theorem dX3_firstOf_15 : decode cX3_firstOf 15 = .ok (.lcmp, 1) := by decide +kernel
theorem dX3_firstOf_16 : decode cX3_firstOf 16 = .ok (.ifCond .eq 5, 3) := by decide +kernel
theorem dX3_firstOf_19 : decode cX3_firstOf 19 = .ok (.iload_n 2, 1) := by decide +kernel
theorem dX3_firstOf_20 : decode cX3_firstOf 20 = .ok (.ireturn, 1) := by decide +kernel
theorem dX3_firstOf_21 : decode cX3_firstOf 21 = .ok (.iinc 2 1, 3) := by decide +kernel
theorem dX3_firstOf_24 : decode cX3_firstOf 24 = .ok (.goto (-22), 3) := by decide +kernel
theorem dX3_firstOf_27 : decode cX3_firstOf 27 = .ok (.iconst 0, 1) := by decide +kernel
theorem dX3_firstOf_28 : decode cX3_firstOf 28 = .ok (.ireturn, 1) := by decide +kernel
set_option maxRecDepth 20000 in
theorem ggX4_init_X4_clears : GoodIn wsX4_init wsX4_clears := goodIn_r _ [27, 7, 28, 29, 30, 26, 31, 8, 9, 32, 33, 34, 35, 36, 37, 38, 39, 40, 41, 42, 43, 44, 45, 46, 47, 48, 49, 50, 51, 52, 53, 54, 55, 56, 57, 58] (by decide +kernel) (by decide +kernel)
set_option maxRecDepth 20000 in
theorem gX4_init_X4_clears : GoodIn wsX4_init (wsV RX4 63 RX4 yX4_clears wsX4_clears) := goodIn_app (goodIn_of _ (by decide +kernel)) ggX4_init_X4_clears
theorem dX4_init_0 : decode cX4_init 0 = .ok (.aload_n 0, 1) := by decide +kernel
theorem dX4_init_1 : decode cX4_init 1 = .ok (.invokespecial 1, 3) := by decide +kernel
theorem dX4_init_4 : decode cX4_init 4 = .ok (.aload_n 0, 1) := by decide +kernel
theorem dX4_init_5 : decode cX4_init 5 = .ok (.iconst 4, 1) := by decide +kernel
theorem dX4_init_6 : decode cX4_init 6 = .ok (.putfield 7, 3) := by decide +kernel
theorem dX4_init_9 : decode cX4_init 9 = .ok (.aload_n 0, 1) := by decide +kernel
theorem dX4_init_10 : decode cX4_init 10 = .ok (.iconst 4, 1) := by decide +kernel
theorem dX4_init_11 : decode cX4_init 11 = .ok (.putfield 13, 3) := by decide +kernel
theorem dX4_init_14 : decode cX4_init 14 = .ok (.aload_n 0, 1) := by decide +kernel
theorem dX4_init_15 : decode cX4_init 15 = .ok (.bipush 64, 2) := by decide +kernel
theorem dX4_init_17 : decode cX4_init 17 = .ok (.newarray .int, 2) := by decide +kernel
theorem dX4_init_19 : decode cX4_init 19 = .ok (.putfield 16, 3) := by decide +kernel
theorem dX4_init_22 : decode cX4_init 22 = .ok (.aload_n 0, 1) := by decide +kernel
theorem dX4_init_23 : decode cX4_init 23 = .ok (.bipush 6, 2) := by decide +kernel
theorem dX4_init_25 : decode cX4_init 25 = .ok (.newarray .int, 2) := by decide +kernel
theorem dX4_init_27 : decode cX4_init 27 = .ok (.putfield 20, 3) := by decide +kernel
theorem dX4_init_30 : decode cX4_init 30 = .ok (.aload_n 0, 1) := by decide +kernel
theorem dX4_init_31 : decode cX4_init 31 = .ok (.bipush 6, 2) := by decide +kernel
theorem dX4_init_33 : decode cX4_init 33 = .ok (.newarray .int, 2) := by decide +kernel
theorem dX4_init_35 : decode cX4_init 35 = .ok (.dup, 1) := by decide +kernel
theorem dX4_init_36 : decode cX4_init 36 = .ok (.iconst 0, 1) := by decide +kernel
theorem dX4_init_37 : decode cX4_init 37 = .ok (.iconst (-1), 1) := by decide +kernel
theorem dX4_init_38 : decode cX4_init 38 = .ok (.iastore, 1) := by decide +kernel
theorem dX4_init_39 : decode cX4_init 39 = .ok (.dup, 1) := by decide +kernel
theorem dX4_init_40 : decode cX4_init 40 = .ok (.iconst 1, 1) := by decide +kernel
theorem dX4_init_41 : decode cX4_init 41 = .ok (.iconst (-1), 1) := by decide +kernel
theorem dX4_init_42 : decode cX4_init 42 = .ok (.iastore, 1) := by decide +kernel
theorem dX4_init_43 : decode cX4_init 43 = .ok (.dup, 1) := by decide +kernel
theorem dX4_init_44 : decode cX4_init 44 = .ok (.iconst 2, 1) := by decide +kernel
theorem dX4_init_45 : decode cX4_init 45 = .ok (.iconst (-1), 1) := by decide +kernel
theorem dX4_init_46 : decode cX4_init 46 = .ok (.iastore, 1) := by decide +kernel
theorem dX4_init_47 : decode cX4_init 47 = .ok (.dup, 1) := by decide +kernel
theorem dX4_init_48 : decode cX4_init 48 = .ok (.iconst 3, 1) := by decide +kernel
theorem dX4_init_49 : decode cX4_init 49 = .ok (.iconst (-1), 1) := by decide +kernel
theorem dX4_init_50 : decode cX4_init 50 = .ok (.iastore, 1) := by decide +kernel
theorem dX4_init_51 : decode cX4_init 51 = .ok (.dup, 1) := by decide +kernel
theorem dX4_init_52 : decode cX4_init 52 = .ok (.iconst 4, 1) := by decide +kernel
theorem dX4_init_53 : decode cX4_init 53 = .ok (.iconst (-1), 1) := by decide +kernel
theorem dX4_init_54 : decode cX4_init 54 = .ok (.iastore, 1) := by decide +kernel
theorem dX4_init_55 : decode cX4_init 55 = .ok (.dup, 1) := by decide +kernel
theorem dX4_init_56 : decode cX4_init 56 = .ok (.iconst 5, 1) := by decide +kernel
theorem dX4_init_57 : decode cX4_init 57 = .ok (.iconst (-1), 1) := by decide +kernel
theorem dX4_init_58 : decode cX4_init 58 = .ok (.iastore, 1) := by decide +kernel
theorem dX4_init_59 : decode cX4_init 59 = .ok (.putfield 23, 3) := by decide +kernel
theorem dX4_init_62 : decode cX4_init 62 = .ok (.aload_n 0, 1) := by decide +kernel
theorem dX4_init_63 : decode cX4_init 63 = .ok (.bipush 6, 2) := by decide +kernel
theorem dX4_init_65 : decode cX4_init 65 = .ok (.newarray .int, 2) := by decide +kernel
theorem dX4_init_67 : decode cX4_init 67 = .ok (.putfield 26, 3) := by decide +kernel
theorem dX4_init_70 : decode cX4_init 70 = .ok (.aload_n 0, 1) := by decide +kernel
theorem dX4_init_71 : decode cX4_init 71 = .ok (.bipush 100, 2) := by decide +kernel
theorem dX4_init_73 : decode cX4_init 73 = .ok (.newarray .int, 2) := by decide +kernel
theorem dX4_init_75 : decode cX4_init 75 = .ok (.putfield 29, 3) := by decide +kernel
theorem dX4_init_78 : decode cX4_init 78 = .ok (.aload_n 0, 1) := by decide +kernel
theorem dX4_init_79 : decode cX4_init 79 = .ok (.bipush 100, 2) := by decide +kernel
theorem dX4_init_81 : decode cX4_init 81 = .ok (.newarray .int, 2) := by decide +kernel
theorem dX4_init_83 : decode cX4_init 83 = .ok (.putfield 32, 3) := by decide +kernel
theorem dX4_init_86 : decode cX4_init 86 = .ok (.aload_n 0, 1) := by decide +kernel
theorem dX4_init_87 : decode cX4_init 87 = .ok (.iconst 4, 1) := by decide +kernel
theorem dX4_init_88 : decode cX4_init 88 = .ok (.newarray .boolean, 2) := by decide +kernel
theorem dX4_init_90 : decode cX4_init 90 = .ok (.putfield 35, 3) := by decide +kernel
theorem dX4_init_93 : decode cX4_init 93 = .ok (.aload_n 0, 1) := by decide +kernel
theorem dX4_init_94 : decode cX4_init 94 = .ok (.iconst 4, 1) := by decide +kernel
theorem dX4_init_95 : decode cX4_init 95 = .ok (.newarray .int, 2) := by decide +kernel
theorem dX4_init_97 : decode cX4_init 97 = .ok (.putfield 39, 3) := by decide +kernel
theorem dX4_init_100 : decode cX4_init 100 = .ok (.aload_n 0, 1) := by decide +kernel
theorem dX4_init_101 : decode cX4_init 101 = .ok (.iconst 4, 1) := by decide +kernel
theorem dX4_init_102 : decode cX4_init 102 = .ok (.newarray .int, 2) := by decide +kernel
theorem dX4_init_104 : decode cX4_init 104 = .ok (.putfield 42, 3) := by decide +kernel
theorem dX4_init_107 : decode cX4_init 107 = .ok (.aload_n 0, 1) := by decide +kernel
theorem dX4_init_108 : decode cX4_init 108 = .ok (.sipush 256, 3) := by decide +kernel
theorem dX4_init_111 : decode cX4_init 111 = .ok (.newarray .int, 2) := by decide +kernel
theorem dX4_init_113 : decode cX4_init 113 = .ok (.putfield 45, 3) := by decide +kernel
theorem dX4_init_116 : decode cX4_init 116 = .ok (.aload_n 0, 1) := by decide +kernel
theorem dX4_init_117 : decode cX4_init 117 = .ok (.bipush 64, 2) := by decide +kernel
theorem dX4_init_119 : decode cX4_init 119 = .ok (.newarray .int, 2) := by decide +kernel
theorem dX4_init_121 : decode cX4_init 121 = .ok (.putfield 48, 3) := by decide +kernel
theorem dX4_init_124 : decode cX4_init 124 = .ok (.aload_n 0, 1) := by decide +kernel
theorem dX4_init_125 : decode cX4_init 125 = .ok (.bipush 64, 2) := by decide +kernel
theorem dX4_init_127 : decode cX4_init 127 = .ok (.newarray .boolean, 2) := by decide +kernel
theorem dX4_init_129 : decode cX4_init 129 = .ok (.putfield 51, 3) := by decide +kernel
theorem dX4_init_132 : decode cX4_init 132 = .ok (.aload_n 0, 1) := by decide +kernel
theorem dX4_init_133 : decode cX4_init 133 = .ok (.bipush 64, 2) := by decide +kernel
theorem dX4_init_135 : decode cX4_init 135 = .ok (.newarray .int, 2) := by decide +kernel
theorem dX4_init_137 : decode cX4_init 137 = .ok (.putfield 54, 3) := by decide +kernel
theorem dX4_init_140 : decode cX4_init 140 = .ok (.aload_n 0, 1) := by decide +kernel
theorem dX4_init_141 : decode cX4_init 141 = .ok (.bipush 6, 2) := by decide +kernel
theorem dX4_init_143 : decode cX4_init 143 = .ok (.newarray .int, 2) := by decide +kernel
theorem dX4_init_145 : decode cX4_init 145 = .ok (.putfield 57, 3) := by decide +kernel
theorem dX4_init_148 : decode cX4_init 148 = .ok (.aload_n 0, 1) := by decide +kernel
theorem dX4_init_149 : decode cX4_init 149 = .ok (.bipush 6, 2) := by decide +kernel
theorem dX4_init_151 : decode cX4_init 151 = .ok (.newarray .int, 2) := by decide +kernel
theorem dX4_init_153 : decode cX4_init 153 = .ok (.putfield 60, 3) := by decide +kernel
theorem dX4_init_156 : decode cX4_init 156 = .ok (.aload_n 0, 1) := by decide +kernel
theorem dX4_init_157 : decode cX4_init 157 = .ok (.invokevirtual 63, 3) := by decide +kernel
theorem dX4_init_160 : decode cX4_init 160 = .ok (.return_, 1) := by decide +kernel
theorem dX4_in_0 : decode cX4_in 0 = .ok (.iload_n 0, 1) := by decide +kernel
theorem dX4_in_1 : decode cX4_in 1 = .ok (.iload_n 1, 1) := by decide +kernel
theorem dX4_in_2 : decode cX4_in 2 = .ok (.if_icmp .lt 12, 3) := by decide +kernel
theorem dX4_in_5 : decode cX4_in 5 = .ok (.iload_n 0, 1) := by decide +kernel
theorem dX4_in_6 : decode cX4_in 6 = .ok (.iload_n 2, 1) := by decide +kernel
theorem dX4_in_7 : decode cX4_in 7 = .ok (.if_icmp .gt 7, 3) := by decide +kernel
theorem dX4_in_10 : decode cX4_in 10 = .ok (.iconst 1, 1) := by decide +kernel
theorem dX4_in_11 : decode cX4_in 11 = .ok (.goto 4, 3) := by decide +kernel
theorem dX4_in_14 : decode cX4_in 14 = .ok (.iconst 0, 1) := by decide +kernel
theorem dX4_in_15 : decode cX4_in 15 = .ok (.ireturn, 1) := by decide +kernel
set_option maxRecDepth 20000 in
theorem ggX4_clears_X4_plain : GoodIn wsX4_clears wsX4_plain := goodIn_r _ [6, 7, 8, 9, 10, 11, 12, 13, 14, 15, 16, 17, 18, 19, 20, 21, 22, 23, 24, 25, 26, 27, 28, 29, 30, 31, 32, 33, 34, 35] (by decide +kernel) (by decide +kernel)
set_option maxRecDepth 20000 in
theorem gX4_clears_X4_plain : GoodIn wsX4_clears (wsV RX4 66 RX4 yX4_plain wsX4_plain) := goodIn_app (goodIn_of _ (by decide +kernel)) ggX4_clears_X4_plain
theorem dX4_clears_0 : decode cX4_clears 0 = .ok (.iconst 0, 1) := by decide +kernel
theorem dX4_clears_1 : decode cX4_clears 1 = .ok (.istore_n 1, 1) := by decide +kernel
theorem dX4_clears_2 : decode cX4_clears 2 = .ok (.iload_n 1, 1) := by decide +kernel
theorem dX4_clears_3 : decode cX4_clears 3 = .ok (.bipush 64, 2) := by decide +kernel
theorem dX4_clears_5 : decode cX4_clears 5 = .ok (.if_icmp .ge 17, 3) := by decide +kernel
theorem dX4_clears_8 : decode cX4_clears 8 = .ok (.aload_n 0, 1) := by decide +kernel
theorem dX4_clears_9 : decode cX4_clears 9 = .ok (.getfield 16, 3) := by decide +kernel
theorem dX4_clears_12 : decode cX4_clears 12 = .ok (.iload_n 1, 1) := by decide +kernel
theorem dX4_clears_13 : decode cX4_clears 13 = .ok (.bipush (-4), 2) := by decide +kernel
theorem dX4_clears_15 : decode cX4_clears 15 = .ok (.iastore, 1) := by decide +kernel
theorem dX4_clears_16 : decode cX4_clears 16 = .ok (.iinc 1 1, 3) := by decide +kernel
theorem dX4_clears_19 : decode cX4_clears 19 = .ok (.goto (-17), 3) := by decide +kernel
theorem dX4_clears_22 : decode cX4_clears 22 = .ok (.aload_n 0, 1) := by decide +kernel
theorem dX4_clears_23 : decode cX4_clears 23 = .ok (.invokevirtual 66, 3) := by decide +kernel
theorem dX4_clears_26 : decode cX4_clears 26 = .ok (.return_, 1) := by decide +kernel
theorem dX4_plain_0 : decode cX4_plain 0 = .ok (.iconst 0, 1) := by decide +kernel
theorem dX4_plain_1 : decode cX4_plain 1 = .ok (.istore_n 1, 1) := by decide +kernel
theorem dX4_plain_2 : decode cX4_plain 2 = .ok (.iload_n 1, 1) := by decide +kernel
theorem dX4_plain_3 : decode cX4_plain 3 = .ok (.bipush 6, 2) := by decide +kernel
theorem dX4_plain_5 : decode cX4_plain 5 = .ok (.if_icmp .ge 23, 3) := by decide +kernel
theorem dX4_plain_8 : decode cX4_plain 8 = .ok (.aload_n 0, 1) := by decide +kernel
theorem dX4_plain_9 : decode cX4_plain 9 = .ok (.getfield 20, 3) := by decide +kernel
theorem dX4_plain_12 : decode cX4_plain 12 = .ok (.iload_n 1, 1) := by decide +kernel
theorem dX4_plain_13 : decode cX4_plain 13 = .ok (.iconst 0, 1) := by decide +kernel
theorem dX4_plain_14 : decode cX4_plain 14 = .ok (.iastore, 1) := by decide +kernel
theorem dX4_plain_15 : decode cX4_plain 15 = .ok (.aload_n 0, 1) := by decide +kernel
theorem dX4_plain_16 : decode cX4_plain 16 = .ok (.getfield 23, 3) := by decide +kernel
theorem dX4_plain_19 : decode cX4_plain 19 = .ok (.iload_n 1, 1) := by decide +kernel
theorem dX4_plain_20 : decode cX4_plain 20 = .ok (.iconst (-1), 1) := by decide +kernel
theorem dX4_plain_21 : decode cX4_plain 21 = .ok (.iastore, 1) := by decide +kernel
theorem dX4_plain_22 : decode cX4_plain 22 = .ok (.iinc 1 1, 3) := by decide +kernel
theorem dX4_plain_25 : decode cX4_plain 25 = .ok (.goto (-23), 3) := by decide +kernel
theorem dX4_plain_28 : decode cX4_plain 28 = .ok (.aload_n 0, 1) := by decide +kernel
theorem dX4_plain_29 : decode cX4_plain 29 = .ok (.iconst 0, 1) := by decide +kernel
theorem dX4_plain_30 : decode cX4_plain 30 = .ok (.putfield 69, 3) := by decide +kernel
theorem dX4_plain_33 : decode cX4_plain 33 = .ok (.return_, 1) := by decide +kernel
set_option maxRecDepth 20000 in
theorem ggX4_isLand_X4_in : GoodIn wsX4_isLand wsX4_in := goodIn_r _ [4] (by decide +kernel) (by decide +kernel)
set_option maxRecDepth 20000 in
theorem gX4_isLand_X4_in : GoodIn wsX4_isLand (va_wsS RX4 72 yX4_in wsX4_in) := goodIn_app (goodIn_of _ (by decide +kernel)) ggX4_isLand_X4_in
theorem dX4_isLand_0 : decode cX4_isLand 0 = .ok (.iload_n 0, 1) := by decide +kernel
theorem dX4_isLand_1 : decode cX4_isLand 1 = .ok (.iconst 0, 1) := by decide +kernel
theorem dX4_isLand_2 : decode cX4_isLand 2 = .ok (.iconst 5, 1) := by decide +kernel
theorem dX4_isLand_3 : decode cX4_isLand 3 = .ok (.invokestatic 72, 3) := by decide +kernel
theorem dX4_isLand_6 : decode cX4_isLand 6 = .ok (.ireturn, 1) := by decide +kernel
set_option maxRecDepth 20000 in
theorem ggX4_isOn_X4_in : GoodIn wsX4_isOn wsX4_in := goodIn_r _ [6] (by decide +kernel) (by decide +kernel)
set_option maxRecDepth 20000 in
theorem gX4_isOn_X4_in : GoodIn wsX4_isOn (va_wsS RX4 72 yX4_in wsX4_in) := goodIn_app (goodIn_of _ (by decide +kernel)) ggX4_isOn_X4_in
theorem dX4_isOn_0 : decode cX4_isOn 0 = .ok (.iload_n 1, 1) := by decide +kernel
theorem dX4_isOn_1 : decode cX4_isOn 1 = .ok (.iconst 0, 1) := by decide +kernel
theorem dX4_isOn_2 : decode cX4_isOn 2 = .ok (.aload_n 0, 1) := by decide +kernel
theorem dX4_isOn_3 : decode cX4_isOn 3 = .ok (.getfield 7, 3) := by decide +kernel
theorem dX4_isOn_6 : decode cX4_isOn 6 = .ok (.iconst 1, 1) := by decide +kernel
theorem dX4_isOn_7 : decode cX4_isOn 7 = .ok (.isub, 1) := by decide +kernel
theorem dX4_isOn_8 : decode cX4_isOn 8 = .ok (.invokestatic 72, 3) := by decide +kernel
theorem dX4_isOn_11 : decode cX4_isOn 11 = .ok (.ifCond .eq 21, 3) := by decide +kernel
theorem dX4_isOn_14 : decode cX4_isOn 14 = .ok (.iload_n 2, 1) := by decide +kernel
theorem dX4_isOn_15 : decode cX4_isOn 15 = .ok (.iconst 0, 1) := by decide +kernel
theorem dX4_isOn_16 : decode cX4_isOn 16 = .ok (.aload_n 0, 1) := by decide +kernel
theorem dX4_isOn_17 : decode cX4_isOn 17 = .ok (.getfield 13, 3) := by decide +kernel
theorem dX4_isOn_20 : decode cX4_isOn 20 = .ok (.iconst 1, 1) := by decide +kernel
theorem dX4_isOn_21 : decode cX4_isOn 21 = .ok (.isub, 1) := by decide +kernel
theorem dX4_isOn_22 : decode cX4_isOn 22 = .ok (.invokestatic 72, 3) := by decide +kernel
theorem dX4_isOn_25 : decode cX4_isOn 25 = .ok (.ifCond .eq 7, 3) := by decide +kernel
theorem dX4_isOn_28 : decode cX4_isOn 28 = .ok (.iconst 1, 1) := by decide +kernel
theorem dX4_isOn_29 : decode cX4_isOn 29 = .ok (.goto 4, 3) := by decide +kernel
theorem dX4_isOn_32 : decode cX4_isOn 32 = .ok (.iconst 0, 1) := by decide +kernel
theorem dX4_isOn_33 : decode cX4_isOn 33 = .ok (.ireturn, 1) := by decide +kernel
set_option maxRecDepth 20000 in
theorem ggX4_cellAt_X4_isOn : GoodIn wsX4_cellAt wsX4_isOn := goodIn_r _ [6, 1, 7, 8, 9, 5, 10, 11, 12, 13, 14, 15, 16, 17, 18, 19, 20, 21, 22, 23, 24, 25, 26, 27, 28, 29, 30, 31, 32, 33, 34, 35, 36] (by decide +kernel) (by decide +kernel)
set_option maxRecDepth 20000 in
theorem gX4_cellAt_X4_isOn : GoodIn wsX4_cellAt (wsV RX4 76 RX4 yX4_isOn wsX4_isOn) := goodIn_app (goodIn_of _ (by decide +kernel)) ggX4_cellAt_X4_isOn
theorem dX4_cellAt_0 : decode cX4_cellAt 0 = .ok (.aload_n 0, 1) := by decide +kernel
theorem dX4_cellAt_1 : decode cX4_cellAt 1 = .ok (.iload_n 1, 1) := by decide +kernel
theorem dX4_cellAt_2 : decode cX4_cellAt 2 = .ok (.iload_n 2, 1) := by decide +kernel
theorem dX4_cellAt_3 : decode cX4_cellAt 3 = .ok (.invokevirtual 76, 3) := by decide +kernel
theorem dX4_cellAt_6 : decode cX4_cellAt 6 = .ok (.ifCond .eq 14, 3) := by decide +kernel
theorem dX4_cellAt_9 : decode cX4_cellAt 9 = .ok (.iload_n 2, 1) := by decide +kernel
theorem dX4_cellAt_10 : decode cX4_cellAt 10 = .ok (.aload_n 0, 1) := by decide +kernel
theorem dX4_cellAt_11 : decode cX4_cellAt 11 = .ok (.getfield 7, 3) := by decide +kernel
theorem dX4_cellAt_14 : decode cX4_cellAt 14 = .ok (.imul, 1) := by decide +kernel
theorem dX4_cellAt_15 : decode cX4_cellAt 15 = .ok (.iload_n 1, 1) := by decide +kernel
theorem dX4_cellAt_16 : decode cX4_cellAt 16 = .ok (.iadd, 1) := by decide +kernel
theorem dX4_cellAt_17 : decode cX4_cellAt 17 = .ok (.goto 4, 3) := by decide +kernel
theorem dX4_cellAt_20 : decode cX4_cellAt 20 = .ok (.iconst (-1), 1) := by decide +kernel
theorem dX4_cellAt_21 : decode cX4_cellAt 21 = .ok (.ireturn, 1) := by decide +kernel
set_option maxRecDepth 20000 in
theorem ggX4_beside_X4_cellAt : GoodIn wsX4_beside wsX4_cellAt := goodIn_r _ [6, 1, 7, 8, 9, 5, 10, 11, 12, 13, 14, 15, 16, 17, 18, 19, 20, 21, 22, 23, 24, 25, 26, 27, 28, 29, 30, 31, 32, 33, 34, 35, 36, 37, 38, 39, 40] (by decide +kernel) (by decide +kernel)
set_option maxRecDepth 20000 in
theorem gX4_beside_X4_cellAt : GoodIn wsX4_beside (wsV RX4 80 RX4 yX4_cellAt wsX4_cellAt) := goodIn_app (goodIn_of _ (by decide +kernel)) ggX4_beside_X4_cellAt
theorem dX4_beside_0 : decode cX4_beside 0 = .ok (.iload_n 1, 1) := by decide +kernel
theorem dX4_beside_1 : decode cX4_beside 1 = .ok (.aload_n 0, 1) := by decide +kernel
theorem dX4_beside_2 : decode cX4_beside 2 = .ok (.getfield 7, 3) := by decide +kernel
theorem dX4_beside_5 : decode cX4_beside 5 = .ok (.irem, 1) := by decide +kernel
theorem dX4_beside_6 : decode cX4_beside 6 = .ok (.iload_n 2, 1) := by decide +kernel
theorem dX4_beside_7 : decode cX4_beside 7 = .ok (.ifCond .ne 7, 3) := by decide +kernel
theorem dX4_beside_10 : decode cX4_beside 10 = .ok (.iconst 1, 1) := by decide +kernel
theorem dX4_beside_11 : decode cX4_beside 11 = .ok (.goto 13, 3) := by decide +kernel
theorem dX4_beside_14 : decode cX4_beside 14 = .ok (.iload_n 2, 1) := by decide +kernel
theorem dX4_beside_15 : decode cX4_beside 15 = .ok (.iconst 1, 1) := by decide +kernel
theorem dX4_beside_16 : decode cX4_beside 16 = .ok (.if_icmp .ne 7, 3) := by decide +kernel
theorem dX4_beside_19 : decode cX4_beside 19 = .ok (.iconst (-1), 1) := by decide +kernel
theorem dX4_beside_20 : decode cX4_beside 20 = .ok (.goto 4, 3) := by decide +kernel
theorem dX4_beside_23 : decode cX4_beside 23 = .ok (.iconst 0, 1) := by decide +kernel
theorem dX4_beside_24 : decode cX4_beside 24 = .ok (.iadd, 1) := by decide +kernel
theorem dX4_beside_25 : decode cX4_beside 25 = .ok (.istore_n 3, 1) := by decide +kernel
theorem dX4_beside_26 : decode cX4_beside 26 = .ok (.iload_n 1, 1) := by decide +kernel
theorem dX4_beside_27 : decode cX4_beside 27 = .ok (.aload_n 0, 1) := by decide +kernel
theorem dX4_beside_28 : decode cX4_beside 28 = .ok (.getfield 7, 3) := by decide +kernel
theorem dX4_beside_31 : decode cX4_beside 31 = .ok (.idiv, 1) := by decide +kernel
theorem dX4_beside_32 : decode cX4_beside 32 = .ok (.iload_n 2, 1) := by decide +kernel
theorem dX4_beside_33 : decode cX4_beside 33 = .ok (.iconst 2, 1) := by decide +kernel
theorem dX4_beside_34 : decode cX4_beside 34 = .ok (.if_icmp .ne 7, 3) := by decide +kernel
theorem dX4_beside_37 : decode cX4_beside 37 = .ok (.iconst 1, 1) := by decide +kernel
theorem dX4_beside_38 : decode cX4_beside 38 = .ok (.goto 13, 3) := by decide +kernel
theorem dX4_beside_41 : decode cX4_beside 41 = .ok (.iload_n 2, 1) := by decide +kernel
theorem dX4_beside_42 : decode cX4_beside 42 = .ok (.iconst 3, 1) := by decide +kernel
theorem dX4_beside_43 : decode cX4_beside 43 = .ok (.if_icmp .ne 7, 3) := by decide +kernel
theorem dX4_beside_46 : decode cX4_beside 46 = .ok (.iconst (-1), 1) := by decide +kernel
theorem dX4_beside_47 : decode cX4_beside 47 = .ok (.goto 4, 3) := by decide +kernel
theorem dX4_beside_50 : decode cX4_beside 50 = .ok (.iconst 0, 1) := by decide +kernel
theorem dX4_beside_51 : decode cX4_beside 51 = .ok (.iadd, 1) := by decide +kernel
theorem dX4_beside_52 : decode cX4_beside 52 = .ok (.istore 4, 2) := by decide +kernel
theorem dX4_beside_54 : decode cX4_beside 54 = .ok (.aload_n 0, 1) := by decide +kernel
theorem dX4_beside_55 : decode cX4_beside 55 = .ok (.iload_n 3, 1) := by decide +kernel
theorem dX4_beside_56 : decode cX4_beside 56 = .ok (.iload 4, 2) := by decide +kernel
theorem dX4_beside_58 : decode cX4_beside 58 = .ok (.invokevirtual 80, 3) := by decide +kernel
theorem dX4_beside_61 : decode cX4_beside 61 = .ok (.ireturn, 1) := by decide +kernel
set_option maxRecDepth 20000 in
theorem ggX4_board_X4_in : GoodIn wsX4_board wsX4_in := goodIn_r _ [6] (by decide +kernel) (by decide +kernel)
set_option maxRecDepth 20000 in
theorem gX4_board_X4_in : GoodIn wsX4_board (va_wsS RX4 72 yX4_in wsX4_in) := goodIn_app (goodIn_of _ (by decide +kernel)) ggX4_board_X4_in
set_option maxRecDepth 20000 in
theorem ggX4_board_X4_clears : GoodIn wsX4_board wsX4_clears := goodIn_r _ [10, 11, 12, 13, 14, 5, 15, 16, 17, 18, 19, 20, 21, 22, 23, 24, 25, 26, 27, 28, 29, 30, 31, 32, 33, 34, 35, 36, 37, 38, 39, 40, 41, 42, 43, 44] (by decide +kernel) (by decide +kernel)
set_option maxRecDepth 20000 in
theorem gX4_board_X4_clears : GoodIn wsX4_board (wsV RX4 63 RX4 yX4_clears wsX4_clears) := goodIn_app (goodIn_of _ (by decide +kernel)) ggX4_board_X4_clears
theorem dX4_board_0 : decode cX4_board 0 = .ok (.iload_n 1, 1) := by decide +kernel
theorem dX4_board_1 : decode cX4_board 1 = .ok (.iconst 1, 1) := by decide +kernel
theorem dX4_board_2 : decode cX4_board 2 = .ok (.bipush 8, 2) := by decide +kernel
theorem dX4_board_4 : decode cX4_board 4 = .ok (.invokestatic 72, 3) := by decide +kernel
theorem dX4_board_7 : decode cX4_board 7 = .ok (.ifCond .eq 13, 3) := by decide +kernel
theorem dX4_board_10 : decode cX4_board 10 = .ok (.iload_n 2, 1) := by decide +kernel
theorem dX4_board_11 : decode cX4_board 11 = .ok (.iconst 1, 1) := by decide +kernel
theorem dX4_board_12 : decode cX4_board 12 = .ok (.bipush 8, 2) := by decide +kernel
theorem dX4_board_14 : decode cX4_board 14 = .ok (.invokestatic 72, 3) := by decide +kernel
theorem dX4_board_17 : decode cX4_board 17 = .ok (.ifCond .ne 5, 3) := by decide +kernel
theorem dX4_board_20 : decode cX4_board 20 = .ok (.iconst (-1), 1) := by decide +kernel
theorem dX4_board_21 : decode cX4_board 21 = .ok (.ireturn, 1) := by decide +kernel
theorem dX4_board_22 : decode cX4_board 22 = .ok (.aload_n 0, 1) := by decide +kernel
theorem dX4_board_23 : decode cX4_board 23 = .ok (.iload_n 1, 1) := by decide +kernel
theorem dX4_board_24 : decode cX4_board 24 = .ok (.putfield 7, 3) := by decide +kernel
theorem dX4_board_27 : decode cX4_board 27 = .ok (.aload_n 0, 1) := by decide +kernel
theorem dX4_board_28 : decode cX4_board 28 = .ok (.iload_n 2, 1) := by decide +kernel
theorem dX4_board_29 : decode cX4_board 29 = .ok (.putfield 13, 3) := by decide +kernel
theorem dX4_board_32 : decode cX4_board 32 = .ok (.aload_n 0, 1) := by decide +kernel
theorem dX4_board_33 : decode cX4_board 33 = .ok (.invokevirtual 63, 3) := by decide +kernel
theorem dX4_board_36 : decode cX4_board 36 = .ok (.aload_n 0, 1) := by decide +kernel
theorem dX4_board_37 : decode cX4_board 37 = .ok (.getfield 7, 3) := by decide +kernel
theorem dX4_board_40 : decode cX4_board 40 = .ok (.aload_n 0, 1) := by decide +kernel
theorem dX4_board_41 : decode cX4_board 41 = .ok (.getfield 13, 3) := by decide +kernel
theorem dX4_board_44 : decode cX4_board 44 = .ok (.imul, 1) := by decide +kernel
theorem dX4_board_45 : decode cX4_board 45 = .ok (.ireturn, 1) := by decide +kernel
set_option maxRecDepth 20000 in
theorem ggX4_set_X4_cellAt : GoodIn wsX4_set wsX4_cellAt := goodIn_r _ [7, 8, 9, 10, 11, 6, 12, 13, 14, 15, 16, 20, 21, 22, 23, 24, 25, 26, 27, 28, 29, 30, 31, 32, 33, 34, 35, 36, 37, 38, 39, 40, 41, 42, 43, 44, 45] (by decide +kernel) (by decide +kernel)
set_option maxRecDepth 20000 in
theorem gX4_set_X4_cellAt : GoodIn wsX4_set (wsV RX4 80 RX4 yX4_cellAt wsX4_cellAt) := goodIn_app (goodIn_of _ (by decide +kernel)) ggX4_set_X4_cellAt
set_option maxRecDepth 20000 in
theorem ggX4_set_X4_isLand : GoodIn wsX4_set wsX4_isLand := goodIn_r _ [19, 14, 15, 6, 16] (by decide +kernel) (by decide +kernel)
set_option maxRecDepth 20000 in
theorem gX4_set_X4_isLand : GoodIn wsX4_set (va_wsS RX4 84 yX4_isLand wsX4_isLand) := goodIn_app (goodIn_of _ (by decide +kernel)) ggX4_set_X4_isLand
theorem dX4_set_0 : decode cX4_set 0 = .ok (.aload_n 0, 1) := by decide +kernel
theorem dX4_set_1 : decode cX4_set 1 = .ok (.iload_n 1, 1) := by decide +kernel
theorem dX4_set_2 : decode cX4_set 2 = .ok (.iload_n 2, 1) := by decide +kernel
theorem dX4_set_3 : decode cX4_set 3 = .ok (.invokevirtual 80, 3) := by decide +kernel
theorem dX4_set_6 : decode cX4_set 6 = .ok (.istore 4, 2) := by decide +kernel
theorem dX4_set_8 : decode cX4_set 8 = .ok (.iload 4, 2) := by decide +kernel
theorem dX4_set_10 : decode cX4_set 10 = .ok (.ifCond .lt 16, 3) := by decide +kernel
theorem dX4_set_13 : decode cX4_set 13 = .ok (.iload_n 3, 1) := by decide +kernel
theorem dX4_set_14 : decode cX4_set 14 = .ok (.bipush (-4), 2) := by decide +kernel
theorem dX4_set_16 : decode cX4_set 16 = .ok (.if_icmp .eq 12, 3) := by decide +kernel
theorem dX4_set_19 : decode cX4_set 19 = .ok (.iload_n 3, 1) := by decide +kernel
theorem dX4_set_20 : decode cX4_set 20 = .ok (.invokestatic 84, 3) := by decide +kernel
theorem dX4_set_23 : decode cX4_set 23 = .ok (.ifCond .ne 5, 3) := by decide +kernel
theorem dX4_set_26 : decode cX4_set 26 = .ok (.iconst (-1), 1) := by decide +kernel
theorem dX4_set_27 : decode cX4_set 27 = .ok (.ireturn, 1) := by decide +kernel
theorem dX4_set_28 : decode cX4_set 28 = .ok (.aload_n 0, 1) := by decide +kernel
theorem dX4_set_29 : decode cX4_set 29 = .ok (.getfield 16, 3) := by decide +kernel
theorem dX4_set_32 : decode cX4_set 32 = .ok (.iload 4, 2) := by decide +kernel
theorem dX4_set_34 : decode cX4_set 34 = .ok (.iaload, 1) := by decide +kernel
theorem dX4_set_35 : decode cX4_set 35 = .ok (.istore 5, 2) := by decide +kernel
theorem dX4_set_37 : decode cX4_set 37 = .ok (.aload_n 0, 1) := by decide +kernel
theorem dX4_set_38 : decode cX4_set 38 = .ok (.getfield 16, 3) := by decide +kernel
theorem dX4_set_41 : decode cX4_set 41 = .ok (.iload 4, 2) := by decide +kernel
theorem dX4_set_43 : decode cX4_set 43 = .ok (.iload_n 3, 1) := by decide +kernel
theorem dX4_set_44 : decode cX4_set 44 = .ok (.iastore, 1) := by decide +kernel
theorem dX4_set_45 : decode cX4_set 45 = .ok (.aload_n 0, 1) := by decide +kernel
theorem dX4_set_46 : decode cX4_set 46 = .ok (.iconst 0, 1) := by decide +kernel
theorem dX4_set_47 : decode cX4_set 47 = .ok (.putfield 69, 3) := by decide +kernel
theorem dX4_set_50 : decode cX4_set 50 = .ok (.iload 5, 2) := by decide +kernel
theorem dX4_set_52 : decode cX4_set 52 = .ok (.ireturn, 1) := by decide +kernel
set_option maxRecDepth 20000 in
theorem ggX4_at_X4_cellAt : GoodIn wsX4_at wsX4_cellAt := goodIn_r _ [6, 7, 8, 9, 10, 5, 11, 12, 13, 14, 15, 16, 17, 18, 19, 20, 21, 22, 23, 24, 25, 26, 27, 28, 29, 30, 31, 32, 33, 34, 35, 36, 37, 38, 39, 40, 41] (by decide +kernel) (by decide +kernel)
set_option maxRecDepth 20000 in
theorem gX4_at_X4_cellAt : GoodIn wsX4_at (wsV RX4 80 RX4 yX4_cellAt wsX4_cellAt) := goodIn_app (goodIn_of _ (by decide +kernel)) ggX4_at_X4_cellAt
theorem dX4_at_0 : decode cX4_at 0 = .ok (.aload_n 0, 1) := by decide +kernel
theorem dX4_at_1 : decode cX4_at 1 = .ok (.iload_n 1, 1) := by decide +kernel
theorem dX4_at_2 : decode cX4_at 2 = .ok (.iload_n 2, 1) := by decide +kernel
theorem dX4_at_3 : decode cX4_at 3 = .ok (.invokevirtual 80, 3) := by decide +kernel
theorem dX4_at_6 : decode cX4_at 6 = .ok (.istore_n 3, 1) := by decide +kernel
theorem dX4_at_7 : decode cX4_at 7 = .ok (.iload_n 3, 1) := by decide +kernel
theorem dX4_at_8 : decode cX4_at 8 = .ok (.ifCond .ge 7, 3) := by decide +kernel
theorem dX4_at_11 : decode cX4_at 11 = .ok (.iconst (-1), 1) := by decide +kernel
theorem dX4_at_12 : decode cX4_at 12 = .ok (.goto 9, 3) := by decide +kernel
theorem dX4_at_15 : decode cX4_at 15 = .ok (.aload_n 0, 1) := by decide +kernel
theorem dX4_at_16 : decode cX4_at 16 = .ok (.getfield 16, 3) := by decide +kernel
theorem dX4_at_19 : decode cX4_at 19 = .ok (.iload_n 3, 1) := by decide +kernel
theorem dX4_at_20 : decode cX4_at 20 = .ok (.iaload, 1) := by decide +kernel
theorem dX4_at_21 : decode cX4_at 21 = .ok (.ireturn, 1) := by decide +kernel
theorem dX4_sizeOf_0 : decode cX4_sizeOf 0 = .ok (.iconst 0, 1) := by decide +kernel
theorem dX4_sizeOf_1 : decode cX4_sizeOf 1 = .ok (.istore_n 2, 1) := by decide +kernel
theorem dX4_sizeOf_2 : decode cX4_sizeOf 2 = .ok (.iconst 0, 1) := by decide +kernel
theorem dX4_sizeOf_3 : decode cX4_sizeOf 3 = .ok (.istore_n 3, 1) := by decide +kernel
theorem dX4_sizeOf_4 : decode cX4_sizeOf 4 = .ok (.iload_n 3, 1) := by decide +kernel
theorem dX4_sizeOf_5 : decode cX4_sizeOf 5 = .ok (.aload_n 0, 1) := by decide +kernel
theorem dX4_sizeOf_6 : decode cX4_sizeOf 6 = .ok (.getfield 7, 3) := by decide +kernel
theorem dX4_sizeOf_9 : decode cX4_sizeOf 9 = .ok (.aload_n 0, 1) := by decide +kernel
theorem dX4_sizeOf_10 : decode cX4_sizeOf 10 = .ok (.getfield 13, 3) := by decide +kernel
theorem dX4_sizeOf_13 : decode cX4_sizeOf 13 = .ok (.imul, 1) := by decide +kernel
theorem dX4_sizeOf_14 : decode cX4_sizeOf 14 = .ok (.if_icmp .ge 27, 3) := by decide +kernel
theorem dX4_sizeOf_17 : decode cX4_sizeOf 17 = .ok (.iload_n 2, 1) := by decide +kernel
theorem dX4_sizeOf_18 : decode cX4_sizeOf 18 = .ok (.aload_n 0, 1) := by decide +kernel
theorem dX4_sizeOf_19 : decode cX4_sizeOf 19 = .ok (.getfield 16, 3) := by decide +kernel
theorem dX4_sizeOf_22 : decode cX4_sizeOf 22 = .ok (.iload_n 3, 1) := by decide +kernel
theorem dX4_sizeOf_23 : decode cX4_sizeOf 23 = .ok (.iaload, 1) := by decide +kernel
theorem dX4_sizeOf_24 : decode cX4_sizeOf 24 = .ok (.iload_n 1, 1) := by decide +kernel
theorem dX4_sizeOf_25 : decode cX4_sizeOf 25 = .ok (.if_icmp .ne 7, 3) := by decide +kernel
theorem dX4_sizeOf_28 : decode cX4_sizeOf 28 = .ok (.iconst 1, 1) := by decide +kernel
theorem dX4_sizeOf_29 : decode cX4_sizeOf 29 = .ok (.goto 4, 3) := by decide +kernel
theorem dX4_sizeOf_32 : decode cX4_sizeOf 32 = .ok (.iconst 0, 1) := by decide +kernel
theorem dX4_sizeOf_33 : decode cX4_sizeOf 33 = .ok (.iadd, 1) := by decide +kernel
theorem dX4_sizeOf_34 : decode cX4_sizeOf 34 = .ok (.istore_n 2, 1) := by decide +kernel
theorem dX4_sizeOf_35 : decode cX4_sizeOf 35 = .ok (.iinc 3 1, 3) := by decide +kernel
theorem dX4_sizeOf_38 : decode cX4_sizeOf 38 = .ok (.goto (-34), 3) := by decide +kernel
theorem dX4_sizeOf_41 : decode cX4_sizeOf 41 = .ok (.iload_n 2, 1) := by decide +kernel
theorem dX4_sizeOf_42 : decode cX4_sizeOf 42 = .ok (.ireturn, 1) := by decide +kernel
set_option maxRecDepth 20000 in
theorem ggX4_size_X4_isLand : GoodIn wsX4_size wsX4_isLand := goodIn_r _ [4, 5, 6, 3, 7] (by decide +kernel) (by decide +kernel)
set_option maxRecDepth 20000 in
theorem gX4_size_X4_isLand : GoodIn wsX4_size (va_wsS RX4 84 yX4_isLand wsX4_isLand) := goodIn_app (goodIn_of _ (by decide +kernel)) ggX4_size_X4_isLand
set_option maxRecDepth 20000 in
theorem ggX4_size_X4_sizeOf : GoodIn wsX4_size wsX4_sizeOf := goodIn_r _ [11, 12, 13, 14, 15, 16, 17, 18, 19, 20, 21, 22, 23, 24, 25, 26, 27, 28, 29, 30, 31, 32, 33, 34, 35, 36, 37, 38, 39, 40] (by decide +kernel) (by decide +kernel)
set_option maxRecDepth 20000 in
theorem gX4_size_X4_sizeOf : GoodIn wsX4_size (wsV RX4 88 RX4 yX4_sizeOf wsX4_sizeOf) := goodIn_app (goodIn_of _ (by decide +kernel)) ggX4_size_X4_sizeOf
theorem dX4_size_0 : decode cX4_size 0 = .ok (.iload_n 1, 1) := by decide +kernel
theorem dX4_size_1 : decode cX4_size 1 = .ok (.invokestatic 84, 3) := by decide +kernel
theorem dX4_size_4 : decode cX4_size 4 = .ok (.ifCond .eq 11, 3) := by decide +kernel
theorem dX4_size_7 : decode cX4_size 7 = .ok (.aload_n 0, 1) := by decide +kernel
theorem dX4_size_8 : decode cX4_size 8 = .ok (.iload_n 1, 1) := by decide +kernel
theorem dX4_size_9 : decode cX4_size 9 = .ok (.invokevirtual 88, 3) := by decide +kernel
theorem dX4_size_12 : decode cX4_size 12 = .ok (.goto 4, 3) := by decide +kernel
theorem dX4_size_15 : decode cX4_size 15 = .ok (.iconst (-1), 1) := by decide +kernel
theorem dX4_size_16 : decode cX4_size 16 = .ok (.ireturn, 1) := by decide +kernel
set_option maxRecDepth 20000 in
theorem ggX4_isWhole_X4_beside : GoodIn wsX4_isWhole wsX4_beside := goodIn_r _ [10, 1, 11, 12, 13, 9, 14, 15, 16, 17, 18, 2, 19, 20, 21, 26, 27, 28, 29, 30, 31, 32, 33, 34, 35, 36, 37, 38, 39, 40, 41, 42, 43, 44, 45, 46, 47, 48, 49, 50, 51] (by decide +kernel) (by decide +kernel)
set_option maxRecDepth 20000 in
theorem gX4_isWhole_X4_beside : GoodIn wsX4_isWhole (wsV RX4 92 RX4 yX4_beside wsX4_beside) := goodIn_app (goodIn_of _ (by decide +kernel)) ggX4_isWhole_X4_beside
set_option maxRecDepth 20000 in
theorem ggX4_isWhole_X4_sizeOf : GoodIn wsX4_isWhole wsX4_sizeOf := goodIn_r _ [25, 1, 2, 3, 26, 27, 28, 29, 30, 31, 32, 33, 34, 35, 36, 37, 38, 39, 40, 41, 42, 43, 44, 45, 46, 47, 48, 49, 50, 51] (by decide +kernel) (by decide +kernel)
set_option maxRecDepth 20000 in
theorem gX4_isWhole_X4_sizeOf : GoodIn wsX4_isWhole (wsV RX4 88 RX4 yX4_sizeOf wsX4_sizeOf) := goodIn_app (goodIn_of _ (by decide +kernel)) ggX4_isWhole_X4_sizeOf
theorem dX4_isWhole_0 : decode cX4_isWhole 0 = .ok (.iconst 0, 1) := by decide +kernel
theorem dX4_isWhole_1 : decode cX4_isWhole 1 = .ok (.istore_n 2, 1) := by decide +kernel
theorem dX4_isWhole_2 : decode cX4_isWhole 2 = .ok (.iload_n 2, 1) := by decide +kernel
theorem dX4_isWhole_3 : decode cX4_isWhole 3 = .ok (.aload_n 0, 1) := by decide +kernel
theorem dX4_isWhole_4 : decode cX4_isWhole 4 = .ok (.getfield 7, 3) := by decide +kernel
theorem dX4_isWhole_7 : decode cX4_isWhole 7 = .ok (.aload_n 0, 1) := by decide +kernel
theorem dX4_isWhole_8 : decode cX4_isWhole 8 = .ok (.getfield 13, 3) := by decide +kernel
theorem dX4_isWhole_11 : decode cX4_isWhole 11 = .ok (.imul, 1) := by decide +kernel
theorem dX4_isWhole_12 : decode cX4_isWhole 12 = .ok (.if_icmp .ge 19, 3) := by decide +kernel
theorem dX4_isWhole_15 : decode cX4_isWhole 15 = .ok (.aload_n 0, 1) := by decide +kernel
theorem dX4_isWhole_16 : decode cX4_isWhole 16 = .ok (.getfield 16, 3) := by decide +kernel
theorem dX4_isWhole_19 : decode cX4_isWhole 19 = .ok (.iload_n 2, 1) := by decide +kernel
theorem dX4_isWhole_20 : decode cX4_isWhole 20 = .ok (.iaload, 1) := by decide +kernel
theorem dX4_isWhole_21 : decode cX4_isWhole 21 = .ok (.iload_n 1, 1) := by decide +kernel
theorem dX4_isWhole_22 : decode cX4_isWhole 22 = .ok (.if_icmp .eq 9, 3) := by decide +kernel
theorem dX4_isWhole_25 : decode cX4_isWhole 25 = .ok (.iinc 2 1, 3) := by decide +kernel
theorem dX4_isWhole_28 : decode cX4_isWhole 28 = .ok (.goto (-26), 3) := by decide +kernel
theorem dX4_isWhole_31 : decode cX4_isWhole 31 = .ok (.iload_n 2, 1) := by decide +kernel
theorem dX4_isWhole_32 : decode cX4_isWhole 32 = .ok (.aload_n 0, 1) := by decide +kernel
theorem dX4_isWhole_33 : decode cX4_isWhole 33 = .ok (.getfield 7, 3) := by decide +kernel
theorem dX4_isWhole_36 : decode cX4_isWhole 36 = .ok (.aload_n 0, 1) := by decide +kernel
theorem dX4_isWhole_37 : decode cX4_isWhole 37 = .ok (.getfield 13, 3) := by decide +kernel
theorem dX4_isWhole_40 : decode cX4_isWhole 40 = .ok (.imul, 1) := by decide +kernel
theorem dX4_isWhole_41 : decode cX4_isWhole 41 = .ok (.if_icmp .ne 5, 3) := by decide +kernel
theorem dX4_isWhole_44 : decode cX4_isWhole 44 = .ok (.iconst 0, 1) := by decide +kernel
theorem dX4_isWhole_45 : decode cX4_isWhole 45 = .ok (.ireturn, 1) := by decide +kernel
theorem dX4_isWhole_46 : decode cX4_isWhole 46 = .ok (.iconst 0, 1) := by decide +kernel
theorem dX4_isWhole_47 : decode cX4_isWhole 47 = .ok (.istore_n 3, 1) := by decide +kernel
theorem dX4_isWhole_48 : decode cX4_isWhole 48 = .ok (.iload_n 3, 1) := by decide +kernel
theorem dX4_isWhole_49 : decode cX4_isWhole 49 = .ok (.bipush 64, 2) := by decide +kernel
theorem dX4_isWhole_51 : decode cX4_isWhole 51 = .ok (.if_icmp .ge 16, 3) := by decide +kernel
theorem dX4_isWhole_54 : decode cX4_isWhole 54 = .ok (.aload_n 0, 1) := by decide +kernel
theorem dX4_isWhole_55 : decode cX4_isWhole 55 = .ok (.getfield 51, 3) := by decide +kernel
theorem dX4_isWhole_58 : decode cX4_isWhole 58 = .ok (.iload_n 3, 1) := by decide +kernel
theorem dX4_isWhole_59 : decode cX4_isWhole 59 = .ok (.iconst 0, 1) := by decide +kernel
theorem dX4_isWhole_60 : decode cX4_isWhole 60 = .ok (.bastore, 1) := by decide +kernel
theorem dX4_isWhole_61 : decode cX4_isWhole 61 = .ok (.iinc 3 1, 3) := by decide +kernel
theorem dX4_isWhole_64 : decode cX4_isWhole 64 = .ok (.goto (-16), 3) := by decide +kernel
theorem dX4_isWhole_67 : decode cX4_isWhole 67 = .ok (.aload_n 0, 1) := by decide +kernel
theorem dX4_isWhole_68 : decode cX4_isWhole 68 = .ok (.getfield 51, 3) := by decide +kernel
theorem dX4_isWhole_71 : decode cX4_isWhole 71 = .ok (.iload_n 2, 1) := by decide +kernel
theorem dX4_isWhole_72 : decode cX4_isWhole 72 = .ok (.iconst 1, 1) := by decide +kernel
theorem dX4_isWhole_73 : decode cX4_isWhole 73 = .ok (.bastore, 1) := by decide +kernel
theorem dX4_isWhole_74 : decode cX4_isWhole 74 = .ok (.aload_n 0, 1) := by decide +kernel
theorem dX4_isWhole_75 : decode cX4_isWhole 75 = .ok (.getfield 48, 3) := by decide +kernel
theorem dX4_isWhole_78 : decode cX4_isWhole 78 = .ok (.iconst 0, 1) := by decide +kernel
theorem dX4_isWhole_79 : decode cX4_isWhole 79 = .ok (.iload_n 2, 1) := by decide +kernel
theorem dX4_isWhole_80 : decode cX4_isWhole 80 = .ok (.iastore, 1) := by decide +kernel
theorem dX4_isWhole_81 : decode cX4_isWhole 81 = .ok (.iconst 1, 1) := by decide +kernel
theorem dX4_isWhole_82 : decode cX4_isWhole 82 = .ok (.istore_n 3, 1) := by decide +kernel
theorem dX4_isWhole_83 : decode cX4_isWhole 83 = .ok (.iconst 1, 1) := by decide +kernel
theorem dX4_isWhole_84 : decode cX4_isWhole 84 = .ok (.istore 4, 2) := by decide +kernel
theorem dX4_isWhole_86 : decode cX4_isWhole 86 = .ok (.iload_n 3, 1) := by decide +kernel
theorem dX4_isWhole_87 : decode cX4_isWhole 87 = .ok (.ifCond .le 90, 3) := by decide +kernel
theorem dX4_isWhole_90 : decode cX4_isWhole 90 = .ok (.iinc 3 (-1), 3) := by decide +kernel
theorem dX4_isWhole_93 : decode cX4_isWhole 93 = .ok (.aload_n 0, 1) := by decide +kernel
theorem dX4_isWhole_94 : decode cX4_isWhole 94 = .ok (.getfield 48, 3) := by decide +kernel
theorem dX4_isWhole_97 : decode cX4_isWhole 97 = .ok (.iload_n 3, 1) := by decide +kernel
theorem dX4_isWhole_98 : decode cX4_isWhole 98 = .ok (.iaload, 1) := by decide +kernel
theorem dX4_isWhole_99 : decode cX4_isWhole 99 = .ok (.istore 5, 2) := by decide +kernel
theorem dX4_isWhole_101 : decode cX4_isWhole 101 = .ok (.iconst 0, 1) := by decide +kernel
theorem dX4_isWhole_102 : decode cX4_isWhole 102 = .ok (.istore 6, 2) := by decide +kernel
theorem dX4_isWhole_104 : decode cX4_isWhole 104 = .ok (.iload 6, 2) := by decide +kernel
theorem dX4_isWhole_106 : decode cX4_isWhole 106 = .ok (.iconst 4, 1) := by decide +kernel
theorem dX4_isWhole_107 : decode cX4_isWhole 107 = .ok (.if_icmp .ge 67, 3) := by decide +kernel
theorem dX4_isWhole_110 : decode cX4_isWhole 110 = .ok (.aload_n 0, 1) := by decide +kernel
theorem dX4_isWhole_111 : decode cX4_isWhole 111 = .ok (.iload 5, 2) := by decide +kernel
theorem dX4_isWhole_113 : decode cX4_isWhole 113 = .ok (.iload 6, 2) := by decide +kernel
theorem dX4_isWhole_115 : decode cX4_isWhole 115 = .ok (.invokevirtual 92, 3) := by decide +kernel
theorem dX4_isWhole_118 : decode cX4_isWhole 118 = .ok (.istore 7, 2) := by decide +kernel
theorem dX4_isWhole_120 : decode cX4_isWhole 120 = .ok (.iload 7, 2) := by decide +kernel
theorem dX4_isWhole_122 : decode cX4_isWhole 122 = .ok (.ifCond .lt 46, 3) := by decide +kernel
theorem dX4_isWhole_125 : decode cX4_isWhole 125 = .ok (.aload_n 0, 1) := by decide +kernel
theorem dX4_isWhole_126 : decode cX4_isWhole 126 = .ok (.getfield 16, 3) := by decide +kernel
theorem dX4_isWhole_129 : decode cX4_isWhole 129 = .ok (.iload 7, 2) := by decide +kernel
theorem dX4_isWhole_131 : decode cX4_isWhole 131 = .ok (.iaload, 1) := by decide +kernel
theorem dX4_isWhole_132 : decode cX4_isWhole 132 = .ok (.iload_n 1, 1) := by decide +kernel
theorem dX4_isWhole_133 : decode cX4_isWhole 133 = .ok (.if_icmp .ne 35, 3) := by decide +kernel
theorem dX4_isWhole_136 : decode cX4_isWhole 136 = .ok (.aload_n 0, 1) := by decide +kernel
theorem dX4_isWhole_137 : decode cX4_isWhole 137 = .ok (.getfield 51, 3) := by decide +kernel
theorem dX4_isWhole_140 : decode cX4_isWhole 140 = .ok (.iload 7, 2) := by decide +kernel
theorem dX4_isWhole_142 : decode cX4_isWhole 142 = .ok (.baload, 1) := by decide +kernel
theorem dX4_isWhole_143 : decode cX4_isWhole 143 = .ok (.ifCond .ne 25, 3) := by decide +kernel
theorem dX4_isWhole_146 : decode cX4_isWhole 146 = .ok (.aload_n 0, 1) := by decide +kernel
theorem dX4_isWhole_147 : decode cX4_isWhole 147 = .ok (.getfield 51, 3) := by decide +kernel
theorem dX4_isWhole_150 : decode cX4_isWhole 150 = .ok (.iload 7, 2) := by decide +kernel
theorem dX4_isWhole_152 : decode cX4_isWhole 152 = .ok (.iconst 1, 1) := by decide +kernel
theorem dX4_isWhole_153 : decode cX4_isWhole 153 = .ok (.bastore, 1) := by decide +kernel
theorem dX4_isWhole_154 : decode cX4_isWhole 154 = .ok (.aload_n 0, 1) := by decide +kernel
theorem dX4_isWhole_155 : decode cX4_isWhole 155 = .ok (.getfield 48, 3) := by decide +kernel
theorem dX4_isWhole_158 : decode cX4_isWhole 158 = .ok (.iload_n 3, 1) := by decide +kernel
theorem dX4_isWhole_159 : decode cX4_isWhole 159 = .ok (.iload 7, 2) := by decide +kernel
theorem dX4_isWhole_161 : decode cX4_isWhole 161 = .ok (.iastore, 1) := by decide +kernel
theorem dX4_isWhole_162 : decode cX4_isWhole 162 = .ok (.iinc 3 1, 3) := by decide +kernel
theorem dX4_isWhole_165 : decode cX4_isWhole 165 = .ok (.iinc 4 1, 3) := by decide +kernel
theorem dX4_isWhole_168 : decode cX4_isWhole 168 = .ok (.iinc 6 1, 3) := by decide +kernel
theorem dX4_isWhole_171 : decode cX4_isWhole 171 = .ok (.goto (-67), 3) := by decide +kernel
theorem dX4_isWhole_174 : decode cX4_isWhole 174 = .ok (.goto (-88), 3) := by decide +kernel
theorem dX4_isWhole_177 : decode cX4_isWhole 177 = .ok (.iload 4, 2) := by decide +kernel
theorem dX4_isWhole_179 : decode cX4_isWhole 179 = .ok (.aload_n 0, 1) := by decide +kernel
theorem dX4_isWhole_180 : decode cX4_isWhole 180 = .ok (.iload_n 1, 1) := by decide +kernel
theorem dX4_isWhole_181 : decode cX4_isWhole 181 = .ok (.invokevirtual 88, 3) := by decide +kernel
theorem dX4_isWhole_184 : decode cX4_isWhole 184 = .ok (.if_icmp .ne 7, 3) := by decide +kernel
theorem dX4_isWhole_187 : decode cX4_isWhole 187 = .ok (.iconst 1, 1) := by decide +kernel
theorem dX4_isWhole_188 : decode cX4_isWhole 188 = .ok (.goto 4, 3) := by decide +kernel
theorem dX4_isWhole_191 : decode cX4_isWhole 191 = .ok (.iconst 0, 1) := by decide +kernel
theorem dX4_isWhole_192 : decode cX4_isWhole 192 = .ok (.ireturn, 1) := by decide +kernel
set_option maxRecDepth 20000 in
theorem ggX4_whole_X4_isLand : GoodIn wsX4_whole wsX4_isLand := goodIn_r _ [4, 5, 6, 3, 7] (by decide +kernel) (by decide +kernel)
set_option maxRecDepth 20000 in
theorem gX4_whole_X4_isLand : GoodIn wsX4_whole (va_wsS RX4 84 yX4_isLand wsX4_isLand) := goodIn_app (goodIn_of _ (by decide +kernel)) ggX4_whole_X4_isLand
set_option maxRecDepth 20000 in
theorem ggX4_whole_X4_isWhole : GoodIn wsX4_whole wsX4_isWhole := goodIn_r _ [11, 12, 13, 14, 15, 16, 17, 18, 19, 3, 20, 21, 22, 23, 24, 25, 26, 27, 28, 5, 6, 7, 29, 30, 31, 32, 33, 34, 35, 36, 37, 38, 39, 40, 41, 42, 43, 44, 45, 46, 47, 48, 49, 50, 51, 52, 53, 54, 55, 56, 57, 58] (by decide +kernel) (by decide +kernel)
set_option maxRecDepth 20000 in
theorem gX4_whole_X4_isWhole : GoodIn wsX4_whole (wsV RX4 95 RX4 yX4_isWhole wsX4_isWhole) := goodIn_app (goodIn_of _ (by decide +kernel)) ggX4_whole_X4_isWhole
theorem dX4_whole_0 : decode cX4_whole 0 = .ok (.iload_n 1, 1) := by decide +kernel
theorem dX4_whole_1 : decode cX4_whole 1 = .ok (.invokestatic 84, 3) := by decide +kernel
theorem dX4_whole_4 : decode cX4_whole 4 = .ok (.ifCond .ne 7, 3) := by decide +kernel
theorem dX4_whole_7 : decode cX4_whole 7 = .ok (.iconst (-1), 1) := by decide +kernel
theorem dX4_whole_8 : decode cX4_whole 8 = .ok (.goto 16, 3) := by decide +kernel
theorem dX4_whole_11 : decode cX4_whole 11 = .ok (.aload_n 0, 1) := by decide +kernel
theorem dX4_whole_12 : decode cX4_whole 12 = .ok (.iload_n 1, 1) := by decide +kernel
theorem dX4_whole_13 : decode cX4_whole 13 = .ok (.invokevirtual 95, 3) := by decide +kernel
theorem dX4_whole_16 : decode cX4_whole 16 = .ok (.ifCond .eq 7, 3) := by decide +kernel
theorem dX4_whole_19 : decode cX4_whole 19 = .ok (.iconst 1, 1) := by decide +kernel
theorem dX4_whole_20 : decode cX4_whole 20 = .ok (.goto 4, 3) := by decide +kernel
theorem dX4_whole_23 : decode cX4_whole 23 = .ok (.iconst 0, 1) := by decide +kernel
theorem dX4_whole_24 : decode cX4_whole 24 = .ok (.ireturn, 1) := by decide +kernel
theorem dX4_numberOf_0 : decode cX4_numberOf 0 = .ok (.iload_n 0, 1) := by decide +kernel
theorem dX4_numberOf_1 : decode cX4_numberOf 1 = .ok (.bipush (-4), 2) := by decide +kernel
theorem dX4_numberOf_3 : decode cX4_numberOf 3 = .ok (.if_icmp .ne 8, 3) := by decide +kernel
theorem dX4_numberOf_6 : decode cX4_numberOf 6 = .ok (.bipush 6, 2) := by decide +kernel
theorem dX4_numberOf_8 : decode cX4_numberOf 8 = .ok (.goto 4, 3) := by decide +kernel
theorem dX4_numberOf_11 : decode cX4_numberOf 11 = .ok (.iload_n 0, 1) := by decide +kernel
theorem dX4_numberOf_12 : decode cX4_numberOf 12 = .ok (.ireturn, 1) := by decide +kernel
set_option maxRecDepth 20000 in
theorem ggX4_touches_X4_beside : GoodIn wsX4_touches wsX4_beside := goodIn_r _ [8, 1, 9, 10, 11, 7, 12, 13, 14, 15, 16, 2, 17, 18, 19, 23, 24, 25, 26, 27, 28, 29, 30, 31, 32, 33, 34, 35, 36, 37, 38, 39, 40, 41, 42, 43, 44, 45, 46, 47, 48] (by decide +kernel) (by decide +kernel)
set_option maxRecDepth 20000 in
theorem gX4_touches_X4_beside : GoodIn wsX4_touches (wsV RX4 92 RX4 yX4_beside wsX4_beside) := goodIn_app (goodIn_of _ (by decide +kernel)) ggX4_touches_X4_beside
set_option maxRecDepth 20000 in
theorem ggX4_touches_X4_numberOf : GoodIn wsX4_touches wsX4_numberOf := goodIn_r _ [22] (by decide +kernel) (by decide +kernel)
set_option maxRecDepth 20000 in
theorem gX4_touches_X4_numberOf : GoodIn wsX4_touches (va_wsS RX4 98 yX4_numberOf wsX4_numberOf) := goodIn_app (goodIn_of _ (by decide +kernel)) ggX4_touches_X4_numberOf
theorem dX4_touches_0 : decode cX4_touches 0 = .ok (.lconst 0, 1) := by decide +kernel
theorem dX4_touches_1 : decode cX4_touches 1 = .ok (.lstore_n 1, 1) := by decide +kernel
theorem dX4_touches_2 : decode cX4_touches 2 = .ok (.iconst 0, 1) := by decide +kernel
theorem dX4_touches_3 : decode cX4_touches 3 = .ok (.istore_n 3, 1) := by decide +kernel
theorem dX4_touches_4 : decode cX4_touches 4 = .ok (.iload_n 3, 1) := by decide +kernel
theorem dX4_touches_5 : decode cX4_touches 5 = .ok (.aload_n 0, 1) := by decide +kernel
theorem dX4_touches_6 : decode cX4_touches 6 = .ok (.getfield 7, 3) := by decide +kernel
theorem dX4_touches_9 : decode cX4_touches 9 = .ok (.aload_n 0, 1) := by decide +kernel
theorem dX4_touches_10 : decode cX4_touches 10 = .ok (.getfield 13, 3) := by decide +kernel
theorem dX4_touches_13 : decode cX4_touches 13 = .ok (.imul, 1) := by decide +kernel
theorem dX4_touches_14 : decode cX4_touches 14 = .ok (.if_icmp .ge 99, 3) := by decide +kernel
theorem dX4_touches_17 : decode cX4_touches 17 = .ok (.iconst 0, 1) := by decide +kernel
theorem dX4_touches_18 : decode cX4_touches 18 = .ok (.istore 4, 2) := by decide +kernel
theorem dX4_touches_20 : decode cX4_touches 20 = .ok (.iload 4, 2) := by decide +kernel
theorem dX4_touches_22 : decode cX4_touches 22 = .ok (.iconst 4, 1) := by decide +kernel
theorem dX4_touches_23 : decode cX4_touches 23 = .ok (.if_icmp .ge 84, 3) := by decide +kernel
theorem dX4_touches_26 : decode cX4_touches 26 = .ok (.aload_n 0, 1) := by decide +kernel
theorem dX4_touches_27 : decode cX4_touches 27 = .ok (.iload_n 3, 1) := by decide +kernel
theorem dX4_touches_28 : decode cX4_touches 28 = .ok (.iload 4, 2) := by decide +kernel
theorem dX4_touches_30 : decode cX4_touches 30 = .ok (.invokevirtual 92, 3) := by decide +kernel
theorem dX4_touches_33 : decode cX4_touches 33 = .ok (.istore 5, 2) := by decide +kernel
theorem dX4_touches_35 : decode cX4_touches 35 = .ok (.aload_n 0, 1) := by decide +kernel
theorem dX4_touches_36 : decode cX4_touches 36 = .ok (.getfield 16, 3) := by decide +kernel
theorem dX4_touches_39 : decode cX4_touches 39 = .ok (.iload_n 3, 1) := by decide +kernel
theorem dX4_touches_40 : decode cX4_touches 40 = .ok (.iaload, 1) := by decide +kernel
theorem dX4_touches_41 : decode cX4_touches 41 = .ok (.invokestatic 98, 3) := by decide +kernel
theorem dX4_touches_44 : decode cX4_touches 44 = .ok (.istore 6, 2) := by decide +kernel
theorem dX4_touches_46 : decode cX4_touches 46 = .ok (.iload 5, 2) := by decide +kernel
theorem dX4_touches_48 : decode cX4_touches 48 = .ok (.ifCond .ge 8, 3) := by decide +kernel
theorem dX4_touches_51 : decode cX4_touches 51 = .ok (.bipush 6, 2) := by decide +kernel
theorem dX4_touches_53 : decode cX4_touches 53 = .ok (.goto 13, 3) := by decide +kernel
theorem dX4_touches_56 : decode cX4_touches 56 = .ok (.aload_n 0, 1) := by decide +kernel
theorem dX4_touches_57 : decode cX4_touches 57 = .ok (.getfield 16, 3) := by decide +kernel
theorem dX4_touches_60 : decode cX4_touches 60 = .ok (.iload 5, 2) := by decide +kernel
theorem dX4_touches_62 : decode cX4_touches 62 = .ok (.iaload, 1) := by decide +kernel
theorem dX4_touches_63 : decode cX4_touches 63 = .ok (.invokestatic 98, 3) := by decide +kernel
theorem dX4_touches_66 : decode cX4_touches 66 = .ok (.istore 7, 2) := by decide +kernel
theorem dX4_touches_68 : decode cX4_touches 68 = .ok (.iload 6, 2) := by decide +kernel
theorem dX4_touches_70 : decode cX4_touches 70 = .ok (.iload 7, 2) := by decide +kernel
theorem dX4_touches_72 : decode cX4_touches 72 = .ok (.if_icmp .eq 29, 3) := by decide +kernel
theorem dX4_touches_75 : decode cX4_touches 75 = .ok (.lload_n 1, 1) := by decide +kernel
theorem dX4_touches_76 : decode cX4_touches 76 = .ok (.lconst 1, 1) := by decide +kernel
theorem dX4_touches_77 : decode cX4_touches 77 = .ok (.bipush 7, 2) := by decide +kernel
theorem dX4_touches_79 : decode cX4_touches 79 = .ok (.iload 6, 2) := by decide +kernel
theorem dX4_touches_81 : decode cX4_touches 81 = .ok (.imul, 1) := by decide +kernel
theorem dX4_touches_82 : decode cX4_touches 82 = .ok (.iload 7, 2) := by decide +kernel
theorem dX4_touches_84 : decode cX4_touches 84 = .ok (.iadd, 1) := by decide +kernel
theorem dX4_touches_85 : decode cX4_touches 85 = .ok (.lshl, 1) := by decide +kernel
theorem dX4_touches_86 : decode cX4_touches 86 = .ok (.lor, 1) := by decide +kernel
theorem dX4_touches_87 : decode cX4_touches 87 = .ok (.lstore_n 1, 1) := by decide +kernel
theorem dX4_touches_88 : decode cX4_touches 88 = .ok (.lload_n 1, 1) := by decide +kernel
theorem dX4_touches_89 : decode cX4_touches 89 = .ok (.lconst 1, 1) := by decide +kernel
theorem dX4_touches_90 : decode cX4_touches 90 = .ok (.bipush 7, 2) := by decide +kernel
theorem dX4_touches_92 : decode cX4_touches 92 = .ok (.iload 7, 2) := by decide +kernel
theorem dX4_touches_94 : decode cX4_touches 94 = .ok (.imul, 1) := by decide +kernel
theorem dX4_touches_95 : decode cX4_touches 95 = .ok (.iload 6, 2) := by decide +kernel
theorem dX4_touches_97 : decode cX4_touches 97 = .ok (.iadd, 1) := by decide +kernel
theorem dX4_touches_98 : decode cX4_touches 98 = .ok (.lshl, 1) := by decide +kernel
theorem dX4_touches_99 : decode cX4_touches 99 = .ok (.lor, 1) := by decide +kernel
theorem dX4_touches_100 : decode cX4_touches 100 = .ok (.lstore_n 1, 1) := by decide +kernel
theorem dX4_touches_101 : decode cX4_touches 101 = .ok (.iinc 4 1, 3) := by decide +kernel
theorem dX4_touches_104 : decode cX4_touches 104 = .ok (.goto (-84), 3) := by decide +kernel
theorem dX4_touches_107 : decode cX4_touches 107 = .ok (.iinc 3 1, 3) := by decide +kernel
theorem dX4_touches_110 : decode cX4_touches 110 = .ok (.goto (-106), 3) := by decide +kernel
theorem dX4_touches_113 : decode cX4_touches 113 = .ok (.lload_n 1, 1) := by decide +kernel
theorem dX4_touches_114 : decode cX4_touches 114 = .ok (.lreturn, 1) := by decide +kernel
set_option maxRecDepth 20000 in
theorem ggX4_areTouching_X4_touches : GoodIn wsX4_areTouching wsX4_touches := goodIn_r _ [5, 6, 7, 8, 9, 10, 11, 4, 12, 13, 14, 15, 16, 17, 18, 19, 20, 21, 22, 23, 24, 25, 26, 27, 28, 29, 30, 31, 32, 33, 34, 35, 36, 37, 38, 39, 40, 41, 42, 43, 44, 45, 46, 47, 48, 49, 50, 51, 52] (by decide +kernel) (by decide +kernel)
set_option maxRecDepth 20000 in
theorem gX4_areTouching_X4_touches : GoodIn wsX4_areTouching (wsV RX4 101 RX4 yX4_touches wsX4_touches) := goodIn_app (goodIn_of _ (by decide +kernel)) ggX4_areTouching_X4_touches
set_option maxRecDepth 20000 in
theorem ggX4_areTouching_X4_numberOf : GoodIn wsX4_areTouching wsX4_numberOf := goodIn_r _ [26] (by decide +kernel) (by decide +kernel)
set_option maxRecDepth 20000 in
theorem gX4_areTouching_X4_numberOf : GoodIn wsX4_areTouching (va_wsS RX4 98 yX4_numberOf wsX4_numberOf) := goodIn_app (goodIn_of _ (by decide +kernel)) ggX4_areTouching_X4_numberOf
theorem dX4_areTouching_0 : decode cX4_areTouching 0 = .ok (.aload_n 0, 1) := by decide +kernel
theorem dX4_areTouching_1 : decode cX4_areTouching 1 = .ok (.invokevirtual 101, 3) := by decide +kernel
theorem dX4_areTouching_4 : decode cX4_areTouching 4 = .ok (.bipush 7, 2) := by decide +kernel
theorem dX4_areTouching_6 : decode cX4_areTouching 6 = .ok (.iload_n 1, 1) := by decide +kernel
theorem dX4_areTouching_7 : decode cX4_areTouching 7 = .ok (.invokestatic 98, 3) := by decide +kernel
theorem dX4_areTouching_10 : decode cX4_areTouching 10 = .ok (.imul, 1) := by decide +kernel
theorem dX4_areTouching_11 : decode cX4_areTouching 11 = .ok (.iload_n 2, 1) := by decide +kernel
theorem dX4_areTouching_12 : decode cX4_areTouching 12 = .ok (.invokestatic 98, 3) := by decide +kernel
theorem dX4_areTouching_15 : decode cX4_areTouching 15 = .ok (.iadd, 1) := by decide +kernel
theorem dX4_areTouching_16 : decode cX4_areTouching 16 = .ok (.lshr, 1) := by decide +kernel
theorem dX4_areTouching_17 : decode cX4_areTouching 17 = .ok (.lconst 1, 1) := by decide +kernel
theorem dX4_areTouching_18 : decode cX4_areTouching 18 = .ok (.land, 1) := by decide +kernel
theorem dX4_areTouching_19 : decode cX4_areTouching 19 = .ok (.lconst 1, 1) := by decide +kernel
theorem dX4_areTouching_20 : decode cX4_areTouching 20 = .ok (.lcmp, 1) := by decide +kernel
theorem dX4_areTouching_21 : decode cX4_areTouching 21 = .ok (.ifCond .ne 7, 3) := by decide +kernel
theorem dX4_areTouching_24 : decode cX4_areTouching 24 = .ok (.iconst 1, 1) := by decide +kernel
theorem dX4_areTouching_25 : decode cX4_areTouching 25 = .ok (.goto 4, 3) := by decide +kernel
theorem dX4_areTouching_28 : decode cX4_areTouching 28 = .ok (.iconst 0, 1) := by decide +kernel
theorem dX4_areTouching_29 : decode cX4_areTouching 29 = .ok (.ireturn, 1) := by decide +kernel
set_option maxRecDepth 20000 in
theorem ggX4_touch_X4_isLand : GoodIn wsX4_touch wsX4_isLand := goodIn_r _ [4, 5, 6, 3, 7] (by decide +kernel) (by decide +kernel)
set_option maxRecDepth 20000 in
theorem gX4_touch_X4_isLand : GoodIn wsX4_touch (va_wsS RX4 84 yX4_isLand wsX4_isLand) := goodIn_app (goodIn_of _ (by decide +kernel)) ggX4_touch_X4_isLand
set_option maxRecDepth 20000 in
theorem ggX4_touch_X4_areTouching : GoodIn wsX4_touch wsX4_areTouching := goodIn_r _ [11, 12, 13, 14, 3, 15, 16, 17, 18, 19, 20, 21, 22, 23, 24, 25, 26, 27, 28, 29, 30, 5, 6, 7, 31, 32, 33, 34, 35, 36, 37, 38, 39, 40, 41, 42, 43, 44, 45, 46, 47, 48, 49, 50, 51, 52, 53, 54, 55, 56, 57, 58, 59] (by decide +kernel) (by decide +kernel)
set_option maxRecDepth 20000 in
theorem gX4_touch_X4_areTouching : GoodIn wsX4_touch (wsV RX4 105 RX4 yX4_areTouching wsX4_areTouching) := goodIn_app (goodIn_of _ (by decide +kernel)) ggX4_touch_X4_areTouching
theorem dX4_touch_0 : decode cX4_touch 0 = .ok (.iload_n 1, 1) := by decide +kernel
theorem dX4_touch_1 : decode cX4_touch 1 = .ok (.bipush (-4), 2) := by decide +kernel
theorem dX4_touch_3 : decode cX4_touch 3 = .ok (.if_icmp .eq 10, 3) := by decide +kernel
theorem dX4_touch_6 : decode cX4_touch 6 = .ok (.iload_n 1, 1) := by decide +kernel
theorem dX4_touch_7 : decode cX4_touch 7 = .ok (.invokestatic 84, 3) := by decide +kernel
theorem dX4_touch_10 : decode cX4_touch 10 = .ok (.ifCond .eq 25, 3) := by decide +kernel
theorem dX4_touch_13 : decode cX4_touch 13 = .ok (.iload_n 2, 1) := by decide +kernel
theorem dX4_touch_14 : decode cX4_touch 14 = .ok (.bipush (-4), 2) := by decide +kernel
theorem dX4_touch_16 : decode cX4_touch 16 = .ok (.if_icmp .eq 10, 3) := by decide +kernel
theorem dX4_touch_19 : decode cX4_touch 19 = .ok (.iload_n 2, 1) := by decide +kernel
theorem dX4_touch_20 : decode cX4_touch 20 = .ok (.invokestatic 84, 3) := by decide +kernel
theorem dX4_touch_23 : decode cX4_touch 23 = .ok (.ifCond .eq 12, 3) := by decide +kernel
theorem dX4_touch_26 : decode cX4_touch 26 = .ok (.iload_n 1, 1) := by decide +kernel
theorem dX4_touch_27 : decode cX4_touch 27 = .ok (.iload_n 2, 1) := by decide +kernel
theorem dX4_touch_28 : decode cX4_touch 28 = .ok (.if_icmp .eq 7, 3) := by decide +kernel
theorem dX4_touch_31 : decode cX4_touch 31 = .ok (.iconst 1, 1) := by decide +kernel
theorem dX4_touch_32 : decode cX4_touch 32 = .ok (.goto 4, 3) := by decide +kernel
theorem dX4_touch_35 : decode cX4_touch 35 = .ok (.iconst 0, 1) := by decide +kernel
theorem dX4_touch_36 : decode cX4_touch 36 = .ok (.istore_n 3, 1) := by decide +kernel
theorem dX4_touch_37 : decode cX4_touch 37 = .ok (.iload_n 3, 1) := by decide +kernel
theorem dX4_touch_38 : decode cX4_touch 38 = .ok (.ifCond .ne 7, 3) := by decide +kernel
theorem dX4_touch_41 : decode cX4_touch 41 = .ok (.iconst (-1), 1) := by decide +kernel
theorem dX4_touch_42 : decode cX4_touch 42 = .ok (.goto 17, 3) := by decide +kernel
theorem dX4_touch_45 : decode cX4_touch 45 = .ok (.aload_n 0, 1) := by decide +kernel
theorem dX4_touch_46 : decode cX4_touch 46 = .ok (.iload_n 1, 1) := by decide +kernel
theorem dX4_touch_47 : decode cX4_touch 47 = .ok (.iload_n 2, 1) := by decide +kernel
theorem dX4_touch_48 : decode cX4_touch 48 = .ok (.invokevirtual 105, 3) := by decide +kernel
theorem dX4_touch_51 : decode cX4_touch 51 = .ok (.ifCond .eq 7, 3) := by decide +kernel
theorem dX4_touch_54 : decode cX4_touch 54 = .ok (.iconst 1, 1) := by decide +kernel
theorem dX4_touch_55 : decode cX4_touch 55 = .ok (.goto 4, 3) := by decide +kernel
theorem dX4_touch_58 : decode cX4_touch 58 = .ok (.iconst 0, 1) := by decide +kernel
theorem dX4_touch_59 : decode cX4_touch 59 = .ok (.ireturn, 1) := by decide +kernel
set_option maxRecDepth 20000 in
theorem ggX4_kind_X4_isLand : GoodIn wsX4_kind wsX4_isLand := goodIn_r _ [7, 8, 9, 6, 10] (by decide +kernel) (by decide +kernel)
set_option maxRecDepth 20000 in
theorem gX4_kind_X4_isLand : GoodIn wsX4_kind (va_wsS RX4 84 yX4_isLand wsX4_isLand) := goodIn_app (goodIn_of _ (by decide +kernel)) ggX4_kind_X4_isLand
set_option maxRecDepth 20000 in
theorem ggX4_kind_X4_in : GoodIn wsX4_kind wsX4_in := goodIn_r _ [10] (by decide +kernel) (by decide +kernel)
set_option maxRecDepth 20000 in
theorem gX4_kind_X4_in : GoodIn wsX4_kind (va_wsS RX4 72 yX4_in wsX4_in) := goodIn_app (goodIn_of _ (by decide +kernel)) ggX4_kind_X4_in
set_option maxRecDepth 20000 in
theorem ggX4_kind_X4_isOn : GoodIn wsX4_kind wsX4_isOn := goodIn_r _ [14, 15, 16, 8, 9, 6, 10, 21, 22, 23, 24, 25, 26, 27, 28, 29, 30, 31, 32, 33, 34, 35, 36, 37, 38, 39, 40, 41, 42, 43, 44, 45, 46] (by decide +kernel) (by decide +kernel)
set_option maxRecDepth 20000 in
theorem gX4_kind_X4_isOn : GoodIn wsX4_kind (wsV RX4 76 RX4 yX4_isOn wsX4_isOn) := goodIn_app (goodIn_of _ (by decide +kernel)) ggX4_kind_X4_isOn
set_option maxRecDepth 20000 in
theorem ggX4_kind_X4_cellAt : GoodIn wsX4_kind wsX4_cellAt := goodIn_r _ [20, 15, 11, 12, 13, 6, 14, 16, 8, 9, 10, 21, 22, 23, 24, 25, 26, 27, 28, 29, 30, 31, 32, 33, 34, 35, 36, 37, 38, 39, 40, 41, 42, 43, 44, 45, 46] (by decide +kernel) (by decide +kernel)
set_option maxRecDepth 20000 in
theorem gX4_kind_X4_cellAt : GoodIn wsX4_kind (wsV RX4 80 RX4 yX4_cellAt wsX4_cellAt) := goodIn_app (goodIn_of _ (by decide +kernel)) ggX4_kind_X4_cellAt
theorem dX4_kind_0 : decode cX4_kind 0 = .ok (.iload_n 1, 1) := by decide +kernel
theorem dX4_kind_1 : decode cX4_kind 1 = .ok (.invokestatic 84, 3) := by decide +kernel
theorem dX4_kind_4 : decode cX4_kind 4 = .ok (.ifCond .eq 26, 3) := by decide +kernel
theorem dX4_kind_7 : decode cX4_kind 7 = .ok (.iload_n 2, 1) := by decide +kernel
theorem dX4_kind_8 : decode cX4_kind 8 = .ok (.iconst 0, 1) := by decide +kernel
theorem dX4_kind_9 : decode cX4_kind 9 = .ok (.iconst 2, 1) := by decide +kernel
theorem dX4_kind_10 : decode cX4_kind 10 = .ok (.invokestatic 72, 3) := by decide +kernel
theorem dX4_kind_13 : decode cX4_kind 13 = .ok (.ifCond .eq 17, 3) := by decide +kernel
theorem dX4_kind_16 : decode cX4_kind 16 = .ok (.iload_n 2, 1) := by decide +kernel
theorem dX4_kind_17 : decode cX4_kind 17 = .ok (.ifCond .le 15, 3) := by decide +kernel
theorem dX4_kind_20 : decode cX4_kind 20 = .ok (.aload_n 0, 1) := by decide +kernel
theorem dX4_kind_21 : decode cX4_kind 21 = .ok (.iload_n 3, 1) := by decide +kernel
theorem dX4_kind_22 : decode cX4_kind 22 = .ok (.iload 4, 2) := by decide +kernel
theorem dX4_kind_24 : decode cX4_kind 24 = .ok (.invokevirtual 76, 3) := by decide +kernel
theorem dX4_kind_27 : decode cX4_kind 27 = .ok (.ifCond .ne 5, 3) := by decide +kernel
theorem dX4_kind_30 : decode cX4_kind 30 = .ok (.iconst (-1), 1) := by decide +kernel
theorem dX4_kind_31 : decode cX4_kind 31 = .ok (.ireturn, 1) := by decide +kernel
theorem dX4_kind_32 : decode cX4_kind 32 = .ok (.iload_n 2, 1) := by decide +kernel
theorem dX4_kind_33 : decode cX4_kind 33 = .ok (.ifCond .le 22, 3) := by decide +kernel
theorem dX4_kind_36 : decode cX4_kind 36 = .ok (.aload_n 0, 1) := by decide +kernel
theorem dX4_kind_37 : decode cX4_kind 37 = .ok (.getfield 16, 3) := by decide +kernel
theorem dX4_kind_40 : decode cX4_kind 40 = .ok (.aload_n 0, 1) := by decide +kernel
theorem dX4_kind_41 : decode cX4_kind 41 = .ok (.iload_n 3, 1) := by decide +kernel
theorem dX4_kind_42 : decode cX4_kind 42 = .ok (.iload 4, 2) := by decide +kernel
theorem dX4_kind_44 : decode cX4_kind 44 = .ok (.invokevirtual 80, 3) := by decide +kernel
theorem dX4_kind_47 : decode cX4_kind 47 = .ok (.iaload, 1) := by decide +kernel
theorem dX4_kind_48 : decode cX4_kind 48 = .ok (.iload_n 1, 1) := by decide +kernel
theorem dX4_kind_49 : decode cX4_kind 49 = .ok (.if_icmp .eq 6, 3) := by decide +kernel
theorem dX4_kind_52 : decode cX4_kind 52 = .ok (.bipush (-2), 2) := by decide +kernel
theorem dX4_kind_54 : decode cX4_kind 54 = .ok (.ireturn, 1) := by decide +kernel
theorem dX4_kind_55 : decode cX4_kind 55 = .ok (.aload_n 0, 1) := by decide +kernel
theorem dX4_kind_56 : decode cX4_kind 56 = .ok (.getfield 20, 3) := by decide +kernel
theorem dX4_kind_59 : decode cX4_kind 59 = .ok (.iload_n 1, 1) := by decide +kernel
theorem dX4_kind_60 : decode cX4_kind 60 = .ok (.iload_n 2, 1) := by decide +kernel
theorem dX4_kind_61 : decode cX4_kind 61 = .ok (.iastore, 1) := by decide +kernel
theorem dX4_kind_62 : decode cX4_kind 62 = .ok (.aload_n 0, 1) := by decide +kernel
theorem dX4_kind_63 : decode cX4_kind 63 = .ok (.getfield 23, 3) := by decide +kernel
theorem dX4_kind_66 : decode cX4_kind 66 = .ok (.iload_n 1, 1) := by decide +kernel
theorem dX4_kind_67 : decode cX4_kind 67 = .ok (.iload_n 2, 1) := by decide +kernel
theorem dX4_kind_68 : decode cX4_kind 68 = .ok (.ifCond .ne 7, 3) := by decide +kernel
theorem dX4_kind_71 : decode cX4_kind 71 = .ok (.iconst (-1), 1) := by decide +kernel
theorem dX4_kind_72 : decode cX4_kind 72 = .ok (.goto 10, 3) := by decide +kernel
theorem dX4_kind_75 : decode cX4_kind 75 = .ok (.aload_n 0, 1) := by decide +kernel
theorem dX4_kind_76 : decode cX4_kind 76 = .ok (.iload_n 3, 1) := by decide +kernel
theorem dX4_kind_77 : decode cX4_kind 77 = .ok (.iload 4, 2) := by decide +kernel
theorem dX4_kind_79 : decode cX4_kind 79 = .ok (.invokevirtual 80, 3) := by decide +kernel
theorem dX4_kind_82 : decode cX4_kind 82 = .ok (.iastore, 1) := by decide +kernel
theorem dX4_kind_83 : decode cX4_kind 83 = .ok (.iconst 1, 1) := by decide +kernel
theorem dX4_kind_84 : decode cX4_kind 84 = .ok (.ireturn, 1) := by decide +kernel
set_option maxRecDepth 20000 in
theorem ggX4_about_X4_isLand : GoodIn wsX4_about wsX4_isLand := goodIn_r _ [8, 9, 10, 7, 11] (by decide +kernel) (by decide +kernel)
set_option maxRecDepth 20000 in
theorem gX4_about_X4_isLand : GoodIn wsX4_about (va_wsS RX4 84 yX4_isLand wsX4_isLand) := goodIn_app (goodIn_of _ (by decide +kernel)) ggX4_about_X4_isLand
theorem dX4_about_0 : decode cX4_about 0 = .ok (.iload_n 1, 1) := by decide +kernel
theorem dX4_about_1 : decode cX4_about 1 = .ok (.invokestatic 84, 3) := by decide +kernel
theorem dX4_about_4 : decode cX4_about 4 = .ok (.ifCond .ne 5, 3) := by decide +kernel
theorem dX4_about_7 : decode cX4_about 7 = .ok (.iconst (-1), 1) := by decide +kernel
theorem dX4_about_8 : decode cX4_about 8 = .ok (.ireturn, 1) := by decide +kernel
theorem dX4_about_9 : decode cX4_about 9 = .ok (.iload_n 2, 1) := by decide +kernel
theorem dX4_about_10 : decode cX4_about 10 = .ok (.tableswitch 96 0 3 #[30, 37, 63, 89], 30) := by decide +kernel
theorem dX4_about_40 : decode cX4_about 40 = .ok (.aload_n 0, 1) := by decide +kernel
theorem dX4_about_41 : decode cX4_about 41 = .ok (.getfield 20, 3) := by decide +kernel
theorem dX4_about_44 : decode cX4_about 44 = .ok (.iload_n 1, 1) := by decide +kernel
theorem dX4_about_45 : decode cX4_about 45 = .ok (.iaload, 1) := by decide +kernel
theorem dX4_about_46 : decode cX4_about 46 = .ok (.ireturn, 1) := by decide +kernel
theorem dX4_about_47 : decode cX4_about 47 = .ok (.aload_n 0, 1) := by decide +kernel
theorem dX4_about_48 : decode cX4_about 48 = .ok (.getfield 23, 3) := by decide +kernel
theorem dX4_about_51 : decode cX4_about 51 = .ok (.iload_n 1, 1) := by decide +kernel
theorem dX4_about_52 : decode cX4_about 52 = .ok (.iaload, 1) := by decide +kernel
theorem dX4_about_53 : decode cX4_about 53 = .ok (.ifCond .ge 8, 3) := by decide +kernel
theorem dX4_about_56 : decode cX4_about 56 = .ok (.bipush (-9), 2) := by decide +kernel
theorem dX4_about_58 : decode cX4_about 58 = .ok (.goto 14, 3) := by decide +kernel
theorem dX4_about_61 : decode cX4_about 61 = .ok (.aload_n 0, 1) := by decide +kernel
theorem dX4_about_62 : decode cX4_about 62 = .ok (.getfield 23, 3) := by decide +kernel
theorem dX4_about_65 : decode cX4_about 65 = .ok (.iload_n 1, 1) := by decide +kernel
theorem dX4_about_66 : decode cX4_about 66 = .ok (.iaload, 1) := by decide +kernel
theorem dX4_about_67 : decode cX4_about 67 = .ok (.aload_n 0, 1) := by decide +kernel
theorem dX4_about_68 : decode cX4_about 68 = .ok (.getfield 7, 3) := by decide +kernel
theorem dX4_about_71 : decode cX4_about 71 = .ok (.irem, 1) := by decide +kernel
theorem dX4_about_72 : decode cX4_about 72 = .ok (.ireturn, 1) := by decide +kernel
theorem dX4_about_73 : decode cX4_about 73 = .ok (.aload_n 0, 1) := by decide +kernel
theorem dX4_about_74 : decode cX4_about 74 = .ok (.getfield 23, 3) := by decide +kernel
theorem dX4_about_77 : decode cX4_about 77 = .ok (.iload_n 1, 1) := by decide +kernel
theorem dX4_about_78 : decode cX4_about 78 = .ok (.iaload, 1) := by decide +kernel
theorem dX4_about_79 : decode cX4_about 79 = .ok (.ifCond .ge 8, 3) := by decide +kernel
theorem dX4_about_82 : decode cX4_about 82 = .ok (.bipush (-9), 2) := by decide +kernel
theorem dX4_about_84 : decode cX4_about 84 = .ok (.goto 14, 3) := by decide +kernel
theorem dX4_about_87 : decode cX4_about 87 = .ok (.aload_n 0, 1) := by decide +kernel
theorem dX4_about_88 : decode cX4_about 88 = .ok (.getfield 23, 3) := by decide +kernel
theorem dX4_about_91 : decode cX4_about 91 = .ok (.iload_n 1, 1) := by decide +kernel
theorem dX4_about_92 : decode cX4_about 92 = .ok (.iaload, 1) := by decide +kernel
theorem dX4_about_93 : decode cX4_about 93 = .ok (.aload_n 0, 1) := by decide +kernel
theorem dX4_about_94 : decode cX4_about 94 = .ok (.getfield 7, 3) := by decide +kernel
theorem dX4_about_97 : decode cX4_about 97 = .ok (.idiv, 1) := by decide +kernel
theorem dX4_about_98 : decode cX4_about 98 = .ok (.ireturn, 1) := by decide +kernel
theorem dX4_about_99 : decode cX4_about 99 = .ok (.aload_n 0, 1) := by decide +kernel
theorem dX4_about_100 : decode cX4_about 100 = .ok (.getfield 26, 3) := by decide +kernel
theorem dX4_about_103 : decode cX4_about 103 = .ok (.iload_n 1, 1) := by decide +kernel
theorem dX4_about_104 : decode cX4_about 104 = .ok (.iaload, 1) := by decide +kernel
theorem dX4_about_105 : decode cX4_about 105 = .ok (.ireturn, 1) := by decide +kernel
theorem dX4_about_106 : decode cX4_about 106 = .ok (.iconst (-1), 1) := by decide +kernel
theorem dX4_about_107 : decode cX4_about 107 = .ok (.ireturn, 1) := by decide +kernel
set_option maxRecDepth 20000 in
theorem ggX4_doesLeave_X4_isWhole : GoodIn wsX4_doesLeave wsX4_isWhole := goodIn_r _ [10, 2, 3, 1, 11, 12, 13, 14, 15, 9, 16, 17, 18, 19, 20, 21, 22, 23, 24, 25, 26, 27, 28, 29, 30, 31, 32, 33, 34, 35, 36, 37, 38, 39, 40, 41, 42, 43, 44, 45, 46, 47, 48, 49, 50, 51, 52, 53, 54, 55, 56, 57] (by decide +kernel) (by decide +kernel)
set_option maxRecDepth 20000 in
theorem gX4_doesLeave_X4_isWhole : GoodIn wsX4_doesLeave (wsV RX4 95 RX4 yX4_isWhole wsX4_isWhole) := goodIn_app (goodIn_of _ (by decide +kernel)) ggX4_doesLeave_X4_isWhole
set_option maxRecDepth 20000 in
theorem ggX4_doesLeave_X4_beside : GoodIn wsX4_doesLeave wsX4_beside := goodIn_r _ [16, 2, 17, 18, 19, 9, 20, 21, 22, 23, 24, 3, 25, 26, 27, 32, 33, 34, 35, 36, 37, 38, 39, 40, 41, 42, 43, 44, 45, 46, 47, 48, 49, 50, 51, 52, 53, 54, 55, 56, 57] (by decide +kernel) (by decide +kernel)
set_option maxRecDepth 20000 in
theorem gX4_doesLeave_X4_beside : GoodIn wsX4_doesLeave (wsV RX4 92 RX4 yX4_beside wsX4_beside) := goodIn_app (goodIn_of _ (by decide +kernel)) ggX4_doesLeave_X4_beside
theorem dX4_doesLeave_0 : decode cX4_doesLeave 0 = .ok (.aload_n 0, 1) := by decide +kernel
theorem dX4_doesLeave_1 : decode cX4_doesLeave 1 = .ok (.getfield 16, 3) := by decide +kernel
theorem dX4_doesLeave_4 : decode cX4_doesLeave 4 = .ok (.iload_n 1, 1) := by decide +kernel
theorem dX4_doesLeave_5 : decode cX4_doesLeave 5 = .ok (.iaload, 1) := by decide +kernel
theorem dX4_doesLeave_6 : decode cX4_doesLeave 6 = .ok (.istore_n 2, 1) := by decide +kernel
theorem dX4_doesLeave_7 : decode cX4_doesLeave 7 = .ok (.aload_n 0, 1) := by decide +kernel
theorem dX4_doesLeave_8 : decode cX4_doesLeave 8 = .ok (.getfield 16, 3) := by decide +kernel
theorem dX4_doesLeave_11 : decode cX4_doesLeave 11 = .ok (.iload_n 1, 1) := by decide +kernel
theorem dX4_doesLeave_12 : decode cX4_doesLeave 12 = .ok (.bipush 7, 2) := by decide +kernel
theorem dX4_doesLeave_14 : decode cX4_doesLeave 14 = .ok (.iastore, 1) := by decide +kernel
theorem dX4_doesLeave_15 : decode cX4_doesLeave 15 = .ok (.aload_n 0, 1) := by decide +kernel
theorem dX4_doesLeave_16 : decode cX4_doesLeave 16 = .ok (.iload_n 2, 1) := by decide +kernel
theorem dX4_doesLeave_17 : decode cX4_doesLeave 17 = .ok (.invokevirtual 95, 3) := by decide +kernel
theorem dX4_doesLeave_20 : decode cX4_doesLeave 20 = .ok (.istore_n 3, 1) := by decide +kernel
theorem dX4_doesLeave_21 : decode cX4_doesLeave 21 = .ok (.iconst 0, 1) := by decide +kernel
theorem dX4_doesLeave_22 : decode cX4_doesLeave 22 = .ok (.istore 4, 2) := by decide +kernel
theorem dX4_doesLeave_24 : decode cX4_doesLeave 24 = .ok (.iconst 0, 1) := by decide +kernel
theorem dX4_doesLeave_25 : decode cX4_doesLeave 25 = .ok (.istore 5, 2) := by decide +kernel
theorem dX4_doesLeave_27 : decode cX4_doesLeave 27 = .ok (.iload 5, 2) := by decide +kernel
theorem dX4_doesLeave_29 : decode cX4_doesLeave 29 = .ok (.aload_n 0, 1) := by decide +kernel
theorem dX4_doesLeave_30 : decode cX4_doesLeave 30 = .ok (.getfield 7, 3) := by decide +kernel
theorem dX4_doesLeave_33 : decode cX4_doesLeave 33 = .ok (.aload_n 0, 1) := by decide +kernel
theorem dX4_doesLeave_34 : decode cX4_doesLeave 34 = .ok (.getfield 13, 3) := by decide +kernel
theorem dX4_doesLeave_37 : decode cX4_doesLeave 37 = .ok (.imul, 1) := by decide +kernel
theorem dX4_doesLeave_38 : decode cX4_doesLeave 38 = .ok (.if_icmp .ge 74, 3) := by decide +kernel
theorem dX4_doesLeave_41 : decode cX4_doesLeave 41 = .ok (.iconst 0, 1) := by decide +kernel
theorem dX4_doesLeave_42 : decode cX4_doesLeave 42 = .ok (.istore 6, 2) := by decide +kernel
theorem dX4_doesLeave_44 : decode cX4_doesLeave 44 = .ok (.iload 6, 2) := by decide +kernel
theorem dX4_doesLeave_46 : decode cX4_doesLeave 46 = .ok (.iconst 4, 1) := by decide +kernel
theorem dX4_doesLeave_47 : decode cX4_doesLeave 47 = .ok (.if_icmp .ge 59, 3) := by decide +kernel
theorem dX4_doesLeave_50 : decode cX4_doesLeave 50 = .ok (.aload_n 0, 1) := by decide +kernel
theorem dX4_doesLeave_51 : decode cX4_doesLeave 51 = .ok (.iload 5, 2) := by decide +kernel
theorem dX4_doesLeave_53 : decode cX4_doesLeave 53 = .ok (.iload 6, 2) := by decide +kernel
theorem dX4_doesLeave_55 : decode cX4_doesLeave 55 = .ok (.invokevirtual 92, 3) := by decide +kernel
theorem dX4_doesLeave_58 : decode cX4_doesLeave 58 = .ok (.istore 7, 2) := by decide +kernel
theorem dX4_doesLeave_60 : decode cX4_doesLeave 60 = .ok (.iload 4, 2) := by decide +kernel
theorem dX4_doesLeave_62 : decode cX4_doesLeave 62 = .ok (.ifCond .ne 31, 3) := by decide +kernel
theorem dX4_doesLeave_65 : decode cX4_doesLeave 65 = .ok (.aload_n 0, 1) := by decide +kernel
theorem dX4_doesLeave_66 : decode cX4_doesLeave 66 = .ok (.getfield 16, 3) := by decide +kernel
theorem dX4_doesLeave_69 : decode cX4_doesLeave 69 = .ok (.iload 5, 2) := by decide +kernel
theorem dX4_doesLeave_71 : decode cX4_doesLeave 71 = .ok (.iaload, 1) := by decide +kernel
theorem dX4_doesLeave_72 : decode cX4_doesLeave 72 = .ok (.iload_n 2, 1) := by decide +kernel
theorem dX4_doesLeave_73 : decode cX4_doesLeave 73 = .ok (.if_icmp .ne 24, 3) := by decide +kernel
theorem dX4_doesLeave_76 : decode cX4_doesLeave 76 = .ok (.iload 7, 2) := by decide +kernel
theorem dX4_doesLeave_78 : decode cX4_doesLeave 78 = .ok (.ifCond .lt 15, 3) := by decide +kernel
theorem dX4_doesLeave_81 : decode cX4_doesLeave 81 = .ok (.aload_n 0, 1) := by decide +kernel
theorem dX4_doesLeave_82 : decode cX4_doesLeave 82 = .ok (.getfield 16, 3) := by decide +kernel
theorem dX4_doesLeave_85 : decode cX4_doesLeave 85 = .ok (.iload 7, 2) := by decide +kernel
theorem dX4_doesLeave_87 : decode cX4_doesLeave 87 = .ok (.iaload, 1) := by decide +kernel
theorem dX4_doesLeave_88 : decode cX4_doesLeave 88 = .ok (.bipush (-4), 2) := by decide +kernel
theorem dX4_doesLeave_90 : decode cX4_doesLeave 90 = .ok (.if_icmp .ne 7, 3) := by decide +kernel
theorem dX4_doesLeave_93 : decode cX4_doesLeave 93 = .ok (.iconst 1, 1) := by decide +kernel
theorem dX4_doesLeave_94 : decode cX4_doesLeave 94 = .ok (.goto 4, 3) := by decide +kernel
theorem dX4_doesLeave_97 : decode cX4_doesLeave 97 = .ok (.iconst 0, 1) := by decide +kernel
theorem dX4_doesLeave_98 : decode cX4_doesLeave 98 = .ok (.istore 4, 2) := by decide +kernel
theorem dX4_doesLeave_100 : decode cX4_doesLeave 100 = .ok (.iinc 6 1, 3) := by decide +kernel
theorem dX4_doesLeave_103 : decode cX4_doesLeave 103 = .ok (.goto (-59), 3) := by decide +kernel
theorem dX4_doesLeave_106 : decode cX4_doesLeave 106 = .ok (.iinc 5 1, 3) := by decide +kernel
theorem dX4_doesLeave_109 : decode cX4_doesLeave 109 = .ok (.goto (-82), 3) := by decide +kernel
theorem dX4_doesLeave_112 : decode cX4_doesLeave 112 = .ok (.aload_n 0, 1) := by decide +kernel
theorem dX4_doesLeave_113 : decode cX4_doesLeave 113 = .ok (.getfield 16, 3) := by decide +kernel
theorem dX4_doesLeave_116 : decode cX4_doesLeave 116 = .ok (.iload_n 1, 1) := by decide +kernel
theorem dX4_doesLeave_117 : decode cX4_doesLeave 117 = .ok (.iload_n 2, 1) := by decide +kernel
theorem dX4_doesLeave_118 : decode cX4_doesLeave 118 = .ok (.iastore, 1) := by decide +kernel
theorem dX4_doesLeave_119 : decode cX4_doesLeave 119 = .ok (.iload_n 3, 1) := by decide +kernel
theorem dX4_doesLeave_120 : decode cX4_doesLeave 120 = .ok (.ifCond .eq 41, 3) := by decide +kernel
theorem dX4_doesLeave_123 : decode cX4_doesLeave 123 = .ok (.aload_n 0, 1) := by decide +kernel
theorem dX4_doesLeave_124 : decode cX4_doesLeave 124 = .ok (.getfield 20, 3) := by decide +kernel
theorem dX4_doesLeave_127 : decode cX4_doesLeave 127 = .ok (.iload_n 2, 1) := by decide +kernel
theorem dX4_doesLeave_128 : decode cX4_doesLeave 128 = .ok (.iaload, 1) := by decide +kernel
theorem dX4_doesLeave_129 : decode cX4_doesLeave 129 = .ok (.ifCond .eq 13, 3) := by decide +kernel
theorem dX4_doesLeave_132 : decode cX4_doesLeave 132 = .ok (.aload_n 0, 1) := by decide +kernel
theorem dX4_doesLeave_133 : decode cX4_doesLeave 133 = .ok (.getfield 23, 3) := by decide +kernel
theorem dX4_doesLeave_136 : decode cX4_doesLeave 136 = .ok (.iload_n 2, 1) := by decide +kernel
theorem dX4_doesLeave_137 : decode cX4_doesLeave 137 = .ok (.iaload, 1) := by decide +kernel
theorem dX4_doesLeave_138 : decode cX4_doesLeave 138 = .ok (.iload_n 1, 1) := by decide +kernel
theorem dX4_doesLeave_139 : decode cX4_doesLeave 139 = .ok (.if_icmp .eq 22, 3) := by decide +kernel
theorem dX4_doesLeave_142 : decode cX4_doesLeave 142 = .ok (.aload_n 0, 1) := by decide +kernel
theorem dX4_doesLeave_143 : decode cX4_doesLeave 143 = .ok (.getfield 20, 3) := by decide +kernel
theorem dX4_doesLeave_146 : decode cX4_doesLeave 146 = .ok (.iload_n 2, 1) := by decide +kernel
theorem dX4_doesLeave_147 : decode cX4_doesLeave 147 = .ok (.iaload, 1) := by decide +kernel
theorem dX4_doesLeave_148 : decode cX4_doesLeave 148 = .ok (.iconst 2, 1) := by decide +kernel
theorem dX4_doesLeave_149 : decode cX4_doesLeave 149 = .ok (.if_icmp .lt 8, 3) := by decide +kernel
theorem dX4_doesLeave_152 : decode cX4_doesLeave 152 = .ok (.iload 4, 2) := by decide +kernel
theorem dX4_doesLeave_154 : decode cX4_doesLeave 154 = .ok (.ifCond .eq 7, 3) := by decide +kernel
theorem dX4_doesLeave_157 : decode cX4_doesLeave 157 = .ok (.iconst 1, 1) := by decide +kernel
theorem dX4_doesLeave_158 : decode cX4_doesLeave 158 = .ok (.goto 4, 3) := by decide +kernel
theorem dX4_doesLeave_161 : decode cX4_doesLeave 161 = .ok (.iconst 0, 1) := by decide +kernel
theorem dX4_doesLeave_162 : decode cX4_doesLeave 162 = .ok (.ireturn, 1) := by decide +kernel
set_option maxRecDepth 20000 in
theorem ggX4_leaves_X4_cellAt : GoodIn wsX4_leaves wsX4_cellAt := goodIn_r _ [10, 11, 12, 13, 14, 9, 15, 16, 17, 18, 19, 39, 40, 41, 42, 43, 44, 45, 46, 47, 48, 49, 50, 51, 52, 53, 54, 55, 56, 57, 58, 59, 60, 61, 62, 63, 64] (by decide +kernel) (by decide +kernel)
set_option maxRecDepth 20000 in
theorem gX4_leaves_X4_cellAt : GoodIn wsX4_leaves (wsV RX4 80 RX4 yX4_cellAt wsX4_cellAt) := goodIn_app (goodIn_of _ (by decide +kernel)) ggX4_leaves_X4_cellAt
set_option maxRecDepth 20000 in
theorem ggX4_leaves_X4_doesLeave : GoodIn wsX4_leaves wsX4_doesLeave := goodIn_r _ [23, 1, 11, 16, 2, 24, 25, 26, 27, 9, 28, 29, 30, 31, 32, 33, 34, 6, 7, 8, 10, 12, 13, 14, 15, 17, 18, 19, 35, 36, 37, 38, 39, 40, 41, 42, 43, 44, 45, 46, 47, 48, 49, 50, 51, 52, 53, 54, 55, 56, 57, 58, 59, 60, 61, 62, 63, 64] (by decide +kernel) (by decide +kernel)
set_option maxRecDepth 20000 in
theorem gX4_leaves_X4_doesLeave : GoodIn wsX4_leaves (wsV RX4 116 RX4 yX4_doesLeave wsX4_doesLeave) := goodIn_app (goodIn_of _ (by decide +kernel)) ggX4_leaves_X4_doesLeave
theorem dX4_leaves_0 : decode cX4_leaves 0 = .ok (.aload_n 0, 1) := by decide +kernel
theorem dX4_leaves_1 : decode cX4_leaves 1 = .ok (.iload_n 1, 1) := by decide +kernel
theorem dX4_leaves_2 : decode cX4_leaves 2 = .ok (.iload_n 2, 1) := by decide +kernel
theorem dX4_leaves_3 : decode cX4_leaves 3 = .ok (.invokevirtual 80, 3) := by decide +kernel
theorem dX4_leaves_6 : decode cX4_leaves 6 = .ok (.istore_n 3, 1) := by decide +kernel
theorem dX4_leaves_7 : decode cX4_leaves 7 = .ok (.iload_n 3, 1) := by decide +kernel
theorem dX4_leaves_8 : decode cX4_leaves 8 = .ok (.ifCond .lt 14, 3) := by decide +kernel
theorem dX4_leaves_11 : decode cX4_leaves 11 = .ok (.aload_n 0, 1) := by decide +kernel
theorem dX4_leaves_12 : decode cX4_leaves 12 = .ok (.getfield 16, 3) := by decide +kernel
theorem dX4_leaves_15 : decode cX4_leaves 15 = .ok (.iload_n 3, 1) := by decide +kernel
theorem dX4_leaves_16 : decode cX4_leaves 16 = .ok (.iaload, 1) := by decide +kernel
theorem dX4_leaves_17 : decode cX4_leaves 17 = .ok (.bipush (-4), 2) := by decide +kernel
theorem dX4_leaves_19 : decode cX4_leaves 19 = .ok (.if_icmp .ne 5, 3) := by decide +kernel
theorem dX4_leaves_22 : decode cX4_leaves 22 = .ok (.iconst (-1), 1) := by decide +kernel
theorem dX4_leaves_23 : decode cX4_leaves 23 = .ok (.ireturn, 1) := by decide +kernel
theorem dX4_leaves_24 : decode cX4_leaves 24 = .ok (.aload_n 0, 1) := by decide +kernel
theorem dX4_leaves_25 : decode cX4_leaves 25 = .ok (.getfield 20, 3) := by decide +kernel
theorem dX4_leaves_28 : decode cX4_leaves 28 = .ok (.aload_n 0, 1) := by decide +kernel
theorem dX4_leaves_29 : decode cX4_leaves 29 = .ok (.getfield 16, 3) := by decide +kernel
theorem dX4_leaves_32 : decode cX4_leaves 32 = .ok (.iload_n 3, 1) := by decide +kernel
theorem dX4_leaves_33 : decode cX4_leaves 33 = .ok (.iaload, 1) := by decide +kernel
theorem dX4_leaves_34 : decode cX4_leaves 34 = .ok (.iaload, 1) := by decide +kernel
theorem dX4_leaves_35 : decode cX4_leaves 35 = .ok (.istore 4, 2) := by decide +kernel
theorem dX4_leaves_37 : decode cX4_leaves 37 = .ok (.aload_n 0, 1) := by decide +kernel
theorem dX4_leaves_38 : decode cX4_leaves 38 = .ok (.dup, 1) := by decide +kernel
theorem dX4_leaves_39 : decode cX4_leaves 39 = .ok (.getfield 108, 3) := by decide +kernel
theorem dX4_leaves_42 : decode cX4_leaves 42 = .ok (.iload 4, 2) := by decide +kernel
theorem dX4_leaves_44 : decode cX4_leaves 44 = .ok (.ifCond .ne 7, 3) := by decide +kernel
theorem dX4_leaves_47 : decode cX4_leaves 47 = .ok (.lconst 1, 1) := by decide +kernel
theorem dX4_leaves_48 : decode cX4_leaves 48 = .ok (.goto 18, 3) := by decide +kernel
theorem dX4_leaves_51 : decode cX4_leaves 51 = .ok (.iload 4, 2) := by decide +kernel
theorem dX4_leaves_53 : decode cX4_leaves 53 = .ok (.iconst 1, 1) := by decide +kernel
theorem dX4_leaves_54 : decode cX4_leaves 54 = .ok (.if_icmp .ne 9, 3) := by decide +kernel
theorem dX4_leaves_57 : decode cX4_leaves 57 = .ok (.ldc2_w 112, 3) := by decide +kernel
theorem dX4_leaves_60 : decode cX4_leaves 60 = .ok (.goto 6, 3) := by decide +kernel
theorem dX4_leaves_63 : decode cX4_leaves 63 = .ok (.ldc2_w 114, 3) := by decide +kernel
theorem dX4_leaves_66 : decode cX4_leaves 66 = .ok (.ladd, 1) := by decide +kernel
theorem dX4_leaves_67 : decode cX4_leaves 67 = .ok (.putfield 108, 3) := by decide +kernel
theorem dX4_leaves_70 : decode cX4_leaves 70 = .ok (.aload_n 0, 1) := by decide +kernel
theorem dX4_leaves_71 : decode cX4_leaves 71 = .ok (.iload_n 3, 1) := by decide +kernel
theorem dX4_leaves_72 : decode cX4_leaves 72 = .ok (.invokevirtual 116, 3) := by decide +kernel
theorem dX4_leaves_75 : decode cX4_leaves 75 = .ok (.ifCond .eq 7, 3) := by decide +kernel
theorem dX4_leaves_78 : decode cX4_leaves 78 = .ok (.iconst 1, 1) := by decide +kernel
theorem dX4_leaves_79 : decode cX4_leaves 79 = .ok (.goto 4, 3) := by decide +kernel
theorem dX4_leaves_82 : decode cX4_leaves 82 = .ok (.iconst 0, 1) := by decide +kernel
theorem dX4_leaves_83 : decode cX4_leaves 83 = .ok (.ireturn, 1) := by decide +kernel
set_option maxRecDepth 20000 in
theorem ggX4_mayGo_X4_beside : GoodIn wsX4_mayGo wsX4_beside := goodIn_r _ [6, 7, 8, 9, 10, 5, 11, 12, 13, 14, 15, 16, 17, 18, 19, 43, 44, 45, 46, 47, 48, 49, 50, 51, 52, 53, 54, 55, 56, 57, 58, 59, 60, 61, 62, 63, 64, 65, 66, 67, 68] (by decide +kernel) (by decide +kernel)
set_option maxRecDepth 20000 in
theorem gX4_mayGo_X4_beside : GoodIn wsX4_mayGo (wsV RX4 92 RX4 yX4_beside wsX4_beside) := goodIn_app (goodIn_of _ (by decide +kernel)) ggX4_mayGo_X4_beside
set_option maxRecDepth 20000 in
theorem ggX4_mayGo_X4_doesLeave : GoodIn wsX4_mayGo wsX4_doesLeave := goodIn_r _ [23, 1, 7, 16, 24, 25, 26, 27, 28, 5, 29, 30, 31, 2, 3, 4, 6, 8, 9, 10, 11, 12, 13, 14, 15, 17, 18, 19, 32, 33, 34, 35, 43, 44, 45, 46, 47, 48, 49, 50, 51, 52, 53, 54, 55, 56, 57, 58, 59, 60, 61, 62, 63, 64, 65, 66, 67, 68] (by decide +kernel) (by decide +kernel)
set_option maxRecDepth 20000 in
theorem gX4_mayGo_X4_doesLeave : GoodIn wsX4_mayGo (wsV RX4 116 RX4 yX4_doesLeave wsX4_doesLeave) := goodIn_app (goodIn_of _ (by decide +kernel)) ggX4_mayGo_X4_doesLeave
set_option maxRecDepth 20000 in
theorem ggX4_mayGo_X4_touches : GoodIn wsX4_mayGo wsX4_touches := goodIn_r _ [39, 7, 16, 1, 2, 3, 4, 5, 6, 8, 9, 10, 11, 12, 13, 14, 15, 17, 18, 19, 40, 41, 42, 43, 44, 45, 46, 47, 48, 49, 50, 51, 52, 53, 54, 55, 56, 57, 58, 59, 60, 61, 62, 63, 64, 65, 66, 67, 68] (by decide +kernel) (by decide +kernel)
set_option maxRecDepth 20000 in
theorem gX4_mayGo_X4_touches : GoodIn wsX4_mayGo (wsV RX4 101 RX4 yX4_touches wsX4_touches) := goodIn_app (goodIn_of _ (by decide +kernel)) ggX4_mayGo_X4_touches
theorem dX4_mayGo_0 : decode cX4_mayGo 0 = .ok (.aload_n 0, 1) := by decide +kernel
theorem dX4_mayGo_1 : decode cX4_mayGo 1 = .ok (.getfield 16, 3) := by decide +kernel
theorem dX4_mayGo_4 : decode cX4_mayGo 4 = .ok (.iload_n 1, 1) := by decide +kernel
theorem dX4_mayGo_5 : decode cX4_mayGo 5 = .ok (.iaload, 1) := by decide +kernel
theorem dX4_mayGo_6 : decode cX4_mayGo 6 = .ok (.istore_n 3, 1) := by decide +kernel
theorem dX4_mayGo_7 : decode cX4_mayGo 7 = .ok (.iload_n 3, 1) := by decide +kernel
theorem dX4_mayGo_8 : decode cX4_mayGo 8 = .ok (.bipush (-4), 2) := by decide +kernel
theorem dX4_mayGo_10 : decode cX4_mayGo 10 = .ok (.if_icmp .eq 8, 3) := by decide +kernel
theorem dX4_mayGo_13 : decode cX4_mayGo 13 = .ok (.iload_n 3, 1) := by decide +kernel
theorem dX4_mayGo_14 : decode cX4_mayGo 14 = .ok (.iload_n 2, 1) := by decide +kernel
theorem dX4_mayGo_15 : decode cX4_mayGo 15 = .ok (.if_icmp .ne 5, 3) := by decide +kernel
theorem dX4_mayGo_18 : decode cX4_mayGo 18 = .ok (.iconst 0, 1) := by decide +kernel
theorem dX4_mayGo_19 : decode cX4_mayGo 19 = .ok (.ireturn, 1) := by decide +kernel
theorem dX4_mayGo_20 : decode cX4_mayGo 20 = .ok (.iconst 0, 1) := by decide +kernel
theorem dX4_mayGo_21 : decode cX4_mayGo 21 = .ok (.istore 4, 2) := by decide +kernel
theorem dX4_mayGo_23 : decode cX4_mayGo 23 = .ok (.iconst 0, 1) := by decide +kernel
theorem dX4_mayGo_24 : decode cX4_mayGo 24 = .ok (.istore 5, 2) := by decide +kernel
theorem dX4_mayGo_26 : decode cX4_mayGo 26 = .ok (.iload 5, 2) := by decide +kernel
theorem dX4_mayGo_28 : decode cX4_mayGo 28 = .ok (.iconst 4, 1) := by decide +kernel
theorem dX4_mayGo_29 : decode cX4_mayGo 29 = .ok (.if_icmp .ge 46, 3) := by decide +kernel
theorem dX4_mayGo_32 : decode cX4_mayGo 32 = .ok (.aload_n 0, 1) := by decide +kernel
theorem dX4_mayGo_33 : decode cX4_mayGo 33 = .ok (.iload_n 1, 1) := by decide +kernel
theorem dX4_mayGo_34 : decode cX4_mayGo 34 = .ok (.iload 5, 2) := by decide +kernel
theorem dX4_mayGo_36 : decode cX4_mayGo 36 = .ok (.invokevirtual 92, 3) := by decide +kernel
theorem dX4_mayGo_39 : decode cX4_mayGo 39 = .ok (.istore 6, 2) := by decide +kernel
theorem dX4_mayGo_41 : decode cX4_mayGo 41 = .ok (.iload 4, 2) := by decide +kernel
theorem dX4_mayGo_43 : decode cX4_mayGo 43 = .ok (.ifCond .ne 19, 3) := by decide +kernel
theorem dX4_mayGo_46 : decode cX4_mayGo 46 = .ok (.iload 6, 2) := by decide +kernel
theorem dX4_mayGo_48 : decode cX4_mayGo 48 = .ok (.ifCond .lt 18, 3) := by decide +kernel
theorem dX4_mayGo_51 : decode cX4_mayGo 51 = .ok (.aload_n 0, 1) := by decide +kernel
theorem dX4_mayGo_52 : decode cX4_mayGo 52 = .ok (.getfield 16, 3) := by decide +kernel
theorem dX4_mayGo_55 : decode cX4_mayGo 55 = .ok (.iload 6, 2) := by decide +kernel
theorem dX4_mayGo_57 : decode cX4_mayGo 57 = .ok (.iaload, 1) := by decide +kernel
theorem dX4_mayGo_58 : decode cX4_mayGo 58 = .ok (.iload_n 2, 1) := by decide +kernel
theorem dX4_mayGo_59 : decode cX4_mayGo 59 = .ok (.if_icmp .ne 7, 3) := by decide +kernel
theorem dX4_mayGo_62 : decode cX4_mayGo 62 = .ok (.iconst 1, 1) := by decide +kernel
theorem dX4_mayGo_63 : decode cX4_mayGo 63 = .ok (.goto 4, 3) := by decide +kernel
theorem dX4_mayGo_66 : decode cX4_mayGo 66 = .ok (.iconst 0, 1) := by decide +kernel
theorem dX4_mayGo_67 : decode cX4_mayGo 67 = .ok (.istore 4, 2) := by decide +kernel
theorem dX4_mayGo_69 : decode cX4_mayGo 69 = .ok (.iinc 5 1, 3) := by decide +kernel
theorem dX4_mayGo_72 : decode cX4_mayGo 72 = .ok (.goto (-46), 3) := by decide +kernel
theorem dX4_mayGo_75 : decode cX4_mayGo 75 = .ok (.iload 4, 2) := by decide +kernel
theorem dX4_mayGo_77 : decode cX4_mayGo 77 = .ok (.ifCond .eq 11, 3) := by decide +kernel
theorem dX4_mayGo_80 : decode cX4_mayGo 80 = .ok (.aload_n 0, 1) := by decide +kernel
theorem dX4_mayGo_81 : decode cX4_mayGo 81 = .ok (.iload_n 1, 1) := by decide +kernel
theorem dX4_mayGo_82 : decode cX4_mayGo 82 = .ok (.invokevirtual 116, 3) := by decide +kernel
theorem dX4_mayGo_85 : decode cX4_mayGo 85 = .ok (.ifCond .ne 5, 3) := by decide +kernel
theorem dX4_mayGo_88 : decode cX4_mayGo 88 = .ok (.iconst 0, 1) := by decide +kernel
theorem dX4_mayGo_89 : decode cX4_mayGo 89 = .ok (.ireturn, 1) := by decide +kernel
theorem dX4_mayGo_90 : decode cX4_mayGo 90 = .ok (.aload_n 0, 1) := by decide +kernel
theorem dX4_mayGo_91 : decode cX4_mayGo 91 = .ok (.invokevirtual 101, 3) := by decide +kernel
theorem dX4_mayGo_94 : decode cX4_mayGo 94 = .ok (.lstore 5, 2) := by decide +kernel
theorem dX4_mayGo_96 : decode cX4_mayGo 96 = .ok (.aload_n 0, 1) := by decide +kernel
theorem dX4_mayGo_97 : decode cX4_mayGo 97 = .ok (.getfield 16, 3) := by decide +kernel
theorem dX4_mayGo_100 : decode cX4_mayGo 100 = .ok (.iload_n 1, 1) := by decide +kernel
theorem dX4_mayGo_101 : decode cX4_mayGo 101 = .ok (.iload_n 2, 1) := by decide +kernel
theorem dX4_mayGo_102 : decode cX4_mayGo 102 = .ok (.iastore, 1) := by decide +kernel
theorem dX4_mayGo_103 : decode cX4_mayGo 103 = .ok (.aload_n 0, 1) := by decide +kernel
theorem dX4_mayGo_104 : decode cX4_mayGo 104 = .ok (.invokevirtual 101, 3) := by decide +kernel
theorem dX4_mayGo_107 : decode cX4_mayGo 107 = .ok (.lload 5, 2) := by decide +kernel
theorem dX4_mayGo_109 : decode cX4_mayGo 109 = .ok (.lcmp, 1) := by decide +kernel
theorem dX4_mayGo_110 : decode cX4_mayGo 110 = .ok (.ifCond .ne 7, 3) := by decide +kernel
theorem dX4_mayGo_113 : decode cX4_mayGo 113 = .ok (.iconst 1, 1) := by decide +kernel
theorem dX4_mayGo_114 : decode cX4_mayGo 114 = .ok (.goto 4, 3) := by decide +kernel
theorem dX4_mayGo_117 : decode cX4_mayGo 117 = .ok (.iconst 0, 1) := by decide +kernel
theorem dX4_mayGo_118 : decode cX4_mayGo 118 = .ok (.istore 7, 2) := by decide +kernel
theorem dX4_mayGo_120 : decode cX4_mayGo 120 = .ok (.aload_n 0, 1) := by decide +kernel
theorem dX4_mayGo_121 : decode cX4_mayGo 121 = .ok (.getfield 16, 3) := by decide +kernel
theorem dX4_mayGo_124 : decode cX4_mayGo 124 = .ok (.iload_n 1, 1) := by decide +kernel
theorem dX4_mayGo_125 : decode cX4_mayGo 125 = .ok (.iload_n 3, 1) := by decide +kernel
theorem dX4_mayGo_126 : decode cX4_mayGo 126 = .ok (.iastore, 1) := by decide +kernel
theorem dX4_mayGo_127 : decode cX4_mayGo 127 = .ok (.iload 7, 2) := by decide +kernel
theorem dX4_mayGo_129 : decode cX4_mayGo 129 = .ok (.ireturn, 1) := by decide +kernel
set_option maxRecDepth 20000 in
theorem ggX4_may_X4_cellAt : GoodIn wsX4_may wsX4_cellAt := goodIn_r _ [5, 6, 7, 8, 9, 4, 10, 11, 12, 13, 14, 50, 51, 52, 53, 54, 55, 56, 57, 58, 59, 60, 61, 62, 63, 64, 65, 66, 67, 68, 69, 70, 71, 72, 73, 74, 75] (by decide +kernel) (by decide +kernel)
set_option maxRecDepth 20000 in
theorem gX4_may_X4_cellAt : GoodIn wsX4_may (wsV RX4 80 RX4 yX4_cellAt wsX4_cellAt) := goodIn_app (goodIn_of _ (by decide +kernel)) ggX4_may_X4_cellAt
set_option maxRecDepth 20000 in
theorem ggX4_may_X4_isLand : GoodIn wsX4_may wsX4_isLand := goodIn_r _ [17, 12, 13, 4, 14] (by decide +kernel) (by decide +kernel)
set_option maxRecDepth 20000 in
theorem gX4_may_X4_isLand : GoodIn wsX4_may (va_wsS RX4 84 yX4_isLand wsX4_isLand) := goodIn_app (goodIn_of _ (by decide +kernel)) ggX4_may_X4_isLand
set_option maxRecDepth 20000 in
theorem ggX4_may_X4_mayGo : GoodIn wsX4_may wsX4_mayGo := goodIn_r _ [21, 22, 23, 24, 25, 4, 26, 6, 1, 2, 3, 5, 7, 8, 9, 10, 11, 12, 13, 14, 27, 28, 29, 30, 31, 32, 33, 34, 35, 36, 37, 38, 39, 40, 41, 42, 43, 44, 45, 46, 47, 48, 49, 50, 51, 52, 53, 54, 55, 56, 57, 58, 59, 60, 61, 62, 63, 64, 65, 66, 67, 68, 69, 70, 71, 72, 73, 74, 75] (by decide +kernel) (by decide +kernel)
set_option maxRecDepth 20000 in
theorem gX4_may_X4_mayGo : GoodIn wsX4_may (wsV RX4 119 RX4 yX4_mayGo wsX4_mayGo) := goodIn_app (goodIn_of _ (by decide +kernel)) ggX4_may_X4_mayGo
theorem dX4_may_0 : decode cX4_may 0 = .ok (.aload_n 0, 1) := by decide +kernel
theorem dX4_may_1 : decode cX4_may 1 = .ok (.iload_n 1, 1) := by decide +kernel
theorem dX4_may_2 : decode cX4_may 2 = .ok (.iload_n 2, 1) := by decide +kernel
theorem dX4_may_3 : decode cX4_may 3 = .ok (.invokevirtual 80, 3) := by decide +kernel
theorem dX4_may_6 : decode cX4_may 6 = .ok (.istore 4, 2) := by decide +kernel
theorem dX4_may_8 : decode cX4_may 8 = .ok (.iload 4, 2) := by decide +kernel
theorem dX4_may_10 : decode cX4_may 10 = .ok (.ifCond .lt 10, 3) := by decide +kernel
theorem dX4_may_13 : decode cX4_may 13 = .ok (.iload_n 3, 1) := by decide +kernel
theorem dX4_may_14 : decode cX4_may 14 = .ok (.invokestatic 84, 3) := by decide +kernel
theorem dX4_may_17 : decode cX4_may 17 = .ok (.ifCond .ne 5, 3) := by decide +kernel
theorem dX4_may_20 : decode cX4_may 20 = .ok (.iconst (-1), 1) := by decide +kernel
theorem dX4_may_21 : decode cX4_may 21 = .ok (.ireturn, 1) := by decide +kernel
theorem dX4_may_22 : decode cX4_may 22 = .ok (.aload_n 0, 1) := by decide +kernel
theorem dX4_may_23 : decode cX4_may 23 = .ok (.iload 4, 2) := by decide +kernel
theorem dX4_may_25 : decode cX4_may 25 = .ok (.iload_n 3, 1) := by decide +kernel
theorem dX4_may_26 : decode cX4_may 26 = .ok (.invokevirtual 119, 3) := by decide +kernel
theorem dX4_may_29 : decode cX4_may 29 = .ok (.ifCond .eq 7, 3) := by decide +kernel
theorem dX4_may_32 : decode cX4_may 32 = .ok (.iconst 1, 1) := by decide +kernel
theorem dX4_may_33 : decode cX4_may 33 = .ok (.goto 4, 3) := by decide +kernel
theorem dX4_may_36 : decode cX4_may 36 = .ok (.iconst 0, 1) := by decide +kernel
theorem dX4_may_37 : decode cX4_may 37 = .ok (.ireturn, 1) := by decide +kernel
theorem dX4_goes_0 : decode cX4_goes 0 = .ok (.aload_n 0, 1) := by decide +kernel
theorem dX4_goes_1 : decode cX4_goes 1 = .ok (.getfield 29, 3) := by decide +kernel
theorem dX4_goes_4 : decode cX4_goes 4 = .ok (.aload_n 0, 1) := by decide +kernel
theorem dX4_goes_5 : decode cX4_goes 5 = .ok (.getfield 122, 3) := by decide +kernel
theorem dX4_goes_8 : decode cX4_goes 8 = .ok (.iload_n 1, 1) := by decide +kernel
theorem dX4_goes_9 : decode cX4_goes 9 = .ok (.iastore, 1) := by decide +kernel
theorem dX4_goes_10 : decode cX4_goes 10 = .ok (.aload_n 0, 1) := by decide +kernel
theorem dX4_goes_11 : decode cX4_goes 11 = .ok (.getfield 32, 3) := by decide +kernel
theorem dX4_goes_14 : decode cX4_goes 14 = .ok (.aload_n 0, 1) := by decide +kernel
theorem dX4_goes_15 : decode cX4_goes 15 = .ok (.getfield 122, 3) := by decide +kernel
theorem dX4_goes_18 : decode cX4_goes 18 = .ok (.aload_n 0, 1) := by decide +kernel
theorem dX4_goes_19 : decode cX4_goes 19 = .ok (.getfield 16, 3) := by decide +kernel
theorem dX4_goes_22 : decode cX4_goes 22 = .ok (.iload_n 1, 1) := by decide +kernel
theorem dX4_goes_23 : decode cX4_goes 23 = .ok (.iaload, 1) := by decide +kernel
theorem dX4_goes_24 : decode cX4_goes 24 = .ok (.iastore, 1) := by decide +kernel
theorem dX4_goes_25 : decode cX4_goes 25 = .ok (.aload_n 0, 1) := by decide +kernel
theorem dX4_goes_26 : decode cX4_goes 26 = .ok (.aload_n 0, 1) := by decide +kernel
theorem dX4_goes_27 : decode cX4_goes 27 = .ok (.getfield 122, 3) := by decide +kernel
theorem dX4_goes_30 : decode cX4_goes 30 = .ok (.iconst 1, 1) := by decide +kernel
theorem dX4_goes_31 : decode cX4_goes 31 = .ok (.iadd, 1) := by decide +kernel
theorem dX4_goes_32 : decode cX4_goes 32 = .ok (.bipush 100, 2) := by decide +kernel
theorem dX4_goes_34 : decode cX4_goes 34 = .ok (.irem, 1) := by decide +kernel
theorem dX4_goes_35 : decode cX4_goes 35 = .ok (.putfield 122, 3) := by decide +kernel
theorem dX4_goes_38 : decode cX4_goes 38 = .ok (.aload_n 0, 1) := by decide +kernel
theorem dX4_goes_39 : decode cX4_goes 39 = .ok (.dup, 1) := by decide +kernel
theorem dX4_goes_40 : decode cX4_goes 40 = .ok (.getfield 69, 3) := by decide +kernel
theorem dX4_goes_43 : decode cX4_goes 43 = .ok (.aload_n 0, 1) := by decide +kernel
theorem dX4_goes_44 : decode cX4_goes 44 = .ok (.getfield 69, 3) := by decide +kernel
theorem dX4_goes_47 : decode cX4_goes 47 = .ok (.bipush 100, 2) := by decide +kernel
theorem dX4_goes_49 : decode cX4_goes 49 = .ok (.if_icmp .ne 7, 3) := by decide +kernel
theorem dX4_goes_52 : decode cX4_goes 52 = .ok (.iconst 0, 1) := by decide +kernel
theorem dX4_goes_53 : decode cX4_goes 53 = .ok (.goto 4, 3) := by decide +kernel
theorem dX4_goes_56 : decode cX4_goes 56 = .ok (.iconst 1, 1) := by decide +kernel
theorem dX4_goes_57 : decode cX4_goes 57 = .ok (.iadd, 1) := by decide +kernel
theorem dX4_goes_58 : decode cX4_goes 58 = .ok (.putfield 69, 3) := by decide +kernel
theorem dX4_goes_61 : decode cX4_goes 61 = .ok (.aload_n 0, 1) := by decide +kernel
theorem dX4_goes_62 : decode cX4_goes 62 = .ok (.dup, 1) := by decide +kernel
theorem dX4_goes_63 : decode cX4_goes 63 = .ok (.getfield 125, 3) := by decide +kernel
theorem dX4_goes_66 : decode cX4_goes 66 = .ok (.iconst 1, 1) := by decide +kernel
theorem dX4_goes_67 : decode cX4_goes 67 = .ok (.iadd, 1) := by decide +kernel
theorem dX4_goes_68 : decode cX4_goes 68 = .ok (.putfield 125, 3) := by decide +kernel
theorem dX4_goes_71 : decode cX4_goes 71 = .ok (.aload_n 0, 1) := by decide +kernel
theorem dX4_goes_72 : decode cX4_goes 72 = .ok (.getfield 16, 3) := by decide +kernel
theorem dX4_goes_75 : decode cX4_goes 75 = .ok (.iload_n 1, 1) := by decide +kernel
theorem dX4_goes_76 : decode cX4_goes 76 = .ok (.iload_n 2, 1) := by decide +kernel
theorem dX4_goes_77 : decode cX4_goes 77 = .ok (.iastore, 1) := by decide +kernel
theorem dX4_goes_78 : decode cX4_goes 78 = .ok (.return_, 1) := by decide +kernel
set_option maxRecDepth 20000 in
theorem ggX4_move_X4_cellAt : GoodIn wsX4_move wsX4_cellAt := goodIn_r _ [6, 7, 8, 9, 10, 5, 11, 12, 13, 14, 15, 59, 60, 61, 62, 63, 64, 65, 66, 67, 68, 69, 70, 71, 72, 73, 74, 75, 76, 77, 78, 79, 80, 81, 82, 83, 84] (by decide +kernel) (by decide +kernel)
set_option maxRecDepth 20000 in
theorem gX4_move_X4_cellAt : GoodIn wsX4_move (wsV RX4 80 RX4 yX4_cellAt wsX4_cellAt) := goodIn_app (goodIn_of _ (by decide +kernel)) ggX4_move_X4_cellAt
set_option maxRecDepth 20000 in
theorem ggX4_move_X4_isLand : GoodIn wsX4_move wsX4_isLand := goodIn_r _ [18, 13, 14, 5, 15] (by decide +kernel) (by decide +kernel)
set_option maxRecDepth 20000 in
theorem gX4_move_X4_isLand : GoodIn wsX4_move (va_wsS RX4 84 yX4_isLand wsX4_isLand) := goodIn_app (goodIn_of _ (by decide +kernel)) ggX4_move_X4_isLand
set_option maxRecDepth 20000 in
theorem ggX4_move_X4_mayGo : GoodIn wsX4_move wsX4_mayGo := goodIn_r _ [22, 1, 23, 24, 25, 5, 26, 7, 2, 3, 4, 6, 8, 9, 10, 11, 12, 13, 14, 15, 27, 28, 29, 30, 31, 32, 33, 34, 35, 36, 37, 38, 39, 40, 41, 42, 43, 44, 45, 46, 47, 48, 49, 59, 60, 61, 62, 63, 64, 65, 66, 67, 68, 69, 70, 71, 72, 73, 74, 75, 76, 77, 78, 79, 80, 81, 82, 83, 84] (by decide +kernel) (by decide +kernel)
set_option maxRecDepth 20000 in
theorem gX4_move_X4_mayGo : GoodIn wsX4_move (wsV RX4 119 RX4 yX4_mayGo wsX4_mayGo) := goodIn_app (goodIn_of _ (by decide +kernel)) ggX4_move_X4_mayGo
set_option maxRecDepth 20000 in
theorem ggX4_move_X4_goes : GoodIn wsX4_move wsX4_goes := goodIn_r _ [53, 54, 55, 56, 1, 57, 58, 59, 60, 61, 62, 63, 64, 65, 66, 67, 68, 69, 70, 71, 72, 73, 74, 75, 76, 77, 78, 79, 80, 81, 82, 83, 84] (by decide +kernel) (by decide +kernel)
set_option maxRecDepth 20000 in
theorem gX4_move_X4_goes : GoodIn wsX4_move (wsV RX4 128 RX4 yX4_goes wsX4_goes) := goodIn_app (goodIn_of _ (by decide +kernel)) ggX4_move_X4_goes
theorem dX4_move_0 : decode cX4_move 0 = .ok (.aload_n 0, 1) := by decide +kernel
theorem dX4_move_1 : decode cX4_move 1 = .ok (.iload_n 1, 1) := by decide +kernel
theorem dX4_move_2 : decode cX4_move 2 = .ok (.iload_n 2, 1) := by decide +kernel
theorem dX4_move_3 : decode cX4_move 3 = .ok (.invokevirtual 80, 3) := by decide +kernel
theorem dX4_move_6 : decode cX4_move 6 = .ok (.istore 4, 2) := by decide +kernel
theorem dX4_move_8 : decode cX4_move 8 = .ok (.iload 4, 2) := by decide +kernel
theorem dX4_move_10 : decode cX4_move 10 = .ok (.ifCond .lt 10, 3) := by decide +kernel
theorem dX4_move_13 : decode cX4_move 13 = .ok (.iload_n 3, 1) := by decide +kernel
theorem dX4_move_14 : decode cX4_move 14 = .ok (.invokestatic 84, 3) := by decide +kernel
theorem dX4_move_17 : decode cX4_move 17 = .ok (.ifCond .ne 5, 3) := by decide +kernel
theorem dX4_move_20 : decode cX4_move 20 = .ok (.iconst (-1), 1) := by decide +kernel
theorem dX4_move_21 : decode cX4_move 21 = .ok (.ireturn, 1) := by decide +kernel
theorem dX4_move_22 : decode cX4_move 22 = .ok (.aload_n 0, 1) := by decide +kernel
theorem dX4_move_23 : decode cX4_move 23 = .ok (.iload 4, 2) := by decide +kernel
theorem dX4_move_25 : decode cX4_move 25 = .ok (.iload_n 3, 1) := by decide +kernel
theorem dX4_move_26 : decode cX4_move 26 = .ok (.invokevirtual 119, 3) := by decide +kernel
theorem dX4_move_29 : decode cX4_move 29 = .ok (.ifCond .ne 6, 3) := by decide +kernel
theorem dX4_move_32 : decode cX4_move 32 = .ok (.bipush (-2), 2) := by decide +kernel
theorem dX4_move_34 : decode cX4_move 34 = .ok (.ireturn, 1) := by decide +kernel
theorem dX4_move_35 : decode cX4_move 35 = .ok (.aload_n 0, 1) := by decide +kernel
theorem dX4_move_36 : decode cX4_move 36 = .ok (.getfield 16, 3) := by decide +kernel
theorem dX4_move_39 : decode cX4_move 39 = .ok (.iload 4, 2) := by decide +kernel
theorem dX4_move_41 : decode cX4_move 41 = .ok (.iaload, 1) := by decide +kernel
theorem dX4_move_42 : decode cX4_move 42 = .ok (.istore 5, 2) := by decide +kernel
theorem dX4_move_44 : decode cX4_move 44 = .ok (.aload_n 0, 1) := by decide +kernel
theorem dX4_move_45 : decode cX4_move 45 = .ok (.iload 4, 2) := by decide +kernel
theorem dX4_move_47 : decode cX4_move 47 = .ok (.iload_n 3, 1) := by decide +kernel
theorem dX4_move_48 : decode cX4_move 48 = .ok (.invokevirtual 128, 3) := by decide +kernel
theorem dX4_move_51 : decode cX4_move 51 = .ok (.iload 5, 2) := by decide +kernel
theorem dX4_move_53 : decode cX4_move 53 = .ok (.ireturn, 1) := by decide +kernel
set_option maxRecDepth 20000 in
theorem ggX4_want_X4_isLand : GoodIn wsX4_want wsX4_isLand := goodIn_r _ [5, 6, 7, 4, 8] (by decide +kernel) (by decide +kernel)
set_option maxRecDepth 20000 in
theorem gX4_want_X4_isLand : GoodIn wsX4_want (va_wsS RX4 84 yX4_isLand wsX4_isLand) := goodIn_app (goodIn_of _ (by decide +kernel)) ggX4_want_X4_isLand
set_option maxRecDepth 20000 in
theorem ggX4_want_X4_in : GoodIn wsX4_want wsX4_in := goodIn_r _ [8] (by decide +kernel) (by decide +kernel)
set_option maxRecDepth 20000 in
theorem gX4_want_X4_in : GoodIn wsX4_want (va_wsS RX4 72 yX4_in wsX4_in) := goodIn_app (goodIn_of _ (by decide +kernel)) ggX4_want_X4_in
theorem dX4_want_0 : decode cX4_want 0 = .ok (.iload_n 1, 1) := by decide +kernel
theorem dX4_want_1 : decode cX4_want 1 = .ok (.invokestatic 84, 3) := by decide +kernel
theorem dX4_want_4 : decode cX4_want 4 = .ok (.ifCond .eq 13, 3) := by decide +kernel
theorem dX4_want_7 : decode cX4_want 7 = .ok (.iload_n 2, 1) := by decide +kernel
theorem dX4_want_8 : decode cX4_want 8 = .ok (.iconst 0, 1) := by decide +kernel
theorem dX4_want_9 : decode cX4_want 9 = .ok (.bipush 64, 2) := by decide +kernel
theorem dX4_want_11 : decode cX4_want 11 = .ok (.invokestatic 72, 3) := by decide +kernel
theorem dX4_want_14 : decode cX4_want 14 = .ok (.ifCond .ne 5, 3) := by decide +kernel
theorem dX4_want_17 : decode cX4_want 17 = .ok (.iconst (-1), 1) := by decide +kernel
theorem dX4_want_18 : decode cX4_want 18 = .ok (.ireturn, 1) := by decide +kernel
theorem dX4_want_19 : decode cX4_want 19 = .ok (.aload_n 0, 1) := by decide +kernel
theorem dX4_want_20 : decode cX4_want 20 = .ok (.getfield 26, 3) := by decide +kernel
theorem dX4_want_23 : decode cX4_want 23 = .ok (.iload_n 1, 1) := by decide +kernel
theorem dX4_want_24 : decode cX4_want 24 = .ok (.iaload, 1) := by decide +kernel
theorem dX4_want_25 : decode cX4_want 25 = .ok (.istore_n 3, 1) := by decide +kernel
theorem dX4_want_26 : decode cX4_want 26 = .ok (.aload_n 0, 1) := by decide +kernel
theorem dX4_want_27 : decode cX4_want 27 = .ok (.getfield 26, 3) := by decide +kernel
theorem dX4_want_30 : decode cX4_want 30 = .ok (.iload_n 1, 1) := by decide +kernel
theorem dX4_want_31 : decode cX4_want 31 = .ok (.iload_n 2, 1) := by decide +kernel
theorem dX4_want_32 : decode cX4_want 32 = .ok (.iastore, 1) := by decide +kernel
theorem dX4_want_33 : decode cX4_want 33 = .ok (.iload_n 3, 1) := by decide +kernel
theorem dX4_want_34 : decode cX4_want 34 = .ok (.ireturn, 1) := by decide +kernel
set_option maxRecDepth 20000 in
theorem ggX4_missNow_X4_sizeOf : GoodIn wsX4_missNow wsX4_sizeOf := goodIn_r _ [6, 7, 8, 9, 10, 11, 12, 13, 14, 15, 16, 17, 18, 19, 20, 21, 22, 23, 24, 25, 26, 27, 28, 29, 30, 31, 32, 33, 34, 35] (by decide +kernel) (by decide +kernel)
set_option maxRecDepth 20000 in
theorem gX4_missNow_X4_sizeOf : GoodIn wsX4_missNow (wsV RX4 88 RX4 yX4_sizeOf wsX4_sizeOf) := goodIn_app (goodIn_of _ (by decide +kernel)) ggX4_missNow_X4_sizeOf
theorem dX4_missNow_0 : decode cX4_missNow 0 = .ok (.iconst 0, 1) := by decide +kernel
theorem dX4_missNow_1 : decode cX4_missNow 1 = .ok (.istore_n 1, 1) := by decide +kernel
theorem dX4_missNow_2 : decode cX4_missNow 2 = .ok (.iconst 0, 1) := by decide +kernel
theorem dX4_missNow_3 : decode cX4_missNow 3 = .ok (.istore_n 2, 1) := by decide +kernel
theorem dX4_missNow_4 : decode cX4_missNow 4 = .ok (.iload_n 2, 1) := by decide +kernel
theorem dX4_missNow_5 : decode cX4_missNow 5 = .ok (.bipush 6, 2) := by decide +kernel
theorem dX4_missNow_7 : decode cX4_missNow 7 = .ok (.if_icmp .ge 49, 3) := by decide +kernel
theorem dX4_missNow_10 : decode cX4_missNow 10 = .ok (.aload_n 0, 1) := by decide +kernel
theorem dX4_missNow_11 : decode cX4_missNow 11 = .ok (.iload_n 2, 1) := by decide +kernel
theorem dX4_missNow_12 : decode cX4_missNow 12 = .ok (.invokevirtual 88, 3) := by decide +kernel
theorem dX4_missNow_15 : decode cX4_missNow 15 = .ok (.istore_n 3, 1) := by decide +kernel
theorem dX4_missNow_16 : decode cX4_missNow 16 = .ok (.iload_n 3, 1) := by decide +kernel
theorem dX4_missNow_17 : decode cX4_missNow 17 = .ok (.aload_n 0, 1) := by decide +kernel
theorem dX4_missNow_18 : decode cX4_missNow 18 = .ok (.getfield 26, 3) := by decide +kernel
theorem dX4_missNow_21 : decode cX4_missNow 21 = .ok (.iload_n 2, 1) := by decide +kernel
theorem dX4_missNow_22 : decode cX4_missNow 22 = .ok (.iaload, 1) := by decide +kernel
theorem dX4_missNow_23 : decode cX4_missNow 23 = .ok (.isub, 1) := by decide +kernel
theorem dX4_missNow_24 : decode cX4_missNow 24 = .ok (.istore 4, 2) := by decide +kernel
theorem dX4_missNow_26 : decode cX4_missNow 26 = .ok (.iload_n 1, 1) := by decide +kernel
theorem dX4_missNow_27 : decode cX4_missNow 27 = .ok (.iload_n 3, 1) := by decide +kernel
theorem dX4_missNow_28 : decode cX4_missNow 28 = .ok (.ifCond .ne 7, 3) := by decide +kernel
theorem dX4_missNow_31 : decode cX4_missNow 31 = .ok (.iconst 0, 1) := by decide +kernel
theorem dX4_missNow_32 : decode cX4_missNow 32 = .ok (.goto 16, 3) := by decide +kernel
theorem dX4_missNow_35 : decode cX4_missNow 35 = .ok (.iload 4, 2) := by decide +kernel
theorem dX4_missNow_37 : decode cX4_missNow 37 = .ok (.ifCond .ge 9, 3) := by decide +kernel
theorem dX4_missNow_40 : decode cX4_missNow 40 = .ok (.iload 4, 2) := by decide +kernel
theorem dX4_missNow_42 : decode cX4_missNow 42 = .ok (.ineg, 1) := by decide +kernel
theorem dX4_missNow_43 : decode cX4_missNow 43 = .ok (.goto 5, 3) := by decide +kernel
theorem dX4_missNow_46 : decode cX4_missNow 46 = .ok (.iload 4, 2) := by decide +kernel
theorem dX4_missNow_48 : decode cX4_missNow 48 = .ok (.iadd, 1) := by decide +kernel
theorem dX4_missNow_49 : decode cX4_missNow 49 = .ok (.istore_n 1, 1) := by decide +kernel
theorem dX4_missNow_50 : decode cX4_missNow 50 = .ok (.iinc 2 1, 3) := by decide +kernel
theorem dX4_missNow_53 : decode cX4_missNow 53 = .ok (.goto (-49), 3) := by decide +kernel
theorem dX4_missNow_56 : decode cX4_missNow 56 = .ok (.iload_n 1, 1) := by decide +kernel
theorem dX4_missNow_57 : decode cX4_missNow 57 = .ok (.ireturn, 1) := by decide +kernel
set_option maxRecDepth 20000 in
theorem ggX4_miss_X4_missNow : GoodIn wsX4_miss wsX4_missNow := goodIn_r _ [5, 6, 7, 8, 9, 4, 10, 11, 12, 13, 14, 15, 16, 17, 18, 19, 20, 21, 22, 23, 24, 25, 26, 27, 28, 29, 30, 31, 32, 33, 34, 35, 36, 37, 38, 39] (by decide +kernel) (by decide +kernel)
set_option maxRecDepth 20000 in
theorem gX4_miss_X4_missNow : GoodIn wsX4_miss (wsV RX4 132 RX4 yX4_missNow wsX4_missNow) := goodIn_app (goodIn_of _ (by decide +kernel)) ggX4_miss_X4_missNow
theorem dX4_miss_0 : decode cX4_miss 0 = .ok (.aload_n 0, 1) := by decide +kernel
theorem dX4_miss_1 : decode cX4_miss 1 = .ok (.invokevirtual 132, 3) := by decide +kernel
theorem dX4_miss_4 : decode cX4_miss 4 = .ok (.ireturn, 1) := by decide +kernel
set_option maxRecDepth 20000 in
theorem ggX4_goesOn_X4_missNow : GoodIn wsX4_goesOn wsX4_missNow := goodIn_r _ [8, 9, 10, 11, 12, 7, 13, 1, 2, 3, 61, 62, 63, 64, 65, 66, 67, 68, 69, 70, 71, 72, 73, 74, 75, 76, 77, 78, 79, 80, 81, 82, 83, 84, 85, 86] (by decide +kernel) (by decide +kernel)
set_option maxRecDepth 20000 in
theorem gX4_goesOn_X4_missNow : GoodIn wsX4_goesOn (wsV RX4 132 RX4 yX4_missNow wsX4_missNow) := goodIn_app (goodIn_of _ (by decide +kernel)) ggX4_goesOn_X4_missNow
set_option maxRecDepth 20000 in
theorem ggX4_goesOn_X4_mayGo : GoodIn wsX4_goesOn wsX4_mayGo := goodIn_r _ [17, 3, 18, 19, 20, 7, 21, 1, 22, 23, 24, 25, 26, 27, 28, 29, 2, 30, 31, 32, 33, 34, 35, 36, 37, 38, 39, 40, 41, 42, 43, 44, 10, 11, 12, 13, 45, 46, 47, 48, 49, 50, 51, 61, 62, 63, 64, 65, 66, 67, 68, 69, 70, 71, 72, 73, 74, 75, 76, 77, 78, 79, 80, 81, 82, 83, 84, 85, 86] (by decide +kernel) (by decide +kernel)
set_option maxRecDepth 20000 in
theorem gX4_goesOn_X4_mayGo : GoodIn wsX4_goesOn (wsV RX4 119 RX4 yX4_mayGo wsX4_mayGo) := goodIn_app (goodIn_of _ (by decide +kernel)) ggX4_goesOn_X4_mayGo
set_option maxRecDepth 20000 in
theorem ggX4_goesOn_X4_goes : GoodIn wsX4_goesOn wsX4_goes := goodIn_r _ [55, 56, 57, 58, 3, 59, 60, 61, 62, 63, 64, 65, 66, 67, 68, 69, 70, 71, 72, 73, 74, 75, 76, 77, 78, 79, 80, 81, 82, 83, 84, 85, 86] (by decide +kernel) (by decide +kernel)
set_option maxRecDepth 20000 in
theorem gX4_goesOn_X4_goes : GoodIn wsX4_goesOn (wsV RX4 128 RX4 yX4_goes wsX4_goes) := goodIn_app (goodIn_of _ (by decide +kernel)) ggX4_goesOn_X4_goes
theorem dX4_goesOn_0 : decode cX4_goesOn 0 = .ok (.aload_n 0, 1) := by decide +kernel
theorem dX4_goesOn_1 : decode cX4_goesOn 1 = .ok (.invokevirtual 132, 3) := by decide +kernel
theorem dX4_goesOn_4 : decode cX4_goesOn 4 = .ok (.istore_n 1, 1) := by decide +kernel
theorem dX4_goesOn_5 : decode cX4_goesOn 5 = .ok (.iconst (-1), 1) := by decide +kernel
theorem dX4_goesOn_6 : decode cX4_goesOn 6 = .ok (.istore_n 2, 1) := by decide +kernel
theorem dX4_goesOn_7 : decode cX4_goesOn 7 = .ok (.iconst 0, 1) := by decide +kernel
theorem dX4_goesOn_8 : decode cX4_goesOn 8 = .ok (.istore_n 3, 1) := by decide +kernel
theorem dX4_goesOn_9 : decode cX4_goesOn 9 = .ok (.iconst 0, 1) := by decide +kernel
theorem dX4_goesOn_10 : decode cX4_goesOn 10 = .ok (.istore 4, 2) := by decide +kernel
theorem dX4_goesOn_12 : decode cX4_goesOn 12 = .ok (.iload 4, 2) := by decide +kernel
theorem dX4_goesOn_14 : decode cX4_goesOn 14 = .ok (.aload_n 0, 1) := by decide +kernel
theorem dX4_goesOn_15 : decode cX4_goesOn 15 = .ok (.getfield 7, 3) := by decide +kernel
theorem dX4_goesOn_18 : decode cX4_goesOn 18 = .ok (.aload_n 0, 1) := by decide +kernel
theorem dX4_goesOn_19 : decode cX4_goesOn 19 = .ok (.getfield 13, 3) := by decide +kernel
theorem dX4_goesOn_22 : decode cX4_goesOn 22 = .ok (.imul, 1) := by decide +kernel
theorem dX4_goesOn_23 : decode cX4_goesOn 23 = .ok (.if_icmp .ge 108, 3) := by decide +kernel
theorem dX4_goesOn_26 : decode cX4_goesOn 26 = .ok (.iconst 0, 1) := by decide +kernel
theorem dX4_goesOn_27 : decode cX4_goesOn 27 = .ok (.istore 5, 2) := by decide +kernel
theorem dX4_goesOn_29 : decode cX4_goesOn 29 = .ok (.iload 5, 2) := by decide +kernel
theorem dX4_goesOn_31 : decode cX4_goesOn 31 = .ok (.bipush 6, 2) := by decide +kernel
theorem dX4_goesOn_33 : decode cX4_goesOn 33 = .ok (.if_icmp .ge 92, 3) := by decide +kernel
theorem dX4_goesOn_36 : decode cX4_goesOn 36 = .ok (.aload_n 0, 1) := by decide +kernel
theorem dX4_goesOn_37 : decode cX4_goesOn 37 = .ok (.iload 4, 2) := by decide +kernel
theorem dX4_goesOn_39 : decode cX4_goesOn 39 = .ok (.iload 5, 2) := by decide +kernel
theorem dX4_goesOn_41 : decode cX4_goesOn 41 = .ok (.invokevirtual 119, 3) := by decide +kernel
theorem dX4_goesOn_44 : decode cX4_goesOn 44 = .ok (.ifCond .eq 75, 3) := by decide +kernel
theorem dX4_goesOn_47 : decode cX4_goesOn 47 = .ok (.aload_n 0, 1) := by decide +kernel
theorem dX4_goesOn_48 : decode cX4_goesOn 48 = .ok (.getfield 16, 3) := by decide +kernel
theorem dX4_goesOn_51 : decode cX4_goesOn 51 = .ok (.iload 4, 2) := by decide +kernel
theorem dX4_goesOn_53 : decode cX4_goesOn 53 = .ok (.iaload, 1) := by decide +kernel
theorem dX4_goesOn_54 : decode cX4_goesOn 54 = .ok (.istore 6, 2) := by decide +kernel
theorem dX4_goesOn_56 : decode cX4_goesOn 56 = .ok (.aload_n 0, 1) := by decide +kernel
theorem dX4_goesOn_57 : decode cX4_goesOn 57 = .ok (.getfield 16, 3) := by decide +kernel
theorem dX4_goesOn_60 : decode cX4_goesOn 60 = .ok (.iload 4, 2) := by decide +kernel
theorem dX4_goesOn_62 : decode cX4_goesOn 62 = .ok (.iload 5, 2) := by decide +kernel
theorem dX4_goesOn_64 : decode cX4_goesOn 64 = .ok (.iastore, 1) := by decide +kernel
theorem dX4_goesOn_65 : decode cX4_goesOn 65 = .ok (.aload_n 0, 1) := by decide +kernel
theorem dX4_goesOn_66 : decode cX4_goesOn 66 = .ok (.invokevirtual 132, 3) := by decide +kernel
theorem dX4_goesOn_69 : decode cX4_goesOn 69 = .ok (.istore 7, 2) := by decide +kernel
theorem dX4_goesOn_71 : decode cX4_goesOn 71 = .ok (.aload_n 0, 1) := by decide +kernel
theorem dX4_goesOn_72 : decode cX4_goesOn 72 = .ok (.getfield 16, 3) := by decide +kernel
theorem dX4_goesOn_75 : decode cX4_goesOn 75 = .ok (.iload 4, 2) := by decide +kernel
theorem dX4_goesOn_77 : decode cX4_goesOn 77 = .ok (.iload 6, 2) := by decide +kernel
theorem dX4_goesOn_79 : decode cX4_goesOn 79 = .ok (.iastore, 1) := by decide +kernel
theorem dX4_goesOn_80 : decode cX4_goesOn 80 = .ok (.iload 7, 2) := by decide +kernel
theorem dX4_goesOn_82 : decode cX4_goesOn 82 = .ok (.iload_n 1, 1) := by decide +kernel
theorem dX4_goesOn_83 : decode cX4_goesOn 83 = .ok (.if_icmp .ge 8, 3) := by decide +kernel
theorem dX4_goesOn_86 : decode cX4_goesOn 86 = .ok (.iload 4, 2) := by decide +kernel
theorem dX4_goesOn_88 : decode cX4_goesOn 88 = .ok (.goto 4, 3) := by decide +kernel
theorem dX4_goesOn_91 : decode cX4_goesOn 91 = .ok (.iload_n 2, 1) := by decide +kernel
theorem dX4_goesOn_92 : decode cX4_goesOn 92 = .ok (.istore_n 2, 1) := by decide +kernel
theorem dX4_goesOn_93 : decode cX4_goesOn 93 = .ok (.iload 7, 2) := by decide +kernel
theorem dX4_goesOn_95 : decode cX4_goesOn 95 = .ok (.iload_n 1, 1) := by decide +kernel
theorem dX4_goesOn_96 : decode cX4_goesOn 96 = .ok (.if_icmp .ge 8, 3) := by decide +kernel
theorem dX4_goesOn_99 : decode cX4_goesOn 99 = .ok (.iload 5, 2) := by decide +kernel
theorem dX4_goesOn_101 : decode cX4_goesOn 101 = .ok (.goto 4, 3) := by decide +kernel
theorem dX4_goesOn_104 : decode cX4_goesOn 104 = .ok (.iload_n 3, 1) := by decide +kernel
theorem dX4_goesOn_105 : decode cX4_goesOn 105 = .ok (.istore_n 3, 1) := by decide +kernel
theorem dX4_goesOn_106 : decode cX4_goesOn 106 = .ok (.iload 7, 2) := by decide +kernel
theorem dX4_goesOn_108 : decode cX4_goesOn 108 = .ok (.iload_n 1, 1) := by decide +kernel
theorem dX4_goesOn_109 : decode cX4_goesOn 109 = .ok (.if_icmp .ge 8, 3) := by decide +kernel
theorem dX4_goesOn_112 : decode cX4_goesOn 112 = .ok (.iload 7, 2) := by decide +kernel
theorem dX4_goesOn_114 : decode cX4_goesOn 114 = .ok (.goto 4, 3) := by decide +kernel
theorem dX4_goesOn_117 : decode cX4_goesOn 117 = .ok (.iload_n 1, 1) := by decide +kernel
theorem dX4_goesOn_118 : decode cX4_goesOn 118 = .ok (.istore_n 1, 1) := by decide +kernel
theorem dX4_goesOn_119 : decode cX4_goesOn 119 = .ok (.iinc 5 1, 3) := by decide +kernel
theorem dX4_goesOn_122 : decode cX4_goesOn 122 = .ok (.goto (-93), 3) := by decide +kernel
theorem dX4_goesOn_125 : decode cX4_goesOn 125 = .ok (.iinc 4 1, 3) := by decide +kernel
theorem dX4_goesOn_128 : decode cX4_goesOn 128 = .ok (.goto (-116), 3) := by decide +kernel
theorem dX4_goesOn_131 : decode cX4_goesOn 131 = .ok (.iload_n 2, 1) := by decide +kernel
theorem dX4_goesOn_132 : decode cX4_goesOn 132 = .ok (.ifCond .ge 5, 3) := by decide +kernel
theorem dX4_goesOn_135 : decode cX4_goesOn 135 = .ok (.iconst 0, 1) := by decide +kernel
theorem dX4_goesOn_136 : decode cX4_goesOn 136 = .ok (.ireturn, 1) := by decide +kernel
theorem dX4_goesOn_137 : decode cX4_goesOn 137 = .ok (.aload_n 0, 1) := by decide +kernel
theorem dX4_goesOn_138 : decode cX4_goesOn 138 = .ok (.iload_n 2, 1) := by decide +kernel
theorem dX4_goesOn_139 : decode cX4_goesOn 139 = .ok (.iload_n 3, 1) := by decide +kernel
theorem dX4_goesOn_140 : decode cX4_goesOn 140 = .ok (.invokevirtual 128, 3) := by decide +kernel
theorem dX4_goesOn_143 : decode cX4_goesOn 143 = .ok (.iconst 1, 1) := by decide +kernel
theorem dX4_goesOn_144 : decode cX4_goesOn 144 = .ok (.ireturn, 1) := by decide +kernel
set_option maxRecDepth 20000 in
theorem ggX4_steps_X4_in : GoodIn wsX4_steps wsX4_in := goodIn_r _ [4] (by decide +kernel) (by decide +kernel)
set_option maxRecDepth 20000 in
theorem gX4_steps_X4_in : GoodIn wsX4_steps (va_wsS RX4 72 yX4_in wsX4_in) := goodIn_app (goodIn_of _ (by decide +kernel)) ggX4_steps_X4_in
set_option maxRecDepth 20000 in
theorem ggX4_steps_X4_goesOn : GoodIn wsX4_steps wsX4_goesOn := goodIn_r _ [8, 9, 10, 11, 12, 13, 14, 3, 15, 16, 17, 18, 19, 20, 21, 22, 23, 24, 25, 26, 27, 28, 29, 30, 31, 32, 33, 34, 35, 36, 1, 2, 4, 37, 38, 39, 40, 41, 42, 43, 44, 45, 46, 47, 48, 49, 50, 51, 52, 53, 54, 55, 56, 57, 58, 59, 60, 61, 62, 63, 64, 65, 66, 67, 68, 69, 70, 71, 72, 73, 74, 75, 76, 77, 78, 79, 80, 81, 82, 83, 84, 85, 86, 87, 88, 89, 90] (by decide +kernel) (by decide +kernel)
set_option maxRecDepth 20000 in
theorem gX4_steps_X4_goesOn : GoodIn wsX4_steps (wsV RX4 136 RX4 yX4_goesOn wsX4_goesOn) := goodIn_app (goodIn_of _ (by decide +kernel)) ggX4_steps_X4_goesOn
theorem dX4_steps_0 : decode cX4_steps 0 = .ok (.iload_n 1, 1) := by decide +kernel
theorem dX4_steps_1 : decode cX4_steps 1 = .ok (.iconst 1, 1) := by decide +kernel
theorem dX4_steps_2 : decode cX4_steps 2 = .ok (.bipush 64, 2) := by decide +kernel
theorem dX4_steps_4 : decode cX4_steps 4 = .ok (.invokestatic 72, 3) := by decide +kernel
theorem dX4_steps_7 : decode cX4_steps 7 = .ok (.ifCond .ne 5, 3) := by decide +kernel
theorem dX4_steps_10 : decode cX4_steps 10 = .ok (.iconst (-1), 1) := by decide +kernel
theorem dX4_steps_11 : decode cX4_steps 11 = .ok (.ireturn, 1) := by decide +kernel
theorem dX4_steps_12 : decode cX4_steps 12 = .ok (.iconst 0, 1) := by decide +kernel
theorem dX4_steps_13 : decode cX4_steps 13 = .ok (.istore_n 2, 1) := by decide +kernel
theorem dX4_steps_14 : decode cX4_steps 14 = .ok (.iconst 1, 1) := by decide +kernel
theorem dX4_steps_15 : decode cX4_steps 15 = .ok (.istore_n 3, 1) := by decide +kernel
theorem dX4_steps_16 : decode cX4_steps 16 = .ok (.iload_n 3, 1) := by decide +kernel
theorem dX4_steps_17 : decode cX4_steps 17 = .ok (.ifCond .eq 28, 3) := by decide +kernel
theorem dX4_steps_20 : decode cX4_steps 20 = .ok (.iload_n 2, 1) := by decide +kernel
theorem dX4_steps_21 : decode cX4_steps 21 = .ok (.iload_n 1, 1) := by decide +kernel
theorem dX4_steps_22 : decode cX4_steps 22 = .ok (.if_icmp .ge 23, 3) := by decide +kernel
theorem dX4_steps_25 : decode cX4_steps 25 = .ok (.aload_n 0, 1) := by decide +kernel
theorem dX4_steps_26 : decode cX4_steps 26 = .ok (.invokevirtual 136, 3) := by decide +kernel
theorem dX4_steps_29 : decode cX4_steps 29 = .ok (.istore_n 3, 1) := by decide +kernel
theorem dX4_steps_30 : decode cX4_steps 30 = .ok (.iload_n 2, 1) := by decide +kernel
theorem dX4_steps_31 : decode cX4_steps 31 = .ok (.iload_n 3, 1) := by decide +kernel
theorem dX4_steps_32 : decode cX4_steps 32 = .ok (.ifCond .eq 7, 3) := by decide +kernel
theorem dX4_steps_35 : decode cX4_steps 35 = .ok (.iconst 1, 1) := by decide +kernel
theorem dX4_steps_36 : decode cX4_steps 36 = .ok (.goto 4, 3) := by decide +kernel
theorem dX4_steps_39 : decode cX4_steps 39 = .ok (.iconst 0, 1) := by decide +kernel
theorem dX4_steps_40 : decode cX4_steps 40 = .ok (.iadd, 1) := by decide +kernel
theorem dX4_steps_41 : decode cX4_steps 41 = .ok (.istore_n 2, 1) := by decide +kernel
theorem dX4_steps_42 : decode cX4_steps 42 = .ok (.goto (-26), 3) := by decide +kernel
theorem dX4_steps_45 : decode cX4_steps 45 = .ok (.iload_n 2, 1) := by decide +kernel
theorem dX4_steps_46 : decode cX4_steps 46 = .ok (.ireturn, 1) := by decide +kernel
set_option maxRecDepth 20000 in
theorem ggX4_undo_X4_in : GoodIn wsX4_undo wsX4_in := goodIn_r _ [9] (by decide +kernel) (by decide +kernel)
set_option maxRecDepth 20000 in
theorem gX4_undo_X4_in : GoodIn wsX4_undo (va_wsS RX4 72 yX4_in wsX4_in) := goodIn_app (goodIn_of _ (by decide +kernel)) ggX4_undo_X4_in
theorem dX4_undo_0 : decode cX4_undo 0 = .ok (.iload_n 1, 1) := by decide +kernel
theorem dX4_undo_1 : decode cX4_undo 1 = .ok (.iconst 1, 1) := by decide +kernel
theorem dX4_undo_2 : decode cX4_undo 2 = .ok (.bipush 100, 2) := by decide +kernel
theorem dX4_undo_4 : decode cX4_undo 4 = .ok (.invokestatic 72, 3) := by decide +kernel
theorem dX4_undo_7 : decode cX4_undo 7 = .ok (.ifCond .ne 5, 3) := by decide +kernel
theorem dX4_undo_10 : decode cX4_undo 10 = .ok (.iconst (-1), 1) := by decide +kernel
theorem dX4_undo_11 : decode cX4_undo 11 = .ok (.ireturn, 1) := by decide +kernel
theorem dX4_undo_12 : decode cX4_undo 12 = .ok (.iconst 0, 1) := by decide +kernel
theorem dX4_undo_13 : decode cX4_undo 13 = .ok (.istore_n 2, 1) := by decide +kernel
theorem dX4_undo_14 : decode cX4_undo 14 = .ok (.iload_n 2, 1) := by decide +kernel
theorem dX4_undo_15 : decode cX4_undo 15 = .ok (.iload_n 1, 1) := by decide +kernel
theorem dX4_undo_16 : decode cX4_undo 16 = .ok (.if_icmp .ge 65, 3) := by decide +kernel
theorem dX4_undo_19 : decode cX4_undo 19 = .ok (.aload_n 0, 1) := by decide +kernel
theorem dX4_undo_20 : decode cX4_undo 20 = .ok (.getfield 69, 3) := by decide +kernel
theorem dX4_undo_23 : decode cX4_undo 23 = .ok (.ifCond .le 58, 3) := by decide +kernel
theorem dX4_undo_26 : decode cX4_undo 26 = .ok (.aload_n 0, 1) := by decide +kernel
theorem dX4_undo_27 : decode cX4_undo 27 = .ok (.aload_n 0, 1) := by decide +kernel
theorem dX4_undo_28 : decode cX4_undo 28 = .ok (.getfield 122, 3) := by decide +kernel
theorem dX4_undo_31 : decode cX4_undo 31 = .ok (.bipush 100, 2) := by decide +kernel
theorem dX4_undo_33 : decode cX4_undo 33 = .ok (.iadd, 1) := by decide +kernel
theorem dX4_undo_34 : decode cX4_undo 34 = .ok (.iconst 1, 1) := by decide +kernel
theorem dX4_undo_35 : decode cX4_undo 35 = .ok (.isub, 1) := by decide +kernel
theorem dX4_undo_36 : decode cX4_undo 36 = .ok (.bipush 100, 2) := by decide +kernel
theorem dX4_undo_38 : decode cX4_undo 38 = .ok (.irem, 1) := by decide +kernel
theorem dX4_undo_39 : decode cX4_undo 39 = .ok (.putfield 122, 3) := by decide +kernel
theorem dX4_undo_42 : decode cX4_undo 42 = .ok (.aload_n 0, 1) := by decide +kernel
theorem dX4_undo_43 : decode cX4_undo 43 = .ok (.getfield 16, 3) := by decide +kernel
theorem dX4_undo_46 : decode cX4_undo 46 = .ok (.aload_n 0, 1) := by decide +kernel
theorem dX4_undo_47 : decode cX4_undo 47 = .ok (.getfield 29, 3) := by decide +kernel
theorem dX4_undo_50 : decode cX4_undo 50 = .ok (.aload_n 0, 1) := by decide +kernel
theorem dX4_undo_51 : decode cX4_undo 51 = .ok (.getfield 122, 3) := by decide +kernel
theorem dX4_undo_54 : decode cX4_undo 54 = .ok (.iaload, 1) := by decide +kernel
theorem dX4_undo_55 : decode cX4_undo 55 = .ok (.aload_n 0, 1) := by decide +kernel
theorem dX4_undo_56 : decode cX4_undo 56 = .ok (.getfield 32, 3) := by decide +kernel
theorem dX4_undo_59 : decode cX4_undo 59 = .ok (.aload_n 0, 1) := by decide +kernel
theorem dX4_undo_60 : decode cX4_undo 60 = .ok (.getfield 122, 3) := by decide +kernel
theorem dX4_undo_63 : decode cX4_undo 63 = .ok (.iaload, 1) := by decide +kernel
theorem dX4_undo_64 : decode cX4_undo 64 = .ok (.iastore, 1) := by decide +kernel
theorem dX4_undo_65 : decode cX4_undo 65 = .ok (.aload_n 0, 1) := by decide +kernel
theorem dX4_undo_66 : decode cX4_undo 66 = .ok (.dup, 1) := by decide +kernel
theorem dX4_undo_67 : decode cX4_undo 67 = .ok (.getfield 69, 3) := by decide +kernel
theorem dX4_undo_70 : decode cX4_undo 70 = .ok (.iconst 1, 1) := by decide +kernel
theorem dX4_undo_71 : decode cX4_undo 71 = .ok (.isub, 1) := by decide +kernel
theorem dX4_undo_72 : decode cX4_undo 72 = .ok (.putfield 69, 3) := by decide +kernel
theorem dX4_undo_75 : decode cX4_undo 75 = .ok (.iinc 2 1, 3) := by decide +kernel
theorem dX4_undo_78 : decode cX4_undo 78 = .ok (.goto (-64), 3) := by decide +kernel
theorem dX4_undo_81 : decode cX4_undo 81 = .ok (.iload_n 2, 1) := by decide +kernel
theorem dX4_undo_82 : decode cX4_undo 82 = .ok (.ireturn, 1) := by decide +kernel
set_option maxRecDepth 20000 in
theorem ggX4_sound_X4_beside : GoodIn wsX4_sound wsX4_beside := goodIn_r _ [9, 1, 10, 11, 12, 8, 13, 14, 15, 16, 17, 2, 18, 19, 20, 21, 22, 23, 24, 25, 26, 27, 28, 29, 30, 31, 32, 33, 34, 35, 36, 37, 38, 39, 40, 41, 42, 43, 44, 45, 46] (by decide +kernel) (by decide +kernel)
set_option maxRecDepth 20000 in
theorem gX4_sound_X4_beside : GoodIn wsX4_sound (wsV RX4 92 RX4 yX4_beside wsX4_beside) := goodIn_app (goodIn_of _ (by decide +kernel)) ggX4_sound_X4_beside
theorem dX4_sound_0 : decode cX4_sound 0 = .ok (.iconst 0, 1) := by decide +kernel
theorem dX4_sound_1 : decode cX4_sound 1 = .ok (.istore_n 2, 1) := by decide +kernel
theorem dX4_sound_2 : decode cX4_sound 2 = .ok (.iload_n 2, 1) := by decide +kernel
theorem dX4_sound_3 : decode cX4_sound 3 = .ok (.aload_n 0, 1) := by decide +kernel
theorem dX4_sound_4 : decode cX4_sound 4 = .ok (.getfield 7, 3) := by decide +kernel
theorem dX4_sound_7 : decode cX4_sound 7 = .ok (.aload_n 0, 1) := by decide +kernel
theorem dX4_sound_8 : decode cX4_sound 8 = .ok (.getfield 13, 3) := by decide +kernel
theorem dX4_sound_11 : decode cX4_sound 11 = .ok (.imul, 1) := by decide +kernel
theorem dX4_sound_12 : decode cX4_sound 12 = .ok (.if_icmp .ge 31, 3) := by decide +kernel
theorem dX4_sound_15 : decode cX4_sound 15 = .ok (.aload_n 0, 1) := by decide +kernel
theorem dX4_sound_16 : decode cX4_sound 16 = .ok (.getfield 54, 3) := by decide +kernel
theorem dX4_sound_19 : decode cX4_sound 19 = .ok (.iload_n 2, 1) := by decide +kernel
theorem dX4_sound_20 : decode cX4_sound 20 = .ok (.aload_n 0, 1) := by decide +kernel
theorem dX4_sound_21 : decode cX4_sound 21 = .ok (.getfield 16, 3) := by decide +kernel
theorem dX4_sound_24 : decode cX4_sound 24 = .ok (.iload_n 2, 1) := by decide +kernel
theorem dX4_sound_25 : decode cX4_sound 25 = .ok (.iaload, 1) := by decide +kernel
theorem dX4_sound_26 : decode cX4_sound 26 = .ok (.iload_n 1, 1) := by decide +kernel
theorem dX4_sound_27 : decode cX4_sound 27 = .ok (.if_icmp .ne 8, 3) := by decide +kernel
theorem dX4_sound_30 : decode cX4_sound 30 = .ok (.bipush 100, 2) := by decide +kernel
theorem dX4_sound_32 : decode cX4_sound 32 = .ok (.goto 4, 3) := by decide +kernel
theorem dX4_sound_35 : decode cX4_sound 35 = .ok (.iconst 0, 1) := by decide +kernel
theorem dX4_sound_36 : decode cX4_sound 36 = .ok (.iastore, 1) := by decide +kernel
theorem dX4_sound_37 : decode cX4_sound 37 = .ok (.iinc 2 1, 3) := by decide +kernel
theorem dX4_sound_40 : decode cX4_sound 40 = .ok (.goto (-38), 3) := by decide +kernel
theorem dX4_sound_43 : decode cX4_sound 43 = .ok (.iconst 1, 1) := by decide +kernel
theorem dX4_sound_44 : decode cX4_sound 44 = .ok (.istore_n 2, 1) := by decide +kernel
theorem dX4_sound_45 : decode cX4_sound 45 = .ok (.iload_n 2, 1) := by decide +kernel
theorem dX4_sound_46 : decode cX4_sound 46 = .ok (.ifCond .eq 94, 3) := by decide +kernel
theorem dX4_sound_49 : decode cX4_sound 49 = .ok (.iconst 0, 1) := by decide +kernel
theorem dX4_sound_50 : decode cX4_sound 50 = .ok (.istore_n 2, 1) := by decide +kernel
theorem dX4_sound_51 : decode cX4_sound 51 = .ok (.iconst 0, 1) := by decide +kernel
theorem dX4_sound_52 : decode cX4_sound 52 = .ok (.istore_n 3, 1) := by decide +kernel
theorem dX4_sound_53 : decode cX4_sound 53 = .ok (.iload_n 3, 1) := by decide +kernel
theorem dX4_sound_54 : decode cX4_sound 54 = .ok (.aload_n 0, 1) := by decide +kernel
theorem dX4_sound_55 : decode cX4_sound 55 = .ok (.getfield 7, 3) := by decide +kernel
theorem dX4_sound_58 : decode cX4_sound 58 = .ok (.aload_n 0, 1) := by decide +kernel
theorem dX4_sound_59 : decode cX4_sound 59 = .ok (.getfield 13, 3) := by decide +kernel
theorem dX4_sound_62 : decode cX4_sound 62 = .ok (.imul, 1) := by decide +kernel
theorem dX4_sound_63 : decode cX4_sound 63 = .ok (.if_icmp .ge 74, 3) := by decide +kernel
theorem dX4_sound_66 : decode cX4_sound 66 = .ok (.iconst 0, 1) := by decide +kernel
theorem dX4_sound_67 : decode cX4_sound 67 = .ok (.istore 4, 2) := by decide +kernel
theorem dX4_sound_69 : decode cX4_sound 69 = .ok (.iload 4, 2) := by decide +kernel
theorem dX4_sound_71 : decode cX4_sound 71 = .ok (.iconst 4, 1) := by decide +kernel
theorem dX4_sound_72 : decode cX4_sound 72 = .ok (.if_icmp .ge 59, 3) := by decide +kernel
theorem dX4_sound_75 : decode cX4_sound 75 = .ok (.aload_n 0, 1) := by decide +kernel
theorem dX4_sound_76 : decode cX4_sound 76 = .ok (.iload_n 3, 1) := by decide +kernel
theorem dX4_sound_77 : decode cX4_sound 77 = .ok (.iload 4, 2) := by decide +kernel
theorem dX4_sound_79 : decode cX4_sound 79 = .ok (.invokevirtual 92, 3) := by decide +kernel
theorem dX4_sound_82 : decode cX4_sound 82 = .ok (.istore 5, 2) := by decide +kernel
theorem dX4_sound_84 : decode cX4_sound 84 = .ok (.iload 5, 2) := by decide +kernel
theorem dX4_sound_86 : decode cX4_sound 86 = .ok (.ifCond .ge 7, 3) := by decide +kernel
theorem dX4_sound_89 : decode cX4_sound 89 = .ok (.iconst 1, 1) := by decide +kernel
theorem dX4_sound_90 : decode cX4_sound 90 = .ok (.goto 12, 3) := by decide +kernel
theorem dX4_sound_93 : decode cX4_sound 93 = .ok (.aload_n 0, 1) := by decide +kernel
theorem dX4_sound_94 : decode cX4_sound 94 = .ok (.getfield 54, 3) := by decide +kernel
theorem dX4_sound_97 : decode cX4_sound 97 = .ok (.iload 5, 2) := by decide +kernel
theorem dX4_sound_99 : decode cX4_sound 99 = .ok (.iaload, 1) := by decide +kernel
theorem dX4_sound_100 : decode cX4_sound 100 = .ok (.iconst 1, 1) := by decide +kernel
theorem dX4_sound_101 : decode cX4_sound 101 = .ok (.iadd, 1) := by decide +kernel
theorem dX4_sound_102 : decode cX4_sound 102 = .ok (.istore 6, 2) := by decide +kernel
theorem dX4_sound_104 : decode cX4_sound 104 = .ok (.aload_n 0, 1) := by decide +kernel
theorem dX4_sound_105 : decode cX4_sound 105 = .ok (.getfield 54, 3) := by decide +kernel
theorem dX4_sound_108 : decode cX4_sound 108 = .ok (.iload_n 3, 1) := by decide +kernel
theorem dX4_sound_109 : decode cX4_sound 109 = .ok (.iaload, 1) := by decide +kernel
theorem dX4_sound_110 : decode cX4_sound 110 = .ok (.iload 6, 2) := by decide +kernel
theorem dX4_sound_112 : decode cX4_sound 112 = .ok (.if_icmp .le 13, 3) := by decide +kernel
theorem dX4_sound_115 : decode cX4_sound 115 = .ok (.aload_n 0, 1) := by decide +kernel
theorem dX4_sound_116 : decode cX4_sound 116 = .ok (.getfield 54, 3) := by decide +kernel
theorem dX4_sound_119 : decode cX4_sound 119 = .ok (.iload_n 3, 1) := by decide +kernel
theorem dX4_sound_120 : decode cX4_sound 120 = .ok (.iload 6, 2) := by decide +kernel
theorem dX4_sound_122 : decode cX4_sound 122 = .ok (.iastore, 1) := by decide +kernel
theorem dX4_sound_123 : decode cX4_sound 123 = .ok (.iconst 1, 1) := by decide +kernel
theorem dX4_sound_124 : decode cX4_sound 124 = .ok (.istore_n 2, 1) := by decide +kernel
theorem dX4_sound_125 : decode cX4_sound 125 = .ok (.iinc 4 1, 3) := by decide +kernel
theorem dX4_sound_128 : decode cX4_sound 128 = .ok (.goto (-59), 3) := by decide +kernel
theorem dX4_sound_131 : decode cX4_sound 131 = .ok (.iinc 3 1, 3) := by decide +kernel
theorem dX4_sound_134 : decode cX4_sound 134 = .ok (.goto (-81), 3) := by decide +kernel
theorem dX4_sound_137 : decode cX4_sound 137 = .ok (.goto (-92), 3) := by decide +kernel
theorem dX4_sound_140 : decode cX4_sound 140 = .ok (.return_, 1) := by decide +kernel
set_option maxRecDepth 20000 in
theorem ggX4_label_X4_isLand : GoodIn wsX4_label wsX4_isLand := goodIn_r _ [7, 8, 9, 6, 10] (by decide +kernel) (by decide +kernel)
set_option maxRecDepth 20000 in
theorem gX4_label_X4_isLand : GoodIn wsX4_label (va_wsS RX4 84 yX4_isLand wsX4_isLand) := goodIn_app (goodIn_of _ (by decide +kernel)) ggX4_label_X4_isLand
set_option maxRecDepth 20000 in
theorem ggX4_label_X4_in : GoodIn wsX4_label wsX4_in := goodIn_r _ [10] (by decide +kernel) (by decide +kernel)
set_option maxRecDepth 20000 in
theorem gX4_label_X4_in : GoodIn wsX4_label (va_wsS RX4 72 yX4_in wsX4_in) := goodIn_app (goodIn_of _ (by decide +kernel)) ggX4_label_X4_in
set_option maxRecDepth 20000 in
theorem ggX4_label_X4_sizeOf : GoodIn wsX4_label wsX4_sizeOf := goodIn_r _ [14, 1, 2, 15, 32, 33, 34, 35, 36, 37, 38, 39, 40, 41, 42, 43, 44, 45, 46, 47, 48, 49, 50, 51, 52, 53, 54, 55, 56, 57] (by decide +kernel) (by decide +kernel)
set_option maxRecDepth 20000 in
theorem gX4_label_X4_sizeOf : GoodIn wsX4_label (wsV RX4 88 RX4 yX4_sizeOf wsX4_sizeOf) := goodIn_app (goodIn_of _ (by decide +kernel)) ggX4_label_X4_sizeOf
set_option maxRecDepth 20000 in
theorem ggX4_label_X4_sound : GoodIn wsX4_label wsX4_sound := goodIn_r _ [19, 1, 2, 3, 15, 20, 21, 22, 6, 23, 24, 25, 26, 27, 28, 29, 30, 31, 8, 9, 10, 32, 33, 34, 35, 36, 37, 38, 39, 40, 41, 42, 43, 44, 45, 46, 47, 48, 49, 50, 51, 52, 53, 54, 55, 56, 57] (by decide +kernel) (by decide +kernel)
set_option maxRecDepth 20000 in
theorem gX4_label_X4_sound : GoodIn wsX4_label (wsV RX4 140 RX4 yX4_sound wsX4_sound) := goodIn_app (goodIn_of _ (by decide +kernel)) ggX4_label_X4_sound
theorem dX4_label_0 : decode cX4_label 0 = .ok (.iload_n 1, 1) := by decide +kernel
theorem dX4_label_1 : decode cX4_label 1 = .ok (.invokestatic 84, 3) := by decide +kernel
theorem dX4_label_4 : decode cX4_label 4 = .ok (.ifCond .eq 12, 3) := by decide +kernel
theorem dX4_label_7 : decode cX4_label 7 = .ok (.iload_n 2, 1) := by decide +kernel
theorem dX4_label_8 : decode cX4_label 8 = .ok (.iconst 0, 1) := by decide +kernel
theorem dX4_label_9 : decode cX4_label 9 = .ok (.iconst 2, 1) := by decide +kernel
theorem dX4_label_10 : decode cX4_label 10 = .ok (.invokestatic 72, 3) := by decide +kernel
theorem dX4_label_13 : decode cX4_label 13 = .ok (.ifCond .ne 5, 3) := by decide +kernel
theorem dX4_label_16 : decode cX4_label 16 = .ok (.iconst (-1), 1) := by decide +kernel
theorem dX4_label_17 : decode cX4_label 17 = .ok (.ireturn, 1) := by decide +kernel
theorem dX4_label_18 : decode cX4_label 18 = .ok (.aload_n 0, 1) := by decide +kernel
theorem dX4_label_19 : decode cX4_label 19 = .ok (.iload_n 1, 1) := by decide +kernel
theorem dX4_label_20 : decode cX4_label 20 = .ok (.invokevirtual 88, 3) := by decide +kernel
theorem dX4_label_23 : decode cX4_label 23 = .ok (.ifCond .ne 6, 3) := by decide +kernel
theorem dX4_label_26 : decode cX4_label 26 = .ok (.bipush (-9), 2) := by decide +kernel
theorem dX4_label_28 : decode cX4_label 28 = .ok (.ireturn, 1) := by decide +kernel
theorem dX4_label_29 : decode cX4_label 29 = .ok (.aload_n 0, 1) := by decide +kernel
theorem dX4_label_30 : decode cX4_label 30 = .ok (.iload_n 1, 1) := by decide +kernel
theorem dX4_label_31 : decode cX4_label 31 = .ok (.invokevirtual 140, 3) := by decide +kernel
theorem dX4_label_34 : decode cX4_label 34 = .ok (.iconst 0, 1) := by decide +kernel
theorem dX4_label_35 : decode cX4_label 35 = .ok (.istore_n 3, 1) := by decide +kernel
theorem dX4_label_36 : decode cX4_label 36 = .ok (.iconst 1, 1) := by decide +kernel
theorem dX4_label_37 : decode cX4_label 37 = .ok (.istore 4, 2) := by decide +kernel
theorem dX4_label_39 : decode cX4_label 39 = .ok (.iload 4, 2) := by decide +kernel
theorem dX4_label_41 : decode cX4_label 41 = .ok (.aload_n 0, 1) := by decide +kernel
theorem dX4_label_42 : decode cX4_label 42 = .ok (.getfield 7, 3) := by decide +kernel
theorem dX4_label_45 : decode cX4_label 45 = .ok (.aload_n 0, 1) := by decide +kernel
theorem dX4_label_46 : decode cX4_label 46 = .ok (.getfield 13, 3) := by decide +kernel
theorem dX4_label_49 : decode cX4_label 49 = .ok (.imul, 1) := by decide +kernel
theorem dX4_label_50 : decode cX4_label 50 = .ok (.if_icmp .ge 32, 3) := by decide +kernel
theorem dX4_label_53 : decode cX4_label 53 = .ok (.aload_n 0, 1) := by decide +kernel
theorem dX4_label_54 : decode cX4_label 54 = .ok (.getfield 54, 3) := by decide +kernel
theorem dX4_label_57 : decode cX4_label 57 = .ok (.iload 4, 2) := by decide +kernel
theorem dX4_label_59 : decode cX4_label 59 = .ok (.iaload, 1) := by decide +kernel
theorem dX4_label_60 : decode cX4_label 60 = .ok (.aload_n 0, 1) := by decide +kernel
theorem dX4_label_61 : decode cX4_label 61 = .ok (.getfield 54, 3) := by decide +kernel
theorem dX4_label_64 : decode cX4_label 64 = .ok (.iload_n 3, 1) := by decide +kernel
theorem dX4_label_65 : decode cX4_label 65 = .ok (.iaload, 1) := by decide +kernel
theorem dX4_label_66 : decode cX4_label 66 = .ok (.if_icmp .le 8, 3) := by decide +kernel
theorem dX4_label_69 : decode cX4_label 69 = .ok (.iload 4, 2) := by decide +kernel
theorem dX4_label_71 : decode cX4_label 71 = .ok (.goto 4, 3) := by decide +kernel
theorem dX4_label_74 : decode cX4_label 74 = .ok (.iload_n 3, 1) := by decide +kernel
theorem dX4_label_75 : decode cX4_label 75 = .ok (.istore_n 3, 1) := by decide +kernel
theorem dX4_label_76 : decode cX4_label 76 = .ok (.iinc 4 1, 3) := by decide +kernel
theorem dX4_label_79 : decode cX4_label 79 = .ok (.goto (-40), 3) := by decide +kernel
theorem dX4_label_82 : decode cX4_label 82 = .ok (.iload_n 2, 1) := by decide +kernel
theorem dX4_label_83 : decode cX4_label 83 = .ok (.ifCond .ne 12, 3) := by decide +kernel
theorem dX4_label_86 : decode cX4_label 86 = .ok (.iload_n 3, 1) := by decide +kernel
theorem dX4_label_87 : decode cX4_label 87 = .ok (.aload_n 0, 1) := by decide +kernel
theorem dX4_label_88 : decode cX4_label 88 = .ok (.getfield 7, 3) := by decide +kernel
theorem dX4_label_91 : decode cX4_label 91 = .ok (.irem, 1) := by decide +kernel
theorem dX4_label_92 : decode cX4_label 92 = .ok (.goto 23, 3) := by decide +kernel
theorem dX4_label_95 : decode cX4_label 95 = .ok (.iload_n 2, 1) := by decide +kernel
theorem dX4_label_96 : decode cX4_label 96 = .ok (.iconst 1, 1) := by decide +kernel
theorem dX4_label_97 : decode cX4_label 97 = .ok (.if_icmp .ne 12, 3) := by decide +kernel
theorem dX4_label_100 : decode cX4_label 100 = .ok (.iload_n 3, 1) := by decide +kernel
theorem dX4_label_101 : decode cX4_label 101 = .ok (.aload_n 0, 1) := by decide +kernel
theorem dX4_label_102 : decode cX4_label 102 = .ok (.getfield 7, 3) := by decide +kernel
theorem dX4_label_105 : decode cX4_label 105 = .ok (.idiv, 1) := by decide +kernel
theorem dX4_label_106 : decode cX4_label 106 = .ok (.goto 9, 3) := by decide +kernel
theorem dX4_label_109 : decode cX4_label 109 = .ok (.aload_n 0, 1) := by decide +kernel
theorem dX4_label_110 : decode cX4_label 110 = .ok (.getfield 54, 3) := by decide +kernel
theorem dX4_label_113 : decode cX4_label 113 = .ok (.iload_n 3, 1) := by decide +kernel
theorem dX4_label_114 : decode cX4_label 114 = .ok (.iaload, 1) := by decide +kernel
theorem dX4_label_115 : decode cX4_label 115 = .ok (.ireturn, 1) := by decide +kernel
set_option maxRecDepth 20000 in
theorem ggX4_weigh_X4_sizeOf : GoodIn wsX4_weigh wsX4_sizeOf := goodIn_r _ [9, 10, 11, 12, 13, 14, 15, 16, 17, 18, 19, 20, 21, 22, 23, 24, 25, 26, 27, 28, 29, 30, 31, 32, 33, 34, 35, 36, 37, 38] (by decide +kernel) (by decide +kernel)
set_option maxRecDepth 20000 in
theorem gX4_weigh_X4_sizeOf : GoodIn wsX4_weigh (wsV RX4 88 RX4 yX4_sizeOf wsX4_sizeOf) := goodIn_app (goodIn_of _ (by decide +kernel)) ggX4_weigh_X4_sizeOf
theorem dX4_weigh_0 : decode cX4_weigh 0 = .ok (.aload_n 0, 1) := by decide +kernel
theorem dX4_weigh_1 : decode cX4_weigh 1 = .ok (.iconst 0, 1) := by decide +kernel
theorem dX4_weigh_2 : decode cX4_weigh 2 = .ok (.putfield 144, 3) := by decide +kernel
theorem dX4_weigh_5 : decode cX4_weigh 5 = .ok (.aload_n 0, 1) := by decide +kernel
theorem dX4_weigh_6 : decode cX4_weigh 6 = .ok (.iconst 0, 1) := by decide +kernel
theorem dX4_weigh_7 : decode cX4_weigh 7 = .ok (.putfield 147, 3) := by decide +kernel
theorem dX4_weigh_10 : decode cX4_weigh 10 = .ok (.iconst 0, 1) := by decide +kernel
theorem dX4_weigh_11 : decode cX4_weigh 11 = .ok (.istore_n 1, 1) := by decide +kernel
theorem dX4_weigh_12 : decode cX4_weigh 12 = .ok (.iload_n 1, 1) := by decide +kernel
theorem dX4_weigh_13 : decode cX4_weigh 13 = .ok (.bipush 6, 2) := by decide +kernel
theorem dX4_weigh_15 : decode cX4_weigh 15 = .ok (.if_icmp .ge 59, 3) := by decide +kernel
theorem dX4_weigh_18 : decode cX4_weigh 18 = .ok (.aload_n 0, 1) := by decide +kernel
theorem dX4_weigh_19 : decode cX4_weigh 19 = .ok (.iload_n 1, 1) := by decide +kernel
theorem dX4_weigh_20 : decode cX4_weigh 20 = .ok (.invokevirtual 88, 3) := by decide +kernel
theorem dX4_weigh_23 : decode cX4_weigh 23 = .ok (.istore_n 2, 1) := by decide +kernel
theorem dX4_weigh_24 : decode cX4_weigh 24 = .ok (.iload_n 2, 1) := by decide +kernel
theorem dX4_weigh_25 : decode cX4_weigh 25 = .ok (.ifCond .le 43, 3) := by decide +kernel
theorem dX4_weigh_28 : decode cX4_weigh 28 = .ok (.aload_n 0, 1) := by decide +kernel
theorem dX4_weigh_29 : decode cX4_weigh 29 = .ok (.getfield 57, 3) := by decide +kernel
theorem dX4_weigh_32 : decode cX4_weigh 32 = .ok (.aload_n 0, 1) := by decide +kernel
theorem dX4_weigh_33 : decode cX4_weigh 33 = .ok (.getfield 144, 3) := by decide +kernel
theorem dX4_weigh_36 : decode cX4_weigh 36 = .ok (.iload_n 2, 1) := by decide +kernel
theorem dX4_weigh_37 : decode cX4_weigh 37 = .ok (.iastore, 1) := by decide +kernel
theorem dX4_weigh_38 : decode cX4_weigh 38 = .ok (.aload_n 0, 1) := by decide +kernel
theorem dX4_weigh_39 : decode cX4_weigh 39 = .ok (.getfield 60, 3) := by decide +kernel
theorem dX4_weigh_42 : decode cX4_weigh 42 = .ok (.aload_n 0, 1) := by decide +kernel
theorem dX4_weigh_43 : decode cX4_weigh 43 = .ok (.getfield 144, 3) := by decide +kernel
theorem dX4_weigh_46 : decode cX4_weigh 46 = .ok (.iload_n 1, 1) := by decide +kernel
theorem dX4_weigh_47 : decode cX4_weigh 47 = .ok (.iastore, 1) := by decide +kernel
theorem dX4_weigh_48 : decode cX4_weigh 48 = .ok (.aload_n 0, 1) := by decide +kernel
theorem dX4_weigh_49 : decode cX4_weigh 49 = .ok (.dup, 1) := by decide +kernel
theorem dX4_weigh_50 : decode cX4_weigh 50 = .ok (.getfield 144, 3) := by decide +kernel
theorem dX4_weigh_53 : decode cX4_weigh 53 = .ok (.iconst 1, 1) := by decide +kernel
theorem dX4_weigh_54 : decode cX4_weigh 54 = .ok (.iadd, 1) := by decide +kernel
theorem dX4_weigh_55 : decode cX4_weigh 55 = .ok (.putfield 144, 3) := by decide +kernel
theorem dX4_weigh_58 : decode cX4_weigh 58 = .ok (.aload_n 0, 1) := by decide +kernel
theorem dX4_weigh_59 : decode cX4_weigh 59 = .ok (.dup, 1) := by decide +kernel
theorem dX4_weigh_60 : decode cX4_weigh 60 = .ok (.getfield 147, 3) := by decide +kernel
theorem dX4_weigh_63 : decode cX4_weigh 63 = .ok (.iload_n 2, 1) := by decide +kernel
theorem dX4_weigh_64 : decode cX4_weigh 64 = .ok (.iadd, 1) := by decide +kernel
theorem dX4_weigh_65 : decode cX4_weigh 65 = .ok (.putfield 147, 3) := by decide +kernel
theorem dX4_weigh_68 : decode cX4_weigh 68 = .ok (.iinc 1 1, 3) := by decide +kernel
theorem dX4_weigh_71 : decode cX4_weigh 71 = .ok (.goto (-59), 3) := by decide +kernel
theorem dX4_weigh_74 : decode cX4_weigh 74 = .ok (.return_, 1) := by decide +kernel
theorem dX4_lay_0 : decode cX4_lay 0 = .ok (.iload_n 2, 1) := by decide +kernel
theorem dX4_lay_1 : decode cX4_lay 1 = .ok (.istore_n 3, 1) := by decide +kernel
theorem dX4_lay_2 : decode cX4_lay 2 = .ok (.iload_n 3, 1) := by decide +kernel
theorem dX4_lay_3 : decode cX4_lay 3 = .ok (.ifCond .le 19, 3) := by decide +kernel
theorem dX4_lay_6 : decode cX4_lay 6 = .ok (.iload_n 1, 1) := by decide +kernel
theorem dX4_lay_7 : decode cX4_lay 7 = .ok (.iload_n 3, 1) := by decide +kernel
theorem dX4_lay_8 : decode cX4_lay 8 = .ok (.iconst 1, 1) := by decide +kernel
theorem dX4_lay_9 : decode cX4_lay 9 = .ok (.isub, 1) := by decide +kernel
theorem dX4_lay_10 : decode cX4_lay 10 = .ok (.ishr, 1) := by decide +kernel
theorem dX4_lay_11 : decode cX4_lay 11 = .ok (.iconst 1, 1) := by decide +kernel
theorem dX4_lay_12 : decode cX4_lay 12 = .ok (.iand, 1) := by decide +kernel
theorem dX4_lay_13 : decode cX4_lay 13 = .ok (.ifCond .ne 9, 3) := by decide +kernel
theorem dX4_lay_16 : decode cX4_lay 16 = .ok (.iinc 3 (-1), 3) := by decide +kernel
theorem dX4_lay_19 : decode cX4_lay 19 = .ok (.goto (-17), 3) := by decide +kernel
theorem dX4_lay_22 : decode cX4_lay 22 = .ok (.aload_n 0, 1) := by decide +kernel
theorem dX4_lay_23 : decode cX4_lay 23 = .ok (.iconst 0, 1) := by decide +kernel
theorem dX4_lay_24 : decode cX4_lay 24 = .ok (.putfield 150, 3) := by decide +kernel
theorem dX4_lay_27 : decode cX4_lay 27 = .ok (.aload_n 0, 1) := by decide +kernel
theorem dX4_lay_28 : decode cX4_lay 28 = .ok (.iconst 0, 1) := by decide +kernel
theorem dX4_lay_29 : decode cX4_lay 29 = .ok (.putfield 153, 3) := by decide +kernel
theorem dX4_lay_32 : decode cX4_lay 32 = .ok (.aload_n 0, 1) := by decide +kernel
theorem dX4_lay_33 : decode cX4_lay 33 = .ok (.iconst 0, 1) := by decide +kernel
theorem dX4_lay_34 : decode cX4_lay 34 = .ok (.putfield 156, 3) := by decide +kernel
theorem dX4_lay_37 : decode cX4_lay 37 = .ok (.iconst 0, 1) := by decide +kernel
theorem dX4_lay_38 : decode cX4_lay 38 = .ok (.istore 4, 2) := by decide +kernel
theorem dX4_lay_40 : decode cX4_lay 40 = .ok (.iload 4, 2) := by decide +kernel
theorem dX4_lay_42 : decode cX4_lay 42 = .ok (.iload_n 3, 1) := by decide +kernel
theorem dX4_lay_43 : decode cX4_lay 43 = .ok (.if_icmp .ge 25, 3) := by decide +kernel
theorem dX4_lay_46 : decode cX4_lay 46 = .ok (.aload_n 0, 1) := by decide +kernel
theorem dX4_lay_47 : decode cX4_lay 47 = .ok (.dup, 1) := by decide +kernel
theorem dX4_lay_48 : decode cX4_lay 48 = .ok (.getfield 156, 3) := by decide +kernel
theorem dX4_lay_51 : decode cX4_lay 51 = .ok (.aload_n 0, 1) := by decide +kernel
theorem dX4_lay_52 : decode cX4_lay 52 = .ok (.getfield 57, 3) := by decide +kernel
theorem dX4_lay_55 : decode cX4_lay 55 = .ok (.iload 4, 2) := by decide +kernel
theorem dX4_lay_57 : decode cX4_lay 57 = .ok (.iaload, 1) := by decide +kernel
theorem dX4_lay_58 : decode cX4_lay 58 = .ok (.iadd, 1) := by decide +kernel
theorem dX4_lay_59 : decode cX4_lay 59 = .ok (.putfield 156, 3) := by decide +kernel
theorem dX4_lay_62 : decode cX4_lay 62 = .ok (.iinc 4 1, 3) := by decide +kernel
theorem dX4_lay_65 : decode cX4_lay 65 = .ok (.goto (-25), 3) := by decide +kernel
theorem dX4_lay_68 : decode cX4_lay 68 = .ok (.iconst 1, 1) := by decide +kernel
theorem dX4_lay_69 : decode cX4_lay 69 = .ok (.istore 4, 2) := by decide +kernel
theorem dX4_lay_71 : decode cX4_lay 71 = .ok (.iload_n 3, 1) := by decide +kernel
theorem dX4_lay_72 : decode cX4_lay 72 = .ok (.istore 5, 2) := by decide +kernel
theorem dX4_lay_74 : decode cX4_lay 74 = .ok (.iload 5, 2) := by decide +kernel
theorem dX4_lay_76 : decode cX4_lay 76 = .ok (.aload_n 0, 1) := by decide +kernel
theorem dX4_lay_77 : decode cX4_lay 77 = .ok (.getfield 144, 3) := by decide +kernel
theorem dX4_lay_80 : decode cX4_lay 80 = .ok (.if_icmp .ge 72, 3) := by decide +kernel
theorem dX4_lay_83 : decode cX4_lay 83 = .ok (.iload 4, 2) := by decide +kernel
theorem dX4_lay_85 : decode cX4_lay 85 = .ok (.ifCond .eq 67, 3) := by decide +kernel
theorem dX4_lay_88 : decode cX4_lay 88 = .ok (.aload_n 0, 1) := by decide +kernel
theorem dX4_lay_89 : decode cX4_lay 89 = .ok (.dup, 1) := by decide +kernel
theorem dX4_lay_90 : decode cX4_lay 90 = .ok (.getfield 153, 3) := by decide +kernel
theorem dX4_lay_93 : decode cX4_lay 93 = .ok (.aload_n 0, 1) := by decide +kernel
theorem dX4_lay_94 : decode cX4_lay 94 = .ok (.getfield 57, 3) := by decide +kernel
theorem dX4_lay_97 : decode cX4_lay 97 = .ok (.iload 5, 2) := by decide +kernel
theorem dX4_lay_99 : decode cX4_lay 99 = .ok (.iaload, 1) := by decide +kernel
theorem dX4_lay_100 : decode cX4_lay 100 = .ok (.iadd, 1) := by decide +kernel
theorem dX4_lay_101 : decode cX4_lay 101 = .ok (.putfield 153, 3) := by decide +kernel
theorem dX4_lay_104 : decode cX4_lay 104 = .ok (.aload_n 0, 1) := by decide +kernel
theorem dX4_lay_105 : decode cX4_lay 105 = .ok (.dup, 1) := by decide +kernel
theorem dX4_lay_106 : decode cX4_lay 106 = .ok (.getfield 150, 3) := by decide +kernel
theorem dX4_lay_109 : decode cX4_lay 109 = .ok (.iload 5, 2) := by decide +kernel
theorem dX4_lay_111 : decode cX4_lay 111 = .ok (.iload_n 2, 1) := by decide +kernel
theorem dX4_lay_112 : decode cX4_lay 112 = .ok (.if_icmp .ge 13, 3) := by decide +kernel
theorem dX4_lay_115 : decode cX4_lay 115 = .ok (.aload_n 0, 1) := by decide +kernel
theorem dX4_lay_116 : decode cX4_lay 116 = .ok (.getfield 57, 3) := by decide +kernel
theorem dX4_lay_119 : decode cX4_lay 119 = .ok (.iload 5, 2) := by decide +kernel
theorem dX4_lay_121 : decode cX4_lay 121 = .ok (.iaload, 1) := by decide +kernel
theorem dX4_lay_122 : decode cX4_lay 122 = .ok (.goto 4, 3) := by decide +kernel
theorem dX4_lay_125 : decode cX4_lay 125 = .ok (.iconst 0, 1) := by decide +kernel
theorem dX4_lay_126 : decode cX4_lay 126 = .ok (.iadd, 1) := by decide +kernel
theorem dX4_lay_127 : decode cX4_lay 127 = .ok (.putfield 150, 3) := by decide +kernel
theorem dX4_lay_130 : decode cX4_lay 130 = .ok (.iload_n 1, 1) := by decide +kernel
theorem dX4_lay_131 : decode cX4_lay 131 = .ok (.iload 5, 2) := by decide +kernel
theorem dX4_lay_133 : decode cX4_lay 133 = .ok (.ishr, 1) := by decide +kernel
theorem dX4_lay_134 : decode cX4_lay 134 = .ok (.iconst 1, 1) := by decide +kernel
theorem dX4_lay_135 : decode cX4_lay 135 = .ok (.iand, 1) := by decide +kernel
theorem dX4_lay_136 : decode cX4_lay 136 = .ok (.ifCond .ne 7, 3) := by decide +kernel
theorem dX4_lay_139 : decode cX4_lay 139 = .ok (.iconst 1, 1) := by decide +kernel
theorem dX4_lay_140 : decode cX4_lay 140 = .ok (.goto 4, 3) := by decide +kernel
theorem dX4_lay_143 : decode cX4_lay 143 = .ok (.iconst 0, 1) := by decide +kernel
theorem dX4_lay_144 : decode cX4_lay 144 = .ok (.istore 4, 2) := by decide +kernel
theorem dX4_lay_146 : decode cX4_lay 146 = .ok (.iinc 5 1, 3) := by decide +kernel
theorem dX4_lay_149 : decode cX4_lay 149 = .ok (.goto (-75), 3) := by decide +kernel
theorem dX4_lay_152 : decode cX4_lay 152 = .ok (.return_, 1) := by decide +kernel
set_option maxRecDepth 20000 in
theorem ggX4_boxOf_X4_isLand : GoodIn wsX4_boxOf wsX4_isLand := goodIn_r _ [6, 7, 8, 5, 9] (by decide +kernel) (by decide +kernel)
set_option maxRecDepth 20000 in
theorem gX4_boxOf_X4_isLand : GoodIn wsX4_boxOf (va_wsS RX4 84 yX4_isLand wsX4_isLand) := goodIn_app (goodIn_of _ (by decide +kernel)) ggX4_boxOf_X4_isLand
set_option maxRecDepth 20000 in
theorem ggX4_boxOf_X4_sizeOf : GoodIn wsX4_boxOf wsX4_sizeOf := goodIn_r _ [13, 14, 15, 16, 30, 31, 32, 33, 34, 35, 36, 37, 38, 39, 40, 41, 42, 43, 44, 45, 46, 47, 48, 49, 50, 51, 52, 53, 54, 55] (by decide +kernel) (by decide +kernel)
set_option maxRecDepth 20000 in
theorem gX4_boxOf_X4_sizeOf : GoodIn wsX4_boxOf (wsV RX4 88 RX4 yX4_sizeOf wsX4_sizeOf) := goodIn_app (goodIn_of _ (by decide +kernel)) ggX4_boxOf_X4_sizeOf
set_option maxRecDepth 20000 in
theorem ggX4_boxOf_X4_weigh : GoodIn wsX4_boxOf wsX4_weigh := goodIn_r _ [20, 1, 21, 22, 2, 10, 11, 12, 5, 13, 14, 15, 16, 30, 31, 32, 33, 34, 35, 36, 37, 38, 39, 40, 41, 42, 43, 44, 45, 46, 47, 48, 49, 50, 51, 52, 53, 54, 55] (by decide +kernel) (by decide +kernel)
set_option maxRecDepth 20000 in
theorem gX4_boxOf_X4_weigh : GoodIn wsX4_boxOf (wsV RX4 159 RX4 yX4_weigh wsX4_weigh) := goodIn_app (goodIn_of _ (by decide +kernel)) ggX4_boxOf_X4_weigh
set_option maxRecDepth 20000 in
theorem ggX4_boxOf_X4_lay : GoodIn wsX4_boxOf wsX4_lay := goodIn_r _ [26, 27, 28, 29, 22, 1, 30, 31, 32, 33, 34, 35, 36, 37, 38, 39, 40, 41, 42, 43, 44, 45, 46, 47, 48, 49, 50, 51, 52, 53, 54, 55] (by decide +kernel) (by decide +kernel)
set_option maxRecDepth 20000 in
theorem gX4_boxOf_X4_lay : GoodIn wsX4_boxOf (wsV RX4 162 RX4 yX4_lay wsX4_lay) := goodIn_app (goodIn_of _ (by decide +kernel)) ggX4_boxOf_X4_lay
theorem dX4_boxOf_0 : decode cX4_boxOf 0 = .ok (.iload_n 2, 1) := by decide +kernel
theorem dX4_boxOf_1 : decode cX4_boxOf 1 = .ok (.invokestatic 84, 3) := by decide +kernel
theorem dX4_boxOf_4 : decode cX4_boxOf 4 = .ok (.ifCond .eq 15, 3) := by decide +kernel
theorem dX4_boxOf_7 : decode cX4_boxOf 7 = .ok (.aload_n 0, 1) := by decide +kernel
theorem dX4_boxOf_8 : decode cX4_boxOf 8 = .ok (.iload_n 2, 1) := by decide +kernel
theorem dX4_boxOf_9 : decode cX4_boxOf 9 = .ok (.invokevirtual 88, 3) := by decide +kernel
theorem dX4_boxOf_12 : decode cX4_boxOf 12 = .ok (.ifCond .eq 7, 3) := by decide +kernel
theorem dX4_boxOf_15 : decode cX4_boxOf 15 = .ok (.iload_n 1, 1) := by decide +kernel
theorem dX4_boxOf_16 : decode cX4_boxOf 16 = .ok (.ifCond .ge 5, 3) := by decide +kernel
theorem dX4_boxOf_19 : decode cX4_boxOf 19 = .ok (.iconst (-1), 1) := by decide +kernel
theorem dX4_boxOf_20 : decode cX4_boxOf 20 = .ok (.ireturn, 1) := by decide +kernel
theorem dX4_boxOf_21 : decode cX4_boxOf 21 = .ok (.aload_n 0, 1) := by decide +kernel
theorem dX4_boxOf_22 : decode cX4_boxOf 22 = .ok (.invokevirtual 159, 3) := by decide +kernel
theorem dX4_boxOf_25 : decode cX4_boxOf 25 = .ok (.iload_n 1, 1) := by decide +kernel
theorem dX4_boxOf_26 : decode cX4_boxOf 26 = .ok (.aload_n 0, 1) := by decide +kernel
theorem dX4_boxOf_27 : decode cX4_boxOf 27 = .ok (.getfield 144, 3) := by decide +kernel
theorem dX4_boxOf_30 : decode cX4_boxOf 30 = .ok (.iconst 1, 1) := by decide +kernel
theorem dX4_boxOf_31 : decode cX4_boxOf 31 = .ok (.isub, 1) := by decide +kernel
theorem dX4_boxOf_32 : decode cX4_boxOf 32 = .ok (.ishr, 1) := by decide +kernel
theorem dX4_boxOf_33 : decode cX4_boxOf 33 = .ok (.ifCond .eq 5, 3) := by decide +kernel
theorem dX4_boxOf_36 : decode cX4_boxOf 36 = .ok (.iconst (-1), 1) := by decide +kernel
theorem dX4_boxOf_37 : decode cX4_boxOf 37 = .ok (.ireturn, 1) := by decide +kernel
theorem dX4_boxOf_38 : decode cX4_boxOf 38 = .ok (.iconst 0, 1) := by decide +kernel
theorem dX4_boxOf_39 : decode cX4_boxOf 39 = .ok (.istore_n 3, 1) := by decide +kernel
theorem dX4_boxOf_40 : decode cX4_boxOf 40 = .ok (.aload_n 0, 1) := by decide +kernel
theorem dX4_boxOf_41 : decode cX4_boxOf 41 = .ok (.getfield 60, 3) := by decide +kernel
theorem dX4_boxOf_44 : decode cX4_boxOf 44 = .ok (.iload_n 3, 1) := by decide +kernel
theorem dX4_boxOf_45 : decode cX4_boxOf 45 = .ok (.iaload, 1) := by decide +kernel
theorem dX4_boxOf_46 : decode cX4_boxOf 46 = .ok (.iload_n 2, 1) := by decide +kernel
theorem dX4_boxOf_47 : decode cX4_boxOf 47 = .ok (.if_icmp .eq 9, 3) := by decide +kernel
theorem dX4_boxOf_50 : decode cX4_boxOf 50 = .ok (.iinc 3 1, 3) := by decide +kernel
theorem dX4_boxOf_53 : decode cX4_boxOf 53 = .ok (.goto (-13), 3) := by decide +kernel
theorem dX4_boxOf_56 : decode cX4_boxOf 56 = .ok (.aload_n 0, 1) := by decide +kernel
theorem dX4_boxOf_57 : decode cX4_boxOf 57 = .ok (.iload_n 1, 1) := by decide +kernel
theorem dX4_boxOf_58 : decode cX4_boxOf 58 = .ok (.iload_n 3, 1) := by decide +kernel
theorem dX4_boxOf_59 : decode cX4_boxOf 59 = .ok (.invokevirtual 162, 3) := by decide +kernel
theorem dX4_boxOf_62 : decode cX4_boxOf 62 = .ok (.iload_n 3, 1) := by decide +kernel
theorem dX4_boxOf_63 : decode cX4_boxOf 63 = .ok (.ireturn, 1) := by decide +kernel
theorem dX4_common_0 : decode cX4_common 0 = .ok (.iload_n 0, 1) := by decide +kernel
theorem dX4_common_1 : decode cX4_common 1 = .ok (.istore_n 2, 1) := by decide +kernel
theorem dX4_common_2 : decode cX4_common 2 = .ok (.iload_n 1, 1) := by decide +kernel
theorem dX4_common_3 : decode cX4_common 3 = .ok (.istore_n 3, 1) := by decide +kernel
theorem dX4_common_4 : decode cX4_common 4 = .ok (.iload_n 3, 1) := by decide +kernel
theorem dX4_common_5 : decode cX4_common 5 = .ok (.ifCond .eq 16, 3) := by decide +kernel
theorem dX4_common_8 : decode cX4_common 8 = .ok (.iload_n 2, 1) := by decide +kernel
theorem dX4_common_9 : decode cX4_common 9 = .ok (.iload_n 3, 1) := by decide +kernel
theorem dX4_common_10 : decode cX4_common 10 = .ok (.irem, 1) := by decide +kernel
theorem dX4_common_11 : decode cX4_common 11 = .ok (.istore 4, 2) := by decide +kernel
theorem dX4_common_13 : decode cX4_common 13 = .ok (.iload_n 3, 1) := by decide +kernel
theorem dX4_common_14 : decode cX4_common 14 = .ok (.istore_n 2, 1) := by decide +kernel
theorem dX4_common_15 : decode cX4_common 15 = .ok (.iload 4, 2) := by decide +kernel
theorem dX4_common_17 : decode cX4_common 17 = .ok (.istore_n 3, 1) := by decide +kernel
theorem dX4_common_18 : decode cX4_common 18 = .ok (.goto (-14), 3) := by decide +kernel
theorem dX4_common_21 : decode cX4_common 21 = .ok (.iload_n 2, 1) := by decide +kernel
theorem dX4_common_22 : decode cX4_common 22 = .ok (.ireturn, 1) := by decide +kernel
set_option maxRecDepth 20000 in
theorem ggX4_longUp_X4_common : GoodIn wsX4_longUp wsX4_common := goodIn_r _ [7] (by decide +kernel) (by decide +kernel)
set_option maxRecDepth 20000 in
theorem gX4_longUp_X4_common : GoodIn wsX4_longUp (va_wsS RX4 165 yX4_common wsX4_common) := goodIn_app (goodIn_of _ (by decide +kernel)) ggX4_longUp_X4_common
theorem dX4_longUp_0 : decode cX4_longUp 0 = .ok (.aload_n 0, 1) := by decide +kernel
theorem dX4_longUp_1 : decode cX4_longUp 1 = .ok (.getfield 57, 3) := by decide +kernel
theorem dX4_longUp_4 : decode cX4_longUp 4 = .ok (.iload_n 1, 1) := by decide +kernel
theorem dX4_longUp_5 : decode cX4_longUp 5 = .ok (.iaload, 1) := by decide +kernel
theorem dX4_longUp_6 : decode cX4_longUp 6 = .ok (.aload_n 0, 1) := by decide +kernel
theorem dX4_longUp_7 : decode cX4_longUp 7 = .ok (.getfield 147, 3) := by decide +kernel
theorem dX4_longUp_10 : decode cX4_longUp 10 = .ok (.imul, 1) := by decide +kernel
theorem dX4_longUp_11 : decode cX4_longUp 11 = .ok (.istore_n 2, 1) := by decide +kernel
theorem dX4_longUp_12 : decode cX4_longUp 12 = .ok (.aload_n 0, 1) := by decide +kernel
theorem dX4_longUp_13 : decode cX4_longUp 13 = .ok (.getfield 153, 3) := by decide +kernel
theorem dX4_longUp_16 : decode cX4_longUp 16 = .ok (.aload_n 0, 1) := by decide +kernel
theorem dX4_longUp_17 : decode cX4_longUp 17 = .ok (.getfield 153, 3) := by decide +kernel
theorem dX4_longUp_20 : decode cX4_longUp 20 = .ok (.imul, 1) := by decide +kernel
theorem dX4_longUp_21 : decode cX4_longUp 21 = .ok (.istore_n 3, 1) := by decide +kernel
theorem dX4_longUp_22 : decode cX4_longUp 22 = .ok (.iload_n 2, 1) := by decide +kernel
theorem dX4_longUp_23 : decode cX4_longUp 23 = .ok (.iload_n 3, 1) := by decide +kernel
theorem dX4_longUp_24 : decode cX4_longUp 24 = .ok (.if_icmp .le 7, 3) := by decide +kernel
theorem dX4_longUp_27 : decode cX4_longUp 27 = .ok (.iload_n 2, 1) := by decide +kernel
theorem dX4_longUp_28 : decode cX4_longUp 28 = .ok (.goto 4, 3) := by decide +kernel
theorem dX4_longUp_31 : decode cX4_longUp 31 = .ok (.iload_n 3, 1) := by decide +kernel
theorem dX4_longUp_32 : decode cX4_longUp 32 = .ok (.iload_n 2, 1) := by decide +kernel
theorem dX4_longUp_33 : decode cX4_longUp 33 = .ok (.iload_n 3, 1) := by decide +kernel
theorem dX4_longUp_34 : decode cX4_longUp 34 = .ok (.invokestatic 165, 3) := by decide +kernel
theorem dX4_longUp_37 : decode cX4_longUp 37 = .ok (.idiv, 1) := by decide +kernel
theorem dX4_longUp_38 : decode cX4_longUp 38 = .ok (.ireturn, 1) := by decide +kernel
set_option maxRecDepth 20000 in
theorem ggX4_longDown_X4_common : GoodIn wsX4_longDown wsX4_common := goodIn_r _ [7] (by decide +kernel) (by decide +kernel)
set_option maxRecDepth 20000 in
theorem gX4_longDown_X4_common : GoodIn wsX4_longDown (va_wsS RX4 165 yX4_common wsX4_common) := goodIn_app (goodIn_of _ (by decide +kernel)) ggX4_longDown_X4_common
theorem dX4_longDown_0 : decode cX4_longDown 0 = .ok (.aload_n 0, 1) := by decide +kernel
theorem dX4_longDown_1 : decode cX4_longDown 1 = .ok (.getfield 57, 3) := by decide +kernel
theorem dX4_longDown_4 : decode cX4_longDown 4 = .ok (.iload_n 1, 1) := by decide +kernel
theorem dX4_longDown_5 : decode cX4_longDown 5 = .ok (.iaload, 1) := by decide +kernel
theorem dX4_longDown_6 : decode cX4_longDown 6 = .ok (.aload_n 0, 1) := by decide +kernel
theorem dX4_longDown_7 : decode cX4_longDown 7 = .ok (.getfield 147, 3) := by decide +kernel
theorem dX4_longDown_10 : decode cX4_longDown 10 = .ok (.imul, 1) := by decide +kernel
theorem dX4_longDown_11 : decode cX4_longDown 11 = .ok (.istore_n 2, 1) := by decide +kernel
theorem dX4_longDown_12 : decode cX4_longDown 12 = .ok (.aload_n 0, 1) := by decide +kernel
theorem dX4_longDown_13 : decode cX4_longDown 13 = .ok (.getfield 153, 3) := by decide +kernel
theorem dX4_longDown_16 : decode cX4_longDown 16 = .ok (.aload_n 0, 1) := by decide +kernel
theorem dX4_longDown_17 : decode cX4_longDown 17 = .ok (.getfield 153, 3) := by decide +kernel
theorem dX4_longDown_20 : decode cX4_longDown 20 = .ok (.imul, 1) := by decide +kernel
theorem dX4_longDown_21 : decode cX4_longDown 21 = .ok (.istore_n 3, 1) := by decide +kernel
theorem dX4_longDown_22 : decode cX4_longDown 22 = .ok (.iload_n 2, 1) := by decide +kernel
theorem dX4_longDown_23 : decode cX4_longDown 23 = .ok (.iload_n 3, 1) := by decide +kernel
theorem dX4_longDown_24 : decode cX4_longDown 24 = .ok (.if_icmp .le 7, 3) := by decide +kernel
theorem dX4_longDown_27 : decode cX4_longDown 27 = .ok (.iload_n 3, 1) := by decide +kernel
theorem dX4_longDown_28 : decode cX4_longDown 28 = .ok (.goto 4, 3) := by decide +kernel
theorem dX4_longDown_31 : decode cX4_longDown 31 = .ok (.iload_n 2, 1) := by decide +kernel
theorem dX4_longDown_32 : decode cX4_longDown 32 = .ok (.iload_n 2, 1) := by decide +kernel
theorem dX4_longDown_33 : decode cX4_longDown 33 = .ok (.iload_n 3, 1) := by decide +kernel
theorem dX4_longDown_34 : decode cX4_longDown 34 = .ok (.invokestatic 165, 3) := by decide +kernel
theorem dX4_longDown_37 : decode cX4_longDown 37 = .ok (.idiv, 1) := by decide +kernel
theorem dX4_longDown_38 : decode cX4_longDown 38 = .ok (.ireturn, 1) := by decide +kernel
set_option maxRecDepth 20000 in
theorem ggX4_longer_X4_in : GoodIn wsX4_longer wsX4_in := goodIn_r _ [4] (by decide +kernel) (by decide +kernel)
set_option maxRecDepth 20000 in
theorem gX4_longer_X4_in : GoodIn wsX4_longer (va_wsS RX4 72 yX4_in wsX4_in) := goodIn_app (goodIn_of _ (by decide +kernel)) ggX4_longer_X4_in
set_option maxRecDepth 20000 in
theorem ggX4_longer_X4_boxOf : GoodIn wsX4_longer wsX4_boxOf := goodIn_r _ [8, 9, 10, 11, 12, 3, 13, 1, 2, 4, 14, 15, 16, 17, 18, 19, 20, 21, 22, 23, 24, 25, 26, 27, 28, 29, 30, 31, 32, 33, 45, 46, 47, 48, 49, 50, 51, 52, 53, 54, 55, 56, 57, 58, 59, 60, 61, 62, 63, 64, 65, 66, 67, 68, 69, 70] (by decide +kernel) (by decide +kernel)
set_option maxRecDepth 20000 in
theorem gX4_longer_X4_boxOf : GoodIn wsX4_longer (wsV RX4 168 RX4 yX4_boxOf wsX4_boxOf) := goodIn_app (goodIn_of _ (by decide +kernel)) ggX4_longer_X4_boxOf
set_option maxRecDepth 20000 in
theorem ggX4_longer_X4_longUp : GoodIn wsX4_longer wsX4_longUp := goodIn_r _ [37, 26, 25, 32, 38, 39, 3, 40, 45, 46, 47, 48, 49, 50, 51, 52, 53, 54, 55, 56, 57, 58, 59, 60, 61, 62, 63, 64, 65, 66, 67, 68, 69, 70] (by decide +kernel) (by decide +kernel)
set_option maxRecDepth 20000 in
theorem gX4_longer_X4_longUp : GoodIn wsX4_longer (wsV RX4 171 RX4 yX4_longUp wsX4_longUp) := goodIn_app (goodIn_of _ (by decide +kernel)) ggX4_longer_X4_longUp
set_option maxRecDepth 20000 in
theorem ggX4_longer_X4_longDown : GoodIn wsX4_longer wsX4_longDown := goodIn_r _ [44, 26, 25, 32, 38, 39, 3, 40, 45, 46, 47, 48, 49, 50, 51, 52, 53, 54, 55, 56, 57, 58, 59, 60, 61, 62, 63, 64, 65, 66, 67, 68, 69, 70] (by decide +kernel) (by decide +kernel)
set_option maxRecDepth 20000 in
theorem gX4_longer_X4_longDown : GoodIn wsX4_longer (wsV RX4 174 RX4 yX4_longDown wsX4_longDown) := goodIn_app (goodIn_of _ (by decide +kernel)) ggX4_longer_X4_longDown
theorem dX4_longer_0 : decode cX4_longer 0 = .ok (.iload_n 3, 1) := by decide +kernel
theorem dX4_longer_1 : decode cX4_longer 1 = .ok (.iconst 0, 1) := by decide +kernel
theorem dX4_longer_2 : decode cX4_longer 2 = .ok (.iconst 1, 1) := by decide +kernel
theorem dX4_longer_3 : decode cX4_longer 3 = .ok (.invokestatic 72, 3) := by decide +kernel
theorem dX4_longer_6 : decode cX4_longer 6 = .ok (.ifCond .eq 12, 3) := by decide +kernel
theorem dX4_longer_9 : decode cX4_longer 9 = .ok (.aload_n 0, 1) := by decide +kernel
theorem dX4_longer_10 : decode cX4_longer 10 = .ok (.iload_n 1, 1) := by decide +kernel
theorem dX4_longer_11 : decode cX4_longer 11 = .ok (.iload_n 2, 1) := by decide +kernel
theorem dX4_longer_12 : decode cX4_longer 12 = .ok (.invokevirtual 168, 3) := by decide +kernel
theorem dX4_longer_15 : decode cX4_longer 15 = .ok (.goto 4, 3) := by decide +kernel
theorem dX4_longer_18 : decode cX4_longer 18 = .ok (.iconst (-1), 1) := by decide +kernel
theorem dX4_longer_19 : decode cX4_longer 19 = .ok (.istore 4, 2) := by decide +kernel
theorem dX4_longer_21 : decode cX4_longer 21 = .ok (.iload 4, 2) := by decide +kernel
theorem dX4_longer_23 : decode cX4_longer 23 = .ok (.ifCond .ge 7, 3) := by decide +kernel
theorem dX4_longer_26 : decode cX4_longer 26 = .ok (.iconst (-1), 1) := by decide +kernel
theorem dX4_longer_27 : decode cX4_longer 27 = .ok (.goto 22, 3) := by decide +kernel
theorem dX4_longer_30 : decode cX4_longer 30 = .ok (.iload_n 3, 1) := by decide +kernel
theorem dX4_longer_31 : decode cX4_longer 31 = .ok (.ifCond .ne 12, 3) := by decide +kernel
theorem dX4_longer_34 : decode cX4_longer 34 = .ok (.aload_n 0, 1) := by decide +kernel
theorem dX4_longer_35 : decode cX4_longer 35 = .ok (.iload 4, 2) := by decide +kernel
theorem dX4_longer_37 : decode cX4_longer 37 = .ok (.invokevirtual 171, 3) := by decide +kernel
theorem dX4_longer_40 : decode cX4_longer 40 = .ok (.goto 9, 3) := by decide +kernel
theorem dX4_longer_43 : decode cX4_longer 43 = .ok (.aload_n 0, 1) := by decide +kernel
theorem dX4_longer_44 : decode cX4_longer 44 = .ok (.iload 4, 2) := by decide +kernel
theorem dX4_longer_46 : decode cX4_longer 46 = .ok (.invokevirtual 174, 3) := by decide +kernel
theorem dX4_longer_49 : decode cX4_longer 49 = .ok (.ireturn, 1) := by decide +kernel
set_option maxRecDepth 20000 in
theorem ggX4_box_X4_in : GoodIn wsX4_box wsX4_in := goodIn_r _ [9] (by decide +kernel) (by decide +kernel)
set_option maxRecDepth 20000 in
theorem gX4_box_X4_in : GoodIn wsX4_box (va_wsS RX4 72 yX4_in wsX4_in) := goodIn_app (goodIn_of _ (by decide +kernel)) ggX4_box_X4_in
set_option maxRecDepth 20000 in
theorem ggX4_box_X4_boxOf : GoodIn wsX4_box wsX4_boxOf := goodIn_r _ [13, 14, 15, 16, 17, 8, 18, 6, 7, 9, 19, 20, 21, 22, 23, 24, 25, 26, 27, 28, 29, 4, 5, 30, 31, 32, 33, 1, 2, 3, 34, 35, 36, 37, 38, 39, 40, 41, 42, 43, 44, 45, 46, 47, 48, 49, 50, 51, 52, 53, 54, 55, 56, 57, 58, 59] (by decide +kernel) (by decide +kernel)
set_option maxRecDepth 20000 in
theorem gX4_box_X4_boxOf : GoodIn wsX4_box (wsV RX4 168 RX4 yX4_boxOf wsX4_boxOf) := goodIn_app (goodIn_of _ (by decide +kernel)) ggX4_box_X4_boxOf
theorem dX4_box_0 : decode cX4_box 0 = .ok (.iload_n 3, 1) := by decide +kernel
theorem dX4_box_1 : decode cX4_box 1 = .ok (.iconst 0, 1) := by decide +kernel
theorem dX4_box_2 : decode cX4_box 2 = .ok (.iconst 3, 1) := by decide +kernel
theorem dX4_box_3 : decode cX4_box 3 = .ok (.invokestatic 72, 3) := by decide +kernel
theorem dX4_box_6 : decode cX4_box 6 = .ok (.ifCond .eq 12, 3) := by decide +kernel
theorem dX4_box_9 : decode cX4_box 9 = .ok (.aload_n 0, 1) := by decide +kernel
theorem dX4_box_10 : decode cX4_box 10 = .ok (.iload_n 1, 1) := by decide +kernel
theorem dX4_box_11 : decode cX4_box 11 = .ok (.iload_n 2, 1) := by decide +kernel
theorem dX4_box_12 : decode cX4_box 12 = .ok (.invokevirtual 168, 3) := by decide +kernel
theorem dX4_box_15 : decode cX4_box 15 = .ok (.goto 4, 3) := by decide +kernel
theorem dX4_box_18 : decode cX4_box 18 = .ok (.iconst (-1), 1) := by decide +kernel
theorem dX4_box_19 : decode cX4_box 19 = .ok (.istore 4, 2) := by decide +kernel
theorem dX4_box_21 : decode cX4_box 21 = .ok (.iload 4, 2) := by decide +kernel
theorem dX4_box_23 : decode cX4_box 23 = .ok (.ifCond .ge 5, 3) := by decide +kernel
theorem dX4_box_26 : decode cX4_box 26 = .ok (.iconst (-1), 1) := by decide +kernel
theorem dX4_box_27 : decode cX4_box 27 = .ok (.ireturn, 1) := by decide +kernel
theorem dX4_box_28 : decode cX4_box 28 = .ok (.iload_n 3, 1) := by decide +kernel
theorem dX4_box_29 : decode cX4_box 29 = .ok (.tableswitch 72 0 2 #[27, 41, 55], 27) := by decide +kernel
theorem dX4_box_56 : decode cX4_box 56 = .ok (.sipush 1000, 3) := by decide +kernel
theorem dX4_box_59 : decode cX4_box 59 = .ok (.aload_n 0, 1) := by decide +kernel
theorem dX4_box_60 : decode cX4_box 60 = .ok (.getfield 150, 3) := by decide +kernel
theorem dX4_box_63 : decode cX4_box 63 = .ok (.imul, 1) := by decide +kernel
theorem dX4_box_64 : decode cX4_box 64 = .ok (.aload_n 0, 1) := by decide +kernel
theorem dX4_box_65 : decode cX4_box 65 = .ok (.getfield 153, 3) := by decide +kernel
theorem dX4_box_68 : decode cX4_box 68 = .ok (.idiv, 1) := by decide +kernel
theorem dX4_box_69 : decode cX4_box 69 = .ok (.ireturn, 1) := by decide +kernel
theorem dX4_box_70 : decode cX4_box 70 = .ok (.sipush 1000, 3) := by decide +kernel
theorem dX4_box_73 : decode cX4_box 73 = .ok (.aload_n 0, 1) := by decide +kernel
theorem dX4_box_74 : decode cX4_box 74 = .ok (.getfield 156, 3) := by decide +kernel
theorem dX4_box_77 : decode cX4_box 77 = .ok (.imul, 1) := by decide +kernel
theorem dX4_box_78 : decode cX4_box 78 = .ok (.aload_n 0, 1) := by decide +kernel
theorem dX4_box_79 : decode cX4_box 79 = .ok (.getfield 147, 3) := by decide +kernel
theorem dX4_box_82 : decode cX4_box 82 = .ok (.idiv, 1) := by decide +kernel
theorem dX4_box_83 : decode cX4_box 83 = .ok (.ireturn, 1) := by decide +kernel
theorem dX4_box_84 : decode cX4_box 84 = .ok (.sipush 1000, 3) := by decide +kernel
theorem dX4_box_87 : decode cX4_box 87 = .ok (.aload_n 0, 1) := by decide +kernel
theorem dX4_box_88 : decode cX4_box 88 = .ok (.getfield 57, 3) := by decide +kernel
theorem dX4_box_91 : decode cX4_box 91 = .ok (.iload 4, 2) := by decide +kernel
theorem dX4_box_93 : decode cX4_box 93 = .ok (.iaload, 1) := by decide +kernel
theorem dX4_box_94 : decode cX4_box 94 = .ok (.imul, 1) := by decide +kernel
theorem dX4_box_95 : decode cX4_box 95 = .ok (.aload_n 0, 1) := by decide +kernel
theorem dX4_box_96 : decode cX4_box 96 = .ok (.getfield 153, 3) := by decide +kernel
theorem dX4_box_99 : decode cX4_box 99 = .ok (.idiv, 1) := by decide +kernel
theorem dX4_box_100 : decode cX4_box 100 = .ok (.ireturn, 1) := by decide +kernel
theorem dX4_box_101 : decode cX4_box 101 = .ok (.sipush 1000, 3) := by decide +kernel
theorem dX4_box_104 : decode cX4_box 104 = .ok (.aload_n 0, 1) := by decide +kernel
theorem dX4_box_105 : decode cX4_box 105 = .ok (.getfield 153, 3) := by decide +kernel
theorem dX4_box_108 : decode cX4_box 108 = .ok (.imul, 1) := by decide +kernel
theorem dX4_box_109 : decode cX4_box 109 = .ok (.aload_n 0, 1) := by decide +kernel
theorem dX4_box_110 : decode cX4_box 110 = .ok (.getfield 147, 3) := by decide +kernel
theorem dX4_box_113 : decode cX4_box 113 = .ok (.idiv, 1) := by decide +kernel
theorem dX4_box_114 : decode cX4_box 114 = .ok (.ireturn, 1) := by decide +kernel
set_option maxRecDepth 20000 in
theorem ggX4_best_X4_weigh : GoodIn wsX4_best wsX4_weigh := goodIn_r _ [6, 1, 7, 8, 9, 10, 11, 12, 5, 13, 14, 15, 16, 35, 36, 37, 38, 39, 40, 41, 42, 43, 44, 45, 46, 47, 48, 49, 50, 51, 52, 53, 54, 55, 56, 57, 58, 59, 60] (by decide +kernel) (by decide +kernel)
set_option maxRecDepth 20000 in
theorem gX4_best_X4_weigh : GoodIn wsX4_best (wsV RX4 159 RX4 yX4_weigh wsX4_weigh) := goodIn_app (goodIn_of _ (by decide +kernel)) ggX4_best_X4_weigh
set_option maxRecDepth 20000 in
theorem ggX4_best_X4_lay : GoodIn wsX4_best wsX4_lay := goodIn_r _ [20, 21, 22, 23, 8, 1, 35, 36, 37, 38, 39, 40, 41, 42, 43, 44, 45, 46, 47, 48, 49, 50, 51, 52, 53, 54, 55, 56, 57, 58, 59, 60] (by decide +kernel) (by decide +kernel)
set_option maxRecDepth 20000 in
theorem gX4_best_X4_lay : GoodIn wsX4_best (wsV RX4 162 RX4 yX4_lay wsX4_lay) := goodIn_app (goodIn_of _ (by decide +kernel)) ggX4_best_X4_lay
set_option maxRecDepth 20000 in
theorem ggX4_best_X4_longUp : GoodIn wsX4_best wsX4_longUp := goodIn_r _ [27, 8, 7, 22, 28, 29, 5, 30, 35, 36, 37, 38, 39, 40, 41, 42, 43, 44, 45, 46, 47, 48, 49, 50, 51, 52, 53, 54, 55, 56, 57, 58, 59, 60] (by decide +kernel) (by decide +kernel)
set_option maxRecDepth 20000 in
theorem gX4_best_X4_longUp : GoodIn wsX4_best (wsV RX4 171 RX4 yX4_longUp wsX4_longUp) := goodIn_app (goodIn_of _ (by decide +kernel)) ggX4_best_X4_longUp
set_option maxRecDepth 20000 in
theorem ggX4_best_X4_longDown : GoodIn wsX4_best wsX4_longDown := goodIn_r _ [34, 8, 7, 22, 28, 29, 5, 30, 35, 36, 37, 38, 39, 40, 41, 42, 43, 44, 45, 46, 47, 48, 49, 50, 51, 52, 53, 54, 55, 56, 57, 58, 59, 60] (by decide +kernel) (by decide +kernel)
set_option maxRecDepth 20000 in
theorem gX4_best_X4_longDown : GoodIn wsX4_best (wsV RX4 174 RX4 yX4_longDown wsX4_longDown) := goodIn_app (goodIn_of _ (by decide +kernel)) ggX4_best_X4_longDown
theorem dX4_best_0 : decode cX4_best 0 = .ok (.aload_n 0, 1) := by decide +kernel
theorem dX4_best_1 : decode cX4_best 1 = .ok (.invokevirtual 159, 3) := by decide +kernel
theorem dX4_best_4 : decode cX4_best 4 = .ok (.aload_n 0, 1) := by decide +kernel
theorem dX4_best_5 : decode cX4_best 5 = .ok (.getfield 144, 3) := by decide +kernel
theorem dX4_best_8 : decode cX4_best 8 = .ok (.ifCond .ne 6, 3) := by decide +kernel
theorem dX4_best_11 : decode cX4_best 11 = .ok (.bipush (-9), 2) := by decide +kernel
theorem dX4_best_13 : decode cX4_best 13 = .ok (.ireturn, 1) := by decide +kernel
theorem dX4_best_14 : decode cX4_best 14 = .ok (.iconst (-1), 1) := by decide +kernel
theorem dX4_best_15 : decode cX4_best 15 = .ok (.istore_n 1, 1) := by decide +kernel
theorem dX4_best_16 : decode cX4_best 16 = .ok (.iconst 0, 1) := by decide +kernel
theorem dX4_best_17 : decode cX4_best 17 = .ok (.istore_n 2, 1) := by decide +kernel
theorem dX4_best_18 : decode cX4_best 18 = .ok (.iconst 1, 1) := by decide +kernel
theorem dX4_best_19 : decode cX4_best 19 = .ok (.istore_n 3, 1) := by decide +kernel
theorem dX4_best_20 : decode cX4_best 20 = .ok (.iconst 0, 1) := by decide +kernel
theorem dX4_best_21 : decode cX4_best 21 = .ok (.istore 4, 2) := by decide +kernel
theorem dX4_best_23 : decode cX4_best 23 = .ok (.iload 4, 2) := by decide +kernel
theorem dX4_best_25 : decode cX4_best 25 = .ok (.iconst 1, 1) := by decide +kernel
theorem dX4_best_26 : decode cX4_best 26 = .ok (.aload_n 0, 1) := by decide +kernel
theorem dX4_best_27 : decode cX4_best 27 = .ok (.getfield 144, 3) := by decide +kernel
theorem dX4_best_30 : decode cX4_best 30 = .ok (.iconst 1, 1) := by decide +kernel
theorem dX4_best_31 : decode cX4_best 31 = .ok (.isub, 1) := by decide +kernel
theorem dX4_best_32 : decode cX4_best 32 = .ok (.ishl, 1) := by decide +kernel
theorem dX4_best_33 : decode cX4_best 33 = .ok (.if_icmp .ge 139, 3) := by decide +kernel
theorem dX4_best_36 : decode cX4_best 36 = .ok (.iconst 0, 1) := by decide +kernel
theorem dX4_best_37 : decode cX4_best 37 = .ok (.istore 5, 2) := by decide +kernel
theorem dX4_best_39 : decode cX4_best 39 = .ok (.iconst 1, 1) := by decide +kernel
theorem dX4_best_40 : decode cX4_best 40 = .ok (.istore 6, 2) := by decide +kernel
theorem dX4_best_42 : decode cX4_best 42 = .ok (.iconst 0, 1) := by decide +kernel
theorem dX4_best_43 : decode cX4_best 43 = .ok (.istore 7, 2) := by decide +kernel
theorem dX4_best_45 : decode cX4_best 45 = .ok (.iload 7, 2) := by decide +kernel
theorem dX4_best_47 : decode cX4_best 47 = .ok (.aload_n 0, 1) := by decide +kernel
theorem dX4_best_48 : decode cX4_best 48 = .ok (.getfield 144, 3) := by decide +kernel
theorem dX4_best_51 : decode cX4_best 51 = .ok (.if_icmp .ge 86, 3) := by decide +kernel
theorem dX4_best_54 : decode cX4_best 54 = .ok (.aload_n 0, 1) := by decide +kernel
theorem dX4_best_55 : decode cX4_best 55 = .ok (.iload 4, 2) := by decide +kernel
theorem dX4_best_57 : decode cX4_best 57 = .ok (.iload 7, 2) := by decide +kernel
theorem dX4_best_59 : decode cX4_best 59 = .ok (.invokevirtual 162, 3) := by decide +kernel
theorem dX4_best_62 : decode cX4_best 62 = .ok (.aload_n 0, 1) := by decide +kernel
theorem dX4_best_63 : decode cX4_best 63 = .ok (.iload 7, 2) := by decide +kernel
theorem dX4_best_65 : decode cX4_best 65 = .ok (.invokevirtual 171, 3) := by decide +kernel
theorem dX4_best_68 : decode cX4_best 68 = .ok (.istore 8, 2) := by decide +kernel
theorem dX4_best_70 : decode cX4_best 70 = .ok (.aload_n 0, 1) := by decide +kernel
theorem dX4_best_71 : decode cX4_best 71 = .ok (.iload 7, 2) := by decide +kernel
theorem dX4_best_73 : decode cX4_best 73 = .ok (.invokevirtual 174, 3) := by decide +kernel
theorem dX4_best_76 : decode cX4_best 76 = .ok (.istore 9, 2) := by decide +kernel
theorem dX4_best_78 : decode cX4_best 78 = .ok (.iload 8, 2) := by decide +kernel
theorem dX4_best_80 : decode cX4_best 80 = .ok (.i2l, 1) := by decide +kernel
theorem dX4_best_81 : decode cX4_best 81 = .ok (.iload 6, 2) := by decide +kernel
theorem dX4_best_83 : decode cX4_best 83 = .ok (.i2l, 1) := by decide +kernel
theorem dX4_best_84 : decode cX4_best 84 = .ok (.lmul, 1) := by decide +kernel
theorem dX4_best_85 : decode cX4_best 85 = .ok (.iload 5, 2) := by decide +kernel
theorem dX4_best_87 : decode cX4_best 87 = .ok (.i2l, 1) := by decide +kernel
theorem dX4_best_88 : decode cX4_best 88 = .ok (.iload 9, 2) := by decide +kernel
theorem dX4_best_90 : decode cX4_best 90 = .ok (.i2l, 1) := by decide +kernel
theorem dX4_best_91 : decode cX4_best 91 = .ok (.lmul, 1) := by decide +kernel
theorem dX4_best_92 : decode cX4_best 92 = .ok (.lcmp, 1) := by decide +kernel
theorem dX4_best_93 : decode cX4_best 93 = .ok (.ifCond .le 7, 3) := by decide +kernel
theorem dX4_best_96 : decode cX4_best 96 = .ok (.iconst 1, 1) := by decide +kernel
theorem dX4_best_97 : decode cX4_best 97 = .ok (.goto 4, 3) := by decide +kernel
theorem dX4_best_100 : decode cX4_best 100 = .ok (.iconst 0, 1) := by decide +kernel
theorem dX4_best_101 : decode cX4_best 101 = .ok (.istore 10, 2) := by decide +kernel
theorem dX4_best_103 : decode cX4_best 103 = .ok (.iload 10, 2) := by decide +kernel
theorem dX4_best_105 : decode cX4_best 105 = .ok (.ifCond .eq 8, 3) := by decide +kernel
theorem dX4_best_108 : decode cX4_best 108 = .ok (.iload 8, 2) := by decide +kernel
theorem dX4_best_110 : decode cX4_best 110 = .ok (.goto 5, 3) := by decide +kernel
theorem dX4_best_113 : decode cX4_best 113 = .ok (.iload 5, 2) := by decide +kernel
theorem dX4_best_115 : decode cX4_best 115 = .ok (.istore 5, 2) := by decide +kernel
theorem dX4_best_117 : decode cX4_best 117 = .ok (.iload 10, 2) := by decide +kernel
theorem dX4_best_119 : decode cX4_best 119 = .ok (.ifCond .eq 8, 3) := by decide +kernel
theorem dX4_best_122 : decode cX4_best 122 = .ok (.iload 9, 2) := by decide +kernel
theorem dX4_best_124 : decode cX4_best 124 = .ok (.goto 5, 3) := by decide +kernel
theorem dX4_best_127 : decode cX4_best 127 = .ok (.iload 6, 2) := by decide +kernel
theorem dX4_best_129 : decode cX4_best 129 = .ok (.istore 6, 2) := by decide +kernel
theorem dX4_best_131 : decode cX4_best 131 = .ok (.iinc 7 1, 3) := by decide +kernel
theorem dX4_best_134 : decode cX4_best 134 = .ok (.goto (-89), 3) := by decide +kernel
theorem dX4_best_137 : decode cX4_best 137 = .ok (.iload_n 1, 1) := by decide +kernel
theorem dX4_best_138 : decode cX4_best 138 = .ok (.ifCond .lt 19, 3) := by decide +kernel
theorem dX4_best_141 : decode cX4_best 141 = .ok (.iload 5, 2) := by decide +kernel
theorem dX4_best_143 : decode cX4_best 143 = .ok (.i2l, 1) := by decide +kernel
theorem dX4_best_144 : decode cX4_best 144 = .ok (.iload_n 3, 1) := by decide +kernel
theorem dX4_best_145 : decode cX4_best 145 = .ok (.i2l, 1) := by decide +kernel
theorem dX4_best_146 : decode cX4_best 146 = .ok (.lmul, 1) := by decide +kernel
theorem dX4_best_147 : decode cX4_best 147 = .ok (.iload_n 2, 1) := by decide +kernel
theorem dX4_best_148 : decode cX4_best 148 = .ok (.i2l, 1) := by decide +kernel
theorem dX4_best_149 : decode cX4_best 149 = .ok (.iload 6, 2) := by decide +kernel
theorem dX4_best_151 : decode cX4_best 151 = .ok (.i2l, 1) := by decide +kernel
theorem dX4_best_152 : decode cX4_best 152 = .ok (.lmul, 1) := by decide +kernel
theorem dX4_best_153 : decode cX4_best 153 = .ok (.lcmp, 1) := by decide +kernel
theorem dX4_best_154 : decode cX4_best 154 = .ok (.ifCond .ge 12, 3) := by decide +kernel
theorem dX4_best_157 : decode cX4_best 157 = .ok (.iload 4, 2) := by decide +kernel
theorem dX4_best_159 : decode cX4_best 159 = .ok (.istore_n 1, 1) := by decide +kernel
theorem dX4_best_160 : decode cX4_best 160 = .ok (.iload 5, 2) := by decide +kernel
theorem dX4_best_162 : decode cX4_best 162 = .ok (.istore_n 2, 1) := by decide +kernel
theorem dX4_best_163 : decode cX4_best 163 = .ok (.iload 6, 2) := by decide +kernel
theorem dX4_best_165 : decode cX4_best 165 = .ok (.istore_n 3, 1) := by decide +kernel
theorem dX4_best_166 : decode cX4_best 166 = .ok (.iinc 4 1, 3) := by decide +kernel
theorem dX4_best_169 : decode cX4_best 169 = .ok (.goto (-146), 3) := by decide +kernel
theorem dX4_best_172 : decode cX4_best 172 = .ok (.iload_n 1, 1) := by decide +kernel
theorem dX4_best_173 : decode cX4_best 173 = .ok (.ireturn, 1) := by decide +kernel
set_option maxRecDepth 20000 in
theorem ggX4_isYear_X4_in : GoodIn wsX4_isYear wsX4_in := goodIn_r _ [4] (by decide +kernel) (by decide +kernel)
set_option maxRecDepth 20000 in
theorem gX4_isYear_X4_in : GoodIn wsX4_isYear (va_wsS RX4 72 yX4_in wsX4_in) := goodIn_app (goodIn_of _ (by decide +kernel)) ggX4_isYear_X4_in
theorem dX4_isYear_0 : decode cX4_isYear 0 = .ok (.iload_n 0, 1) := by decide +kernel
theorem dX4_isYear_1 : decode cX4_isYear 1 = .ok (.iconst 0, 1) := by decide +kernel
theorem dX4_isYear_2 : decode cX4_isYear 2 = .ok (.iconst 3, 1) := by decide +kernel
theorem dX4_isYear_3 : decode cX4_isYear 3 = .ok (.invokestatic 72, 3) := by decide +kernel
theorem dX4_isYear_6 : decode cX4_isYear 6 = .ok (.ireturn, 1) := by decide +kernel
set_option maxRecDepth 20000 in
theorem ggX4_landCells_X4_sizeOf : GoodIn wsX4_landCells wsX4_sizeOf := goodIn_r _ [7, 1, 2, 8, 9, 10, 11, 12, 13, 14, 15, 16, 17, 18, 19, 20, 21, 22, 23, 24, 25, 26, 27, 28, 29, 30, 31, 32, 33, 34] (by decide +kernel) (by decide +kernel)
set_option maxRecDepth 20000 in
theorem gX4_landCells_X4_sizeOf : GoodIn wsX4_landCells (wsV RX4 88 RX4 yX4_sizeOf wsX4_sizeOf) := goodIn_app (goodIn_of _ (by decide +kernel)) ggX4_landCells_X4_sizeOf
theorem dX4_landCells_0 : decode cX4_landCells 0 = .ok (.aload_n 0, 1) := by decide +kernel
theorem dX4_landCells_1 : decode cX4_landCells 1 = .ok (.getfield 7, 3) := by decide +kernel
theorem dX4_landCells_4 : decode cX4_landCells 4 = .ok (.aload_n 0, 1) := by decide +kernel
theorem dX4_landCells_5 : decode cX4_landCells 5 = .ok (.getfield 13, 3) := by decide +kernel
theorem dX4_landCells_8 : decode cX4_landCells 8 = .ok (.imul, 1) := by decide +kernel
theorem dX4_landCells_9 : decode cX4_landCells 9 = .ok (.aload_n 0, 1) := by decide +kernel
theorem dX4_landCells_10 : decode cX4_landCells 10 = .ok (.bipush (-4), 2) := by decide +kernel
theorem dX4_landCells_12 : decode cX4_landCells 12 = .ok (.invokevirtual 88, 3) := by decide +kernel
theorem dX4_landCells_15 : decode cX4_landCells 15 = .ok (.isub, 1) := by decide +kernel
theorem dX4_landCells_16 : decode cX4_landCells 16 = .ok (.ireturn, 1) := by decide +kernel
set_option maxRecDepth 20000 in
theorem ggX4_keep_X4_isYear : GoodIn wsX4_keep wsX4_isYear := goodIn_r _ [11, 12, 13, 10, 14] (by decide +kernel) (by decide +kernel)
set_option maxRecDepth 20000 in
theorem gX4_keep_X4_isYear : GoodIn wsX4_keep (va_wsS RX4 177 yX4_isYear wsX4_isYear) := goodIn_app (goodIn_of _ (by decide +kernel)) ggX4_keep_X4_isYear
set_option maxRecDepth 20000 in
theorem ggX4_keep_X4_landCells : GoodIn wsX4_keep wsX4_landCells := goodIn_r _ [18, 3, 5, 19, 20, 21, 10, 22, 7, 23, 24, 25, 26, 27, 28, 29, 30, 31, 32, 33, 34, 35, 36, 37, 38, 39, 40, 41, 42, 43, 44, 45, 46, 47, 48] (by decide +kernel) (by decide +kernel)
set_option maxRecDepth 20000 in
theorem gX4_keep_X4_landCells : GoodIn wsX4_keep (wsV RX4 180 RX4 yX4_landCells wsX4_landCells) := goodIn_app (goodIn_of _ (by decide +kernel)) ggX4_keep_X4_landCells
theorem dX4_keep_0 : decode cX4_keep 0 = .ok (.iload_n 1, 1) := by decide +kernel
theorem dX4_keep_1 : decode cX4_keep 1 = .ok (.invokestatic 177, 3) := by decide +kernel
theorem dX4_keep_4 : decode cX4_keep 4 = .ok (.ifCond .ne 5, 3) := by decide +kernel
theorem dX4_keep_7 : decode cX4_keep 7 = .ok (.iconst (-1), 1) := by decide +kernel
theorem dX4_keep_8 : decode cX4_keep 8 = .ok (.ireturn, 1) := by decide +kernel
theorem dX4_keep_9 : decode cX4_keep 9 = .ok (.aload_n 0, 1) := by decide +kernel
theorem dX4_keep_10 : decode cX4_keep 10 = .ok (.getfield 35, 3) := by decide +kernel
theorem dX4_keep_13 : decode cX4_keep 13 = .ok (.iload_n 1, 1) := by decide +kernel
theorem dX4_keep_14 : decode cX4_keep 14 = .ok (.iconst 1, 1) := by decide +kernel
theorem dX4_keep_15 : decode cX4_keep 15 = .ok (.bastore, 1) := by decide +kernel
theorem dX4_keep_16 : decode cX4_keep 16 = .ok (.aload_n 0, 1) := by decide +kernel
theorem dX4_keep_17 : decode cX4_keep 17 = .ok (.getfield 39, 3) := by decide +kernel
theorem dX4_keep_20 : decode cX4_keep 20 = .ok (.iload_n 1, 1) := by decide +kernel
theorem dX4_keep_21 : decode cX4_keep 21 = .ok (.aload_n 0, 1) := by decide +kernel
theorem dX4_keep_22 : decode cX4_keep 22 = .ok (.getfield 7, 3) := by decide +kernel
theorem dX4_keep_25 : decode cX4_keep 25 = .ok (.iastore, 1) := by decide +kernel
theorem dX4_keep_26 : decode cX4_keep 26 = .ok (.aload_n 0, 1) := by decide +kernel
theorem dX4_keep_27 : decode cX4_keep 27 = .ok (.getfield 42, 3) := by decide +kernel
theorem dX4_keep_30 : decode cX4_keep 30 = .ok (.iload_n 1, 1) := by decide +kernel
theorem dX4_keep_31 : decode cX4_keep 31 = .ok (.aload_n 0, 1) := by decide +kernel
theorem dX4_keep_32 : decode cX4_keep 32 = .ok (.getfield 13, 3) := by decide +kernel
theorem dX4_keep_35 : decode cX4_keep 35 = .ok (.iastore, 1) := by decide +kernel
theorem dX4_keep_36 : decode cX4_keep 36 = .ok (.iconst 0, 1) := by decide +kernel
theorem dX4_keep_37 : decode cX4_keep 37 = .ok (.istore_n 2, 1) := by decide +kernel
theorem dX4_keep_38 : decode cX4_keep 38 = .ok (.iload_n 2, 1) := by decide +kernel
theorem dX4_keep_39 : decode cX4_keep 39 = .ok (.aload_n 0, 1) := by decide +kernel
theorem dX4_keep_40 : decode cX4_keep 40 = .ok (.getfield 7, 3) := by decide +kernel
theorem dX4_keep_43 : decode cX4_keep 43 = .ok (.aload_n 0, 1) := by decide +kernel
theorem dX4_keep_44 : decode cX4_keep 44 = .ok (.getfield 13, 3) := by decide +kernel
theorem dX4_keep_47 : decode cX4_keep 47 = .ok (.imul, 1) := by decide +kernel
theorem dX4_keep_48 : decode cX4_keep 48 = .ok (.if_icmp .ge 26, 3) := by decide +kernel
theorem dX4_keep_51 : decode cX4_keep 51 = .ok (.aload_n 0, 1) := by decide +kernel
theorem dX4_keep_52 : decode cX4_keep 52 = .ok (.getfield 45, 3) := by decide +kernel
theorem dX4_keep_55 : decode cX4_keep 55 = .ok (.bipush 64, 2) := by decide +kernel
theorem dX4_keep_57 : decode cX4_keep 57 = .ok (.iload_n 1, 1) := by decide +kernel
theorem dX4_keep_58 : decode cX4_keep 58 = .ok (.imul, 1) := by decide +kernel
theorem dX4_keep_59 : decode cX4_keep 59 = .ok (.iload_n 2, 1) := by decide +kernel
theorem dX4_keep_60 : decode cX4_keep 60 = .ok (.iadd, 1) := by decide +kernel
theorem dX4_keep_61 : decode cX4_keep 61 = .ok (.aload_n 0, 1) := by decide +kernel
theorem dX4_keep_62 : decode cX4_keep 62 = .ok (.getfield 16, 3) := by decide +kernel
theorem dX4_keep_65 : decode cX4_keep 65 = .ok (.iload_n 2, 1) := by decide +kernel
theorem dX4_keep_66 : decode cX4_keep 66 = .ok (.iaload, 1) := by decide +kernel
theorem dX4_keep_67 : decode cX4_keep 67 = .ok (.iastore, 1) := by decide +kernel
theorem dX4_keep_68 : decode cX4_keep 68 = .ok (.iinc 2 1, 3) := by decide +kernel
theorem dX4_keep_71 : decode cX4_keep 71 = .ok (.goto (-33), 3) := by decide +kernel
theorem dX4_keep_74 : decode cX4_keep 74 = .ok (.aload_n 0, 1) := by decide +kernel
theorem dX4_keep_75 : decode cX4_keep 75 = .ok (.invokevirtual 180, 3) := by decide +kernel
theorem dX4_keep_78 : decode cX4_keep 78 = .ok (.ireturn, 1) := by decide +kernel
set_option maxRecDepth 20000 in
theorem ggX4_back_X4_isYear : GoodIn wsX4_back wsX4_isYear := goodIn_r _ [11, 12, 13, 10, 14] (by decide +kernel) (by decide +kernel)
set_option maxRecDepth 20000 in
theorem gX4_back_X4_isYear : GoodIn wsX4_back (va_wsS RX4 177 yX4_isYear wsX4_isYear) := goodIn_app (goodIn_of _ (by decide +kernel)) ggX4_back_X4_isYear
set_option maxRecDepth 20000 in
theorem ggX4_back_X4_plain : GoodIn wsX4_back wsX4_plain := goodIn_r _ [18, 19, 20, 21, 30, 31, 32, 33, 34, 35, 36, 37, 38, 39, 40, 41, 42, 43, 44, 45, 46, 47, 48, 49, 50, 51, 52, 53, 54, 55] (by decide +kernel) (by decide +kernel)
set_option maxRecDepth 20000 in
theorem gX4_back_X4_plain : GoodIn wsX4_back (wsV RX4 66 RX4 yX4_plain wsX4_plain) := goodIn_app (goodIn_of _ (by decide +kernel)) ggX4_back_X4_plain
set_option maxRecDepth 20000 in
theorem ggX4_back_X4_landCells : GoodIn wsX4_back wsX4_landCells := goodIn_r _ [25, 3, 5, 26, 27, 28, 10, 29, 6, 30, 31, 32, 33, 34, 35, 36, 37, 38, 39, 40, 41, 42, 43, 44, 45, 46, 47, 48, 49, 50, 51, 52, 53, 54, 55] (by decide +kernel) (by decide +kernel)
set_option maxRecDepth 20000 in
theorem gX4_back_X4_landCells : GoodIn wsX4_back (wsV RX4 180 RX4 yX4_landCells wsX4_landCells) := goodIn_app (goodIn_of _ (by decide +kernel)) ggX4_back_X4_landCells
theorem dX4_back_0 : decode cX4_back 0 = .ok (.iload_n 1, 1) := by decide +kernel
theorem dX4_back_1 : decode cX4_back 1 = .ok (.invokestatic 177, 3) := by decide +kernel
theorem dX4_back_4 : decode cX4_back 4 = .ok (.ifCond .ne 5, 3) := by decide +kernel
theorem dX4_back_7 : decode cX4_back 7 = .ok (.iconst (-1), 1) := by decide +kernel
theorem dX4_back_8 : decode cX4_back 8 = .ok (.ireturn, 1) := by decide +kernel
theorem dX4_back_9 : decode cX4_back 9 = .ok (.aload_n 0, 1) := by decide +kernel
theorem dX4_back_10 : decode cX4_back 10 = .ok (.getfield 35, 3) := by decide +kernel
theorem dX4_back_13 : decode cX4_back 13 = .ok (.iload_n 1, 1) := by decide +kernel
theorem dX4_back_14 : decode cX4_back 14 = .ok (.baload, 1) := by decide +kernel
theorem dX4_back_15 : decode cX4_back 15 = .ok (.ifCond .ne 6, 3) := by decide +kernel
theorem dX4_back_18 : decode cX4_back 18 = .ok (.bipush (-2), 2) := by decide +kernel
theorem dX4_back_20 : decode cX4_back 20 = .ok (.ireturn, 1) := by decide +kernel
theorem dX4_back_21 : decode cX4_back 21 = .ok (.aload_n 0, 1) := by decide +kernel
theorem dX4_back_22 : decode cX4_back 22 = .ok (.aload_n 0, 1) := by decide +kernel
theorem dX4_back_23 : decode cX4_back 23 = .ok (.getfield 39, 3) := by decide +kernel
theorem dX4_back_26 : decode cX4_back 26 = .ok (.iload_n 1, 1) := by decide +kernel
theorem dX4_back_27 : decode cX4_back 27 = .ok (.iaload, 1) := by decide +kernel
theorem dX4_back_28 : decode cX4_back 28 = .ok (.putfield 7, 3) := by decide +kernel
theorem dX4_back_31 : decode cX4_back 31 = .ok (.aload_n 0, 1) := by decide +kernel
theorem dX4_back_32 : decode cX4_back 32 = .ok (.aload_n 0, 1) := by decide +kernel
theorem dX4_back_33 : decode cX4_back 33 = .ok (.getfield 42, 3) := by decide +kernel
theorem dX4_back_36 : decode cX4_back 36 = .ok (.iload_n 1, 1) := by decide +kernel
theorem dX4_back_37 : decode cX4_back 37 = .ok (.iaload, 1) := by decide +kernel
theorem dX4_back_38 : decode cX4_back 38 = .ok (.putfield 13, 3) := by decide +kernel
theorem dX4_back_41 : decode cX4_back 41 = .ok (.iconst 0, 1) := by decide +kernel
theorem dX4_back_42 : decode cX4_back 42 = .ok (.istore_n 2, 1) := by decide +kernel
theorem dX4_back_43 : decode cX4_back 43 = .ok (.iload_n 2, 1) := by decide +kernel
theorem dX4_back_44 : decode cX4_back 44 = .ok (.aload_n 0, 1) := by decide +kernel
theorem dX4_back_45 : decode cX4_back 45 = .ok (.getfield 7, 3) := by decide +kernel
theorem dX4_back_48 : decode cX4_back 48 = .ok (.aload_n 0, 1) := by decide +kernel
theorem dX4_back_49 : decode cX4_back 49 = .ok (.getfield 13, 3) := by decide +kernel
theorem dX4_back_52 : decode cX4_back 52 = .ok (.imul, 1) := by decide +kernel
theorem dX4_back_53 : decode cX4_back 53 = .ok (.if_icmp .ge 26, 3) := by decide +kernel
theorem dX4_back_56 : decode cX4_back 56 = .ok (.aload_n 0, 1) := by decide +kernel
theorem dX4_back_57 : decode cX4_back 57 = .ok (.getfield 16, 3) := by decide +kernel
theorem dX4_back_60 : decode cX4_back 60 = .ok (.iload_n 2, 1) := by decide +kernel
theorem dX4_back_61 : decode cX4_back 61 = .ok (.aload_n 0, 1) := by decide +kernel
theorem dX4_back_62 : decode cX4_back 62 = .ok (.getfield 45, 3) := by decide +kernel
theorem dX4_back_65 : decode cX4_back 65 = .ok (.bipush 64, 2) := by decide +kernel
theorem dX4_back_67 : decode cX4_back 67 = .ok (.iload_n 1, 1) := by decide +kernel
theorem dX4_back_68 : decode cX4_back 68 = .ok (.imul, 1) := by decide +kernel
theorem dX4_back_69 : decode cX4_back 69 = .ok (.iload_n 2, 1) := by decide +kernel
theorem dX4_back_70 : decode cX4_back 70 = .ok (.iadd, 1) := by decide +kernel
theorem dX4_back_71 : decode cX4_back 71 = .ok (.iaload, 1) := by decide +kernel
theorem dX4_back_72 : decode cX4_back 72 = .ok (.iastore, 1) := by decide +kernel
theorem dX4_back_73 : decode cX4_back 73 = .ok (.iinc 2 1, 3) := by decide +kernel
theorem dX4_back_76 : decode cX4_back 76 = .ok (.goto (-33), 3) := by decide +kernel
theorem dX4_back_79 : decode cX4_back 79 = .ok (.aload_n 0, 1) := by decide +kernel
theorem dX4_back_80 : decode cX4_back 80 = .ok (.invokevirtual 66, 3) := by decide +kernel
theorem dX4_back_83 : decode cX4_back 83 = .ok (.aload_n 0, 1) := by decide +kernel
theorem dX4_back_84 : decode cX4_back 84 = .ok (.invokevirtual 180, 3) := by decide +kernel
theorem dX4_back_87 : decode cX4_back 87 = .ok (.ireturn, 1) := by decide +kernel
set_option maxRecDepth 20000 in
theorem ggX4_moved_X4_isYear : GoodIn wsX4_moved wsX4_isYear := goodIn_r _ [8, 9, 10, 7, 11] (by decide +kernel) (by decide +kernel)
set_option maxRecDepth 20000 in
theorem gX4_moved_X4_isYear : GoodIn wsX4_moved (va_wsS RX4 177 yX4_isYear wsX4_isYear) := goodIn_app (goodIn_of _ (by decide +kernel)) ggX4_moved_X4_isYear
theorem dX4_moved_0 : decode cX4_moved 0 = .ok (.iload_n 1, 1) := by decide +kernel
theorem dX4_moved_1 : decode cX4_moved 1 = .ok (.invokestatic 177, 3) := by decide +kernel
theorem dX4_moved_4 : decode cX4_moved 4 = .ok (.ifCond .eq 10, 3) := by decide +kernel
theorem dX4_moved_7 : decode cX4_moved 7 = .ok (.iload_n 2, 1) := by decide +kernel
theorem dX4_moved_8 : decode cX4_moved 8 = .ok (.invokestatic 177, 3) := by decide +kernel
theorem dX4_moved_11 : decode cX4_moved 11 = .ok (.ifCond .ne 5, 3) := by decide +kernel
theorem dX4_moved_14 : decode cX4_moved 14 = .ok (.iconst (-1), 1) := by decide +kernel
theorem dX4_moved_15 : decode cX4_moved 15 = .ok (.ireturn, 1) := by decide +kernel
theorem dX4_moved_16 : decode cX4_moved 16 = .ok (.aload_n 0, 1) := by decide +kernel
theorem dX4_moved_17 : decode cX4_moved 17 = .ok (.getfield 35, 3) := by decide +kernel
theorem dX4_moved_20 : decode cX4_moved 20 = .ok (.iload_n 1, 1) := by decide +kernel
theorem dX4_moved_21 : decode cX4_moved 21 = .ok (.baload, 1) := by decide +kernel
theorem dX4_moved_22 : decode cX4_moved 22 = .ok (.ifCond .eq 42, 3) := by decide +kernel
theorem dX4_moved_25 : decode cX4_moved 25 = .ok (.aload_n 0, 1) := by decide +kernel
theorem dX4_moved_26 : decode cX4_moved 26 = .ok (.getfield 35, 3) := by decide +kernel
theorem dX4_moved_29 : decode cX4_moved 29 = .ok (.iload_n 2, 1) := by decide +kernel
theorem dX4_moved_30 : decode cX4_moved 30 = .ok (.baload, 1) := by decide +kernel
theorem dX4_moved_31 : decode cX4_moved 31 = .ok (.ifCond .eq 33, 3) := by decide +kernel
theorem dX4_moved_34 : decode cX4_moved 34 = .ok (.aload_n 0, 1) := by decide +kernel
theorem dX4_moved_35 : decode cX4_moved 35 = .ok (.getfield 39, 3) := by decide +kernel
theorem dX4_moved_38 : decode cX4_moved 38 = .ok (.iload_n 1, 1) := by decide +kernel
theorem dX4_moved_39 : decode cX4_moved 39 = .ok (.iaload, 1) := by decide +kernel
theorem dX4_moved_40 : decode cX4_moved 40 = .ok (.aload_n 0, 1) := by decide +kernel
theorem dX4_moved_41 : decode cX4_moved 41 = .ok (.getfield 39, 3) := by decide +kernel
theorem dX4_moved_44 : decode cX4_moved 44 = .ok (.iload_n 2, 1) := by decide +kernel
theorem dX4_moved_45 : decode cX4_moved 45 = .ok (.iaload, 1) := by decide +kernel
theorem dX4_moved_46 : decode cX4_moved 46 = .ok (.if_icmp .ne 18, 3) := by decide +kernel
theorem dX4_moved_49 : decode cX4_moved 49 = .ok (.aload_n 0, 1) := by decide +kernel
theorem dX4_moved_50 : decode cX4_moved 50 = .ok (.getfield 42, 3) := by decide +kernel
theorem dX4_moved_53 : decode cX4_moved 53 = .ok (.iload_n 1, 1) := by decide +kernel
theorem dX4_moved_54 : decode cX4_moved 54 = .ok (.iaload, 1) := by decide +kernel
theorem dX4_moved_55 : decode cX4_moved 55 = .ok (.aload_n 0, 1) := by decide +kernel
theorem dX4_moved_56 : decode cX4_moved 56 = .ok (.getfield 42, 3) := by decide +kernel
theorem dX4_moved_59 : decode cX4_moved 59 = .ok (.iload_n 2, 1) := by decide +kernel
theorem dX4_moved_60 : decode cX4_moved 60 = .ok (.iaload, 1) := by decide +kernel
theorem dX4_moved_61 : decode cX4_moved 61 = .ok (.if_icmp .eq 6, 3) := by decide +kernel
theorem dX4_moved_64 : decode cX4_moved 64 = .ok (.bipush (-9), 2) := by decide +kernel
theorem dX4_moved_66 : decode cX4_moved 66 = .ok (.ireturn, 1) := by decide +kernel
theorem dX4_moved_67 : decode cX4_moved 67 = .ok (.iconst 0, 1) := by decide +kernel
theorem dX4_moved_68 : decode cX4_moved 68 = .ok (.istore_n 3, 1) := by decide +kernel
theorem dX4_moved_69 : decode cX4_moved 69 = .ok (.iconst 0, 1) := by decide +kernel
theorem dX4_moved_70 : decode cX4_moved 70 = .ok (.istore 4, 2) := by decide +kernel
theorem dX4_moved_72 : decode cX4_moved 72 = .ok (.iload 4, 2) := by decide +kernel
theorem dX4_moved_74 : decode cX4_moved 74 = .ok (.aload_n 0, 1) := by decide +kernel
theorem dX4_moved_75 : decode cX4_moved 75 = .ok (.getfield 39, 3) := by decide +kernel
theorem dX4_moved_78 : decode cX4_moved 78 = .ok (.iload_n 1, 1) := by decide +kernel
theorem dX4_moved_79 : decode cX4_moved 79 = .ok (.iaload, 1) := by decide +kernel
theorem dX4_moved_80 : decode cX4_moved 80 = .ok (.aload_n 0, 1) := by decide +kernel
theorem dX4_moved_81 : decode cX4_moved 81 = .ok (.getfield 42, 3) := by decide +kernel
theorem dX4_moved_84 : decode cX4_moved 84 = .ok (.iload_n 1, 1) := by decide +kernel
theorem dX4_moved_85 : decode cX4_moved 85 = .ok (.iaload, 1) := by decide +kernel
theorem dX4_moved_86 : decode cX4_moved 86 = .ok (.imul, 1) := by decide +kernel
theorem dX4_moved_87 : decode cX4_moved 87 = .ok (.if_icmp .ge 44, 3) := by decide +kernel
theorem dX4_moved_90 : decode cX4_moved 90 = .ok (.iload_n 3, 1) := by decide +kernel
theorem dX4_moved_91 : decode cX4_moved 91 = .ok (.aload_n 0, 1) := by decide +kernel
theorem dX4_moved_92 : decode cX4_moved 92 = .ok (.getfield 45, 3) := by decide +kernel
theorem dX4_moved_95 : decode cX4_moved 95 = .ok (.bipush 64, 2) := by decide +kernel
theorem dX4_moved_97 : decode cX4_moved 97 = .ok (.iload_n 1, 1) := by decide +kernel
theorem dX4_moved_98 : decode cX4_moved 98 = .ok (.imul, 1) := by decide +kernel
theorem dX4_moved_99 : decode cX4_moved 99 = .ok (.iload 4, 2) := by decide +kernel
theorem dX4_moved_101 : decode cX4_moved 101 = .ok (.iadd, 1) := by decide +kernel
theorem dX4_moved_102 : decode cX4_moved 102 = .ok (.iaload, 1) := by decide +kernel
theorem dX4_moved_103 : decode cX4_moved 103 = .ok (.aload_n 0, 1) := by decide +kernel
theorem dX4_moved_104 : decode cX4_moved 104 = .ok (.getfield 45, 3) := by decide +kernel
theorem dX4_moved_107 : decode cX4_moved 107 = .ok (.bipush 64, 2) := by decide +kernel
theorem dX4_moved_109 : decode cX4_moved 109 = .ok (.iload_n 2, 1) := by decide +kernel
theorem dX4_moved_110 : decode cX4_moved 110 = .ok (.imul, 1) := by decide +kernel
theorem dX4_moved_111 : decode cX4_moved 111 = .ok (.iload 4, 2) := by decide +kernel
theorem dX4_moved_113 : decode cX4_moved 113 = .ok (.iadd, 1) := by decide +kernel
theorem dX4_moved_114 : decode cX4_moved 114 = .ok (.iaload, 1) := by decide +kernel
theorem dX4_moved_115 : decode cX4_moved 115 = .ok (.if_icmp .eq 7, 3) := by decide +kernel
theorem dX4_moved_118 : decode cX4_moved 118 = .ok (.iconst 1, 1) := by decide +kernel
theorem dX4_moved_119 : decode cX4_moved 119 = .ok (.goto 4, 3) := by decide +kernel
theorem dX4_moved_122 : decode cX4_moved 122 = .ok (.iconst 0, 1) := by decide +kernel
theorem dX4_moved_123 : decode cX4_moved 123 = .ok (.iadd, 1) := by decide +kernel
theorem dX4_moved_124 : decode cX4_moved 124 = .ok (.istore_n 3, 1) := by decide +kernel
theorem dX4_moved_125 : decode cX4_moved 125 = .ok (.iinc 4 1, 3) := by decide +kernel
theorem dX4_moved_128 : decode cX4_moved 128 = .ok (.goto (-56), 3) := by decide +kernel
theorem dX4_moved_131 : decode cX4_moved 131 = .ok (.iload_n 3, 1) := by decide +kernel
theorem dX4_moved_132 : decode cX4_moved 132 = .ok (.ireturn, 1) := by decide +kernel
set_option maxRecDepth 20000 in
theorem ggX4_count_X4_sizeOf : GoodIn wsX4_count wsX4_sizeOf := goodIn_r _ [9, 1, 2, 10, 11, 12, 13, 14, 15, 16, 17, 18, 19, 20, 21, 22, 23, 24, 25, 26, 27, 28, 29, 30, 31, 32, 33, 34, 35, 36] (by decide +kernel) (by decide +kernel)
set_option maxRecDepth 20000 in
theorem gX4_count_X4_sizeOf : GoodIn wsX4_count (wsV RX4 88 RX4 yX4_sizeOf wsX4_sizeOf) := goodIn_app (goodIn_of _ (by decide +kernel)) ggX4_count_X4_sizeOf
theorem dX4_count_0 : decode cX4_count 0 = .ok (.iconst 0, 1) := by decide +kernel
theorem dX4_count_1 : decode cX4_count 1 = .ok (.istore_n 2, 1) := by decide +kernel
theorem dX4_count_2 : decode cX4_count 2 = .ok (.iload_n 1, 1) := by decide +kernel
theorem dX4_count_3 : decode cX4_count 3 = .ok (.tableswitch 85 0 4 #[33, 38, 43, 75, 80], 33) := by decide +kernel
theorem dX4_count_36 : decode cX4_count 36 = .ok (.aload_n 0, 1) := by decide +kernel
theorem dX4_count_37 : decode cX4_count 37 = .ok (.getfield 7, 3) := by decide +kernel
theorem dX4_count_40 : decode cX4_count 40 = .ok (.ireturn, 1) := by decide +kernel
theorem dX4_count_41 : decode cX4_count 41 = .ok (.aload_n 0, 1) := by decide +kernel
theorem dX4_count_42 : decode cX4_count 42 = .ok (.getfield 13, 3) := by decide +kernel
theorem dX4_count_45 : decode cX4_count 45 = .ok (.ireturn, 1) := by decide +kernel
theorem dX4_count_46 : decode cX4_count 46 = .ok (.iconst 0, 1) := by decide +kernel
theorem dX4_count_47 : decode cX4_count 47 = .ok (.istore_n 3, 1) := by decide +kernel
theorem dX4_count_48 : decode cX4_count 48 = .ok (.iload_n 3, 1) := by decide +kernel
theorem dX4_count_49 : decode cX4_count 49 = .ok (.bipush 6, 2) := by decide +kernel
theorem dX4_count_51 : decode cX4_count 51 = .ok (.if_icmp .ge 25, 3) := by decide +kernel
theorem dX4_count_54 : decode cX4_count 54 = .ok (.iload_n 2, 1) := by decide +kernel
theorem dX4_count_55 : decode cX4_count 55 = .ok (.aload_n 0, 1) := by decide +kernel
theorem dX4_count_56 : decode cX4_count 56 = .ok (.iload_n 3, 1) := by decide +kernel
theorem dX4_count_57 : decode cX4_count 57 = .ok (.invokevirtual 88, 3) := by decide +kernel
theorem dX4_count_60 : decode cX4_count 60 = .ok (.ifCond .le 7, 3) := by decide +kernel
theorem dX4_count_63 : decode cX4_count 63 = .ok (.iconst 1, 1) := by decide +kernel
theorem dX4_count_64 : decode cX4_count 64 = .ok (.goto 4, 3) := by decide +kernel
theorem dX4_count_67 : decode cX4_count 67 = .ok (.iconst 0, 1) := by decide +kernel
theorem dX4_count_68 : decode cX4_count 68 = .ok (.iadd, 1) := by decide +kernel
theorem dX4_count_69 : decode cX4_count 69 = .ok (.istore_n 2, 1) := by decide +kernel
theorem dX4_count_70 : decode cX4_count 70 = .ok (.iinc 3 1, 3) := by decide +kernel
theorem dX4_count_73 : decode cX4_count 73 = .ok (.goto (-25), 3) := by decide +kernel
theorem dX4_count_76 : decode cX4_count 76 = .ok (.iload_n 2, 1) := by decide +kernel
theorem dX4_count_77 : decode cX4_count 77 = .ok (.ireturn, 1) := by decide +kernel
theorem dX4_count_78 : decode cX4_count 78 = .ok (.aload_n 0, 1) := by decide +kernel
theorem dX4_count_79 : decode cX4_count 79 = .ok (.getfield 69, 3) := by decide +kernel
theorem dX4_count_82 : decode cX4_count 82 = .ok (.ireturn, 1) := by decide +kernel
theorem dX4_count_83 : decode cX4_count 83 = .ok (.aload_n 0, 1) := by decide +kernel
theorem dX4_count_84 : decode cX4_count 84 = .ok (.getfield 125, 3) := by decide +kernel
theorem dX4_count_87 : decode cX4_count 87 = .ok (.ireturn, 1) := by decide +kernel
theorem dX4_count_88 : decode cX4_count 88 = .ok (.iconst (-1), 1) := by decide +kernel
theorem dX4_count_89 : decode cX4_count 89 = .ok (.ireturn, 1) := by decide +kernel
theorem dX4_trace_0 : decode cX4_trace 0 = .ok (.aload_n 0, 1) := by decide +kernel
theorem dX4_trace_1 : decode cX4_trace 1 = .ok (.getfield 108, 3) := by decide +kernel
theorem dX4_trace_4 : decode cX4_trace 4 = .ok (.lreturn, 1) := by decide +kernel
theorem dJ13_bitCount_95d88_0 : decode cJ13_bitCount_95d88 0 = .ok (.lload_n 0, 1) := by decide +kernel
theorem dJ13_bitCount_95d88_1 : decode cJ13_bitCount_95d88 1 = .ok (.lload_n 0, 1) := by decide +kernel
theorem dJ13_bitCount_95d88_2 : decode cJ13_bitCount_95d88 2 = .ok (.iconst 1, 1) := by decide +kernel
theorem dJ13_bitCount_95d88_3 : decode cJ13_bitCount_95d88 3 = .ok (.lushr, 1) := by decide +kernel
theorem dJ13_bitCount_95d88_4 : decode cJ13_bitCount_95d88 4 = .ok (.ldc2_w 314, 3) := by decide +kernel
theorem dJ13_bitCount_95d88_7 : decode cJ13_bitCount_95d88 7 = .ok (.land, 1) := by decide +kernel
theorem dJ13_bitCount_95d88_8 : decode cJ13_bitCount_95d88 8 = .ok (.lsub, 1) := by decide +kernel
theorem dJ13_bitCount_95d88_9 : decode cJ13_bitCount_95d88 9 = .ok (.lstore_n 0, 1) := by decide +kernel
theorem dJ13_bitCount_95d88_10 : decode cJ13_bitCount_95d88 10 = .ok (.lload_n 0, 1) := by decide +kernel
theorem dJ13_bitCount_95d88_11 : decode cJ13_bitCount_95d88 11 = .ok (.ldc2_w 316, 3) := by decide +kernel
theorem dJ13_bitCount_95d88_14 : decode cJ13_bitCount_95d88 14 = .ok (.land, 1) := by decide +kernel
theorem dJ13_bitCount_95d88_15 : decode cJ13_bitCount_95d88 15 = .ok (.lload_n 0, 1) := by decide +kernel
theorem dJ13_bitCount_95d88_16 : decode cJ13_bitCount_95d88 16 = .ok (.iconst 2, 1) := by decide +kernel
theorem dJ13_bitCount_95d88_17 : decode cJ13_bitCount_95d88 17 = .ok (.lushr, 1) := by decide +kernel
theorem dJ13_bitCount_95d88_18 : decode cJ13_bitCount_95d88 18 = .ok (.ldc2_w 316, 3) := by decide +kernel
theorem dJ13_bitCount_95d88_21 : decode cJ13_bitCount_95d88 21 = .ok (.land, 1) := by decide +kernel
theorem dJ13_bitCount_95d88_22 : decode cJ13_bitCount_95d88 22 = .ok (.ladd, 1) := by decide +kernel
theorem dJ13_bitCount_95d88_23 : decode cJ13_bitCount_95d88 23 = .ok (.lstore_n 0, 1) := by decide +kernel
theorem dJ13_bitCount_95d88_24 : decode cJ13_bitCount_95d88 24 = .ok (.lload_n 0, 1) := by decide +kernel
theorem dJ13_bitCount_95d88_25 : decode cJ13_bitCount_95d88 25 = .ok (.lload_n 0, 1) := by decide +kernel
theorem dJ13_bitCount_95d88_26 : decode cJ13_bitCount_95d88 26 = .ok (.iconst 4, 1) := by decide +kernel
theorem dJ13_bitCount_95d88_27 : decode cJ13_bitCount_95d88 27 = .ok (.lushr, 1) := by decide +kernel
theorem dJ13_bitCount_95d88_28 : decode cJ13_bitCount_95d88 28 = .ok (.ladd, 1) := by decide +kernel
theorem dJ13_bitCount_95d88_29 : decode cJ13_bitCount_95d88 29 = .ok (.ldc2_w 318, 3) := by decide +kernel
theorem dJ13_bitCount_95d88_32 : decode cJ13_bitCount_95d88 32 = .ok (.land, 1) := by decide +kernel
theorem dJ13_bitCount_95d88_33 : decode cJ13_bitCount_95d88 33 = .ok (.lstore_n 0, 1) := by decide +kernel
theorem dJ13_bitCount_95d88_34 : decode cJ13_bitCount_95d88 34 = .ok (.lload_n 0, 1) := by decide +kernel
theorem dJ13_bitCount_95d88_35 : decode cJ13_bitCount_95d88 35 = .ok (.lload_n 0, 1) := by decide +kernel
theorem dJ13_bitCount_95d88_36 : decode cJ13_bitCount_95d88 36 = .ok (.bipush 8, 2) := by decide +kernel
theorem dJ13_bitCount_95d88_38 : decode cJ13_bitCount_95d88 38 = .ok (.lushr, 1) := by decide +kernel
theorem dJ13_bitCount_95d88_39 : decode cJ13_bitCount_95d88 39 = .ok (.ladd, 1) := by decide +kernel
theorem dJ13_bitCount_95d88_40 : decode cJ13_bitCount_95d88 40 = .ok (.lstore_n 0, 1) := by decide +kernel
theorem dJ13_bitCount_95d88_41 : decode cJ13_bitCount_95d88 41 = .ok (.lload_n 0, 1) := by decide +kernel
theorem dJ13_bitCount_95d88_42 : decode cJ13_bitCount_95d88 42 = .ok (.lload_n 0, 1) := by decide +kernel
theorem dJ13_bitCount_95d88_43 : decode cJ13_bitCount_95d88 43 = .ok (.bipush 16, 2) := by decide +kernel
theorem dJ13_bitCount_95d88_45 : decode cJ13_bitCount_95d88 45 = .ok (.lushr, 1) := by decide +kernel
theorem dJ13_bitCount_95d88_46 : decode cJ13_bitCount_95d88 46 = .ok (.ladd, 1) := by decide +kernel
theorem dJ13_bitCount_95d88_47 : decode cJ13_bitCount_95d88 47 = .ok (.lstore_n 0, 1) := by decide +kernel
theorem dJ13_bitCount_95d88_48 : decode cJ13_bitCount_95d88 48 = .ok (.lload_n 0, 1) := by decide +kernel
theorem dJ13_bitCount_95d88_49 : decode cJ13_bitCount_95d88 49 = .ok (.lload_n 0, 1) := by decide +kernel
theorem dJ13_bitCount_95d88_50 : decode cJ13_bitCount_95d88 50 = .ok (.bipush 32, 2) := by decide +kernel
theorem dJ13_bitCount_95d88_52 : decode cJ13_bitCount_95d88 52 = .ok (.lushr, 1) := by decide +kernel
theorem dJ13_bitCount_95d88_53 : decode cJ13_bitCount_95d88 53 = .ok (.ladd, 1) := by decide +kernel
theorem dJ13_bitCount_95d88_54 : decode cJ13_bitCount_95d88 54 = .ok (.lstore_n 0, 1) := by decide +kernel
theorem dJ13_bitCount_95d88_55 : decode cJ13_bitCount_95d88 55 = .ok (.lload_n 0, 1) := by decide +kernel
theorem dJ13_bitCount_95d88_56 : decode cJ13_bitCount_95d88 56 = .ok (.l2i, 1) := by decide +kernel
theorem dJ13_bitCount_95d88_57 : decode cJ13_bitCount_95d88 57 = .ok (.bipush 127, 2) := by decide +kernel
theorem dJ13_bitCount_95d88_59 : decode cJ13_bitCount_95d88 59 = .ok (.iand, 1) := by decide +kernel
theorem dJ13_bitCount_95d88_60 : decode cJ13_bitCount_95d88 60 = .ok (.ireturn, 1) := by decide +kernel
theorem dJ9_floorMod_7cf53_0 : decode cJ9_floorMod_7cf53 0 = .ok (.iload_n 0, 1) := by decide +kernel
theorem dJ9_floorMod_7cf53_1 : decode cJ9_floorMod_7cf53 1 = .ok (.iload_n 1, 1) := by decide +kernel
theorem dJ9_floorMod_7cf53_2 : decode cJ9_floorMod_7cf53 2 = .ok (.irem, 1) := by decide +kernel
theorem dJ9_floorMod_7cf53_3 : decode cJ9_floorMod_7cf53 3 = .ok (.istore_n 2, 1) := by decide +kernel
theorem dJ9_floorMod_7cf53_4 : decode cJ9_floorMod_7cf53 4 = .ok (.iload_n 0, 1) := by decide +kernel
theorem dJ9_floorMod_7cf53_5 : decode cJ9_floorMod_7cf53 5 = .ok (.iload_n 1, 1) := by decide +kernel
theorem dJ9_floorMod_7cf53_6 : decode cJ9_floorMod_7cf53 6 = .ok (.ixor, 1) := by decide +kernel
theorem dJ9_floorMod_7cf53_7 : decode cJ9_floorMod_7cf53 7 = .ok (.ifCond .ge 11, 3) := by decide +kernel
theorem dJ9_floorMod_7cf53_10 : decode cJ9_floorMod_7cf53 10 = .ok (.iload_n 2, 1) := by decide +kernel
theorem dJ9_floorMod_7cf53_11 : decode cJ9_floorMod_7cf53 11 = .ok (.ifCond .eq 7, 3) := by decide +kernel
theorem dJ9_floorMod_7cf53_14 : decode cJ9_floorMod_7cf53 14 = .ok (.iload_n 2, 1) := by decide +kernel
theorem dJ9_floorMod_7cf53_15 : decode cJ9_floorMod_7cf53 15 = .ok (.iload_n 1, 1) := by decide +kernel
theorem dJ9_floorMod_7cf53_16 : decode cJ9_floorMod_7cf53 16 = .ok (.iadd, 1) := by decide +kernel
theorem dJ9_floorMod_7cf53_17 : decode cJ9_floorMod_7cf53 17 = .ok (.ireturn, 1) := by decide +kernel
theorem dJ9_floorMod_7cf53_18 : decode cJ9_floorMod_7cf53 18 = .ok (.iload_n 2, 1) := by decide +kernel
theorem dJ9_floorMod_7cf53_19 : decode cJ9_floorMod_7cf53 19 = .ok (.ireturn, 1) := by decide +kernel
theorem dJ9_abs_0f7a4_0 : decode cJ9_abs_0f7a4 0 = .ok (.iload_n 0, 1) := by decide +kernel
theorem dJ9_abs_0f7a4_1 : decode cJ9_abs_0f7a4 1 = .ok (.ifCond .ge 8, 3) := by decide +kernel
theorem dJ9_abs_0f7a4_4 : decode cJ9_abs_0f7a4 4 = .ok (.iload_n 0, 1) := by decide +kernel
theorem dJ9_abs_0f7a4_5 : decode cJ9_abs_0f7a4 5 = .ok (.ineg, 1) := by decide +kernel
theorem dJ9_abs_0f7a4_6 : decode cJ9_abs_0f7a4 6 = .ok (.goto 4, 3) := by decide +kernel
theorem dJ9_abs_0f7a4_9 : decode cJ9_abs_0f7a4 9 = .ok (.iload_n 0, 1) := by decide +kernel
theorem dJ9_abs_0f7a4_10 : decode cJ9_abs_0f7a4 10 = .ok (.ireturn, 1) := by decide +kernel
theorem dJ9_max_7cf53_0 : decode cJ9_max_7cf53 0 = .ok (.iload_n 0, 1) := by decide +kernel
theorem dJ9_max_7cf53_1 : decode cJ9_max_7cf53 1 = .ok (.iload_n 1, 1) := by decide +kernel
theorem dJ9_max_7cf53_2 : decode cJ9_max_7cf53 2 = .ok (.if_icmp .lt 7, 3) := by decide +kernel
theorem dJ9_max_7cf53_5 : decode cJ9_max_7cf53 5 = .ok (.iload_n 0, 1) := by decide +kernel
theorem dJ9_max_7cf53_6 : decode cJ9_max_7cf53 6 = .ok (.goto 4, 3) := by decide +kernel
theorem dJ9_max_7cf53_9 : decode cJ9_max_7cf53 9 = .ok (.iload_n 1, 1) := by decide +kernel
theorem dJ9_max_7cf53_10 : decode cJ9_max_7cf53 10 = .ok (.ireturn, 1) := by decide +kernel
theorem dJ9_min_7cf53_0 : decode cJ9_min_7cf53 0 = .ok (.iload_n 0, 1) := by decide +kernel
theorem dJ9_min_7cf53_1 : decode cJ9_min_7cf53 1 = .ok (.iload_n 1, 1) := by decide +kernel
theorem dJ9_min_7cf53_2 : decode cJ9_min_7cf53 2 = .ok (.if_icmp .gt 7, 3) := by decide +kernel
theorem dJ9_min_7cf53_5 : decode cJ9_min_7cf53 5 = .ok (.iload_n 0, 1) := by decide +kernel
theorem dJ9_min_7cf53_6 : decode cJ9_min_7cf53 6 = .ok (.goto 4, 3) := by decide +kernel
theorem dJ9_min_7cf53_9 : decode cJ9_min_7cf53 9 = .ok (.iload_n 1, 1) := by decide +kernel
theorem dJ9_min_7cf53_10 : decode cJ9_min_7cf53 10 = .ok (.ireturn, 1) := by decide +kernel
set_option maxRecDepth 20000 in
theorem ggL_law_X3_init : GoodIn wsL_law wsX3_init := goodIn_r _ [8, 9, 10, 11, 12, 13, 14, 15, 16, 17, 18, 19, 20, 21, 22, 23, 24, 25, 26, 27, 28, 29, 30, 31, 32, 33, 34, 35, 36, 37, 38, 39, 40, 41, 42, 43, 44, 45, 46, 47, 48, 49, 50, 51, 52, 53, 54, 55, 56, 2, 57, 58, 59, 60, 61, 62, 63, 64, 65, 66, 67, 68, 69, 656, 657, 658, 659, 660, 622, 623, 624, 625, 626, 627, 628, 629, 661, 662, 663, 664, 665, 666, 667, 668, 669, 670, 671, 672] (by decide +kernel) (by decide +kernel)
set_option maxRecDepth 20000 in
theorem gL_law_X3_init : GoodIn wsL_law (wsX3_init) := ggL_law_X3_init
set_option maxRecDepth 20000 in
theorem ggL_law_X4_init : GoodIn wsL_law wsX4_init := goodIn_r _ [72, 73, 10, 11, 74, 75, 25, 76, 77, 78, 79, 80, 81, 82, 83, 84, 85, 86, 87, 88, 89, 90, 91, 92, 93, 94, 5, 95, 96, 97, 98, 99, 100, 630, 631, 632, 633, 634, 635, 636, 637, 638, 639, 640, 641, 642, 643, 644, 645, 646, 647, 648, 649, 650, 651, 652, 653, 654, 655] (by decide +kernel) (by decide +kernel)
set_option maxRecDepth 20000 in
theorem gL_law_X4_init : GoodIn wsL_law (wsX4_init) := ggL_law_X4_init
set_option maxRecDepth 20000 in
theorem ggL_law_X3_board : GoodIn wsL_law wsX3_board := goodIn_r _ [104, 15, 19, 47, 48, 49, 14, 50, 51, 52, 53, 54, 55, 33, 56, 2, 57, 58, 59, 60, 61, 62, 63, 64, 65, 66, 67, 68, 69, 26, 27, 105, 106, 107, 18, 108, 109, 622, 623, 624, 625, 626, 627, 628, 629, 656, 657, 658, 659, 660, 661, 662, 663, 664, 665] (by decide +kernel) (by decide +kernel)
set_option maxRecDepth 20000 in
theorem gL_law_X3_board : GoodIn wsL_law (wsV RL 13 RX3 yX3_board wsX3_board) := goodIn_app (goodIn_of _ (by decide +kernel)) ggL_law_X3_board
set_option maxRecDepth 20000 in
theorem ggL_law_X4_board : GoodIn wsL_law wsX4_board := goodIn_r _ [113, 74, 75, 114, 115, 5, 116, 92, 93, 94, 95, 76, 96, 97, 98, 99, 77, 78, 100, 630, 631, 632, 633, 634, 635, 636, 637, 638, 639, 640, 641, 642, 643, 644, 645, 646, 647, 648, 649, 650, 651, 652, 653, 654, 655] (by decide +kernel) (by decide +kernel)
set_option maxRecDepth 20000 in
theorem gL_law_X4_board : GoodIn wsL_law (wsV RL 17 RX4 yX4_board wsX4_board) := goodIn_app (goodIn_of _ (by decide +kernel)) ggL_law_X4_board
set_option maxRecDepth 20000 in
theorem ggL_law_X3_set : GoodIn wsL_law wsX3_set := goodIn_r _ [120, 15, 19, 121, 122, 123, 14, 124, 51, 52, 125, 126, 2, 127, 128, 129, 130, 131, 132, 133, 134, 135, 136, 137, 33, 138, 139, 140, 141, 142, 143, 54, 105, 106, 107, 18, 108, 109, 622, 623, 624, 625, 626, 627, 628, 629, 656, 657, 658, 659, 660, 661, 662, 663, 664, 665] (by decide +kernel) (by decide +kernel)
set_option maxRecDepth 20000 in
theorem gL_law_X3_set : GoodIn wsL_law (wsV RL 18 RX3 yX3_set wsX3_set) := goodIn_app (goodIn_of _ (by decide +kernel)) ggL_law_X3_set
set_option maxRecDepth 20000 in
theorem ggL_law_X4_set : GoodIn wsL_law wsX4_set := goodIn_r _ [147, 76, 100, 148, 149, 150, 5, 151, 74, 152, 153, 154, 155, 75, 114, 115, 116, 156, 157, 158, 630, 631, 632, 633, 634, 635, 636, 637, 638, 639, 640, 641, 642, 643, 644, 645, 646, 647, 648, 649, 650, 651, 652, 653, 654, 655] (by decide +kernel) (by decide +kernel)
set_option maxRecDepth 20000 in
theorem gL_law_X4_set : GoodIn wsL_law (wsV RL 22 RX4 yX4_set wsX4_set) := goodIn_app (goodIn_of _ (by decide +kernel)) ggL_law_X4_set
set_option maxRecDepth 20000 in
theorem ggL_law_X3_at : GoodIn wsL_law wsX3_at := goodIn_r _ [162, 15, 121, 122, 123, 14, 124, 51, 52, 131, 132, 2, 133, 134, 135, 136, 137, 33, 138, 139, 622, 623, 624, 625, 626, 627, 628, 629, 656, 657, 658, 659, 660] (by decide +kernel) (by decide +kernel)
set_option maxRecDepth 20000 in
theorem gL_law_X3_at : GoodIn wsL_law (wsV RL 23 RX3 yX3_at wsX3_at) := goodIn_app (goodIn_of _ (by decide +kernel)) ggL_law_X3_at
set_option maxRecDepth 20000 in
theorem ggL_law_X4_at : GoodIn wsL_law wsX4_at := goodIn_r _ [166, 76, 148, 149, 150, 5, 151, 74, 152, 153, 154, 155, 75, 114, 115, 116, 630, 631, 632, 633, 634, 635, 636, 637, 638, 639, 640, 641, 642, 643, 644, 645, 646, 647, 648, 649, 650, 651, 652, 653, 654, 655] (by decide +kernel) (by decide +kernel)
set_option maxRecDepth 20000 in
theorem gL_law_X4_at : GoodIn wsL_law (wsV RL 26 RX4 yX4_at wsX4_at) := goodIn_app (goodIn_of _ (by decide +kernel)) ggL_law_X4_at
set_option maxRecDepth 20000 in
theorem ggL_law_X3_size : GoodIn wsL_law wsX3_size := goodIn_r _ [170, 15, 128, 129, 2, 130, 171, 172, 173, 14, 174, 175, 176, 177, 178, 33, 179, 180, 181, 182, 183, 184, 185, 622, 623, 624, 625, 626, 627, 628, 629, 656, 657, 658, 659, 660] (by decide +kernel) (by decide +kernel)
set_option maxRecDepth 20000 in
theorem gL_law_X3_size : GoodIn wsL_law (wsV RL 27 RX3 yX3_size wsX3_size) := goodIn_app (goodIn_of _ (by decide +kernel)) ggL_law_X3_size
set_option maxRecDepth 20000 in
theorem ggL_law_X4_size : GoodIn wsL_law wsX4_size := goodIn_r _ [189, 156, 157, 5, 158, 114, 115, 116, 190, 191, 192, 193, 74, 75, 76, 630, 631, 632, 633, 634, 635, 636, 637, 638, 639, 640, 641, 642, 643, 644, 645, 646, 647, 648, 649, 650, 651, 652, 653, 654, 655] (by decide +kernel) (by decide +kernel)
set_option maxRecDepth 20000 in
theorem gL_law_X4_size : GoodIn wsL_law (wsV RL 31 RX4 yX4_size wsX4_size) := goodIn_app (goodIn_of _ (by decide +kernel)) ggL_law_X4_size
set_option maxRecDepth 20000 in
theorem ggL_law_X3_whole : GoodIn wsL_law wsX3_whole := goodIn_r _ [197, 15, 128, 129, 2, 130, 198, 176, 177, 14, 178, 33, 199, 200, 201, 202, 203, 204, 58, 59, 60, 61, 62, 63, 64, 65, 205, 206, 207, 622, 623, 624, 625, 626, 627, 628, 629, 656, 657, 658, 659, 660] (by decide +kernel) (by decide +kernel)
set_option maxRecDepth 20000 in
theorem gL_law_X3_whole : GoodIn wsL_law (wsV RL 32 RX3 yX3_whole wsX3_whole) := goodIn_app (goodIn_of _ (by decide +kernel)) ggL_law_X3_whole
set_option maxRecDepth 20000 in
theorem ggL_law_X4_whole : GoodIn wsL_law wsX4_whole := goodIn_r _ [211, 156, 157, 5, 158, 114, 115, 116, 212, 213, 214, 215, 74, 75, 76, 88, 87, 216, 217, 218, 219, 148, 149, 150, 151, 152, 153, 154, 155, 190, 191, 192, 193, 630, 631, 632, 633, 634, 635, 636, 637, 638, 639, 640, 641, 642, 643, 644, 645, 646, 647, 648, 649, 650, 651, 652, 653, 654, 655] (by decide +kernel) (by decide +kernel)
set_option maxRecDepth 20000 in
theorem gL_law_X4_whole : GoodIn wsL_law (wsV RL 35 RX4 yX4_whole wsX4_whole) := goodIn_app (goodIn_of _ (by decide +kernel)) ggL_law_X4_whole
set_option maxRecDepth 20000 in
theorem ggL_law_X3_touch : GoodIn wsL_law wsX3_touch := goodIn_r _ [223, 15, 125, 126, 2, 127, 128, 129, 130, 198, 176, 177, 14, 178, 33, 224, 225, 226, 227, 53, 54, 55, 228, 229, 230, 231, 203, 204, 58, 59, 60, 61, 62, 63, 64, 65, 205, 206, 207, 202, 622, 623, 624, 625, 626, 627, 628, 629, 656, 657, 658, 659, 660] (by decide +kernel) (by decide +kernel)
set_option maxRecDepth 20000 in
theorem gL_law_X3_touch : GoodIn wsL_law (wsV RL 36 RX3 yX3_touch wsX3_touch) := goodIn_app (goodIn_of _ (by decide +kernel)) ggL_law_X3_touch
set_option maxRecDepth 20000 in
theorem ggL_law_X4_touch : GoodIn wsL_law wsX4_touch := goodIn_r _ [235, 156, 157, 5, 158, 114, 115, 116, 236, 237, 238, 239, 240, 241, 242, 243, 74, 75, 76, 216, 217, 218, 219, 148, 149, 150, 151, 152, 153, 154, 155, 244, 245, 246, 630, 631, 632, 633, 634, 635, 636, 637, 638, 639, 640, 641, 642, 643, 644, 645, 646, 647, 648, 649, 650, 651, 652, 653, 654, 655] (by decide +kernel) (by decide +kernel)
set_option maxRecDepth 20000 in
theorem gL_law_X4_touch : GoodIn wsL_law (wsV RL 39 RX4 yX4_touch wsX4_touch) := goodIn_app (goodIn_of _ (by decide +kernel)) ggL_law_X4_touch
set_option maxRecDepth 20000 in
theorem ggL_law_X3_kind : GoodIn wsL_law wsX3_kind := goodIn_r _ [250, 15, 26, 27, 128, 129, 2, 130, 121, 122, 123, 14, 124, 51, 52, 131, 132, 133, 134, 135, 136, 137, 33, 138, 139, 622, 623, 624, 625, 626, 627, 628, 629, 656, 657, 658, 659, 660] (by decide +kernel) (by decide +kernel)
set_option maxRecDepth 20000 in
theorem gL_law_X3_kind : GoodIn wsL_law (wsV RL 40 RX3 yX3_kind wsX3_kind) := goodIn_app (goodIn_of _ (by decide +kernel)) ggL_law_X3_kind
set_option maxRecDepth 20000 in
theorem ggL_law_X4_kind : GoodIn wsL_law wsX4_kind := goodIn_r _ [254, 76, 77, 78, 156, 157, 5, 158, 114, 115, 116, 152, 153, 154, 155, 74, 75, 148, 149, 150, 151, 630, 631, 632, 633, 634, 635, 636, 637, 638, 639, 640, 641, 642, 643, 644, 645, 646, 647, 648, 649, 650, 651, 652, 653, 654, 655] (by decide +kernel) (by decide +kernel)
set_option maxRecDepth 20000 in
theorem gL_law_X4_kind : GoodIn wsL_law (wsV RL 44 RX4 yX4_kind wsX4_kind) := goodIn_app (goodIn_of _ (by decide +kernel)) ggL_law_X4_kind
set_option maxRecDepth 20000 in
theorem ggL_law_X3_about : GoodIn wsL_law wsX3_about := goodIn_r _ [258, 26, 27, 28, 128, 129, 2, 130, 259, 260, 261, 262, 263, 264, 622, 623, 624, 625, 626, 627, 628, 629] (by decide +kernel) (by decide +kernel)
set_option maxRecDepth 20000 in
theorem gL_law_X3_about : GoodIn wsL_law (wsV RL 45 RX3 yX3_about wsX3_about) := goodIn_app (goodIn_of _ (by decide +kernel)) ggL_law_X3_about
set_option maxRecDepth 20000 in
theorem ggL_law_X4_about : GoodIn wsL_law wsX4_about := goodIn_r _ [268, 77, 78, 74, 79, 156, 157, 5, 158, 114, 115, 116, 630, 631, 632, 633, 634, 635, 636, 637, 638, 639, 640, 641, 642, 643, 644, 645, 646, 647, 648, 649, 650, 651, 652, 653, 654, 655] (by decide +kernel) (by decide +kernel)
set_option maxRecDepth 20000 in
theorem gL_law_X4_about : GoodIn wsL_law (wsV RL 48 RX4 yX4_about wsX4_about) := goodIn_app (goodIn_of _ (by decide +kernel)) ggL_law_X4_about
set_option maxRecDepth 20000 in
theorem ggL_law_X3_leaves : GoodIn wsL_law wsX3_leaves := goodIn_r _ [272, 273, 26, 274, 160, 161, 2, 162, 15, 121, 122, 123, 14, 124, 51, 52, 131, 132, 133, 134, 135, 136, 137, 33, 138, 139, 128, 129, 130, 275, 276, 277, 278, 279, 280, 281, 282, 27, 198, 176, 177, 178, 283, 199, 200, 201, 202, 203, 204, 58, 59, 60, 61, 62, 63, 64, 65, 224, 225, 226, 227, 53, 54, 55, 228, 229, 230, 231, 205, 206, 207, 622, 623, 624, 625, 626, 627, 628, 629, 656, 657, 658, 659, 660] (by decide +kernel) (by decide +kernel)
set_option maxRecDepth 20000 in
theorem gL_law_X3_leaves : GoodIn wsL_law (wsV RL 49 RX3 yX3_leaves wsX3_leaves) := goodIn_app (goodIn_of _ (by decide +kernel)) ggL_law_X3_leaves
set_option maxRecDepth 20000 in
theorem ggL_law_X4_leaves : GoodIn wsL_law wsX4_leaves := goodIn_r _ [287, 76, 77, 288, 289, 290, 148, 149, 150, 5, 151, 74, 152, 153, 154, 155, 75, 114, 115, 116, 291, 292, 293, 294, 78, 212, 213, 214, 215, 88, 87, 216, 217, 218, 219, 190, 191, 192, 193, 630, 631, 632, 633, 634, 635, 636, 637, 638, 639, 640, 641, 642, 643, 644, 645, 646, 647, 648, 649, 650, 651, 652, 653, 654, 655] (by decide +kernel) (by decide +kernel)
set_option maxRecDepth 20000 in
theorem gL_law_X4_leaves : GoodIn wsL_law (wsV RL 52 RX4 yX4_leaves wsX4_leaves) := goodIn_app (goodIn_of _ (by decide +kernel)) ggL_law_X4_leaves
set_option maxRecDepth 20000 in
theorem ggL_law_X3_may : GoodIn wsL_law wsX3_may := goodIn_r _ [298, 15, 121, 122, 123, 14, 124, 51, 52, 128, 129, 2, 130, 131, 132, 133, 299, 300, 301, 302, 134, 135, 136, 137, 33, 138, 139, 283, 202, 203, 204, 58, 59, 60, 61, 62, 63, 64, 65, 198, 176, 177, 178, 278, 279, 280, 281, 282, 27, 26, 199, 200, 201, 224, 225, 226, 227, 53, 54, 55, 228, 229, 230, 231, 303, 304, 305, 306, 307, 140, 141, 142, 143, 205, 206, 207, 622, 623, 624, 625, 626, 627, 628, 629, 656, 657, 658, 659, 660] (by decide +kernel) (by decide +kernel)
set_option maxRecDepth 20000 in
theorem gL_law_X3_may : GoodIn wsL_law (wsV RL 53 RX3 yX3_may wsX3_may) := goodIn_app (goodIn_of _ (by decide +kernel)) ggL_law_X3_may
set_option maxRecDepth 20000 in
theorem ggL_law_X4_may : GoodIn wsL_law wsX4_may := goodIn_r _ [311, 148, 149, 150, 5, 151, 74, 152, 153, 154, 155, 75, 114, 115, 116, 156, 157, 158, 312, 313, 314, 315, 76, 216, 217, 218, 219, 291, 292, 293, 294, 77, 78, 212, 213, 214, 215, 88, 87, 190, 191, 192, 193, 240, 241, 242, 243, 244, 245, 246, 630, 631, 632, 633, 634, 635, 636, 637, 638, 639, 640, 641, 642, 643, 644, 645, 646, 647, 648, 649, 650, 651, 652, 653, 654, 655] (by decide +kernel) (by decide +kernel)
set_option maxRecDepth 20000 in
theorem gL_law_X4_may : GoodIn wsL_law (wsV RL 56 RX4 yX4_may wsX4_may) := goodIn_app (goodIn_of _ (by decide +kernel)) ggL_law_X4_may
set_option maxRecDepth 20000 in
theorem ggL_law_X3_move : GoodIn wsL_law wsX3_move := goodIn_r _ [319, 15, 121, 122, 123, 14, 124, 51, 52, 128, 129, 2, 130, 131, 132, 133, 299, 300, 301, 302, 134, 135, 136, 137, 33, 138, 139, 283, 202, 203, 204, 58, 59, 60, 61, 62, 63, 64, 65, 198, 176, 177, 178, 278, 279, 280, 281, 282, 27, 26, 199, 200, 201, 224, 225, 226, 227, 53, 54, 55, 228, 229, 230, 231, 303, 304, 305, 306, 307, 140, 141, 142, 143, 320, 321, 322, 323, 19, 324, 325, 326, 18, 327, 328, 37, 38, 109, 329, 330, 331, 332, 333, 334, 335, 336, 337, 622, 623, 624, 625, 626, 627, 628, 629, 656, 657, 658, 659, 660, 661, 662, 663, 664, 665] (by decide +kernel) (by decide +kernel)
set_option maxRecDepth 20000 in
theorem gL_law_X3_move : GoodIn wsL_law (wsV RL 57 RX3 yX3_move wsX3_move) := goodIn_app (goodIn_of _ (by decide +kernel)) ggL_law_X3_move
set_option maxRecDepth 20000 in
theorem ggL_law_X4_move : GoodIn wsL_law wsX4_move := goodIn_r _ [341, 76, 148, 149, 150, 5, 151, 74, 152, 153, 154, 155, 75, 114, 115, 116, 156, 157, 158, 312, 313, 314, 315, 216, 217, 218, 219, 291, 292, 293, 294, 77, 78, 212, 213, 214, 215, 88, 87, 190, 191, 192, 193, 240, 241, 242, 243, 244, 245, 246, 342, 343, 344, 345, 80, 346, 81, 100, 347, 630, 631, 632, 633, 634, 635, 636, 637, 638, 639, 640, 641, 642, 643, 644, 645, 646, 647, 648, 649, 650, 651, 652, 653, 654, 655] (by decide +kernel) (by decide +kernel)
set_option maxRecDepth 20000 in
theorem gL_law_X4_move : GoodIn wsL_law (wsV RL 60 RX4 yX4_move wsX4_move) := goodIn_app (goodIn_of _ (by decide +kernel)) ggL_law_X4_move
set_option maxRecDepth 20000 in
theorem ggL_law_X3_want : GoodIn wsL_law wsX3_want := goodIn_r _ [351, 28, 128, 129, 2, 130, 622, 623, 624, 625, 626, 627, 628, 629] (by decide +kernel) (by decide +kernel)
set_option maxRecDepth 20000 in
theorem gL_law_X3_want : GoodIn wsL_law (wsV RL 61 RX3 yX3_want wsX3_want) := goodIn_app (goodIn_of _ (by decide +kernel)) ggL_law_X3_want
set_option maxRecDepth 20000 in
theorem ggL_law_X4_want : GoodIn wsL_law wsX4_want := goodIn_r _ [355, 79, 156, 157, 5, 158, 114, 115, 116, 630, 631, 632, 633, 634, 635, 636, 637, 638, 639, 640, 641, 642, 643, 644, 645, 646, 647, 648, 649, 650, 651, 652, 653, 654, 655] (by decide +kernel) (by decide +kernel)
set_option maxRecDepth 20000 in
theorem gL_law_X4_want : GoodIn wsL_law (wsV RL 64 RX4 yX4_want wsX4_want) := goodIn_app (goodIn_of _ (by decide +kernel)) ggL_law_X4_want
set_option maxRecDepth 20000 in
theorem ggL_law_X3_miss : GoodIn wsL_law wsX3_miss := goodIn_r _ [359, 15, 171, 172, 173, 14, 174, 175, 176, 177, 178, 33, 129, 2, 130, 179, 180, 181, 182, 183, 184, 185, 360, 361, 362, 363, 28, 364, 365, 331, 366, 128, 622, 623, 624, 625, 626, 627, 628, 629, 656, 657, 658, 659, 660] (by decide +kernel) (by decide +kernel)
set_option maxRecDepth 20000 in
theorem gL_law_X3_miss : GoodIn wsL_law (wsV RL 65 RX3 yX3_miss wsX3_miss) := goodIn_app (goodIn_of _ (by decide +kernel)) ggL_law_X3_miss
set_option maxRecDepth 20000 in
theorem ggL_law_X4_miss : GoodIn wsL_law wsX4_miss := goodIn_r _ [370, 371, 372, 373, 5, 374, 79, 190, 191, 192, 193, 74, 75, 76, 630, 631, 632, 633, 634, 635, 636, 637, 638, 639, 640, 641, 642, 643, 644, 645, 646, 647, 648, 649, 650, 651, 652, 653, 654, 655] (by decide +kernel) (by decide +kernel)
set_option maxRecDepth 20000 in
theorem gL_law_X4_miss : GoodIn wsL_law (wsV RL 69 RX4 yX4_miss wsX4_miss) := goodIn_app (goodIn_of _ (by decide +kernel)) ggL_law_X4_miss
set_option maxRecDepth 20000 in
theorem ggL_law_X3_steps : GoodIn wsL_law wsX3_steps := goodIn_r _ [378, 379, 380, 381, 2, 382, 15, 383, 357, 358, 359, 171, 172, 173, 14, 174, 175, 176, 177, 178, 33, 129, 130, 179, 180, 181, 182, 183, 184, 185, 360, 361, 362, 363, 28, 364, 365, 331, 366, 128, 134, 135, 136, 137, 138, 139, 384, 385, 386, 387, 299, 300, 301, 302, 283, 202, 203, 204, 58, 59, 60, 61, 62, 63, 64, 65, 198, 278, 279, 280, 281, 282, 27, 26, 199, 200, 201, 224, 225, 226, 227, 53, 54, 55, 228, 229, 230, 231, 303, 304, 305, 306, 307, 140, 141, 142, 143, 320, 321, 322, 323, 19, 324, 325, 326, 18, 327, 328, 37, 38, 109, 329, 330, 332, 333, 334, 335, 336, 337, 622, 623, 624, 625, 626, 627, 628, 629, 656, 657, 658, 659, 660, 661, 662, 663, 664, 665] (by decide +kernel) (by decide +kernel)
set_option maxRecDepth 20000 in
theorem gL_law_X3_steps : GoodIn wsL_law (wsV RL 70 RX3 yX3_steps wsX3_steps) := goodIn_app (goodIn_of _ (by decide +kernel)) ggL_law_X3_steps
set_option maxRecDepth 20000 in
theorem ggL_law_X4_steps : GoodIn wsL_law wsX4_steps := goodIn_r _ [391, 114, 115, 5, 116, 392, 393, 394, 395, 74, 75, 76, 371, 372, 373, 374, 79, 190, 191, 192, 193, 312, 313, 314, 315, 216, 217, 218, 219, 148, 149, 150, 151, 152, 153, 154, 155, 291, 292, 293, 294, 77, 78, 212, 213, 214, 215, 88, 87, 240, 241, 242, 243, 244, 245, 246, 342, 343, 344, 345, 80, 346, 81, 100, 347, 630, 631, 632, 633, 634, 635, 636, 637, 638, 639, 640, 641, 642, 643, 644, 645, 646, 647, 648, 649, 650, 651, 652, 653, 654, 655] (by decide +kernel) (by decide +kernel)
set_option maxRecDepth 20000 in
theorem gL_law_X4_steps : GoodIn wsL_law (wsV RL 73 RX4 yX4_steps wsX4_steps) := goodIn_app (goodIn_of _ (by decide +kernel)) ggL_law_X4_steps
set_option maxRecDepth 20000 in
theorem ggL_law_X3_undo : GoodIn wsL_law wsX3_undo := goodIn_r _ [399, 19, 400, 15, 401, 402, 403, 18, 404, 37, 328, 334, 335, 336, 337, 405, 406, 407, 408, 38, 140, 141, 142, 14, 143, 33, 54, 138, 2, 139, 409, 410, 411, 412, 109, 622, 623, 624, 625, 626, 627, 628, 629, 661, 662, 663, 664, 665, 656, 657, 658, 659, 660] (by decide +kernel) (by decide +kernel)
set_option maxRecDepth 20000 in
theorem gL_law_X3_undo : GoodIn wsL_law (wsV RL 74 RX3 yX3_undo wsX3_undo) := goodIn_app (goodIn_of _ (by decide +kernel)) ggL_law_X3_undo
set_option maxRecDepth 20000 in
theorem ggL_law_X4_undo : GoodIn wsL_law wsX4_undo := goodIn_r _ [416, 100, 346, 76, 80, 81, 114, 115, 5, 116, 630, 631, 632, 633, 634, 635, 636, 637, 638, 639, 640, 641, 642, 643, 644, 645, 646, 647, 648, 649, 650, 651, 652, 653, 654, 655] (by decide +kernel) (by decide +kernel)
set_option maxRecDepth 20000 in
theorem gL_law_X4_undo : GoodIn wsL_law (wsV RL 77 RX4 yX4_undo wsX4_undo) := goodIn_app (goodIn_of _ (by decide +kernel)) ggL_law_X4_undo
set_option maxRecDepth 20000 in
theorem ggL_law_X3_label : GoodIn wsL_law wsX3_label := goodIn_r _ [420, 15, 128, 129, 2, 130, 198, 176, 177, 14, 178, 33, 421, 56, 57, 58, 59, 60, 61, 62, 63, 64, 65, 422, 423, 424, 283, 138, 139, 259, 260, 261, 262, 263, 264, 622, 623, 624, 625, 626, 627, 628, 629, 656, 657, 658, 659, 660] (by decide +kernel) (by decide +kernel)
set_option maxRecDepth 20000 in
theorem gL_law_X3_label : GoodIn wsL_law (wsV RL 78 RX3 yX3_label wsX3_label) := goodIn_app (goodIn_of _ (by decide +kernel)) ggL_law_X3_label
set_option maxRecDepth 20000 in
theorem ggL_law_X4_label : GoodIn wsL_law wsX4_label := goodIn_r _ [428, 74, 75, 89, 156, 157, 5, 158, 114, 115, 116, 190, 191, 192, 193, 76, 429, 430, 431, 432, 216, 217, 218, 219, 148, 149, 150, 151, 152, 153, 154, 155, 630, 631, 632, 633, 634, 635, 636, 637, 638, 639, 640, 641, 642, 643, 644, 645, 646, 647, 648, 649, 650, 651, 652, 653, 654, 655] (by decide +kernel) (by decide +kernel)
set_option maxRecDepth 20000 in
theorem gL_law_X4_label : GoodIn wsL_law (wsV RL 81 RX4 yX4_label wsX4_label) := goodIn_app (goodIn_of _ (by decide +kernel)) ggL_law_X4_label
set_option maxRecDepth 20000 in
theorem ggL_law_X3_longer : GoodIn wsL_law wsX3_longer := goodIn_r _ [436, 23, 15, 437, 438, 439, 2, 440, 128, 129, 130, 171, 172, 173, 14, 174, 175, 176, 177, 178, 33, 179, 180, 181, 182, 183, 184, 185, 441, 442, 443, 444, 445, 446, 447, 22, 448, 449, 450, 42, 43, 451, 452, 453, 454, 455, 456, 457, 458, 459, 460, 461, 331, 462, 44, 45, 46, 463, 464, 465, 466, 467, 468, 469, 470, 471, 472, 473, 474, 475, 476, 477, 478, 479, 480, 481, 482, 483, 330, 332, 484, 485, 486, 622, 623, 624, 625, 626, 627, 628, 629, 656, 657, 658, 659, 660, 666, 667, 668, 669, 670, 671, 672] (by decide +kernel) (by decide +kernel)
set_option maxRecDepth 20000 in
theorem gL_law_X3_longer : GoodIn wsL_law (wsV RL 82 RX3 yX3_longer wsX3_longer) := goodIn_app (goodIn_of _ (by decide +kernel)) ggL_law_X3_longer
set_option maxRecDepth 20000 in
theorem ggL_law_X4_longer : GoodIn wsL_law wsX4_longer := goodIn_r _ [490, 114, 115, 5, 116, 491, 492, 493, 494, 495, 91, 156, 157, 158, 190, 191, 192, 193, 74, 75, 76, 496, 497, 498, 499, 500, 90, 501, 502, 503, 504, 505, 506, 507, 508, 509, 510, 511, 512, 513, 514, 515, 516, 517, 518, 630, 631, 632, 633, 634, 635, 636, 637, 638, 639, 640, 641, 642, 643, 644, 645, 646, 647, 648, 649, 650, 651, 652, 653, 654, 655] (by decide +kernel) (by decide +kernel)
set_option maxRecDepth 20000 in
theorem gL_law_X4_longer : GoodIn wsL_law (wsV RL 85 RX4 yX4_longer wsX4_longer) := goodIn_app (goodIn_of _ (by decide +kernel)) ggL_law_X4_longer
set_option maxRecDepth 20000 in
theorem ggL_law_X3_box : GoodIn wsL_law wsX3_box := goodIn_r _ [522, 23, 15, 437, 438, 439, 2, 440, 128, 129, 130, 171, 172, 173, 14, 174, 175, 176, 177, 178, 33, 179, 180, 181, 182, 183, 184, 185, 441, 442, 443, 444, 445, 446, 447, 22, 448, 449, 450, 42, 43, 451, 452, 453, 454, 455, 456, 457, 458, 459, 460, 461, 331, 462, 44, 45, 46, 463, 464, 465, 466, 523, 524, 525, 526, 527, 528, 622, 623, 624, 625, 626, 627, 628, 629, 656, 657, 658, 659, 660, 666, 667, 668, 669, 670, 671, 672] (by decide +kernel) (by decide +kernel)
set_option maxRecDepth 20000 in
theorem gL_law_X3_box : GoodIn wsL_law (wsV RL 86 RX3 yX3_box wsX3_box) := goodIn_app (goodIn_of _ (by decide +kernel)) ggL_law_X3_box
set_option maxRecDepth 20000 in
theorem ggL_law_X4_box : GoodIn wsL_law wsX4_box := goodIn_r _ [532, 505, 506, 507, 500, 90, 114, 115, 5, 116, 491, 492, 493, 494, 495, 91, 156, 157, 158, 190, 191, 192, 193, 74, 75, 76, 496, 497, 498, 499, 501, 502, 503, 504, 630, 631, 632, 633, 634, 635, 636, 637, 638, 639, 640, 641, 642, 643, 644, 645, 646, 647, 648, 649, 650, 651, 652, 653, 654, 655] (by decide +kernel) (by decide +kernel)
set_option maxRecDepth 20000 in
theorem gL_law_X4_box : GoodIn wsL_law (wsV RL 89 RX4 yX4_box wsX4_box) := goodIn_app (goodIn_of _ (by decide +kernel)) ggL_law_X4_box
set_option maxRecDepth 20000 in
theorem ggL_law_X3_best : GoodIn wsL_law wsX3_best := goodIn_r _ [536, 23, 15, 537, 445, 446, 447, 22, 448, 449, 450, 42, 43, 451, 172, 173, 14, 174, 175, 176, 177, 178, 33, 129, 2, 130, 179, 180, 181, 182, 183, 184, 185, 538, 539, 540, 541, 460, 461, 331, 462, 542, 453, 454, 455, 456, 457, 458, 459, 44, 45, 46, 543, 544, 545, 546, 547, 468, 469, 470, 471, 472, 473, 474, 475, 476, 477, 478, 548, 480, 481, 482, 483, 330, 332, 622, 623, 624, 625, 626, 627, 628, 629, 666, 667, 668, 669, 670, 671, 672, 656, 657, 658, 659, 660] (by decide +kernel) (by decide +kernel)
set_option maxRecDepth 20000 in
theorem gL_law_X3_best : GoodIn wsL_law (wsV RL 90 RX3 yX3_best wsX3_best) := goodIn_app (goodIn_of _ (by decide +kernel)) ggL_law_X3_best
set_option maxRecDepth 20000 in
theorem ggL_law_X4_best : GoodIn wsL_law wsX4_best := goodIn_r _ [552, 495, 496, 497, 498, 5, 499, 500, 90, 91, 190, 191, 192, 193, 74, 75, 76, 501, 502, 503, 504, 505, 506, 507, 508, 509, 510, 511, 512, 513, 514, 515, 516, 517, 518, 630, 631, 632, 633, 634, 635, 636, 637, 638, 639, 640, 641, 642, 643, 644, 645, 646, 647, 648, 649, 650, 651, 652, 653, 654, 655] (by decide +kernel) (by decide +kernel)
set_option maxRecDepth 20000 in
theorem gL_law_X4_best : GoodIn wsL_law (wsV RL 93 RX4 yX4_best wsX4_best) := goodIn_app (goodIn_of _ (by decide +kernel)) ggL_law_X4_best
set_option maxRecDepth 20000 in
theorem ggL_law_X3_keep : GoodIn wsL_law wsX3_keep := goodIn_r _ [556, 24, 12, 13, 14, 15, 557, 558, 2, 559, 29, 30, 31, 10, 11, 32, 33, 560, 561, 562, 563, 51, 52, 53, 55, 564, 565, 566, 567, 228, 229, 230, 231, 179, 180, 181, 182, 183, 184, 185, 622, 623, 624, 625, 626, 627, 628, 629, 656, 657, 658, 659, 660] (by decide +kernel) (by decide +kernel)
set_option maxRecDepth 20000 in
theorem gL_law_X3_keep : GoodIn wsL_law (wsV RL 94 RX3 yX3_keep wsX3_keep) := goodIn_app (goodIn_of _ (by decide +kernel)) ggL_law_X3_keep
set_option maxRecDepth 20000 in
theorem ggL_law_X4_keep : GoodIn wsL_law wsX4_keep := goodIn_r _ [571, 83, 84, 74, 85, 75, 86, 76, 572, 573, 5, 574, 114, 115, 116, 575, 576, 577, 578, 190, 191, 192, 193, 630, 631, 632, 633, 634, 635, 636, 637, 638, 639, 640, 641, 642, 643, 644, 645, 646, 647, 648, 649, 650, 651, 652, 653, 654, 655] (by decide +kernel) (by decide +kernel)
set_option maxRecDepth 20000 in
theorem gL_law_X4_keep : GoodIn wsL_law (wsV RL 97 RX4 yX4_keep wsX4_keep) := goodIn_app (goodIn_of _ (by decide +kernel)) ggL_law_X4_keep
set_option maxRecDepth 20000 in
theorem ggL_law_X3_back : GoodIn wsL_law wsX3_back := goodIn_r _ [582, 24, 15, 19, 557, 558, 2, 559, 560, 561, 562, 14, 563, 51, 52, 53, 55, 33, 66, 67, 68, 69, 26, 27, 105, 106, 107, 18, 108, 109, 564, 565, 566, 567, 228, 229, 230, 231, 179, 180, 181, 182, 183, 184, 185, 622, 623, 624, 625, 626, 627, 628, 629, 656, 657, 658, 659, 660, 661, 662, 663, 664, 665] (by decide +kernel) (by decide +kernel)
set_option maxRecDepth 20000 in
theorem gL_law_X3_back : GoodIn wsL_law (wsV RL 98 RX3 yX3_back wsX3_back) := goodIn_app (goodIn_of _ (by decide +kernel)) ggL_law_X3_back
set_option maxRecDepth 20000 in
theorem ggL_law_X4_back : GoodIn wsL_law wsX4_back := goodIn_r _ [586, 83, 84, 74, 85, 75, 76, 86, 572, 573, 5, 574, 114, 115, 116, 96, 97, 98, 99, 77, 78, 100, 575, 576, 577, 578, 190, 191, 192, 193, 630, 631, 632, 633, 634, 635, 636, 637, 638, 639, 640, 641, 642, 643, 644, 645, 646, 647, 648, 649, 650, 651, 652, 653, 654, 655] (by decide +kernel) (by decide +kernel)
set_option maxRecDepth 20000 in
theorem gL_law_X4_back : GoodIn wsL_law (wsV RL 101 RX4 yX4_back wsX4_back) := goodIn_app (goodIn_of _ (by decide +kernel)) ggL_law_X4_back
set_option maxRecDepth 20000 in
theorem ggL_law_X3_moved : GoodIn wsL_law wsX3_moved := goodIn_r _ [590, 24, 557, 558, 2, 559, 591, 592, 593, 14, 594, 51, 52, 595, 596, 597, 598, 33, 179, 180, 181, 182, 183, 184, 185, 622, 623, 624, 625, 626, 627, 628, 629, 656, 657, 658, 659, 660] (by decide +kernel) (by decide +kernel)
set_option maxRecDepth 20000 in
theorem gL_law_X3_moved : GoodIn wsL_law (wsV RL 102 RX3 yX3_moved wsX3_moved) := goodIn_app (goodIn_of _ (by decide +kernel)) ggL_law_X3_moved
set_option maxRecDepth 20000 in
theorem ggL_law_X4_moved : GoodIn wsL_law wsX4_moved := goodIn_r _ [602, 83, 84, 85, 86, 572, 573, 5, 574, 114, 115, 116, 630, 631, 632, 633, 634, 635, 636, 637, 638, 639, 640, 641, 642, 643, 644, 645, 646, 647, 648, 649, 650, 651, 652, 653, 654, 655] (by decide +kernel) (by decide +kernel)
set_option maxRecDepth 20000 in
theorem gL_law_X4_moved : GoodIn wsL_law (wsV RL 105 RX4 yX4_moved wsX4_moved) := goodIn_app (goodIn_of _ (by decide +kernel)) ggL_law_X4_moved
set_option maxRecDepth 20000 in
theorem ggL_law_X3_count : GoodIn wsL_law wsX3_count := goodIn_r _ [606, 15, 607, 608, 19, 400, 609, 441, 442, 443, 14, 444, 33, 622, 623, 624, 625, 626, 627, 628, 629, 656, 657, 658, 659, 660, 661, 662, 663, 664, 665] (by decide +kernel) (by decide +kernel)
set_option maxRecDepth 20000 in
theorem gL_law_X3_count : GoodIn wsL_law (wsV RL 106 RX3 yX3_count wsX3_count) := goodIn_app (goodIn_of _ (by decide +kernel)) ggL_law_X3_count
set_option maxRecDepth 20000 in
theorem ggL_law_X4_count : GoodIn wsL_law wsX4_count := goodIn_r _ [613, 74, 75, 100, 347, 190, 191, 192, 5, 193, 76, 630, 631, 632, 633, 634, 635, 636, 637, 638, 639, 640, 641, 642, 643, 644, 645, 646, 647, 648, 649, 650, 651, 652, 653, 654, 655] (by decide +kernel) (by decide +kernel)
set_option maxRecDepth 20000 in
theorem gL_law_X4_count : GoodIn wsL_law (wsV RL 109 RX4 yX4_count wsX4_count) := goodIn_app (goodIn_of _ (by decide +kernel)) ggL_law_X4_count
set_option maxRecDepth 20000 in
theorem ggL_law_X3_trace : GoodIn wsL_law wsX3_trace := goodIn_r _ [617, 273, 622, 623, 624, 625, 626, 627, 628, 629] (by decide +kernel) (by decide +kernel)
set_option maxRecDepth 20000 in
theorem gL_law_X3_trace : GoodIn wsL_law (wsV RL 110 RX3 yX3_trace wsX3_trace) := goodIn_app (goodIn_of _ (by decide +kernel)) ggL_law_X3_trace
set_option maxRecDepth 20000 in
theorem ggL_law_X4_trace : GoodIn wsL_law wsX4_trace := goodIn_r _ [621, 288, 630, 631, 632, 633, 634, 635, 636, 637, 638, 639, 640, 641, 642, 643, 644, 645, 646, 647, 648, 649, 650, 651, 652, 653, 654, 655] (by decide +kernel) (by decide +kernel)
set_option maxRecDepth 20000 in
theorem gL_law_X4_trace : GoodIn wsL_law (wsV RL 114 RX4 yX4_trace wsX4_trace) := goodIn_app (goodIn_of _ (by decide +kernel)) ggL_law_X4_trace
theorem dL_law_0 : decode cL_law 0 = .ok (.new 7, 3) := by decide +kernel
theorem dL_law_3 : decode cL_law 3 = .ok (.dup, 1) := by decide +kernel
theorem dL_law_4 : decode cL_law 4 = .ok (.invokespecial 9, 3) := by decide +kernel
theorem dL_law_7 : decode cL_law 7 = .ok (.astore_n 1, 1) := by decide +kernel
theorem dL_law_8 : decode cL_law 8 = .ok (.new 10, 3) := by decide +kernel
theorem dL_law_11 : decode cL_law 11 = .ok (.dup, 1) := by decide +kernel
theorem dL_law_12 : decode cL_law 12 = .ok (.invokespecial 12, 3) := by decide +kernel
theorem dL_law_15 : decode cL_law 15 = .ok (.astore_n 2, 1) := by decide +kernel
theorem dL_law_16 : decode cL_law 16 = .ok (.iconst 0, 1) := by decide +kernel
theorem dL_law_17 : decode cL_law 17 = .ok (.istore_n 3, 1) := by decide +kernel
theorem dL_law_18 : decode cL_law 18 = .ok (.iload_n 3, 1) := by decide +kernel
theorem dL_law_19 : decode cL_law 19 = .ok (.aload_n 0, 1) := by decide +kernel
theorem dL_law_20 : decode cL_law 20 = .ok (.arraylength, 1) := by decide +kernel
theorem dL_law_21 : decode cL_law 21 = .ok (.iconst 5, 1) := by decide +kernel
theorem dL_law_22 : decode cL_law 22 = .ok (.isub, 1) := by decide +kernel
theorem dL_law_23 : decode cL_law 23 = .ok (.if_icmp .gt 860, 3) := by decide +kernel
theorem dL_law_26 : decode cL_law 26 = .ok (.aload_n 0, 1) := by decide +kernel
theorem dL_law_27 : decode cL_law 27 = .ok (.iload_n 3, 1) := by decide +kernel
theorem dL_law_28 : decode cL_law 28 = .ok (.iaload, 1) := by decide +kernel
theorem dL_law_29 : decode cL_law 29 = .ok (.bipush 31, 2) := by decide +kernel
theorem dL_law_31 : decode cL_law 31 = .ok (.iand, 1) := by decide +kernel
theorem dL_law_32 : decode cL_law 32 = .ok (.tableswitch 845 0 23 #[112, 145, 188, 221, 244, 267, 300, 353, 386, 419, 462, 505, 538, 551, 574, 597, 630, 673, 716, 729, 752, 775, 808, 831], 112) := by decide +kernel
theorem dL_law_144 : decode cL_law 144 = .ok (.aload_n 1, 1) := by decide +kernel
theorem dL_law_145 : decode cL_law 145 = .ok (.aload_n 0, 1) := by decide +kernel
theorem dL_law_146 : decode cL_law 146 = .ok (.iload_n 3, 1) := by decide +kernel
theorem dL_law_147 : decode cL_law 147 = .ok (.iconst 1, 1) := by decide +kernel
theorem dL_law_148 : decode cL_law 148 = .ok (.iadd, 1) := by decide +kernel
theorem dL_law_149 : decode cL_law 149 = .ok (.iaload, 1) := by decide +kernel
theorem dL_law_150 : decode cL_law 150 = .ok (.aload_n 0, 1) := by decide +kernel
theorem dL_law_151 : decode cL_law 151 = .ok (.iload_n 3, 1) := by decide +kernel
theorem dL_law_152 : decode cL_law 152 = .ok (.iconst 2, 1) := by decide +kernel
theorem dL_law_153 : decode cL_law 153 = .ok (.iadd, 1) := by decide +kernel
theorem dL_law_154 : decode cL_law 154 = .ok (.iaload, 1) := by decide +kernel
theorem dL_law_155 : decode cL_law 155 = .ok (.invokevirtual 13, 3) := by decide +kernel
theorem dL_law_158 : decode cL_law 158 = .ok (.aload_n 2, 1) := by decide +kernel
theorem dL_law_159 : decode cL_law 159 = .ok (.aload_n 0, 1) := by decide +kernel
theorem dL_law_160 : decode cL_law 160 = .ok (.iload_n 3, 1) := by decide +kernel
theorem dL_law_161 : decode cL_law 161 = .ok (.iconst 1, 1) := by decide +kernel
theorem dL_law_162 : decode cL_law 162 = .ok (.iadd, 1) := by decide +kernel
theorem dL_law_163 : decode cL_law 163 = .ok (.iaload, 1) := by decide +kernel
theorem dL_law_164 : decode cL_law 164 = .ok (.aload_n 0, 1) := by decide +kernel
theorem dL_law_165 : decode cL_law 165 = .ok (.iload_n 3, 1) := by decide +kernel
theorem dL_law_166 : decode cL_law 166 = .ok (.iconst 2, 1) := by decide +kernel
theorem dL_law_167 : decode cL_law 167 = .ok (.iadd, 1) := by decide +kernel
theorem dL_law_168 : decode cL_law 168 = .ok (.iaload, 1) := by decide +kernel
theorem dL_law_169 : decode cL_law 169 = .ok (.invokevirtual 17, 3) := by decide +kernel
theorem dL_law_172 : decode cL_law 172 = .ok (.if_icmp .eq 705, 3) := by decide +kernel
theorem dL_law_175 : decode cL_law 175 = .ok (.iconst 0, 1) := by decide +kernel
theorem dL_law_176 : decode cL_law 176 = .ok (.ireturn, 1) := by decide +kernel
theorem dL_law_177 : decode cL_law 177 = .ok (.aload_n 1, 1) := by decide +kernel
theorem dL_law_178 : decode cL_law 178 = .ok (.aload_n 0, 1) := by decide +kernel
theorem dL_law_179 : decode cL_law 179 = .ok (.iload_n 3, 1) := by decide +kernel
theorem dL_law_180 : decode cL_law 180 = .ok (.iconst 1, 1) := by decide +kernel
theorem dL_law_181 : decode cL_law 181 = .ok (.iadd, 1) := by decide +kernel
theorem dL_law_182 : decode cL_law 182 = .ok (.iaload, 1) := by decide +kernel
theorem dL_law_183 : decode cL_law 183 = .ok (.aload_n 0, 1) := by decide +kernel
theorem dL_law_184 : decode cL_law 184 = .ok (.iload_n 3, 1) := by decide +kernel
theorem dL_law_185 : decode cL_law 185 = .ok (.iconst 2, 1) := by decide +kernel
theorem dL_law_186 : decode cL_law 186 = .ok (.iadd, 1) := by decide +kernel
theorem dL_law_187 : decode cL_law 187 = .ok (.iaload, 1) := by decide +kernel
theorem dL_law_188 : decode cL_law 188 = .ok (.aload_n 0, 1) := by decide +kernel
theorem dL_law_189 : decode cL_law 189 = .ok (.iload_n 3, 1) := by decide +kernel
theorem dL_law_190 : decode cL_law 190 = .ok (.iconst 3, 1) := by decide +kernel
theorem dL_law_191 : decode cL_law 191 = .ok (.iadd, 1) := by decide +kernel
theorem dL_law_192 : decode cL_law 192 = .ok (.iaload, 1) := by decide +kernel
theorem dL_law_193 : decode cL_law 193 = .ok (.invokevirtual 18, 3) := by decide +kernel
theorem dL_law_196 : decode cL_law 196 = .ok (.aload_n 2, 1) := by decide +kernel
theorem dL_law_197 : decode cL_law 197 = .ok (.aload_n 0, 1) := by decide +kernel
theorem dL_law_198 : decode cL_law 198 = .ok (.iload_n 3, 1) := by decide +kernel
theorem dL_law_199 : decode cL_law 199 = .ok (.iconst 1, 1) := by decide +kernel
theorem dL_law_200 : decode cL_law 200 = .ok (.iadd, 1) := by decide +kernel
theorem dL_law_201 : decode cL_law 201 = .ok (.iaload, 1) := by decide +kernel
theorem dL_law_202 : decode cL_law 202 = .ok (.aload_n 0, 1) := by decide +kernel
theorem dL_law_203 : decode cL_law 203 = .ok (.iload_n 3, 1) := by decide +kernel
theorem dL_law_204 : decode cL_law 204 = .ok (.iconst 2, 1) := by decide +kernel
theorem dL_law_205 : decode cL_law 205 = .ok (.iadd, 1) := by decide +kernel
theorem dL_law_206 : decode cL_law 206 = .ok (.iaload, 1) := by decide +kernel
theorem dL_law_207 : decode cL_law 207 = .ok (.aload_n 0, 1) := by decide +kernel
theorem dL_law_208 : decode cL_law 208 = .ok (.iload_n 3, 1) := by decide +kernel
theorem dL_law_209 : decode cL_law 209 = .ok (.iconst 3, 1) := by decide +kernel
theorem dL_law_210 : decode cL_law 210 = .ok (.iadd, 1) := by decide +kernel
theorem dL_law_211 : decode cL_law 211 = .ok (.iaload, 1) := by decide +kernel
theorem dL_law_212 : decode cL_law 212 = .ok (.invokevirtual 22, 3) := by decide +kernel
theorem dL_law_215 : decode cL_law 215 = .ok (.if_icmp .eq 662, 3) := by decide +kernel
theorem dL_law_218 : decode cL_law 218 = .ok (.iconst 0, 1) := by decide +kernel
theorem dL_law_219 : decode cL_law 219 = .ok (.ireturn, 1) := by decide +kernel
theorem dL_law_220 : decode cL_law 220 = .ok (.aload_n 1, 1) := by decide +kernel
theorem dL_law_221 : decode cL_law 221 = .ok (.aload_n 0, 1) := by decide +kernel
theorem dL_law_222 : decode cL_law 222 = .ok (.iload_n 3, 1) := by decide +kernel
theorem dL_law_223 : decode cL_law 223 = .ok (.iconst 1, 1) := by decide +kernel
theorem dL_law_224 : decode cL_law 224 = .ok (.iadd, 1) := by decide +kernel
theorem dL_law_225 : decode cL_law 225 = .ok (.iaload, 1) := by decide +kernel
theorem dL_law_226 : decode cL_law 226 = .ok (.aload_n 0, 1) := by decide +kernel
theorem dL_law_227 : decode cL_law 227 = .ok (.iload_n 3, 1) := by decide +kernel
theorem dL_law_228 : decode cL_law 228 = .ok (.iconst 2, 1) := by decide +kernel
theorem dL_law_229 : decode cL_law 229 = .ok (.iadd, 1) := by decide +kernel
theorem dL_law_230 : decode cL_law 230 = .ok (.iaload, 1) := by decide +kernel
theorem dL_law_231 : decode cL_law 231 = .ok (.invokevirtual 23, 3) := by decide +kernel
theorem dL_law_234 : decode cL_law 234 = .ok (.aload_n 2, 1) := by decide +kernel
theorem dL_law_235 : decode cL_law 235 = .ok (.aload_n 0, 1) := by decide +kernel
theorem dL_law_236 : decode cL_law 236 = .ok (.iload_n 3, 1) := by decide +kernel
theorem dL_law_237 : decode cL_law 237 = .ok (.iconst 1, 1) := by decide +kernel
theorem dL_law_238 : decode cL_law 238 = .ok (.iadd, 1) := by decide +kernel
theorem dL_law_239 : decode cL_law 239 = .ok (.iaload, 1) := by decide +kernel
theorem dL_law_240 : decode cL_law 240 = .ok (.aload_n 0, 1) := by decide +kernel
theorem dL_law_241 : decode cL_law 241 = .ok (.iload_n 3, 1) := by decide +kernel
theorem dL_law_242 : decode cL_law 242 = .ok (.iconst 2, 1) := by decide +kernel
theorem dL_law_243 : decode cL_law 243 = .ok (.iadd, 1) := by decide +kernel
theorem dL_law_244 : decode cL_law 244 = .ok (.iaload, 1) := by decide +kernel
theorem dL_law_245 : decode cL_law 245 = .ok (.invokevirtual 26, 3) := by decide +kernel
theorem dL_law_248 : decode cL_law 248 = .ok (.if_icmp .eq 629, 3) := by decide +kernel
theorem dL_law_251 : decode cL_law 251 = .ok (.iconst 0, 1) := by decide +kernel
theorem dL_law_252 : decode cL_law 252 = .ok (.ireturn, 1) := by decide +kernel
theorem dL_law_253 : decode cL_law 253 = .ok (.aload_n 1, 1) := by decide +kernel
theorem dL_law_254 : decode cL_law 254 = .ok (.aload_n 0, 1) := by decide +kernel
theorem dL_law_255 : decode cL_law 255 = .ok (.iload_n 3, 1) := by decide +kernel
theorem dL_law_256 : decode cL_law 256 = .ok (.iconst 1, 1) := by decide +kernel
theorem dL_law_257 : decode cL_law 257 = .ok (.iadd, 1) := by decide +kernel
theorem dL_law_258 : decode cL_law 258 = .ok (.iaload, 1) := by decide +kernel
theorem dL_law_259 : decode cL_law 259 = .ok (.invokevirtual 27, 3) := by decide +kernel
theorem dL_law_262 : decode cL_law 262 = .ok (.aload_n 2, 1) := by decide +kernel
theorem dL_law_263 : decode cL_law 263 = .ok (.aload_n 0, 1) := by decide +kernel
theorem dL_law_264 : decode cL_law 264 = .ok (.iload_n 3, 1) := by decide +kernel
theorem dL_law_265 : decode cL_law 265 = .ok (.iconst 1, 1) := by decide +kernel
theorem dL_law_266 : decode cL_law 266 = .ok (.iadd, 1) := by decide +kernel
theorem dL_law_267 : decode cL_law 267 = .ok (.iaload, 1) := by decide +kernel
theorem dL_law_268 : decode cL_law 268 = .ok (.invokevirtual 31, 3) := by decide +kernel
theorem dL_law_271 : decode cL_law 271 = .ok (.if_icmp .eq 606, 3) := by decide +kernel
theorem dL_law_274 : decode cL_law 274 = .ok (.iconst 0, 1) := by decide +kernel
theorem dL_law_275 : decode cL_law 275 = .ok (.ireturn, 1) := by decide +kernel
theorem dL_law_276 : decode cL_law 276 = .ok (.aload_n 1, 1) := by decide +kernel
theorem dL_law_277 : decode cL_law 277 = .ok (.aload_n 0, 1) := by decide +kernel
theorem dL_law_278 : decode cL_law 278 = .ok (.iload_n 3, 1) := by decide +kernel
theorem dL_law_279 : decode cL_law 279 = .ok (.iconst 1, 1) := by decide +kernel
theorem dL_law_280 : decode cL_law 280 = .ok (.iadd, 1) := by decide +kernel
theorem dL_law_281 : decode cL_law 281 = .ok (.iaload, 1) := by decide +kernel
theorem dL_law_282 : decode cL_law 282 = .ok (.invokevirtual 32, 3) := by decide +kernel
theorem dL_law_285 : decode cL_law 285 = .ok (.aload_n 2, 1) := by decide +kernel
theorem dL_law_286 : decode cL_law 286 = .ok (.aload_n 0, 1) := by decide +kernel
theorem dL_law_287 : decode cL_law 287 = .ok (.iload_n 3, 1) := by decide +kernel
theorem dL_law_288 : decode cL_law 288 = .ok (.iconst 1, 1) := by decide +kernel
theorem dL_law_289 : decode cL_law 289 = .ok (.iadd, 1) := by decide +kernel
theorem dL_law_290 : decode cL_law 290 = .ok (.iaload, 1) := by decide +kernel
theorem dL_law_291 : decode cL_law 291 = .ok (.invokevirtual 35, 3) := by decide +kernel
theorem dL_law_294 : decode cL_law 294 = .ok (.if_icmp .eq 583, 3) := by decide +kernel
theorem dL_law_297 : decode cL_law 297 = .ok (.iconst 0, 1) := by decide +kernel
theorem dL_law_298 : decode cL_law 298 = .ok (.ireturn, 1) := by decide +kernel
theorem dL_law_299 : decode cL_law 299 = .ok (.aload_n 1, 1) := by decide +kernel
theorem dL_law_300 : decode cL_law 300 = .ok (.aload_n 0, 1) := by decide +kernel
theorem dL_law_301 : decode cL_law 301 = .ok (.iload_n 3, 1) := by decide +kernel
theorem dL_law_302 : decode cL_law 302 = .ok (.iconst 1, 1) := by decide +kernel
theorem dL_law_303 : decode cL_law 303 = .ok (.iadd, 1) := by decide +kernel
theorem dL_law_304 : decode cL_law 304 = .ok (.iaload, 1) := by decide +kernel
theorem dL_law_305 : decode cL_law 305 = .ok (.aload_n 0, 1) := by decide +kernel
theorem dL_law_306 : decode cL_law 306 = .ok (.iload_n 3, 1) := by decide +kernel
theorem dL_law_307 : decode cL_law 307 = .ok (.iconst 2, 1) := by decide +kernel
theorem dL_law_308 : decode cL_law 308 = .ok (.iadd, 1) := by decide +kernel
theorem dL_law_309 : decode cL_law 309 = .ok (.iaload, 1) := by decide +kernel
theorem dL_law_310 : decode cL_law 310 = .ok (.invokevirtual 36, 3) := by decide +kernel
theorem dL_law_313 : decode cL_law 313 = .ok (.aload_n 2, 1) := by decide +kernel
theorem dL_law_314 : decode cL_law 314 = .ok (.aload_n 0, 1) := by decide +kernel
theorem dL_law_315 : decode cL_law 315 = .ok (.iload_n 3, 1) := by decide +kernel
theorem dL_law_316 : decode cL_law 316 = .ok (.iconst 1, 1) := by decide +kernel
theorem dL_law_317 : decode cL_law 317 = .ok (.iadd, 1) := by decide +kernel
theorem dL_law_318 : decode cL_law 318 = .ok (.iaload, 1) := by decide +kernel
theorem dL_law_319 : decode cL_law 319 = .ok (.aload_n 0, 1) := by decide +kernel
theorem dL_law_320 : decode cL_law 320 = .ok (.iload_n 3, 1) := by decide +kernel
theorem dL_law_321 : decode cL_law 321 = .ok (.iconst 2, 1) := by decide +kernel
theorem dL_law_322 : decode cL_law 322 = .ok (.iadd, 1) := by decide +kernel
theorem dL_law_323 : decode cL_law 323 = .ok (.iaload, 1) := by decide +kernel
theorem dL_law_324 : decode cL_law 324 = .ok (.invokevirtual 39, 3) := by decide +kernel
theorem dL_law_327 : decode cL_law 327 = .ok (.if_icmp .eq 550, 3) := by decide +kernel
theorem dL_law_330 : decode cL_law 330 = .ok (.iconst 0, 1) := by decide +kernel
theorem dL_law_331 : decode cL_law 331 = .ok (.ireturn, 1) := by decide +kernel
theorem dL_law_332 : decode cL_law 332 = .ok (.aload_n 1, 1) := by decide +kernel
theorem dL_law_333 : decode cL_law 333 = .ok (.aload_n 0, 1) := by decide +kernel
theorem dL_law_334 : decode cL_law 334 = .ok (.iload_n 3, 1) := by decide +kernel
theorem dL_law_335 : decode cL_law 335 = .ok (.iconst 1, 1) := by decide +kernel
theorem dL_law_336 : decode cL_law 336 = .ok (.iadd, 1) := by decide +kernel
theorem dL_law_337 : decode cL_law 337 = .ok (.iaload, 1) := by decide +kernel
theorem dL_law_338 : decode cL_law 338 = .ok (.aload_n 0, 1) := by decide +kernel
theorem dL_law_339 : decode cL_law 339 = .ok (.iload_n 3, 1) := by decide +kernel
theorem dL_law_340 : decode cL_law 340 = .ok (.iconst 2, 1) := by decide +kernel
theorem dL_law_341 : decode cL_law 341 = .ok (.iadd, 1) := by decide +kernel
theorem dL_law_342 : decode cL_law 342 = .ok (.iaload, 1) := by decide +kernel
theorem dL_law_343 : decode cL_law 343 = .ok (.aload_n 0, 1) := by decide +kernel
theorem dL_law_344 : decode cL_law 344 = .ok (.iload_n 3, 1) := by decide +kernel
theorem dL_law_345 : decode cL_law 345 = .ok (.iconst 3, 1) := by decide +kernel
theorem dL_law_346 : decode cL_law 346 = .ok (.iadd, 1) := by decide +kernel
theorem dL_law_347 : decode cL_law 347 = .ok (.iaload, 1) := by decide +kernel
theorem dL_law_348 : decode cL_law 348 = .ok (.aload_n 0, 1) := by decide +kernel
theorem dL_law_349 : decode cL_law 349 = .ok (.iload_n 3, 1) := by decide +kernel
theorem dL_law_350 : decode cL_law 350 = .ok (.iconst 4, 1) := by decide +kernel
theorem dL_law_351 : decode cL_law 351 = .ok (.iadd, 1) := by decide +kernel
theorem dL_law_352 : decode cL_law 352 = .ok (.iaload, 1) := by decide +kernel
theorem dL_law_353 : decode cL_law 353 = .ok (.invokevirtual 40, 3) := by decide +kernel
theorem dL_law_356 : decode cL_law 356 = .ok (.aload_n 2, 1) := by decide +kernel
theorem dL_law_357 : decode cL_law 357 = .ok (.aload_n 0, 1) := by decide +kernel
theorem dL_law_358 : decode cL_law 358 = .ok (.iload_n 3, 1) := by decide +kernel
theorem dL_law_359 : decode cL_law 359 = .ok (.iconst 1, 1) := by decide +kernel
theorem dL_law_360 : decode cL_law 360 = .ok (.iadd, 1) := by decide +kernel
theorem dL_law_361 : decode cL_law 361 = .ok (.iaload, 1) := by decide +kernel
theorem dL_law_362 : decode cL_law 362 = .ok (.aload_n 0, 1) := by decide +kernel
theorem dL_law_363 : decode cL_law 363 = .ok (.iload_n 3, 1) := by decide +kernel
theorem dL_law_364 : decode cL_law 364 = .ok (.iconst 2, 1) := by decide +kernel
theorem dL_law_365 : decode cL_law 365 = .ok (.iadd, 1) := by decide +kernel
theorem dL_law_366 : decode cL_law 366 = .ok (.iaload, 1) := by decide +kernel
theorem dL_law_367 : decode cL_law 367 = .ok (.aload_n 0, 1) := by decide +kernel
theorem dL_law_368 : decode cL_law 368 = .ok (.iload_n 3, 1) := by decide +kernel
theorem dL_law_369 : decode cL_law 369 = .ok (.iconst 3, 1) := by decide +kernel
theorem dL_law_370 : decode cL_law 370 = .ok (.iadd, 1) := by decide +kernel
theorem dL_law_371 : decode cL_law 371 = .ok (.iaload, 1) := by decide +kernel
theorem dL_law_372 : decode cL_law 372 = .ok (.aload_n 0, 1) := by decide +kernel
theorem dL_law_373 : decode cL_law 373 = .ok (.iload_n 3, 1) := by decide +kernel
theorem dL_law_374 : decode cL_law 374 = .ok (.iconst 4, 1) := by decide +kernel
theorem dL_law_375 : decode cL_law 375 = .ok (.iadd, 1) := by decide +kernel
theorem dL_law_376 : decode cL_law 376 = .ok (.iaload, 1) := by decide +kernel
theorem dL_law_377 : decode cL_law 377 = .ok (.invokevirtual 44, 3) := by decide +kernel
theorem dL_law_380 : decode cL_law 380 = .ok (.if_icmp .eq 497, 3) := by decide +kernel
theorem dL_law_383 : decode cL_law 383 = .ok (.iconst 0, 1) := by decide +kernel
theorem dL_law_384 : decode cL_law 384 = .ok (.ireturn, 1) := by decide +kernel
theorem dL_law_385 : decode cL_law 385 = .ok (.aload_n 1, 1) := by decide +kernel
theorem dL_law_386 : decode cL_law 386 = .ok (.aload_n 0, 1) := by decide +kernel
theorem dL_law_387 : decode cL_law 387 = .ok (.iload_n 3, 1) := by decide +kernel
theorem dL_law_388 : decode cL_law 388 = .ok (.iconst 1, 1) := by decide +kernel
theorem dL_law_389 : decode cL_law 389 = .ok (.iadd, 1) := by decide +kernel
theorem dL_law_390 : decode cL_law 390 = .ok (.iaload, 1) := by decide +kernel
theorem dL_law_391 : decode cL_law 391 = .ok (.aload_n 0, 1) := by decide +kernel
theorem dL_law_392 : decode cL_law 392 = .ok (.iload_n 3, 1) := by decide +kernel
theorem dL_law_393 : decode cL_law 393 = .ok (.iconst 2, 1) := by decide +kernel
theorem dL_law_394 : decode cL_law 394 = .ok (.iadd, 1) := by decide +kernel
theorem dL_law_395 : decode cL_law 395 = .ok (.iaload, 1) := by decide +kernel
theorem dL_law_396 : decode cL_law 396 = .ok (.invokevirtual 45, 3) := by decide +kernel
theorem dL_law_399 : decode cL_law 399 = .ok (.aload_n 2, 1) := by decide +kernel
theorem dL_law_400 : decode cL_law 400 = .ok (.aload_n 0, 1) := by decide +kernel
theorem dL_law_401 : decode cL_law 401 = .ok (.iload_n 3, 1) := by decide +kernel
theorem dL_law_402 : decode cL_law 402 = .ok (.iconst 1, 1) := by decide +kernel
theorem dL_law_403 : decode cL_law 403 = .ok (.iadd, 1) := by decide +kernel
theorem dL_law_404 : decode cL_law 404 = .ok (.iaload, 1) := by decide +kernel
theorem dL_law_405 : decode cL_law 405 = .ok (.aload_n 0, 1) := by decide +kernel
theorem dL_law_406 : decode cL_law 406 = .ok (.iload_n 3, 1) := by decide +kernel
theorem dL_law_407 : decode cL_law 407 = .ok (.iconst 2, 1) := by decide +kernel
theorem dL_law_408 : decode cL_law 408 = .ok (.iadd, 1) := by decide +kernel
theorem dL_law_409 : decode cL_law 409 = .ok (.iaload, 1) := by decide +kernel
theorem dL_law_410 : decode cL_law 410 = .ok (.invokevirtual 48, 3) := by decide +kernel
theorem dL_law_413 : decode cL_law 413 = .ok (.if_icmp .eq 464, 3) := by decide +kernel
theorem dL_law_416 : decode cL_law 416 = .ok (.iconst 0, 1) := by decide +kernel
theorem dL_law_417 : decode cL_law 417 = .ok (.ireturn, 1) := by decide +kernel
theorem dL_law_418 : decode cL_law 418 = .ok (.aload_n 1, 1) := by decide +kernel
theorem dL_law_419 : decode cL_law 419 = .ok (.aload_n 0, 1) := by decide +kernel
theorem dL_law_420 : decode cL_law 420 = .ok (.iload_n 3, 1) := by decide +kernel
theorem dL_law_421 : decode cL_law 421 = .ok (.iconst 1, 1) := by decide +kernel
theorem dL_law_422 : decode cL_law 422 = .ok (.iadd, 1) := by decide +kernel
theorem dL_law_423 : decode cL_law 423 = .ok (.iaload, 1) := by decide +kernel
theorem dL_law_424 : decode cL_law 424 = .ok (.aload_n 0, 1) := by decide +kernel
theorem dL_law_425 : decode cL_law 425 = .ok (.iload_n 3, 1) := by decide +kernel
theorem dL_law_426 : decode cL_law 426 = .ok (.iconst 2, 1) := by decide +kernel
theorem dL_law_427 : decode cL_law 427 = .ok (.iadd, 1) := by decide +kernel
theorem dL_law_428 : decode cL_law 428 = .ok (.iaload, 1) := by decide +kernel
theorem dL_law_429 : decode cL_law 429 = .ok (.invokevirtual 49, 3) := by decide +kernel
theorem dL_law_432 : decode cL_law 432 = .ok (.aload_n 2, 1) := by decide +kernel
theorem dL_law_433 : decode cL_law 433 = .ok (.aload_n 0, 1) := by decide +kernel
theorem dL_law_434 : decode cL_law 434 = .ok (.iload_n 3, 1) := by decide +kernel
theorem dL_law_435 : decode cL_law 435 = .ok (.iconst 1, 1) := by decide +kernel
theorem dL_law_436 : decode cL_law 436 = .ok (.iadd, 1) := by decide +kernel
theorem dL_law_437 : decode cL_law 437 = .ok (.iaload, 1) := by decide +kernel
theorem dL_law_438 : decode cL_law 438 = .ok (.aload_n 0, 1) := by decide +kernel
theorem dL_law_439 : decode cL_law 439 = .ok (.iload_n 3, 1) := by decide +kernel
theorem dL_law_440 : decode cL_law 440 = .ok (.iconst 2, 1) := by decide +kernel
theorem dL_law_441 : decode cL_law 441 = .ok (.iadd, 1) := by decide +kernel
theorem dL_law_442 : decode cL_law 442 = .ok (.iaload, 1) := by decide +kernel
theorem dL_law_443 : decode cL_law 443 = .ok (.invokevirtual 52, 3) := by decide +kernel
theorem dL_law_446 : decode cL_law 446 = .ok (.if_icmp .eq 431, 3) := by decide +kernel
theorem dL_law_449 : decode cL_law 449 = .ok (.iconst 0, 1) := by decide +kernel
theorem dL_law_450 : decode cL_law 450 = .ok (.ireturn, 1) := by decide +kernel
theorem dL_law_451 : decode cL_law 451 = .ok (.aload_n 1, 1) := by decide +kernel
theorem dL_law_452 : decode cL_law 452 = .ok (.aload_n 0, 1) := by decide +kernel
theorem dL_law_453 : decode cL_law 453 = .ok (.iload_n 3, 1) := by decide +kernel
theorem dL_law_454 : decode cL_law 454 = .ok (.iconst 1, 1) := by decide +kernel
theorem dL_law_455 : decode cL_law 455 = .ok (.iadd, 1) := by decide +kernel
theorem dL_law_456 : decode cL_law 456 = .ok (.iaload, 1) := by decide +kernel
theorem dL_law_457 : decode cL_law 457 = .ok (.aload_n 0, 1) := by decide +kernel
theorem dL_law_458 : decode cL_law 458 = .ok (.iload_n 3, 1) := by decide +kernel
theorem dL_law_459 : decode cL_law 459 = .ok (.iconst 2, 1) := by decide +kernel
theorem dL_law_460 : decode cL_law 460 = .ok (.iadd, 1) := by decide +kernel
theorem dL_law_461 : decode cL_law 461 = .ok (.iaload, 1) := by decide +kernel
theorem dL_law_462 : decode cL_law 462 = .ok (.aload_n 0, 1) := by decide +kernel
theorem dL_law_463 : decode cL_law 463 = .ok (.iload_n 3, 1) := by decide +kernel
theorem dL_law_464 : decode cL_law 464 = .ok (.iconst 3, 1) := by decide +kernel
theorem dL_law_465 : decode cL_law 465 = .ok (.iadd, 1) := by decide +kernel
theorem dL_law_466 : decode cL_law 466 = .ok (.iaload, 1) := by decide +kernel
theorem dL_law_467 : decode cL_law 467 = .ok (.invokevirtual 53, 3) := by decide +kernel
theorem dL_law_470 : decode cL_law 470 = .ok (.aload_n 2, 1) := by decide +kernel
theorem dL_law_471 : decode cL_law 471 = .ok (.aload_n 0, 1) := by decide +kernel
theorem dL_law_472 : decode cL_law 472 = .ok (.iload_n 3, 1) := by decide +kernel
theorem dL_law_473 : decode cL_law 473 = .ok (.iconst 1, 1) := by decide +kernel
theorem dL_law_474 : decode cL_law 474 = .ok (.iadd, 1) := by decide +kernel
theorem dL_law_475 : decode cL_law 475 = .ok (.iaload, 1) := by decide +kernel
theorem dL_law_476 : decode cL_law 476 = .ok (.aload_n 0, 1) := by decide +kernel
theorem dL_law_477 : decode cL_law 477 = .ok (.iload_n 3, 1) := by decide +kernel
theorem dL_law_478 : decode cL_law 478 = .ok (.iconst 2, 1) := by decide +kernel
theorem dL_law_479 : decode cL_law 479 = .ok (.iadd, 1) := by decide +kernel
theorem dL_law_480 : decode cL_law 480 = .ok (.iaload, 1) := by decide +kernel
theorem dL_law_481 : decode cL_law 481 = .ok (.aload_n 0, 1) := by decide +kernel
theorem dL_law_482 : decode cL_law 482 = .ok (.iload_n 3, 1) := by decide +kernel
theorem dL_law_483 : decode cL_law 483 = .ok (.iconst 3, 1) := by decide +kernel
theorem dL_law_484 : decode cL_law 484 = .ok (.iadd, 1) := by decide +kernel
theorem dL_law_485 : decode cL_law 485 = .ok (.iaload, 1) := by decide +kernel
theorem dL_law_486 : decode cL_law 486 = .ok (.invokevirtual 56, 3) := by decide +kernel
theorem dL_law_489 : decode cL_law 489 = .ok (.if_icmp .eq 388, 3) := by decide +kernel
theorem dL_law_492 : decode cL_law 492 = .ok (.iconst 0, 1) := by decide +kernel
theorem dL_law_493 : decode cL_law 493 = .ok (.ireturn, 1) := by decide +kernel
theorem dL_law_494 : decode cL_law 494 = .ok (.aload_n 1, 1) := by decide +kernel
theorem dL_law_495 : decode cL_law 495 = .ok (.aload_n 0, 1) := by decide +kernel
theorem dL_law_496 : decode cL_law 496 = .ok (.iload_n 3, 1) := by decide +kernel
theorem dL_law_497 : decode cL_law 497 = .ok (.iconst 1, 1) := by decide +kernel
theorem dL_law_498 : decode cL_law 498 = .ok (.iadd, 1) := by decide +kernel
theorem dL_law_499 : decode cL_law 499 = .ok (.iaload, 1) := by decide +kernel
theorem dL_law_500 : decode cL_law 500 = .ok (.aload_n 0, 1) := by decide +kernel
theorem dL_law_501 : decode cL_law 501 = .ok (.iload_n 3, 1) := by decide +kernel
theorem dL_law_502 : decode cL_law 502 = .ok (.iconst 2, 1) := by decide +kernel
theorem dL_law_503 : decode cL_law 503 = .ok (.iadd, 1) := by decide +kernel
theorem dL_law_504 : decode cL_law 504 = .ok (.iaload, 1) := by decide +kernel
theorem dL_law_505 : decode cL_law 505 = .ok (.aload_n 0, 1) := by decide +kernel
theorem dL_law_506 : decode cL_law 506 = .ok (.iload_n 3, 1) := by decide +kernel
theorem dL_law_507 : decode cL_law 507 = .ok (.iconst 3, 1) := by decide +kernel
theorem dL_law_508 : decode cL_law 508 = .ok (.iadd, 1) := by decide +kernel
theorem dL_law_509 : decode cL_law 509 = .ok (.iaload, 1) := by decide +kernel
theorem dL_law_510 : decode cL_law 510 = .ok (.invokevirtual 57, 3) := by decide +kernel
theorem dL_law_513 : decode cL_law 513 = .ok (.aload_n 2, 1) := by decide +kernel
theorem dL_law_514 : decode cL_law 514 = .ok (.aload_n 0, 1) := by decide +kernel
theorem dL_law_515 : decode cL_law 515 = .ok (.iload_n 3, 1) := by decide +kernel
theorem dL_law_516 : decode cL_law 516 = .ok (.iconst 1, 1) := by decide +kernel
theorem dL_law_517 : decode cL_law 517 = .ok (.iadd, 1) := by decide +kernel
theorem dL_law_518 : decode cL_law 518 = .ok (.iaload, 1) := by decide +kernel
theorem dL_law_519 : decode cL_law 519 = .ok (.aload_n 0, 1) := by decide +kernel
theorem dL_law_520 : decode cL_law 520 = .ok (.iload_n 3, 1) := by decide +kernel
theorem dL_law_521 : decode cL_law 521 = .ok (.iconst 2, 1) := by decide +kernel
theorem dL_law_522 : decode cL_law 522 = .ok (.iadd, 1) := by decide +kernel
theorem dL_law_523 : decode cL_law 523 = .ok (.iaload, 1) := by decide +kernel
theorem dL_law_524 : decode cL_law 524 = .ok (.aload_n 0, 1) := by decide +kernel
theorem dL_law_525 : decode cL_law 525 = .ok (.iload_n 3, 1) := by decide +kernel
theorem dL_law_526 : decode cL_law 526 = .ok (.iconst 3, 1) := by decide +kernel
theorem dL_law_527 : decode cL_law 527 = .ok (.iadd, 1) := by decide +kernel
theorem dL_law_528 : decode cL_law 528 = .ok (.iaload, 1) := by decide +kernel
theorem dL_law_529 : decode cL_law 529 = .ok (.invokevirtual 60, 3) := by decide +kernel
theorem dL_law_532 : decode cL_law 532 = .ok (.if_icmp .eq 345, 3) := by decide +kernel
theorem dL_law_535 : decode cL_law 535 = .ok (.iconst 0, 1) := by decide +kernel
theorem dL_law_536 : decode cL_law 536 = .ok (.ireturn, 1) := by decide +kernel
theorem dL_law_537 : decode cL_law 537 = .ok (.aload_n 1, 1) := by decide +kernel
theorem dL_law_538 : decode cL_law 538 = .ok (.aload_n 0, 1) := by decide +kernel
theorem dL_law_539 : decode cL_law 539 = .ok (.iload_n 3, 1) := by decide +kernel
theorem dL_law_540 : decode cL_law 540 = .ok (.iconst 1, 1) := by decide +kernel
theorem dL_law_541 : decode cL_law 541 = .ok (.iadd, 1) := by decide +kernel
theorem dL_law_542 : decode cL_law 542 = .ok (.iaload, 1) := by decide +kernel
theorem dL_law_543 : decode cL_law 543 = .ok (.aload_n 0, 1) := by decide +kernel
theorem dL_law_544 : decode cL_law 544 = .ok (.iload_n 3, 1) := by decide +kernel
theorem dL_law_545 : decode cL_law 545 = .ok (.iconst 2, 1) := by decide +kernel
theorem dL_law_546 : decode cL_law 546 = .ok (.iadd, 1) := by decide +kernel
theorem dL_law_547 : decode cL_law 547 = .ok (.iaload, 1) := by decide +kernel
theorem dL_law_548 : decode cL_law 548 = .ok (.invokevirtual 61, 3) := by decide +kernel
theorem dL_law_551 : decode cL_law 551 = .ok (.aload_n 2, 1) := by decide +kernel
theorem dL_law_552 : decode cL_law 552 = .ok (.aload_n 0, 1) := by decide +kernel
theorem dL_law_553 : decode cL_law 553 = .ok (.iload_n 3, 1) := by decide +kernel
theorem dL_law_554 : decode cL_law 554 = .ok (.iconst 1, 1) := by decide +kernel
theorem dL_law_555 : decode cL_law 555 = .ok (.iadd, 1) := by decide +kernel
theorem dL_law_556 : decode cL_law 556 = .ok (.iaload, 1) := by decide +kernel
theorem dL_law_557 : decode cL_law 557 = .ok (.aload_n 0, 1) := by decide +kernel
theorem dL_law_558 : decode cL_law 558 = .ok (.iload_n 3, 1) := by decide +kernel
theorem dL_law_559 : decode cL_law 559 = .ok (.iconst 2, 1) := by decide +kernel
theorem dL_law_560 : decode cL_law 560 = .ok (.iadd, 1) := by decide +kernel
theorem dL_law_561 : decode cL_law 561 = .ok (.iaload, 1) := by decide +kernel
theorem dL_law_562 : decode cL_law 562 = .ok (.invokevirtual 64, 3) := by decide +kernel
theorem dL_law_565 : decode cL_law 565 = .ok (.if_icmp .eq 312, 3) := by decide +kernel
theorem dL_law_568 : decode cL_law 568 = .ok (.iconst 0, 1) := by decide +kernel
theorem dL_law_569 : decode cL_law 569 = .ok (.ireturn, 1) := by decide +kernel
theorem dL_law_570 : decode cL_law 570 = .ok (.aload_n 1, 1) := by decide +kernel
theorem dL_law_571 : decode cL_law 571 = .ok (.invokevirtual 65, 3) := by decide +kernel
theorem dL_law_574 : decode cL_law 574 = .ok (.aload_n 2, 1) := by decide +kernel
theorem dL_law_575 : decode cL_law 575 = .ok (.invokevirtual 69, 3) := by decide +kernel
theorem dL_law_578 : decode cL_law 578 = .ok (.if_icmp .eq 299, 3) := by decide +kernel
theorem dL_law_581 : decode cL_law 581 = .ok (.iconst 0, 1) := by decide +kernel
theorem dL_law_582 : decode cL_law 582 = .ok (.ireturn, 1) := by decide +kernel
theorem dL_law_583 : decode cL_law 583 = .ok (.aload_n 1, 1) := by decide +kernel
theorem dL_law_584 : decode cL_law 584 = .ok (.aload_n 0, 1) := by decide +kernel
theorem dL_law_585 : decode cL_law 585 = .ok (.iload_n 3, 1) := by decide +kernel
theorem dL_law_586 : decode cL_law 586 = .ok (.iconst 1, 1) := by decide +kernel
theorem dL_law_587 : decode cL_law 587 = .ok (.iadd, 1) := by decide +kernel
theorem dL_law_588 : decode cL_law 588 = .ok (.iaload, 1) := by decide +kernel
theorem dL_law_589 : decode cL_law 589 = .ok (.invokevirtual 70, 3) := by decide +kernel
theorem dL_law_592 : decode cL_law 592 = .ok (.aload_n 2, 1) := by decide +kernel
theorem dL_law_593 : decode cL_law 593 = .ok (.aload_n 0, 1) := by decide +kernel
theorem dL_law_594 : decode cL_law 594 = .ok (.iload_n 3, 1) := by decide +kernel
theorem dL_law_595 : decode cL_law 595 = .ok (.iconst 1, 1) := by decide +kernel
theorem dL_law_596 : decode cL_law 596 = .ok (.iadd, 1) := by decide +kernel
theorem dL_law_597 : decode cL_law 597 = .ok (.iaload, 1) := by decide +kernel
theorem dL_law_598 : decode cL_law 598 = .ok (.invokevirtual 73, 3) := by decide +kernel
theorem dL_law_601 : decode cL_law 601 = .ok (.if_icmp .eq 276, 3) := by decide +kernel
theorem dL_law_604 : decode cL_law 604 = .ok (.iconst 0, 1) := by decide +kernel
theorem dL_law_605 : decode cL_law 605 = .ok (.ireturn, 1) := by decide +kernel
theorem dL_law_606 : decode cL_law 606 = .ok (.aload_n 1, 1) := by decide +kernel
theorem dL_law_607 : decode cL_law 607 = .ok (.aload_n 0, 1) := by decide +kernel
theorem dL_law_608 : decode cL_law 608 = .ok (.iload_n 3, 1) := by decide +kernel
theorem dL_law_609 : decode cL_law 609 = .ok (.iconst 1, 1) := by decide +kernel
theorem dL_law_610 : decode cL_law 610 = .ok (.iadd, 1) := by decide +kernel
theorem dL_law_611 : decode cL_law 611 = .ok (.iaload, 1) := by decide +kernel
theorem dL_law_612 : decode cL_law 612 = .ok (.invokevirtual 74, 3) := by decide +kernel
theorem dL_law_615 : decode cL_law 615 = .ok (.aload_n 2, 1) := by decide +kernel
theorem dL_law_616 : decode cL_law 616 = .ok (.aload_n 0, 1) := by decide +kernel
theorem dL_law_617 : decode cL_law 617 = .ok (.iload_n 3, 1) := by decide +kernel
theorem dL_law_618 : decode cL_law 618 = .ok (.iconst 1, 1) := by decide +kernel
theorem dL_law_619 : decode cL_law 619 = .ok (.iadd, 1) := by decide +kernel
theorem dL_law_620 : decode cL_law 620 = .ok (.iaload, 1) := by decide +kernel
theorem dL_law_621 : decode cL_law 621 = .ok (.invokevirtual 77, 3) := by decide +kernel
theorem dL_law_624 : decode cL_law 624 = .ok (.if_icmp .eq 253, 3) := by decide +kernel
theorem dL_law_627 : decode cL_law 627 = .ok (.iconst 0, 1) := by decide +kernel
theorem dL_law_628 : decode cL_law 628 = .ok (.ireturn, 1) := by decide +kernel
theorem dL_law_629 : decode cL_law 629 = .ok (.aload_n 1, 1) := by decide +kernel
theorem dL_law_630 : decode cL_law 630 = .ok (.aload_n 0, 1) := by decide +kernel
theorem dL_law_631 : decode cL_law 631 = .ok (.iload_n 3, 1) := by decide +kernel
theorem dL_law_632 : decode cL_law 632 = .ok (.iconst 1, 1) := by decide +kernel
theorem dL_law_633 : decode cL_law 633 = .ok (.iadd, 1) := by decide +kernel
theorem dL_law_634 : decode cL_law 634 = .ok (.iaload, 1) := by decide +kernel
theorem dL_law_635 : decode cL_law 635 = .ok (.aload_n 0, 1) := by decide +kernel
theorem dL_law_636 : decode cL_law 636 = .ok (.iload_n 3, 1) := by decide +kernel
theorem dL_law_637 : decode cL_law 637 = .ok (.iconst 2, 1) := by decide +kernel
theorem dL_law_638 : decode cL_law 638 = .ok (.iadd, 1) := by decide +kernel
theorem dL_law_639 : decode cL_law 639 = .ok (.iaload, 1) := by decide +kernel
theorem dL_law_640 : decode cL_law 640 = .ok (.invokevirtual 78, 3) := by decide +kernel
theorem dL_law_643 : decode cL_law 643 = .ok (.aload_n 2, 1) := by decide +kernel
theorem dL_law_644 : decode cL_law 644 = .ok (.aload_n 0, 1) := by decide +kernel
theorem dL_law_645 : decode cL_law 645 = .ok (.iload_n 3, 1) := by decide +kernel
theorem dL_law_646 : decode cL_law 646 = .ok (.iconst 1, 1) := by decide +kernel
theorem dL_law_647 : decode cL_law 647 = .ok (.iadd, 1) := by decide +kernel
theorem dL_law_648 : decode cL_law 648 = .ok (.iaload, 1) := by decide +kernel
theorem dL_law_649 : decode cL_law 649 = .ok (.aload_n 0, 1) := by decide +kernel
theorem dL_law_650 : decode cL_law 650 = .ok (.iload_n 3, 1) := by decide +kernel
theorem dL_law_651 : decode cL_law 651 = .ok (.iconst 2, 1) := by decide +kernel
theorem dL_law_652 : decode cL_law 652 = .ok (.iadd, 1) := by decide +kernel
theorem dL_law_653 : decode cL_law 653 = .ok (.iaload, 1) := by decide +kernel
theorem dL_law_654 : decode cL_law 654 = .ok (.invokevirtual 81, 3) := by decide +kernel
theorem dL_law_657 : decode cL_law 657 = .ok (.if_icmp .eq 220, 3) := by decide +kernel
theorem dL_law_660 : decode cL_law 660 = .ok (.iconst 0, 1) := by decide +kernel
theorem dL_law_661 : decode cL_law 661 = .ok (.ireturn, 1) := by decide +kernel
theorem dL_law_662 : decode cL_law 662 = .ok (.aload_n 1, 1) := by decide +kernel
theorem dL_law_663 : decode cL_law 663 = .ok (.aload_n 0, 1) := by decide +kernel
theorem dL_law_664 : decode cL_law 664 = .ok (.iload_n 3, 1) := by decide +kernel
theorem dL_law_665 : decode cL_law 665 = .ok (.iconst 1, 1) := by decide +kernel
theorem dL_law_666 : decode cL_law 666 = .ok (.iadd, 1) := by decide +kernel
theorem dL_law_667 : decode cL_law 667 = .ok (.iaload, 1) := by decide +kernel
theorem dL_law_668 : decode cL_law 668 = .ok (.aload_n 0, 1) := by decide +kernel
theorem dL_law_669 : decode cL_law 669 = .ok (.iload_n 3, 1) := by decide +kernel
theorem dL_law_670 : decode cL_law 670 = .ok (.iconst 2, 1) := by decide +kernel
theorem dL_law_671 : decode cL_law 671 = .ok (.iadd, 1) := by decide +kernel
theorem dL_law_672 : decode cL_law 672 = .ok (.iaload, 1) := by decide +kernel
theorem dL_law_673 : decode cL_law 673 = .ok (.aload_n 0, 1) := by decide +kernel
theorem dL_law_674 : decode cL_law 674 = .ok (.iload_n 3, 1) := by decide +kernel
theorem dL_law_675 : decode cL_law 675 = .ok (.iconst 3, 1) := by decide +kernel
theorem dL_law_676 : decode cL_law 676 = .ok (.iadd, 1) := by decide +kernel
theorem dL_law_677 : decode cL_law 677 = .ok (.iaload, 1) := by decide +kernel
theorem dL_law_678 : decode cL_law 678 = .ok (.invokevirtual 82, 3) := by decide +kernel
theorem dL_law_681 : decode cL_law 681 = .ok (.aload_n 2, 1) := by decide +kernel
theorem dL_law_682 : decode cL_law 682 = .ok (.aload_n 0, 1) := by decide +kernel
theorem dL_law_683 : decode cL_law 683 = .ok (.iload_n 3, 1) := by decide +kernel
theorem dL_law_684 : decode cL_law 684 = .ok (.iconst 1, 1) := by decide +kernel
theorem dL_law_685 : decode cL_law 685 = .ok (.iadd, 1) := by decide +kernel
theorem dL_law_686 : decode cL_law 686 = .ok (.iaload, 1) := by decide +kernel
theorem dL_law_687 : decode cL_law 687 = .ok (.aload_n 0, 1) := by decide +kernel
theorem dL_law_688 : decode cL_law 688 = .ok (.iload_n 3, 1) := by decide +kernel
theorem dL_law_689 : decode cL_law 689 = .ok (.iconst 2, 1) := by decide +kernel
theorem dL_law_690 : decode cL_law 690 = .ok (.iadd, 1) := by decide +kernel
theorem dL_law_691 : decode cL_law 691 = .ok (.iaload, 1) := by decide +kernel
theorem dL_law_692 : decode cL_law 692 = .ok (.aload_n 0, 1) := by decide +kernel
theorem dL_law_693 : decode cL_law 693 = .ok (.iload_n 3, 1) := by decide +kernel
theorem dL_law_694 : decode cL_law 694 = .ok (.iconst 3, 1) := by decide +kernel
theorem dL_law_695 : decode cL_law 695 = .ok (.iadd, 1) := by decide +kernel
theorem dL_law_696 : decode cL_law 696 = .ok (.iaload, 1) := by decide +kernel
theorem dL_law_697 : decode cL_law 697 = .ok (.invokevirtual 85, 3) := by decide +kernel
theorem dL_law_700 : decode cL_law 700 = .ok (.if_icmp .eq 177, 3) := by decide +kernel
theorem dL_law_703 : decode cL_law 703 = .ok (.iconst 0, 1) := by decide +kernel
theorem dL_law_704 : decode cL_law 704 = .ok (.ireturn, 1) := by decide +kernel
theorem dL_law_705 : decode cL_law 705 = .ok (.aload_n 1, 1) := by decide +kernel
theorem dL_law_706 : decode cL_law 706 = .ok (.aload_n 0, 1) := by decide +kernel
theorem dL_law_707 : decode cL_law 707 = .ok (.iload_n 3, 1) := by decide +kernel
theorem dL_law_708 : decode cL_law 708 = .ok (.iconst 1, 1) := by decide +kernel
theorem dL_law_709 : decode cL_law 709 = .ok (.iadd, 1) := by decide +kernel
theorem dL_law_710 : decode cL_law 710 = .ok (.iaload, 1) := by decide +kernel
theorem dL_law_711 : decode cL_law 711 = .ok (.aload_n 0, 1) := by decide +kernel
theorem dL_law_712 : decode cL_law 712 = .ok (.iload_n 3, 1) := by decide +kernel
theorem dL_law_713 : decode cL_law 713 = .ok (.iconst 2, 1) := by decide +kernel
theorem dL_law_714 : decode cL_law 714 = .ok (.iadd, 1) := by decide +kernel
theorem dL_law_715 : decode cL_law 715 = .ok (.iaload, 1) := by decide +kernel
theorem dL_law_716 : decode cL_law 716 = .ok (.aload_n 0, 1) := by decide +kernel
theorem dL_law_717 : decode cL_law 717 = .ok (.iload_n 3, 1) := by decide +kernel
theorem dL_law_718 : decode cL_law 718 = .ok (.iconst 3, 1) := by decide +kernel
theorem dL_law_719 : decode cL_law 719 = .ok (.iadd, 1) := by decide +kernel
theorem dL_law_720 : decode cL_law 720 = .ok (.iaload, 1) := by decide +kernel
theorem dL_law_721 : decode cL_law 721 = .ok (.invokevirtual 86, 3) := by decide +kernel
theorem dL_law_724 : decode cL_law 724 = .ok (.aload_n 2, 1) := by decide +kernel
theorem dL_law_725 : decode cL_law 725 = .ok (.aload_n 0, 1) := by decide +kernel
theorem dL_law_726 : decode cL_law 726 = .ok (.iload_n 3, 1) := by decide +kernel
theorem dL_law_727 : decode cL_law 727 = .ok (.iconst 1, 1) := by decide +kernel
theorem dL_law_728 : decode cL_law 728 = .ok (.iadd, 1) := by decide +kernel
theorem dL_law_729 : decode cL_law 729 = .ok (.iaload, 1) := by decide +kernel
theorem dL_law_730 : decode cL_law 730 = .ok (.aload_n 0, 1) := by decide +kernel
theorem dL_law_731 : decode cL_law 731 = .ok (.iload_n 3, 1) := by decide +kernel
theorem dL_law_732 : decode cL_law 732 = .ok (.iconst 2, 1) := by decide +kernel
theorem dL_law_733 : decode cL_law 733 = .ok (.iadd, 1) := by decide +kernel
theorem dL_law_734 : decode cL_law 734 = .ok (.iaload, 1) := by decide +kernel
theorem dL_law_735 : decode cL_law 735 = .ok (.aload_n 0, 1) := by decide +kernel
theorem dL_law_736 : decode cL_law 736 = .ok (.iload_n 3, 1) := by decide +kernel
theorem dL_law_737 : decode cL_law 737 = .ok (.iconst 3, 1) := by decide +kernel
theorem dL_law_738 : decode cL_law 738 = .ok (.iadd, 1) := by decide +kernel
theorem dL_law_739 : decode cL_law 739 = .ok (.iaload, 1) := by decide +kernel
theorem dL_law_740 : decode cL_law 740 = .ok (.invokevirtual 89, 3) := by decide +kernel
theorem dL_law_743 : decode cL_law 743 = .ok (.if_icmp .eq 134, 3) := by decide +kernel
theorem dL_law_746 : decode cL_law 746 = .ok (.iconst 0, 1) := by decide +kernel
theorem dL_law_747 : decode cL_law 747 = .ok (.ireturn, 1) := by decide +kernel
theorem dL_law_748 : decode cL_law 748 = .ok (.aload_n 1, 1) := by decide +kernel
theorem dL_law_749 : decode cL_law 749 = .ok (.invokevirtual 90, 3) := by decide +kernel
theorem dL_law_752 : decode cL_law 752 = .ok (.aload_n 2, 1) := by decide +kernel
theorem dL_law_753 : decode cL_law 753 = .ok (.invokevirtual 93, 3) := by decide +kernel
theorem dL_law_756 : decode cL_law 756 = .ok (.if_icmp .eq 121, 3) := by decide +kernel
theorem dL_law_759 : decode cL_law 759 = .ok (.iconst 0, 1) := by decide +kernel
theorem dL_law_760 : decode cL_law 760 = .ok (.ireturn, 1) := by decide +kernel
theorem dL_law_761 : decode cL_law 761 = .ok (.aload_n 1, 1) := by decide +kernel
theorem dL_law_762 : decode cL_law 762 = .ok (.aload_n 0, 1) := by decide +kernel
theorem dL_law_763 : decode cL_law 763 = .ok (.iload_n 3, 1) := by decide +kernel
theorem dL_law_764 : decode cL_law 764 = .ok (.iconst 1, 1) := by decide +kernel
theorem dL_law_765 : decode cL_law 765 = .ok (.iadd, 1) := by decide +kernel
theorem dL_law_766 : decode cL_law 766 = .ok (.iaload, 1) := by decide +kernel
theorem dL_law_767 : decode cL_law 767 = .ok (.invokevirtual 94, 3) := by decide +kernel
theorem dL_law_770 : decode cL_law 770 = .ok (.aload_n 2, 1) := by decide +kernel
theorem dL_law_771 : decode cL_law 771 = .ok (.aload_n 0, 1) := by decide +kernel
theorem dL_law_772 : decode cL_law 772 = .ok (.iload_n 3, 1) := by decide +kernel
theorem dL_law_773 : decode cL_law 773 = .ok (.iconst 1, 1) := by decide +kernel
theorem dL_law_774 : decode cL_law 774 = .ok (.iadd, 1) := by decide +kernel
theorem dL_law_775 : decode cL_law 775 = .ok (.iaload, 1) := by decide +kernel
theorem dL_law_776 : decode cL_law 776 = .ok (.invokevirtual 97, 3) := by decide +kernel
theorem dL_law_779 : decode cL_law 779 = .ok (.if_icmp .eq 98, 3) := by decide +kernel
theorem dL_law_782 : decode cL_law 782 = .ok (.iconst 0, 1) := by decide +kernel
theorem dL_law_783 : decode cL_law 783 = .ok (.ireturn, 1) := by decide +kernel
theorem dL_law_784 : decode cL_law 784 = .ok (.aload_n 1, 1) := by decide +kernel
theorem dL_law_785 : decode cL_law 785 = .ok (.aload_n 0, 1) := by decide +kernel
theorem dL_law_786 : decode cL_law 786 = .ok (.iload_n 3, 1) := by decide +kernel
theorem dL_law_787 : decode cL_law 787 = .ok (.iconst 1, 1) := by decide +kernel
theorem dL_law_788 : decode cL_law 788 = .ok (.iadd, 1) := by decide +kernel
theorem dL_law_789 : decode cL_law 789 = .ok (.iaload, 1) := by decide +kernel
theorem dL_law_790 : decode cL_law 790 = .ok (.invokevirtual 98, 3) := by decide +kernel
theorem dL_law_793 : decode cL_law 793 = .ok (.aload_n 2, 1) := by decide +kernel
theorem dL_law_794 : decode cL_law 794 = .ok (.aload_n 0, 1) := by decide +kernel
theorem dL_law_795 : decode cL_law 795 = .ok (.iload_n 3, 1) := by decide +kernel
theorem dL_law_796 : decode cL_law 796 = .ok (.iconst 1, 1) := by decide +kernel
theorem dL_law_797 : decode cL_law 797 = .ok (.iadd, 1) := by decide +kernel
theorem dL_law_798 : decode cL_law 798 = .ok (.iaload, 1) := by decide +kernel
theorem dL_law_799 : decode cL_law 799 = .ok (.invokevirtual 101, 3) := by decide +kernel
theorem dL_law_802 : decode cL_law 802 = .ok (.if_icmp .eq 75, 3) := by decide +kernel
theorem dL_law_805 : decode cL_law 805 = .ok (.iconst 0, 1) := by decide +kernel
theorem dL_law_806 : decode cL_law 806 = .ok (.ireturn, 1) := by decide +kernel
theorem dL_law_807 : decode cL_law 807 = .ok (.aload_n 1, 1) := by decide +kernel
theorem dL_law_808 : decode cL_law 808 = .ok (.aload_n 0, 1) := by decide +kernel
theorem dL_law_809 : decode cL_law 809 = .ok (.iload_n 3, 1) := by decide +kernel
theorem dL_law_810 : decode cL_law 810 = .ok (.iconst 1, 1) := by decide +kernel
theorem dL_law_811 : decode cL_law 811 = .ok (.iadd, 1) := by decide +kernel
theorem dL_law_812 : decode cL_law 812 = .ok (.iaload, 1) := by decide +kernel
theorem dL_law_813 : decode cL_law 813 = .ok (.aload_n 0, 1) := by decide +kernel
theorem dL_law_814 : decode cL_law 814 = .ok (.iload_n 3, 1) := by decide +kernel
theorem dL_law_815 : decode cL_law 815 = .ok (.iconst 2, 1) := by decide +kernel
theorem dL_law_816 : decode cL_law 816 = .ok (.iadd, 1) := by decide +kernel
theorem dL_law_817 : decode cL_law 817 = .ok (.iaload, 1) := by decide +kernel
theorem dL_law_818 : decode cL_law 818 = .ok (.invokevirtual 102, 3) := by decide +kernel
theorem dL_law_821 : decode cL_law 821 = .ok (.aload_n 2, 1) := by decide +kernel
theorem dL_law_822 : decode cL_law 822 = .ok (.aload_n 0, 1) := by decide +kernel
theorem dL_law_823 : decode cL_law 823 = .ok (.iload_n 3, 1) := by decide +kernel
theorem dL_law_824 : decode cL_law 824 = .ok (.iconst 1, 1) := by decide +kernel
theorem dL_law_825 : decode cL_law 825 = .ok (.iadd, 1) := by decide +kernel
theorem dL_law_826 : decode cL_law 826 = .ok (.iaload, 1) := by decide +kernel
theorem dL_law_827 : decode cL_law 827 = .ok (.aload_n 0, 1) := by decide +kernel
theorem dL_law_828 : decode cL_law 828 = .ok (.iload_n 3, 1) := by decide +kernel
theorem dL_law_829 : decode cL_law 829 = .ok (.iconst 2, 1) := by decide +kernel
theorem dL_law_830 : decode cL_law 830 = .ok (.iadd, 1) := by decide +kernel
theorem dL_law_831 : decode cL_law 831 = .ok (.iaload, 1) := by decide +kernel
theorem dL_law_832 : decode cL_law 832 = .ok (.invokevirtual 105, 3) := by decide +kernel
theorem dL_law_835 : decode cL_law 835 = .ok (.if_icmp .eq 42, 3) := by decide +kernel
theorem dL_law_838 : decode cL_law 838 = .ok (.iconst 0, 1) := by decide +kernel
theorem dL_law_839 : decode cL_law 839 = .ok (.ireturn, 1) := by decide +kernel
theorem dL_law_840 : decode cL_law 840 = .ok (.aload_n 1, 1) := by decide +kernel
theorem dL_law_841 : decode cL_law 841 = .ok (.aload_n 0, 1) := by decide +kernel
theorem dL_law_842 : decode cL_law 842 = .ok (.iload_n 3, 1) := by decide +kernel
theorem dL_law_843 : decode cL_law 843 = .ok (.iconst 1, 1) := by decide +kernel
theorem dL_law_844 : decode cL_law 844 = .ok (.iadd, 1) := by decide +kernel
theorem dL_law_845 : decode cL_law 845 = .ok (.iaload, 1) := by decide +kernel
theorem dL_law_846 : decode cL_law 846 = .ok (.invokevirtual 106, 3) := by decide +kernel
theorem dL_law_849 : decode cL_law 849 = .ok (.aload_n 2, 1) := by decide +kernel
theorem dL_law_850 : decode cL_law 850 = .ok (.aload_n 0, 1) := by decide +kernel
theorem dL_law_851 : decode cL_law 851 = .ok (.iload_n 3, 1) := by decide +kernel
theorem dL_law_852 : decode cL_law 852 = .ok (.iconst 1, 1) := by decide +kernel
theorem dL_law_853 : decode cL_law 853 = .ok (.iadd, 1) := by decide +kernel
theorem dL_law_854 : decode cL_law 854 = .ok (.iaload, 1) := by decide +kernel
theorem dL_law_855 : decode cL_law 855 = .ok (.invokevirtual 109, 3) := by decide +kernel
theorem dL_law_858 : decode cL_law 858 = .ok (.if_icmp .eq 19, 3) := by decide +kernel
theorem dL_law_861 : decode cL_law 861 = .ok (.iconst 0, 1) := by decide +kernel
theorem dL_law_862 : decode cL_law 862 = .ok (.ireturn, 1) := by decide +kernel
theorem dL_law_863 : decode cL_law 863 = .ok (.aload_n 1, 1) := by decide +kernel
theorem dL_law_864 : decode cL_law 864 = .ok (.invokevirtual 110, 3) := by decide +kernel
theorem dL_law_867 : decode cL_law 867 = .ok (.aload_n 2, 1) := by decide +kernel
theorem dL_law_868 : decode cL_law 868 = .ok (.invokevirtual 114, 3) := by decide +kernel
theorem dL_law_871 : decode cL_law 871 = .ok (.lcmp, 1) := by decide +kernel
theorem dL_law_872 : decode cL_law 872 = .ok (.ifCond .eq 5, 3) := by decide +kernel
theorem dL_law_875 : decode cL_law 875 = .ok (.iconst 0, 1) := by decide +kernel
theorem dL_law_876 : decode cL_law 876 = .ok (.ireturn, 1) := by decide +kernel
theorem dL_law_877 : decode cL_law 877 = .ok (.iinc 3 5, 3) := by decide +kernel
theorem dL_law_880 : decode cL_law 880 = .ok (.goto (-862), 3) := by decide +kernel
theorem dL_law_883 : decode cL_law 883 = .ok (.iconst 1, 1) := by decide +kernel
theorem dL_law_884 : decode cL_law 884 = .ok (.ireturn, 1) := by decide +kernel
abbrev vwCl : List vw_C := [(RX0, TX0, 5), (RX1, TX1, 5), (RX2, TX2, 7), (RX3, TX3, 8), (RX4, TX4, 26)]
end
section
/-! my rows: the common shape of all contracts (MP reads only, MM writes its cells), and a row for each kind of call -/
abbrev GG : Type := va_G × ClassId × ClassId × ClassId × ClassId
abbrev tyG (g : GG) : List (ClassId × FieldType) := [(g.2.1, .int), (g.2.2.1, .long), (g.2.2.2.1, .boolean), (g.2.2.2.2, .object RX0)]
def NW (U : State) : Prop := va_Nw (.methodLinkNest RX3 11 yX0_init RX3) U ∧ va_Nw (.methodLinkNest RX3 18 yX1_init RX3) U ∧ va_Nw (.methodLinkNest RX3 25 yX2_init RX3) U ∧ va_Nw (.methodLinkNest RX0 26 yX3_inside RX3) U ∧ va_Nw (.methodLinkNest RX0 35 yX3_bit RX3) U ∧ va_Nw (.methodLinkNest RX0 39 yX3_isLand RX3) U ∧ va_Nw (.methodLinkNest RX0 56 yX3_around RX3) U ∧ va_Nw (.methodLinkNest RX2 40 yX3_isLand RX3) U ∧ va_Nw (.methodLinkNest RX2 54 yX3_thousandths RX3) U
theorem NW.warm {s U : State} (hW : s.WarmedH U.vm) (h : NW s) : NW U := ⟨va_Nw.warmM hW h.1, va_Nw.warmM hW h.2.1, va_Nw.warmM hW h.2.2.1, va_Nw.warmM hW h.2.2.2.1, va_Nw.warmM hW h.2.2.2.2.1, va_Nw.warmM hW h.2.2.2.2.2.1, va_Nw.warmM hW h.2.2.2.2.2.2.1, va_Nw.warmM hW h.2.2.2.2.2.2.2.1, va_Nw.warmM hW h.2.2.2.2.2.2.2.2⟩
theorem NW.same {u U : State} (e : u.vm = U.vm) (h : NW u) : NW U := ⟨va_Nw.same rfl e h.1, va_Nw.same rfl e h.2.1, va_Nw.same rfl e h.2.2.1, va_Nw.same rfl e h.2.2.2.1, va_Nw.same rfl e h.2.2.2.2.1, va_Nw.same rfl e h.2.2.2.2.2.1, va_Nw.same rfl e h.2.2.2.2.2.2.1, va_Nw.same rfl e h.2.2.2.2.2.2.2.1, va_Nw.same rfl e h.2.2.2.2.2.2.2.2⟩
def Kx (g : GG) (U : State) : Prop := va_K g.1 vwCl (tyG g) U ∧ NW U
theorem Kx.warm {g : GG} {s U : State} (hW : s.WarmedH U.vm) (h : Kx g s) : Kx g U := ⟨va_K.moved hW.alike h.1, NW.warm hW h.2⟩
theorem Kx.calling {g : GG} {U : State} {f : JFrame} {mk : MethodId} {a : Array Value} (h : Kx g U) : Kx g (U.calling f mk a) := ⟨va_K.moved (u := U) (U := U.calling f mk a) (Vm.Alike.refl U.vm) h.1, NW.same rfl h.2⟩
/-- a method that only reads: its answer, the heap as it was -/
def MP (l : Launch) (y : MethodName) (ws : List Cond) (rm : Room) (g : GG) (As : List Value) (w : va_W) (r : Value) : Prop :=
  Met l y ws rm (va_Pc As (fun U => va_P g.1 vwCl w U.heap ∧ Kx g U)) (k2_QcV r) 0 0 (fun _ => False)
def QM (g : GG) (r : Option Value) (w' : va_W) (A : Nat → Prop) : Array Value → State → Outcome → State → Prop := fun _ st o t => (o = .returned r ∧ va_P g.1 vwCl w' t.heap ∧ va_D A w') ∧ va_F A st t
/-- a method that writes: its answer, what its cells hold behind it -/
def MM (l : Launch) (y : MethodName) (ws : List Cond) (rm : Room) (g : GG) (As : List Value) (w w' : va_W) (r : Option Value) : Prop :=
  ∀ sz : Nat, Met l y ws rm (va_Pc As (fun U => U.heap.size = sz ∧ va_P g.1 vwCl w U.heap ∧ Kx g U ∧ va_D (fun _ => True) w)) (QM g r w' (va_A w sz)) 0 0 (va_A w sz)
theorem pk_of {α : Type} {ws ws' : List α} {is : List Nat} (hs : is.map (fun i => ws[i]?) = ws'.map some) {k : Nat} {q : α} (hq : ws'[k]? = some q) : ∃ i, is[k]? = some i ∧ ws[i]? = some q := by
  have h1 : (is.map (fun i => ws[i]?))[k]? = some (some q) := by rw [hs, List.getElem?_map, hq]; rfl
  rw [List.getElem?_map] at h1
  cases hi : is[k]? with
  | none => rw [hi] at h1; cases h1
  | some i => rw [hi] at h1; exact ⟨i, rfl, Option.some.inj h1⟩
theorem va_P.pick {D : va_G} {cl : List vw_C} {ws ws' : va_W} {H : Heap} (h : va_P D cl ws H) (is : List Nat) (hs : is.map (fun i => ws[i]?) = ws'.map some) : va_P D cl ws' H := by
  intro k q hk
  obtain ⟨i, -, hi⟩ := pk_of hs hk
  exact h i q hi
-- what a branch, a guard, a call says of the answer
theorem gdp {α : Type} {c : Prop} {i : Decidable c} {a b r : α} (h : @ite α c i a b = r) (hc : c) : a = r := by rw [if_pos hc] at h; exact h
theorem gdn {α : Type} {c : Prop} {i : Decidable c} {a b r : α} (h : @ite α c i a b = r) (hc : ¬ c) : b = r := by rw [if_neg hc] at h; exact h
/-- the index is in its row -/
def ix (i : Int32) (n : Nat) : Bool := decide (¬ (i < 0 ∨ n ≤ i.toNatClampNeg))
theorem ix_in {i : Int32} {n : Nat} : ix i n = true ↔ vp_in i n := by simp [ix, vp_in]
theorem gdi {α : Type} {i : Int32} {n : Nat} {a : Option α} {r : α} (h : (if ix i n = true then a else none) = some r) : vp_in i n ∧ a = some r := by
  by_cases q : ix i n = true
  · rw [if_pos q] at h; exact ⟨ix_in.mp q, h⟩
  · rw [if_neg q] at h; cases h
theorem gdz {α : Type} {y : Int32} {a : Option α} {r : α} (h : (if y = 0 then none else a) = some r) : ¬ y = 0 ∧ a = some r := by
  by_cases q : y = 0
  · rw [if_pos q] at h; cases h
  · rw [if_neg q] at h; exact ⟨q, h⟩
theorem gdb {α β : Type} {x : Option α} {k : α → Option β} {r : β} (h : x.bind k = some r) : ∃ a, x = some a ∧ k a = some r := Option.bind_eq_some_iff.mp h
/-- a loop: at most n rounds -/
def wh {S T : Type} (f : S → Option (Sum S T)) : Nat → S → Option T
  | 0, _ => none
  | n + 1, s => match f s with
    | none => none
    | some (.inl s') => wh f n s'
    | some (.inr t) => some t
def wk {S T : Type} (f : S → Option (Sum S T)) (n : Nat) (r : Sum S T) (t : T) : Prop := match r with
  | .inl s' => wh f n s' = some t
  | .inr t' => t' = t
theorem wh_s {S T : Type} {f : S → Option (Sum S T)} {n : Nat} {s : S} {t : T} (h : wh f (n + 1) s = some t) : ∃ r, f s = some r ∧ wk f n r t := by
  unfold wh at h
  cases hf : f s with
  | none => rw [hf] at h; cases h
  | some r =>
    rw [hf] at h
    cases r with
    | inl s' => exact ⟨_, rfl, h⟩
    | inr t' => exact ⟨_, rfl, Option.some.inj h⟩
theorem wh_0 {S T : Type} {f : S → Option (Sum S T)} {s : S} {t : T} (h : wh f 0 s = some t) : False := by unfold wh at h; cases h
def FU : Nat := 10000
section KROWS
variable {p : Program} {l : Launch} {e : Env} {R : Room} {s : State} {m : MethodId} {args : Array Value} {below : List Frame} {meth : Method} {c : Code} {H : Heap} {locs : List Loc} {cells slots : Nat} {Q : State → Prop}
variable {Ts wsc ws' : List Cond} {cc bytes : ByteArray} {nL maxL idx n pc : Nat} {own C host : String} {y : MethodName} {ret : Option FieldType} {rm : Room} {b : Addr} {As rest st0 : List Value} {ls : Array Slot} {g : GG} {w w' : va_W} {r : Value} {ro : Option Value}
theorem mp_blind {As : List Value} : FrameBlind (va_Pc As (fun U => va_P g.1 vwCl w U.heap ∧ Kx g U)) := fun _ _ _ _ q => ⟨q.1, q.2.1, q.2.2.calling⟩
theorem mm_blind {As : List Value} {sz : Nat} : FrameBlind (va_Pc As (fun U => U.heap.size = sz ∧ va_P g.1 vwCl w U.heap ∧ Kx g U ∧ va_D (fun _ => True) w)) := fun _ _ _ _ q => ⟨q.1, q.2.1, q.2.2.1, q.2.2.2.1.calling, q.2.2.2.2⟩
theorem MP.of (maxL : Nat) (ret : Option FieldType) (hy : plainName y.cls = true) (hw : wsc = Cond.code y cc maxL ret :: ws') (hAs : (lg_sl As).length ≤ maxL) (hown : y.cls = own)
    (body : ∀ (p : Program) (e : Env) (s : State) (m : MethodId) (args : Array Value) (below : List Frame) (meth : Method) (c : Code), p.tables.exec = Jvm.exec → c.code = cc → meth.sig.returnType = ret → c.maxLocals = maxL → s.vm.findClass own = some m.cls → (∀ w ∈ wsc, w.before args s = true) → meth.locks = false → va_P g.1 vwCl w s.heap → Kx g s → ∀ ls : Array Slot, lv_has ls maxL (lv_args 0 As) →
      W p l e rm s m args below meth c s.heap [] 0 0 (MQ below (k2_QcV r) args s 0 0 (fun _ => False)) (F0 m 0 ls [])) : MP l y wsc rm g As w r := by
  refine Met.ofW (cc := cc) (maxL := maxL) (ret := ret) hy hw ?_
  intro p e s m args below meth c s₁ B hml hv
  obtain ⟨rfl, hP, hK⟩ := hv
  have hts := atoms_spec (ws := wsc) B.pre
  have ho : s.vm.findClass y.cls = some m.cls := findClass_of_methodNamed B.named
  rw [lg_entry_eq]
  exact body p e s m _ below meth c B.exec B.bytes B.returns hml (hown ▸ ho) hts B.notSynchronized hP hK _ (lv_entry As hAs)
theorem MM.of (maxL : Nat) (ret : Option FieldType) (hy : plainName y.cls = true) (hw : wsc = Cond.code y cc maxL ret :: ws') (hAs : (lg_sl As).length ≤ maxL) (hown : y.cls = own)
    (body : ∀ (p : Program) (e : Env) (s : State) (m : MethodId) (args : Array Value) (below : List Frame) (meth : Method) (c : Code), p.tables.exec = Jvm.exec → c.code = cc → meth.sig.returnType = ret → c.maxLocals = maxL → s.vm.findClass own = some m.cls → (∀ w ∈ wsc, w.before args s = true) → meth.locks = false → Kx g s → ∀ A : Nat → Prop, (∀ q, s.heap.size ≤ q → A q) → ∀ ls : Array Slot, lv_has ls maxL (lv_args 0 As) → va_P g.1 vwCl w s.heap → va_D A w → va_S A s.heap s.heap [] →
      W p l e rm s m args below meth c s.heap [] 0 0 (MQ below (QM g ro w' A) args s 0 0 A) (F0 m 0 ls [])) : MM l y wsc rm g As w w' ro := by
  intro sz
  refine Met.ofW (cc := cc) (maxL := maxL) (ret := ret) hy hw ?_
  intro p e s m args below meth c s₁ B hml hv
  obtain ⟨rfl, rfl, hP, hK, hD⟩ := hv
  have hts := atoms_spec (ws := wsc) B.pre
  have ho : s.vm.findClass y.cls = some m.cls := findClass_of_methodNamed B.named
  rw [lg_entry_eq]
  exact body p e s m _ below meth c B.exec B.bytes B.returns hml (hown ▸ ho) hts B.notSynchronized hK _ (fun q h => Or.inr h) _ (lv_entry As hAs) hP hD.self va_S.rf
theorem kPV (S : CallFix p m c cc nL s args Ts own) (hM : MP l y wsc rm g (.ref b :: As) w r) (cw : CallW R s args own C idx y bytes maxL ret wsc rm 0 0 n) (hK : Kx g s) {W0 : va_W} (hP : va_P g.1 vwCl W0 H) (is : List Nat) (hw : is.map (fun i => W0[i]?) = w.map some) {ci : Nat} {q : vw_C} {fs : List Value} (hc : vwCl[ci]? = some q) (he : w[0]? = some (b, .inr (ci, fs))) (hC : q.1 = C) (hn : As.length = n) (hl : ls.size = nL) (hst : st0 = As.reverse ++ .ref b :: rest) (hroom : (rest.map fun v => v.category).sum ≤ 8) (hdg : decode cc pc = .ok (.invokevirtual idx, 3)) (hf : cells ≤ R.cells ∧ slots ≤ R.slots)
    (kk : W p l e R s m args below meth c H locs cells slots Q (F0 m (pc + 3) ls (r :: rest))) : W p l e R s m args below meth c H locs cells slots Q (F0 m pc ls st0) := by
  have hPc := hP.pick is hw
  have hr := va_recv hK.1 hPc hc he
  rw [hC] at hr
  exact W.callV (W.runV (As := As) (rest := rest) S hM cw ⟨mp_blind, hr, fun U hU hW => ⟨rfl, by rw [hU]; exact hPc, hK.warm hW⟩⟩ rfl hn hl hst (lv_room hroom) hdg hf) kk
theorem kPS (S : CallFix p m c cc nL s args Ts own) (hM : MP l y wsc rm g As w r) (cw : CallB R s args own idx y bytes maxL ret wsc rm 0 0 n ∧ (Cond.static y).before args s = true) (hK : Kx g s) (hw : w = []) (hn : As.length = n) (hl : ls.size = nL) (hst : st0 = As.reverse ++ rest) (hroom : (rest.map fun v => v.category).sum ≤ 8) (hdg : decode cc pc = .ok (.invokestatic idx, 3)) (hf : cells ≤ R.cells ∧ slots ≤ R.slots)
    (kk : W p l e R s m args below meth c H locs cells slots Q (F0 m (pc + 3) ls (r :: rest))) : W p l e R s m args below meth c H locs cells slots Q (F0 m pc ls st0) := by
  subst hw
  exact W.callV (W.runS (As := As) (rest := rest) S hM cw ⟨mp_blind, fun U hU hW => ⟨rfl, (fun k q h => by simp at h), hK.warm hW⟩⟩ rfl hn hl hst (lv_room hroom) hdg hf) kk
theorem kPN (S : CallFix p m c cc nL s args Ts own) (hM : MP l y wsc rm g As w r) (cw : va_CN R s args own idx y host bytes maxL ret wsc rm 0 0 n ∧ (Cond.static y).before args s = true ∧ True) (hK : Kx g s) (hw : w = []) (hn : As.length = n) (hl : ls.size = nL) (hst : st0 = As.reverse ++ rest) (hroom : (rest.map fun v => v.category).sum ≤ 8) (hdg : decode cc pc = .ok (.invokestatic idx, 3)) (hf : cells ≤ R.cells ∧ slots ≤ R.slots)
    (kk : W p l e R s m args below meth c H locs cells slots Q (F0 m (pc + 3) ls (r :: rest))) : W p l e R s m args below meth c H locs cells slots Q (F0 m pc ls st0) := by
  subst hw
  exact W.callV (va_Run.run (va_runSN (As := As) (rest := rest) S hM cw ⟨mp_blind, fun U hU hW => ⟨rfl, (fun k q h => by simp at h), hK.warm hW⟩⟩ rfl hn hl hst (lv_room hroom) hdg hf)) kk
/-- behind a call that writes: the caller's world with the callee's cells anew, in its old order -/
theorem kM {a : Array Value} {A : Nat → Prop} {W0 W1 wr : va_W} (hr : va_Run p l e R s m args below meth c H locs cells slots 0 0 (F0 m pc ls st0) rest (QM g ro w' (va_A w H.size) a) (va_A w H.size)) (hP : va_P g.1 vwCl W0 H) (hD : va_D A W0) (hS : va_S A s.heap H locs) (hA : ∀ q, s.heap.size ≤ q → A q) (isC isR perm : List Nat) (hC : isC.map (fun i => W0[i]?) = w.map some) (hR : isR.map (fun i => W0[i]?) = wr.map some) (hn : va_nd isR = true) (hdis : ∀ i ∈ isR, i ∉ isC) (hp : perm.map (fun i => (wr ++ w')[i]?) = W1.map some) (hpn : va_nd perm = true)
    (kk : ∀ (H1 : Heap) (locs1 : List Loc), va_P g.1 vwCl W1 H1 → va_D A W1 → va_S A s.heap H1 locs1 → W p l e R s m args below meth c H1 locs1 cells slots Q (F0 m (pc + 3) ls (ro.toList ++ rest))) : W p l e R s m args below meth c H locs cells slots Q (F0 m pc ls st0) := by
  intro T hT X
  obtain ⟨v, st₀, t, T', L, h0, X', hL, e1, e2, ⟨⟨hv, hp1, hd1⟩, hz, hk⟩, st⟩ := hr T hT X
  cases hv
  rw [h0] at hz hk
  have hF := va_free (wc := w) hD hS hA isC hC
  obtain ⟨hP1, hD1⟩ := va_join hP hD isC isR hC hR hn hdis hk hF hp1 hd1
  obtain ⟨t2, a1, b1⟩ := kk T'.heap (locs ++ L) (by rw [e1]; exact hP1.pick perm hp) (hD1.sub perm hpn hp)
    ⟨Nat.le_trans hS.1 (by rw [e1]; exact hz), fun q h1 h2 => by rw [e1, hk q (Nat.lt_of_lt_of_le h1 hS.1) (fun z => h2 (hF q z))]; exact hS.2.1 q h1 h2, fun q hq => by
      rcases List.mem_append.mp hq with h | h
      · exact hS.2.2 q h
      · exact hF _ (hL q h)⟩ T' rfl X'
  exact ⟨t2, st t2 a1, b1⟩
theorem kMV {A : Nat → Prop} {W0 W1 wr : va_W} (S : CallFix p m c cc nL s args Ts own) (hM : MM l y wsc rm g (.ref b :: As) w w' ro) (cw : CallW R s args own C idx y bytes maxL ret wsc rm 0 0 n) (hK : Kx g s) (hP : va_P g.1 vwCl W0 H) (hD : va_D A W0) (hS : va_S A s.heap H locs) (hA : ∀ q, s.heap.size ≤ q → A q) (isC isR perm : List Nat) (hC : isC.map (fun i => W0[i]?) = w.map some) (hcn : va_nd isC = true) (hR : isR.map (fun i => W0[i]?) = wr.map some) (hrn : va_nd isR = true) (hdis : ∀ i ∈ isR, i ∉ isC) (hp : perm.map (fun i => (wr ++ w')[i]?) = W1.map some) (hpn : va_nd perm = true)
    {ci : Nat} {q : vw_C} {fs : List Value} (hc : vwCl[ci]? = some q) (he : w[0]? = some (b, .inr (ci, fs))) (hCl : q.1 = C) (hn : As.length = n) (hl : ls.size = nL) (hst : st0 = As.reverse ++ .ref b :: rest) (hroom : (rest.map fun v => v.category).sum ≤ 8) (hdg : decode cc pc = .ok (.invokevirtual idx, 3)) (hf : cells ≤ R.cells ∧ slots ≤ R.slots)
    (kk : ∀ (H1 : Heap) (locs1 : List Loc), va_P g.1 vwCl W1 H1 → va_D A W1 → va_S A s.heap H1 locs1 → W p l e R s m args below meth c H1 locs1 cells slots Q (F0 m (pc + 3) ls (ro.toList ++ rest))) : W p l e R s m args below meth c H locs cells slots Q (F0 m pc ls st0) := by
  have hPc := hP.pick isC hC
  have hDc := hD.sub isC hcn hC
  have hr := va_recv hK.1 hPc hc he
  rw [hCl] at hr
  exact kM (va_runV (As := As) (rest := rest) S (hM H.size) cw ⟨mm_blind, hr, fun U hU hW => ⟨rfl, by rw [hU], by rw [hU]; exact hPc, hK.warm hW, hDc.weaken (fun _ _ _ _ => trivial)⟩⟩ rfl hn hl hst (lv_room hroom) hdg hf) hP hD hS hA isC isR perm hC hR hrn hdis hp hpn kk
-- ends
theorem retPi {v : Int32} (hx : p.tables.exec = Jvm.exec) (hb : c.code = cc) (hr : meth.sig.returnType = some .int) (hlocks : meth.locks = false) (hdg : decode cc pc = .ok (.ireturn, 1)) : W p l e R s m args below meth c s.heap [] 0 0 (MQ below (k2_QcV (.int v)) args s 0 0 (fun _ => False)) (F0 m pc ls [.int v]) := W.iret hx hb hr (fun _ ht _ => ⟨rfl, ht⟩) (fun _ hq => by cases hq) hdg hlocks
theorem retPz {v : Int32} (hx : p.tables.exec = Jvm.exec) (hb : c.code = cc) (hr : meth.sig.returnType = some .boolean) (hlocks : meth.locks = false) (hz : narrow .boolean (.int v) = .int v) (hdg : decode cc pc = .ok (.ireturn, 1)) : W p l e R s m args below meth c s.heap [] 0 0 (MQ below (k2_QcV (.int v)) args s 0 0 (fun _ => False)) (F0 m pc ls [.int v]) := W.zret hx hb hr hz (fun _ ht _ => ⟨rfl, ht⟩) (fun _ hq => by cases hq) hdg hlocks
theorem retPl {v : Int64} (hx : p.tables.exec = Jvm.exec) (hb : c.code = cc) (hr : meth.sig.returnType = some .long) (hlocks : meth.locks = false) (hdg : decode cc pc = .ok (.lreturn, 1)) : W p l e R s m args below meth c s.heap [] 0 0 (MQ below (k2_QcV (.long v)) args s 0 0 (fun _ => False)) (F0 m pc ls [.long v]) := W.lret hx hb hr (fun _ ht _ => ⟨rfl, ht⟩) (fun _ hq => by cases hq) hdg hlocks
theorem retMi {v : Int32} {A : Nat → Prop} (hx : p.tables.exec = Jvm.exec) (hb : c.code = cc) (hr : meth.sig.returnType = some .int) (hlocks : meth.locks = false) (hP : va_P g.1 vwCl w' H) (hD : va_D A w') (hS : va_S A s.heap H locs) (hdg : decode cc pc = .ok (.ireturn, 1)) : W p l e R s m args below meth c H locs cells slots (MQ below (QM g (some (.int v)) w' A) args s cells slots A) (F0 m pc ls [.int v]) := W.iret hx hb hr (fun _ ht _ => ⟨⟨rfl, by rw [ht]; exact hP, hD⟩, hS.F ht⟩) hS.2.2 hdg hlocks
theorem retMz {v : Int32} {A : Nat → Prop} (hx : p.tables.exec = Jvm.exec) (hb : c.code = cc) (hr : meth.sig.returnType = some .boolean) (hlocks : meth.locks = false) (hz : narrow .boolean (.int v) = .int v) (hP : va_P g.1 vwCl w' H) (hD : va_D A w') (hS : va_S A s.heap H locs) (hdg : decode cc pc = .ok (.ireturn, 1)) : W p l e R s m args below meth c H locs cells slots (MQ below (QM g (some (.int v)) w' A) args s cells slots A) (F0 m pc ls [.int v]) := W.zret hx hb hr hz (fun _ ht _ => ⟨⟨rfl, by rw [ht]; exact hP, hD⟩, hS.F ht⟩) hS.2.2 hdg hlocks
theorem retMl {v : Int64} {A : Nat → Prop} (hx : p.tables.exec = Jvm.exec) (hb : c.code = cc) (hr : meth.sig.returnType = some .long) (hlocks : meth.locks = false) (hP : va_P g.1 vwCl w' H) (hD : va_D A w') (hS : va_S A s.heap H locs) (hdg : decode cc pc = .ok (.lreturn, 1)) : W p l e R s m args below meth c H locs cells slots (MQ below (QM g (some (.long v)) w' A) args s cells slots A) (F0 m pc ls [.long v]) := W.lret hx hb hr (fun _ ht _ => ⟨⟨rfl, by rw [ht]; exact hP, hD⟩, hS.F ht⟩) hS.2.2 hdg hlocks
theorem retMv {A : Nat → Prop} (hx : p.tables.exec = Jvm.exec) (hb : c.code = cc) (hr : meth.sig.returnType = none) (hlocks : meth.locks = false) (hP : va_P g.1 vwCl w' H) (hD : va_D A w') (hS : va_S A s.heap H locs) (hdg : decode cc pc = .ok (.return_, 1)) : W p l e R s m args below meth c H locs cells slots (MQ below (QM g none w' A) args s cells slots A) (F0 m pc ls []) := W.vret hx hb hr (fun _ ht _ => ⟨⟨rfl, by rw [ht]; exact hP, hD⟩, hS.F ht⟩) hS.2.2 hdg hlocks
-- switches
theorem tswIn {dflt lo hi : Int} {offs : Array Int} {len : Nat} {x : Int32} (v : Int32) (hv : x = v) {off : Int} {tgt : Nat} (hx : p.tables.exec = Jvm.exec) (hb : c.code = cc) (hdg : decode cc pc = .ok (.tableswitch dflt lo hi offs, len)) (h1 : ¬ v.toInt < lo) (h2 : ¬ hi < v.toInt) (ho : offs[(v.toInt - lo).toNat]? = some off) (ht : (pc : Int) + off = (tgt : Int)) (k : W p l e R s m args below meth c H locs cells slots Q (F0 m tgt ls rest)) : W p l e R s m args below meth c H locs cells slots Q (F0 m pc ls (.int x :: rest)) := by
  subst hv
  exact lv_tableIn hx hb hdg h1 h2 ho ht k
theorem tsw_out {x : Int32} {n : Nat} (h : ∀ k : Nat, k < n → ¬ x = Int32.ofNat k) (hn : n < 1000) : x.toInt < 0 ∨ (n : Int) - 1 < x.toInt := by
  rcases Int.lt_or_le x.toInt 0 with q | q
  · exact Or.inl q
  · rcases Int.lt_or_le ((n : Int) - 1) x.toInt with q2 | q2
    · exact Or.inr q2
    · refine absurd ?_ (h x.toInt.toNat (by omega))
      apply Int32.toInt_inj.mp
      rw [show Int32.ofNat x.toInt.toNat = nI x.toInt.toNat from rfl, nI_toInt (by omega)]
      omega
end KROWS
end
section
/-! what each method computes, as a plain function of its arguments and of the cells that it reads: printed by my program (wip/whole/gen.py) from the listing -/
def lt {α β : Type} (x : α) (k : α → β) : β := k x
theorem gdl {α β : Type} {x : α} {k : α → β} {r : β} (h : lt x k = r) : ∃ y, x = y ∧ k y = r := ⟨x, rfl, h⟩
def wG (g : GG) (a0 a1 : Nat) (gw : Int32) (gh : Int32) (al : Int64) (ed : Int64) (gl : (Nat → Int64)) : va_W := [(a0, .inr (0, [.ref a1, .int gw, .int gh, .long al, .long ed])), (a1, .inl (g.2.2.1, 6, .inr (.inl gl)))]
def wGG (g : GG) (a0 a1 b0 b1 : Nat) (gw : Int32) (gh : Int32) (al : Int64) (ed : Int64) (gl : (Nat → Int64)) (gw2 : Int32) (gh2 : Int32) (al2 : Int64) (ed2 : Int64) (gl2 : (Nat → Int64)) : va_W := [(a0, .inr (0, [.ref a1, .int gw, .int gh, .long al, .long ed])), (a1, .inl (g.2.2.1, 6, .inr (.inl gl))), (b0, .inr (0, [.ref b1, .int gw2, .int gh2, .long al2, .long ed2])), (b1, .inl (g.2.2.1, 6, .inr (.inl gl2)))]
def wV (g : GG) (a0 a1 a2 : Nat) (top : Int32) (kep : Int32) (don : Int32) (vc : (Nat → Int32)) (vf : (Nat → Int32)) : va_W := [(a0, .inr (1, [.ref a1, .ref a2, .int top, .int kep, .int don])), (a1, .inl (g.2.1, 100, .inl vc)), (a2, .inl (g.2.1, 100, .inl vf))]
def wR (g : GG) (a0 a1 a2 a3 a4 a5 : Nat) (bx : Int32) (tt : Int32) (pl : (Nat → Int32)) (we : (Nat → Int32)) (le : (Nat → Int32)) (ab : (Nat → Int32)) (rw : (Nat → Int32)) : va_W := [(a0, .inr (2, [.ref a1, .ref a2, .ref a3, .ref a4, .ref a5, .int bx, .int tt])), (a1, .inl (g.2.1, 6, .inl pl)), (a2, .inl (g.2.1, 6, .inl we)), (a3, .inl (g.2.1, 6, .inl le)), (a4, .inl (g.2.1, 6, .inl ab)), (a5, .inl (g.2.1, 6, .inl rw))]
def wRG (g : GG) (a0 a1 a2 a3 a4 a5 b0 b1 : Nat) (bx : Int32) (tt : Int32) (pl : (Nat → Int32)) (we : (Nat → Int32)) (le : (Nat → Int32)) (ab : (Nat → Int32)) (rw : (Nat → Int32)) (gw : Int32) (gh : Int32) (al : Int64) (ed : Int64) (gl : (Nat → Int64)) : va_W := [(a0, .inr (2, [.ref a1, .ref a2, .ref a3, .ref a4, .ref a5, .int bx, .int tt])), (a1, .inl (g.2.1, 6, .inl pl)), (a2, .inl (g.2.1, 6, .inl we)), (a3, .inl (g.2.1, 6, .inl le)), (a4, .inl (g.2.1, 6, .inl ab)), (a5, .inl (g.2.1, 6, .inl rw)), (b0, .inr (0, [.ref b1, .int gw, .int gh, .long al, .long ed])), (b1, .inl (g.2.2.1, 6, .inr (.inl gl)))]
def wB (g : GG) (a : Nat → Nat) (ask : Int64) (gw : Int32) (gh : Int32) (al : Int64) (ed : Int64) (gl : (Nat → Int64)) (top : Int32) (kep : Int32) (don : Int32) (vc : (Nat → Int32)) (vf : (Nat → Int32)) (bx : Int32) (tt : Int32) (pl : (Nat → Int32)) (we : (Nat → Int32)) (le : (Nat → Int32)) (ab : (Nat → Int32)) (rw : (Nat → Int32)) (ki : (Nat → Int32)) (ow : (Nat → Int32)) (wa : (Nat → Int32)) : va_W := [((a 0), .inr (3, [.ref (a 1), .ref (a 3), .ref (a 6), .ref (a 12), .ref (a 13), .ref (a 14), .ref (a 15), .long ask])), ((a 1), .inr (0, [.ref (a 2), .int gw, .int gh, .long al, .long ed])), ((a 2), .inl (g.2.2.1, 6, .inr (.inl gl))), ((a 3), .inr (1, [.ref (a 4), .ref (a 5), .int top, .int kep, .int don])), ((a 4), .inl (g.2.1, 100, .inl vc)), ((a 5), .inl (g.2.1, 100, .inl vf)), ((a 6), .inr (2, [.ref (a 7), .ref (a 8), .ref (a 9), .ref (a 10), .ref (a 11), .int bx, .int tt])), ((a 7), .inl (g.2.1, 6, .inl pl)), ((a 8), .inl (g.2.1, 6, .inl we)), ((a 9), .inl (g.2.1, 6, .inl le)), ((a 10), .inl (g.2.1, 6, .inl ab)), ((a 11), .inl (g.2.1, 6, .inl rw)), ((a 13), .inl (g.2.1, 6, .inl ki)), ((a 14), .inl (g.2.1, 6, .inl ow)), ((a 15), .inl (g.2.1, 6, .inl wa))]
def wM (g : GG) (a : Nat → Nat) (mw : Int32) (mh : Int32) (mke : Int32) (mnx : Int32) (mdo : Int32) (mtr : Int64) (mma : Int32) (mto : Int32) (mah : Int32) (mrs : Int32) (mab : Int32) (ce : (Nat → Int32)) (mk : (Nat → Int32)) (mo : (Nat → Int32)) (mwa : (Nat → Int32)) (mmc : (Nat → Int32)) (mmf : (Nat → Int32)) (mhy : (Nat → Int32)) (myw : (Nat → Int32)) (myh : (Nat → Int32)) (myr : (Nat → Int32)) (mpi : (Nat → Int32)) (mme : (Nat → Int32)) (mde : (Nat → Int32)) (mwe : (Nat → Int32)) (mla : (Nat → Int32)) : va_W := [((a 0), .inr (4, [.int mw, .int mh, .ref (a 1), .ref (a 2), .ref (a 3), .ref (a 4), .int mke, .int mnx, .int mdo, .ref (a 5), .ref (a 6), .ref (a 7), .ref (a 8), .ref (a 9), .ref (a 10), .long mtr, .ref (a 11), .ref (a 12), .ref (a 13), .int mma, .ref (a 14), .ref (a 15), .int mto, .int mah, .int mrs, .int mab])), ((a 1), .inl (g.2.1, 64, .inl ce)), ((a 2), .inl (g.2.1, 6, .inl mk)), ((a 3), .inl (g.2.1, 6, .inl mo)), ((a 4), .inl (g.2.1, 6, .inl mwa)), ((a 5), .inl (g.2.1, 100, .inl mmc)), ((a 6), .inl (g.2.1, 100, .inl mmf)), ((a 7), .inl (g.2.2.2.1, 4, .inl mhy)), ((a 8), .inl (g.2.1, 4, .inl myw)), ((a 9), .inl (g.2.1, 4, .inl myh)), ((a 10), .inl (g.2.1, 256, .inl myr)), ((a 11), .inl (g.2.1, 64, .inl mpi)), ((a 12), .inl (g.2.2.2.1, 64, .inl mme)), ((a 13), .inl (g.2.1, 64, .inl mde)), ((a 14), .inl (g.2.1, 6, .inl mwe)), ((a 15), .inl (g.2.1, 6, .inl mla))]
def wN (g : GG)  : va_W := []
-- LandBoard.toRight
def fX3_toRight (x0 : Int64) : Int64 :=
  ((x0 &&& (9187201950435737471 : Int64)) <<< ((1 : Int32).toInt64 &&& 63))
-- LandBoard.toLeft
def fX3_toLeft (x0 : Int64) : Int64 :=
  (((x0 &&& (-72340172838076674 : Int64))).toUInt64 >>> ((1 : Int32).toInt64.toUInt64 &&& Int64.toUInt64 63)).toInt64
-- LandBoard.inside
def fX3_inside (x0 : Int64) : Int64 :=
  ((((x0 &&& (fX3_toRight x0)) &&& (fX3_toLeft x0)) &&& (x0 <<< ((8 : Int32).toInt64 &&& 63))) &&& ((x0).toUInt64 >>> ((8 : Int32).toInt64.toUInt64 &&& Int64.toUInt64 63)).toInt64)
-- LandBoard$Grid.clear
def fX0_clear_75 (s75 : Int32 × (Nat → Int64)) : Option (Sum (Int32 × (Nat → Int64)) ((Nat → Int64))) :=
  (if (6 : Int32) ≤ s75.1 then (some (.inr s75.2)) else (if ix s75.1 6 = true then (some (.inl ((s75.1 + 1), (vp_updL s75.2 (s75.1).toNatClampNeg (0 : Int64))))) else none))
def fX0_clear_17 (x1 : Int32) (x2 : Int32) (s17 : Int32 × Int64) : Option (Sum (Int32 × Int64) (Int64)) :=
  (if x2 ≤ s17.1 then (some (.inr s17.2)) else (if (8 : Int32) ≤ s17.1 then (some (.inr s17.2)) else (some (.inl ((s17.1 + 1), (s17.2 ||| ((((1 : Int64) <<< (x1.toInt64 &&& 63)) - (1 : Int64)) <<< (((8 : Int32) * s17.1).toInt64 &&& 63))))))))
def fX0_clear (x1 : Int32) (x2 : Int32) (gw : Int32) (gh : Int32) (al : Int64) (ed : Int64) (gl : (Nat → Int64)) : Option (Int32 × Int32 × Int64 × Int64 × (Nat → Int64)) :=
  ((wh (fX0_clear_17 x1 x2) FU ((0 : Int32), (0 : Int64))).bind fun t17 => ((wh fX0_clear_75 FU ((0 : Int32), gl)).bind fun t75 => (some (x1, x2, t17, (t17 &&& ((fX3_inside t17) ^^^ (-1 : Int64))), t75))))
-- LandBoard.forgetKinds
def fX3_forgetKinds_2 (s2 : Int32 × (Nat → Int32) × (Nat → Int32)) : Option (Sum (Int32 × (Nat → Int32) × (Nat → Int32)) ((Nat → Int32) × (Nat → Int32))) :=
  (if (6 : Int32) ≤ s2.1 then (some (.inr (s2.2.1, s2.2.2))) else (if ix s2.1 6 = true then (if ix s2.1 6 = true then (some (.inl ((s2.1 + 1), (upd s2.2.1 (s2.1).toNatClampNeg (0 : Int32)), (upd s2.2.2 (s2.1).toNatClampNeg (-9 : Int32))))) else none) else none))
def fX3_forgetKinds (ki : (Nat → Int32)) (ow : (Nat → Int32)) : Option ((Nat → Int32) × (Nat → Int32)) :=
  ((wh fX3_forgetKinds_2 FU ((0 : Int32), ki, ow)).bind fun t2 => (some (t2.1, t2.2)))
-- LandBoard$Moves.forget
def fX1_forget (kep : Int32) : Int32 :=
  (0 : Int32)
-- LandBoard.board
def fX3_board (x1 : Int32) (x2 : Int32) (gw : Int32) (gh : Int32) (al : Int64) (ed : Int64) (gl : (Nat → Int64)) (kep : Int32) (ki : (Nat → Int32)) (ow : (Nat → Int32)) : Option (Int32 × Int32 × Int32 × Int64 × Int64 × (Nat → Int64) × Int32 × (Nat → Int32) × (Nat → Int32)) :=
  (if x1 < (1 : Int32) then (some ((-1 : Int32), gw, gh, al, ed, gl, kep, ki, ow)) else (if (8 : Int32) < x1 then (some ((-1 : Int32), gw, gh, al, ed, gl, kep, ki, ow)) else (if x2 < (1 : Int32) then (some ((-1 : Int32), gw, gh, al, ed, gl, kep, ki, ow)) else (if x2 ≤ (8 : Int32) then ((fX0_clear x1 x2 gw gh al ed gl).bind fun r30 => ((fX3_forgetKinds ki ow).bind fun r34 => (some ((x1 * x2), r30.1, r30.2.1, r30.2.2.1, r30.2.2.2.1, r30.2.2.2.2, (fX1_forget kep), r34.1, r34.2)))) else (some ((-1 : Int32), gw, gh, al, ed, gl, kep, ki, ow))))))
-- LandBoard$Grid.has
def fX0_has (x1 : Int32) (x2 : Int32) (gw : Int32) (gh : Int32) : Int32 :=
  (if x1 < 0 then (0 : Int32) else (if gw ≤ x1 then (0 : Int32) else (if x2 < 0 then (0 : Int32) else (if gh ≤ x2 then (0 : Int32) else (1 : Int32)))))
-- LandBoard.isLand
def fX3_isLand (x0 : Int32) : Int32 :=
  (if x0 < 0 then (0 : Int32) else (if (6 : Int32) ≤ x0 then (0 : Int32) else (1 : Int32)))
-- LandBoard.isLandOrSea
def fX3_isLandOrSea (x0 : Int32) : Int32 :=
  (if x0 = (-4 : Int32) then (1 : Int32) else (if (fX3_isLand x0) = 0 then (0 : Int32) else (1 : Int32)))
-- LandBoard.cellAt
def fX3_cellAt (x0 : Int32) (x1 : Int32) : Int32 :=
  (x0 + ((8 : Int32) * x1))
-- LandBoard.bit
def fX3_bit (x0 : Int32) : Int64 :=
  ((1 : Int64) <<< (x0.toInt64 &&& 63))
-- LandBoard$Grid.landOf
def fX0_landOf_2 (x1 : Int32) (gl : (Nat → Int64)) (s2 : Int32) : Option (Sum (Int32) (Int32)) :=
  (if (6 : Int32) ≤ s2 then (some (.inr (-4 : Int32))) else (if ix s2 6 = true then (if (lg_cmp ((gl (s2).toNatClampNeg) &&& (fX3_bit x1)) (0 : Int64)) = 0 then (some (.inl (s2 + 1))) else (some (.inr s2))) else none))
def fX0_landOf (x1 : Int32) (gl : (Nat → Int64)) : Option (Int32) :=
  (wh (fX0_landOf_2 x1 gl) FU (0 : Int32))
-- LandBoard$Grid.put
def fX0_put_2 (x1 : Int32) (x2 : Int32) (s2 : Int32 × (Nat → Int64)) : Option (Sum (Int32 × (Nat → Int64)) ((Nat → Int64))) :=
  (if (6 : Int32) ≤ s2.1 then (some (.inr s2.2)) else (if ix s2.1 6 = true then (if ix s2.1 6 = true then (if ¬ s2.1 = x2 then (some (.inl ((s2.1 + 1), (vp_updL s2.2 (s2.1).toNatClampNeg ((s2.2 (s2.1).toNatClampNeg) &&& ((fX3_bit x1) ^^^ (-1 : Int64))))))) else (if ix s2.1 6 = true then (if ix s2.1 6 = true then (some (.inl ((s2.1 + 1), (vp_updL (vp_updL s2.2 (s2.1).toNatClampNeg ((s2.2 (s2.1).toNatClampNeg) &&& ((fX3_bit x1) ^^^ (-1 : Int64)))) (s2.1).toNatClampNeg (((vp_updL s2.2 (s2.1).toNatClampNeg ((s2.2 (s2.1).toNatClampNeg) &&& ((fX3_bit x1) ^^^ (-1 : Int64)))) (s2.1).toNatClampNeg) ||| (fX3_bit x1)))))) else none) else none)) else none) else none))
def fX0_put (x1 : Int32) (x2 : Int32) (gl : (Nat → Int64)) : Option ((Nat → Int64)) :=
  ((wh (fX0_put_2 x1 x2) FU ((0 : Int32), gl)).bind fun t2 => (some t2))
-- LandBoard.set
def fX3_set (x1 : Int32) (x2 : Int32) (x3 : Int32) (gw : Int32) (gh : Int32) (gl : (Nat → Int64)) (kep : Int32) : Option (Int32 × (Nat → Int64) × Int32) :=
  (if (fX0_has x1 x2 gw gh) = 0 then (some ((-1 : Int32), gl, kep)) else (if ¬ (fX3_isLandOrSea x3) = 0 then ((fX0_landOf (fX3_cellAt x1 x2) gl).bind fun r30 => ((fX0_put (fX3_cellAt x1 x2) x3 gl).bind fun r45 => (some (r30, r45, (fX1_forget kep))))) else (some ((-1 : Int32), gl, kep))))
-- LandBoard.at
def fX3_at (x1 : Int32) (x2 : Int32) (gw : Int32) (gh : Int32) (gl : (Nat → Int64)) : Option (Int32) :=
  (if (fX0_has x1 x2 gw gh) = 0 then (some (-1 : Int32)) else ((fX0_landOf (fX3_cellAt x1 x2) gl).bind fun r21 => (some r21)))
-- LandBoard$Grid.cellsOf
def fX0_cellsOf (x1 : Int32) (gl : (Nat → Int64)) : Option (Int64) :=
  (if (fX3_isLand x1) = 0 then (some (0 : Int64)) else (if ix x1 6 = true then (some (gl (x1).toNatClampNeg)) else none))
-- java/lang/Long.bitCount
def fJ13_bitCount_95d88 (x0 : Int64) : Int32 :=
  (lt (x0 - (((x0).toUInt64 >>> ((1 : Int32).toInt64.toUInt64 &&& Int64.toUInt64 63)).toInt64 &&& (6148914691236517205 : Int64))) fun v9 => (lt ((v9 &&& (3689348814741910323 : Int64)) + (((v9).toUInt64 >>> ((2 : Int32).toInt64.toUInt64 &&& Int64.toUInt64 63)).toInt64 &&& (3689348814741910323 : Int64))) fun v23 => (lt ((v23 + ((v23).toUInt64 >>> ((4 : Int32).toInt64.toUInt64 &&& Int64.toUInt64 63)).toInt64) &&& (1085102592571150095 : Int64)) fun v33 => (lt (v33 + ((v33).toUInt64 >>> ((8 : Int32).toInt64.toUInt64 &&& Int64.toUInt64 63)).toInt64) fun v40 => (lt (v40 + ((v40).toUInt64 >>> ((16 : Int32).toInt64.toUInt64 &&& Int64.toUInt64 63)).toInt64) fun v47 => (lt (v47 + ((v47).toUInt64 >>> ((32 : Int32).toInt64.toUInt64 &&& Int64.toUInt64 63)).toInt64) fun v54 => ((v54).toInt32 &&& (127 : Int32))))))))
-- LandBoard$Grid.sizeOf
def fX0_sizeOf (x1 : Int32) (gl : (Nat → Int64)) : Option (Int32) :=
  ((fX0_cellsOf x1 gl).bind fun r2 => (some (fJ13_bitCount_95d88 r2)))
-- LandBoard.size
def fX3_size (x1 : Int32) (gl : (Nat → Int64)) : Option (Int32) :=
  (if (fX3_isLand x1) = 0 then (some (-1 : Int32)) else ((fX0_sizeOf x1 gl).bind fun r12 => (some r12)))
-- LandBoard.around
def fX3_around (x0 : Int64) : Int64 :=
  ((((fX3_toRight x0) ||| (fX3_toLeft x0)) ||| (x0 <<< ((8 : Int32).toInt64 &&& 63))) ||| ((x0).toUInt64 >>> ((8 : Int32).toInt64.toUInt64 &&& Int64.toUInt64 63)).toInt64)
-- LandBoard.isWhole
def fX3_isWhole_8 (x0 : Int64) (s8 : Int64 × Int32) : Option (Sum (Int64 × Int32) (Int64)) :=
  (if (64 : Int32) ≤ s8.2 then (some (.inr s8.1)) else (if ¬ (lg_cmp (s8.1 ||| ((fX3_around s8.1) &&& x0)) s8.1) = 0 then (some (.inl ((s8.1 ||| ((fX3_around s8.1) &&& x0)), (s8.2 + 1)))) else (some (.inr s8.1))))
def fX3_isWhole (x0 : Int64) : Option (Int32) :=
  ((wh (fX3_isWhole_8 x0) FU ((x0 &&& (-x0)), (0 : Int32))).bind fun t8 => (if (lg_cmp x0 (0 : Int64)) = 0 then (some (0 : Int32)) else (if ¬ (lg_cmp t8 x0) = 0 then (some (0 : Int32)) else (some (1 : Int32)))))
-- LandBoard.answer
def fX3_answer (x0 : Int32) : Int32 :=
  (if x0 = 0 then (0 : Int32) else (1 : Int32))
-- LandBoard.whole
def fX3_whole (x1 : Int32) (gl : (Nat → Int64)) : Option (Int32) :=
  (if (fX3_isLand x1) = 0 then (some (-1 : Int32)) else ((fX0_cellsOf x1 gl).bind fun r12 => ((fX3_isWhole r12).bind fun r15 => (some (fX3_answer r15)))))
-- LandBoard$Grid.peopledCells
def fX0_peopledCells_4 (gl : (Nat → Int64)) (s4 : Int64 × Int32) : Option (Sum (Int64 × Int32) (Int64)) :=
  (if (6 : Int32) ≤ s4.2 then (some (.inr s4.1)) else (if ix s4.2 6 = true then (some (.inl ((s4.1 ||| (gl (s4.2).toNatClampNeg)), (s4.2 + 1)))) else none))
def fX0_peopledCells (gl : (Nat → Int64)) : Option (Int64) :=
  ((wh (fX0_peopledCells_4 gl) FU ((0 : Int64), (0 : Int32))).bind fun t4 => (some t4))
-- LandBoard$Grid.isAtSea
def fX0_isAtSea (x1 : Int64) (al : Int64) (ed : Int64) (gl : (Nat → Int64)) : Option (Int32) :=
  ((fX0_peopledCells gl).bind fun r5 => (if ¬ (lg_cmp (x1 &&& ed) (0 : Int64)) = 0 then (some (1 : Int32)) else (if (lg_cmp ((fX3_around x1) &&& (al &&& (r5 ^^^ (-1 : Int64)))) (0 : Int64)) = 0 then (some (0 : Int32)) else (some (1 : Int32)))))
-- LandBoard.touch
def fX3_touch (x1 : Int32) (x2 : Int32) (al : Int64) (ed : Int64) (gl : (Nat → Int64)) : Option (Int32) :=
  (if (fX3_isLandOrSea x1) = 0 then (some (-1 : Int32)) else (if (fX3_isLandOrSea x2) = 0 then (some (-1 : Int32)) else (if ¬ x1 = x2 then (if ¬ x1 = (-4 : Int32) then (if ¬ x2 = (-4 : Int32) then ((fX0_cellsOf x1 gl).bind fun r76 => ((fX0_cellsOf x2 gl).bind fun r87 => (if (lg_cmp ((fX3_around r76) &&& r87) (0 : Int64)) = 0 then (some (fX3_answer (0 : Int32))) else (some (fX3_answer (1 : Int32)))))) else ((fX0_cellsOf x1 gl).bind fun r61 => ((fX0_isAtSea r61 al ed gl).bind fun r64 => (some (fX3_answer r64))))) else ((fX0_cellsOf x2 gl).bind fun r36 => ((fX0_isAtSea r36 al ed gl).bind fun r39 => (some (fX3_answer r39))))) else (some (-1 : Int32)))))
-- LandBoard.kind
def fX3_kind (x1 : Int32) (x2 : Int32) (x3 : Int32) (x4 : Int32) (gw : Int32) (gh : Int32) (gl : (Nat → Int64)) (ki : (Nat → Int32)) (ow : (Nat → Int32)) : Option (Int32 × (Nat → Int32) × (Nat → Int32)) :=
  (if (fX3_isLand x1) = 0 then (some ((-1 : Int32), ki, ow)) else (if x2 < 0 then (some ((-1 : Int32), ki, ow)) else (if (2 : Int32) < x2 then (some ((-1 : Int32), ki, ow)) else (if x2 = 0 then (if x2 = 0 then (if ix x1 6 = true then (if ¬ x2 = 0 then (if ix x1 6 = true then (some ((1 : Int32), (upd ki (x1).toNatClampNeg x2), (upd ow (x1).toNatClampNeg (fX3_cellAt x3 x4)))) else none) else (if ix x1 6 = true then (some ((1 : Int32), (upd ki (x1).toNatClampNeg x2), (upd ow (x1).toNatClampNeg (-9 : Int32)))) else none)) else none) else ((fX0_landOf (fX3_cellAt x3 x4) gl).bind fun r49 => (if r49 = x1 then (if ix x1 6 = true then (if ¬ x2 = 0 then (if ix x1 6 = true then (some ((1 : Int32), (upd ki (x1).toNatClampNeg x2), (upd ow (x1).toNatClampNeg (fX3_cellAt x3 x4)))) else none) else (if ix x1 6 = true then (some ((1 : Int32), (upd ki (x1).toNatClampNeg x2), (upd ow (x1).toNatClampNeg (-9 : Int32)))) else none)) else none) else (some ((-2 : Int32), ki, ow))))) else (if ¬ (fX0_has x3 x4 gw gh) = 0 then (if x2 = 0 then (if ix x1 6 = true then (if ¬ x2 = 0 then (if ix x1 6 = true then (some ((1 : Int32), (upd ki (x1).toNatClampNeg x2), (upd ow (x1).toNatClampNeg (fX3_cellAt x3 x4)))) else none) else (if ix x1 6 = true then (some ((1 : Int32), (upd ki (x1).toNatClampNeg x2), (upd ow (x1).toNatClampNeg (-9 : Int32)))) else none)) else none) else ((fX0_landOf (fX3_cellAt x3 x4) gl).bind fun r49 => (if r49 = x1 then (if ix x1 6 = true then (if ¬ x2 = 0 then (if ix x1 6 = true then (some ((1 : Int32), (upd ki (x1).toNatClampNeg x2), (upd ow (x1).toNatClampNeg (fX3_cellAt x3 x4)))) else none) else (if ix x1 6 = true then (some ((1 : Int32), (upd ki (x1).toNatClampNeg x2), (upd ow (x1).toNatClampNeg (-9 : Int32)))) else none)) else none) else (some ((-2 : Int32), ki, ow))))) else (some ((-1 : Int32), ki, ow)))))))
-- LandBoard.columnOf
def fX3_columnOf (x0 : Int32) : Int32 :=
  (x0 - x0 / (8 : Int32) * (8 : Int32))
-- LandBoard.rowOf
def fX3_rowOf (x0 : Int32) : Int32 :=
  (x0 / (8 : Int32))
-- LandBoard.about
def fX3_about (x1 : Int32) (x2 : Int32) (ki : (Nat → Int32)) (ow : (Nat → Int32)) (wa : (Nat → Int32)) : Option (Int32) :=
  (if ¬ (fX3_isLand x1) = 0 then (if x2 = (0 : Int32) then (if ix x1 6 = true then (some (ki (x1).toNatClampNeg)) else none) else (if x2 = (1 : Int32) then (if ix x1 6 = true then (if ¬ (ow (x1).toNatClampNeg) = (-9 : Int32) then (if ix x1 6 = true then (some (fX3_columnOf (ow (x1).toNatClampNeg))) else none) else (some (-9 : Int32))) else none) else (if x2 = (2 : Int32) then (if ix x1 6 = true then (if ¬ (ow (x1).toNatClampNeg) = (-9 : Int32) then (if ix x1 6 = true then (some (fX3_rowOf (ow (x1).toNatClampNeg))) else none) else (some (-9 : Int32))) else none) else (if x2 = (3 : Int32) then (if ix x1 6 = true then (some (wa (x1).toNatClampNeg)) else none) else (some (-1 : Int32)))))) else (some (-1 : Int32)))
-- LandBoard.bodiesAsked
def fX3_bodiesAsked (x0 : Int32) : Int32 :=
  (if ¬ x0 = (2 : Int32) then (if ¬ x0 = (1 : Int32) then (1 : Int32) else (11 : Int32)) else (111 : Int32))
-- LandBoard.letsGo
def fX3_letsGo (x1 : Int32) (x2 : Int32) (al : Int64) (ed : Int64) (gl : (Nat → Int64)) (ki : (Nat → Int32)) (ow : (Nat → Int32)) : Option (Int32) :=
  (if ¬ (fX3_isLand x1) = 0 then ((fX0_cellsOf x1 gl).bind fun r14 => ((fX3_isWhole (r14 &&& ((fX3_bit x2) ^^^ (-1 : Int64)))).bind fun r28 => (if r28 = 0 then (if ix x1 6 = true then (if ¬ (ki (x1).toNatClampNeg) = (2 : Int32) then (if ix x1 6 = true then (if ¬ (ki (x1).toNatClampNeg) = (1 : Int32) then (some r28) else (some (0 : Int32))) else none) else (some (0 : Int32))) else none) else (if ix x1 6 = true then (if x2 = (ow (x1).toNatClampNeg) then (if ix x1 6 = true then (if ¬ (ki (x1).toNatClampNeg) = (2 : Int32) then (if ix x1 6 = true then (if ¬ (ki (x1).toNatClampNeg) = (1 : Int32) then (some r28) else (some (0 : Int32))) else none) else (some (0 : Int32))) else none) else ((fX0_isAtSea (r14 &&& ((fX3_bit x2) ^^^ (-1 : Int64))) al ed gl).bind fun r65 => (if r65 = 0 then (if ix x1 6 = true then (if ¬ (ki (x1).toNatClampNeg) = (2 : Int32) then (if ix x1 6 = true then (if ¬ (ki (x1).toNatClampNeg) = (1 : Int32) then (some r28) else (some (1 : Int32))) else none) else (some (0 : Int32))) else none) else (if ix x1 6 = true then (if ¬ (ki (x1).toNatClampNeg) = (2 : Int32) then (if ix x1 6 = true then (if ¬ (ki (x1).toNatClampNeg) = (1 : Int32) then (some r28) else (some (1 : Int32))) else none) else (some (1 : Int32))) else none)))) else none)))) else (some (0 : Int32)))
-- LandBoard.leaves
def fX3_leaves (x1 : Int32) (x2 : Int32) (ask : Int64) (gw : Int32) (gh : Int32) (al : Int64) (ed : Int64) (gl : (Nat → Int64)) (ki : (Nat → Int32)) (ow : (Nat → Int32)) : Option (Int32 × Int64) :=
  ((fX3_at x1 x2 gw gh gl).bind fun r3 => (if ¬ (fX3_isLand r3) = 0 then (if ix r3 6 = true then ((fX3_letsGo r3 (fX3_cellAt x1 x2) al ed gl ki ow).bind fun r42 => (some ((fX3_answer r42), (ask + ((fX3_bodiesAsked (ki (r3).toNatClampNeg))).toInt64)))) else none) else (some ((-1 : Int32), ask))))
-- LandBoard$Grid.touching
def fX0_touching_26 (gl : (Nat → Int64)) (s4 : Int64 × Int32) (s26 : Int64 × Int32) : Option (Sum (Int64 × Int32) (Int64)) :=
  (if (6 : Int32) ≤ s26.2 then (some (.inr s26.1)) else (if ix s26.2 6 = true then (if (lg_cmp ((fX3_around (gl (s4.2).toNatClampNeg)) &&& (gl (s26.2).toNatClampNeg)) (0 : Int64)) = 0 then (some (.inl (s26.1, (s26.2 + 1)))) else (lt (s26.1 ||| (fX3_bit ((s4.2 * (8 : Int32)) + s26.2))) fun v60 => (some (.inl (v60, (s26.2 + 1)))))) else none))
def fX0_touching_4 (al : Int64) (ed : Int64) (gl : (Nat → Int64)) (s4 : Int64 × Int32) : Option (Sum (Int64 × Int32) (Int64)) :=
  (if (6 : Int32) ≤ s4.2 then (some (.inr s4.1)) else (if ix s4.2 6 = true then ((wh (fX0_touching_26 gl s4) FU (s4.1, (s4.2 + (1 : Int32)))).bind fun t26 => (if ix s4.2 6 = true then ((fX0_isAtSea (gl (s4.2).toNatClampNeg) al ed gl).bind fun r74 => (if r74 = 0 then (some (.inl (t26, (s4.2 + 1)))) else (lt (t26 ||| (fX3_bit ((s4.2 * (8 : Int32)) + (6 : Int32)))) fun v92 => (some (.inl (v92, (s4.2 + 1))))))) else none)) else none))
def fX0_touching (al : Int64) (ed : Int64) (gl : (Nat → Int64)) : Option (Int64) :=
  ((wh (fX0_touching_4 al ed gl) FU ((0 : Int64), (0 : Int32))).bind fun t4 => (some t4))
-- LandBoard.canGo
def fX3_canGo (x1 : Int32) (x2 : Int32) (al : Int64) (ed : Int64) (gl : (Nat → Int64)) (ki : (Nat → Int32)) (ow : (Nat → Int32)) : Option (Int32 × (Nat → Int64)) :=
  ((fX0_landOf x1 gl).bind fun r5 => (if r5 = (-4 : Int32) then (some ((0 : Int32), gl)) else (if r5 = x2 then (some ((0 : Int32), gl)) else ((fX0_cellsOf x2 gl).bind fun r32 => (if (lg_cmp ((fX3_around (fX3_bit x1)) &&& r32) (0 : Int64)) = 0 then (some ((0 : Int32), gl)) else ((fX3_letsGo r5 x1 al ed gl ki ow).bind fun r44 => (if ¬ r44 = 0 then ((fX0_touching al ed gl).bind fun r56 => ((fX0_put x1 x2 gl).bind fun r67 => ((fX0_touching al ed r67).bind fun r74 => ((fX0_put x1 r5 r67).bind fun r85 => (if ¬ (lg_cmp r56 r74) = 0 then (some ((0 : Int32), r85)) else (some ((1 : Int32), r85))))))) else (some ((0 : Int32), gl)))))))))
-- LandBoard.may
def fX3_may (x1 : Int32) (x2 : Int32) (x3 : Int32) (gw : Int32) (gh : Int32) (al : Int64) (ed : Int64) (gl : (Nat → Int64)) (ki : (Nat → Int32)) (ow : (Nat → Int32)) : Option (Int32 × (Nat → Int64)) :=
  (if (fX0_has x1 x2 gw gh) = 0 then (some ((-1 : Int32), gl)) else (if (fX3_isLand x3) = 0 then (some ((-1 : Int32), gl)) else ((fX3_canGo (fX3_cellAt x1 x2) x3 al ed gl ki ow).bind fun r26 => (some ((fX3_answer r26.1), r26.2)))))
-- java/lang/Math.floorMod
def fJ9_floorMod_7cf53 (x0 : Int32) (x1 : Int32) : Option (Int32) :=
  (if x1 = 0 then none else (if 0 ≤ (x0 ^^^ x1) then (some (x0 - x0 / x1 * x1)) else (if (x0 - x0 / x1 * x1) = 0 then (some (x0 - x0 / x1 * x1)) else (some ((x0 - x0 / x1 * x1) + x1)))))
-- LandBoard$Moves.add
def fX1_add (x1 : Int32) (x2 : Int32) (top : Int32) (kep : Int32) (don : Int32) (vc : (Nat → Int32)) (vf : (Nat → Int32)) : Option (Int32 × Int32 × Int32 × (Nat → Int32) × (Nat → Int32)) :=
  ((fJ9_floorMod_7cf53 top (100 : Int32)).bind fun r6 => (if ix r6 100 = true then (if ix r6 100 = true then (some ((top + (1 : Int32)), (if (100 : Int32) < (kep + (1 : Int32)) then (100 : Int32) else (kep + (1 : Int32))), (don + (1 : Int32)), (upd vc (r6).toNatClampNeg x1), (upd vf (r6).toNatClampNeg x2))) else none) else none))
-- LandBoard.go
def fX3_go (x1 : Int32) (x2 : Int32) (gl : (Nat → Int64)) (top : Int32) (kep : Int32) (don : Int32) (vc : (Nat → Int32)) (vf : (Nat → Int32)) : Option ((Nat → Int64) × Int32 × Int32 × Int32 × (Nat → Int32) × (Nat → Int32)) :=
  ((fX0_landOf x1 gl).bind fun r10 => ((fX1_add x1 r10 top kep don vc vf).bind fun r13 => ((fX0_put x1 x2 gl).bind fun r22 => (some (r22, r13.1, r13.2.1, r13.2.2.1, r13.2.2.2.1, r13.2.2.2.2)))))
-- LandBoard.move
def fX3_move (x1 : Int32) (x2 : Int32) (x3 : Int32) (gw : Int32) (gh : Int32) (al : Int64) (ed : Int64) (gl : (Nat → Int64)) (top : Int32) (kep : Int32) (don : Int32) (vc : (Nat → Int32)) (vf : (Nat → Int32)) (ki : (Nat → Int32)) (ow : (Nat → Int32)) : Option (Int32 × (Nat → Int64) × Int32 × Int32 × Int32 × (Nat → Int32) × (Nat → Int32)) :=
  (if (fX0_has x1 x2 gw gh) = 0 then (some ((-1 : Int32), gl, top, kep, don, vc, vf)) else (if ¬ (fX3_isLand x3) = 0 then ((fX3_canGo (fX3_cellAt x1 x2) x3 al ed gl ki ow).bind fun r28 => (if ¬ r28.1 = 0 then ((fX0_landOf (fX3_cellAt x1 x2) r28.2).bind fun r46 => ((fX3_go (fX3_cellAt x1 x2) x3 r28.2 top kep don vc vf).bind fun r58 => (some (r46, r58.1, r58.2.1, r58.2.2.1, r58.2.2.2.1, r58.2.2.2.2.1, r58.2.2.2.2.2)))) else (some ((-2 : Int32), r28.2, top, kep, don, vc, vf)))) else (some ((-1 : Int32), gl, top, kep, don, vc, vf))))
-- LandBoard.want
def fX3_want (x1 : Int32) (x2 : Int32) (wa : (Nat → Int32)) : Option (Int32 × (Nat → Int32)) :=
  (if (fX3_isLand x1) = 0 then (some ((-1 : Int32), wa)) else (if x2 < 0 then (some ((-1 : Int32), wa)) else (if x2 ≤ (64 : Int32) then (if ix x1 6 = true then (if ix x1 6 = true then (some ((wa (x1).toNatClampNeg), (upd wa (x1).toNatClampNeg x2))) else none) else none) else (some ((-1 : Int32), wa)))))
-- LandBoard.missWith
def fX3_missWith (x1 : Int32) (x2 : Int32) (wa : (Nat → Int32)) : Option (Int32) :=
  (if (fX3_isLand x1) = 0 then (some (0 : Int32)) else (if ix x1 6 = true then (some (if 0 ≤ (x2 - (wa (x1).toNatClampNeg)) then (x2 - (wa (x1).toNatClampNeg)) else 0 - (x2 - (wa (x1).toNatClampNeg)))) else none))
-- LandBoard.miss
def fX3_miss_4 (gl : (Nat → Int64)) (wa : (Nat → Int32)) (s4 : Int32 × Int32) : Option (Sum (Int32 × Int32) (Int32)) :=
  (if (6 : Int32) ≤ s4.2 then (some (.inr s4.1)) else ((fX0_sizeOf s4.2 gl).bind fun r15 => (if r15 ≤ 0 then (some (.inl (s4.1, (s4.2 + 1)))) else ((fX0_sizeOf s4.2 gl).bind fun r29 => ((fX3_missWith s4.2 r29 wa).bind fun r32 => (some (.inl ((s4.1 + r32), (s4.2 + 1)))))))))
def fX3_miss (gl : (Nat → Int64)) (wa : (Nat → Int32)) : Option (Int32) :=
  ((wh (fX3_miss_4 gl wa) FU ((0 : Int32), (0 : Int32))).bind fun t4 => (some t4))
-- LandBoard.missBehind
def fX3_missBehind (x1 : Int32) (x2 : Int32) (x3 : Int32) (gl : (Nat → Int64)) (wa : (Nat → Int32)) : Option (Int32) :=
  ((fX0_sizeOf x2 gl).bind fun r5 => ((fX0_sizeOf x3 gl).bind fun r15 => ((fX3_missWith x2 r5 wa).bind fun r25 => ((fX3_missWith x2 (r5 - (1 : Int32)) wa).bind fun r35 => ((fX3_missWith x3 r15 wa).bind fun r43 => ((fX3_missWith x3 (r15 + (1 : Int32)) wa).bind fun r53 => (some ((((x1 - r25) + r35) - r43) + r53))))))))
-- LandBoard.step
def fX3_step_36bb (al : Int64) (ed : Int64) (ki : (Nat → Int32)) (ow : (Nat → Int32)) (wa : (Nat → Int32)) (r1 : Int32) (s15 : Int32 × Int32 × Int32 × Int32 × (Nat → Int64)) (r28 : Int32) (s36 : Int32 × Int32 × Int32 × Int32 × (Nat → Int64)) : Option (Sum (Int32 × Int32 × Int32 × Int32 × (Nat → Int64)) (Int32 × Int32 × Int32 × (Nat → Int64))) :=
  (if (6 : Int32) ≤ s36.2.2.2.1 then (some (.inr (s36.1, s36.2.1, s36.2.2.1, s36.2.2.2.2))) else (if r28 = (-4 : Int32) then (some (.inr (s36.1, s36.2.1, s36.2.2.1, s36.2.2.2.2))) else ((fX3_missBehind r1 r28 s36.2.2.2.1 s36.2.2.2.2 wa).bind fun r56 => (if s36.1 ≤ r56 then (some (.inl (s36.1, s36.2.1, s36.2.2.1, (s36.2.2.2.1 + 1), s36.2.2.2.2))) else ((fX3_canGo s15.2.2.2.1 s36.2.2.2.1 al ed s36.2.2.2.2 ki ow).bind fun r72 => (if r72.1 = 0 then (some (.inl (s36.1, s36.2.1, s36.2.2.1, (s36.2.2.2.1 + 1), r72.2))) else (some (.inl (r56, s15.2.2.2.1, s36.2.2.2.1, (s36.2.2.2.1 + 1), r72.2)))))))))
def fX3_step_15 (al : Int64) (ed : Int64) (ki : (Nat → Int32)) (ow : (Nat → Int32)) (wa : (Nat → Int32)) (r1 : Int32) (s15 : Int32 × Int32 × Int32 × Int32 × (Nat → Int64)) : Option (Sum (Int32 × Int32 × Int32 × Int32 × (Nat → Int64)) (Int32 × Int32 × Int32 × (Nat → Int64))) :=
  (if (64 : Int32) ≤ s15.2.2.2.1 then (some (.inr (s15.1, s15.2.1, s15.2.2.1, s15.2.2.2.2))) else ((fX0_landOf s15.2.2.2.1 s15.2.2.2.2).bind fun r28 => ((wh (fX3_step_36bb al ed ki ow wa r1 s15 r28) FU (s15.1, s15.2.1, s15.2.2.1, (0 : Int32), s15.2.2.2.2)).bind fun t36 => (some (.inl (t36.1, t36.2.1, t36.2.2.1, (s15.2.2.2.1 + 1), t36.2.2.2))))))
def fX3_step (al : Int64) (ed : Int64) (gl : (Nat → Int64)) (top : Int32) (kep : Int32) (don : Int32) (vc : (Nat → Int32)) (vf : (Nat → Int32)) (ki : (Nat → Int32)) (ow : (Nat → Int32)) (wa : (Nat → Int32)) : Option (Int32 × (Nat → Int64) × Int32 × Int32 × Int32 × (Nat → Int32) × (Nat → Int32)) :=
  ((fX3_miss gl wa).bind fun r1 => ((wh (fX3_step_15 al ed ki ow wa r1) FU (r1, (0 : Int32), (0 : Int32), (0 : Int32), gl)).bind fun t15 => (if r1 ≤ t15.1 then (if r1 ≤ t15.1 then (some ((0 : Int32), t15.2.2.2, top, kep, don, vc, vf)) else (some ((1 : Int32), t15.2.2.2, top, kep, don, vc, vf))) else ((fX3_go t15.2.1 t15.2.2.1 t15.2.2.2 top kep don vc vf).bind fun r109 => (if r1 ≤ t15.1 then (some ((0 : Int32), r109.1, r109.2.1, r109.2.2.1, r109.2.2.2.1, r109.2.2.2.2.1, r109.2.2.2.2.2)) else (some ((1 : Int32), r109.1, r109.2.1, r109.2.2.1, r109.2.2.2.1, r109.2.2.2.2.1, r109.2.2.2.2.2)))))))
-- LandBoard.steps
def fX3_steps_15 (x1 : Int32) (al : Int64) (ed : Int64) (ki : (Nat → Int32)) (ow : (Nat → Int32)) (wa : (Nat → Int32)) (s15 : Int32 × (Nat → Int64) × Int32 × Int32 × Int32 × (Nat → Int32) × (Nat → Int32)) : Option (Sum (Int32 × (Nat → Int64) × Int32 × Int32 × Int32 × (Nat → Int32) × (Nat → Int32)) (Int32 × (Nat → Int64) × Int32 × Int32 × Int32 × (Nat → Int32) × (Nat → Int32))) :=
  (if x1 ≤ s15.1 then (some (.inr (s15.1, s15.2.1, s15.2.2.1, s15.2.2.2.1, s15.2.2.2.2.1, s15.2.2.2.2.2.1, s15.2.2.2.2.2.2))) else ((fX3_step al ed s15.2.1 s15.2.2.1 s15.2.2.2.1 s15.2.2.2.2.1 s15.2.2.2.2.2.1 s15.2.2.2.2.2.2 ki ow wa).bind fun r21 => (if r21.1 = 0 then (some (.inr (s15.1, r21.2.1, r21.2.2.1, r21.2.2.2.1, r21.2.2.2.2.1, r21.2.2.2.2.2.1, r21.2.2.2.2.2.2))) else (some (.inl ((s15.1 + 1), r21.2.1, r21.2.2.1, r21.2.2.2.1, r21.2.2.2.2.1, r21.2.2.2.2.2.1, r21.2.2.2.2.2.2))))))
def fX3_steps (x1 : Int32) (al : Int64) (ed : Int64) (gl : (Nat → Int64)) (top : Int32) (kep : Int32) (don : Int32) (vc : (Nat → Int32)) (vf : (Nat → Int32)) (ki : (Nat → Int32)) (ow : (Nat → Int32)) (wa : (Nat → Int32)) : Option (Int32 × (Nat → Int64) × Int32 × Int32 × Int32 × (Nat → Int32) × (Nat → Int32)) :=
  (if x1 < (1 : Int32) then (some ((-1 : Int32), gl, top, kep, don, vc, vf)) else (if x1 ≤ (64 : Int32) then ((wh (fX3_steps_15 x1 al ed ki ow wa) FU ((0 : Int32), gl, top, kep, don, vc, vf)).bind fun t15 => (some (t15.1, t15.2.1, t15.2.2.1, t15.2.2.2.1, t15.2.2.2.2.1, t15.2.2.2.2.2.1, t15.2.2.2.2.2.2))) else (some ((-1 : Int32), gl, top, kep, don, vc, vf))))
-- LandBoard$Moves.latestCell
def fX1_latestCell (top : Int32) (vc : (Nat → Int32)) : Option (Int32) :=
  ((fJ9_floorMod_7cf53 (top - (1 : Int32)) (100 : Int32)).bind fun r12 => (if ix r12 100 = true then (some (vc (r12).toNatClampNeg)) else none))
-- LandBoard$Moves.latestFrom
def fX1_latestFrom (top : Int32) (vf : (Nat → Int32)) : Option (Int32) :=
  ((fJ9_floorMod_7cf53 (top - (1 : Int32)) (100 : Int32)).bind fun r12 => (if ix r12 100 = true then (some (vf (r12).toNatClampNeg)) else none))
-- LandBoard$Moves.dropLatest
def fX1_dropLatest (top : Int32) (kep : Int32) : Int32 × Int32 :=
  ((top - (1 : Int32)), (kep - (1 : Int32)))
-- LandBoard.undo
def fX3_undo_15 (x1 : Int32) (vc : (Nat → Int32)) (vf : (Nat → Int32)) (s15 : Int32 × (Nat → Int64) × Int32 × Int32) : Option (Sum (Int32 × (Nat → Int64) × Int32 × Int32) (Int32 × (Nat → Int64) × Int32 × Int32)) :=
  (if x1 ≤ s15.1 then (some (.inr (s15.1, s15.2.1, s15.2.2.1, s15.2.2.2))) else (if s15.2.2.2 ≤ 0 then (some (.inr (s15.1, s15.2.1, s15.2.2.1, s15.2.2.2))) else ((fX1_latestCell s15.2.2.1 vc).bind fun r38 => ((fX1_latestFrom s15.2.2.1 vf).bind fun r45 => ((fX0_put r38 r45 s15.2.1).bind fun r48 => (some (.inl ((s15.1 + 1), r48, (fX1_dropLatest s15.2.2.1 s15.2.2.2).1, (fX1_dropLatest s15.2.2.1 s15.2.2.2).2))))))))
def fX3_undo (x1 : Int32) (gl : (Nat → Int64)) (top : Int32) (kep : Int32) (vc : (Nat → Int32)) (vf : (Nat → Int32)) : Option (Int32 × (Nat → Int64) × Int32 × Int32) :=
  (if x1 < (1 : Int32) then (some ((-1 : Int32), gl, top, kep)) else (if x1 ≤ (100 : Int32) then ((wh (fX3_undo_15 x1 vc vf) FU ((0 : Int32), gl, top, kep)).bind fun t15 => (some (t15.1, t15.2.1, t15.2.2.1, t15.2.2.2))) else (some ((-1 : Int32), gl, top, kep))))
-- LandBoard.firstOf
def fX3_firstOf_2 (x0 : Int64) (s2 : Int32) : Option (Sum (Int32) (Int32)) :=
  (if (64 : Int32) ≤ s2 then (some (.inr (0 : Int32))) else (if (lg_cmp (x0 &&& (fX3_bit s2)) (0 : Int64)) = 0 then (some (.inl (s2 + 1))) else (some (.inr s2))))
def fX3_firstOf (x0 : Int64) : Option (Int32) :=
  (wh (fX3_firstOf_2 x0) FU (0 : Int32))
-- LandBoard.label
def fX3_label_42 (s42 : Int64 × Int32 × Int32) : Option (Sum (Int64 × Int32 × Int32) (Int64 × Int32)) :=
  (if (8 : Int32) ≤ s42.2.2 then (some (.inr (s42.1, s42.2.1))) else (if (lg_cmp (fX3_inside s42.1) (0 : Int64)) = 0 then (some (.inr (s42.1, s42.2.1))) else (some (.inl ((fX3_inside s42.1), (s42.2.1 + 1), (s42.2.2 + 1))))))
def fX3_label (x1 : Int32) (x2 : Int32) (gl : (Nat → Int64)) : Option (Int32) :=
  (if (fX3_isLand x1) = 0 then (some (-1 : Int32)) else (if x2 < 0 then (some (-1 : Int32)) else (if x2 ≤ (2 : Int32) then ((fX0_cellsOf x1 gl).bind fun r23 => (if ¬ (lg_cmp r23 (0 : Int64)) = 0 then ((wh fX3_label_42 FU (r23, (1 : Int32), (0 : Int32))).bind fun t42 => ((fX3_firstOf t42.1).bind fun r73 => (if ¬ x2 = 0 then (if ¬ x2 = (1 : Int32) then (some t42.2) else (some (fX3_rowOf r73))) else (some (fX3_columnOf r73))))) else (some (-9 : Int32)))) else (some (-1 : Int32)))))
-- LandBoard$Grid.peopled
def fX0_peopled_4 (gl : (Nat → Int64)) (s4 : Int32 × Int32) : Option (Sum (Int32 × Int32) (Int32)) :=
  (if (6 : Int32) ≤ s4.2 then (some (.inr s4.1)) else (if ix s4.2 6 = true then (if (lg_cmp (gl (s4.2).toNatClampNeg) (0 : Int64)) = 0 then (some (.inl ((s4.1 + (0 : Int32)), (s4.2 + 1)))) else (some (.inl ((s4.1 + (1 : Int32)), (s4.2 + 1))))) else none))
def fX0_peopled (gl : (Nat → Int64)) : Option (Int32) :=
  ((wh (fX0_peopled_4 gl) FU ((0 : Int32), (0 : Int32))).bind fun t4 => (some t4))
-- LandBoard.hasBox
def fX3_hasBox (x1 : Int32) (x2 : Int32) (gl : (Nat → Int64)) : Option (Int32) :=
  (if (fX3_isLand x2) = 0 then (some (0 : Int32)) else ((fX0_sizeOf x2 gl).bind fun r12 => (if r12 ≤ 0 then (some (0 : Int32)) else (if x1 < 0 then (some (0 : Int32)) else ((fX0_peopled gl).bind fun r28 => (if ((1 : Int32) <<< ((r28 - (1 : Int32)) &&& 31)) ≤ x1 then (some (0 : Int32)) else (some (1 : Int32))))))))
-- LandBoard$Rows.read
def fX2_read_12 (gl : (Nat → Int64)) (s12 : Int32 × Int32 × Int32 × (Nat → Int32) × (Nat → Int32)) : Option (Sum (Int32 × Int32 × Int32 × (Nat → Int32) × (Nat → Int32)) (Int32 × Int32 × (Nat → Int32) × (Nat → Int32))) :=
  (if (6 : Int32) ≤ s12.1 then (some (.inr (s12.2.1, s12.2.2.1, s12.2.2.2.1, s12.2.2.2.2))) else (if ix s12.1 6 = true then ((fX0_sizeOf s12.1 gl).bind fun r30 => (if r30 ≤ 0 then (some (.inl ((s12.1 + 1), s12.2.1, s12.2.2.1, (upd s12.2.2.2.1 (s12.1).toNatClampNeg s12.2.1), s12.2.2.2.2))) else (if (6 : Int32) ≤ s12.2.1 then (some (.inl ((s12.1 + 1), s12.2.1, s12.2.2.1, (upd s12.2.2.2.1 (s12.1).toNatClampNeg s12.2.1), s12.2.2.2.2))) else ((fX0_sizeOf s12.1 gl).bind fun r55 => (if ix s12.2.1 6 = true then (if ix s12.2.1 6 = true then (some (.inl ((s12.1 + 1), (s12.2.1 + (1 : Int32)), (s12.2.2.1 + ((upd s12.2.2.2.2 (s12.2.1).toNatClampNeg r55) (s12.2.1).toNatClampNeg)), (upd s12.2.2.2.1 (s12.1).toNatClampNeg s12.2.1), (upd s12.2.2.2.2 (s12.2.1).toNatClampNeg r55)))) else none) else none))))) else none))
def fX2_read (bx : Int32) (tt : Int32) (pl : (Nat → Int32)) (we : (Nat → Int32)) (gl : (Nat → Int64)) : Option (Int32 × Int32 × (Nat → Int32) × (Nat → Int32)) :=
  ((wh (fX2_read_12 gl) FU ((0 : Int32), (0 : Int32), (0 : Int32), pl, we)).bind fun t12 => (some (t12.1, t12.2.1, t12.2.2.1, t12.2.2.2)))
-- LandBoard$Rows.layRow
def fX2_layRow_65 (x2 : Int32) (t10 : Int32 × (Nat → Int32) × (Nat → Int32)) (s65 : Int32 × (Nat → Int32)) : Option (Sum (Int32 × (Nat → Int32)) ((Nat → Int32))) :=
  (if x2 < s65.1 then (some (.inr s65.2)) else (if (6 : Int32) ≤ s65.1 then (some (.inr s65.2)) else (if ix s65.1 6 = true then (some (.inl ((s65.1 + 1), (upd s65.2 (s65.1).toNatClampNeg t10.1)))) else none)))
def fX2_layRow_10 (x2 : Int32) (x3 : Int32) (we : (Nat → Int32)) (s10 : Int32 × Int32 × (Nat → Int32) × (Nat → Int32)) : Option (Sum (Int32 × Int32 × (Nat → Int32) × (Nat → Int32)) (Int32 × (Nat → Int32) × (Nat → Int32))) :=
  (if x2 < s10.2.1 then (some (.inr (s10.1, s10.2.2.1, s10.2.2.2))) else (if (6 : Int32) ≤ s10.2.1 then (some (.inr (s10.1, s10.2.2.1, s10.2.2.2))) else (if ix s10.2.1 6 = true then (if ix s10.2.1 6 = true then (if ix s10.2.1 6 = true then (some (.inl ((s10.1 + (we (s10.2.1).toNatClampNeg)), (s10.2.1 + 1), (upd s10.2.2.1 (s10.2.1).toNatClampNeg s10.1), (upd s10.2.2.2 (s10.2.1).toNatClampNeg x3)))) else none) else none) else none)))
def fX2_layRow (x1 : Int32) (x2 : Int32) (x3 : Int32) (we : (Nat → Int32)) (le : (Nat → Int32)) (ab : (Nat → Int32)) (rw : (Nat → Int32)) : Option (Int32 × (Nat → Int32) × (Nat → Int32) × (Nat → Int32)) :=
  (lt (if x1 < (0 : Int32) then (0 : Int32) else x1) fun v8 => ((wh (fX2_layRow_10 x2 x3 we) FU ((0 : Int32), v8, le, ab)).bind fun t10 => (lt (if x1 < (0 : Int32) then (0 : Int32) else x1) fun v63 => ((wh (fX2_layRow_65 x2 t10) FU (v63, rw)).bind fun t65 => (some (t10.1, t10.2.1, t10.2.2, t65))))))
-- LandBoard$Rows.lay
def fX2_lay_7 (x1 : Int32) (bx : Int32) (we : (Nat → Int32)) (s7 : Int32 × Int32 × Int32 × (Nat → Int32) × (Nat → Int32) × (Nat → Int32)) : Option (Sum (Int32 × Int32 × Int32 × (Nat → Int32) × (Nat → Int32) × (Nat → Int32)) ((Nat → Int32) × (Nat → Int32) × (Nat → Int32))) :=
  (if bx ≤ s7.2.2.1 then (some (.inr (s7.2.2.2.1, s7.2.2.2.2.1, s7.2.2.2.2.2))) else (if s7.2.2.1 = (bx - (1 : Int32)) then ((fX2_layRow s7.1 s7.2.2.1 s7.2.1 we s7.2.2.2.1 s7.2.2.2.2.1 s7.2.2.2.2.2).bind fun r42 => (some (.inl ((s7.2.2.1 + (1 : Int32)), (s7.2.1 + r42.1), (s7.2.2.1 + 1), r42.2.1, r42.2.2.1, r42.2.2.2)))) else (if ((x1 >>> (s7.2.2.1 &&& 31)) &&& (1 : Int32)) = 0 then (some (.inl (s7.1, s7.2.1, (s7.2.2.1 + 1), s7.2.2.2.1, s7.2.2.2.2.1, s7.2.2.2.2.2))) else ((fX2_layRow s7.1 s7.2.2.1 s7.2.1 we s7.2.2.2.1 s7.2.2.2.2.1 s7.2.2.2.2.2).bind fun r42 => (some (.inl ((s7.2.2.1 + (1 : Int32)), (s7.2.1 + r42.1), (s7.2.2.1 + 1), r42.2.1, r42.2.2.1, r42.2.2.2)))))))
def fX2_lay (x1 : Int32) (bx : Int32) (we : (Nat → Int32)) (le : (Nat → Int32)) (ab : (Nat → Int32)) (rw : (Nat → Int32)) : Option ((Nat → Int32) × (Nat → Int32) × (Nat → Int32)) :=
  ((wh (fX2_lay_7 x1 bx we) FU ((0 : Int32), (0 : Int32), (0 : Int32), le, ab, rw)).bind fun t7 => (some (t7.1, t7.2.1, t7.2.2)))
-- LandBoard$Rows.placeOf
def fX2_placeOf (x1 : Int32) (pl : (Nat → Int32)) : Option (Int32) :=
  (if (fX3_isLand x1) = 0 then (some (0 : Int32)) else (if ix x1 6 = true then (some (pl (x1).toNatClampNeg)) else none))
-- LandBoard$Rows.scaledHeight
def fX2_scaledHeight (x1 : Int32) (rw : (Nat → Int32)) : Option (Int32) :=
  (if x1 < 0 then (some (0 : Int32)) else (if (6 : Int32) ≤ x1 then (some (0 : Int32)) else (if ix x1 6 = true then (if ix x1 6 = true then (some ((rw (x1).toNatClampNeg) * (rw (x1).toNatClampNeg))) else none) else none)))
-- LandBoard$Rows.scaledWidth
def fX2_scaledWidth (x1 : Int32) (tt : Int32) (we : (Nat → Int32)) : Option (Int32) :=
  (if x1 < 0 then (some (0 : Int32)) else (if (6 : Int32) ≤ x1 then (some (0 : Int32)) else (if ix x1 6 = true then (some ((we (x1).toNatClampNeg) * tt)) else none)))
-- LandBoard$Rows.longUpper
def fX2_longUpper (x1 : Int32) (tt : Int32) (we : (Nat → Int32)) (rw : (Nat → Int32)) : Option (Int32) :=
  ((fX2_scaledHeight x1 rw).bind fun r2 => ((fX2_scaledWidth x1 tt we).bind fun r7 => (some (if r2 < r7 then r7 else r2))))
-- LandBoard$Rows.longLower
def fX2_longLower (x1 : Int32) (tt : Int32) (we : (Nat → Int32)) (rw : (Nat → Int32)) : Option (Int32) :=
  ((fX2_scaledHeight x1 rw).bind fun r2 => ((fX2_scaledWidth x1 tt we).bind fun r7 => (some (if r7 < r2 then r7 else r2))))
-- LandBoard.commonDivisor
def fX3_commonDivisor_7 (s7 : Int32 × Int32 × Int32) : Option (Sum (Int32 × Int32 × Int32) (Int32)) :=
  (if (64 : Int32) ≤ s7.2.2 then (some (.inr s7.1)) else (if s7.2.1 = 0 then (some (.inr s7.1)) else (if s7.2.1 = 0 then none else (some (.inl (s7.2.1, (s7.1 - s7.1 / s7.2.1 * s7.2.1), (s7.2.2 + 1)))))))
def fX3_commonDivisor (x0 : Int32) (x1 : Int32) : Option (Int32) :=
  ((wh fX3_commonDivisor_7 FU (x0, x1, (0 : Int32))).bind fun t7 => (some t7))
-- LandBoard.longer
def fX3_longer (x1 : Int32) (x2 : Int32) (x3 : Int32) (gl : (Nat → Int64)) (bx : Int32) (tt : Int32) (pl : (Nat → Int32)) (we : (Nat → Int32)) (le : (Nat → Int32)) (ab : (Nat → Int32)) (rw : (Nat → Int32)) : Option (Int32 × Int32 × Int32 × (Nat → Int32) × (Nat → Int32) × (Nat → Int32) × (Nat → Int32) × (Nat → Int32)) :=
  (if x3 < 0 then (some ((-1 : Int32), bx, tt, pl, we, le, ab, rw)) else (if (1 : Int32) < x3 then (some ((-1 : Int32), bx, tt, pl, we, le, ab, rw)) else ((fX3_hasBox x1 x2 gl).bind fun r12 => (if ¬ r12 = 0 then ((fX2_read bx tt pl we gl).bind fun r28 => ((fX2_lay x1 r28.1 r28.2.2.2 le ab rw).bind fun r36 => ((fX2_placeOf x2 r28.2.2.1).bind fun r48 => ((fX2_longUpper r48 r28.2.1 r28.2.2.2 r36.2.2).bind fun r51 => ((fX2_placeOf x2 r28.2.2.1).bind fun r65 => ((fX2_longLower r65 r28.2.1 r28.2.2.2 r36.2.2).bind fun r68 => ((fX3_commonDivisor r51 r68).bind fun r77 => (if (1 : Int32) ≤ r77 then (if ¬ x3 = 0 then (if r77 = 0 then none else (some ((r68 / r77), r28.1, r28.2.1, r28.2.2.1, r28.2.2.2, r36.1, r36.2.1, r36.2.2))) else (if r77 = 0 then none else (some ((r51 / r77), r28.1, r28.2.1, r28.2.2.1, r28.2.2.2, r36.1, r36.2.1, r36.2.2)))) else (some ((-1 : Int32), r28.1, r28.2.1, r28.2.2.1, r28.2.2.2, r36.1, r36.2.1, r36.2.2)))))))))) else (some ((-1 : Int32), bx, tt, pl, we, le, ab, rw))))))
-- LandBoard.thousandths
def fX3_thousandths (x0 : Int32) (x1 : Int32) : Option (Int32) :=
  (if x1 ≤ 0 then (some (0 : Int32)) else (if x1 = 0 then none else (some ((x0 * (1000 : Int32)) / x1))))
-- LandBoard$Rows.side
def fX2_side (x1 : Int32) (x2 : Int32) (tt : Int32) (we : (Nat → Int32)) (le : (Nat → Int32)) (ab : (Nat → Int32)) (rw : (Nat → Int32)) : Option (Int32) :=
  (if x1 < 0 then (some (0 : Int32)) else (if x1 < (6 : Int32) then (if x2 = (0 : Int32) then (if ix x1 6 = true then (if ix x1 6 = true then ((fX3_thousandths (le (x1).toNatClampNeg) (rw (x1).toNatClampNeg)).bind fun r52 => (some r52)) else none) else none) else (if x2 = (1 : Int32) then (if ix x1 6 = true then ((fX3_thousandths (ab (x1).toNatClampNeg) tt).bind fun r66 => (some r66)) else none) else (if x2 = (2 : Int32) then (if ix x1 6 = true then (if ix x1 6 = true then ((fX3_thousandths (we (x1).toNatClampNeg) (rw (x1).toNatClampNeg)).bind fun r82 => (some r82)) else none) else none) else (if ix x1 6 = true then ((fX3_thousandths (rw (x1).toNatClampNeg) tt).bind fun r96 => (some r96)) else none)))) else (some (0 : Int32))))
-- LandBoard.box
def fX3_box (x1 : Int32) (x2 : Int32) (x3 : Int32) (gl : (Nat → Int64)) (bx : Int32) (tt : Int32) (pl : (Nat → Int32)) (we : (Nat → Int32)) (le : (Nat → Int32)) (ab : (Nat → Int32)) (rw : (Nat → Int32)) : Option (Int32 × Int32 × Int32 × (Nat → Int32) × (Nat → Int32) × (Nat → Int32) × (Nat → Int32) × (Nat → Int32)) :=
  (if x3 < 0 then (some ((-1 : Int32), bx, tt, pl, we, le, ab, rw)) else (if (3 : Int32) < x3 then (some ((-1 : Int32), bx, tt, pl, we, le, ab, rw)) else ((fX3_hasBox x1 x2 gl).bind fun r12 => (if ¬ r12 = 0 then ((fX2_read bx tt pl we gl).bind fun r28 => ((fX2_lay x1 r28.1 r28.2.2.2 le ab rw).bind fun r36 => ((fX2_placeOf x2 r28.2.2.1).bind fun r48 => ((fX2_side r48 x3 r28.2.1 r28.2.2.2 r36.1 r36.2.1 r36.2.2).bind fun r52 => (some (r52, r28.1, r28.2.1, r28.2.2.1, r28.2.2.2, r36.1, r36.2.1, r36.2.2)))))) else (some ((-1 : Int32), bx, tt, pl, we, le, ab, rw))))))
-- LandBoard$Rows.longestPlace
def fX2_longestPlace_4 (bx : Int32) (tt : Int32) (we : (Nat → Int32)) (rw : (Nat → Int32)) (s4 : Int32 × Int32) : Option (Sum (Int32 × Int32) (Int32)) :=
  (if bx ≤ s4.2 then (some (.inr s4.1)) else ((fX2_longUpper s4.2 tt we rw).bind fun r14 => ((fX2_longLower s4.1 tt we rw).bind fun r19 => ((fX2_longUpper s4.1 tt we rw).bind fun r25 => ((fX2_longLower s4.2 tt we rw).bind fun r30 => (if (r14 * r19) ≤ (r25 * r30) then (some (.inl (s4.1, (s4.2 + 1)))) else (some (.inl (s4.2, (s4.2 + 1))))))))))
def fX2_longestPlace (bx : Int32) (tt : Int32) (we : (Nat → Int32)) (rw : (Nat → Int32)) : Option (Int32) :=
  ((wh (fX2_longestPlace_4 bx tt we rw) FU ((0 : Int32), (1 : Int32))).bind fun t4 => (some t4))
-- LandBoard$Rows.bestCuts
def fX2_bestCuts_9 (bx : Int32) (tt : Int32) (we : (Nat → Int32)) (s9 : Int32 × Int32 × Int32 × Int32 × (Nat → Int32) × (Nat → Int32) × (Nat → Int32)) : Option (Sum (Int32 × Int32 × Int32 × Int32 × (Nat → Int32) × (Nat → Int32) × (Nat → Int32)) (Int32 × (Nat → Int32) × (Nat → Int32) × (Nat → Int32))) :=
  (if ((1 : Int32) <<< ((if (bx - (1 : Int32)) < (0 : Int32) then (0 : Int32) else (bx - (1 : Int32))) &&& 31)) ≤ s9.2.2.2.1 then (some (.inr (s9.1, s9.2.2.2.2.1, s9.2.2.2.2.2.1, s9.2.2.2.2.2.2))) else ((fX2_lay s9.2.2.2.1 bx we s9.2.2.2.2.1 s9.2.2.2.2.2.1 s9.2.2.2.2.2.2).bind fun r29 => ((fX2_longestPlace bx tt we r29.2.2).bind fun r34 => ((fX2_longUpper r34 tt we r29.2.2).bind fun r37 => ((fX2_longestPlace bx tt we r29.2.2).bind fun r44 => ((fX2_longLower r44 tt we r29.2.2).bind fun r47 => (if s9.2.2.2.1 = 0 then (some (.inl (s9.2.2.2.1, r37, r47, (s9.2.2.2.1 + 1), r29.1, r29.2.1, r29.2.2))) else (if (s9.2.1 * r47) ≤ (r37 * s9.2.2.1) then (some (.inl (s9.1, s9.2.1, s9.2.2.1, (s9.2.2.2.1 + 1), r29.1, r29.2.1, r29.2.2))) else (some (.inl (s9.2.2.2.1, r37, r47, (s9.2.2.2.1 + 1), r29.1, r29.2.1, r29.2.2)))))))))))
def fX2_bestCuts (bx : Int32) (tt : Int32) (we : (Nat → Int32)) (le : (Nat → Int32)) (ab : (Nat → Int32)) (rw : (Nat → Int32)) : Option (Int32 × (Nat → Int32) × (Nat → Int32) × (Nat → Int32)) :=
  ((wh (fX2_bestCuts_9 bx tt we) FU ((0 : Int32), (0 : Int32), (0 : Int32), (0 : Int32), le, ab, rw)).bind fun t9 => (some (t9.1, t9.2.1, t9.2.2.1, t9.2.2.2)))
-- LandBoard.best
def fX3_best (gl : (Nat → Int64)) (bx : Int32) (tt : Int32) (pl : (Nat → Int32)) (we : (Nat → Int32)) (le : (Nat → Int32)) (ab : (Nat → Int32)) (rw : (Nat → Int32)) : Option (Int32 × Int32 × Int32 × (Nat → Int32) × (Nat → Int32) × (Nat → Int32) × (Nat → Int32) × (Nat → Int32)) :=
  ((fX2_read bx tt pl we gl).bind fun r8 => (if ¬ r8.1 = 0 then ((fX2_bestCuts r8.1 r8.2.1 r8.2.2.2 le ab rw).bind fun r30 => (some (r30.1, r8.1, r8.2.1, r8.2.2.1, r8.2.2.2, r30.2.1, r30.2.2.1, r30.2.2.2))) else (some ((-9 : Int32), r8.1, r8.2.1, r8.2.2.1, r8.2.2.2, le, ab, rw))))
-- LandBoard.count
def fX3_count (x1 : Int32) (gw : Int32) (gh : Int32) (gl : (Nat → Int64)) (kep : Int32) (don : Int32) : Option (Int32) :=
  (if x1 = (0 : Int32) then (some gw) else (if x1 = (1 : Int32) then (some gh) else (if x1 = (2 : Int32) then ((fX0_peopled gl).bind fun r56 => (some r56)) else (if x1 = (3 : Int32) then (some kep) else (if x1 = (4 : Int32) then (some don) else (some (-1 : Int32)))))))
-- LandBoard.trace
def fX3_trace (ask : Int64) : Int64 :=
  ask
-- LandBoard.isYear
def fX3_isYear (x0 : Int32) : Int32 :=
  (if x0 < 0 then (0 : Int32) else (if (4 : Int32) ≤ x0 then (0 : Int32) else (1 : Int32)))
-- LandBoardModel.in
def fX4_in (x0 : Int32) (x1 : Int32) (x2 : Int32) : Int32 :=
  (if x0 < x1 then (0 : Int32) else (if x2 < x0 then (0 : Int32) else (1 : Int32)))
-- LandBoardModel.plain
def fX4_plain_2 (s2 : Int32 × (Nat → Int32) × (Nat → Int32)) : Option (Sum (Int32 × (Nat → Int32) × (Nat → Int32)) ((Nat → Int32) × (Nat → Int32))) :=
  (if (6 : Int32) ≤ s2.1 then (some (.inr (s2.2.1, s2.2.2))) else (if ix s2.1 6 = true then (if ix s2.1 6 = true then (some (.inl ((s2.1 + 1), (upd s2.2.1 (s2.1).toNatClampNeg (0 : Int32)), (upd s2.2.2 (s2.1).toNatClampNeg (-1 : Int32))))) else none) else none))
def fX4_plain (mke : Int32) (mk : (Nat → Int32)) (mo : (Nat → Int32)) : Option (Int32 × (Nat → Int32) × (Nat → Int32)) :=
  ((wh fX4_plain_2 FU ((0 : Int32), mk, mo)).bind fun t2 => (some ((0 : Int32), t2.1, t2.2)))
-- LandBoardModel.clears
def fX4_clears_2 (s2 : Int32 × (Nat → Int32)) : Option (Sum (Int32 × (Nat → Int32)) ((Nat → Int32))) :=
  (if (64 : Int32) ≤ s2.1 then (some (.inr s2.2)) else (if ix s2.1 64 = true then (some (.inl ((s2.1 + 1), (upd s2.2 (s2.1).toNatClampNeg (-4 : Int32))))) else none))
def fX4_clears (mke : Int32) (ce : (Nat → Int32)) (mk : (Nat → Int32)) (mo : (Nat → Int32)) : Option (Int32 × (Nat → Int32) × (Nat → Int32) × (Nat → Int32)) :=
  ((wh fX4_clears_2 FU ((0 : Int32), ce)).bind fun t2 => ((fX4_plain mke mk mo).bind fun r23 => (some (r23.1, t2, r23.2.1, r23.2.2))))
-- LandBoardModel.isLand
def fX4_isLand (x0 : Int32) : Int32 :=
  (fX4_in x0 (0 : Int32) (5 : Int32))
-- LandBoardModel.isOn
def fX4_isOn (x1 : Int32) (x2 : Int32) (mw : Int32) (mh : Int32) : Int32 :=
  (if (fX4_in x1 (0 : Int32) (mw - (1 : Int32))) = 0 then (0 : Int32) else (if (fX4_in x2 (0 : Int32) (mh - (1 : Int32))) = 0 then (0 : Int32) else (1 : Int32)))
-- LandBoardModel.cellAt
def fX4_cellAt (x1 : Int32) (x2 : Int32) (mw : Int32) (mh : Int32) : Int32 :=
  (if (fX4_isOn x1 x2 mw mh) = 0 then (-1 : Int32) else ((x2 * mw) + x1))
-- LandBoardModel.beside
def fX4_beside (x1 : Int32) (x2 : Int32) (mw : Int32) (mh : Int32) : Option (Int32) :=
  (if mw = 0 then none else (if ¬ x2 = 0 then (if ¬ x2 = (1 : Int32) then (if mw = 0 then none else (if ¬ x2 = (2 : Int32) then (if ¬ x2 = (3 : Int32) then (some (fX4_cellAt ((x1 - x1 / mw * mw) + (0 : Int32)) ((x1 / mw) + (0 : Int32)) mw mh)) else (some (fX4_cellAt ((x1 - x1 / mw * mw) + (0 : Int32)) ((x1 / mw) + (-1 : Int32)) mw mh))) else (some (fX4_cellAt ((x1 - x1 / mw * mw) + (0 : Int32)) ((x1 / mw) + (1 : Int32)) mw mh)))) else (if mw = 0 then none else (if ¬ x2 = (2 : Int32) then (if ¬ x2 = (3 : Int32) then (some (fX4_cellAt ((x1 - x1 / mw * mw) + (-1 : Int32)) ((x1 / mw) + (0 : Int32)) mw mh)) else (some (fX4_cellAt ((x1 - x1 / mw * mw) + (-1 : Int32)) ((x1 / mw) + (-1 : Int32)) mw mh))) else (some (fX4_cellAt ((x1 - x1 / mw * mw) + (-1 : Int32)) ((x1 / mw) + (1 : Int32)) mw mh))))) else (if mw = 0 then none else (if ¬ x2 = (2 : Int32) then (if ¬ x2 = (3 : Int32) then (some (fX4_cellAt ((x1 - x1 / mw * mw) + (1 : Int32)) ((x1 / mw) + (0 : Int32)) mw mh)) else (some (fX4_cellAt ((x1 - x1 / mw * mw) + (1 : Int32)) ((x1 / mw) + (-1 : Int32)) mw mh))) else (some (fX4_cellAt ((x1 - x1 / mw * mw) + (1 : Int32)) ((x1 / mw) + (1 : Int32)) mw mh))))))
-- LandBoardModel.board
def fX4_board (x1 : Int32) (x2 : Int32) (mw : Int32) (mh : Int32) (mke : Int32) (ce : (Nat → Int32)) (mk : (Nat → Int32)) (mo : (Nat → Int32)) : Option (Int32 × Int32 × Int32 × Int32 × (Nat → Int32) × (Nat → Int32) × (Nat → Int32)) :=
  (if (fX4_in x1 (1 : Int32) (8 : Int32)) = 0 then (some ((-1 : Int32), mw, mh, mke, ce, mk, mo)) else (if ¬ (fX4_in x2 (1 : Int32) (8 : Int32)) = 0 then ((fX4_clears mke ce mk mo).bind fun r33 => (some ((x1 * x2), x1, x2, r33.1, r33.2.1, r33.2.2.1, r33.2.2.2))) else (some ((-1 : Int32), mw, mh, mke, ce, mk, mo))))
-- LandBoardModel.set
def fX4_set (x1 : Int32) (x2 : Int32) (x3 : Int32) (mw : Int32) (mh : Int32) (mke : Int32) (ce : (Nat → Int32)) : Option (Int32 × Int32 × (Nat → Int32)) :=
  (if (fX4_cellAt x1 x2 mw mh) < 0 then (some ((-1 : Int32), mke, ce)) else (if x3 = (-4 : Int32) then (if ix (fX4_cellAt x1 x2 mw mh) 64 = true then (lt (ce ((fX4_cellAt x1 x2 mw mh)).toNatClampNeg) fun v35 => (if ix (fX4_cellAt x1 x2 mw mh) 64 = true then (some (v35, (0 : Int32), (upd ce ((fX4_cellAt x1 x2 mw mh)).toNatClampNeg x3))) else none)) else none) else (if ¬ (fX4_isLand x3) = 0 then (if ix (fX4_cellAt x1 x2 mw mh) 64 = true then (lt (ce ((fX4_cellAt x1 x2 mw mh)).toNatClampNeg) fun v35 => (if ix (fX4_cellAt x1 x2 mw mh) 64 = true then (some (v35, (0 : Int32), (upd ce ((fX4_cellAt x1 x2 mw mh)).toNatClampNeg x3))) else none)) else none) else (some ((-1 : Int32), mke, ce)))))
-- LandBoardModel.at
def fX4_at (x1 : Int32) (x2 : Int32) (mw : Int32) (mh : Int32) (ce : (Nat → Int32)) : Option (Int32) :=
  (if 0 ≤ (fX4_cellAt x1 x2 mw mh) then (if ix (fX4_cellAt x1 x2 mw mh) 64 = true then (some (ce ((fX4_cellAt x1 x2 mw mh)).toNatClampNeg)) else none) else (some (-1 : Int32)))
-- LandBoardModel.sizeOf
def fX4_sizeOf_4 (x1 : Int32) (mw : Int32) (mh : Int32) (ce : (Nat → Int32)) (s4 : Int32 × Int32) : Option (Sum (Int32 × Int32) (Int32)) :=
  (if (mw * mh) ≤ s4.2 then (some (.inr s4.1)) else (if ix s4.2 64 = true then (if ¬ (ce (s4.2).toNatClampNeg) = x1 then (some (.inl ((s4.1 + (0 : Int32)), (s4.2 + 1)))) else (some (.inl ((s4.1 + (1 : Int32)), (s4.2 + 1))))) else none))
def fX4_sizeOf (x1 : Int32) (mw : Int32) (mh : Int32) (ce : (Nat → Int32)) : Option (Int32) :=
  ((wh (fX4_sizeOf_4 x1 mw mh ce) FU ((0 : Int32), (0 : Int32))).bind fun t4 => (some t4))
-- LandBoardModel.size
def fX4_size (x1 : Int32) (mw : Int32) (mh : Int32) (ce : (Nat → Int32)) : Option (Int32) :=
  (if (fX4_isLand x1) = 0 then (some (-1 : Int32)) else ((fX4_sizeOf x1 mw mh ce).bind fun r9 => (some r9)))
-- LandBoardModel.isWhole
def fX4_isWhole_104bb (x1 : Int32) (mw : Int32) (mh : Int32) (ce : (Nat → Int32)) (s86 : Int32 × Int32 × (Nat → Int32) × (Nat → Int32)) (s104 : Int32 × Int32 × Int32 × (Nat → Int32) × (Nat → Int32)) : Option (Sum (Int32 × Int32 × Int32 × (Nat → Int32) × (Nat → Int32)) (Int32 × Int32 × (Nat → Int32) × (Nat → Int32))) :=
  (if (4 : Int32) ≤ s104.2.2.1 then (some (.inr (s104.1, s104.2.1, s104.2.2.2.1, s104.2.2.2.2))) else ((fX4_beside (s86.2.2.1 ((s86.1 + (-1))).toNatClampNeg) s104.2.2.1 mw mh).bind fun r115 => (if r115 < 0 then (some (.inl (s104.1, s104.2.1, (s104.2.2.1 + 1), s104.2.2.2.1, s104.2.2.2.2))) else (if ix r115 64 = true then (if ¬ (ce (r115).toNatClampNeg) = x1 then (some (.inl (s104.1, s104.2.1, (s104.2.2.1 + 1), s104.2.2.2.1, s104.2.2.2.2))) else (if ix r115 64 = true then (if ¬ (s104.2.2.2.2 (r115).toNatClampNeg) = 0 then (some (.inl (s104.1, s104.2.1, (s104.2.2.1 + 1), s104.2.2.2.1, s104.2.2.2.2))) else (if ix r115 64 = true then (if ix s104.1 64 = true then (some (.inl ((s104.1 + 1), (s104.2.1 + 1), (s104.2.2.1 + 1), (upd s104.2.2.2.1 (s104.1).toNatClampNeg r115), (upd s104.2.2.2.2 (r115).toNatClampNeg (1 : Int32))))) else none) else none)) else none)) else none))))
def fX4_isWhole_86 (x1 : Int32) (mw : Int32) (mh : Int32) (ce : (Nat → Int32)) (s86 : Int32 × Int32 × (Nat → Int32) × (Nat → Int32)) : Option (Sum (Int32 × Int32 × (Nat → Int32) × (Nat → Int32)) (Int32 × (Nat → Int32) × (Nat → Int32))) :=
  (if s86.1 ≤ 0 then (some (.inr (s86.2.1, s86.2.2.1, s86.2.2.2))) else (if ix (s86.1 + (-1)) 64 = true then ((wh (fX4_isWhole_104bb x1 mw mh ce s86) FU ((s86.1 + (-1)), s86.2.1, (0 : Int32), s86.2.2.1, s86.2.2.2)).bind fun t104 => (some (.inl (t104.1, t104.2.1, t104.2.2.1, t104.2.2.2)))) else none))
def fX4_isWhole_48 (s48 : Int32 × (Nat → Int32)) : Option (Sum (Int32 × (Nat → Int32)) ((Nat → Int32))) :=
  (if (64 : Int32) ≤ s48.1 then (some (.inr s48.2)) else (if ix s48.1 64 = true then (some (.inl ((s48.1 + 1), (upd s48.2 (s48.1).toNatClampNeg (0 : Int32))))) else none))
def fX4_isWhole_2 (x1 : Int32) (mw : Int32) (mh : Int32) (ce : (Nat → Int32)) (s2 : Int32) : Option (Sum (Int32) (Int32)) :=
  (if (mw * mh) ≤ s2 then (some (.inr s2)) else (if ix s2 64 = true then (if (ce (s2).toNatClampNeg) = x1 then (some (.inr s2)) else (some (.inl (s2 + 1)))) else none))
def fX4_isWhole (x1 : Int32) (mw : Int32) (mh : Int32) (ce : (Nat → Int32)) (mpi : (Nat → Int32)) (mme : (Nat → Int32)) : Option (Int32 × (Nat → Int32) × (Nat → Int32)) :=
  ((wh (fX4_isWhole_2 x1 mw mh ce) FU (0 : Int32)).bind fun t2 => (if ¬ t2 = (mw * mh) then ((wh fX4_isWhole_48 FU ((0 : Int32), mme)).bind fun t48 => (if ix t2 64 = true then ((wh (fX4_isWhole_86 x1 mw mh ce) FU ((1 : Int32), (1 : Int32), (upd mpi ((0 : Int32)).toNatClampNeg t2), (upd t48 (t2).toNatClampNeg (1 : Int32)))).bind fun t86 => ((fX4_sizeOf x1 mw mh ce).bind fun r181 => (if ¬ t86.1 = r181 then (some ((0 : Int32), t86.2.1, t86.2.2)) else (some ((1 : Int32), t86.2.1, t86.2.2))))) else none)) else (some ((0 : Int32), mpi, mme))))
-- LandBoardModel.whole
def fX4_whole (x1 : Int32) (mw : Int32) (mh : Int32) (ce : (Nat → Int32)) (mpi : (Nat → Int32)) (mme : (Nat → Int32)) : Option (Int32 × (Nat → Int32) × (Nat → Int32)) :=
  (if ¬ (fX4_isLand x1) = 0 then ((fX4_isWhole x1 mw mh ce mpi mme).bind fun r13 => (if r13.1 = 0 then (some ((0 : Int32), r13.2.1, r13.2.2)) else (some ((1 : Int32), r13.2.1, r13.2.2)))) else (some ((-1 : Int32), mpi, mme)))
-- LandBoardModel.numberOf
def fX4_numberOf (x0 : Int32) : Int32 :=
  (if ¬ x0 = (-4 : Int32) then x0 else (6 : Int32))
-- LandBoardModel.touches
def fX4_touches_20 (mw : Int32) (mh : Int32) (ce : (Nat → Int32)) (s4 : Int64 × Int32) (s20 : Int64 × Int32) : Option (Sum (Int64 × Int32) (Int64)) :=
  (if (4 : Int32) ≤ s20.2 then (some (.inr s20.1)) else ((fX4_beside s4.2 s20.2 mw mh).bind fun r30 => (if ix s4.2 64 = true then (if 0 ≤ r30 then (if ix r30 64 = true then (if (fX4_numberOf (ce (s4.2).toNatClampNeg)) = (fX4_numberOf (ce (r30).toNatClampNeg)) then (some (.inl (s20.1, (s20.2 + 1)))) else (lt (s20.1 ||| ((1 : Int64) <<< ((((7 : Int32) * (fX4_numberOf (ce (s4.2).toNatClampNeg))) + (fX4_numberOf (ce (r30).toNatClampNeg))).toInt64 &&& 63))) fun v87 => (lt (v87 ||| ((1 : Int64) <<< ((((7 : Int32) * (fX4_numberOf (ce (r30).toNatClampNeg))) + (fX4_numberOf (ce (s4.2).toNatClampNeg))).toInt64 &&& 63))) fun v100 => (some (.inl (v100, (s20.2 + 1))))))) else none) else (if (fX4_numberOf (ce (s4.2).toNatClampNeg)) = (6 : Int32) then (some (.inl (s20.1, (s20.2 + 1)))) else (lt (s20.1 ||| ((1 : Int64) <<< ((((7 : Int32) * (fX4_numberOf (ce (s4.2).toNatClampNeg))) + (6 : Int32)).toInt64 &&& 63))) fun v87 => (lt (v87 ||| ((1 : Int64) <<< ((((7 : Int32) * (6 : Int32)) + (fX4_numberOf (ce (s4.2).toNatClampNeg))).toInt64 &&& 63))) fun v100 => (some (.inl (v100, (s20.2 + 1)))))))) else none)))
def fX4_touches_4 (mw : Int32) (mh : Int32) (ce : (Nat → Int32)) (s4 : Int64 × Int32) : Option (Sum (Int64 × Int32) (Int64)) :=
  (if (mw * mh) ≤ s4.2 then (some (.inr s4.1)) else ((wh (fX4_touches_20 mw mh ce s4) FU (s4.1, (0 : Int32))).bind fun t20 => (some (.inl (t20, (s4.2 + 1))))))
def fX4_touches (mw : Int32) (mh : Int32) (ce : (Nat → Int32)) : Option (Int64) :=
  ((wh (fX4_touches_4 mw mh ce) FU ((0 : Int64), (0 : Int32))).bind fun t4 => (some t4))
-- LandBoardModel.areTouching
def fX4_areTouching (x1 : Int32) (x2 : Int32) (mw : Int32) (mh : Int32) (ce : (Nat → Int32)) : Option (Int32) :=
  ((fX4_touches mw mh ce).bind fun r1 => (if ¬ (lg_cmp ((r1 >>> ((((7 : Int32) * (fX4_numberOf x1)) + (fX4_numberOf x2)).toInt64 &&& 63)) &&& (1 : Int64)) (1 : Int64)) = 0 then (some (0 : Int32)) else (some (1 : Int32))))
-- LandBoardModel.touch
def fX4_touch (x1 : Int32) (x2 : Int32) (mw : Int32) (mh : Int32) (ce : (Nat → Int32)) : Option (Int32) :=
  (if x1 = (-4 : Int32) then (if x2 = (-4 : Int32) then (if x1 = x2 then (some (-1 : Int32)) else ((fX4_areTouching x1 x2 mw mh ce).bind fun r48 => (if r48 = 0 then (some (0 : Int32)) else (some (1 : Int32))))) else (if (fX4_isLand x2) = 0 then (some (-1 : Int32)) else (if x1 = x2 then (some (-1 : Int32)) else ((fX4_areTouching x1 x2 mw mh ce).bind fun r48 => (if r48 = 0 then (some (0 : Int32)) else (some (1 : Int32))))))) else (if (fX4_isLand x1) = 0 then (some (-1 : Int32)) else (if x2 = (-4 : Int32) then (if x1 = x2 then (some (-1 : Int32)) else ((fX4_areTouching x1 x2 mw mh ce).bind fun r48 => (if r48 = 0 then (some (0 : Int32)) else (some (1 : Int32))))) else (if (fX4_isLand x2) = 0 then (some (-1 : Int32)) else (if x1 = x2 then (some (-1 : Int32)) else ((fX4_areTouching x1 x2 mw mh ce).bind fun r48 => (if r48 = 0 then (some (0 : Int32)) else (some (1 : Int32)))))))))
-- LandBoardModel.kind
def fX4_kind (x1 : Int32) (x2 : Int32) (x3 : Int32) (x4 : Int32) (mw : Int32) (mh : Int32) (ce : (Nat → Int32)) (mk : (Nat → Int32)) (mo : (Nat → Int32)) : Option (Int32 × (Nat → Int32) × (Nat → Int32)) :=
  (if (fX4_isLand x1) = 0 then (some ((-1 : Int32), mk, mo)) else (if (fX4_in x2 (0 : Int32) (2 : Int32)) = 0 then (some ((-1 : Int32), mk, mo)) else (if x2 ≤ 0 then (if x2 ≤ 0 then (if ix x1 6 = true then (if ¬ x2 = 0 then (if ix x1 6 = true then (some ((1 : Int32), (upd mk (x1).toNatClampNeg x2), (upd mo (x1).toNatClampNeg (fX4_cellAt x3 x4 mw mh)))) else none) else (if ix x1 6 = true then (some ((1 : Int32), (upd mk (x1).toNatClampNeg x2), (upd mo (x1).toNatClampNeg (-1 : Int32)))) else none)) else none) else (if ix (fX4_cellAt x3 x4 mw mh) 64 = true then (if (ce ((fX4_cellAt x3 x4 mw mh)).toNatClampNeg) = x1 then (if ix x1 6 = true then (if ¬ x2 = 0 then (if ix x1 6 = true then (some ((1 : Int32), (upd mk (x1).toNatClampNeg x2), (upd mo (x1).toNatClampNeg (fX4_cellAt x3 x4 mw mh)))) else none) else (if ix x1 6 = true then (some ((1 : Int32), (upd mk (x1).toNatClampNeg x2), (upd mo (x1).toNatClampNeg (-1 : Int32)))) else none)) else none) else (some ((-2 : Int32), mk, mo))) else none)) else (if ¬ (fX4_isOn x3 x4 mw mh) = 0 then (if x2 ≤ 0 then (if ix x1 6 = true then (if ¬ x2 = 0 then (if ix x1 6 = true then (some ((1 : Int32), (upd mk (x1).toNatClampNeg x2), (upd mo (x1).toNatClampNeg (fX4_cellAt x3 x4 mw mh)))) else none) else (if ix x1 6 = true then (some ((1 : Int32), (upd mk (x1).toNatClampNeg x2), (upd mo (x1).toNatClampNeg (-1 : Int32)))) else none)) else none) else (if ix (fX4_cellAt x3 x4 mw mh) 64 = true then (if (ce ((fX4_cellAt x3 x4 mw mh)).toNatClampNeg) = x1 then (if ix x1 6 = true then (if ¬ x2 = 0 then (if ix x1 6 = true then (some ((1 : Int32), (upd mk (x1).toNatClampNeg x2), (upd mo (x1).toNatClampNeg (fX4_cellAt x3 x4 mw mh)))) else none) else (if ix x1 6 = true then (some ((1 : Int32), (upd mk (x1).toNatClampNeg x2), (upd mo (x1).toNatClampNeg (-1 : Int32)))) else none)) else none) else (some ((-2 : Int32), mk, mo))) else none)) else (some ((-1 : Int32), mk, mo))))))
-- LandBoardModel.about
def fX4_about (x1 : Int32) (x2 : Int32) (mw : Int32) (mk : (Nat → Int32)) (mo : (Nat → Int32)) (mwa : (Nat → Int32)) : Option (Int32) :=
  (if ¬ (fX4_isLand x1) = 0 then (if x2 = (0 : Int32) then (if ix x1 6 = true then (some (mk (x1).toNatClampNeg)) else none) else (if x2 = (1 : Int32) then (if ix x1 6 = true then (if 0 ≤ (mo (x1).toNatClampNeg) then (if ix x1 6 = true then (if mw = 0 then none else (some ((mo (x1).toNatClampNeg) - (mo (x1).toNatClampNeg) / mw * mw))) else none) else (some (-9 : Int32))) else none) else (if x2 = (2 : Int32) then (if ix x1 6 = true then (if 0 ≤ (mo (x1).toNatClampNeg) then (if ix x1 6 = true then (if mw = 0 then none else (some ((mo (x1).toNatClampNeg) / mw))) else none) else (some (-9 : Int32))) else none) else (if x2 = (3 : Int32) then (if ix x1 6 = true then (some (mwa (x1).toNatClampNeg)) else none) else (some (-1 : Int32)))))) else (some (-1 : Int32)))
-- LandBoardModel.doesLeave
def fX4_doesLeave_44 (x1 : Int32) (mw : Int32) (mh : Int32) (ce : (Nat → Int32)) (s27 : Int32 × Int32) (s44 : Int32 × Int32) : Option (Sum (Int32 × Int32) (Int32)) :=
  (if (4 : Int32) ≤ s44.2 then (some (.inr s44.1)) else ((fX4_beside s27.2 s44.2 mw mh).bind fun r55 => (if ¬ s44.1 = 0 then (some (.inl ((1 : Int32), (s44.2 + 1)))) else (if ix s27.2 64 = true then (if ¬ ((upd ce (x1).toNatClampNeg (7 : Int32)) (s27.2).toNatClampNeg) = (ce (x1).toNatClampNeg) then (some (.inl ((0 : Int32), (s44.2 + 1)))) else (if r55 < 0 then (some (.inl ((1 : Int32), (s44.2 + 1)))) else (if ix r55 64 = true then (if ¬ ((upd ce (x1).toNatClampNeg (7 : Int32)) (r55).toNatClampNeg) = (-4 : Int32) then (some (.inl ((0 : Int32), (s44.2 + 1)))) else (some (.inl ((1 : Int32), (s44.2 + 1))))) else none))) else none))))
def fX4_doesLeave_27 (x1 : Int32) (mw : Int32) (mh : Int32) (ce : (Nat → Int32)) (s27 : Int32 × Int32) : Option (Sum (Int32 × Int32) (Int32)) :=
  (if (mw * mh) ≤ s27.2 then (some (.inr s27.1)) else ((wh (fX4_doesLeave_44 x1 mw mh ce s27) FU (s27.1, (0 : Int32))).bind fun t44 => (some (.inl (t44, (s27.2 + 1))))))
def fX4_doesLeave (x1 : Int32) (mw : Int32) (mh : Int32) (ce : (Nat → Int32)) (mk : (Nat → Int32)) (mo : (Nat → Int32)) (mpi : (Nat → Int32)) (mme : (Nat → Int32)) : Option (Int32 × (Nat → Int32) × (Nat → Int32) × (Nat → Int32)) :=
  (if ix x1 64 = true then (if ix x1 64 = true then ((fX4_isWhole (ce (x1).toNatClampNeg) mw mh (upd ce (x1).toNatClampNeg (7 : Int32)) mpi mme).bind fun r17 => ((wh (fX4_doesLeave_27 x1 mw mh ce) FU ((0 : Int32), (0 : Int32))).bind fun t27 => (if ix x1 64 = true then (if r17.1 = 0 then (some ((0 : Int32), (upd (upd ce (x1).toNatClampNeg (7 : Int32)) (x1).toNatClampNeg (ce (x1).toNatClampNeg)), r17.2.1, r17.2.2)) else (if ix (ce (x1).toNatClampNeg) 6 = true then (if (mk ((ce (x1).toNatClampNeg)).toNatClampNeg) = 0 then (if ix (ce (x1).toNatClampNeg) 6 = true then (if (mk ((ce (x1).toNatClampNeg)).toNatClampNeg) < (2 : Int32) then (some ((1 : Int32), (upd (upd ce (x1).toNatClampNeg (7 : Int32)) (x1).toNatClampNeg (ce (x1).toNatClampNeg)), r17.2.1, r17.2.2)) else (if t27 = 0 then (some ((0 : Int32), (upd (upd ce (x1).toNatClampNeg (7 : Int32)) (x1).toNatClampNeg (ce (x1).toNatClampNeg)), r17.2.1, r17.2.2)) else (some ((1 : Int32), (upd (upd ce (x1).toNatClampNeg (7 : Int32)) (x1).toNatClampNeg (ce (x1).toNatClampNeg)), r17.2.1, r17.2.2)))) else none) else (if ix (ce (x1).toNatClampNeg) 6 = true then (if (mo ((ce (x1).toNatClampNeg)).toNatClampNeg) = x1 then (some ((0 : Int32), (upd (upd ce (x1).toNatClampNeg (7 : Int32)) (x1).toNatClampNeg (ce (x1).toNatClampNeg)), r17.2.1, r17.2.2)) else (if ix (ce (x1).toNatClampNeg) 6 = true then (if (mk ((ce (x1).toNatClampNeg)).toNatClampNeg) < (2 : Int32) then (some ((1 : Int32), (upd (upd ce (x1).toNatClampNeg (7 : Int32)) (x1).toNatClampNeg (ce (x1).toNatClampNeg)), r17.2.1, r17.2.2)) else (if t27 = 0 then (some ((0 : Int32), (upd (upd ce (x1).toNatClampNeg (7 : Int32)) (x1).toNatClampNeg (ce (x1).toNatClampNeg)), r17.2.1, r17.2.2)) else (some ((1 : Int32), (upd (upd ce (x1).toNatClampNeg (7 : Int32)) (x1).toNatClampNeg (ce (x1).toNatClampNeg)), r17.2.1, r17.2.2)))) else none)) else none)) else none)) else none))) else none) else none)
-- LandBoardModel.leaves
def fX4_leaves (x1 : Int32) (x2 : Int32) (mw : Int32) (mh : Int32) (mtr : Int64) (ce : (Nat → Int32)) (mk : (Nat → Int32)) (mo : (Nat → Int32)) (mpi : (Nat → Int32)) (mme : (Nat → Int32)) : Option (Int32 × Int64 × (Nat → Int32) × (Nat → Int32) × (Nat → Int32)) :=
  (if (fX4_cellAt x1 x2 mw mh) < 0 then (some ((-1 : Int32), mtr, ce, mpi, mme)) else (if ix (fX4_cellAt x1 x2 mw mh) 64 = true then (if ¬ (ce ((fX4_cellAt x1 x2 mw mh)).toNatClampNeg) = (-4 : Int32) then (if ix (fX4_cellAt x1 x2 mw mh) 64 = true then (if ix (ce ((fX4_cellAt x1 x2 mw mh)).toNatClampNeg) 6 = true then (lt (mk ((ce ((fX4_cellAt x1 x2 mw mh)).toNatClampNeg)).toNatClampNeg) fun v35 => (if ¬ v35 = 0 then (if ¬ v35 = (1 : Int32) then ((fX4_doesLeave (fX4_cellAt x1 x2 mw mh) mw mh ce mk mo mpi mme).bind fun r72 => (if r72.1 = 0 then (some ((0 : Int32), (mtr + (111 : Int64)), r72.2.1, r72.2.2.1, r72.2.2.2)) else (some ((1 : Int32), (mtr + (111 : Int64)), r72.2.1, r72.2.2.1, r72.2.2.2)))) else ((fX4_doesLeave (fX4_cellAt x1 x2 mw mh) mw mh ce mk mo mpi mme).bind fun r72 => (if r72.1 = 0 then (some ((0 : Int32), (mtr + (11 : Int64)), r72.2.1, r72.2.2.1, r72.2.2.2)) else (some ((1 : Int32), (mtr + (11 : Int64)), r72.2.1, r72.2.2.1, r72.2.2.2))))) else ((fX4_doesLeave (fX4_cellAt x1 x2 mw mh) mw mh ce mk mo mpi mme).bind fun r72 => (if r72.1 = 0 then (some ((0 : Int32), (mtr + (1 : Int64)), r72.2.1, r72.2.2.1, r72.2.2.2)) else (some ((1 : Int32), (mtr + (1 : Int64)), r72.2.1, r72.2.2.1, r72.2.2.2)))))) else none) else none) else (some ((-1 : Int32), mtr, ce, mpi, mme))) else none))
-- LandBoardModel.mayGo
def fX4_mayGo_26 (x1 : Int32) (x2 : Int32) (mw : Int32) (mh : Int32) (ce : (Nat → Int32)) (s26 : Int32 × Int32) : Option (Sum (Int32 × Int32) (Int32)) :=
  (if (4 : Int32) ≤ s26.2 then (some (.inr s26.1)) else ((fX4_beside x1 s26.2 mw mh).bind fun r36 => (if ¬ s26.1 = 0 then (some (.inl ((1 : Int32), (s26.2 + 1)))) else (if r36 < 0 then (some (.inl ((0 : Int32), (s26.2 + 1)))) else (if ix r36 64 = true then (if ¬ (ce (r36).toNatClampNeg) = x2 then (some (.inl ((0 : Int32), (s26.2 + 1)))) else (some (.inl ((1 : Int32), (s26.2 + 1))))) else none)))))
def fX4_mayGo (x1 : Int32) (x2 : Int32) (mw : Int32) (mh : Int32) (ce : (Nat → Int32)) (mk : (Nat → Int32)) (mo : (Nat → Int32)) (mpi : (Nat → Int32)) (mme : (Nat → Int32)) : Option (Int32 × (Nat → Int32) × (Nat → Int32) × (Nat → Int32)) :=
  (if ix x1 64 = true then (if (ce (x1).toNatClampNeg) = (-4 : Int32) then (some ((0 : Int32), ce, mpi, mme)) else (if ¬ (ce (x1).toNatClampNeg) = x2 then ((wh (fX4_mayGo_26 x1 x2 mw mh ce) FU ((0 : Int32), (0 : Int32))).bind fun t26 => (if t26 = 0 then (some ((0 : Int32), ce, mpi, mme)) else ((fX4_doesLeave x1 mw mh ce mk mo mpi mme).bind fun r82 => (if ¬ r82.1 = 0 then ((fX4_touches mw mh r82.2.1).bind fun r91 => (if ix x1 64 = true then ((fX4_touches mw mh (upd r82.2.1 (x1).toNatClampNeg x2)).bind fun r104 => (if ¬ (lg_cmp r104 r91) = 0 then (if ix x1 64 = true then (some ((0 : Int32), (upd (upd r82.2.1 (x1).toNatClampNeg x2) (x1).toNatClampNeg (ce (x1).toNatClampNeg)), r82.2.2.1, r82.2.2.2)) else none) else (if ix x1 64 = true then (some ((1 : Int32), (upd (upd r82.2.1 (x1).toNatClampNeg x2) (x1).toNatClampNeg (ce (x1).toNatClampNeg)), r82.2.2.1, r82.2.2.2)) else none))) else none)) else (some ((0 : Int32), r82.2.1, r82.2.2.1, r82.2.2.2)))))) else (some ((0 : Int32), ce, mpi, mme)))) else none)
-- LandBoardModel.may
def fX4_may (x1 : Int32) (x2 : Int32) (x3 : Int32) (mw : Int32) (mh : Int32) (ce : (Nat → Int32)) (mk : (Nat → Int32)) (mo : (Nat → Int32)) (mpi : (Nat → Int32)) (mme : (Nat → Int32)) : Option (Int32 × (Nat → Int32) × (Nat → Int32) × (Nat → Int32)) :=
  (if (fX4_cellAt x1 x2 mw mh) < 0 then (some ((-1 : Int32), ce, mpi, mme)) else (if ¬ (fX4_isLand x3) = 0 then ((fX4_mayGo (fX4_cellAt x1 x2 mw mh) x3 mw mh ce mk mo mpi mme).bind fun r26 => (if r26.1 = 0 then (some ((0 : Int32), r26.2.1, r26.2.2.1, r26.2.2.2)) else (some ((1 : Int32), r26.2.1, r26.2.2.1, r26.2.2.2)))) else (some ((-1 : Int32), ce, mpi, mme))))
-- LandBoardModel.goes
def fX4_goes (x1 : Int32) (x2 : Int32) (mke : Int32) (mnx : Int32) (mdo : Int32) (ce : (Nat → Int32)) (mmc : (Nat → Int32)) (mmf : (Nat → Int32)) : Option (Int32 × Int32 × Int32 × (Nat → Int32) × (Nat → Int32) × (Nat → Int32)) :=
  (if ix mnx 100 = true then (if ix x1 64 = true then (if ix mnx 100 = true then (if ¬ mke = (100 : Int32) then (if ix x1 64 = true then (some ((mke + (1 : Int32)), ((mnx + (1 : Int32)) - (mnx + (1 : Int32)) / (100 : Int32) * (100 : Int32)), (mdo + (1 : Int32)), (upd ce (x1).toNatClampNeg x2), (upd mmc (mnx).toNatClampNeg x1), (upd mmf (mnx).toNatClampNeg (ce (x1).toNatClampNeg)))) else none) else (if ix x1 64 = true then (some ((mke + (0 : Int32)), ((mnx + (1 : Int32)) - (mnx + (1 : Int32)) / (100 : Int32) * (100 : Int32)), (mdo + (1 : Int32)), (upd ce (x1).toNatClampNeg x2), (upd mmc (mnx).toNatClampNeg x1), (upd mmf (mnx).toNatClampNeg (ce (x1).toNatClampNeg)))) else none)) else none) else none) else none)
-- LandBoardModel.move
def fX4_move (x1 : Int32) (x2 : Int32) (x3 : Int32) (mw : Int32) (mh : Int32) (mke : Int32) (mnx : Int32) (mdo : Int32) (ce : (Nat → Int32)) (mk : (Nat → Int32)) (mo : (Nat → Int32)) (mmc : (Nat → Int32)) (mmf : (Nat → Int32)) (mpi : (Nat → Int32)) (mme : (Nat → Int32)) : Option (Int32 × Int32 × Int32 × Int32 × (Nat → Int32) × (Nat → Int32) × (Nat → Int32) × (Nat → Int32) × (Nat → Int32)) :=
  (if (fX4_cellAt x1 x2 mw mh) < 0 then (some ((-1 : Int32), mke, mnx, mdo, ce, mmc, mmf, mpi, mme)) else (if ¬ (fX4_isLand x3) = 0 then ((fX4_mayGo (fX4_cellAt x1 x2 mw mh) x3 mw mh ce mk mo mpi mme).bind fun r26 => (if ¬ r26.1 = 0 then (if ix (fX4_cellAt x1 x2 mw mh) 64 = true then (lt (r26.2.1 ((fX4_cellAt x1 x2 mw mh)).toNatClampNeg) fun v42 => ((fX4_goes (fX4_cellAt x1 x2 mw mh) x3 mke mnx mdo r26.2.1 mmc mmf).bind fun r48 => (some (v42, r48.1, r48.2.1, r48.2.2.1, r48.2.2.2.1, r48.2.2.2.2.1, r48.2.2.2.2.2, r26.2.2.1, r26.2.2.2)))) else none) else (some ((-2 : Int32), mke, mnx, mdo, r26.2.1, mmc, mmf, r26.2.2.1, r26.2.2.2)))) else (some ((-1 : Int32), mke, mnx, mdo, ce, mmc, mmf, mpi, mme))))
-- LandBoardModel.want
def fX4_want (x1 : Int32) (x2 : Int32) (mwa : (Nat → Int32)) : Option (Int32 × (Nat → Int32)) :=
  (if (fX4_isLand x1) = 0 then (some ((-1 : Int32), mwa)) else (if ¬ (fX4_in x2 (0 : Int32) (64 : Int32)) = 0 then (if ix x1 6 = true then (if ix x1 6 = true then (some ((mwa (x1).toNatClampNeg), (upd mwa (x1).toNatClampNeg x2))) else none) else none) else (some ((-1 : Int32), mwa))))
-- LandBoardModel.missNow
def fX4_missNow_4 (mw : Int32) (mh : Int32) (ce : (Nat → Int32)) (mwa : (Nat → Int32)) (s4 : Int32 × Int32) : Option (Sum (Int32 × Int32) (Int32)) :=
  (if (6 : Int32) ≤ s4.2 then (some (.inr s4.1)) else ((fX4_sizeOf s4.2 mw mh ce).bind fun r12 => (if ix s4.2 6 = true then (if ¬ r12 = 0 then (if 0 ≤ (r12 - (mwa (s4.2).toNatClampNeg)) then (some (.inl ((s4.1 + (r12 - (mwa (s4.2).toNatClampNeg))), (s4.2 + 1)))) else (lt (s4.1 + (-(r12 - (mwa (s4.2).toNatClampNeg)))) fun v49 => (some (.inl (v49, (s4.2 + 1)))))) else (some (.inl ((s4.1 + (0 : Int32)), (s4.2 + 1))))) else none)))
def fX4_missNow (mw : Int32) (mh : Int32) (ce : (Nat → Int32)) (mwa : (Nat → Int32)) : Option (Int32) :=
  ((wh (fX4_missNow_4 mw mh ce mwa) FU ((0 : Int32), (0 : Int32))).bind fun t4 => (some t4))
-- LandBoardModel.miss
def fX4_miss (mw : Int32) (mh : Int32) (ce : (Nat → Int32)) (mwa : (Nat → Int32)) : Option (Int32) :=
  ((fX4_missNow mw mh ce mwa).bind fun r1 => (some r1))
-- LandBoardModel.goesOn
def fX4_goesOn_29bb (mw : Int32) (mh : Int32) (mk : (Nat → Int32)) (mo : (Nat → Int32)) (mwa : (Nat → Int32)) (s12 : Int32 × Int32 × Int32 × Int32 × (Nat → Int32) × (Nat → Int32) × (Nat → Int32)) (s29 : Int32 × Int32 × Int32 × Int32 × (Nat → Int32) × (Nat → Int32) × (Nat → Int32)) : Option (Sum (Int32 × Int32 × Int32 × Int32 × (Nat → Int32) × (Nat → Int32) × (Nat → Int32)) (Int32 × Int32 × Int32 × (Nat → Int32) × (Nat → Int32) × (Nat → Int32))) :=
  (if (6 : Int32) ≤ s29.2.2.2.1 then (some (.inr (s29.1, s29.2.1, s29.2.2.1, s29.2.2.2.2.1, s29.2.2.2.2.2.1, s29.2.2.2.2.2.2))) else ((fX4_mayGo s12.2.2.2.1 s29.2.2.2.1 mw mh s29.2.2.2.2.1 mk mo s29.2.2.2.2.2.1 s29.2.2.2.2.2.2).bind fun r41 => (if r41.1 = 0 then (some (.inl (s29.1, s29.2.1, s29.2.2.1, (s29.2.2.2.1 + 1), r41.2.1, r41.2.2.1, r41.2.2.2))) else (if ix s12.2.2.2.1 64 = true then (if ix s12.2.2.2.1 64 = true then ((fX4_missNow mw mh (upd r41.2.1 (s12.2.2.2.1).toNatClampNeg s29.2.2.2.1) mwa).bind fun r66 => (if ix s12.2.2.2.1 64 = true then (if s29.1 ≤ r66 then (if s29.1 ≤ r66 then (if s29.1 ≤ r66 then (some (.inl (s29.1, s29.2.1, s29.2.2.1, (s29.2.2.2.1 + 1), (upd (upd r41.2.1 (s12.2.2.2.1).toNatClampNeg s29.2.2.2.1) (s12.2.2.2.1).toNatClampNeg (r41.2.1 (s12.2.2.2.1).toNatClampNeg)), r41.2.2.1, r41.2.2.2))) else (some (.inl (r66, s29.2.1, s29.2.2.1, (s29.2.2.2.1 + 1), (upd (upd r41.2.1 (s12.2.2.2.1).toNatClampNeg s29.2.2.2.1) (s12.2.2.2.1).toNatClampNeg (r41.2.1 (s12.2.2.2.1).toNatClampNeg)), r41.2.2.1, r41.2.2.2)))) else (if s29.1 ≤ r66 then (some (.inl (s29.1, s29.2.1, s29.2.2.2.1, (s29.2.2.2.1 + 1), (upd (upd r41.2.1 (s12.2.2.2.1).toNatClampNeg s29.2.2.2.1) (s12.2.2.2.1).toNatClampNeg (r41.2.1 (s12.2.2.2.1).toNatClampNeg)), r41.2.2.1, r41.2.2.2))) else (some (.inl (r66, s29.2.1, s29.2.2.2.1, (s29.2.2.2.1 + 1), (upd (upd r41.2.1 (s12.2.2.2.1).toNatClampNeg s29.2.2.2.1) (s12.2.2.2.1).toNatClampNeg (r41.2.1 (s12.2.2.2.1).toNatClampNeg)), r41.2.2.1, r41.2.2.2))))) else (if s29.1 ≤ r66 then (if s29.1 ≤ r66 then (some (.inl (s29.1, s12.2.2.2.1, s29.2.2.1, (s29.2.2.2.1 + 1), (upd (upd r41.2.1 (s12.2.2.2.1).toNatClampNeg s29.2.2.2.1) (s12.2.2.2.1).toNatClampNeg (r41.2.1 (s12.2.2.2.1).toNatClampNeg)), r41.2.2.1, r41.2.2.2))) else (some (.inl (r66, s12.2.2.2.1, s29.2.2.1, (s29.2.2.2.1 + 1), (upd (upd r41.2.1 (s12.2.2.2.1).toNatClampNeg s29.2.2.2.1) (s12.2.2.2.1).toNatClampNeg (r41.2.1 (s12.2.2.2.1).toNatClampNeg)), r41.2.2.1, r41.2.2.2)))) else (if s29.1 ≤ r66 then (some (.inl (s29.1, s12.2.2.2.1, s29.2.2.2.1, (s29.2.2.2.1 + 1), (upd (upd r41.2.1 (s12.2.2.2.1).toNatClampNeg s29.2.2.2.1) (s12.2.2.2.1).toNatClampNeg (r41.2.1 (s12.2.2.2.1).toNatClampNeg)), r41.2.2.1, r41.2.2.2))) else (some (.inl (r66, s12.2.2.2.1, s29.2.2.2.1, (s29.2.2.2.1 + 1), (upd (upd r41.2.1 (s12.2.2.2.1).toNatClampNeg s29.2.2.2.1) (s12.2.2.2.1).toNatClampNeg (r41.2.1 (s12.2.2.2.1).toNatClampNeg)), r41.2.2.1, r41.2.2.2)))))) else none)) else none) else none))))
def fX4_goesOn_12 (mw : Int32) (mh : Int32) (mk : (Nat → Int32)) (mo : (Nat → Int32)) (mwa : (Nat → Int32)) (s12 : Int32 × Int32 × Int32 × Int32 × (Nat → Int32) × (Nat → Int32) × (Nat → Int32)) : Option (Sum (Int32 × Int32 × Int32 × Int32 × (Nat → Int32) × (Nat → Int32) × (Nat → Int32)) (Int32 × Int32 × (Nat → Int32) × (Nat → Int32) × (Nat → Int32))) :=
  (if (mw * mh) ≤ s12.2.2.2.1 then (some (.inr (s12.2.1, s12.2.2.1, s12.2.2.2.2.1, s12.2.2.2.2.2.1, s12.2.2.2.2.2.2))) else ((wh (fX4_goesOn_29bb mw mh mk mo mwa s12) FU (s12.1, s12.2.1, s12.2.2.1, (0 : Int32), s12.2.2.2.2.1, s12.2.2.2.2.2.1, s12.2.2.2.2.2.2)).bind fun t29 => (some (.inl (t29.1, t29.2.1, t29.2.2.1, (s12.2.2.2.1 + 1), t29.2.2.2.1, t29.2.2.2.2.1, t29.2.2.2.2.2)))))
def fX4_goesOn (mw : Int32) (mh : Int32) (mke : Int32) (mnx : Int32) (mdo : Int32) (ce : (Nat → Int32)) (mk : (Nat → Int32)) (mo : (Nat → Int32)) (mwa : (Nat → Int32)) (mmc : (Nat → Int32)) (mmf : (Nat → Int32)) (mpi : (Nat → Int32)) (mme : (Nat → Int32)) : Option (Int32 × Int32 × Int32 × Int32 × (Nat → Int32) × (Nat → Int32) × (Nat → Int32) × (Nat → Int32) × (Nat → Int32)) :=
  ((fX4_missNow mw mh ce mwa).bind fun r1 => ((wh (fX4_goesOn_12 mw mh mk mo mwa) FU (r1, (-1 : Int32), (0 : Int32), (0 : Int32), ce, mpi, mme)).bind fun t12 => (if 0 ≤ t12.1 then ((fX4_goes t12.1 t12.2.1 mke mnx mdo t12.2.2.1 mmc mmf).bind fun r140 => (some ((1 : Int32), r140.1, r140.2.1, r140.2.2.1, r140.2.2.2.1, r140.2.2.2.2.1, r140.2.2.2.2.2, t12.2.2.2.1, t12.2.2.2.2))) else (some ((0 : Int32), mke, mnx, mdo, t12.2.2.1, mmc, mmf, t12.2.2.2.1, t12.2.2.2.2)))))
-- LandBoardModel.steps
def fX4_steps_16 (x1 : Int32) (mw : Int32) (mh : Int32) (mk : (Nat → Int32)) (mo : (Nat → Int32)) (mwa : (Nat → Int32)) (s16 : Int32 × Int32 × Int32 × Int32 × Int32 × (Nat → Int32) × (Nat → Int32) × (Nat → Int32) × (Nat → Int32) × (Nat → Int32)) : Option (Sum (Int32 × Int32 × Int32 × Int32 × Int32 × (Nat → Int32) × (Nat → Int32) × (Nat → Int32) × (Nat → Int32) × (Nat → Int32)) (Int32 × Int32 × Int32 × Int32 × (Nat → Int32) × (Nat → Int32) × (Nat → Int32) × (Nat → Int32) × (Nat → Int32))) :=
  (if s16.2.1 = 0 then (some (.inr (s16.1, s16.2.2.1, s16.2.2.2.1, s16.2.2.2.2.1, s16.2.2.2.2.2.1, s16.2.2.2.2.2.2.1, s16.2.2.2.2.2.2.2.1, s16.2.2.2.2.2.2.2.2.1, s16.2.2.2.2.2.2.2.2.2))) else (if x1 ≤ s16.1 then (some (.inr (s16.1, s16.2.2.1, s16.2.2.2.1, s16.2.2.2.2.1, s16.2.2.2.2.2.1, s16.2.2.2.2.2.2.1, s16.2.2.2.2.2.2.2.1, s16.2.2.2.2.2.2.2.2.1, s16.2.2.2.2.2.2.2.2.2))) else ((fX4_goesOn mw mh s16.2.2.1 s16.2.2.2.1 s16.2.2.2.2.1 s16.2.2.2.2.2.1 mk mo mwa s16.2.2.2.2.2.2.1 s16.2.2.2.2.2.2.2.1 s16.2.2.2.2.2.2.2.2.1 s16.2.2.2.2.2.2.2.2.2).bind fun r26 => (if r26.1 = 0 then (some (.inl ((s16.1 + (0 : Int32)), r26.1, r26.2.1, r26.2.2.1, r26.2.2.2.1, r26.2.2.2.2.1, r26.2.2.2.2.2.1, r26.2.2.2.2.2.2.1, r26.2.2.2.2.2.2.2.1, r26.2.2.2.2.2.2.2.2))) else (some (.inl ((s16.1 + (1 : Int32)), r26.1, r26.2.1, r26.2.2.1, r26.2.2.2.1, r26.2.2.2.2.1, r26.2.2.2.2.2.1, r26.2.2.2.2.2.2.1, r26.2.2.2.2.2.2.2.1, r26.2.2.2.2.2.2.2.2)))))))
def fX4_steps (x1 : Int32) (mw : Int32) (mh : Int32) (mke : Int32) (mnx : Int32) (mdo : Int32) (ce : (Nat → Int32)) (mk : (Nat → Int32)) (mo : (Nat → Int32)) (mwa : (Nat → Int32)) (mmc : (Nat → Int32)) (mmf : (Nat → Int32)) (mpi : (Nat → Int32)) (mme : (Nat → Int32)) : Option (Int32 × Int32 × Int32 × Int32 × (Nat → Int32) × (Nat → Int32) × (Nat → Int32) × (Nat → Int32) × (Nat → Int32)) :=
  (if ¬ (fX4_in x1 (1 : Int32) (64 : Int32)) = 0 then ((wh (fX4_steps_16 x1 mw mh mk mo mwa) FU ((0 : Int32), (1 : Int32), mke, mnx, mdo, ce, mmc, mmf, mpi, mme)).bind fun t16 => (some (t16.1, t16.2.1, t16.2.2.1, t16.2.2.2.1, t16.2.2.2.2.1, t16.2.2.2.2.2.1, t16.2.2.2.2.2.2.1, t16.2.2.2.2.2.2.2.1, t16.2.2.2.2.2.2.2.2))) else (some ((-1 : Int32), mke, mnx, mdo, ce, mmc, mmf, mpi, mme)))
-- LandBoardModel.undo
def fX4_undo_14 (x1 : Int32) (mmc : (Nat → Int32)) (mmf : (Nat → Int32)) (s14 : Int32 × Int32 × Int32 × (Nat → Int32)) : Option (Sum (Int32 × Int32 × Int32 × (Nat → Int32)) (Int32 × Int32 × Int32 × (Nat → Int32))) :=
  (if x1 ≤ s14.1 then (some (.inr (s14.1, s14.2.1, s14.2.2.1, s14.2.2.2))) else (if s14.2.1 ≤ 0 then (some (.inr (s14.1, s14.2.1, s14.2.2.1, s14.2.2.2))) else (if ix (((s14.2.2.1 + (100 : Int32)) - (1 : Int32)) - ((s14.2.2.1 + (100 : Int32)) - (1 : Int32)) / (100 : Int32) * (100 : Int32)) 100 = true then (if ix (((s14.2.2.1 + (100 : Int32)) - (1 : Int32)) - ((s14.2.2.1 + (100 : Int32)) - (1 : Int32)) / (100 : Int32) * (100 : Int32)) 100 = true then (if ix (mmc ((((s14.2.2.1 + (100 : Int32)) - (1 : Int32)) - ((s14.2.2.1 + (100 : Int32)) - (1 : Int32)) / (100 : Int32) * (100 : Int32))).toNatClampNeg) 64 = true then (some (.inl ((s14.1 + 1), (s14.2.1 - (1 : Int32)), (((s14.2.2.1 + (100 : Int32)) - (1 : Int32)) - ((s14.2.2.1 + (100 : Int32)) - (1 : Int32)) / (100 : Int32) * (100 : Int32)), (upd s14.2.2.2 ((mmc ((((s14.2.2.1 + (100 : Int32)) - (1 : Int32)) - ((s14.2.2.1 + (100 : Int32)) - (1 : Int32)) / (100 : Int32) * (100 : Int32))).toNatClampNeg)).toNatClampNeg (mmf ((((s14.2.2.1 + (100 : Int32)) - (1 : Int32)) - ((s14.2.2.1 + (100 : Int32)) - (1 : Int32)) / (100 : Int32) * (100 : Int32))).toNatClampNeg))))) else none) else none) else none)))
def fX4_undo (x1 : Int32) (mke : Int32) (mnx : Int32) (ce : (Nat → Int32)) (mmc : (Nat → Int32)) (mmf : (Nat → Int32)) : Option (Int32 × Int32 × Int32 × (Nat → Int32)) :=
  (if ¬ (fX4_in x1 (1 : Int32) (100 : Int32)) = 0 then ((wh (fX4_undo_14 x1 mmc mmf) FU ((0 : Int32), mke, mnx, ce)).bind fun t14 => (some (t14.1, t14.2.1, t14.2.2.1, t14.2.2.2))) else (some ((-1 : Int32), mke, mnx, ce)))
-- LandBoardModel.sound
def fX4_sound_69bb (mw : Int32) (mh : Int32) (s53 : Int32 × Int32 × (Nat → Int32)) (s69 : Int32 × Int32 × (Nat → Int32)) : Option (Sum (Int32 × Int32 × (Nat → Int32)) (Int32 × (Nat → Int32))) :=
  (if (4 : Int32) ≤ s69.2.1 then (some (.inr (s69.1, s69.2.2))) else ((fX4_beside s53.2.1 s69.2.1 mw mh).bind fun r79 => (if 0 ≤ r79 then (if ix r79 64 = true then (lt ((s69.2.2 (r79).toNatClampNeg) + (1 : Int32)) fun v102 => (if ix s53.2.1 64 = true then (if (s69.2.2 (s53.2.1).toNatClampNeg) ≤ v102 then (some (.inl (s69.1, (s69.2.1 + 1), s69.2.2))) else (if ix s53.2.1 64 = true then (some (.inl ((1 : Int32), (s69.2.1 + 1), (upd s69.2.2 (s53.2.1).toNatClampNeg v102)))) else none)) else none)) else none) else (if ix s53.2.1 64 = true then (if (s69.2.2 (s53.2.1).toNatClampNeg) ≤ (1 : Int32) then (some (.inl (s69.1, (s69.2.1 + 1), s69.2.2))) else (if ix s53.2.1 64 = true then (some (.inl ((1 : Int32), (s69.2.1 + 1), (upd s69.2.2 (s53.2.1).toNatClampNeg (1 : Int32))))) else none)) else none))))
def fX4_sound_53b (mw : Int32) (mh : Int32) (s53 : Int32 × Int32 × (Nat → Int32)) : Option (Sum (Int32 × Int32 × (Nat → Int32)) (Int32 × (Nat → Int32))) :=
  (if (mw * mh) ≤ s53.2.1 then (some (.inr (s53.1, s53.2.2))) else ((wh (fX4_sound_69bb mw mh s53) FU (s53.1, (0 : Int32), s53.2.2)).bind fun t69 => (some (.inl (t69.1, (s53.2.1 + 1), t69.2)))))
def fX4_sound_45 (mw : Int32) (mh : Int32) (s45 : Int32 × (Nat → Int32)) : Option (Sum (Int32 × (Nat → Int32)) ((Nat → Int32))) :=
  (if s45.1 = 0 then (some (.inr s45.2)) else ((wh (fX4_sound_53b mw mh) FU ((0 : Int32), (0 : Int32), s45.2)).bind fun t53 => (some (.inl (t53.1, t53.2)))))
def fX4_sound_2 (x1 : Int32) (mw : Int32) (mh : Int32) (ce : (Nat → Int32)) (s2 : Int32 × (Nat → Int32)) : Option (Sum (Int32 × (Nat → Int32)) ((Nat → Int32))) :=
  (if (mw * mh) ≤ s2.1 then (some (.inr s2.2)) else (if ix s2.1 64 = true then (if ¬ (ce (s2.1).toNatClampNeg) = x1 then (if ix s2.1 64 = true then (some (.inl ((s2.1 + 1), (upd s2.2 (s2.1).toNatClampNeg (0 : Int32))))) else none) else (if ix s2.1 64 = true then (some (.inl ((s2.1 + 1), (upd s2.2 (s2.1).toNatClampNeg (100 : Int32))))) else none)) else none))
def fX4_sound (x1 : Int32) (mw : Int32) (mh : Int32) (ce : (Nat → Int32)) (mde : (Nat → Int32)) : Option ((Nat → Int32)) :=
  ((wh (fX4_sound_2 x1 mw mh ce) FU ((0 : Int32), mde)).bind fun t2 => ((wh (fX4_sound_45 mw mh) FU ((1 : Int32), t2)).bind fun t45 => (some t45)))
-- LandBoardModel.label
def fX4_label_39 (mw : Int32) (mh : Int32) (r31 : (Nat → Int32)) (s39 : Int32 × Int32) : Option (Sum (Int32 × Int32) (Int32)) :=
  (if (mw * mh) ≤ s39.2 then (some (.inr s39.1)) else (if ix s39.2 64 = true then (if ix s39.1 64 = true then (if (r31 (s39.2).toNatClampNeg) ≤ (r31 (s39.1).toNatClampNeg) then (some (.inl (s39.1, (s39.2 + 1)))) else (some (.inl (s39.2, (s39.2 + 1))))) else none) else none))
def fX4_label (x1 : Int32) (x2 : Int32) (mw : Int32) (mh : Int32) (ce : (Nat → Int32)) (mde : (Nat → Int32)) : Option (Int32 × (Nat → Int32)) :=
  (if (fX4_isLand x1) = 0 then (some ((-1 : Int32), mde)) else (if ¬ (fX4_in x2 (0 : Int32) (2 : Int32)) = 0 then ((fX4_sizeOf x1 mw mh ce).bind fun r20 => (if ¬ r20 = 0 then ((fX4_sound x1 mw mh ce mde).bind fun r31 => ((wh (fX4_label_39 mw mh r31) FU ((0 : Int32), (1 : Int32))).bind fun t39 => (if ¬ x2 = 0 then (if ¬ x2 = (1 : Int32) then (if ix t39 64 = true then (some ((r31 (t39).toNatClampNeg), r31)) else none) else (if mw = 0 then none else (some ((t39 / mw), r31)))) else (if mw = 0 then none else (some ((t39 - t39 / mw * mw), r31)))))) else (some ((-9 : Int32), mde)))) else (some ((-1 : Int32), mde))))
-- LandBoardModel.weigh
def fX4_weigh_12 (mw : Int32) (mh : Int32) (ce : (Nat → Int32)) (s12 : Int32 × Int32 × Int32 × (Nat → Int32) × (Nat → Int32)) : Option (Sum (Int32 × Int32 × Int32 × (Nat → Int32) × (Nat → Int32)) (Int32 × Int32 × (Nat → Int32) × (Nat → Int32))) :=
  (if (6 : Int32) ≤ s12.1 then (some (.inr (s12.2.1, s12.2.2.1, s12.2.2.2.1, s12.2.2.2.2))) else ((fX4_sizeOf s12.1 mw mh ce).bind fun r20 => (if r20 ≤ 0 then (some (.inl ((s12.1 + 1), s12.2.1, s12.2.2.1, s12.2.2.2.1, s12.2.2.2.2))) else (if ix s12.2.1 6 = true then (if ix s12.2.1 6 = true then (some (.inl ((s12.1 + 1), (s12.2.1 + (1 : Int32)), (s12.2.2.1 + r20), (upd s12.2.2.2.1 (s12.2.1).toNatClampNeg r20), (upd s12.2.2.2.2 (s12.2.1).toNatClampNeg s12.1)))) else none) else none))))
def fX4_weigh (mw : Int32) (mh : Int32) (mma : Int32) (mto : Int32) (ce : (Nat → Int32)) (mwe : (Nat → Int32)) (mla : (Nat → Int32)) : Option (Int32 × Int32 × (Nat → Int32) × (Nat → Int32)) :=
  ((wh (fX4_weigh_12 mw mh ce) FU ((0 : Int32), (0 : Int32), (0 : Int32), mwe, mla)).bind fun t12 => (some (t12.1, t12.2.1, t12.2.2.1, t12.2.2.2)))
-- LandBoardModel.lay
def fX4_lay_74 (x1 : Int32) (x2 : Int32) (mma : Int32) (mwe : (Nat → Int32)) (s74 : Int32 × Int32 × Int32 × Int32) : Option (Sum (Int32 × Int32 × Int32 × Int32) (Int32 × Int32)) :=
  (if mma ≤ s74.2.1 then (some (.inr (s74.2.2.1, s74.2.2.2))) else (if s74.1 = 0 then (some (.inr (s74.2.2.1, s74.2.2.2))) else (if ix s74.2.1 6 = true then (if x2 ≤ s74.2.1 then (if ¬ ((x1 >>> (s74.2.1 &&& 31)) &&& (1 : Int32)) = 0 then (some (.inl ((0 : Int32), (s74.2.1 + 1), (s74.2.2.1 + (0 : Int32)), (s74.2.2.2 + (mwe (s74.2.1).toNatClampNeg))))) else (some (.inl ((1 : Int32), (s74.2.1 + 1), (s74.2.2.1 + (0 : Int32)), (s74.2.2.2 + (mwe (s74.2.1).toNatClampNeg)))))) else (if ix s74.2.1 6 = true then (if ¬ ((x1 >>> (s74.2.1 &&& 31)) &&& (1 : Int32)) = 0 then (some (.inl ((0 : Int32), (s74.2.1 + 1), (s74.2.2.1 + (mwe (s74.2.1).toNatClampNeg)), (s74.2.2.2 + (mwe (s74.2.1).toNatClampNeg))))) else (some (.inl ((1 : Int32), (s74.2.1 + 1), (s74.2.2.1 + (mwe (s74.2.1).toNatClampNeg)), (s74.2.2.2 + (mwe (s74.2.1).toNatClampNeg)))))) else none)) else none)))
def fX4_lay_40 (mwe : (Nat → Int32)) (t2 : Int32) (s40 : Int32 × Int32) : Option (Sum (Int32 × Int32) (Int32)) :=
  (if t2 ≤ s40.1 then (some (.inr s40.2)) else (if ix s40.1 6 = true then (some (.inl ((s40.1 + 1), (s40.2 + (mwe (s40.1).toNatClampNeg))))) else none))
def fX4_lay_2 (x1 : Int32) (s2 : Int32) : Option (Sum (Int32) (Int32)) :=
  (if s2 ≤ 0 then (some (.inr s2)) else (if ¬ ((x1 >>> ((s2 - (1 : Int32)) &&& 31)) &&& (1 : Int32)) = 0 then (some (.inr s2)) else (some (.inl (s2 + (-1))))))
def fX4_lay (x1 : Int32) (x2 : Int32) (mma : Int32) (mah : Int32) (mrs : Int32) (mab : Int32) (mwe : (Nat → Int32)) : Option (Int32 × Int32 × Int32) :=
  ((wh (fX4_lay_2 x1) FU x2).bind fun t2 => ((wh (fX4_lay_40 mwe t2) FU ((0 : Int32), (0 : Int32))).bind fun t40 => ((wh (fX4_lay_74 x1 x2 mma mwe) FU ((1 : Int32), t2, (0 : Int32), (0 : Int32))).bind fun t74 => (some (t74.1, t74.2, t40)))))
-- LandBoardModel.boxOf
def fX4_boxOf_40 (x2 : Int32) (r22 : Int32 × Int32 × (Nat → Int32) × (Nat → Int32)) (s40 : Int32) : Option (Sum (Int32) (Int32)) :=
  (if ix s40 6 = true then (if (r22.2.2.2 (s40).toNatClampNeg) = x2 then (some (.inr s40)) else (some (.inl (s40 + 1)))) else none)
def fX4_boxOf (x1 : Int32) (x2 : Int32) (mw : Int32) (mh : Int32) (mma : Int32) (mto : Int32) (mah : Int32) (mrs : Int32) (mab : Int32) (ce : (Nat → Int32)) (mwe : (Nat → Int32)) (mla : (Nat → Int32)) : Option (Int32 × Int32 × Int32 × Int32 × Int32 × Int32 × (Nat → Int32) × (Nat → Int32)) :=
  (if (fX4_isLand x2) = 0 then (some ((-1 : Int32), mma, mto, mah, mrs, mab, mwe, mla)) else ((fX4_sizeOf x2 mw mh ce).bind fun r9 => (if r9 = 0 then (some ((-1 : Int32), mma, mto, mah, mrs, mab, mwe, mla)) else (if 0 ≤ x1 then ((fX4_weigh mw mh mma mto ce mwe mla).bind fun r22 => (if (x1 >>> ((r22.1 - (1 : Int32)) &&& 31)) = 0 then ((wh (fX4_boxOf_40 x2 r22) FU (0 : Int32)).bind fun t40 => ((fX4_lay x1 t40 r22.1 mah mrs mab r22.2.2.1).bind fun r59 => (some (t40, r22.1, r22.2.1, r59.1, r59.2.1, r59.2.2, r22.2.2.1, r22.2.2.2)))) else (some ((-1 : Int32), r22.1, r22.2.1, mah, mrs, mab, r22.2.2.1, r22.2.2.2)))) else (some ((-1 : Int32), mma, mto, mah, mrs, mab, mwe, mla))))))
-- LandBoardModel.common
def fX4_common_4 (s4 : Int32 × Int32) : Option (Sum (Int32 × Int32) (Int32)) :=
  (if s4.2 = 0 then (some (.inr s4.1)) else (if s4.2 = 0 then none else (some (.inl (s4.2, (s4.1 - s4.1 / s4.2 * s4.2))))))
def fX4_common (x0 : Int32) (x1 : Int32) : Option (Int32) :=
  ((wh fX4_common_4 FU (x0, x1)).bind fun t4 => (some t4))
-- LandBoardModel.longUp
def fX4_longUp (x1 : Int32) (mto : Int32) (mrs : Int32) (mwe : (Nat → Int32)) : Option (Int32) :=
  (if ix x1 6 = true then (if ((mwe (x1).toNatClampNeg) * mto) ≤ (mrs * mrs) then ((fX4_common ((mwe (x1).toNatClampNeg) * mto) (mrs * mrs)).bind fun r34 => (if r34 = 0 then none else (some ((mrs * mrs) / r34)))) else ((fX4_common ((mwe (x1).toNatClampNeg) * mto) (mrs * mrs)).bind fun r34 => (if r34 = 0 then none else (some (((mwe (x1).toNatClampNeg) * mto) / r34))))) else none)
-- LandBoardModel.longDown
def fX4_longDown (x1 : Int32) (mto : Int32) (mrs : Int32) (mwe : (Nat → Int32)) : Option (Int32) :=
  (if ix x1 6 = true then (if ((mwe (x1).toNatClampNeg) * mto) ≤ (mrs * mrs) then ((fX4_common ((mwe (x1).toNatClampNeg) * mto) (mrs * mrs)).bind fun r34 => (if r34 = 0 then none else (some (((mwe (x1).toNatClampNeg) * mto) / r34)))) else ((fX4_common ((mwe (x1).toNatClampNeg) * mto) (mrs * mrs)).bind fun r34 => (if r34 = 0 then none else (some ((mrs * mrs) / r34))))) else none)
-- LandBoardModel.longer
def fX4_longer (x1 : Int32) (x2 : Int32) (x3 : Int32) (mw : Int32) (mh : Int32) (mma : Int32) (mto : Int32) (mah : Int32) (mrs : Int32) (mab : Int32) (ce : (Nat → Int32)) (mwe : (Nat → Int32)) (mla : (Nat → Int32)) : Option (Int32 × Int32 × Int32 × Int32 × Int32 × Int32 × (Nat → Int32) × (Nat → Int32)) :=
  (if (fX4_in x3 (0 : Int32) (1 : Int32)) = 0 then (some ((-1 : Int32), mma, mto, mah, mrs, mab, mwe, mla)) else ((fX4_boxOf x1 x2 mw mh mma mto mah mrs mab ce mwe mla).bind fun r12 => (if 0 ≤ r12.1 then (if ¬ x3 = 0 then ((fX4_longDown r12.1 r12.2.2.1 r12.2.2.2.2.1 r12.2.2.2.2.2.2.1).bind fun r46 => (some (r46, r12.2.1, r12.2.2.1, r12.2.2.2.1, r12.2.2.2.2.1, r12.2.2.2.2.2.1, r12.2.2.2.2.2.2.1, r12.2.2.2.2.2.2.2))) else ((fX4_longUp r12.1 r12.2.2.1 r12.2.2.2.2.1 r12.2.2.2.2.2.2.1).bind fun r37 => (some (r37, r12.2.1, r12.2.2.1, r12.2.2.2.1, r12.2.2.2.2.1, r12.2.2.2.2.2.1, r12.2.2.2.2.2.2.1, r12.2.2.2.2.2.2.2)))) else (some ((-1 : Int32), r12.2.1, r12.2.2.1, r12.2.2.2.1, r12.2.2.2.2.1, r12.2.2.2.2.2.1, r12.2.2.2.2.2.2.1, r12.2.2.2.2.2.2.2)))))
-- LandBoardModel.box
def fX4_box (x1 : Int32) (x2 : Int32) (x3 : Int32) (mw : Int32) (mh : Int32) (mma : Int32) (mto : Int32) (mah : Int32) (mrs : Int32) (mab : Int32) (ce : (Nat → Int32)) (mwe : (Nat → Int32)) (mla : (Nat → Int32)) : Option (Int32 × Int32 × Int32 × Int32 × Int32 × Int32 × (Nat → Int32) × (Nat → Int32)) :=
  (if (fX4_in x3 (0 : Int32) (3 : Int32)) = 0 then (some ((-1 : Int32), mma, mto, mah, mrs, mab, mwe, mla)) else ((fX4_boxOf x1 x2 mw mh mma mto mah mrs mab ce mwe mla).bind fun r12 => (if 0 ≤ r12.1 then (if x3 = (0 : Int32) then (if r12.2.2.2.2.1 = 0 then none else (some ((((1000 : Int32) * r12.2.2.2.1) / r12.2.2.2.2.1), r12.2.1, r12.2.2.1, r12.2.2.2.1, r12.2.2.2.2.1, r12.2.2.2.2.2.1, r12.2.2.2.2.2.2.1, r12.2.2.2.2.2.2.2))) else (if x3 = (1 : Int32) then (if r12.2.2.1 = 0 then none else (some ((((1000 : Int32) * r12.2.2.2.2.2.1) / r12.2.2.1), r12.2.1, r12.2.2.1, r12.2.2.2.1, r12.2.2.2.2.1, r12.2.2.2.2.2.1, r12.2.2.2.2.2.2.1, r12.2.2.2.2.2.2.2))) else (if x3 = (2 : Int32) then (if ix r12.1 6 = true then (if r12.2.2.2.2.1 = 0 then none else (some ((((1000 : Int32) * (r12.2.2.2.2.2.2.1 (r12.1).toNatClampNeg)) / r12.2.2.2.2.1), r12.2.1, r12.2.2.1, r12.2.2.2.1, r12.2.2.2.2.1, r12.2.2.2.2.2.1, r12.2.2.2.2.2.2.1, r12.2.2.2.2.2.2.2))) else none) else (if r12.2.2.1 = 0 then none else (some ((((1000 : Int32) * r12.2.2.2.2.1) / r12.2.2.1), r12.2.1, r12.2.2.1, r12.2.2.2.1, r12.2.2.2.2.1, r12.2.2.2.2.2.1, r12.2.2.2.2.2.2.1, r12.2.2.2.2.2.2.2)))))) else (some ((-1 : Int32), r12.2.1, r12.2.2.1, r12.2.2.2.1, r12.2.2.2.2.1, r12.2.2.2.2.2.1, r12.2.2.2.2.2.2.1, r12.2.2.2.2.2.2.2)))))
-- LandBoardModel.best
def fX4_best_45bb (r1 : Int32 × Int32 × (Nat → Int32) × (Nat → Int32)) (s23 : Int32 × Int32 × Int32 × Int32 × Int32 × Int32 × Int32) (s45 : Int32 × Int32 × Int32 × Int32 × Int32 × Int32) : Option (Sum (Int32 × Int32 × Int32 × Int32 × Int32 × Int32) (Int32 × Int32 × Int32 × Int32 × Int32)) :=
  (if r1.1 ≤ s45.2.2.1 then (some (.inr (s45.1, s45.2.1, s45.2.2.2.1, s45.2.2.2.2.1, s45.2.2.2.2.2))) else ((fX4_lay s23.2.2.2.1 s45.2.2.1 r1.1 s45.2.2.2.1 s45.2.2.2.2.1 s45.2.2.2.2.2 r1.2.2.1).bind fun r59 => ((fX4_longUp s45.2.2.1 r1.2.1 r59.2.1 r1.2.2.1).bind fun r65 => ((fX4_longDown s45.2.2.1 r1.2.1 r59.2.1 r1.2.2.1).bind fun r73 => (if (lg_cmp ((r65).toInt64 * (s45.2.1).toInt64) ((s45.1).toInt64 * (r73).toInt64)) ≤ 0 then (some (.inl (s45.1, s45.2.1, (s45.2.2.1 + 1), r59.1, r59.2.1, r59.2.2))) else (some (.inl (r65, r73, (s45.2.2.1 + 1), r59.1, r59.2.1, r59.2.2))))))))
def fX4_best_23 (r1 : Int32 × Int32 × (Nat → Int32) × (Nat → Int32)) (s23 : Int32 × Int32 × Int32 × Int32 × Int32 × Int32 × Int32) : Option (Sum (Int32 × Int32 × Int32 × Int32 × Int32 × Int32 × Int32) (Int32 × Int32 × Int32 × Int32)) :=
  (if ((1 : Int32) <<< ((r1.1 - (1 : Int32)) &&& 31)) ≤ s23.2.2.2.1 then (some (.inr (s23.1, s23.2.2.2.2.1, s23.2.2.2.2.2.1, s23.2.2.2.2.2.2))) else ((wh (fX4_best_45bb r1 s23) FU ((0 : Int32), (1 : Int32), (0 : Int32), s23.2.2.2.2.1, s23.2.2.2.2.2.1, s23.2.2.2.2.2.2)).bind fun t45 => (if s23.1 < 0 then (some (.inl (s23.2.2.2.1, t45.1, t45.2.1, (s23.2.2.2.1 + 1), t45.2.2.1, t45.2.2.2.1, t45.2.2.2.2))) else (if 0 ≤ (lg_cmp ((t45.1).toInt64 * (s23.2.2.1).toInt64) ((s23.2.1).toInt64 * (t45.2.1).toInt64)) then (some (.inl (s23.1, s23.2.1, s23.2.2.1, (s23.2.2.2.1 + 1), t45.2.2.1, t45.2.2.2.1, t45.2.2.2.2))) else (some (.inl (s23.2.2.2.1, t45.1, t45.2.1, (s23.2.2.2.1 + 1), t45.2.2.1, t45.2.2.2.1, t45.2.2.2.2)))))))
def fX4_best (mw : Int32) (mh : Int32) (mma : Int32) (mto : Int32) (mah : Int32) (mrs : Int32) (mab : Int32) (ce : (Nat → Int32)) (mwe : (Nat → Int32)) (mla : (Nat → Int32)) : Option (Int32 × Int32 × Int32 × Int32 × Int32 × Int32 × (Nat → Int32) × (Nat → Int32)) :=
  ((fX4_weigh mw mh mma mto ce mwe mla).bind fun r1 => (if ¬ r1.1 = 0 then ((wh (fX4_best_23 r1) FU ((-1 : Int32), (0 : Int32), (1 : Int32), (0 : Int32), mah, mrs, mab)).bind fun t23 => (some (t23.1, r1.1, r1.2.1, t23.2.1, t23.2.2.1, t23.2.2.2, r1.2.2.1, r1.2.2.2))) else (some ((-9 : Int32), r1.1, r1.2.1, mah, mrs, mab, r1.2.2.1, r1.2.2.2))))
-- LandBoardModel.isYear
def fX4_isYear (x0 : Int32) : Int32 :=
  (fX4_in x0 (0 : Int32) (3 : Int32))
-- LandBoardModel.landCells
def fX4_landCells (mw : Int32) (mh : Int32) (ce : (Nat → Int32)) : Option (Int32) :=
  ((fX4_sizeOf (-4 : Int32) mw mh ce).bind fun r12 => (some ((mw * mh) - r12)))
-- LandBoardModel.keep
def fX4_keep_38 (x1 : Int32) (mw : Int32) (mh : Int32) (ce : (Nat → Int32)) (s38 : Int32 × (Nat → Int32)) : Option (Sum (Int32 × (Nat → Int32)) ((Nat → Int32))) :=
  (if (mw * mh) ≤ s38.1 then (some (.inr s38.2)) else (if ix s38.1 64 = true then (if ix (((64 : Int32) * x1) + s38.1) 256 = true then (some (.inl ((s38.1 + 1), (upd s38.2 ((((64 : Int32) * x1) + s38.1)).toNatClampNeg (ce (s38.1).toNatClampNeg))))) else none) else none))
def fX4_keep (x1 : Int32) (mw : Int32) (mh : Int32) (ce : (Nat → Int32)) (mhy : (Nat → Int32)) (myw : (Nat → Int32)) (myh : (Nat → Int32)) (myr : (Nat → Int32)) : Option (Int32 × (Nat → Int32) × (Nat → Int32) × (Nat → Int32) × (Nat → Int32)) :=
  (if ¬ (fX4_isYear x1) = 0 then (if ix x1 4 = true then (if ix x1 4 = true then (if ix x1 4 = true then ((wh (fX4_keep_38 x1 mw mh ce) FU ((0 : Int32), myr)).bind fun t38 => ((fX4_landCells mw mh ce).bind fun r75 => (some (r75, (upd mhy (x1).toNatClampNeg (1 : Int32)), (upd myw (x1).toNatClampNeg mw), (upd myh (x1).toNatClampNeg mh), t38)))) else none) else none) else none) else (some ((-1 : Int32), mhy, myw, myh, myr)))
-- LandBoardModel.back
def fX4_back_43 (x1 : Int32) (myw : (Nat → Int32)) (myh : (Nat → Int32)) (myr : (Nat → Int32)) (s43 : Int32 × (Nat → Int32)) : Option (Sum (Int32 × (Nat → Int32)) ((Nat → Int32))) :=
  (if ((myw (x1).toNatClampNeg) * (myh (x1).toNatClampNeg)) ≤ s43.1 then (some (.inr s43.2)) else (if ix (((64 : Int32) * x1) + s43.1) 256 = true then (if ix s43.1 64 = true then (some (.inl ((s43.1 + 1), (upd s43.2 (s43.1).toNatClampNeg (myr ((((64 : Int32) * x1) + s43.1)).toNatClampNeg))))) else none) else none))
def fX4_back (x1 : Int32) (mw : Int32) (mh : Int32) (mke : Int32) (ce : (Nat → Int32)) (mk : (Nat → Int32)) (mo : (Nat → Int32)) (mhy : (Nat → Int32)) (myw : (Nat → Int32)) (myh : (Nat → Int32)) (myr : (Nat → Int32)) : Option (Int32 × Int32 × Int32 × Int32 × (Nat → Int32) × (Nat → Int32) × (Nat → Int32)) :=
  (if ¬ (fX4_isYear x1) = 0 then (if ix x1 4 = true then (if ¬ (mhy (x1).toNatClampNeg) = 0 then (if ix x1 4 = true then (if ix x1 4 = true then ((wh (fX4_back_43 x1 myw myh myr) FU ((0 : Int32), ce)).bind fun t43 => ((fX4_plain mke mk mo).bind fun r80 => ((fX4_landCells (myw (x1).toNatClampNeg) (myh (x1).toNatClampNeg) t43).bind fun r84 => (some (r84, (myw (x1).toNatClampNeg), (myh (x1).toNatClampNeg), r80.1, t43, r80.2.1, r80.2.2))))) else none) else none) else (some ((-2 : Int32), mw, mh, mke, ce, mk, mo))) else none) else (some ((-1 : Int32), mw, mh, mke, ce, mk, mo)))
-- LandBoardModel.moved
def fX4_moved_72 (x1 : Int32) (x2 : Int32) (myw : (Nat → Int32)) (myh : (Nat → Int32)) (myr : (Nat → Int32)) (s72 : Int32 × Int32) : Option (Sum (Int32 × Int32) (Int32)) :=
  (if ix x1 4 = true then (if ix x1 4 = true then (if ((myw (x1).toNatClampNeg) * (myh (x1).toNatClampNeg)) ≤ s72.2 then (some (.inr s72.1)) else (if ix (((64 : Int32) * x1) + s72.2) 256 = true then (if ix (((64 : Int32) * x2) + s72.2) 256 = true then (if (myr ((((64 : Int32) * x1) + s72.2)).toNatClampNeg) = (myr ((((64 : Int32) * x2) + s72.2)).toNatClampNeg) then (some (.inl ((s72.1 + (0 : Int32)), (s72.2 + 1)))) else (some (.inl ((s72.1 + (1 : Int32)), (s72.2 + 1))))) else none) else none)) else none) else none)
def fX4_moved (x1 : Int32) (x2 : Int32) (mhy : (Nat → Int32)) (myw : (Nat → Int32)) (myh : (Nat → Int32)) (myr : (Nat → Int32)) : Option (Int32) :=
  (if (fX4_isYear x1) = 0 then (some (-1 : Int32)) else (if ¬ (fX4_isYear x2) = 0 then (if ix x1 4 = true then (if (mhy (x1).toNatClampNeg) = 0 then (some (-9 : Int32)) else (if ix x2 4 = true then (if (mhy (x2).toNatClampNeg) = 0 then (some (-9 : Int32)) else (if ix x1 4 = true then (if ix x2 4 = true then (if ¬ (myw (x1).toNatClampNeg) = (myw (x2).toNatClampNeg) then (some (-9 : Int32)) else (if ix x1 4 = true then (if ix x2 4 = true then (if (myh (x1).toNatClampNeg) = (myh (x2).toNatClampNeg) then ((wh (fX4_moved_72 x1 x2 myw myh myr) FU ((0 : Int32), (0 : Int32))).bind fun t72 => (some t72)) else (some (-9 : Int32))) else none) else none)) else none) else none)) else none)) else none) else (some (-1 : Int32))))
-- LandBoardModel.count
def fX4_count_48 (mw : Int32) (mh : Int32) (ce : (Nat → Int32)) (s48 : Int32 × Int32) : Option (Sum (Int32 × Int32) (Int32)) :=
  (if (6 : Int32) ≤ s48.2 then (some (.inr s48.1)) else ((fX4_sizeOf s48.2 mw mh ce).bind fun r57 => (if r57 ≤ 0 then (some (.inl ((s48.1 + (0 : Int32)), (s48.2 + 1)))) else (some (.inl ((s48.1 + (1 : Int32)), (s48.2 + 1)))))))
def fX4_count (x1 : Int32) (mw : Int32) (mh : Int32) (mke : Int32) (mdo : Int32) (ce : (Nat → Int32)) : Option (Int32) :=
  (if x1 = (0 : Int32) then (some mw) else (if x1 = (1 : Int32) then (some mh) else (if x1 = (2 : Int32) then ((wh (fX4_count_48 mw mh ce) FU ((0 : Int32), (0 : Int32))).bind fun t48 => (some t48)) else (if x1 = (3 : Int32) then (some mke) else (if x1 = (4 : Int32) then (some mdo) else (some (-1 : Int32)))))))
-- LandBoardModel.trace
def fX4_trace (mtr : Int64) : Int64 :=
  mtr
-- LandBoard$Grid.copy
def fX0_copy_34 (gl2 : (Nat → Int64)) (s34 : Int32 × (Nat → Int64)) : Option (Sum (Int32 × (Nat → Int64)) ((Nat → Int64))) :=
  (if (6 : Int32) ≤ s34.1 then (some (.inr s34.2)) else (if ix s34.1 6 = true then (if ix s34.1 6 = true then (some (.inl ((s34.1 + 1), (vp_updL s34.2 (s34.1).toNatClampNeg (gl2 (s34.1).toNatClampNeg))))) else none) else none))
def fX0_copy (gw : Int32) (gh : Int32) (al : Int64) (ed : Int64) (gl : (Nat → Int64)) (gw2 : Int32) (gh2 : Int32) (al2 : Int64) (ed2 : Int64) (gl2 : (Nat → Int64)) : Option (Int32 × Int32 × Int64 × Int64 × (Nat → Int64)) :=
  ((wh (fX0_copy_34 gl2) FU ((0 : Int32), gl)).bind fun t34 => (some (gw2, gh2, al2, ed2, t34)))
-- LandBoard$Grid.landCells
def fX0_landCells (gl : (Nat → Int64)) : Option (Int32) :=
  ((fX0_peopledCells gl).bind fun r1 => (some (fJ13_bitCount_95d88 r1)))
-- LandBoard$Grid.isAsLargeAs
def fX0_isAsLargeAs (gw : Int32) (gh : Int32) (gw2 : Int32) (gh2 : Int32) : Int32 :=
  (if ¬ gw = gw2 then (0 : Int32) else (if ¬ gh = gh2 then (0 : Int32) else (1 : Int32)))
-- LandBoard$Grid.unlike
def fX0_unlike_5 (gl : (Nat → Int64)) (gl2 : (Nat → Int64)) (s5 : Int64 × Int32) : Option (Sum (Int64 × Int32) (Int64)) :=
  (if (6 : Int32) ≤ s5.2 then (some (.inr s5.1)) else (if ix s5.2 6 = true then (if ix s5.2 6 = true then (lt (s5.1 ||| ((gl (s5.2).toNatClampNeg) ^^^ (gl2 (s5.2).toNatClampNeg))) fun v29 => (some (.inl (v29, (s5.2 + 1))))) else none) else none))
def fX0_unlike (gl : (Nat → Int64)) (gl2 : (Nat → Int64)) : Option (Int32) :=
  ((wh (fX0_unlike_5 gl gl2) FU ((0 : Int64), (0 : Int32))).bind fun t5 => (some (fJ13_bitCount_95d88 t5)))
end
