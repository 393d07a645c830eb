theorem inlX0 : ∀ w ∈ wsX00, w ∈ wsL_law := fun _ h => List.mem_append_left _ (List.mem_append_left _ (List.mem_append_left _ (List.mem_append_right _ h)))
theorem inX0 : ∀ w ∈ wsX00, w ∈ lw_tbl := fun w h => wsL_law_in w (inlX0 w h)
theorem inlX1 : ∀ w ∈ wsX10, w ∈ wsL_law := fun _ h => List.mem_append_left _ (List.mem_append_left _ (List.mem_append_right _ h))
theorem inX1 : ∀ w ∈ wsX10, w ∈ lw_tbl := fun w h => wsL_law_in w (inlX1 w h)
theorem inlX2 : ∀ w ∈ wsX20, w ∈ wsL_law := fun _ h => List.mem_append_left _ (List.mem_append_right _ h)
theorem inX2 : ∀ w ∈ wsX20, w ∈ lw_tbl := fun w h => wsL_law_in w (inlX2 w h)
theorem inlX3 : ∀ w ∈ wsX30, w ∈ wsL_law := fun _ h => List.mem_append_left _ (List.mem_append_left _ (List.mem_append_left _ (List.mem_append_left _ (List.mem_append_left _ (List.mem_append_right _ h)))))
theorem inX3 : ∀ w ∈ wsX30, w ∈ lw_tbl := fun w h => wsL_law_in w (inlX3 w h)
theorem inlX4 : ∀ w ∈ wsX40, w ∈ wsL_law := fun _ h => List.mem_append_left _ (List.mem_append_left _ (List.mem_append_left _ (List.mem_append_left _ (List.mem_append_right _ h))))
theorem inX4 : ∀ w ∈ wsX40, w ∈ lw_tbl := fun w h => wsL_law_in w (inlX4 w h)
theorem inJ13 : ∀ w ∈ wsJ130, w ∈ lw_tbl := by decide +kernel
theorem inJ9 : ∀ w ∈ wsJ90, w ∈ lw_tbl := by decide +kernel
theorem dX0_init_0 : decode cX0_init 0 = .ok (.aload_n 0, 1) := by decide +kernel
theorem dX0_init_1 : decode cX0_init 1 = .ok (.invokespecial 3, 3) := by decide +kernel
theorem dX0_init_4 : decode cX0_init 4 = .ok (.aload_n 0, 1) := by decide +kernel
theorem dX0_init_5 : decode cX0_init 5 = .ok (.bipush 6, 2) := by decide +kernel
theorem dX0_init_7 : decode cX0_init 7 = .ok (.newarray .long, 2) := by decide +kernel
theorem dX0_init_9 : decode cX0_init 9 = .ok (.putfield 9, 3) := by decide +kernel
theorem dX0_init_12 : decode cX0_init 12 = .ok (.return_, 1) := by decide +kernel
theorem dX0_clear_0 : decode cX0_clear 0 = .ok (.aload_n 0, 1) := by decide +kernel
theorem dX0_clear_1 : decode cX0_clear 1 = .ok (.iload_n 1, 1) := by decide +kernel
theorem dX0_clear_2 : decode cX0_clear 2 = .ok (.putfield 15, 3) := by decide +kernel
theorem dX0_clear_5 : decode cX0_clear 5 = .ok (.aload_n 0, 1) := by decide +kernel
theorem dX0_clear_6 : decode cX0_clear 6 = .ok (.iload_n 2, 1) := by decide +kernel
theorem dX0_clear_7 : decode cX0_clear 7 = .ok (.putfield 19, 3) := by decide +kernel
theorem dX0_clear_10 : decode cX0_clear 10 = .ok (.iconst 0, 1) := by decide +kernel
theorem dX0_clear_11 : decode cX0_clear 11 = .ok (.istore_n 3, 1) := by decide +kernel
theorem dX0_clear_12 : decode cX0_clear 12 = .ok (.iload_n 3, 1) := by decide +kernel
theorem dX0_clear_13 : decode cX0_clear 13 = .ok (.bipush 6, 2) := by decide +kernel
theorem dX0_clear_15 : decode cX0_clear 15 = .ok (.if_icmp .ge 16, 3) := by decide +kernel
theorem dX0_clear_18 : decode cX0_clear 18 = .ok (.aload_n 0, 1) := by decide +kernel
theorem dX0_clear_19 : decode cX0_clear 19 = .ok (.getfield 9, 3) := by decide +kernel
theorem dX0_clear_22 : decode cX0_clear 22 = .ok (.iload_n 3, 1) := by decide +kernel
theorem dX0_clear_23 : decode cX0_clear 23 = .ok (.lconst 0, 1) := by decide +kernel
theorem dX0_clear_24 : decode cX0_clear 24 = .ok (.lastore, 1) := by decide +kernel
theorem dX0_clear_25 : decode cX0_clear 25 = .ok (.iinc 3 1, 3) := by decide +kernel
theorem dX0_clear_28 : decode cX0_clear 28 = .ok (.goto (-16), 3) := by decide +kernel
theorem dX0_clear_31 : decode cX0_clear 31 = .ok (.return_, 1) := by decide +kernel
theorem dX0_copy_0 : decode cX0_copy 0 = .ok (.aload_n 0, 1) := by decide +kernel
theorem dX0_copy_1 : decode cX0_copy 1 = .ok (.aload_n 1, 1) := by decide +kernel
theorem dX0_copy_2 : decode cX0_copy 2 = .ok (.getfield 15, 3) := by decide +kernel
theorem dX0_copy_5 : decode cX0_copy 5 = .ok (.putfield 15, 3) := by decide +kernel
theorem dX0_copy_8 : decode cX0_copy 8 = .ok (.aload_n 0, 1) := by decide +kernel
theorem dX0_copy_9 : decode cX0_copy 9 = .ok (.aload_n 1, 1) := by decide +kernel
theorem dX0_copy_10 : decode cX0_copy 10 = .ok (.getfield 19, 3) := by decide +kernel
theorem dX0_copy_13 : decode cX0_copy 13 = .ok (.putfield 19, 3) := by decide +kernel
theorem dX0_copy_16 : decode cX0_copy 16 = .ok (.iconst 0, 1) := by decide +kernel
theorem dX0_copy_17 : decode cX0_copy 17 = .ok (.istore_n 2, 1) := by decide +kernel
theorem dX0_copy_18 : decode cX0_copy 18 = .ok (.iload_n 2, 1) := by decide +kernel
theorem dX0_copy_19 : decode cX0_copy 19 = .ok (.bipush 6, 2) := by decide +kernel
theorem dX0_copy_21 : decode cX0_copy 21 = .ok (.if_icmp .ge 21, 3) := by decide +kernel
theorem dX0_copy_24 : decode cX0_copy 24 = .ok (.aload_n 0, 1) := by decide +kernel
theorem dX0_copy_25 : decode cX0_copy 25 = .ok (.getfield 9, 3) := by decide +kernel
theorem dX0_copy_28 : decode cX0_copy 28 = .ok (.iload_n 2, 1) := by decide +kernel
theorem dX0_copy_29 : decode cX0_copy 29 = .ok (.aload_n 1, 1) := by decide +kernel
theorem dX0_copy_30 : decode cX0_copy 30 = .ok (.getfield 9, 3) := by decide +kernel
theorem dX0_copy_33 : decode cX0_copy 33 = .ok (.iload_n 2, 1) := by decide +kernel
theorem dX0_copy_34 : decode cX0_copy 34 = .ok (.laload, 1) := by decide +kernel
theorem dX0_copy_35 : decode cX0_copy 35 = .ok (.lastore, 1) := by decide +kernel
theorem dX0_copy_36 : decode cX0_copy 36 = .ok (.iinc 2 1, 3) := by decide +kernel
theorem dX0_copy_39 : decode cX0_copy 39 = .ok (.goto (-21), 3) := by decide +kernel
theorem dX0_copy_42 : decode cX0_copy 42 = .ok (.return_, 1) := by decide +kernel
theorem dX0_has_0 : decode cX0_has 0 = .ok (.iload_n 1, 1) := by decide +kernel
theorem dX0_has_1 : decode cX0_has 1 = .ok (.ifCond .lt 27, 3) := by decide +kernel
theorem dX0_has_4 : decode cX0_has 4 = .ok (.iload_n 1, 1) := by decide +kernel
theorem dX0_has_5 : decode cX0_has 5 = .ok (.aload_n 0, 1) := by decide +kernel
theorem dX0_has_6 : decode cX0_has 6 = .ok (.getfield 15, 3) := by decide +kernel
theorem dX0_has_9 : decode cX0_has 9 = .ok (.if_icmp .ge 19, 3) := by decide +kernel
theorem dX0_has_12 : decode cX0_has 12 = .ok (.iload_n 2, 1) := by decide +kernel
theorem dX0_has_13 : decode cX0_has 13 = .ok (.ifCond .lt 15, 3) := by decide +kernel
theorem dX0_has_16 : decode cX0_has 16 = .ok (.iload_n 2, 1) := by decide +kernel
theorem dX0_has_17 : decode cX0_has 17 = .ok (.aload_n 0, 1) := by decide +kernel
theorem dX0_has_18 : decode cX0_has 18 = .ok (.getfield 19, 3) := by decide +kernel
theorem dX0_has_21 : decode cX0_has 21 = .ok (.if_icmp .ge 7, 3) := by decide +kernel
theorem dX0_has_24 : decode cX0_has 24 = .ok (.iconst 1, 1) := by decide +kernel
theorem dX0_has_25 : decode cX0_has 25 = .ok (.goto 4, 3) := by decide +kernel
theorem dX0_has_28 : decode cX0_has 28 = .ok (.iconst 0, 1) := by decide +kernel
theorem dX0_has_29 : decode cX0_has 29 = .ok (.ireturn, 1) := by decide +kernel
set_option maxRecDepth 20000 in
theorem ggX0_landOf_X3_bit : GoodIn wsX0_landOf wsX3_bit := goodIn_r _ [4] (by decide +kernel) (by decide +kernel)
set_option maxRecDepth 20000 in
theorem gX0_landOf_X3_bit_n22 : GoodIn wsX0_landOf (wsX3_bit) := ggX0_landOf_X3_bit
theorem dX0_landOf_0 : decode cX0_landOf 0 = .ok (.iconst 0, 1) := by decide +kernel
theorem dX0_landOf_1 : decode cX0_landOf 1 = .ok (.istore_n 2, 1) := by decide +kernel
theorem dX0_landOf_2 : decode cX0_landOf 2 = .ok (.iload_n 2, 1) := by decide +kernel
theorem dX0_landOf_3 : decode cX0_landOf 3 = .ok (.bipush 6, 2) := by decide +kernel
theorem dX0_landOf_5 : decode cX0_landOf 5 = .ok (.if_icmp .ge 27, 3) := by decide +kernel
theorem dX0_landOf_8 : decode cX0_landOf 8 = .ok (.aload_n 0, 1) := by decide +kernel
theorem dX0_landOf_9 : decode cX0_landOf 9 = .ok (.getfield 9, 3) := by decide +kernel
theorem dX0_landOf_12 : decode cX0_landOf 12 = .ok (.iload_n 2, 1) := by decide +kernel
theorem dX0_landOf_13 : decode cX0_landOf 13 = .ok (.laload, 1) := by decide +kernel
theorem dX0_landOf_14 : decode cX0_landOf 14 = .ok (.iload_n 1, 1) := by decide +kernel
theorem dX0_landOf_15 : decode cX0_landOf 15 = .ok (.invokestatic 22, 3) := by decide +kernel
theorem dX0_landOf_18 : decode cX0_landOf 18 = .ok (.land, 1) := by decide +kernel
theorem dX0_landOf_19 : decode cX0_landOf 19 = .ok (.lconst 0, 1) := by decide +kernel
theorem dX0_landOf_20 : decode cX0_landOf 20 = .ok (.lcmp, 1) := by decide +kernel
theorem dX0_landOf_21 : decode cX0_landOf 21 = .ok (.ifCond .eq 5, 3) := by decide +kernel
theorem dX0_landOf_24 : decode cX0_landOf 24 = .ok (.iload_n 2, 1) := by decide +kernel
theorem dX0_landOf_25 : decode cX0_landOf 25 = .ok (.ireturn, 1) := by decide +kernel
theorem dX0_landOf_26 : decode cX0_landOf 26 = .ok (.iinc 2 1, 3) := by decide +kernel
theorem dX0_landOf_29 : decode cX0_landOf 29 = .ok (.goto (-27), 3) := by decide +kernel
theorem dX0_landOf_32 : decode cX0_landOf 32 = .ok (.bipush (-4), 2) := by decide +kernel
theorem dX0_landOf_34 : decode cX0_landOf 34 = .ok (.ireturn, 1) := by decide +kernel
set_option maxRecDepth 20000 in
theorem ggX0_put_X3_bit : GoodIn wsX0_put wsX3_bit := goodIn_r _ [5] (by decide +kernel) (by decide +kernel)
set_option maxRecDepth 20000 in
theorem gX0_put_X3_bit_n22 : GoodIn wsX0_put (wsX3_bit) := ggX0_put_X3_bit
theorem dX0_put_0 : decode cX0_put 0 = .ok (.iconst 0, 1) := by decide +kernel
theorem dX0_put_1 : decode cX0_put 1 = .ok (.istore_n 3, 1) := by decide +kernel
theorem dX0_put_2 : decode cX0_put 2 = .ok (.iload_n 3, 1) := by decide +kernel
theorem dX0_put_3 : decode cX0_put 3 = .ok (.bipush 6, 2) := by decide +kernel
theorem dX0_put_5 : decode cX0_put 5 = .ok (.if_icmp .ge 44, 3) := by decide +kernel
theorem dX0_put_8 : decode cX0_put 8 = .ok (.aload_n 0, 1) := by decide +kernel
theorem dX0_put_9 : decode cX0_put 9 = .ok (.getfield 9, 3) := by decide +kernel
theorem dX0_put_12 : decode cX0_put 12 = .ok (.iload_n 3, 1) := by decide +kernel
theorem dX0_put_13 : decode cX0_put 13 = .ok (.dup2, 1) := by decide +kernel
theorem dX0_put_14 : decode cX0_put 14 = .ok (.laload, 1) := by decide +kernel
theorem dX0_put_15 : decode cX0_put 15 = .ok (.iload_n 1, 1) := by decide +kernel
theorem dX0_put_16 : decode cX0_put 16 = .ok (.invokestatic 22, 3) := by decide +kernel
theorem dX0_put_19 : decode cX0_put 19 = .ok (.ldc2_w 26, 3) := by decide +kernel
theorem dX0_put_22 : decode cX0_put 22 = .ok (.lxor, 1) := by decide +kernel
theorem dX0_put_23 : decode cX0_put 23 = .ok (.land, 1) := by decide +kernel
theorem dX0_put_24 : decode cX0_put 24 = .ok (.lastore, 1) := by decide +kernel
theorem dX0_put_25 : decode cX0_put 25 = .ok (.iload_n 3, 1) := by decide +kernel
theorem dX0_put_26 : decode cX0_put 26 = .ok (.iload_n 2, 1) := by decide +kernel
theorem dX0_put_27 : decode cX0_put 27 = .ok (.if_icmp .ne 16, 3) := by decide +kernel
theorem dX0_put_30 : decode cX0_put 30 = .ok (.aload_n 0, 1) := by decide +kernel
theorem dX0_put_31 : decode cX0_put 31 = .ok (.getfield 9, 3) := by decide +kernel
theorem dX0_put_34 : decode cX0_put 34 = .ok (.iload_n 3, 1) := by decide +kernel
theorem dX0_put_35 : decode cX0_put 35 = .ok (.dup2, 1) := by decide +kernel
theorem dX0_put_36 : decode cX0_put 36 = .ok (.laload, 1) := by decide +kernel
theorem dX0_put_37 : decode cX0_put 37 = .ok (.iload_n 1, 1) := by decide +kernel
theorem dX0_put_38 : decode cX0_put 38 = .ok (.invokestatic 22, 3) := by decide +kernel
theorem dX0_put_41 : decode cX0_put 41 = .ok (.lor, 1) := by decide +kernel
theorem dX0_put_42 : decode cX0_put 42 = .ok (.lastore, 1) := by decide +kernel
theorem dX0_put_43 : decode cX0_put 43 = .ok (.iinc 3 1, 3) := by decide +kernel
theorem dX0_put_46 : decode cX0_put 46 = .ok (.goto (-44), 3) := by decide +kernel
theorem dX0_put_49 : decode cX0_put 49 = .ok (.return_, 1) := by decide +kernel
set_option maxRecDepth 20000 in
theorem ggX0_cellsOf_X3_isLand : GoodIn wsX0_cellsOf wsX3_isLand := goodIn_r _ [4] (by decide +kernel) (by decide +kernel)
set_option maxRecDepth 20000 in
theorem gX0_cellsOf_X3_isLand_n28 : GoodIn wsX0_cellsOf (wsX3_isLand) := ggX0_cellsOf_X3_isLand
theorem dX0_cellsOf_0 : decode cX0_cellsOf 0 = .ok (.iload_n 1, 1) := by decide +kernel
theorem dX0_cellsOf_1 : decode cX0_cellsOf 1 = .ok (.invokestatic 28, 3) := by decide +kernel
theorem dX0_cellsOf_4 : decode cX0_cellsOf 4 = .ok (.ifCond .eq 12, 3) := by decide +kernel
theorem dX0_cellsOf_7 : decode cX0_cellsOf 7 = .ok (.aload_n 0, 1) := by decide +kernel
theorem dX0_cellsOf_8 : decode cX0_cellsOf 8 = .ok (.getfield 9, 3) := by decide +kernel
theorem dX0_cellsOf_11 : decode cX0_cellsOf 11 = .ok (.iload_n 1, 1) := by decide +kernel
theorem dX0_cellsOf_12 : decode cX0_cellsOf 12 = .ok (.laload, 1) := by decide +kernel
theorem dX0_cellsOf_13 : decode cX0_cellsOf 13 = .ok (.goto 4, 3) := by decide +kernel
theorem dX0_cellsOf_16 : decode cX0_cellsOf 16 = .ok (.lconst 0, 1) := by decide +kernel
theorem dX0_cellsOf_17 : decode cX0_cellsOf 17 = .ok (.lreturn, 1) := by decide +kernel
set_option maxRecDepth 20000 in
theorem ggX0_sizeOf_X0_cellsOf : GoodIn wsX0_sizeOf wsX0_cellsOf := goodIn_r _ [5, 6, 7, 8, 9, 17, 18, 19] (by decide +kernel) (by decide +kernel)
set_option maxRecDepth 20000 in
theorem gX0_sizeOf_X0_cellsOf : GoodIn wsX0_sizeOf (wsV RX0 32 RX0 yX0_cellsOf wsX0_cellsOf) := goodIn_app (goodIn_of _ (by decide +kernel)) ggX0_sizeOf_X0_cellsOf
set_option maxRecDepth 20000 in
theorem ggX0_sizeOf_J13_bitCount_95d88 : GoodIn wsX0_sizeOf wsJ13_bitCount_95d88 := goodIn_r _ [13, 14, 15, 16] (by decide +kernel) (by decide +kernel)
set_option maxRecDepth 20000 in
theorem gX0_sizeOf_J13_bitCount_95d88 : GoodIn wsX0_sizeOf (va_wsS RX0 35 yJ13_bitCount_95d88 wsJ13_bitCount_95d88) := goodIn_app (goodIn_of _ (by decide +kernel)) ggX0_sizeOf_J13_bitCount_95d88
theorem dX0_sizeOf_0 : decode cX0_sizeOf 0 = .ok (.aload_n 0, 1) := by decide +kernel
theorem dX0_sizeOf_1 : decode cX0_sizeOf 1 = .ok (.iload_n 1, 1) := by decide +kernel
theorem dX0_sizeOf_2 : decode cX0_sizeOf 2 = .ok (.invokevirtual 32, 3) := by decide +kernel
theorem dX0_sizeOf_5 : decode cX0_sizeOf 5 = .ok (.invokestatic 35, 3) := by decide +kernel
theorem dX0_sizeOf_8 : decode cX0_sizeOf 8 = .ok (.ireturn, 1) := by decide +kernel
theorem dX0_peopledCells_0 : decode cX0_peopledCells 0 = .ok (.lconst 0, 1) := by decide +kernel
theorem dX0_peopledCells_1 : decode cX0_peopledCells 1 = .ok (.lstore_n 1, 1) := by decide +kernel
theorem dX0_peopledCells_2 : decode cX0_peopledCells 2 = .ok (.iconst 0, 1) := by decide +kernel
theorem dX0_peopledCells_3 : decode cX0_peopledCells 3 = .ok (.istore_n 3, 1) := by decide +kernel
theorem dX0_peopledCells_4 : decode cX0_peopledCells 4 = .ok (.iload_n 3, 1) := by decide +kernel
theorem dX0_peopledCells_5 : decode cX0_peopledCells 5 = .ok (.bipush 6, 2) := by decide +kernel
theorem dX0_peopledCells_7 : decode cX0_peopledCells 7 = .ok (.if_icmp .ge 18, 3) := by decide +kernel
theorem dX0_peopledCells_10 : decode cX0_peopledCells 10 = .ok (.lload_n 1, 1) := by decide +kernel
theorem dX0_peopledCells_11 : decode cX0_peopledCells 11 = .ok (.aload_n 0, 1) := by decide +kernel
theorem dX0_peopledCells_12 : decode cX0_peopledCells 12 = .ok (.getfield 9, 3) := by decide +kernel
theorem dX0_peopledCells_15 : decode cX0_peopledCells 15 = .ok (.iload_n 3, 1) := by decide +kernel
theorem dX0_peopledCells_16 : decode cX0_peopledCells 16 = .ok (.laload, 1) := by decide +kernel
theorem dX0_peopledCells_17 : decode cX0_peopledCells 17 = .ok (.lor, 1) := by decide +kernel
theorem dX0_peopledCells_18 : decode cX0_peopledCells 18 = .ok (.lstore_n 1, 1) := by decide +kernel
theorem dX0_peopledCells_19 : decode cX0_peopledCells 19 = .ok (.iinc 3 1, 3) := by decide +kernel
theorem dX0_peopledCells_22 : decode cX0_peopledCells 22 = .ok (.goto (-18), 3) := by decide +kernel
theorem dX0_peopledCells_25 : decode cX0_peopledCells 25 = .ok (.lload_n 1, 1) := by decide +kernel
theorem dX0_peopledCells_26 : decode cX0_peopledCells 26 = .ok (.lreturn, 1) := by decide +kernel
set_option maxRecDepth 20000 in
theorem ggX0_landCells_X0_peopledCells : GoodIn wsX0_landCells wsX0_peopledCells := goodIn_r _ [5, 6, 14, 15, 16] (by decide +kernel) (by decide +kernel)
set_option maxRecDepth 20000 in
theorem gX0_landCells_X0_peopledCells : GoodIn wsX0_landCells (wsV RX0 41 RX0 yX0_peopledCells wsX0_peopledCells) := goodIn_app (goodIn_of _ (by decide +kernel)) ggX0_landCells_X0_peopledCells
set_option maxRecDepth 20000 in
theorem ggX0_landCells_J13_bitCount_95d88 : GoodIn wsX0_landCells wsJ13_bitCount_95d88 := goodIn_r _ [10, 11, 12, 13] (by decide +kernel) (by decide +kernel)
set_option maxRecDepth 20000 in
theorem gX0_landCells_J13_bitCount_95d88 : GoodIn wsX0_landCells (va_wsS RX0 35 yJ13_bitCount_95d88 wsJ13_bitCount_95d88) := goodIn_app (goodIn_of _ (by decide +kernel)) ggX0_landCells_J13_bitCount_95d88
theorem dX0_landCells_0 : decode cX0_landCells 0 = .ok (.aload_n 0, 1) := by decide +kernel
theorem dX0_landCells_1 : decode cX0_landCells 1 = .ok (.invokevirtual 41, 3) := by decide +kernel
theorem dX0_landCells_4 : decode cX0_landCells 4 = .ok (.invokestatic 35, 3) := by decide +kernel
theorem dX0_landCells_7 : decode cX0_landCells 7 = .ok (.ireturn, 1) := by decide +kernel
theorem dX0_peopled_0 : decode cX0_peopled 0 = .ok (.iconst 0, 1) := by decide +kernel
theorem dX0_peopled_1 : decode cX0_peopled 1 = .ok (.istore_n 1, 1) := by decide +kernel
theorem dX0_peopled_2 : decode cX0_peopled 2 = .ok (.iconst 0, 1) := by decide +kernel
theorem dX0_peopled_3 : decode cX0_peopled 3 = .ok (.istore_n 2, 1) := by decide +kernel
theorem dX0_peopled_4 : decode cX0_peopled 4 = .ok (.iload_n 2, 1) := by decide +kernel
theorem dX0_peopled_5 : decode cX0_peopled 5 = .ok (.bipush 6, 2) := by decide +kernel
theorem dX0_peopled_7 : decode cX0_peopled 7 = .ok (.if_icmp .ge 28, 3) := by decide +kernel
theorem dX0_peopled_10 : decode cX0_peopled 10 = .ok (.iload_n 1, 1) := by decide +kernel
theorem dX0_peopled_11 : decode cX0_peopled 11 = .ok (.aload_n 0, 1) := by decide +kernel
theorem dX0_peopled_12 : decode cX0_peopled 12 = .ok (.getfield 9, 3) := by decide +kernel
theorem dX0_peopled_15 : decode cX0_peopled 15 = .ok (.iload_n 2, 1) := by decide +kernel
theorem dX0_peopled_16 : decode cX0_peopled 16 = .ok (.laload, 1) := by decide +kernel
theorem dX0_peopled_17 : decode cX0_peopled 17 = .ok (.lconst 0, 1) := by decide +kernel
theorem dX0_peopled_18 : decode cX0_peopled 18 = .ok (.lcmp, 1) := by decide +kernel
theorem dX0_peopled_19 : decode cX0_peopled 19 = .ok (.ifCond .eq 7, 3) := by decide +kernel
theorem dX0_peopled_22 : decode cX0_peopled 22 = .ok (.iconst 1, 1) := by decide +kernel
theorem dX0_peopled_23 : decode cX0_peopled 23 = .ok (.goto 4, 3) := by decide +kernel
theorem dX0_peopled_26 : decode cX0_peopled 26 = .ok (.iconst 0, 1) := by decide +kernel
theorem dX0_peopled_27 : decode cX0_peopled 27 = .ok (.iadd, 1) := by decide +kernel
theorem dX0_peopled_28 : decode cX0_peopled 28 = .ok (.istore_n 1, 1) := by decide +kernel
theorem dX0_peopled_29 : decode cX0_peopled 29 = .ok (.iinc 2 1, 3) := by decide +kernel
theorem dX0_peopled_32 : decode cX0_peopled 32 = .ok (.goto (-28), 3) := by decide +kernel
theorem dX0_peopled_35 : decode cX0_peopled 35 = .ok (.iload_n 1, 1) := by decide +kernel
theorem dX0_peopled_36 : decode cX0_peopled 36 = .ok (.ireturn, 1) := by decide +kernel
set_option maxRecDepth 20000 in
theorem ggX0_isAtSea_X3_around : GoodIn wsX0_isAtSea wsX3_around := goodIn_r _ [5, 6, 7, 4, 8, 9, 10, 11, 12, 13] (by decide +kernel) (by decide +kernel)
set_option maxRecDepth 20000 in
theorem gX0_isAtSea_X3_around_n47 : GoodIn wsX0_isAtSea (wsX3_around) := ggX0_isAtSea_X3_around
set_option maxRecDepth 20000 in
theorem ggX0_isAtSea_X0_peopledCells : GoodIn wsX0_isAtSea wsX0_peopledCells := goodIn_r _ [18, 19, 20, 21, 22] (by decide +kernel) (by decide +kernel)
set_option maxRecDepth 20000 in
theorem gX0_isAtSea_X0_peopledCells : GoodIn wsX0_isAtSea (wsV RX0 41 RX0 yX0_peopledCells wsX0_peopledCells) := goodIn_app (goodIn_of _ (by decide +kernel)) ggX0_isAtSea_X0_peopledCells
theorem dX0_isAtSea_0 : decode cX0_isAtSea 0 = .ok (.lload_n 1, 1) := by decide +kernel
theorem dX0_isAtSea_1 : decode cX0_isAtSea 1 = .ok (.ldc2_w 45, 3) := by decide +kernel
theorem dX0_isAtSea_4 : decode cX0_isAtSea 4 = .ok (.land, 1) := by decide +kernel
theorem dX0_isAtSea_5 : decode cX0_isAtSea 5 = .ok (.lconst 0, 1) := by decide +kernel
theorem dX0_isAtSea_6 : decode cX0_isAtSea 6 = .ok (.lcmp, 1) := by decide +kernel
theorem dX0_isAtSea_7 : decode cX0_isAtSea 7 = .ok (.ifCond .ne 21, 3) := by decide +kernel
theorem dX0_isAtSea_10 : decode cX0_isAtSea 10 = .ok (.lload_n 1, 1) := by decide +kernel
theorem dX0_isAtSea_11 : decode cX0_isAtSea 11 = .ok (.invokestatic 47, 3) := by decide +kernel
theorem dX0_isAtSea_14 : decode cX0_isAtSea 14 = .ok (.aload_n 0, 1) := by decide +kernel
theorem dX0_isAtSea_15 : decode cX0_isAtSea 15 = .ok (.invokevirtual 41, 3) := by decide +kernel
theorem dX0_isAtSea_18 : decode cX0_isAtSea 18 = .ok (.ldc2_w 26, 3) := by decide +kernel
theorem dX0_isAtSea_21 : decode cX0_isAtSea 21 = .ok (.lxor, 1) := by decide +kernel
theorem dX0_isAtSea_22 : decode cX0_isAtSea 22 = .ok (.land, 1) := by decide +kernel
theorem dX0_isAtSea_23 : decode cX0_isAtSea 23 = .ok (.lconst 0, 1) := by decide +kernel
theorem dX0_isAtSea_24 : decode cX0_isAtSea 24 = .ok (.lcmp, 1) := by decide +kernel
theorem dX0_isAtSea_25 : decode cX0_isAtSea 25 = .ok (.ifCond .eq 7, 3) := by decide +kernel
theorem dX0_isAtSea_28 : decode cX0_isAtSea 28 = .ok (.iconst 1, 1) := by decide +kernel
theorem dX0_isAtSea_29 : decode cX0_isAtSea 29 = .ok (.goto 4, 3) := by decide +kernel
theorem dX0_isAtSea_32 : decode cX0_isAtSea 32 = .ok (.iconst 0, 1) := by decide +kernel
theorem dX0_isAtSea_33 : decode cX0_isAtSea 33 = .ok (.ireturn, 1) := by decide +kernel
set_option maxRecDepth 20000 in
theorem ggX0_touching_X3_around : GoodIn wsX0_touching wsX3_around := goodIn_r _ [4, 5, 6, 3, 7, 8, 9, 10, 11, 12] (by decide +kernel) (by decide +kernel)
set_option maxRecDepth 20000 in
theorem gX0_touching_X3_around_n47 : GoodIn wsX0_touching (wsX3_around) := ggX0_touching_X3_around
set_option maxRecDepth 20000 in
theorem ggX0_touching_X3_bit : GoodIn wsX0_touching wsX3_bit := goodIn_r _ [14] (by decide +kernel) (by decide +kernel)
set_option maxRecDepth 20000 in
theorem gX0_touching_X3_bit_n22 : GoodIn wsX0_touching (wsX3_bit) := ggX0_touching_X3_bit
set_option maxRecDepth 20000 in
theorem ggX0_touching_X0_isAtSea : GoodIn wsX0_touching wsX0_isAtSea := goodIn_r _ [19, 20, 21, 2, 3, 4, 5, 6, 7, 8, 9, 10, 11, 12, 22, 23, 24, 18, 25, 1, 26, 27, 28] (by decide +kernel) (by decide +kernel)
set_option maxRecDepth 20000 in
theorem gX0_touching_X0_isAtSea : GoodIn wsX0_touching (wsV RX0 51 RX0 yX0_isAtSea wsX0_isAtSea) := goodIn_app (goodIn_of _ (by decide +kernel)) ggX0_touching_X0_isAtSea
theorem dX0_touching_0 : decode cX0_touching 0 = .ok (.lconst 0, 1) := by decide +kernel
theorem dX0_touching_1 : decode cX0_touching 1 = .ok (.lstore_n 1, 1) := by decide +kernel
theorem dX0_touching_2 : decode cX0_touching 2 = .ok (.iconst 0, 1) := by decide +kernel
theorem dX0_touching_3 : decode cX0_touching 3 = .ok (.istore_n 3, 1) := by decide +kernel
theorem dX0_touching_4 : decode cX0_touching 4 = .ok (.iload_n 3, 1) := by decide +kernel
theorem dX0_touching_5 : decode cX0_touching 5 = .ok (.bipush 6, 2) := by decide +kernel
theorem dX0_touching_7 : decode cX0_touching 7 = .ok (.if_icmp .ge 92, 3) := by decide +kernel
theorem dX0_touching_10 : decode cX0_touching 10 = .ok (.aload_n 0, 1) := by decide +kernel
theorem dX0_touching_11 : decode cX0_touching 11 = .ok (.getfield 9, 3) := by decide +kernel
theorem dX0_touching_14 : decode cX0_touching 14 = .ok (.iload_n 3, 1) := by decide +kernel
theorem dX0_touching_15 : decode cX0_touching 15 = .ok (.laload, 1) := by decide +kernel
theorem dX0_touching_16 : decode cX0_touching 16 = .ok (.invokestatic 47, 3) := by decide +kernel
theorem dX0_touching_19 : decode cX0_touching 19 = .ok (.lstore 4, 2) := by decide +kernel
theorem dX0_touching_21 : decode cX0_touching 21 = .ok (.iload_n 3, 1) := by decide +kernel
theorem dX0_touching_22 : decode cX0_touching 22 = .ok (.iconst 1, 1) := by decide +kernel
theorem dX0_touching_23 : decode cX0_touching 23 = .ok (.iadd, 1) := by decide +kernel
theorem dX0_touching_24 : decode cX0_touching 24 = .ok (.istore 6, 2) := by decide +kernel
theorem dX0_touching_26 : decode cX0_touching 26 = .ok (.iload 6, 2) := by decide +kernel
theorem dX0_touching_28 : decode cX0_touching 28 = .ok (.bipush 6, 2) := by decide +kernel
theorem dX0_touching_30 : decode cX0_touching 30 = .ok (.if_icmp .ge 37, 3) := by decide +kernel
theorem dX0_touching_33 : decode cX0_touching 33 = .ok (.lload 4, 2) := by decide +kernel
theorem dX0_touching_35 : decode cX0_touching 35 = .ok (.aload_n 0, 1) := by decide +kernel
theorem dX0_touching_36 : decode cX0_touching 36 = .ok (.getfield 9, 3) := by decide +kernel
theorem dX0_touching_39 : decode cX0_touching 39 = .ok (.iload 6, 2) := by decide +kernel
theorem dX0_touching_41 : decode cX0_touching 41 = .ok (.laload, 1) := by decide +kernel
theorem dX0_touching_42 : decode cX0_touching 42 = .ok (.land, 1) := by decide +kernel
theorem dX0_touching_43 : decode cX0_touching 43 = .ok (.lconst 0, 1) := by decide +kernel
theorem dX0_touching_44 : decode cX0_touching 44 = .ok (.lcmp, 1) := by decide +kernel
theorem dX0_touching_45 : decode cX0_touching 45 = .ok (.ifCond .eq 16, 3) := by decide +kernel
theorem dX0_touching_48 : decode cX0_touching 48 = .ok (.lload_n 1, 1) := by decide +kernel
theorem dX0_touching_49 : decode cX0_touching 49 = .ok (.iload_n 3, 1) := by decide +kernel
theorem dX0_touching_50 : decode cX0_touching 50 = .ok (.bipush 8, 2) := by decide +kernel
theorem dX0_touching_52 : decode cX0_touching 52 = .ok (.imul, 1) := by decide +kernel
theorem dX0_touching_53 : decode cX0_touching 53 = .ok (.iload 6, 2) := by decide +kernel
theorem dX0_touching_55 : decode cX0_touching 55 = .ok (.iadd, 1) := by decide +kernel
theorem dX0_touching_56 : decode cX0_touching 56 = .ok (.invokestatic 22, 3) := by decide +kernel
theorem dX0_touching_59 : decode cX0_touching 59 = .ok (.lor, 1) := by decide +kernel
theorem dX0_touching_60 : decode cX0_touching 60 = .ok (.lstore_n 1, 1) := by decide +kernel
theorem dX0_touching_61 : decode cX0_touching 61 = .ok (.iinc 6 1, 3) := by decide +kernel
theorem dX0_touching_64 : decode cX0_touching 64 = .ok (.goto (-38), 3) := by decide +kernel
theorem dX0_touching_67 : decode cX0_touching 67 = .ok (.aload_n 0, 1) := by decide +kernel
theorem dX0_touching_68 : decode cX0_touching 68 = .ok (.aload_n 0, 1) := by decide +kernel
theorem dX0_touching_69 : decode cX0_touching 69 = .ok (.getfield 9, 3) := by decide +kernel
theorem dX0_touching_72 : decode cX0_touching 72 = .ok (.iload_n 3, 1) := by decide +kernel
theorem dX0_touching_73 : decode cX0_touching 73 = .ok (.laload, 1) := by decide +kernel
theorem dX0_touching_74 : decode cX0_touching 74 = .ok (.invokevirtual 51, 3) := by decide +kernel
theorem dX0_touching_77 : decode cX0_touching 77 = .ok (.ifCond .eq 16, 3) := by decide +kernel
theorem dX0_touching_80 : decode cX0_touching 80 = .ok (.lload_n 1, 1) := by decide +kernel
theorem dX0_touching_81 : decode cX0_touching 81 = .ok (.iload_n 3, 1) := by decide +kernel
theorem dX0_touching_82 : decode cX0_touching 82 = .ok (.bipush 8, 2) := by decide +kernel
theorem dX0_touching_84 : decode cX0_touching 84 = .ok (.imul, 1) := by decide +kernel
theorem dX0_touching_85 : decode cX0_touching 85 = .ok (.bipush 6, 2) := by decide +kernel
theorem dX0_touching_87 : decode cX0_touching 87 = .ok (.iadd, 1) := by decide +kernel
theorem dX0_touching_88 : decode cX0_touching 88 = .ok (.invokestatic 22, 3) := by decide +kernel
theorem dX0_touching_91 : decode cX0_touching 91 = .ok (.lor, 1) := by decide +kernel
theorem dX0_touching_92 : decode cX0_touching 92 = .ok (.lstore_n 1, 1) := by decide +kernel
theorem dX0_touching_93 : decode cX0_touching 93 = .ok (.iinc 3 1, 3) := by decide +kernel
theorem dX0_touching_96 : decode cX0_touching 96 = .ok (.goto (-92), 3) := by decide +kernel
theorem dX0_touching_99 : decode cX0_touching 99 = .ok (.lload_n 1, 1) := by decide +kernel
theorem dX0_touching_100 : decode cX0_touching 100 = .ok (.lreturn, 1) := by decide +kernel
theorem dX0_isAsLargeAs_0 : decode cX0_isAsLargeAs 0 = .ok (.aload_n 0, 1) := by decide +kernel
theorem dX0_isAsLargeAs_1 : decode cX0_isAsLargeAs 1 = .ok (.getfield 15, 3) := by decide +kernel
theorem dX0_isAsLargeAs_4 : decode cX0_isAsLargeAs 4 = .ok (.aload_n 1, 1) := by decide +kernel
theorem dX0_isAsLargeAs_5 : decode cX0_isAsLargeAs 5 = .ok (.getfield 15, 3) := by decide +kernel
theorem dX0_isAsLargeAs_8 : decode cX0_isAsLargeAs 8 = .ok (.if_icmp .ne 18, 3) := by decide +kernel
theorem dX0_isAsLargeAs_11 : decode cX0_isAsLargeAs 11 = .ok (.aload_n 0, 1) := by decide +kernel
theorem dX0_isAsLargeAs_12 : decode cX0_isAsLargeAs 12 = .ok (.getfield 19, 3) := by decide +kernel
theorem dX0_isAsLargeAs_15 : decode cX0_isAsLargeAs 15 = .ok (.aload_n 1, 1) := by decide +kernel
theorem dX0_isAsLargeAs_16 : decode cX0_isAsLargeAs 16 = .ok (.getfield 19, 3) := by decide +kernel
theorem dX0_isAsLargeAs_19 : decode cX0_isAsLargeAs 19 = .ok (.if_icmp .ne 7, 3) := by decide +kernel
theorem dX0_isAsLargeAs_22 : decode cX0_isAsLargeAs 22 = .ok (.iconst 1, 1) := by decide +kernel
theorem dX0_isAsLargeAs_23 : decode cX0_isAsLargeAs 23 = .ok (.goto 4, 3) := by decide +kernel
theorem dX0_isAsLargeAs_26 : decode cX0_isAsLargeAs 26 = .ok (.iconst 0, 1) := by decide +kernel
theorem dX0_isAsLargeAs_27 : decode cX0_isAsLargeAs 27 = .ok (.ireturn, 1) := by decide +kernel
set_option maxRecDepth 20000 in
theorem ggX0_unlike_J13_bitCount_95d88 : GoodIn wsX0_unlike wsJ13_bitCount_95d88 := goodIn_r _ [5, 6, 7, 8] (by decide +kernel) (by decide +kernel)
set_option maxRecDepth 20000 in
theorem gX0_unlike_J13_bitCount_95d88 : GoodIn wsX0_unlike (va_wsS RX0 35 yJ13_bitCount_95d88 wsJ13_bitCount_95d88) := goodIn_app (goodIn_of _ (by decide +kernel)) ggX0_unlike_J13_bitCount_95d88
theorem dX0_unlike_0 : decode cX0_unlike 0 = .ok (.lconst 0, 1) := by decide +kernel
theorem dX0_unlike_1 : decode cX0_unlike 1 = .ok (.lstore_n 2, 1) := by decide +kernel
theorem dX0_unlike_2 : decode cX0_unlike 2 = .ok (.iconst 0, 1) := by decide +kernel
theorem dX0_unlike_3 : decode cX0_unlike 3 = .ok (.istore 4, 2) := by decide +kernel
theorem dX0_unlike_5 : decode cX0_unlike 5 = .ok (.iload 4, 2) := by decide +kernel
theorem dX0_unlike_7 : decode cX0_unlike 7 = .ok (.bipush 6, 2) := by decide +kernel
theorem dX0_unlike_9 : decode cX0_unlike 9 = .ok (.if_icmp .ge 27, 3) := by decide +kernel
theorem dX0_unlike_12 : decode cX0_unlike 12 = .ok (.lload_n 2, 1) := by decide +kernel
theorem dX0_unlike_13 : decode cX0_unlike 13 = .ok (.aload_n 0, 1) := by decide +kernel
theorem dX0_unlike_14 : decode cX0_unlike 14 = .ok (.getfield 9, 3) := by decide +kernel
theorem dX0_unlike_17 : decode cX0_unlike 17 = .ok (.iload 4, 2) := by decide +kernel
theorem dX0_unlike_19 : decode cX0_unlike 19 = .ok (.laload, 1) := by decide +kernel
theorem dX0_unlike_20 : decode cX0_unlike 20 = .ok (.aload_n 1, 1) := by decide +kernel
theorem dX0_unlike_21 : decode cX0_unlike 21 = .ok (.getfield 9, 3) := by decide +kernel
theorem dX0_unlike_24 : decode cX0_unlike 24 = .ok (.iload 4, 2) := by decide +kernel
theorem dX0_unlike_26 : decode cX0_unlike 26 = .ok (.laload, 1) := by decide +kernel
theorem dX0_unlike_27 : decode cX0_unlike 27 = .ok (.lxor, 1) := by decide +kernel
theorem dX0_unlike_28 : decode cX0_unlike 28 = .ok (.lor, 1) := by decide +kernel
theorem dX0_unlike_29 : decode cX0_unlike 29 = .ok (.lstore_n 2, 1) := by decide +kernel
theorem dX0_unlike_30 : decode cX0_unlike 30 = .ok (.iinc 4 1, 3) := by decide +kernel
theorem dX0_unlike_33 : decode cX0_unlike 33 = .ok (.goto (-28), 3) := by decide +kernel
theorem dX0_unlike_36 : decode cX0_unlike 36 = .ok (.lload_n 2, 1) := by decide +kernel
theorem dX0_unlike_37 : decode cX0_unlike 37 = .ok (.invokestatic 35, 3) := by decide +kernel
theorem dX0_unlike_40 : decode cX0_unlike 40 = .ok (.ireturn, 1) := by decide +kernel
theorem dX1_init_0 : decode cX1_init 0 = .ok (.aload_n 0, 1) := by decide +kernel
theorem dX1_init_1 : decode cX1_init 1 = .ok (.invokespecial 3, 3) := by decide +kernel
theorem dX1_init_4 : decode cX1_init 4 = .ok (.aload_n 0, 1) := by decide +kernel
theorem dX1_init_5 : decode cX1_init 5 = .ok (.bipush 100, 2) := by decide +kernel
theorem dX1_init_7 : decode cX1_init 7 = .ok (.newarray .int, 2) := by decide +kernel
theorem dX1_init_9 : decode cX1_init 9 = .ok (.putfield 9, 3) := by decide +kernel
theorem dX1_init_12 : decode cX1_init 12 = .ok (.aload_n 0, 1) := by decide +kernel
theorem dX1_init_13 : decode cX1_init 13 = .ok (.bipush 100, 2) := by decide +kernel
theorem dX1_init_15 : decode cX1_init 15 = .ok (.newarray .int, 2) := by decide +kernel
theorem dX1_init_17 : decode cX1_init 17 = .ok (.putfield 15, 3) := by decide +kernel
theorem dX1_init_20 : decode cX1_init 20 = .ok (.return_, 1) := by decide +kernel
set_option maxRecDepth 20000 in
theorem ggX1_add_J9_floorMod_7cf53 : GoodIn wsX1_add wsJ9_floorMod_7cf53 := goodIn_r _ [13] (by decide +kernel) (by decide +kernel)
set_option maxRecDepth 20000 in
theorem gX1_add_J9_floorMod_7cf53 : GoodIn wsX1_add (va_wsS RX1 22 yJ9_floorMod_7cf53 wsJ9_floorMod_7cf53) := goodIn_app (goodIn_of _ (by decide +kernel)) ggX1_add_J9_floorMod_7cf53
theorem dX1_add_0 : decode cX1_add 0 = .ok (.aload_n 0, 1) := by decide +kernel
theorem dX1_add_1 : decode cX1_add 1 = .ok (.getfield 18, 3) := by decide +kernel
theorem dX1_add_4 : decode cX1_add 4 = .ok (.bipush 100, 2) := by decide +kernel
theorem dX1_add_6 : decode cX1_add 6 = .ok (.invokestatic 22, 3) := by decide +kernel
theorem dX1_add_9 : decode cX1_add 9 = .ok (.istore_n 3, 1) := by decide +kernel
theorem dX1_add_10 : decode cX1_add 10 = .ok (.aload_n 0, 1) := by decide +kernel
theorem dX1_add_11 : decode cX1_add 11 = .ok (.getfield 9, 3) := by decide +kernel
theorem dX1_add_14 : decode cX1_add 14 = .ok (.iload_n 3, 1) := by decide +kernel
theorem dX1_add_15 : decode cX1_add 15 = .ok (.iload_n 1, 1) := by decide +kernel
theorem dX1_add_16 : decode cX1_add 16 = .ok (.iastore, 1) := by decide +kernel
theorem dX1_add_17 : decode cX1_add 17 = .ok (.aload_n 0, 1) := by decide +kernel
theorem dX1_add_18 : decode cX1_add 18 = .ok (.getfield 15, 3) := by decide +kernel
theorem dX1_add_21 : decode cX1_add 21 = .ok (.iload_n 3, 1) := by decide +kernel
theorem dX1_add_22 : decode cX1_add 22 = .ok (.iload_n 2, 1) := by decide +kernel
theorem dX1_add_23 : decode cX1_add 23 = .ok (.iastore, 1) := by decide +kernel
theorem dX1_add_24 : decode cX1_add 24 = .ok (.aload_n 0, 1) := by decide +kernel
theorem dX1_add_25 : decode cX1_add 25 = .ok (.dup, 1) := by decide +kernel
theorem dX1_add_26 : decode cX1_add 26 = .ok (.getfield 18, 3) := by decide +kernel
theorem dX1_add_29 : decode cX1_add 29 = .ok (.iconst 1, 1) := by decide +kernel
theorem dX1_add_30 : decode cX1_add 30 = .ok (.iadd, 1) := by decide +kernel
theorem dX1_add_31 : decode cX1_add 31 = .ok (.putfield 18, 3) := by decide +kernel
theorem dX1_add_34 : decode cX1_add 34 = .ok (.aload_n 0, 1) := by decide +kernel
theorem dX1_add_35 : decode cX1_add 35 = .ok (.aload_n 0, 1) := by decide +kernel
theorem dX1_add_36 : decode cX1_add 36 = .ok (.getfield 28, 3) := by decide +kernel
theorem dX1_add_39 : decode cX1_add 39 = .ok (.iconst 1, 1) := by decide +kernel
theorem dX1_add_40 : decode cX1_add 40 = .ok (.iadd, 1) := by decide +kernel
theorem dX1_add_41 : decode cX1_add 41 = .ok (.bipush 100, 2) := by decide +kernel
theorem dX1_add_43 : decode cX1_add 43 = .ok (.invokestatic 31, 3) := by decide +kernel
theorem dX1_add_46 : decode cX1_add 46 = .ok (.putfield 28, 3) := by decide +kernel
theorem dX1_add_49 : decode cX1_add 49 = .ok (.aload_n 0, 1) := by decide +kernel
theorem dX1_add_50 : decode cX1_add 50 = .ok (.dup, 1) := by decide +kernel
theorem dX1_add_51 : decode cX1_add 51 = .ok (.getfield 34, 3) := by decide +kernel
theorem dX1_add_54 : decode cX1_add 54 = .ok (.iconst 1, 1) := by decide +kernel
theorem dX1_add_55 : decode cX1_add 55 = .ok (.iadd, 1) := by decide +kernel
theorem dX1_add_56 : decode cX1_add 56 = .ok (.putfield 34, 3) := by decide +kernel
theorem dX1_add_59 : decode cX1_add 59 = .ok (.return_, 1) := by decide +kernel
set_option maxRecDepth 20000 in
theorem ggX1_latestCell_J9_floorMod_7cf53 : GoodIn wsX1_latestCell wsJ9_floorMod_7cf53 := goodIn_r _ [6] (by decide +kernel) (by decide +kernel)
set_option maxRecDepth 20000 in
theorem gX1_latestCell_J9_floorMod_7cf53 : GoodIn wsX1_latestCell (va_wsS RX1 22 yJ9_floorMod_7cf53 wsJ9_floorMod_7cf53) := goodIn_app (goodIn_of _ (by decide +kernel)) ggX1_latestCell_J9_floorMod_7cf53
theorem dX1_latestCell_0 : decode cX1_latestCell 0 = .ok (.aload_n 0, 1) := by decide +kernel
theorem dX1_latestCell_1 : decode cX1_latestCell 1 = .ok (.getfield 9, 3) := by decide +kernel
theorem dX1_latestCell_4 : decode cX1_latestCell 4 = .ok (.aload_n 0, 1) := by decide +kernel
theorem dX1_latestCell_5 : decode cX1_latestCell 5 = .ok (.getfield 18, 3) := by decide +kernel
theorem dX1_latestCell_8 : decode cX1_latestCell 8 = .ok (.iconst 1, 1) := by decide +kernel
theorem dX1_latestCell_9 : decode cX1_latestCell 9 = .ok (.isub, 1) := by decide +kernel
theorem dX1_latestCell_10 : decode cX1_latestCell 10 = .ok (.bipush 100, 2) := by decide +kernel
theorem dX1_latestCell_12 : decode cX1_latestCell 12 = .ok (.invokestatic 22, 3) := by decide +kernel
theorem dX1_latestCell_15 : decode cX1_latestCell 15 = .ok (.iaload, 1) := by decide +kernel
theorem dX1_latestCell_16 : decode cX1_latestCell 16 = .ok (.ireturn, 1) := by decide +kernel
set_option maxRecDepth 20000 in
theorem ggX1_latestFrom_J9_floorMod_7cf53 : GoodIn wsX1_latestFrom wsJ9_floorMod_7cf53 := goodIn_r _ [6] (by decide +kernel) (by decide +kernel)
set_option maxRecDepth 20000 in
theorem gX1_latestFrom_J9_floorMod_7cf53 : GoodIn wsX1_latestFrom (va_wsS RX1 22 yJ9_floorMod_7cf53 wsJ9_floorMod_7cf53) := goodIn_app (goodIn_of _ (by decide +kernel)) ggX1_latestFrom_J9_floorMod_7cf53
theorem dX1_latestFrom_0 : decode cX1_latestFrom 0 = .ok (.aload_n 0, 1) := by decide +kernel
theorem dX1_latestFrom_1 : decode cX1_latestFrom 1 = .ok (.getfield 15, 3) := by decide +kernel
theorem dX1_latestFrom_4 : decode cX1_latestFrom 4 = .ok (.aload_n 0, 1) := by decide +kernel
theorem dX1_latestFrom_5 : decode cX1_latestFrom 5 = .ok (.getfield 18, 3) := by decide +kernel
theorem dX1_latestFrom_8 : decode cX1_latestFrom 8 = .ok (.iconst 1, 1) := by decide +kernel
theorem dX1_latestFrom_9 : decode cX1_latestFrom 9 = .ok (.isub, 1) := by decide +kernel
theorem dX1_latestFrom_10 : decode cX1_latestFrom 10 = .ok (.bipush 100, 2) := by decide +kernel
theorem dX1_latestFrom_12 : decode cX1_latestFrom 12 = .ok (.invokestatic 22, 3) := by decide +kernel
theorem dX1_latestFrom_15 : decode cX1_latestFrom 15 = .ok (.iaload, 1) := by decide +kernel
theorem dX1_latestFrom_16 : decode cX1_latestFrom 16 = .ok (.ireturn, 1) := by decide +kernel
theorem dX1_dropLatest_0 : decode cX1_dropLatest 0 = .ok (.aload_n 0, 1) := by decide +kernel
theorem dX1_dropLatest_1 : decode cX1_dropLatest 1 = .ok (.dup, 1) := by decide +kernel
theorem dX1_dropLatest_2 : decode cX1_dropLatest 2 = .ok (.getfield 18, 3) := by decide +kernel
theorem dX1_dropLatest_5 : decode cX1_dropLatest 5 = .ok (.iconst 1, 1) := by decide +kernel
theorem dX1_dropLatest_6 : decode cX1_dropLatest 6 = .ok (.isub, 1) := by decide +kernel
theorem dX1_dropLatest_7 : decode cX1_dropLatest 7 = .ok (.putfield 18, 3) := by decide +kernel
theorem dX1_dropLatest_10 : decode cX1_dropLatest 10 = .ok (.aload_n 0, 1) := by decide +kernel
theorem dX1_dropLatest_11 : decode cX1_dropLatest 11 = .ok (.dup, 1) := by decide +kernel
theorem dX1_dropLatest_12 : decode cX1_dropLatest 12 = .ok (.getfield 28, 3) := by decide +kernel
theorem dX1_dropLatest_15 : decode cX1_dropLatest 15 = .ok (.iconst 1, 1) := by decide +kernel
theorem dX1_dropLatest_16 : decode cX1_dropLatest 16 = .ok (.isub, 1) := by decide +kernel
theorem dX1_dropLatest_17 : decode cX1_dropLatest 17 = .ok (.putfield 28, 3) := by decide +kernel
theorem dX1_dropLatest_20 : decode cX1_dropLatest 20 = .ok (.return_, 1) := by decide +kernel
theorem dX1_forget_0 : decode cX1_forget 0 = .ok (.aload_n 0, 1) := by decide +kernel
theorem dX1_forget_1 : decode cX1_forget 1 = .ok (.iconst 0, 1) := by decide +kernel
theorem dX1_forget_2 : decode cX1_forget 2 = .ok (.putfield 28, 3) := by decide +kernel
theorem dX1_forget_5 : decode cX1_forget 5 = .ok (.return_, 1) := by decide +kernel
theorem dX2_init_0 : decode cX2_init 0 = .ok (.aload_n 0, 1) := by decide +kernel
theorem dX2_init_1 : decode cX2_init 1 = .ok (.invokespecial 3, 3) := by decide +kernel
theorem dX2_init_4 : decode cX2_init 4 = .ok (.aload_n 0, 1) := by decide +kernel
theorem dX2_init_5 : decode cX2_init 5 = .ok (.bipush 6, 2) := by decide +kernel
theorem dX2_init_7 : decode cX2_init 7 = .ok (.newarray .int, 2) := by decide +kernel
theorem dX2_init_9 : decode cX2_init 9 = .ok (.putfield 9, 3) := by decide +kernel
theorem dX2_init_12 : decode cX2_init 12 = .ok (.aload_n 0, 1) := by decide +kernel
theorem dX2_init_13 : decode cX2_init 13 = .ok (.bipush 6, 2) := by decide +kernel
theorem dX2_init_15 : decode cX2_init 15 = .ok (.newarray .int, 2) := by decide +kernel
theorem dX2_init_17 : decode cX2_init 17 = .ok (.putfield 15, 3) := by decide +kernel
theorem dX2_init_20 : decode cX2_init 20 = .ok (.aload_n 0, 1) := by decide +kernel
theorem dX2_init_21 : decode cX2_init 21 = .ok (.bipush 6, 2) := by decide +kernel
theorem dX2_init_23 : decode cX2_init 23 = .ok (.newarray .int, 2) := by decide +kernel
theorem dX2_init_25 : decode cX2_init 25 = .ok (.putfield 18, 3) := by decide +kernel
theorem dX2_init_28 : decode cX2_init 28 = .ok (.aload_n 0, 1) := by decide +kernel
theorem dX2_init_29 : decode cX2_init 29 = .ok (.bipush 6, 2) := by decide +kernel
theorem dX2_init_31 : decode cX2_init 31 = .ok (.newarray .int, 2) := by decide +kernel
theorem dX2_init_33 : decode cX2_init 33 = .ok (.putfield 21, 3) := by decide +kernel
theorem dX2_init_36 : decode cX2_init 36 = .ok (.aload_n 0, 1) := by decide +kernel
theorem dX2_init_37 : decode cX2_init 37 = .ok (.bipush 6, 2) := by decide +kernel
theorem dX2_init_39 : decode cX2_init 39 = .ok (.newarray .int, 2) := by decide +kernel
theorem dX2_init_41 : decode cX2_init 41 = .ok (.putfield 24, 3) := by decide +kernel
theorem dX2_init_44 : decode cX2_init 44 = .ok (.return_, 1) := by decide +kernel
set_option maxRecDepth 20000 in
theorem ggX2_read_X0_sizeOf : GoodIn wsX2_read wsX0_sizeOf := goodIn_r _ [9, 10, 11, 12, 8, 13, 14, 15, 16, 17, 18, 19, 20, 21, 22, 23, 24, 32, 33, 34] (by decide +kernel) (by decide +kernel)
set_option maxRecDepth 20000 in
theorem gX2_read_X0_sizeOf : GoodIn wsX2_read (wsV RX2 34 RX0 yX0_sizeOf wsX0_sizeOf) := goodIn_app (goodIn_of _ (by decide +kernel)) ggX2_read_X0_sizeOf
theorem dX2_read_0 : decode cX2_read 0 = .ok (.aload_n 0, 1) := by decide +kernel
theorem dX2_read_1 : decode cX2_read 1 = .ok (.iconst 0, 1) := by decide +kernel
theorem dX2_read_2 : decode cX2_read 2 = .ok (.putfield 27, 3) := by decide +kernel
theorem dX2_read_5 : decode cX2_read 5 = .ok (.aload_n 0, 1) := by decide +kernel
theorem dX2_read_6 : decode cX2_read 6 = .ok (.iconst 0, 1) := by decide +kernel
theorem dX2_read_7 : decode cX2_read 7 = .ok (.putfield 31, 3) := by decide +kernel
theorem dX2_read_10 : decode cX2_read 10 = .ok (.iconst 0, 1) := by decide +kernel
theorem dX2_read_11 : decode cX2_read 11 = .ok (.istore_n 2, 1) := by decide +kernel
theorem dX2_read_12 : decode cX2_read 12 = .ok (.iload_n 2, 1) := by decide +kernel
theorem dX2_read_13 : decode cX2_read 13 = .ok (.bipush 6, 2) := by decide +kernel
theorem dX2_read_15 : decode cX2_read 15 = .ok (.if_icmp .ge 78, 3) := by decide +kernel
theorem dX2_read_18 : decode cX2_read 18 = .ok (.aload_n 0, 1) := by decide +kernel
theorem dX2_read_19 : decode cX2_read 19 = .ok (.getfield 9, 3) := by decide +kernel
theorem dX2_read_22 : decode cX2_read 22 = .ok (.iload_n 2, 1) := by decide +kernel
theorem dX2_read_23 : decode cX2_read 23 = .ok (.aload_n 0, 1) := by decide +kernel
theorem dX2_read_24 : decode cX2_read 24 = .ok (.getfield 27, 3) := by decide +kernel
theorem dX2_read_27 : decode cX2_read 27 = .ok (.iastore, 1) := by decide +kernel
theorem dX2_read_28 : decode cX2_read 28 = .ok (.aload_n 1, 1) := by decide +kernel
theorem dX2_read_29 : decode cX2_read 29 = .ok (.iload_n 2, 1) := by decide +kernel
theorem dX2_read_30 : decode cX2_read 30 = .ok (.invokevirtual 34, 3) := by decide +kernel
theorem dX2_read_33 : decode cX2_read 33 = .ok (.ifCond .le 54, 3) := by decide +kernel
theorem dX2_read_36 : decode cX2_read 36 = .ok (.aload_n 0, 1) := by decide +kernel
theorem dX2_read_37 : decode cX2_read 37 = .ok (.getfield 27, 3) := by decide +kernel
theorem dX2_read_40 : decode cX2_read 40 = .ok (.bipush 6, 2) := by decide +kernel
theorem dX2_read_42 : decode cX2_read 42 = .ok (.if_icmp .ge 45, 3) := by decide +kernel
theorem dX2_read_45 : decode cX2_read 45 = .ok (.aload_n 0, 1) := by decide +kernel
theorem dX2_read_46 : decode cX2_read 46 = .ok (.getfield 15, 3) := by decide +kernel
theorem dX2_read_49 : decode cX2_read 49 = .ok (.aload_n 0, 1) := by decide +kernel
theorem dX2_read_50 : decode cX2_read 50 = .ok (.getfield 27, 3) := by decide +kernel
theorem dX2_read_53 : decode cX2_read 53 = .ok (.aload_n 1, 1) := by decide +kernel
theorem dX2_read_54 : decode cX2_read 54 = .ok (.iload_n 2, 1) := by decide +kernel
theorem dX2_read_55 : decode cX2_read 55 = .ok (.invokevirtual 34, 3) := by decide +kernel
theorem dX2_read_58 : decode cX2_read 58 = .ok (.iastore, 1) := by decide +kernel
theorem dX2_read_59 : decode cX2_read 59 = .ok (.aload_n 0, 1) := by decide +kernel
theorem dX2_read_60 : decode cX2_read 60 = .ok (.dup, 1) := by decide +kernel
theorem dX2_read_61 : decode cX2_read 61 = .ok (.getfield 31, 3) := by decide +kernel
theorem dX2_read_64 : decode cX2_read 64 = .ok (.aload_n 0, 1) := by decide +kernel
theorem dX2_read_65 : decode cX2_read 65 = .ok (.getfield 15, 3) := by decide +kernel
theorem dX2_read_68 : decode cX2_read 68 = .ok (.aload_n 0, 1) := by decide +kernel
theorem dX2_read_69 : decode cX2_read 69 = .ok (.getfield 27, 3) := by decide +kernel
theorem dX2_read_72 : decode cX2_read 72 = .ok (.iaload, 1) := by decide +kernel
theorem dX2_read_73 : decode cX2_read 73 = .ok (.iadd, 1) := by decide +kernel
theorem dX2_read_74 : decode cX2_read 74 = .ok (.putfield 31, 3) := by decide +kernel
theorem dX2_read_77 : decode cX2_read 77 = .ok (.aload_n 0, 1) := by decide +kernel
theorem dX2_read_78 : decode cX2_read 78 = .ok (.dup, 1) := by decide +kernel
theorem dX2_read_79 : decode cX2_read 79 = .ok (.getfield 27, 3) := by decide +kernel
theorem dX2_read_82 : decode cX2_read 82 = .ok (.iconst 1, 1) := by decide +kernel
theorem dX2_read_83 : decode cX2_read 83 = .ok (.iadd, 1) := by decide +kernel
theorem dX2_read_84 : decode cX2_read 84 = .ok (.putfield 27, 3) := by decide +kernel
theorem dX2_read_87 : decode cX2_read 87 = .ok (.iinc 2 1, 3) := by decide +kernel
theorem dX2_read_90 : decode cX2_read 90 = .ok (.goto (-78), 3) := by decide +kernel
theorem dX2_read_93 : decode cX2_read 93 = .ok (.return_, 1) := by decide +kernel
set_option maxRecDepth 20000 in
theorem ggX2_placeOf_X3_isLand : GoodIn wsX2_placeOf wsX3_isLand := goodIn_r _ [4] (by decide +kernel) (by decide +kernel)
set_option maxRecDepth 20000 in
theorem gX2_placeOf_X3_isLand_n40 : GoodIn wsX2_placeOf (wsX3_isLand) := ggX2_placeOf_X3_isLand
theorem dX2_placeOf_0 : decode cX2_placeOf 0 = .ok (.iload_n 1, 1) := by decide +kernel
theorem dX2_placeOf_1 : decode cX2_placeOf 1 = .ok (.invokestatic 40, 3) := by decide +kernel
theorem dX2_placeOf_4 : decode cX2_placeOf 4 = .ok (.ifCond .eq 12, 3) := by decide +kernel
theorem dX2_placeOf_7 : decode cX2_placeOf 7 = .ok (.aload_n 0, 1) := by decide +kernel
theorem dX2_placeOf_8 : decode cX2_placeOf 8 = .ok (.getfield 9, 3) := by decide +kernel
theorem dX2_placeOf_11 : decode cX2_placeOf 11 = .ok (.iload_n 1, 1) := by decide +kernel
theorem dX2_placeOf_12 : decode cX2_placeOf 12 = .ok (.iaload, 1) := by decide +kernel
theorem dX2_placeOf_13 : decode cX2_placeOf 13 = .ok (.goto 4, 3) := by decide +kernel
theorem dX2_placeOf_16 : decode cX2_placeOf 16 = .ok (.iconst 0, 1) := by decide +kernel
theorem dX2_placeOf_17 : decode cX2_placeOf 17 = .ok (.ireturn, 1) := by decide +kernel
set_option maxRecDepth 20000 in
theorem ggX2_lay_X2_layRow : GoodIn wsX2_lay wsX2_layRow := goodIn_r _ [6, 7, 8, 9, 10, 11, 12, 13, 14, 15, 16, 17, 18, 19, 20, 21] (by decide +kernel) (by decide +kernel)
set_option maxRecDepth 20000 in
theorem gX2_lay_X2_layRow : GoodIn wsX2_lay (wsV RX2 44 RX2 yX2_layRow wsX2_layRow) := goodIn_app (goodIn_of _ (by decide +kernel)) ggX2_lay_X2_layRow
theorem dX2_lay_0 : decode cX2_lay 0 = .ok (.iconst 0, 1) := by decide +kernel
theorem dX2_lay_1 : decode cX2_lay 1 = .ok (.istore_n 2, 1) := by decide +kernel
theorem dX2_lay_2 : decode cX2_lay 2 = .ok (.iconst 0, 1) := by decide +kernel
theorem dX2_lay_3 : decode cX2_lay 3 = .ok (.istore_n 3, 1) := by decide +kernel
theorem dX2_lay_4 : decode cX2_lay 4 = .ok (.iconst 0, 1) := by decide +kernel
theorem dX2_lay_5 : decode cX2_lay 5 = .ok (.istore 4, 2) := by decide +kernel
theorem dX2_lay_7 : decode cX2_lay 7 = .ok (.iload 4, 2) := by decide +kernel
theorem dX2_lay_9 : decode cX2_lay 9 = .ok (.aload_n 0, 1) := by decide +kernel
theorem dX2_lay_10 : decode cX2_lay 10 = .ok (.getfield 27, 3) := by decide +kernel
theorem dX2_lay_13 : decode cX2_lay 13 = .ok (.if_icmp .ge 45, 3) := by decide +kernel
theorem dX2_lay_16 : decode cX2_lay 16 = .ok (.iload 4, 2) := by decide +kernel
theorem dX2_lay_18 : decode cX2_lay 18 = .ok (.aload_n 0, 1) := by decide +kernel
theorem dX2_lay_19 : decode cX2_lay 19 = .ok (.getfield 27, 3) := by decide +kernel
theorem dX2_lay_22 : decode cX2_lay 22 = .ok (.iconst 1, 1) := by decide +kernel
theorem dX2_lay_23 : decode cX2_lay 23 = .ok (.isub, 1) := by decide +kernel
theorem dX2_lay_24 : decode cX2_lay 24 = .ok (.if_icmp .eq 12, 3) := by decide +kernel
theorem dX2_lay_27 : decode cX2_lay 27 = .ok (.iload_n 1, 1) := by decide +kernel
theorem dX2_lay_28 : decode cX2_lay 28 = .ok (.iload 4, 2) := by decide +kernel
theorem dX2_lay_30 : decode cX2_lay 30 = .ok (.ishr, 1) := by decide +kernel
theorem dX2_lay_31 : decode cX2_lay 31 = .ok (.iconst 1, 1) := by decide +kernel
theorem dX2_lay_32 : decode cX2_lay 32 = .ok (.iand, 1) := by decide +kernel
theorem dX2_lay_33 : decode cX2_lay 33 = .ok (.ifCond .eq 19, 3) := by decide +kernel
theorem dX2_lay_36 : decode cX2_lay 36 = .ok (.iload_n 3, 1) := by decide +kernel
theorem dX2_lay_37 : decode cX2_lay 37 = .ok (.aload_n 0, 1) := by decide +kernel
theorem dX2_lay_38 : decode cX2_lay 38 = .ok (.iload_n 2, 1) := by decide +kernel
theorem dX2_lay_39 : decode cX2_lay 39 = .ok (.iload 4, 2) := by decide +kernel
theorem dX2_lay_41 : decode cX2_lay 41 = .ok (.iload_n 3, 1) := by decide +kernel
theorem dX2_lay_42 : decode cX2_lay 42 = .ok (.invokevirtual 44, 3) := by decide +kernel
theorem dX2_lay_45 : decode cX2_lay 45 = .ok (.iadd, 1) := by decide +kernel
theorem dX2_lay_46 : decode cX2_lay 46 = .ok (.istore_n 3, 1) := by decide +kernel
theorem dX2_lay_47 : decode cX2_lay 47 = .ok (.iload 4, 2) := by decide +kernel
theorem dX2_lay_49 : decode cX2_lay 49 = .ok (.iconst 1, 1) := by decide +kernel
theorem dX2_lay_50 : decode cX2_lay 50 = .ok (.iadd, 1) := by decide +kernel
theorem dX2_lay_51 : decode cX2_lay 51 = .ok (.istore_n 2, 1) := by decide +kernel
theorem dX2_lay_52 : decode cX2_lay 52 = .ok (.iinc 4 1, 3) := by decide +kernel
theorem dX2_lay_55 : decode cX2_lay 55 = .ok (.goto (-48), 3) := by decide +kernel
theorem dX2_lay_58 : decode cX2_lay 58 = .ok (.return_, 1) := by decide +kernel
theorem dX2_layRow_0 : decode cX2_layRow 0 = .ok (.iconst 0, 1) := by decide +kernel
theorem dX2_layRow_1 : decode cX2_layRow 1 = .ok (.istore 4, 2) := by decide +kernel
theorem dX2_layRow_3 : decode cX2_layRow 3 = .ok (.iload_n 1, 1) := by decide +kernel
theorem dX2_layRow_4 : decode cX2_layRow 4 = .ok (.iconst 0, 1) := by decide +kernel
theorem dX2_layRow_5 : decode cX2_layRow 5 = .ok (.invokestatic 48, 3) := by decide +kernel
theorem dX2_layRow_8 : decode cX2_layRow 8 = .ok (.istore 5, 2) := by decide +kernel
theorem dX2_layRow_10 : decode cX2_layRow 10 = .ok (.iload 5, 2) := by decide +kernel
theorem dX2_layRow_12 : decode cX2_layRow 12 = .ok (.iload_n 2, 1) := by decide +kernel
theorem dX2_layRow_13 : decode cX2_layRow 13 = .ok (.if_icmp .gt 45, 3) := by decide +kernel
theorem dX2_layRow_16 : decode cX2_layRow 16 = .ok (.iload 5, 2) := by decide +kernel
theorem dX2_layRow_18 : decode cX2_layRow 18 = .ok (.bipush 6, 2) := by decide +kernel
theorem dX2_layRow_20 : decode cX2_layRow 20 = .ok (.if_icmp .ge 38, 3) := by decide +kernel
theorem dX2_layRow_23 : decode cX2_layRow 23 = .ok (.aload_n 0, 1) := by decide +kernel
theorem dX2_layRow_24 : decode cX2_layRow 24 = .ok (.getfield 18, 3) := by decide +kernel
theorem dX2_layRow_27 : decode cX2_layRow 27 = .ok (.iload 5, 2) := by decide +kernel
theorem dX2_layRow_29 : decode cX2_layRow 29 = .ok (.iload 4, 2) := by decide +kernel
theorem dX2_layRow_31 : decode cX2_layRow 31 = .ok (.iastore, 1) := by decide +kernel
theorem dX2_layRow_32 : decode cX2_layRow 32 = .ok (.aload_n 0, 1) := by decide +kernel
theorem dX2_layRow_33 : decode cX2_layRow 33 = .ok (.getfield 21, 3) := by decide +kernel
theorem dX2_layRow_36 : decode cX2_layRow 36 = .ok (.iload 5, 2) := by decide +kernel
theorem dX2_layRow_38 : decode cX2_layRow 38 = .ok (.iload_n 3, 1) := by decide +kernel
theorem dX2_layRow_39 : decode cX2_layRow 39 = .ok (.iastore, 1) := by decide +kernel
theorem dX2_layRow_40 : decode cX2_layRow 40 = .ok (.iload 4, 2) := by decide +kernel
theorem dX2_layRow_42 : decode cX2_layRow 42 = .ok (.aload_n 0, 1) := by decide +kernel
theorem dX2_layRow_43 : decode cX2_layRow 43 = .ok (.getfield 15, 3) := by decide +kernel
theorem dX2_layRow_46 : decode cX2_layRow 46 = .ok (.iload 5, 2) := by decide +kernel
theorem dX2_layRow_48 : decode cX2_layRow 48 = .ok (.iaload, 1) := by decide +kernel
theorem dX2_layRow_49 : decode cX2_layRow 49 = .ok (.iadd, 1) := by decide +kernel
theorem dX2_layRow_50 : decode cX2_layRow 50 = .ok (.istore 4, 2) := by decide +kernel
theorem dX2_layRow_52 : decode cX2_layRow 52 = .ok (.iinc 5 1, 3) := by decide +kernel
theorem dX2_layRow_55 : decode cX2_layRow 55 = .ok (.goto (-45), 3) := by decide +kernel
theorem dX2_layRow_58 : decode cX2_layRow 58 = .ok (.iload_n 1, 1) := by decide +kernel
theorem dX2_layRow_59 : decode cX2_layRow 59 = .ok (.iconst 0, 1) := by decide +kernel
theorem dX2_layRow_60 : decode cX2_layRow 60 = .ok (.invokestatic 48, 3) := by decide +kernel
theorem dX2_layRow_63 : decode cX2_layRow 63 = .ok (.istore 5, 2) := by decide +kernel
theorem dX2_layRow_65 : decode cX2_layRow 65 = .ok (.iload 5, 2) := by decide +kernel
theorem dX2_layRow_67 : decode cX2_layRow 67 = .ok (.iload_n 2, 1) := by decide +kernel
theorem dX2_layRow_68 : decode cX2_layRow 68 = .ok (.if_icmp .gt 25, 3) := by decide +kernel
theorem dX2_layRow_71 : decode cX2_layRow 71 = .ok (.iload 5, 2) := by decide +kernel
theorem dX2_layRow_73 : decode cX2_layRow 73 = .ok (.bipush 6, 2) := by decide +kernel
theorem dX2_layRow_75 : decode cX2_layRow 75 = .ok (.if_icmp .ge 18, 3) := by decide +kernel
theorem dX2_layRow_78 : decode cX2_layRow 78 = .ok (.aload_n 0, 1) := by decide +kernel
theorem dX2_layRow_79 : decode cX2_layRow 79 = .ok (.getfield 24, 3) := by decide +kernel
theorem dX2_layRow_82 : decode cX2_layRow 82 = .ok (.iload 5, 2) := by decide +kernel
theorem dX2_layRow_84 : decode cX2_layRow 84 = .ok (.iload 4, 2) := by decide +kernel
theorem dX2_layRow_86 : decode cX2_layRow 86 = .ok (.iastore, 1) := by decide +kernel
theorem dX2_layRow_87 : decode cX2_layRow 87 = .ok (.iinc 5 1, 3) := by decide +kernel
theorem dX2_layRow_90 : decode cX2_layRow 90 = .ok (.goto (-25), 3) := by decide +kernel
theorem dX2_layRow_93 : decode cX2_layRow 93 = .ok (.iload 4, 2) := by decide +kernel
theorem dX2_layRow_95 : decode cX2_layRow 95 = .ok (.ireturn, 1) := by decide +kernel
set_option maxRecDepth 20000 in
theorem ggX2_side_X3_thousandths : GoodIn wsX2_side wsX3_thousandths := goodIn_r _ [8] (by decide +kernel) (by decide +kernel)
set_option maxRecDepth 20000 in
theorem gX2_side_X3_thousandths_n54 : GoodIn wsX2_side (wsX3_thousandths) := ggX2_side_X3_thousandths
theorem dX2_side_0 : decode cX2_side 0 = .ok (.iload_n 1, 1) := by decide +kernel
theorem dX2_side_1 : decode cX2_side 1 = .ok (.ifCond .lt 9, 3) := by decide +kernel
theorem dX2_side_4 : decode cX2_side 4 = .ok (.iload_n 1, 1) := by decide +kernel
theorem dX2_side_5 : decode cX2_side 5 = .ok (.bipush 6, 2) := by decide +kernel
theorem dX2_side_7 : decode cX2_side 7 = .ok (.if_icmp .lt 5, 3) := by decide +kernel
theorem dX2_side_10 : decode cX2_side 10 = .ok (.iconst 0, 1) := by decide +kernel
theorem dX2_side_11 : decode cX2_side 11 = .ok (.ireturn, 1) := by decide +kernel
theorem dX2_side_12 : decode cX2_side 12 = .ok (.iload_n 2, 1) := by decide +kernel
theorem dX2_side_13 : decode cX2_side 13 = .ok (.tableswitch 73 0 2 #[27, 43, 57], 27) := by decide +kernel
theorem dX2_side_40 : decode cX2_side 40 = .ok (.aload_n 0, 1) := by decide +kernel
theorem dX2_side_41 : decode cX2_side 41 = .ok (.getfield 18, 3) := by decide +kernel
theorem dX2_side_44 : decode cX2_side 44 = .ok (.iload_n 1, 1) := by decide +kernel
theorem dX2_side_45 : decode cX2_side 45 = .ok (.iaload, 1) := by decide +kernel
theorem dX2_side_46 : decode cX2_side 46 = .ok (.aload_n 0, 1) := by decide +kernel
theorem dX2_side_47 : decode cX2_side 47 = .ok (.getfield 24, 3) := by decide +kernel
theorem dX2_side_50 : decode cX2_side 50 = .ok (.iload_n 1, 1) := by decide +kernel
theorem dX2_side_51 : decode cX2_side 51 = .ok (.iaload, 1) := by decide +kernel
theorem dX2_side_52 : decode cX2_side 52 = .ok (.invokestatic 54, 3) := by decide +kernel
theorem dX2_side_55 : decode cX2_side 55 = .ok (.ireturn, 1) := by decide +kernel
theorem dX2_side_56 : decode cX2_side 56 = .ok (.aload_n 0, 1) := by decide +kernel
theorem dX2_side_57 : decode cX2_side 57 = .ok (.getfield 21, 3) := by decide +kernel
theorem dX2_side_60 : decode cX2_side 60 = .ok (.iload_n 1, 1) := by decide +kernel
theorem dX2_side_61 : decode cX2_side 61 = .ok (.iaload, 1) := by decide +kernel
theorem dX2_side_62 : decode cX2_side 62 = .ok (.aload_n 0, 1) := by decide +kernel
theorem dX2_side_63 : decode cX2_side 63 = .ok (.getfield 31, 3) := by decide +kernel
theorem dX2_side_66 : decode cX2_side 66 = .ok (.invokestatic 54, 3) := by decide +kernel
theorem dX2_side_69 : decode cX2_side 69 = .ok (.ireturn, 1) := by decide +kernel
theorem dX2_side_70 : decode cX2_side 70 = .ok (.aload_n 0, 1) := by decide +kernel
theorem dX2_side_71 : decode cX2_side 71 = .ok (.getfield 15, 3) := by decide +kernel
theorem dX2_side_74 : decode cX2_side 74 = .ok (.iload_n 1, 1) := by decide +kernel
theorem dX2_side_75 : decode cX2_side 75 = .ok (.iaload, 1) := by decide +kernel
theorem dX2_side_76 : decode cX2_side 76 = .ok (.aload_n 0, 1) := by decide +kernel
theorem dX2_side_77 : decode cX2_side 77 = .ok (.getfield 24, 3) := by decide +kernel
theorem dX2_side_80 : decode cX2_side 80 = .ok (.iload_n 1, 1) := by decide +kernel
theorem dX2_side_81 : decode cX2_side 81 = .ok (.iaload, 1) := by decide +kernel
theorem dX2_side_82 : decode cX2_side 82 = .ok (.invokestatic 54, 3) := by decide +kernel
theorem dX2_side_85 : decode cX2_side 85 = .ok (.ireturn, 1) := by decide +kernel
theorem dX2_side_86 : decode cX2_side 86 = .ok (.aload_n 0, 1) := by decide +kernel
theorem dX2_side_87 : decode cX2_side 87 = .ok (.getfield 24, 3) := by decide +kernel
theorem dX2_side_90 : decode cX2_side 90 = .ok (.iload_n 1, 1) := by decide +kernel
theorem dX2_side_91 : decode cX2_side 91 = .ok (.iaload, 1) := by decide +kernel
theorem dX2_side_92 : decode cX2_side 92 = .ok (.aload_n 0, 1) := by decide +kernel
theorem dX2_side_93 : decode cX2_side 93 = .ok (.getfield 31, 3) := by decide +kernel
theorem dX2_side_96 : decode cX2_side 96 = .ok (.invokestatic 54, 3) := by decide +kernel
theorem dX2_side_99 : decode cX2_side 99 = .ok (.ireturn, 1) := by decide +kernel
theorem dX2_scaledHeight_0 : decode cX2_scaledHeight 0 = .ok (.iload_n 1, 1) := by decide +kernel
theorem dX2_scaledHeight_1 : decode cX2_scaledHeight 1 = .ok (.ifCond .lt 25, 3) := by decide +kernel
theorem dX2_scaledHeight_4 : decode cX2_scaledHeight 4 = .ok (.iload_n 1, 1) := by decide +kernel
theorem dX2_scaledHeight_5 : decode cX2_scaledHeight 5 = .ok (.bipush 6, 2) := by decide +kernel
theorem dX2_scaledHeight_7 : decode cX2_scaledHeight 7 = .ok (.if_icmp .ge 19, 3) := by decide +kernel
theorem dX2_scaledHeight_10 : decode cX2_scaledHeight 10 = .ok (.aload_n 0, 1) := by decide +kernel
theorem dX2_scaledHeight_11 : decode cX2_scaledHeight 11 = .ok (.getfield 24, 3) := by decide +kernel
theorem dX2_scaledHeight_14 : decode cX2_scaledHeight 14 = .ok (.iload_n 1, 1) := by decide +kernel
theorem dX2_scaledHeight_15 : decode cX2_scaledHeight 15 = .ok (.iaload, 1) := by decide +kernel
theorem dX2_scaledHeight_16 : decode cX2_scaledHeight 16 = .ok (.aload_n 0, 1) := by decide +kernel
theorem dX2_scaledHeight_17 : decode cX2_scaledHeight 17 = .ok (.getfield 24, 3) := by decide +kernel
theorem dX2_scaledHeight_20 : decode cX2_scaledHeight 20 = .ok (.iload_n 1, 1) := by decide +kernel
theorem dX2_scaledHeight_21 : decode cX2_scaledHeight 21 = .ok (.iaload, 1) := by decide +kernel
theorem dX2_scaledHeight_22 : decode cX2_scaledHeight 22 = .ok (.imul, 1) := by decide +kernel
theorem dX2_scaledHeight_23 : decode cX2_scaledHeight 23 = .ok (.goto 4, 3) := by decide +kernel
theorem dX2_scaledHeight_26 : decode cX2_scaledHeight 26 = .ok (.iconst 0, 1) := by decide +kernel
theorem dX2_scaledHeight_27 : decode cX2_scaledHeight 27 = .ok (.ireturn, 1) := by decide +kernel
theorem dX2_scaledWidth_0 : decode cX2_scaledWidth 0 = .ok (.iload_n 1, 1) := by decide +kernel
theorem dX2_scaledWidth_1 : decode cX2_scaledWidth 1 = .ok (.ifCond .lt 23, 3) := by decide +kernel
theorem dX2_scaledWidth_4 : decode cX2_scaledWidth 4 = .ok (.iload_n 1, 1) := by decide +kernel
theorem dX2_scaledWidth_5 : decode cX2_scaledWidth 5 = .ok (.bipush 6, 2) := by decide +kernel
theorem dX2_scaledWidth_7 : decode cX2_scaledWidth 7 = .ok (.if_icmp .ge 17, 3) := by decide +kernel
theorem dX2_scaledWidth_10 : decode cX2_scaledWidth 10 = .ok (.aload_n 0, 1) := by decide +kernel
theorem dX2_scaledWidth_11 : decode cX2_scaledWidth 11 = .ok (.getfield 15, 3) := by decide +kernel
theorem dX2_scaledWidth_14 : decode cX2_scaledWidth 14 = .ok (.iload_n 1, 1) := by decide +kernel
theorem dX2_scaledWidth_15 : decode cX2_scaledWidth 15 = .ok (.iaload, 1) := by decide +kernel
theorem dX2_scaledWidth_16 : decode cX2_scaledWidth 16 = .ok (.aload_n 0, 1) := by decide +kernel
theorem dX2_scaledWidth_17 : decode cX2_scaledWidth 17 = .ok (.getfield 31, 3) := by decide +kernel
theorem dX2_scaledWidth_20 : decode cX2_scaledWidth 20 = .ok (.imul, 1) := by decide +kernel
theorem dX2_scaledWidth_21 : decode cX2_scaledWidth 21 = .ok (.goto 4, 3) := by decide +kernel
theorem dX2_scaledWidth_24 : decode cX2_scaledWidth 24 = .ok (.iconst 0, 1) := by decide +kernel
theorem dX2_scaledWidth_25 : decode cX2_scaledWidth 25 = .ok (.ireturn, 1) := by decide +kernel
set_option maxRecDepth 20000 in
theorem ggX2_longUpper_X2_scaledHeight : GoodIn wsX2_longUpper wsX2_scaledHeight := goodIn_r _ [9, 10, 17, 18, 19, 20, 21, 22, 23] (by decide +kernel) (by decide +kernel)
set_option maxRecDepth 20000 in
theorem gX2_longUpper_X2_scaledHeight : GoodIn wsX2_longUpper (wsV RX2 57 RX2 yX2_scaledHeight wsX2_scaledHeight) := goodIn_app (goodIn_of _ (by decide +kernel)) ggX2_longUpper_X2_scaledHeight
set_option maxRecDepth 20000 in
theorem ggX2_longUpper_X2_scaledWidth : GoodIn wsX2_longUpper wsX2_scaledWidth := goodIn_r _ [14, 15, 16, 17, 18, 19, 20, 21, 22, 23] (by decide +kernel) (by decide +kernel)
set_option maxRecDepth 20000 in
theorem gX2_longUpper_X2_scaledWidth : GoodIn wsX2_longUpper (wsV RX2 60 RX2 yX2_scaledWidth wsX2_scaledWidth) := goodIn_app (goodIn_of _ (by decide +kernel)) ggX2_longUpper_X2_scaledWidth
theorem dX2_longUpper_0 : decode cX2_longUpper 0 = .ok (.aload_n 0, 1) := by decide +kernel
theorem dX2_longUpper_1 : decode cX2_longUpper 1 = .ok (.iload_n 1, 1) := by decide +kernel
theorem dX2_longUpper_2 : decode cX2_longUpper 2 = .ok (.invokevirtual 57, 3) := by decide +kernel
theorem dX2_longUpper_5 : decode cX2_longUpper 5 = .ok (.aload_n 0, 1) := by decide +kernel
theorem dX2_longUpper_6 : decode cX2_longUpper 6 = .ok (.iload_n 1, 1) := by decide +kernel
theorem dX2_longUpper_7 : decode cX2_longUpper 7 = .ok (.invokevirtual 60, 3) := by decide +kernel
theorem dX2_longUpper_10 : decode cX2_longUpper 10 = .ok (.invokestatic 48, 3) := by decide +kernel
theorem dX2_longUpper_13 : decode cX2_longUpper 13 = .ok (.ireturn, 1) := by decide +kernel
set_option maxRecDepth 20000 in
theorem ggX2_longLower_X2_scaledHeight : GoodIn wsX2_longLower wsX2_scaledHeight := goodIn_r _ [9, 10, 17, 18, 19, 20, 21, 22, 23] (by decide +kernel) (by decide +kernel)
set_option maxRecDepth 20000 in
theorem gX2_longLower_X2_scaledHeight : GoodIn wsX2_longLower (wsV RX2 57 RX2 yX2_scaledHeight wsX2_scaledHeight) := goodIn_app (goodIn_of _ (by decide +kernel)) ggX2_longLower_X2_scaledHeight
set_option maxRecDepth 20000 in
theorem ggX2_longLower_X2_scaledWidth : GoodIn wsX2_longLower wsX2_scaledWidth := goodIn_r _ [14, 15, 16, 17, 18, 19, 20, 21, 22, 23] (by decide +kernel) (by decide +kernel)
set_option maxRecDepth 20000 in
theorem gX2_longLower_X2_scaledWidth : GoodIn wsX2_longLower (wsV RX2 60 RX2 yX2_scaledWidth wsX2_scaledWidth) := goodIn_app (goodIn_of _ (by decide +kernel)) ggX2_longLower_X2_scaledWidth
theorem dX2_longLower_0 : decode cX2_longLower 0 = .ok (.aload_n 0, 1) := by decide +kernel
theorem dX2_longLower_1 : decode cX2_longLower 1 = .ok (.iload_n 1, 1) := by decide +kernel
theorem dX2_longLower_2 : decode cX2_longLower 2 = .ok (.invokevirtual 57, 3) := by decide +kernel
theorem dX2_longLower_5 : decode cX2_longLower 5 = .ok (.aload_n 0, 1) := by decide +kernel
theorem dX2_longLower_6 : decode cX2_longLower 6 = .ok (.iload_n 1, 1) := by decide +kernel
theorem dX2_longLower_7 : decode cX2_longLower 7 = .ok (.invokevirtual 60, 3) := by decide +kernel
theorem dX2_longLower_10 : decode cX2_longLower 10 = .ok (.invokestatic 63, 3) := by decide +kernel
theorem dX2_longLower_13 : decode cX2_longLower 13 = .ok (.ireturn, 1) := by decide +kernel
set_option maxRecDepth 20000 in
theorem ggX2_longestPlace_X2_longUpper : GoodIn wsX2_longestPlace wsX2_longUpper := goodIn_r _ [6, 7, 8, 9, 10, 11, 12, 13, 5, 14, 15, 16, 17, 18, 19, 20, 21, 29, 30, 31, 32, 33, 34, 35] (by decide +kernel) (by decide +kernel)
set_option maxRecDepth 20000 in
theorem gX2_longestPlace_X2_longUpper : GoodIn wsX2_longestPlace (wsV RX2 66 RX2 yX2_longUpper wsX2_longUpper) := goodIn_app (goodIn_of _ (by decide +kernel)) ggX2_longestPlace_X2_longUpper
set_option maxRecDepth 20000 in
theorem ggX2_longestPlace_X2_longLower : GoodIn wsX2_longestPlace wsX2_longLower := goodIn_r _ [25, 26, 27, 9, 28, 11, 12, 13, 5, 14, 15, 16, 17, 18, 19, 20, 21, 29, 30, 31, 32, 33, 34, 35] (by decide +kernel) (by decide +kernel)
set_option maxRecDepth 20000 in
theorem gX2_longestPlace_X2_longLower : GoodIn wsX2_longestPlace (wsV RX2 69 RX2 yX2_longLower wsX2_longLower) := goodIn_app (goodIn_of _ (by decide +kernel)) ggX2_longestPlace_X2_longLower
theorem dX2_longestPlace_0 : decode cX2_longestPlace 0 = .ok (.iconst 0, 1) := by decide +kernel
theorem dX2_longestPlace_1 : decode cX2_longestPlace 1 = .ok (.istore_n 1, 1) := by decide +kernel
theorem dX2_longestPlace_2 : decode cX2_longestPlace 2 = .ok (.iconst 1, 1) := by decide +kernel
theorem dX2_longestPlace_3 : decode cX2_longestPlace 3 = .ok (.istore_n 2, 1) := by decide +kernel
theorem dX2_longestPlace_4 : decode cX2_longestPlace 4 = .ok (.iload_n 2, 1) := by decide +kernel
theorem dX2_longestPlace_5 : decode cX2_longestPlace 5 = .ok (.aload_n 0, 1) := by decide +kernel
theorem dX2_longestPlace_6 : decode cX2_longestPlace 6 = .ok (.getfield 27, 3) := by decide +kernel
theorem dX2_longestPlace_9 : decode cX2_longestPlace 9 = .ok (.if_icmp .ge 36, 3) := by decide +kernel
theorem dX2_longestPlace_12 : decode cX2_longestPlace 12 = .ok (.aload_n 0, 1) := by decide +kernel
theorem dX2_longestPlace_13 : decode cX2_longestPlace 13 = .ok (.iload_n 2, 1) := by decide +kernel
theorem dX2_longestPlace_14 : decode cX2_longestPlace 14 = .ok (.invokevirtual 66, 3) := by decide +kernel
theorem dX2_longestPlace_17 : decode cX2_longestPlace 17 = .ok (.aload_n 0, 1) := by decide +kernel
theorem dX2_longestPlace_18 : decode cX2_longestPlace 18 = .ok (.iload_n 1, 1) := by decide +kernel
theorem dX2_longestPlace_19 : decode cX2_longestPlace 19 = .ok (.invokevirtual 69, 3) := by decide +kernel
theorem dX2_longestPlace_22 : decode cX2_longestPlace 22 = .ok (.imul, 1) := by decide +kernel
theorem dX2_longestPlace_23 : decode cX2_longestPlace 23 = .ok (.aload_n 0, 1) := by decide +kernel
theorem dX2_longestPlace_24 : decode cX2_longestPlace 24 = .ok (.iload_n 1, 1) := by decide +kernel
theorem dX2_longestPlace_25 : decode cX2_longestPlace 25 = .ok (.invokevirtual 66, 3) := by decide +kernel
theorem dX2_longestPlace_28 : decode cX2_longestPlace 28 = .ok (.aload_n 0, 1) := by decide +kernel
theorem dX2_longestPlace_29 : decode cX2_longestPlace 29 = .ok (.iload_n 2, 1) := by decide +kernel
theorem dX2_longestPlace_30 : decode cX2_longestPlace 30 = .ok (.invokevirtual 69, 3) := by decide +kernel
theorem dX2_longestPlace_33 : decode cX2_longestPlace 33 = .ok (.imul, 1) := by decide +kernel
theorem dX2_longestPlace_34 : decode cX2_longestPlace 34 = .ok (.if_icmp .le 5, 3) := by decide +kernel
theorem dX2_longestPlace_37 : decode cX2_longestPlace 37 = .ok (.iload_n 2, 1) := by decide +kernel
theorem dX2_longestPlace_38 : decode cX2_longestPlace 38 = .ok (.istore_n 1, 1) := by decide +kernel
theorem dX2_longestPlace_39 : decode cX2_longestPlace 39 = .ok (.iinc 2 1, 3) := by decide +kernel
theorem dX2_longestPlace_42 : decode cX2_longestPlace 42 = .ok (.goto (-38), 3) := by decide +kernel
theorem dX2_longestPlace_45 : decode cX2_longestPlace 45 = .ok (.iload_n 1, 1) := by decide +kernel
theorem dX2_longestPlace_46 : decode cX2_longestPlace 46 = .ok (.ireturn, 1) := by decide +kernel
set_option maxRecDepth 20000 in
theorem ggX2_bestCuts_X2_lay : GoodIn wsX2_bestCuts wsX2_lay := goodIn_r _ [10, 1, 11, 12, 13, 9, 14, 2, 3, 4, 5, 15, 16, 17, 18, 43, 44, 45, 46, 47, 48, 49] (by decide +kernel) (by decide +kernel)
set_option maxRecDepth 20000 in
theorem gX2_bestCuts_X2_lay : GoodIn wsX2_bestCuts (wsV RX2 72 RX2 yX2_lay wsX2_lay) := goodIn_app (goodIn_of _ (by decide +kernel)) ggX2_bestCuts_X2_lay
set_option maxRecDepth 20000 in
theorem ggX2_bestCuts_X2_longestPlace : GoodIn wsX2_bestCuts wsX2_longestPlace := goodIn_r _ [22, 1, 23, 24, 25, 9, 26, 2, 3, 4, 5, 27, 28, 29, 30, 18, 31, 32, 33, 34, 17, 35, 36, 37, 38, 39, 40, 41, 42, 43, 44, 45, 46, 47, 48, 49] (by decide +kernel) (by decide +kernel)
set_option maxRecDepth 20000 in
theorem gX2_bestCuts_X2_longestPlace : GoodIn wsX2_bestCuts (wsV RX2 76 RX2 yX2_longestPlace wsX2_longestPlace) := goodIn_app (goodIn_of _ (by decide +kernel)) ggX2_bestCuts_X2_longestPlace
set_option maxRecDepth 20000 in
theorem ggX2_bestCuts_X2_longUpper : GoodIn wsX2_bestCuts wsX2_longUpper := goodIn_r _ [26, 2, 3, 4, 5, 27, 28, 29, 9, 30, 18, 31, 32, 33, 34, 17, 35, 43, 44, 45, 46, 47, 48, 49] (by decide +kernel) (by decide +kernel)
set_option maxRecDepth 20000 in
theorem gX2_bestCuts_X2_longUpper : GoodIn wsX2_bestCuts (wsV RX2 66 RX2 yX2_longUpper wsX2_longUpper) := goodIn_app (goodIn_of _ (by decide +kernel)) ggX2_bestCuts_X2_longUpper
set_option maxRecDepth 20000 in
theorem ggX2_bestCuts_X2_longLower : GoodIn wsX2_bestCuts wsX2_longLower := goodIn_r _ [39, 40, 41, 4, 42, 27, 28, 29, 9, 30, 18, 31, 32, 33, 34, 17, 35, 43, 44, 45, 46, 47, 48, 49] (by decide +kernel) (by decide +kernel)
set_option maxRecDepth 20000 in
theorem gX2_bestCuts_X2_longLower : GoodIn wsX2_bestCuts (wsV RX2 69 RX2 yX2_longLower wsX2_longLower) := goodIn_app (goodIn_of _ (by decide +kernel)) ggX2_bestCuts_X2_longLower
theorem dX2_bestCuts_0 : decode cX2_bestCuts 0 = .ok (.iconst 0, 1) := by decide +kernel
theorem dX2_bestCuts_1 : decode cX2_bestCuts 1 = .ok (.istore_n 1, 1) := by decide +kernel
theorem dX2_bestCuts_2 : decode cX2_bestCuts 2 = .ok (.iconst 0, 1) := by decide +kernel
theorem dX2_bestCuts_3 : decode cX2_bestCuts 3 = .ok (.istore_n 2, 1) := by decide +kernel
theorem dX2_bestCuts_4 : decode cX2_bestCuts 4 = .ok (.iconst 0, 1) := by decide +kernel
theorem dX2_bestCuts_5 : decode cX2_bestCuts 5 = .ok (.istore_n 3, 1) := by decide +kernel
theorem dX2_bestCuts_6 : decode cX2_bestCuts 6 = .ok (.iconst 0, 1) := by decide +kernel
theorem dX2_bestCuts_7 : decode cX2_bestCuts 7 = .ok (.istore 4, 2) := by decide +kernel
theorem dX2_bestCuts_9 : decode cX2_bestCuts 9 = .ok (.iload 4, 2) := by decide +kernel
theorem dX2_bestCuts_11 : decode cX2_bestCuts 11 = .ok (.iconst 1, 1) := by decide +kernel
theorem dX2_bestCuts_12 : decode cX2_bestCuts 12 = .ok (.aload_n 0, 1) := by decide +kernel
theorem dX2_bestCuts_13 : decode cX2_bestCuts 13 = .ok (.getfield 27, 3) := by decide +kernel
theorem dX2_bestCuts_16 : decode cX2_bestCuts 16 = .ok (.iconst 1, 1) := by decide +kernel
theorem dX2_bestCuts_17 : decode cX2_bestCuts 17 = .ok (.isub, 1) := by decide +kernel
theorem dX2_bestCuts_18 : decode cX2_bestCuts 18 = .ok (.iconst 0, 1) := by decide +kernel
theorem dX2_bestCuts_19 : decode cX2_bestCuts 19 = .ok (.invokestatic 48, 3) := by decide +kernel
theorem dX2_bestCuts_22 : decode cX2_bestCuts 22 = .ok (.ishl, 1) := by decide +kernel
theorem dX2_bestCuts_23 : decode cX2_bestCuts 23 = .ok (.if_icmp .ge 60, 3) := by decide +kernel
theorem dX2_bestCuts_26 : decode cX2_bestCuts 26 = .ok (.aload_n 0, 1) := by decide +kernel
theorem dX2_bestCuts_27 : decode cX2_bestCuts 27 = .ok (.iload 4, 2) := by decide +kernel
theorem dX2_bestCuts_29 : decode cX2_bestCuts 29 = .ok (.invokevirtual 72, 3) := by decide +kernel
theorem dX2_bestCuts_32 : decode cX2_bestCuts 32 = .ok (.aload_n 0, 1) := by decide +kernel
theorem dX2_bestCuts_33 : decode cX2_bestCuts 33 = .ok (.aload_n 0, 1) := by decide +kernel
theorem dX2_bestCuts_34 : decode cX2_bestCuts 34 = .ok (.invokevirtual 76, 3) := by decide +kernel
theorem dX2_bestCuts_37 : decode cX2_bestCuts 37 = .ok (.invokevirtual 66, 3) := by decide +kernel
theorem dX2_bestCuts_40 : decode cX2_bestCuts 40 = .ok (.istore 5, 2) := by decide +kernel
theorem dX2_bestCuts_42 : decode cX2_bestCuts 42 = .ok (.aload_n 0, 1) := by decide +kernel
theorem dX2_bestCuts_43 : decode cX2_bestCuts 43 = .ok (.aload_n 0, 1) := by decide +kernel
theorem dX2_bestCuts_44 : decode cX2_bestCuts 44 = .ok (.invokevirtual 76, 3) := by decide +kernel
theorem dX2_bestCuts_47 : decode cX2_bestCuts 47 = .ok (.invokevirtual 69, 3) := by decide +kernel
theorem dX2_bestCuts_50 : decode cX2_bestCuts 50 = .ok (.istore 6, 2) := by decide +kernel
theorem dX2_bestCuts_52 : decode cX2_bestCuts 52 = .ok (.iload 4, 2) := by decide +kernel
theorem dX2_bestCuts_54 : decode cX2_bestCuts 54 = .ok (.ifCond .eq 14, 3) := by decide +kernel
theorem dX2_bestCuts_57 : decode cX2_bestCuts 57 = .ok (.iload 5, 2) := by decide +kernel
theorem dX2_bestCuts_59 : decode cX2_bestCuts 59 = .ok (.iload_n 3, 1) := by decide +kernel
theorem dX2_bestCuts_60 : decode cX2_bestCuts 60 = .ok (.imul, 1) := by decide +kernel
theorem dX2_bestCuts_61 : decode cX2_bestCuts 61 = .ok (.iload_n 2, 1) := by decide +kernel
theorem dX2_bestCuts_62 : decode cX2_bestCuts 62 = .ok (.iload 6, 2) := by decide +kernel
theorem dX2_bestCuts_64 : decode cX2_bestCuts 64 = .ok (.imul, 1) := by decide +kernel
theorem dX2_bestCuts_65 : decode cX2_bestCuts 65 = .ok (.if_icmp .ge 12, 3) := by decide +kernel
theorem dX2_bestCuts_68 : decode cX2_bestCuts 68 = .ok (.iload 4, 2) := by decide +kernel
theorem dX2_bestCuts_70 : decode cX2_bestCuts 70 = .ok (.istore_n 1, 1) := by decide +kernel
theorem dX2_bestCuts_71 : decode cX2_bestCuts 71 = .ok (.iload 5, 2) := by decide +kernel
theorem dX2_bestCuts_73 : decode cX2_bestCuts 73 = .ok (.istore_n 2, 1) := by decide +kernel
theorem dX2_bestCuts_74 : decode cX2_bestCuts 74 = .ok (.iload 6, 2) := by decide +kernel
theorem dX2_bestCuts_76 : decode cX2_bestCuts 76 = .ok (.istore_n 3, 1) := by decide +kernel
theorem dX2_bestCuts_77 : decode cX2_bestCuts 77 = .ok (.iinc 4 1, 3) := by decide +kernel
theorem dX2_bestCuts_80 : decode cX2_bestCuts 80 = .ok (.goto (-71), 3) := by decide +kernel
theorem dX2_bestCuts_83 : decode cX2_bestCuts 83 = .ok (.iload_n 1, 1) := by decide +kernel
theorem dX2_bestCuts_84 : decode cX2_bestCuts 84 = .ok (.ireturn, 1) := by decide +kernel
set_option maxRecDepth 20000 in
theorem ggX3_init_X0_init : GoodIn wsX3_init wsX0_init := goodIn_r _ [22, 23, 2, 3, 24, 25, 50, 51, 52] (by decide +kernel) (by decide +kernel)
set_option maxRecDepth 20000 in
theorem gX3_init_X0_init_n11 : GoodIn wsX3_init (wsX0_init) := ggX3_init_X0_init
set_option maxRecDepth 20000 in
theorem ggX3_init_X1_init : GoodIn wsX3_init wsX1_init := goodIn_r _ [27, 28, 2, 3, 17, 29, 30, 61, 62, 63, 64, 65] (by decide +kernel) (by decide +kernel)
set_option maxRecDepth 20000 in
theorem gX3_init_X1_init_n18 : GoodIn wsX3_init (wsX1_init) := ggX3_init_X1_init
set_option maxRecDepth 20000 in
theorem ggX3_init_X2_init : GoodIn wsX3_init wsX2_init := goodIn_r _ [32, 33, 2, 3, 17, 34, 35, 36, 37, 38, 66, 67, 68, 69, 70, 71, 72] (by decide +kernel) (by decide +kernel)
set_option maxRecDepth 20000 in
theorem gX3_init_X2_init_n25 : GoodIn wsX3_init (wsX2_init) := ggX3_init_X2_init
set_option maxRecDepth 20000 in
theorem ggX3_init_X0_clear : GoodIn wsX3_init wsX0_clear := goodIn_r _ [42, 43, 44, 25, 50, 51, 52] (by decide +kernel) (by decide +kernel)
set_option maxRecDepth 20000 in
theorem gX3_init_X0_clear : GoodIn wsX3_init (wsV RX3 44 RX0 yX0_clear wsX0_clear) := goodIn_app (goodIn_of _ (by decide +kernel)) ggX3_init_X0_clear
set_option maxRecDepth 20000 in
theorem ggX3_init_X3_forgetKinds : GoodIn wsX3_init wsX3_forgetKinds := goodIn_r _ [49, 18, 19, 53, 54, 55, 56, 57, 58, 59, 60] (by decide +kernel) (by decide +kernel)
set_option maxRecDepth 20000 in
theorem gX3_init_X3_forgetKinds : GoodIn wsX3_init (wsV RX3 48 RX3 yX3_forgetKinds wsX3_forgetKinds) := goodIn_app (goodIn_of _ (by decide +kernel)) ggX3_init_X3_forgetKinds
theorem dX3_init_0 : decode cX3_init 0 = .ok (.aload_n 0, 1) := by decide +kernel
theorem dX3_init_1 : decode cX3_init 1 = .ok (.invokespecial 3, 3) := by decide +kernel
theorem dX3_init_4 : decode cX3_init 4 = .ok (.aload_n 0, 1) := by decide +kernel
theorem dX3_init_5 : decode cX3_init 5 = .ok (.new 9, 3) := by decide +kernel
theorem dX3_init_8 : decode cX3_init 8 = .ok (.dup, 1) := by decide +kernel
theorem dX3_init_9 : decode cX3_init 9 = .ok (.invokespecial 11, 3) := by decide +kernel
theorem dX3_init_12 : decode cX3_init 12 = .ok (.putfield 12, 3) := by decide +kernel
theorem dX3_init_15 : decode cX3_init 15 = .ok (.aload_n 0, 1) := by decide +kernel
theorem dX3_init_16 : decode cX3_init 16 = .ok (.new 16, 3) := by decide +kernel
theorem dX3_init_19 : decode cX3_init 19 = .ok (.dup, 1) := by decide +kernel
theorem dX3_init_20 : decode cX3_init 20 = .ok (.invokespecial 18, 3) := by decide +kernel
theorem dX3_init_23 : decode cX3_init 23 = .ok (.putfield 19, 3) := by decide +kernel
theorem dX3_init_26 : decode cX3_init 26 = .ok (.aload_n 0, 1) := by decide +kernel
theorem dX3_init_27 : decode cX3_init 27 = .ok (.new 23, 3) := by decide +kernel
theorem dX3_init_30 : decode cX3_init 30 = .ok (.dup, 1) := by decide +kernel
theorem dX3_init_31 : decode cX3_init 31 = .ok (.invokespecial 25, 3) := by decide +kernel
theorem dX3_init_34 : decode cX3_init 34 = .ok (.putfield 26, 3) := by decide +kernel
theorem dX3_init_37 : decode cX3_init 37 = .ok (.aload_n 0, 1) := by decide +kernel
theorem dX3_init_38 : decode cX3_init 38 = .ok (.iconst 4, 1) := by decide +kernel
theorem dX3_init_39 : decode cX3_init 39 = .ok (.anewarray 9, 3) := by decide +kernel
theorem dX3_init_42 : decode cX3_init 42 = .ok (.putfield 30, 3) := by decide +kernel
theorem dX3_init_45 : decode cX3_init 45 = .ok (.aload_n 0, 1) := by decide +kernel
theorem dX3_init_46 : decode cX3_init 46 = .ok (.bipush 6, 2) := by decide +kernel
theorem dX3_init_48 : decode cX3_init 48 = .ok (.newarray .int, 2) := by decide +kernel
theorem dX3_init_50 : decode cX3_init 50 = .ok (.putfield 34, 3) := by decide +kernel
theorem dX3_init_53 : decode cX3_init 53 = .ok (.aload_n 0, 1) := by decide +kernel
theorem dX3_init_54 : decode cX3_init 54 = .ok (.bipush 6, 2) := by decide +kernel
theorem dX3_init_56 : decode cX3_init 56 = .ok (.newarray .int, 2) := by decide +kernel
theorem dX3_init_58 : decode cX3_init 58 = .ok (.putfield 38, 3) := by decide +kernel
theorem dX3_init_61 : decode cX3_init 61 = .ok (.aload_n 0, 1) := by decide +kernel
theorem dX3_init_62 : decode cX3_init 62 = .ok (.bipush 6, 2) := by decide +kernel
theorem dX3_init_64 : decode cX3_init 64 = .ok (.newarray .int, 2) := by decide +kernel
theorem dX3_init_66 : decode cX3_init 66 = .ok (.putfield 41, 3) := by decide +kernel
theorem dX3_init_69 : decode cX3_init 69 = .ok (.aload_n 0, 1) := by decide +kernel
theorem dX3_init_70 : decode cX3_init 70 = .ok (.getfield 12, 3) := by decide +kernel
theorem dX3_init_73 : decode cX3_init 73 = .ok (.iconst 4, 1) := by decide +kernel
theorem dX3_init_74 : decode cX3_init 74 = .ok (.iconst 4, 1) := by decide +kernel
theorem dX3_init_75 : decode cX3_init 75 = .ok (.invokevirtual 44, 3) := by decide +kernel
theorem dX3_init_78 : decode cX3_init 78 = .ok (.aload_n 0, 1) := by decide +kernel
theorem dX3_init_79 : decode cX3_init 79 = .ok (.invokevirtual 48, 3) := by decide +kernel
theorem dX3_init_82 : decode cX3_init 82 = .ok (.return_, 1) := by decide +kernel
set_option maxRecDepth 20000 in
theorem ggX3_board_X0_clear : GoodIn wsX3_board wsX0_clear := goodIn_r _ [7, 8, 9, 10, 32, 33, 34] (by decide +kernel) (by decide +kernel)
set_option maxRecDepth 20000 in
theorem gX3_board_X0_clear : GoodIn wsX3_board (wsV RX3 44 RX0 yX0_clear wsX0_clear) := goodIn_app (goodIn_of _ (by decide +kernel)) ggX3_board_X0_clear
set_option maxRecDepth 20000 in
theorem ggX3_board_X3_forgetKinds : GoodIn wsX3_board wsX3_forgetKinds := goodIn_r _ [15, 16, 17, 24, 25, 26, 27, 28, 29, 30, 31] (by decide +kernel) (by decide +kernel)
set_option maxRecDepth 20000 in
theorem gX3_board_X3_forgetKinds : GoodIn wsX3_board (wsV RX3 48 RX3 yX3_forgetKinds wsX3_forgetKinds) := goodIn_app (goodIn_of _ (by decide +kernel)) ggX3_board_X3_forgetKinds
set_option maxRecDepth 20000 in
theorem ggX3_board_X1_forget : GoodIn wsX3_board wsX1_forget := goodIn_r _ [22, 23, 35, 36, 37, 38, 39] (by decide +kernel) (by decide +kernel)
set_option maxRecDepth 20000 in
theorem gX3_board_X1_forget : GoodIn wsX3_board (wsV RX3 51 RX1 yX1_forget wsX1_forget) := goodIn_app (goodIn_of _ (by decide +kernel)) ggX3_board_X1_forget
theorem dX3_board_0 : decode cX3_board 0 = .ok (.iload_n 1, 1) := by decide +kernel
theorem dX3_board_1 : decode cX3_board 1 = .ok (.iconst 1, 1) := by decide +kernel
theorem dX3_board_2 : decode cX3_board 2 = .ok (.if_icmp .lt 20, 3) := by decide +kernel
theorem dX3_board_5 : decode cX3_board 5 = .ok (.iload_n 1, 1) := by decide +kernel
theorem dX3_board_6 : decode cX3_board 6 = .ok (.bipush 8, 2) := by decide +kernel
theorem dX3_board_8 : decode cX3_board 8 = .ok (.if_icmp .gt 14, 3) := by decide +kernel
theorem dX3_board_11 : decode cX3_board 11 = .ok (.iload_n 2, 1) := by decide +kernel
theorem dX3_board_12 : decode cX3_board 12 = .ok (.iconst 1, 1) := by decide +kernel
theorem dX3_board_13 : decode cX3_board 13 = .ok (.if_icmp .lt 9, 3) := by decide +kernel
theorem dX3_board_16 : decode cX3_board 16 = .ok (.iload_n 2, 1) := by decide +kernel
theorem dX3_board_17 : decode cX3_board 17 = .ok (.bipush 8, 2) := by decide +kernel
theorem dX3_board_19 : decode cX3_board 19 = .ok (.if_icmp .le 5, 3) := by decide +kernel
theorem dX3_board_22 : decode cX3_board 22 = .ok (.iconst (-1), 1) := by decide +kernel
theorem dX3_board_23 : decode cX3_board 23 = .ok (.ireturn, 1) := by decide +kernel
theorem dX3_board_24 : decode cX3_board 24 = .ok (.aload_n 0, 1) := by decide +kernel
theorem dX3_board_25 : decode cX3_board 25 = .ok (.getfield 12, 3) := by decide +kernel
theorem dX3_board_28 : decode cX3_board 28 = .ok (.iload_n 1, 1) := by decide +kernel
theorem dX3_board_29 : decode cX3_board 29 = .ok (.iload_n 2, 1) := by decide +kernel
theorem dX3_board_30 : decode cX3_board 30 = .ok (.invokevirtual 44, 3) := by decide +kernel
theorem dX3_board_33 : decode cX3_board 33 = .ok (.aload_n 0, 1) := by decide +kernel
theorem dX3_board_34 : decode cX3_board 34 = .ok (.invokevirtual 48, 3) := by decide +kernel
theorem dX3_board_37 : decode cX3_board 37 = .ok (.aload_n 0, 1) := by decide +kernel
theorem dX3_board_38 : decode cX3_board 38 = .ok (.getfield 19, 3) := by decide +kernel
theorem dX3_board_41 : decode cX3_board 41 = .ok (.invokevirtual 51, 3) := by decide +kernel
theorem dX3_board_44 : decode cX3_board 44 = .ok (.iload_n 1, 1) := by decide +kernel
theorem dX3_board_45 : decode cX3_board 45 = .ok (.iload_n 2, 1) := by decide +kernel
theorem dX3_board_46 : decode cX3_board 46 = .ok (.imul, 1) := by decide +kernel
theorem dX3_board_47 : decode cX3_board 47 = .ok (.ireturn, 1) := by decide +kernel
set_option maxRecDepth 20000 in
theorem ggX3_set_X0_has : GoodIn wsX3_set wsX0_has := goodIn_r _ [7, 8, 9, 46, 47, 48] (by decide +kernel) (by decide +kernel)
set_option maxRecDepth 20000 in
theorem gX3_set_X0_has : GoodIn wsX3_set (wsV RX3 54 RX0 yX0_has wsX0_has) := goodIn_app (goodIn_of _ (by decide +kernel)) ggX3_set_X0_has
set_option maxRecDepth 20000 in
theorem ggX3_set_X3_isLandOrSea : GoodIn wsX3_set wsX3_isLandOrSea := goodIn_r _ [13, 14, 15, 12, 16] (by decide +kernel) (by decide +kernel)
set_option maxRecDepth 20000 in
theorem gX3_set_X3_isLandOrSea : GoodIn wsX3_set (va_wsS RX3 58 yX3_isLandOrSea wsX3_isLandOrSea) := goodIn_app (goodIn_of _ (by decide +kernel)) ggX3_set_X3_isLandOrSea
set_option maxRecDepth 20000 in
theorem ggX3_set_X3_cellAt : GoodIn wsX3_set wsX3_cellAt := goodIn_r _ [19] (by decide +kernel) (by decide +kernel)
set_option maxRecDepth 20000 in
theorem gX3_set_X3_cellAt : GoodIn wsX3_set (va_wsS RX3 62 yX3_cellAt wsX3_cellAt) := goodIn_app (goodIn_of _ (by decide +kernel)) ggX3_set_X3_cellAt
set_option maxRecDepth 20000 in
theorem ggX3_set_X0_landOf : GoodIn wsX3_set wsX0_landOf := goodIn_r _ [23, 24, 25, 12, 26, 46, 47, 48] (by decide +kernel) (by decide +kernel)
set_option maxRecDepth 20000 in
theorem gX3_set_X0_landOf : GoodIn wsX3_set (wsV RX3 66 RX0 yX0_landOf wsX0_landOf) := goodIn_app (goodIn_of _ (by decide +kernel)) ggX3_set_X0_landOf
set_option maxRecDepth 20000 in
theorem ggX3_set_X0_put : GoodIn wsX3_set wsX0_put := goodIn_r _ [30, 24, 31, 25, 12, 26, 46, 47, 48] (by decide +kernel) (by decide +kernel)
set_option maxRecDepth 20000 in
theorem gX3_set_X0_put : GoodIn wsX3_set (wsV RX3 70 RX0 yX0_put wsX0_put) := goodIn_app (goodIn_of _ (by decide +kernel)) ggX3_set_X0_put
set_option maxRecDepth 20000 in
theorem ggX3_set_X1_forget : GoodIn wsX3_set wsX1_forget := goodIn_r _ [36, 37, 49, 50, 51, 52, 53] (by decide +kernel) (by decide +kernel)
set_option maxRecDepth 20000 in
theorem gX3_set_X1_forget : GoodIn wsX3_set (wsV RX3 51 RX1 yX1_forget wsX1_forget) := goodIn_app (goodIn_of _ (by decide +kernel)) ggX3_set_X1_forget
theorem dX3_set_0 : decode cX3_set 0 = .ok (.aload_n 0, 1) := by decide +kernel
theorem dX3_set_1 : decode cX3_set 1 = .ok (.getfield 12, 3) := by decide +kernel
theorem dX3_set_4 : decode cX3_set 4 = .ok (.iload_n 1, 1) := by decide +kernel
theorem dX3_set_5 : decode cX3_set 5 = .ok (.iload_n 2, 1) := by decide +kernel
theorem dX3_set_6 : decode cX3_set 6 = .ok (.invokevirtual 54, 3) := by decide +kernel
theorem dX3_set_9 : decode cX3_set 9 = .ok (.ifCond .eq 10, 3) := by decide +kernel
theorem dX3_set_12 : decode cX3_set 12 = .ok (.iload_n 3, 1) := by decide +kernel
theorem dX3_set_13 : decode cX3_set 13 = .ok (.invokestatic 58, 3) := by decide +kernel
theorem dX3_set_16 : decode cX3_set 16 = .ok (.ifCond .ne 5, 3) := by decide +kernel
theorem dX3_set_19 : decode cX3_set 19 = .ok (.iconst (-1), 1) := by decide +kernel
theorem dX3_set_20 : decode cX3_set 20 = .ok (.ireturn, 1) := by decide +kernel
theorem dX3_set_21 : decode cX3_set 21 = .ok (.aload_n 0, 1) := by decide +kernel
theorem dX3_set_22 : decode cX3_set 22 = .ok (.getfield 12, 3) := by decide +kernel
theorem dX3_set_25 : decode cX3_set 25 = .ok (.iload_n 1, 1) := by decide +kernel
theorem dX3_set_26 : decode cX3_set 26 = .ok (.iload_n 2, 1) := by decide +kernel
theorem dX3_set_27 : decode cX3_set 27 = .ok (.invokestatic 62, 3) := by decide +kernel
theorem dX3_set_30 : decode cX3_set 30 = .ok (.invokevirtual 66, 3) := by decide +kernel
theorem dX3_set_33 : decode cX3_set 33 = .ok (.istore 4, 2) := by decide +kernel
theorem dX3_set_35 : decode cX3_set 35 = .ok (.aload_n 0, 1) := by decide +kernel
theorem dX3_set_36 : decode cX3_set 36 = .ok (.getfield 12, 3) := by decide +kernel
theorem dX3_set_39 : decode cX3_set 39 = .ok (.iload_n 1, 1) := by decide +kernel
theorem dX3_set_40 : decode cX3_set 40 = .ok (.iload_n 2, 1) := by decide +kernel
theorem dX3_set_41 : decode cX3_set 41 = .ok (.invokestatic 62, 3) := by decide +kernel
theorem dX3_set_44 : decode cX3_set 44 = .ok (.iload_n 3, 1) := by decide +kernel
theorem dX3_set_45 : decode cX3_set 45 = .ok (.invokevirtual 70, 3) := by decide +kernel
theorem dX3_set_48 : decode cX3_set 48 = .ok (.aload_n 0, 1) := by decide +kernel
theorem dX3_set_49 : decode cX3_set 49 = .ok (.getfield 19, 3) := by decide +kernel
theorem dX3_set_52 : decode cX3_set 52 = .ok (.invokevirtual 51, 3) := by decide +kernel
theorem dX3_set_55 : decode cX3_set 55 = .ok (.iload 4, 2) := by decide +kernel
theorem dX3_set_57 : decode cX3_set 57 = .ok (.ireturn, 1) := by decide +kernel
set_option maxRecDepth 20000 in
theorem ggX3_at_X0_has : GoodIn wsX3_at wsX0_has := goodIn_r _ [6, 7, 8, 28, 29, 30] (by decide +kernel) (by decide +kernel)
set_option maxRecDepth 20000 in
theorem gX3_at_X0_has : GoodIn wsX3_at (wsV RX3 54 RX0 yX0_has wsX0_has) := goodIn_app (goodIn_of _ (by decide +kernel)) ggX3_at_X0_has
set_option maxRecDepth 20000 in
theorem ggX3_at_X3_cellAt : GoodIn wsX3_at wsX3_cellAt := goodIn_r _ [12] (by decide +kernel) (by decide +kernel)
set_option maxRecDepth 20000 in
theorem gX3_at_X3_cellAt : GoodIn wsX3_at (va_wsS RX3 62 yX3_cellAt wsX3_cellAt) := goodIn_app (goodIn_of _ (by decide +kernel)) ggX3_at_X3_cellAt
set_option maxRecDepth 20000 in
theorem ggX3_at_X0_landOf : GoodIn wsX3_at wsX0_landOf := goodIn_r _ [16, 17, 18, 11, 19, 28, 29, 30] (by decide +kernel) (by decide +kernel)
set_option maxRecDepth 20000 in
theorem gX3_at_X0_landOf : GoodIn wsX3_at (wsV RX3 66 RX0 yX0_landOf wsX0_landOf) := goodIn_app (goodIn_of _ (by decide +kernel)) ggX3_at_X0_landOf
theorem dX3_at_0 : decode cX3_at 0 = .ok (.aload_n 0, 1) := by decide +kernel
theorem dX3_at_1 : decode cX3_at 1 = .ok (.getfield 12, 3) := by decide +kernel
theorem dX3_at_4 : decode cX3_at 4 = .ok (.iload_n 1, 1) := by decide +kernel
theorem dX3_at_5 : decode cX3_at 5 = .ok (.iload_n 2, 1) := by decide +kernel
theorem dX3_at_6 : decode cX3_at 6 = .ok (.invokevirtual 54, 3) := by decide +kernel
theorem dX3_at_9 : decode cX3_at 9 = .ok (.ifCond .eq 18, 3) := by decide +kernel
theorem dX3_at_12 : decode cX3_at 12 = .ok (.aload_n 0, 1) := by decide +kernel
theorem dX3_at_13 : decode cX3_at 13 = .ok (.getfield 12, 3) := by decide +kernel
theorem dX3_at_16 : decode cX3_at 16 = .ok (.iload_n 1, 1) := by decide +kernel
theorem dX3_at_17 : decode cX3_at 17 = .ok (.iload_n 2, 1) := by decide +kernel
theorem dX3_at_18 : decode cX3_at 18 = .ok (.invokestatic 62, 3) := by decide +kernel
theorem dX3_at_21 : decode cX3_at 21 = .ok (.invokevirtual 66, 3) := by decide +kernel
theorem dX3_at_24 : decode cX3_at 24 = .ok (.goto 4, 3) := by decide +kernel
theorem dX3_at_27 : decode cX3_at 27 = .ok (.iconst (-1), 1) := by decide +kernel
theorem dX3_at_28 : decode cX3_at 28 = .ok (.ireturn, 1) := by decide +kernel
set_option maxRecDepth 20000 in
theorem ggX3_size_X3_isLand : GoodIn wsX3_size wsX3_isLand := goodIn_r _ [5] (by decide +kernel) (by decide +kernel)
set_option maxRecDepth 20000 in
theorem gX3_size_X3_isLand : GoodIn wsX3_size (va_wsS RX3 73 yX3_isLand wsX3_isLand) := goodIn_app (goodIn_of _ (by decide +kernel)) ggX3_size_X3_isLand
set_option maxRecDepth 20000 in
theorem ggX3_size_X0_sizeOf : GoodIn wsX3_size wsX0_sizeOf := goodIn_r _ [10, 11, 12, 13, 9, 14, 15, 3, 4, 5, 16, 17, 18, 19, 20, 21, 22, 31, 32, 33] (by decide +kernel) (by decide +kernel)
set_option maxRecDepth 20000 in
theorem gX3_size_X0_sizeOf : GoodIn wsX3_size (wsV RX3 76 RX0 yX0_sizeOf wsX0_sizeOf) := goodIn_app (goodIn_of _ (by decide +kernel)) ggX3_size_X0_sizeOf
theorem dX3_size_0 : decode cX3_size 0 = .ok (.iload_n 1, 1) := by decide +kernel
theorem dX3_size_1 : decode cX3_size 1 = .ok (.invokestatic 73, 3) := by decide +kernel
theorem dX3_size_4 : decode cX3_size 4 = .ok (.ifCond .eq 14, 3) := by decide +kernel
theorem dX3_size_7 : decode cX3_size 7 = .ok (.aload_n 0, 1) := by decide +kernel
theorem dX3_size_8 : decode cX3_size 8 = .ok (.getfield 12, 3) := by decide +kernel
theorem dX3_size_11 : decode cX3_size 11 = .ok (.iload_n 1, 1) := by decide +kernel
theorem dX3_size_12 : decode cX3_size 12 = .ok (.invokevirtual 76, 3) := by decide +kernel
theorem dX3_size_15 : decode cX3_size 15 = .ok (.goto 4, 3) := by decide +kernel
theorem dX3_size_18 : decode cX3_size 18 = .ok (.iconst (-1), 1) := by decide +kernel
theorem dX3_size_19 : decode cX3_size 19 = .ok (.ireturn, 1) := by decide +kernel
set_option maxRecDepth 20000 in
theorem ggX3_whole_X3_isLand : GoodIn wsX3_whole wsX3_isLand := goodIn_r _ [5] (by decide +kernel) (by decide +kernel)
set_option maxRecDepth 20000 in
theorem gX3_whole_X3_isLand : GoodIn wsX3_whole (va_wsS RX3 73 yX3_isLand wsX3_isLand) := goodIn_app (goodIn_of _ (by decide +kernel)) ggX3_whole_X3_isLand
set_option maxRecDepth 20000 in
theorem ggX3_whole_X0_cellsOf : GoodIn wsX3_whole wsX0_cellsOf := goodIn_r _ [10, 11, 3, 4, 5, 37, 38, 39] (by decide +kernel) (by decide +kernel)
set_option maxRecDepth 20000 in
theorem gX3_whole_X0_cellsOf : GoodIn wsX3_whole (wsV RX3 79 RX0 yX0_cellsOf wsX0_cellsOf) := goodIn_app (goodIn_of _ (by decide +kernel)) ggX3_whole_X0_cellsOf
set_option maxRecDepth 20000 in
theorem ggX3_whole_X3_isWhole : GoodIn wsX3_whole wsX3_isWhole := goodIn_r _ [14, 15, 16, 4, 17, 18, 19, 20, 21, 22, 23, 24, 25] (by decide +kernel) (by decide +kernel)
set_option maxRecDepth 20000 in
theorem gX3_whole_X3_isWhole : GoodIn wsX3_whole (va_wsS RX3 83 yX3_isWhole wsX3_isWhole) := goodIn_app (goodIn_of _ (by decide +kernel)) ggX3_whole_X3_isWhole
set_option maxRecDepth 20000 in
theorem ggX3_whole_X3_answer : GoodIn wsX3_whole wsX3_answer := goodIn_r _ [28] (by decide +kernel) (by decide +kernel)
set_option maxRecDepth 20000 in
theorem gX3_whole_X3_answer : GoodIn wsX3_whole (va_wsS RX3 87 yX3_answer wsX3_answer) := goodIn_app (goodIn_of _ (by decide +kernel)) ggX3_whole_X3_answer
theorem dX3_whole_0 : decode cX3_whole 0 = .ok (.iload_n 1, 1) := by decide +kernel
theorem dX3_whole_1 : decode cX3_whole 1 = .ok (.invokestatic 73, 3) := by decide +kernel
theorem dX3_whole_4 : decode cX3_whole 4 = .ok (.ifCond .eq 20, 3) := by decide +kernel
theorem dX3_whole_7 : decode cX3_whole 7 = .ok (.aload_n 0, 1) := by decide +kernel
theorem dX3_whole_8 : decode cX3_whole 8 = .ok (.getfield 12, 3) := by decide +kernel
theorem dX3_whole_11 : decode cX3_whole 11 = .ok (.iload_n 1, 1) := by decide +kernel
theorem dX3_whole_12 : decode cX3_whole 12 = .ok (.invokevirtual 79, 3) := by decide +kernel
theorem dX3_whole_15 : decode cX3_whole 15 = .ok (.invokestatic 83, 3) := by decide +kernel
theorem dX3_whole_18 : decode cX3_whole 18 = .ok (.invokestatic 87, 3) := by decide +kernel
theorem dX3_whole_21 : decode cX3_whole 21 = .ok (.goto 4, 3) := by decide +kernel
theorem dX3_whole_24 : decode cX3_whole 24 = .ok (.iconst (-1), 1) := by decide +kernel
theorem dX3_whole_25 : decode cX3_whole 25 = .ok (.ireturn, 1) := by decide +kernel
set_option maxRecDepth 20000 in
theorem ggX3_touch_X3_isLandOrSea : GoodIn wsX3_touch wsX3_isLandOrSea := goodIn_r _ [5, 6, 7, 4, 8] (by decide +kernel) (by decide +kernel)
set_option maxRecDepth 20000 in
theorem gX3_touch_X3_isLandOrSea : GoodIn wsX3_touch (va_wsS RX3 58 yX3_isLandOrSea wsX3_isLandOrSea) := goodIn_app (goodIn_of _ (by decide +kernel)) ggX3_touch_X3_isLandOrSea
set_option maxRecDepth 20000 in
theorem ggX3_touch_X0_cellsOf : GoodIn wsX3_touch wsX0_cellsOf := goodIn_r _ [13, 14, 7, 4, 8, 47, 48, 49] (by decide +kernel) (by decide +kernel)
set_option maxRecDepth 20000 in
theorem gX3_touch_X0_cellsOf : GoodIn wsX3_touch (wsV RX3 79 RX0 yX0_cellsOf wsX0_cellsOf) := goodIn_app (goodIn_of _ (by decide +kernel)) ggX3_touch_X0_cellsOf
set_option maxRecDepth 20000 in
theorem ggX3_touch_X0_isAtSea : GoodIn wsX3_touch wsX0_isAtSea := goodIn_r _ [18, 19, 20, 21, 4, 22, 23, 24, 25, 26, 27, 28, 29, 30, 31, 32, 33, 12, 34, 14, 47, 48, 49] (by decide +kernel) (by decide +kernel)
set_option maxRecDepth 20000 in
theorem gX3_touch_X0_isAtSea : GoodIn wsX3_touch (wsV RX3 91 RX0 yX0_isAtSea wsX0_isAtSea) := goodIn_app (goodIn_of _ (by decide +kernel)) ggX3_touch_X0_isAtSea
set_option maxRecDepth 20000 in
theorem ggX3_touch_X3_answer : GoodIn wsX3_touch wsX3_answer := goodIn_r _ [37] (by decide +kernel) (by decide +kernel)
set_option maxRecDepth 20000 in
theorem gX3_touch_X3_answer : GoodIn wsX3_touch (va_wsS RX3 87 yX3_answer wsX3_answer) := goodIn_app (goodIn_of _ (by decide +kernel)) ggX3_touch_X3_answer
set_option maxRecDepth 20000 in
theorem ggX3_touch_X3_around : GoodIn wsX3_touch wsX3_around := goodIn_r _ [22, 23, 24, 4, 25, 26, 27, 28, 29, 30] (by decide +kernel) (by decide +kernel)
set_option maxRecDepth 20000 in
theorem gX3_touch_X3_around : GoodIn wsX3_touch (va_wsS RX3 94 yX3_around wsX3_around) := goodIn_app (goodIn_of _ (by decide +kernel)) ggX3_touch_X3_around
theorem dX3_touch_0 : decode cX3_touch 0 = .ok (.iload_n 1, 1) := by decide +kernel
theorem dX3_touch_1 : decode cX3_touch 1 = .ok (.invokestatic 58, 3) := by decide +kernel
theorem dX3_touch_4 : decode cX3_touch 4 = .ok (.ifCond .eq 15, 3) := by decide +kernel
theorem dX3_touch_7 : decode cX3_touch 7 = .ok (.iload_n 2, 1) := by decide +kernel
theorem dX3_touch_8 : decode cX3_touch 8 = .ok (.invokestatic 58, 3) := by decide +kernel
theorem dX3_touch_11 : decode cX3_touch 11 = .ok (.ifCond .eq 8, 3) := by decide +kernel
theorem dX3_touch_14 : decode cX3_touch 14 = .ok (.iload_n 1, 1) := by decide +kernel
theorem dX3_touch_15 : decode cX3_touch 15 = .ok (.iload_n 2, 1) := by decide +kernel
theorem dX3_touch_16 : decode cX3_touch 16 = .ok (.if_icmp .ne 5, 3) := by decide +kernel
theorem dX3_touch_19 : decode cX3_touch 19 = .ok (.iconst (-1), 1) := by decide +kernel
theorem dX3_touch_20 : decode cX3_touch 20 = .ok (.ireturn, 1) := by decide +kernel
theorem dX3_touch_21 : decode cX3_touch 21 = .ok (.iload_n 1, 1) := by decide +kernel
theorem dX3_touch_22 : decode cX3_touch 22 = .ok (.bipush (-4), 2) := by decide +kernel
theorem dX3_touch_24 : decode cX3_touch 24 = .ok (.if_icmp .ne 22, 3) := by decide +kernel
theorem dX3_touch_27 : decode cX3_touch 27 = .ok (.aload_n 0, 1) := by decide +kernel
theorem dX3_touch_28 : decode cX3_touch 28 = .ok (.getfield 12, 3) := by decide +kernel
theorem dX3_touch_31 : decode cX3_touch 31 = .ok (.aload_n 0, 1) := by decide +kernel
theorem dX3_touch_32 : decode cX3_touch 32 = .ok (.getfield 12, 3) := by decide +kernel
theorem dX3_touch_35 : decode cX3_touch 35 = .ok (.iload_n 2, 1) := by decide +kernel
theorem dX3_touch_36 : decode cX3_touch 36 = .ok (.invokevirtual 79, 3) := by decide +kernel
theorem dX3_touch_39 : decode cX3_touch 39 = .ok (.invokevirtual 91, 3) := by decide +kernel
theorem dX3_touch_42 : decode cX3_touch 42 = .ok (.invokestatic 87, 3) := by decide +kernel
theorem dX3_touch_45 : decode cX3_touch 45 = .ok (.ireturn, 1) := by decide +kernel
theorem dX3_touch_46 : decode cX3_touch 46 = .ok (.iload_n 2, 1) := by decide +kernel
theorem dX3_touch_47 : decode cX3_touch 47 = .ok (.bipush (-4), 2) := by decide +kernel
theorem dX3_touch_49 : decode cX3_touch 49 = .ok (.if_icmp .ne 22, 3) := by decide +kernel
theorem dX3_touch_52 : decode cX3_touch 52 = .ok (.aload_n 0, 1) := by decide +kernel
theorem dX3_touch_53 : decode cX3_touch 53 = .ok (.getfield 12, 3) := by decide +kernel
theorem dX3_touch_56 : decode cX3_touch 56 = .ok (.aload_n 0, 1) := by decide +kernel
theorem dX3_touch_57 : decode cX3_touch 57 = .ok (.getfield 12, 3) := by decide +kernel
theorem dX3_touch_60 : decode cX3_touch 60 = .ok (.iload_n 1, 1) := by decide +kernel
theorem dX3_touch_61 : decode cX3_touch 61 = .ok (.invokevirtual 79, 3) := by decide +kernel
theorem dX3_touch_64 : decode cX3_touch 64 = .ok (.invokevirtual 91, 3) := by decide +kernel
theorem dX3_touch_67 : decode cX3_touch 67 = .ok (.invokestatic 87, 3) := by decide +kernel
theorem dX3_touch_70 : decode cX3_touch 70 = .ok (.ireturn, 1) := by decide +kernel
theorem dX3_touch_71 : decode cX3_touch 71 = .ok (.aload_n 0, 1) := by decide +kernel
theorem dX3_touch_72 : decode cX3_touch 72 = .ok (.getfield 12, 3) := by decide +kernel
theorem dX3_touch_75 : decode cX3_touch 75 = .ok (.iload_n 1, 1) := by decide +kernel
theorem dX3_touch_76 : decode cX3_touch 76 = .ok (.invokevirtual 79, 3) := by decide +kernel
theorem dX3_touch_79 : decode cX3_touch 79 = .ok (.invokestatic 94, 3) := by decide +kernel
theorem dX3_touch_82 : decode cX3_touch 82 = .ok (.aload_n 0, 1) := by decide +kernel
theorem dX3_touch_83 : decode cX3_touch 83 = .ok (.getfield 12, 3) := by decide +kernel
theorem dX3_touch_86 : decode cX3_touch 86 = .ok (.iload_n 2, 1) := by decide +kernel
theorem dX3_touch_87 : decode cX3_touch 87 = .ok (.invokevirtual 79, 3) := by decide +kernel
theorem dX3_touch_90 : decode cX3_touch 90 = .ok (.land, 1) := by decide +kernel
theorem dX3_touch_91 : decode cX3_touch 91 = .ok (.lconst 0, 1) := by decide +kernel
theorem dX3_touch_92 : decode cX3_touch 92 = .ok (.lcmp, 1) := by decide +kernel
theorem dX3_touch_93 : decode cX3_touch 93 = .ok (.ifCond .eq 7, 3) := by decide +kernel
theorem dX3_touch_96 : decode cX3_touch 96 = .ok (.iconst 1, 1) := by decide +kernel
theorem dX3_touch_97 : decode cX3_touch 97 = .ok (.goto 4, 3) := by decide +kernel
theorem dX3_touch_100 : decode cX3_touch 100 = .ok (.iconst 0, 1) := by decide +kernel
theorem dX3_touch_101 : decode cX3_touch 101 = .ok (.invokestatic 87, 3) := by decide +kernel
theorem dX3_touch_104 : decode cX3_touch 104 = .ok (.ireturn, 1) := by decide +kernel
set_option maxRecDepth 20000 in
theorem ggX3_kind_X3_isLand : GoodIn wsX3_kind wsX3_isLand := goodIn_r _ [7] (by decide +kernel) (by decide +kernel)
set_option maxRecDepth 20000 in
theorem gX3_kind_X3_isLand : GoodIn wsX3_kind (va_wsS RX3 73 yX3_isLand wsX3_isLand) := goodIn_app (goodIn_of _ (by decide +kernel)) ggX3_kind_X3_isLand
set_option maxRecDepth 20000 in
theorem ggX3_kind_X0_has : GoodIn wsX3_kind wsX0_has := goodIn_r _ [12, 13, 14, 33, 34, 35] (by decide +kernel) (by decide +kernel)
set_option maxRecDepth 20000 in
theorem gX3_kind_X0_has : GoodIn wsX3_kind (wsV RX3 54 RX0 yX0_has wsX0_has) := goodIn_app (goodIn_of _ (by decide +kernel)) ggX3_kind_X0_has
set_option maxRecDepth 20000 in
theorem ggX3_kind_X3_cellAt : GoodIn wsX3_kind wsX3_cellAt := goodIn_r _ [17] (by decide +kernel) (by decide +kernel)
set_option maxRecDepth 20000 in
theorem gX3_kind_X3_cellAt : GoodIn wsX3_kind (va_wsS RX3 62 yX3_cellAt wsX3_cellAt) := goodIn_app (goodIn_of _ (by decide +kernel)) ggX3_kind_X3_cellAt
set_option maxRecDepth 20000 in
theorem ggX3_kind_X0_landOf : GoodIn wsX3_kind wsX0_landOf := goodIn_r _ [21, 22, 23, 6, 24, 33, 34, 35] (by decide +kernel) (by decide +kernel)
set_option maxRecDepth 20000 in
theorem gX3_kind_X0_landOf : GoodIn wsX3_kind (wsV RX3 66 RX0 yX0_landOf wsX0_landOf) := goodIn_app (goodIn_of _ (by decide +kernel)) ggX3_kind_X0_landOf
theorem dX3_kind_0 : decode cX3_kind 0 = .ok (.iload_n 1, 1) := by decide +kernel
theorem dX3_kind_1 : decode cX3_kind 1 = .ok (.invokestatic 73, 3) := by decide +kernel
theorem dX3_kind_4 : decode cX3_kind 4 = .ok (.ifCond .eq 29, 3) := by decide +kernel
theorem dX3_kind_7 : decode cX3_kind 7 = .ok (.iload_n 2, 1) := by decide +kernel
theorem dX3_kind_8 : decode cX3_kind 8 = .ok (.ifCond .lt 25, 3) := by decide +kernel
theorem dX3_kind_11 : decode cX3_kind 11 = .ok (.iload_n 2, 1) := by decide +kernel
theorem dX3_kind_12 : decode cX3_kind 12 = .ok (.iconst 2, 1) := by decide +kernel
theorem dX3_kind_13 : decode cX3_kind 13 = .ok (.if_icmp .gt 20, 3) := by decide +kernel
theorem dX3_kind_16 : decode cX3_kind 16 = .ok (.iload_n 2, 1) := by decide +kernel
theorem dX3_kind_17 : decode cX3_kind 17 = .ok (.ifCond .eq 18, 3) := by decide +kernel
theorem dX3_kind_20 : decode cX3_kind 20 = .ok (.aload_n 0, 1) := by decide +kernel
theorem dX3_kind_21 : decode cX3_kind 21 = .ok (.getfield 12, 3) := by decide +kernel
theorem dX3_kind_24 : decode cX3_kind 24 = .ok (.iload_n 3, 1) := by decide +kernel
theorem dX3_kind_25 : decode cX3_kind 25 = .ok (.iload 4, 2) := by decide +kernel
theorem dX3_kind_27 : decode cX3_kind 27 = .ok (.invokevirtual 54, 3) := by decide +kernel
theorem dX3_kind_30 : decode cX3_kind 30 = .ok (.ifCond .ne 5, 3) := by decide +kernel
theorem dX3_kind_33 : decode cX3_kind 33 = .ok (.iconst (-1), 1) := by decide +kernel
theorem dX3_kind_34 : decode cX3_kind 34 = .ok (.ireturn, 1) := by decide +kernel
theorem dX3_kind_35 : decode cX3_kind 35 = .ok (.iload_n 2, 1) := by decide +kernel
theorem dX3_kind_36 : decode cX3_kind 36 = .ok (.ifCond .eq 23, 3) := by decide +kernel
theorem dX3_kind_39 : decode cX3_kind 39 = .ok (.aload_n 0, 1) := by decide +kernel
theorem dX3_kind_40 : decode cX3_kind 40 = .ok (.getfield 12, 3) := by decide +kernel
theorem dX3_kind_43 : decode cX3_kind 43 = .ok (.iload_n 3, 1) := by decide +kernel
theorem dX3_kind_44 : decode cX3_kind 44 = .ok (.iload 4, 2) := by decide +kernel
theorem dX3_kind_46 : decode cX3_kind 46 = .ok (.invokestatic 62, 3) := by decide +kernel
theorem dX3_kind_49 : decode cX3_kind 49 = .ok (.invokevirtual 66, 3) := by decide +kernel
theorem dX3_kind_52 : decode cX3_kind 52 = .ok (.iload_n 1, 1) := by decide +kernel
theorem dX3_kind_53 : decode cX3_kind 53 = .ok (.if_icmp .eq 6, 3) := by decide +kernel
theorem dX3_kind_56 : decode cX3_kind 56 = .ok (.bipush (-2), 2) := by decide +kernel
theorem dX3_kind_58 : decode cX3_kind 58 = .ok (.ireturn, 1) := by decide +kernel
theorem dX3_kind_59 : decode cX3_kind 59 = .ok (.aload_n 0, 1) := by decide +kernel
theorem dX3_kind_60 : decode cX3_kind 60 = .ok (.getfield 34, 3) := by decide +kernel
theorem dX3_kind_63 : decode cX3_kind 63 = .ok (.iload_n 1, 1) := by decide +kernel
theorem dX3_kind_64 : decode cX3_kind 64 = .ok (.iload_n 2, 1) := by decide +kernel
theorem dX3_kind_65 : decode cX3_kind 65 = .ok (.iastore, 1) := by decide +kernel
theorem dX3_kind_66 : decode cX3_kind 66 = .ok (.aload_n 0, 1) := by decide +kernel
theorem dX3_kind_67 : decode cX3_kind 67 = .ok (.getfield 38, 3) := by decide +kernel
theorem dX3_kind_70 : decode cX3_kind 70 = .ok (.iload_n 1, 1) := by decide +kernel
theorem dX3_kind_71 : decode cX3_kind 71 = .ok (.iload_n 2, 1) := by decide +kernel
theorem dX3_kind_72 : decode cX3_kind 72 = .ok (.ifCond .ne 8, 3) := by decide +kernel
theorem dX3_kind_75 : decode cX3_kind 75 = .ok (.bipush (-9), 2) := by decide +kernel
theorem dX3_kind_77 : decode cX3_kind 77 = .ok (.goto 9, 3) := by decide +kernel
theorem dX3_kind_80 : decode cX3_kind 80 = .ok (.iload_n 3, 1) := by decide +kernel
theorem dX3_kind_81 : decode cX3_kind 81 = .ok (.iload 4, 2) := by decide +kernel
theorem dX3_kind_83 : decode cX3_kind 83 = .ok (.invokestatic 62, 3) := by decide +kernel
theorem dX3_kind_86 : decode cX3_kind 86 = .ok (.iastore, 1) := by decide +kernel
theorem dX3_kind_87 : decode cX3_kind 87 = .ok (.iconst 1, 1) := by decide +kernel
theorem dX3_kind_88 : decode cX3_kind 88 = .ok (.ireturn, 1) := by decide +kernel
set_option maxRecDepth 20000 in
theorem ggX3_about_X3_isLand : GoodIn wsX3_about wsX3_isLand := goodIn_r _ [7] (by decide +kernel) (by decide +kernel)
set_option maxRecDepth 20000 in
theorem gX3_about_X3_isLand : GoodIn wsX3_about (va_wsS RX3 73 yX3_isLand wsX3_isLand) := goodIn_app (goodIn_of _ (by decide +kernel)) ggX3_about_X3_isLand
set_option maxRecDepth 20000 in
theorem ggX3_about_X3_columnOf : GoodIn wsX3_about wsX3_columnOf := goodIn_r _ [10] (by decide +kernel) (by decide +kernel)
set_option maxRecDepth 20000 in
theorem gX3_about_X3_columnOf : GoodIn wsX3_about (va_wsS RX3 98 yX3_columnOf wsX3_columnOf) := goodIn_app (goodIn_of _ (by decide +kernel)) ggX3_about_X3_columnOf
set_option maxRecDepth 20000 in
theorem ggX3_about_X3_rowOf : GoodIn wsX3_about wsX3_rowOf := goodIn_r _ [13] (by decide +kernel) (by decide +kernel)
set_option maxRecDepth 20000 in
theorem gX3_about_X3_rowOf : GoodIn wsX3_about (va_wsS RX3 101 yX3_rowOf wsX3_rowOf) := goodIn_app (goodIn_of _ (by decide +kernel)) ggX3_about_X3_rowOf
theorem dX3_about_0 : decode cX3_about 0 = .ok (.iload_n 1, 1) := by decide +kernel
theorem dX3_about_1 : decode cX3_about 1 = .ok (.invokestatic 73, 3) := by decide +kernel
theorem dX3_about_4 : decode cX3_about 4 = .ok (.ifCond .ne 5, 3) := by decide +kernel
theorem dX3_about_7 : decode cX3_about 7 = .ok (.iconst (-1), 1) := by decide +kernel
theorem dX3_about_8 : decode cX3_about 8 = .ok (.ireturn, 1) := by decide +kernel
theorem dX3_about_9 : decode cX3_about 9 = .ok (.iload_n 2, 1) := by decide +kernel
theorem dX3_about_10 : decode cX3_about 10 = .ok (.tableswitch 96 0 3 #[30, 37, 63, 89], 30) := by decide +kernel
theorem dX3_about_40 : decode cX3_about 40 = .ok (.aload_n 0, 1) := by decide +kernel
theorem dX3_about_41 : decode cX3_about 41 = .ok (.getfield 34, 3) := by decide +kernel
theorem dX3_about_44 : decode cX3_about 44 = .ok (.iload_n 1, 1) := by decide +kernel
theorem dX3_about_45 : decode cX3_about 45 = .ok (.iaload, 1) := by decide +kernel
theorem dX3_about_46 : decode cX3_about 46 = .ok (.ireturn, 1) := by decide +kernel
theorem dX3_about_47 : decode cX3_about 47 = .ok (.aload_n 0, 1) := by decide +kernel
theorem dX3_about_48 : decode cX3_about 48 = .ok (.getfield 38, 3) := by decide +kernel
theorem dX3_about_51 : decode cX3_about 51 = .ok (.iload_n 1, 1) := by decide +kernel
theorem dX3_about_52 : decode cX3_about 52 = .ok (.iaload, 1) := by decide +kernel
theorem dX3_about_53 : decode cX3_about 53 = .ok (.bipush (-9), 2) := by decide +kernel
theorem dX3_about_55 : decode cX3_about 55 = .ok (.if_icmp .ne 8, 3) := by decide +kernel
theorem dX3_about_58 : decode cX3_about 58 = .ok (.bipush (-9), 2) := by decide +kernel
theorem dX3_about_60 : decode cX3_about 60 = .ok (.goto 12, 3) := by decide +kernel
theorem dX3_about_63 : decode cX3_about 63 = .ok (.aload_n 0, 1) := by decide +kernel
theorem dX3_about_64 : decode cX3_about 64 = .ok (.getfield 38, 3) := by decide +kernel
theorem dX3_about_67 : decode cX3_about 67 = .ok (.iload_n 1, 1) := by decide +kernel
theorem dX3_about_68 : decode cX3_about 68 = .ok (.iaload, 1) := by decide +kernel
theorem dX3_about_69 : decode cX3_about 69 = .ok (.invokestatic 98, 3) := by decide +kernel
theorem dX3_about_72 : decode cX3_about 72 = .ok (.ireturn, 1) := by decide +kernel
theorem dX3_about_73 : decode cX3_about 73 = .ok (.aload_n 0, 1) := by decide +kernel
theorem dX3_about_74 : decode cX3_about 74 = .ok (.getfield 38, 3) := by decide +kernel
theorem dX3_about_77 : decode cX3_about 77 = .ok (.iload_n 1, 1) := by decide +kernel
theorem dX3_about_78 : decode cX3_about 78 = .ok (.iaload, 1) := by decide +kernel
theorem dX3_about_79 : decode cX3_about 79 = .ok (.bipush (-9), 2) := by decide +kernel
theorem dX3_about_81 : decode cX3_about 81 = .ok (.if_icmp .ne 8, 3) := by decide +kernel
theorem dX3_about_84 : decode cX3_about 84 = .ok (.bipush (-9), 2) := by decide +kernel
theorem dX3_about_86 : decode cX3_about 86 = .ok (.goto 12, 3) := by decide +kernel
theorem dX3_about_89 : decode cX3_about 89 = .ok (.aload_n 0, 1) := by decide +kernel
theorem dX3_about_90 : decode cX3_about 90 = .ok (.getfield 38, 3) := by decide +kernel
theorem dX3_about_93 : decode cX3_about 93 = .ok (.iload_n 1, 1) := by decide +kernel
theorem dX3_about_94 : decode cX3_about 94 = .ok (.iaload, 1) := by decide +kernel
theorem dX3_about_95 : decode cX3_about 95 = .ok (.invokestatic 101, 3) := by decide +kernel
theorem dX3_about_98 : decode cX3_about 98 = .ok (.ireturn, 1) := by decide +kernel
theorem dX3_about_99 : decode cX3_about 99 = .ok (.aload_n 0, 1) := by decide +kernel
theorem dX3_about_100 : decode cX3_about 100 = .ok (.getfield 41, 3) := by decide +kernel
theorem dX3_about_103 : decode cX3_about 103 = .ok (.iload_n 1, 1) := by decide +kernel
theorem dX3_about_104 : decode cX3_about 104 = .ok (.iaload, 1) := by decide +kernel
theorem dX3_about_105 : decode cX3_about 105 = .ok (.ireturn, 1) := by decide +kernel
theorem dX3_about_106 : decode cX3_about 106 = .ok (.iconst (-1), 1) := by decide +kernel
theorem dX3_about_107 : decode cX3_about 107 = .ok (.ireturn, 1) := by decide +kernel
set_option maxRecDepth 20000 in
theorem ggX3_leaves_X3_at : GoodIn wsX3_leaves wsX3_at := goodIn_r _ [7, 8, 9, 10, 11, 12, 13, 14, 15, 16, 17, 6, 18, 19, 20, 21, 22, 23, 24, 25, 70, 71, 72, 73, 74, 75, 76, 77, 78, 79, 80] (by decide +kernel) (by decide +kernel)
set_option maxRecDepth 20000 in
theorem gX3_leaves_X3_at : GoodIn wsX3_leaves (wsV RX3 104 RX3 yX3_at wsX3_at) := goodIn_app (goodIn_of _ (by decide +kernel)) ggX3_leaves_X3_at
set_option maxRecDepth 20000 in
theorem ggX3_leaves_X3_isLand : GoodIn wsX3_leaves wsX3_isLand := goodIn_r _ [28] (by decide +kernel) (by decide +kernel)
set_option maxRecDepth 20000 in
theorem gX3_leaves_X3_isLand : GoodIn wsX3_leaves (va_wsS RX3 73 yX3_isLand wsX3_isLand) := goodIn_app (goodIn_of _ (by decide +kernel)) ggX3_leaves_X3_isLand
set_option maxRecDepth 20000 in
theorem ggX3_leaves_X3_bodiesAsked : GoodIn wsX3_leaves wsX3_bodiesAsked := goodIn_r _ [31] (by decide +kernel) (by decide +kernel)
set_option maxRecDepth 20000 in
theorem gX3_leaves_X3_bodiesAsked : GoodIn wsX3_leaves (va_wsS RX3 111 yX3_bodiesAsked wsX3_bodiesAsked) := goodIn_app (goodIn_of _ (by decide +kernel)) ggX3_leaves_X3_bodiesAsked
set_option maxRecDepth 20000 in
theorem ggX3_leaves_X3_cellAt : GoodIn wsX3_leaves wsX3_cellAt := goodIn_r _ [18] (by decide +kernel) (by decide +kernel)
set_option maxRecDepth 20000 in
theorem gX3_leaves_X3_cellAt : GoodIn wsX3_leaves (va_wsS RX3 62 yX3_cellAt wsX3_cellAt) := goodIn_app (goodIn_of _ (by decide +kernel)) ggX3_leaves_X3_cellAt
set_option maxRecDepth 20000 in
theorem ggX3_leaves_X3_letsGo : GoodIn wsX3_leaves wsX3_letsGo := goodIn_r _ [35, 8, 36, 37, 2, 26, 27, 6, 28, 38, 39, 40, 12, 41, 23, 42, 24, 25, 43, 44, 45, 46, 47, 48, 49, 50, 51, 52, 53, 54, 55, 56, 57, 58, 59, 60, 61, 62, 63, 64, 65, 66, 70, 71, 72, 73, 74, 75, 76, 77, 78, 79, 80] (by decide +kernel) (by decide +kernel)
set_option maxRecDepth 20000 in
theorem gX3_leaves_X3_letsGo : GoodIn wsX3_leaves (wsV RX3 114 RX3 yX3_letsGo wsX3_letsGo) := goodIn_app (goodIn_of _ (by decide +kernel)) ggX3_leaves_X3_letsGo
set_option maxRecDepth 20000 in
theorem ggX3_leaves_X3_answer : GoodIn wsX3_leaves wsX3_answer := goodIn_r _ [69] (by decide +kernel) (by decide +kernel)
set_option maxRecDepth 20000 in
theorem gX3_leaves_X3_answer : GoodIn wsX3_leaves (va_wsS RX3 87 yX3_answer wsX3_answer) := goodIn_app (goodIn_of _ (by decide +kernel)) ggX3_leaves_X3_answer
theorem dX3_leaves_0 : decode cX3_leaves 0 = .ok (.aload_n 0, 1) := by decide +kernel
theorem dX3_leaves_1 : decode cX3_leaves 1 = .ok (.iload_n 1, 1) := by decide +kernel
theorem dX3_leaves_2 : decode cX3_leaves 2 = .ok (.iload_n 2, 1) := by decide +kernel
theorem dX3_leaves_3 : decode cX3_leaves 3 = .ok (.invokevirtual 104, 3) := by decide +kernel
theorem dX3_leaves_6 : decode cX3_leaves 6 = .ok (.istore_n 3, 1) := by decide +kernel
theorem dX3_leaves_7 : decode cX3_leaves 7 = .ok (.iload_n 3, 1) := by decide +kernel
theorem dX3_leaves_8 : decode cX3_leaves 8 = .ok (.invokestatic 73, 3) := by decide +kernel
theorem dX3_leaves_11 : decode cX3_leaves 11 = .ok (.ifCond .ne 5, 3) := by decide +kernel
theorem dX3_leaves_14 : decode cX3_leaves 14 = .ok (.iconst (-1), 1) := by decide +kernel
theorem dX3_leaves_15 : decode cX3_leaves 15 = .ok (.ireturn, 1) := by decide +kernel
theorem dX3_leaves_16 : decode cX3_leaves 16 = .ok (.aload_n 0, 1) := by decide +kernel
theorem dX3_leaves_17 : decode cX3_leaves 17 = .ok (.dup, 1) := by decide +kernel
theorem dX3_leaves_18 : decode cX3_leaves 18 = .ok (.getfield 107, 3) := by decide +kernel
theorem dX3_leaves_21 : decode cX3_leaves 21 = .ok (.aload_n 0, 1) := by decide +kernel
theorem dX3_leaves_22 : decode cX3_leaves 22 = .ok (.getfield 34, 3) := by decide +kernel
theorem dX3_leaves_25 : decode cX3_leaves 25 = .ok (.iload_n 3, 1) := by decide +kernel
theorem dX3_leaves_26 : decode cX3_leaves 26 = .ok (.iaload, 1) := by decide +kernel
theorem dX3_leaves_27 : decode cX3_leaves 27 = .ok (.invokestatic 111, 3) := by decide +kernel
theorem dX3_leaves_30 : decode cX3_leaves 30 = .ok (.i2l, 1) := by decide +kernel
theorem dX3_leaves_31 : decode cX3_leaves 31 = .ok (.ladd, 1) := by decide +kernel
theorem dX3_leaves_32 : decode cX3_leaves 32 = .ok (.putfield 107, 3) := by decide +kernel
theorem dX3_leaves_35 : decode cX3_leaves 35 = .ok (.aload_n 0, 1) := by decide +kernel
theorem dX3_leaves_36 : decode cX3_leaves 36 = .ok (.iload_n 3, 1) := by decide +kernel
theorem dX3_leaves_37 : decode cX3_leaves 37 = .ok (.iload_n 1, 1) := by decide +kernel
theorem dX3_leaves_38 : decode cX3_leaves 38 = .ok (.iload_n 2, 1) := by decide +kernel
theorem dX3_leaves_39 : decode cX3_leaves 39 = .ok (.invokestatic 62, 3) := by decide +kernel
theorem dX3_leaves_42 : decode cX3_leaves 42 = .ok (.invokevirtual 114, 3) := by decide +kernel
theorem dX3_leaves_45 : decode cX3_leaves 45 = .ok (.invokestatic 87, 3) := by decide +kernel
theorem dX3_leaves_48 : decode cX3_leaves 48 = .ok (.ireturn, 1) := by decide +kernel
set_option maxRecDepth 20000 in
theorem ggX3_may_X0_has : GoodIn wsX3_may wsX0_has := goodIn_r _ [6, 7, 8, 83, 84, 85] (by decide +kernel) (by decide +kernel)
set_option maxRecDepth 20000 in
theorem gX3_may_X0_has : GoodIn wsX3_may (wsV RX3 54 RX0 yX0_has wsX0_has) := goodIn_app (goodIn_of _ (by decide +kernel)) ggX3_may_X0_has
set_option maxRecDepth 20000 in
theorem ggX3_may_X3_isLand : GoodIn wsX3_may wsX3_isLand := goodIn_r _ [12] (by decide +kernel) (by decide +kernel)
set_option maxRecDepth 20000 in
theorem gX3_may_X3_isLand : GoodIn wsX3_may (va_wsS RX3 73 yX3_isLand wsX3_isLand) := goodIn_app (goodIn_of _ (by decide +kernel)) ggX3_may_X3_isLand
set_option maxRecDepth 20000 in
theorem ggX3_may_X3_cellAt : GoodIn wsX3_may wsX3_cellAt := goodIn_r _ [15] (by decide +kernel) (by decide +kernel)
set_option maxRecDepth 20000 in
theorem gX3_may_X3_cellAt : GoodIn wsX3_may (va_wsS RX3 62 yX3_cellAt wsX3_cellAt) := goodIn_app (goodIn_of _ (by decide +kernel)) ggX3_may_X3_cellAt
set_option maxRecDepth 20000 in
theorem ggX3_may_X3_canGo : GoodIn wsX3_may wsX3_canGo := goodIn_r _ [19, 1, 20, 21, 22, 5, 23, 24, 25, 11, 26, 27, 28, 29, 30, 31, 32, 33, 34, 35, 36, 37, 38, 39, 40, 41, 42, 10, 12, 43, 44, 45, 46, 47, 48, 49, 9, 50, 51, 52, 53, 54, 55, 56, 57, 58, 59, 60, 61, 62, 63, 64, 65, 66, 67, 68, 69, 70, 71, 75, 76, 77, 78, 79, 80, 81, 82, 83, 84, 85] (by decide +kernel) (by decide +kernel)
set_option maxRecDepth 20000 in
theorem gX3_may_X3_canGo : GoodIn wsX3_may (wsV RX3 117 RX3 yX3_canGo wsX3_canGo) := goodIn_app (goodIn_of _ (by decide +kernel)) ggX3_may_X3_canGo
set_option maxRecDepth 20000 in
theorem ggX3_may_X3_answer : GoodIn wsX3_may wsX3_answer := goodIn_r _ [74] (by decide +kernel) (by decide +kernel)
set_option maxRecDepth 20000 in
theorem gX3_may_X3_answer : GoodIn wsX3_may (va_wsS RX3 87 yX3_answer wsX3_answer) := goodIn_app (goodIn_of _ (by decide +kernel)) ggX3_may_X3_answer
theorem dX3_may_0 : decode cX3_may 0 = .ok (.aload_n 0, 1) := by decide +kernel
theorem dX3_may_1 : decode cX3_may 1 = .ok (.getfield 12, 3) := by decide +kernel
theorem dX3_may_4 : decode cX3_may 4 = .ok (.iload_n 1, 1) := by decide +kernel
theorem dX3_may_5 : decode cX3_may 5 = .ok (.iload_n 2, 1) := by decide +kernel
theorem dX3_may_6 : decode cX3_may 6 = .ok (.invokevirtual 54, 3) := by decide +kernel
theorem dX3_may_9 : decode cX3_may 9 = .ok (.ifCond .eq 26, 3) := by decide +kernel
theorem dX3_may_12 : decode cX3_may 12 = .ok (.iload_n 3, 1) := by decide +kernel
theorem dX3_may_13 : decode cX3_may 13 = .ok (.invokestatic 73, 3) := by decide +kernel
theorem dX3_may_16 : decode cX3_may 16 = .ok (.ifCond .eq 19, 3) := by decide +kernel
theorem dX3_may_19 : decode cX3_may 19 = .ok (.aload_n 0, 1) := by decide +kernel
theorem dX3_may_20 : decode cX3_may 20 = .ok (.iload_n 1, 1) := by decide +kernel
theorem dX3_may_21 : decode cX3_may 21 = .ok (.iload_n 2, 1) := by decide +kernel
theorem dX3_may_22 : decode cX3_may 22 = .ok (.invokestatic 62, 3) := by decide +kernel
theorem dX3_may_25 : decode cX3_may 25 = .ok (.iload_n 3, 1) := by decide +kernel
theorem dX3_may_26 : decode cX3_may 26 = .ok (.invokevirtual 117, 3) := by decide +kernel
theorem dX3_may_29 : decode cX3_may 29 = .ok (.invokestatic 87, 3) := by decide +kernel
theorem dX3_may_32 : decode cX3_may 32 = .ok (.goto 4, 3) := by decide +kernel
theorem dX3_may_35 : decode cX3_may 35 = .ok (.iconst (-1), 1) := by decide +kernel
theorem dX3_may_36 : decode cX3_may 36 = .ok (.ireturn, 1) := by decide +kernel
set_option maxRecDepth 20000 in
theorem ggX3_move_X0_has : GoodIn wsX3_move wsX0_has := goodIn_r _ [6, 7, 8, 103, 104, 105] (by decide +kernel) (by decide +kernel)
set_option maxRecDepth 20000 in
theorem gX3_move_X0_has : GoodIn wsX3_move (wsV RX3 54 RX0 yX0_has wsX0_has) := goodIn_app (goodIn_of _ (by decide +kernel)) ggX3_move_X0_has
set_option maxRecDepth 20000 in
theorem ggX3_move_X3_isLand : GoodIn wsX3_move wsX3_isLand := goodIn_r _ [12] (by decide +kernel) (by decide +kernel)
set_option maxRecDepth 20000 in
theorem gX3_move_X3_isLand : GoodIn wsX3_move (va_wsS RX3 73 yX3_isLand wsX3_isLand) := goodIn_app (goodIn_of _ (by decide +kernel)) ggX3_move_X3_isLand
set_option maxRecDepth 20000 in
theorem ggX3_move_X3_cellAt : GoodIn wsX3_move wsX3_cellAt := goodIn_r _ [15] (by decide +kernel) (by decide +kernel)
set_option maxRecDepth 20000 in
theorem gX3_move_X3_cellAt : GoodIn wsX3_move (va_wsS RX3 62 yX3_cellAt wsX3_cellAt) := goodIn_app (goodIn_of _ (by decide +kernel)) ggX3_move_X3_cellAt
set_option maxRecDepth 20000 in
theorem ggX3_move_X3_canGo : GoodIn wsX3_move wsX3_canGo := goodIn_r _ [19, 1, 20, 21, 22, 5, 23, 24, 25, 11, 26, 27, 28, 29, 30, 31, 32, 33, 34, 35, 36, 37, 38, 39, 40, 41, 42, 10, 12, 43, 44, 45, 46, 47, 48, 49, 9, 50, 51, 52, 53, 54, 55, 56, 57, 58, 59, 60, 61, 62, 63, 64, 65, 66, 67, 68, 69, 70, 71, 95, 96, 97, 98, 99, 100, 101, 102, 103, 104, 105] (by decide +kernel) (by decide +kernel)
set_option maxRecDepth 20000 in
theorem gX3_move_X3_canGo : GoodIn wsX3_move (wsV RX3 117 RX3 yX3_canGo wsX3_canGo) := goodIn_app (goodIn_of _ (by decide +kernel)) ggX3_move_X3_canGo
set_option maxRecDepth 20000 in
theorem ggX3_move_X0_landOf : GoodIn wsX3_move wsX0_landOf := goodIn_r _ [23, 24, 25, 11, 26, 103, 104, 105] (by decide +kernel) (by decide +kernel)
set_option maxRecDepth 20000 in
theorem gX3_move_X0_landOf : GoodIn wsX3_move (wsV RX3 66 RX0 yX0_landOf wsX0_landOf) := goodIn_app (goodIn_of _ (by decide +kernel)) ggX3_move_X0_landOf
set_option maxRecDepth 20000 in
theorem ggX3_move_X3_go : GoodIn wsX3_move wsX3_go := goodIn_r _ [75, 76, 1, 20, 21, 22, 5, 23, 24, 25, 11, 26, 77, 78, 79, 80, 81, 82, 83, 84, 85, 86, 87, 88, 89, 90, 91, 92, 93, 94, 68, 69, 70, 71, 58, 95, 96, 97, 98, 99, 100, 101, 102, 103, 104, 105, 106, 107, 108, 109, 110] (by decide +kernel) (by decide +kernel)
set_option maxRecDepth 20000 in
theorem gX3_move_X3_go : GoodIn wsX3_move (wsV RX3 120 RX3 yX3_go wsX3_go) := goodIn_app (goodIn_of _ (by decide +kernel)) ggX3_move_X3_go
theorem dX3_move_0 : decode cX3_move 0 = .ok (.aload_n 0, 1) := by decide +kernel
theorem dX3_move_1 : decode cX3_move 1 = .ok (.getfield 12, 3) := by decide +kernel
theorem dX3_move_4 : decode cX3_move 4 = .ok (.iload_n 1, 1) := by decide +kernel
theorem dX3_move_5 : decode cX3_move 5 = .ok (.iload_n 2, 1) := by decide +kernel
theorem dX3_move_6 : decode cX3_move 6 = .ok (.invokevirtual 54, 3) := by decide +kernel
theorem dX3_move_9 : decode cX3_move 9 = .ok (.ifCond .eq 10, 3) := by decide +kernel
theorem dX3_move_12 : decode cX3_move 12 = .ok (.iload_n 3, 1) := by decide +kernel
theorem dX3_move_13 : decode cX3_move 13 = .ok (.invokestatic 73, 3) := by decide +kernel
theorem dX3_move_16 : decode cX3_move 16 = .ok (.ifCond .ne 5, 3) := by decide +kernel
theorem dX3_move_19 : decode cX3_move 19 = .ok (.iconst (-1), 1) := by decide +kernel
theorem dX3_move_20 : decode cX3_move 20 = .ok (.ireturn, 1) := by decide +kernel
theorem dX3_move_21 : decode cX3_move 21 = .ok (.aload_n 0, 1) := by decide +kernel
theorem dX3_move_22 : decode cX3_move 22 = .ok (.iload_n 1, 1) := by decide +kernel
theorem dX3_move_23 : decode cX3_move 23 = .ok (.iload_n 2, 1) := by decide +kernel
theorem dX3_move_24 : decode cX3_move 24 = .ok (.invokestatic 62, 3) := by decide +kernel
theorem dX3_move_27 : decode cX3_move 27 = .ok (.iload_n 3, 1) := by decide +kernel
theorem dX3_move_28 : decode cX3_move 28 = .ok (.invokevirtual 117, 3) := by decide +kernel
theorem dX3_move_31 : decode cX3_move 31 = .ok (.ifCond .ne 6, 3) := by decide +kernel
theorem dX3_move_34 : decode cX3_move 34 = .ok (.bipush (-2), 2) := by decide +kernel
theorem dX3_move_36 : decode cX3_move 36 = .ok (.ireturn, 1) := by decide +kernel
theorem dX3_move_37 : decode cX3_move 37 = .ok (.aload_n 0, 1) := by decide +kernel
theorem dX3_move_38 : decode cX3_move 38 = .ok (.getfield 12, 3) := by decide +kernel
theorem dX3_move_41 : decode cX3_move 41 = .ok (.iload_n 1, 1) := by decide +kernel
theorem dX3_move_42 : decode cX3_move 42 = .ok (.iload_n 2, 1) := by decide +kernel
theorem dX3_move_43 : decode cX3_move 43 = .ok (.invokestatic 62, 3) := by decide +kernel
theorem dX3_move_46 : decode cX3_move 46 = .ok (.invokevirtual 66, 3) := by decide +kernel
theorem dX3_move_49 : decode cX3_move 49 = .ok (.istore 4, 2) := by decide +kernel
theorem dX3_move_51 : decode cX3_move 51 = .ok (.aload_n 0, 1) := by decide +kernel
theorem dX3_move_52 : decode cX3_move 52 = .ok (.iload_n 1, 1) := by decide +kernel
theorem dX3_move_53 : decode cX3_move 53 = .ok (.iload_n 2, 1) := by decide +kernel
theorem dX3_move_54 : decode cX3_move 54 = .ok (.invokestatic 62, 3) := by decide +kernel
theorem dX3_move_57 : decode cX3_move 57 = .ok (.iload_n 3, 1) := by decide +kernel
theorem dX3_move_58 : decode cX3_move 58 = .ok (.invokevirtual 120, 3) := by decide +kernel
theorem dX3_move_61 : decode cX3_move 61 = .ok (.iload 4, 2) := by decide +kernel
theorem dX3_move_63 : decode cX3_move 63 = .ok (.ireturn, 1) := by decide +kernel
set_option maxRecDepth 20000 in
theorem ggX3_want_X3_isLand : GoodIn wsX3_want wsX3_isLand := goodIn_r _ [5] (by decide +kernel) (by decide +kernel)
set_option maxRecDepth 20000 in
theorem gX3_want_X3_isLand : GoodIn wsX3_want (va_wsS RX3 73 yX3_isLand wsX3_isLand) := goodIn_app (goodIn_of _ (by decide +kernel)) ggX3_want_X3_isLand
theorem dX3_want_0 : decode cX3_want 0 = .ok (.iload_n 1, 1) := by decide +kernel
theorem dX3_want_1 : decode cX3_want 1 = .ok (.invokestatic 73, 3) := by decide +kernel
theorem dX3_want_4 : decode cX3_want 4 = .ok (.ifCond .eq 13, 3) := by decide +kernel
theorem dX3_want_7 : decode cX3_want 7 = .ok (.iload_n 2, 1) := by decide +kernel
theorem dX3_want_8 : decode cX3_want 8 = .ok (.ifCond .lt 9, 3) := by decide +kernel
theorem dX3_want_11 : decode cX3_want 11 = .ok (.iload_n 2, 1) := by decide +kernel
theorem dX3_want_12 : decode cX3_want 12 = .ok (.bipush 64, 2) := by decide +kernel
theorem dX3_want_14 : decode cX3_want 14 = .ok (.if_icmp .le 5, 3) := by decide +kernel
theorem dX3_want_17 : decode cX3_want 17 = .ok (.iconst (-1), 1) := by decide +kernel
theorem dX3_want_18 : decode cX3_want 18 = .ok (.ireturn, 1) := by decide +kernel
theorem dX3_want_19 : decode cX3_want 19 = .ok (.aload_n 0, 1) := by decide +kernel
theorem dX3_want_20 : decode cX3_want 20 = .ok (.getfield 41, 3) := by decide +kernel
theorem dX3_want_23 : decode cX3_want 23 = .ok (.iload_n 1, 1) := by decide +kernel
theorem dX3_want_24 : decode cX3_want 24 = .ok (.iaload, 1) := by decide +kernel
theorem dX3_want_25 : decode cX3_want 25 = .ok (.istore_n 3, 1) := by decide +kernel
theorem dX3_want_26 : decode cX3_want 26 = .ok (.aload_n 0, 1) := by decide +kernel
theorem dX3_want_27 : decode cX3_want 27 = .ok (.getfield 41, 3) := by decide +kernel
theorem dX3_want_30 : decode cX3_want 30 = .ok (.iload_n 1, 1) := by decide +kernel
theorem dX3_want_31 : decode cX3_want 31 = .ok (.iload_n 2, 1) := by decide +kernel
theorem dX3_want_32 : decode cX3_want 32 = .ok (.iastore, 1) := by decide +kernel
theorem dX3_want_33 : decode cX3_want 33 = .ok (.iload_n 3, 1) := by decide +kernel
theorem dX3_want_34 : decode cX3_want 34 = .ok (.ireturn, 1) := by decide +kernel
set_option maxRecDepth 20000 in
theorem ggX3_miss_X0_sizeOf : GoodIn wsX3_miss wsX0_sizeOf := goodIn_r _ [6, 7, 8, 9, 5, 10, 11, 12, 13, 14, 15, 16, 17, 18, 19, 20, 21, 40, 41, 42] (by decide +kernel) (by decide +kernel)
set_option maxRecDepth 20000 in
theorem gX3_miss_X0_sizeOf : GoodIn wsX3_miss (wsV RX3 76 RX0 yX0_sizeOf wsX0_sizeOf) := goodIn_app (goodIn_of _ (by decide +kernel)) ggX3_miss_X0_sizeOf
set_option maxRecDepth 20000 in
theorem ggX3_miss_X3_missWith : GoodIn wsX3_miss wsX3_missWith := goodIn_r _ [25, 26, 27, 28, 29, 30, 31, 12, 13, 14, 32, 33, 34, 35, 36, 37, 38, 39] (by decide +kernel) (by decide +kernel)
set_option maxRecDepth 20000 in
theorem gX3_miss_X3_missWith : GoodIn wsX3_miss (wsV RX3 123 RX3 yX3_missWith wsX3_missWith) := goodIn_app (goodIn_of _ (by decide +kernel)) ggX3_miss_X3_missWith
theorem dX3_miss_0 : decode cX3_miss 0 = .ok (.iconst 0, 1) := by decide +kernel
theorem dX3_miss_1 : decode cX3_miss 1 = .ok (.istore_n 1, 1) := by decide +kernel
theorem dX3_miss_2 : decode cX3_miss 2 = .ok (.iconst 0, 1) := by decide +kernel
theorem dX3_miss_3 : decode cX3_miss 3 = .ok (.istore_n 2, 1) := by decide +kernel
theorem dX3_miss_4 : decode cX3_miss 4 = .ok (.iload_n 2, 1) := by decide +kernel
theorem dX3_miss_5 : decode cX3_miss 5 = .ok (.bipush 6, 2) := by decide +kernel
theorem dX3_miss_7 : decode cX3_miss 7 = .ok (.if_icmp .ge 36, 3) := by decide +kernel
theorem dX3_miss_10 : decode cX3_miss 10 = .ok (.aload_n 0, 1) := by decide +kernel
theorem dX3_miss_11 : decode cX3_miss 11 = .ok (.getfield 12, 3) := by decide +kernel
theorem dX3_miss_14 : decode cX3_miss 14 = .ok (.iload_n 2, 1) := by decide +kernel
theorem dX3_miss_15 : decode cX3_miss 15 = .ok (.invokevirtual 76, 3) := by decide +kernel
theorem dX3_miss_18 : decode cX3_miss 18 = .ok (.ifCond .le 19, 3) := by decide +kernel
theorem dX3_miss_21 : decode cX3_miss 21 = .ok (.iload_n 1, 1) := by decide +kernel
theorem dX3_miss_22 : decode cX3_miss 22 = .ok (.aload_n 0, 1) := by decide +kernel
theorem dX3_miss_23 : decode cX3_miss 23 = .ok (.iload_n 2, 1) := by decide +kernel
theorem dX3_miss_24 : decode cX3_miss 24 = .ok (.aload_n 0, 1) := by decide +kernel
theorem dX3_miss_25 : decode cX3_miss 25 = .ok (.getfield 12, 3) := by decide +kernel
theorem dX3_miss_28 : decode cX3_miss 28 = .ok (.iload_n 2, 1) := by decide +kernel
theorem dX3_miss_29 : decode cX3_miss 29 = .ok (.invokevirtual 76, 3) := by decide +kernel
theorem dX3_miss_32 : decode cX3_miss 32 = .ok (.invokevirtual 123, 3) := by decide +kernel
theorem dX3_miss_35 : decode cX3_miss 35 = .ok (.iadd, 1) := by decide +kernel
theorem dX3_miss_36 : decode cX3_miss 36 = .ok (.istore_n 1, 1) := by decide +kernel
theorem dX3_miss_37 : decode cX3_miss 37 = .ok (.iinc 2 1, 3) := by decide +kernel
theorem dX3_miss_40 : decode cX3_miss 40 = .ok (.goto (-36), 3) := by decide +kernel
theorem dX3_miss_43 : decode cX3_miss 43 = .ok (.iload_n 1, 1) := by decide +kernel
theorem dX3_miss_44 : decode cX3_miss 44 = .ok (.ireturn, 1) := by decide +kernel
set_option maxRecDepth 20000 in
theorem ggX3_steps_X3_step : GoodIn wsX3_steps wsX3_step := goodIn_r _ [5, 6, 7, 8, 9, 4, 10, 11, 12, 13, 14, 15, 16, 17, 18, 19, 20, 21, 22, 23, 24, 25, 26, 27, 28, 29, 30, 31, 32, 33, 34, 35, 36, 37, 38, 39, 40, 41, 42, 43, 44, 45, 46, 47, 48, 49, 50, 51, 52, 53, 54, 55, 56, 57, 58, 59, 60, 61, 62, 63, 64, 65, 66, 67, 68, 69, 70, 71, 72, 73, 74, 75, 76, 77, 78, 79, 80, 81, 82, 83, 84, 85, 86, 87, 88, 89, 90, 91, 92, 93, 94, 95, 96, 97, 98, 99, 100, 101, 102, 103, 104, 105, 106, 107, 108, 109, 110, 111, 112, 113, 114, 115, 116, 117, 118, 119, 120, 121, 122, 123, 124, 125, 126, 127, 128, 129, 130, 131, 132, 133] (by decide +kernel) (by decide +kernel)
set_option maxRecDepth 20000 in
theorem gX3_steps_X3_step : GoodIn wsX3_steps (wsV RX3 126 RX3 yX3_step wsX3_step) := goodIn_app (goodIn_of _ (by decide +kernel)) ggX3_steps_X3_step
theorem dX3_steps_0 : decode cX3_steps 0 = .ok (.iload_n 1, 1) := by decide +kernel
theorem dX3_steps_1 : decode cX3_steps 1 = .ok (.iconst 1, 1) := by decide +kernel
theorem dX3_steps_2 : decode cX3_steps 2 = .ok (.if_icmp .lt 9, 3) := by decide +kernel
theorem dX3_steps_5 : decode cX3_steps 5 = .ok (.iload_n 1, 1) := by decide +kernel
theorem dX3_steps_6 : decode cX3_steps 6 = .ok (.bipush 64, 2) := by decide +kernel
theorem dX3_steps_8 : decode cX3_steps 8 = .ok (.if_icmp .le 5, 3) := by decide +kernel
theorem dX3_steps_11 : decode cX3_steps 11 = .ok (.iconst (-1), 1) := by decide +kernel
theorem dX3_steps_12 : decode cX3_steps 12 = .ok (.ireturn, 1) := by decide +kernel
theorem dX3_steps_13 : decode cX3_steps 13 = .ok (.iconst 0, 1) := by decide +kernel
theorem dX3_steps_14 : decode cX3_steps 14 = .ok (.istore_n 2, 1) := by decide +kernel
theorem dX3_steps_15 : decode cX3_steps 15 = .ok (.iload_n 2, 1) := by decide +kernel
theorem dX3_steps_16 : decode cX3_steps 16 = .ok (.iload_n 1, 1) := by decide +kernel
theorem dX3_steps_17 : decode cX3_steps 17 = .ok (.if_icmp .ge 16, 3) := by decide +kernel
theorem dX3_steps_20 : decode cX3_steps 20 = .ok (.aload_n 0, 1) := by decide +kernel
theorem dX3_steps_21 : decode cX3_steps 21 = .ok (.invokevirtual 126, 3) := by decide +kernel
theorem dX3_steps_24 : decode cX3_steps 24 = .ok (.ifCond .eq 9, 3) := by decide +kernel
theorem dX3_steps_27 : decode cX3_steps 27 = .ok (.iinc 2 1, 3) := by decide +kernel
theorem dX3_steps_30 : decode cX3_steps 30 = .ok (.goto (-15), 3) := by decide +kernel
theorem dX3_steps_33 : decode cX3_steps 33 = .ok (.iload_n 2, 1) := by decide +kernel
theorem dX3_steps_34 : decode cX3_steps 34 = .ok (.ireturn, 1) := by decide +kernel
set_option maxRecDepth 20000 in
theorem ggX3_undo_X1_latestCell : GoodIn wsX3_undo wsX1_latestCell := goodIn_r _ [8, 9, 10, 11, 12, 13, 14, 43, 44, 45, 46, 47] (by decide +kernel) (by decide +kernel)
set_option maxRecDepth 20000 in
theorem gX3_undo_X1_latestCell : GoodIn wsX3_undo (wsV RX3 134 RX1 yX1_latestCell wsX1_latestCell) := goodIn_app (goodIn_of _ (by decide +kernel)) ggX3_undo_X1_latestCell
set_option maxRecDepth 20000 in
theorem ggX3_undo_X1_latestFrom : GoodIn wsX3_undo wsX1_latestFrom := goodIn_r _ [18, 19, 10, 11, 12, 13, 14, 43, 44, 45, 46, 47] (by decide +kernel) (by decide +kernel)
set_option maxRecDepth 20000 in
theorem gX3_undo_X1_latestFrom : GoodIn wsX3_undo (wsV RX3 138 RX1 yX1_latestFrom wsX1_latestFrom) := goodIn_app (goodIn_of _ (by decide +kernel)) ggX3_undo_X1_latestFrom
set_option maxRecDepth 20000 in
theorem ggX3_undo_X0_put : GoodIn wsX3_undo wsX0_put := goodIn_r _ [24, 25, 26, 27, 28, 29, 48, 49, 50] (by decide +kernel) (by decide +kernel)
set_option maxRecDepth 20000 in
theorem gX3_undo_X0_put : GoodIn wsX3_undo (wsV RX3 70 RX0 yX0_put wsX0_put) := goodIn_app (goodIn_of _ (by decide +kernel)) ggX3_undo_X0_put
set_option maxRecDepth 20000 in
theorem ggX3_undo_X1_dropLatest : GoodIn wsX3_undo wsX1_dropLatest := goodIn_r _ [33, 10, 34, 43, 44, 45, 46, 47] (by decide +kernel) (by decide +kernel)
set_option maxRecDepth 20000 in
theorem gX3_undo_X1_dropLatest : GoodIn wsX3_undo (wsV RX3 141 RX1 yX1_dropLatest wsX1_dropLatest) := goodIn_app (goodIn_of _ (by decide +kernel)) ggX3_undo_X1_dropLatest
theorem dX3_undo_0 : decode cX3_undo 0 = .ok (.iload_n 1, 1) := by decide +kernel
theorem dX3_undo_1 : decode cX3_undo 1 = .ok (.iconst 1, 1) := by decide +kernel
theorem dX3_undo_2 : decode cX3_undo 2 = .ok (.if_icmp .lt 9, 3) := by decide +kernel
theorem dX3_undo_5 : decode cX3_undo 5 = .ok (.iload_n 1, 1) := by decide +kernel
theorem dX3_undo_6 : decode cX3_undo 6 = .ok (.bipush 100, 2) := by decide +kernel
theorem dX3_undo_8 : decode cX3_undo 8 = .ok (.if_icmp .le 5, 3) := by decide +kernel
theorem dX3_undo_11 : decode cX3_undo 11 = .ok (.iconst (-1), 1) := by decide +kernel
theorem dX3_undo_12 : decode cX3_undo 12 = .ok (.ireturn, 1) := by decide +kernel
theorem dX3_undo_13 : decode cX3_undo 13 = .ok (.iconst 0, 1) := by decide +kernel
theorem dX3_undo_14 : decode cX3_undo 14 = .ok (.istore_n 2, 1) := by decide +kernel
theorem dX3_undo_15 : decode cX3_undo 15 = .ok (.iload_n 2, 1) := by decide +kernel
theorem dX3_undo_16 : decode cX3_undo 16 = .ok (.iload_n 1, 1) := by decide +kernel
theorem dX3_undo_17 : decode cX3_undo 17 = .ok (.if_icmp .ge 47, 3) := by decide +kernel
theorem dX3_undo_20 : decode cX3_undo 20 = .ok (.aload_n 0, 1) := by decide +kernel
theorem dX3_undo_21 : decode cX3_undo 21 = .ok (.getfield 19, 3) := by decide +kernel
theorem dX3_undo_24 : decode cX3_undo 24 = .ok (.getfield 130, 3) := by decide +kernel
theorem dX3_undo_27 : decode cX3_undo 27 = .ok (.ifCond .le 37, 3) := by decide +kernel
theorem dX3_undo_30 : decode cX3_undo 30 = .ok (.aload_n 0, 1) := by decide +kernel
theorem dX3_undo_31 : decode cX3_undo 31 = .ok (.getfield 12, 3) := by decide +kernel
theorem dX3_undo_34 : decode cX3_undo 34 = .ok (.aload_n 0, 1) := by decide +kernel
theorem dX3_undo_35 : decode cX3_undo 35 = .ok (.getfield 19, 3) := by decide +kernel
theorem dX3_undo_38 : decode cX3_undo 38 = .ok (.invokevirtual 134, 3) := by decide +kernel
theorem dX3_undo_41 : decode cX3_undo 41 = .ok (.aload_n 0, 1) := by decide +kernel
theorem dX3_undo_42 : decode cX3_undo 42 = .ok (.getfield 19, 3) := by decide +kernel
theorem dX3_undo_45 : decode cX3_undo 45 = .ok (.invokevirtual 138, 3) := by decide +kernel
theorem dX3_undo_48 : decode cX3_undo 48 = .ok (.invokevirtual 70, 3) := by decide +kernel
theorem dX3_undo_51 : decode cX3_undo 51 = .ok (.aload_n 0, 1) := by decide +kernel
theorem dX3_undo_52 : decode cX3_undo 52 = .ok (.getfield 19, 3) := by decide +kernel
theorem dX3_undo_55 : decode cX3_undo 55 = .ok (.invokevirtual 141, 3) := by decide +kernel
theorem dX3_undo_58 : decode cX3_undo 58 = .ok (.iinc 2 1, 3) := by decide +kernel
theorem dX3_undo_61 : decode cX3_undo 61 = .ok (.goto (-46), 3) := by decide +kernel
theorem dX3_undo_64 : decode cX3_undo 64 = .ok (.iload_n 2, 1) := by decide +kernel
theorem dX3_undo_65 : decode cX3_undo 65 = .ok (.ireturn, 1) := by decide +kernel
set_option maxRecDepth 20000 in
theorem ggX3_label_X3_isLand : GoodIn wsX3_label wsX3_isLand := goodIn_r _ [5] (by decide +kernel) (by decide +kernel)
set_option maxRecDepth 20000 in
theorem gX3_label_X3_isLand : GoodIn wsX3_label (va_wsS RX3 73 yX3_isLand wsX3_isLand) := goodIn_app (goodIn_of _ (by decide +kernel)) ggX3_label_X3_isLand
set_option maxRecDepth 20000 in
theorem ggX3_label_X0_cellsOf : GoodIn wsX3_label wsX0_cellsOf := goodIn_r _ [10, 11, 3, 4, 5, 43, 44, 45] (by decide +kernel) (by decide +kernel)
set_option maxRecDepth 20000 in
theorem gX3_label_X0_cellsOf : GoodIn wsX3_label (wsV RX3 79 RX0 yX0_cellsOf wsX0_cellsOf) := goodIn_app (goodIn_of _ (by decide +kernel)) ggX3_label_X0_cellsOf
set_option maxRecDepth 20000 in
theorem ggX3_label_X3_inside : GoodIn wsX3_label wsX3_inside := goodIn_r _ [14, 15, 16, 4, 17, 18, 19, 20, 21, 22] (by decide +kernel) (by decide +kernel)
set_option maxRecDepth 20000 in
theorem gX3_label_X3_inside : GoodIn wsX3_label (va_wsS RX3 144 yX3_inside wsX3_inside) := goodIn_app (goodIn_of _ (by decide +kernel)) ggX3_label_X3_inside
set_option maxRecDepth 20000 in
theorem ggX3_label_X3_firstOf : GoodIn wsX3_label wsX3_firstOf := goodIn_r _ [25, 26, 27, 4, 28] (by decide +kernel) (by decide +kernel)
set_option maxRecDepth 20000 in
theorem gX3_label_X3_firstOf : GoodIn wsX3_label (va_wsS RX3 147 yX3_firstOf wsX3_firstOf) := goodIn_app (goodIn_of _ (by decide +kernel)) ggX3_label_X3_firstOf
set_option maxRecDepth 20000 in
theorem ggX3_label_X3_columnOf : GoodIn wsX3_label wsX3_columnOf := goodIn_r _ [31] (by decide +kernel) (by decide +kernel)
set_option maxRecDepth 20000 in
theorem gX3_label_X3_columnOf : GoodIn wsX3_label (va_wsS RX3 98 yX3_columnOf wsX3_columnOf) := goodIn_app (goodIn_of _ (by decide +kernel)) ggX3_label_X3_columnOf
set_option maxRecDepth 20000 in
theorem ggX3_label_X3_rowOf : GoodIn wsX3_label wsX3_rowOf := goodIn_r _ [34] (by decide +kernel) (by decide +kernel)
set_option maxRecDepth 20000 in
theorem gX3_label_X3_rowOf : GoodIn wsX3_label (va_wsS RX3 101 yX3_rowOf wsX3_rowOf) := goodIn_app (goodIn_of _ (by decide +kernel)) ggX3_label_X3_rowOf
theorem dX3_label_0 : decode cX3_label 0 = .ok (.iload_n 1, 1) := by decide +kernel
theorem dX3_label_1 : decode cX3_label 1 = .ok (.invokestatic 73, 3) := by decide +kernel
theorem dX3_label_4 : decode cX3_label 4 = .ok (.ifCond .eq 12, 3) := by decide +kernel
theorem dX3_label_7 : decode cX3_label 7 = .ok (.iload_n 2, 1) := by decide +kernel
theorem dX3_label_8 : decode cX3_label 8 = .ok (.ifCond .lt 8, 3) := by decide +kernel
theorem dX3_label_11 : decode cX3_label 11 = .ok (.iload_n 2, 1) := by decide +kernel
theorem dX3_label_12 : decode cX3_label 12 = .ok (.iconst 2, 1) := by decide +kernel
theorem dX3_label_13 : decode cX3_label 13 = .ok (.if_icmp .le 5, 3) := by decide +kernel
theorem dX3_label_16 : decode cX3_label 16 = .ok (.iconst (-1), 1) := by decide +kernel
theorem dX3_label_17 : decode cX3_label 17 = .ok (.ireturn, 1) := by decide +kernel
theorem dX3_label_18 : decode cX3_label 18 = .ok (.aload_n 0, 1) := by decide +kernel
theorem dX3_label_19 : decode cX3_label 19 = .ok (.getfield 12, 3) := by decide +kernel
theorem dX3_label_22 : decode cX3_label 22 = .ok (.iload_n 1, 1) := by decide +kernel
theorem dX3_label_23 : decode cX3_label 23 = .ok (.invokevirtual 79, 3) := by decide +kernel
theorem dX3_label_26 : decode cX3_label 26 = .ok (.lstore_n 3, 1) := by decide +kernel
theorem dX3_label_27 : decode cX3_label 27 = .ok (.lload_n 3, 1) := by decide +kernel
theorem dX3_label_28 : decode cX3_label 28 = .ok (.lconst 0, 1) := by decide +kernel
theorem dX3_label_29 : decode cX3_label 29 = .ok (.lcmp, 1) := by decide +kernel
theorem dX3_label_30 : decode cX3_label 30 = .ok (.ifCond .ne 6, 3) := by decide +kernel
theorem dX3_label_33 : decode cX3_label 33 = .ok (.bipush (-9), 2) := by decide +kernel
theorem dX3_label_35 : decode cX3_label 35 = .ok (.ireturn, 1) := by decide +kernel
theorem dX3_label_36 : decode cX3_label 36 = .ok (.iconst 1, 1) := by decide +kernel
theorem dX3_label_37 : decode cX3_label 37 = .ok (.istore 5, 2) := by decide +kernel
theorem dX3_label_39 : decode cX3_label 39 = .ok (.iconst 0, 1) := by decide +kernel
theorem dX3_label_40 : decode cX3_label 40 = .ok (.istore 6, 2) := by decide +kernel
theorem dX3_label_42 : decode cX3_label 42 = .ok (.iload 6, 2) := by decide +kernel
theorem dX3_label_44 : decode cX3_label 44 = .ok (.bipush 8, 2) := by decide +kernel
theorem dX3_label_46 : decode cX3_label 46 = .ok (.if_icmp .ge 26, 3) := by decide +kernel
theorem dX3_label_49 : decode cX3_label 49 = .ok (.lload_n 3, 1) := by decide +kernel
theorem dX3_label_50 : decode cX3_label 50 = .ok (.invokestatic 144, 3) := by decide +kernel
theorem dX3_label_53 : decode cX3_label 53 = .ok (.lconst 0, 1) := by decide +kernel
theorem dX3_label_54 : decode cX3_label 54 = .ok (.lcmp, 1) := by decide +kernel
theorem dX3_label_55 : decode cX3_label 55 = .ok (.ifCond .eq 17, 3) := by decide +kernel
theorem dX3_label_58 : decode cX3_label 58 = .ok (.lload_n 3, 1) := by decide +kernel
theorem dX3_label_59 : decode cX3_label 59 = .ok (.invokestatic 144, 3) := by decide +kernel
theorem dX3_label_62 : decode cX3_label 62 = .ok (.lstore_n 3, 1) := by decide +kernel
theorem dX3_label_63 : decode cX3_label 63 = .ok (.iinc 5 1, 3) := by decide +kernel
theorem dX3_label_66 : decode cX3_label 66 = .ok (.iinc 6 1, 3) := by decide +kernel
theorem dX3_label_69 : decode cX3_label 69 = .ok (.goto (-27), 3) := by decide +kernel
theorem dX3_label_72 : decode cX3_label 72 = .ok (.lload_n 3, 1) := by decide +kernel
theorem dX3_label_73 : decode cX3_label 73 = .ok (.invokestatic 147, 3) := by decide +kernel
theorem dX3_label_76 : decode cX3_label 76 = .ok (.istore 6, 2) := by decide +kernel
theorem dX3_label_78 : decode cX3_label 78 = .ok (.iload_n 2, 1) := by decide +kernel
theorem dX3_label_79 : decode cX3_label 79 = .ok (.ifCond .ne 11, 3) := by decide +kernel
theorem dX3_label_82 : decode cX3_label 82 = .ok (.iload 6, 2) := by decide +kernel
theorem dX3_label_84 : decode cX3_label 84 = .ok (.invokestatic 98, 3) := by decide +kernel
theorem dX3_label_87 : decode cX3_label 87 = .ok (.goto 18, 3) := by decide +kernel
theorem dX3_label_90 : decode cX3_label 90 = .ok (.iload_n 2, 1) := by decide +kernel
theorem dX3_label_91 : decode cX3_label 91 = .ok (.iconst 1, 1) := by decide +kernel
theorem dX3_label_92 : decode cX3_label 92 = .ok (.if_icmp .ne 11, 3) := by decide +kernel
theorem dX3_label_95 : decode cX3_label 95 = .ok (.iload 6, 2) := by decide +kernel
theorem dX3_label_97 : decode cX3_label 97 = .ok (.invokestatic 101, 3) := by decide +kernel
theorem dX3_label_100 : decode cX3_label 100 = .ok (.goto 5, 3) := by decide +kernel
theorem dX3_label_103 : decode cX3_label 103 = .ok (.iload 5, 2) := by decide +kernel
theorem dX3_label_105 : decode cX3_label 105 = .ok (.ireturn, 1) := by decide +kernel
set_option maxRecDepth 20000 in
theorem ggX3_longer_X3_hasBox : GoodIn wsX3_longer wsX3_hasBox := goodIn_r _ [7, 2, 8, 9, 6, 10, 11, 12, 13, 14, 15, 16, 17, 18, 19, 20, 21, 22, 23, 24, 25, 26, 27, 28, 29, 30, 31, 83, 84, 85, 86, 87, 88, 89, 90, 91, 92, 93] (by decide +kernel) (by decide +kernel)
set_option maxRecDepth 20000 in
theorem gX3_longer_X3_hasBox : GoodIn wsX3_longer (wsV RX3 151 RX3 yX3_hasBox wsX3_hasBox) := goodIn_app (goodIn_of _ (by decide +kernel)) ggX3_longer_X3_hasBox
set_option maxRecDepth 20000 in
theorem ggX3_longer_X2_read : GoodIn wsX3_longer wsX2_read := goodIn_r _ [36, 37, 38, 39, 40, 41, 12, 13, 14, 15, 16, 17, 18, 19, 20, 9, 6, 10, 21, 22, 23, 24, 25, 26, 27, 94, 95, 96, 97, 98, 99, 100, 91, 92, 93] (by decide +kernel) (by decide +kernel)
set_option maxRecDepth 20000 in
theorem gX3_longer_X2_read : GoodIn wsX3_longer (wsV RX3 154 RX2 yX2_read wsX2_read) := goodIn_app (goodIn_of _ (by decide +kernel)) ggX3_longer_X2_read
set_option maxRecDepth 20000 in
theorem ggX3_longer_X2_lay : GoodIn wsX3_longer wsX2_lay := goodIn_r _ [45, 37, 46, 47, 48, 35, 49, 50, 51, 52, 53, 54, 55, 40, 56, 94, 95, 96, 97, 98, 99, 100] (by decide +kernel) (by decide +kernel)
set_option maxRecDepth 20000 in
theorem gX3_longer_X2_lay : GoodIn wsX3_longer (wsV RX3 158 RX2 yX2_lay wsX2_lay) := goodIn_app (goodIn_of _ (by decide +kernel)) ggX3_longer_X2_lay
set_option maxRecDepth 20000 in
theorem ggX3_longer_X2_placeOf : GoodIn wsX3_longer wsX2_placeOf := goodIn_r _ [60, 39, 9, 6, 10, 94, 95, 96, 97, 98, 99, 100] (by decide +kernel) (by decide +kernel)
set_option maxRecDepth 20000 in
theorem gX3_longer_X2_placeOf : GoodIn wsX3_longer (wsV RX3 162 RX2 yX2_placeOf wsX2_placeOf) := goodIn_app (goodIn_of _ (by decide +kernel)) ggX3_longer_X2_placeOf
set_option maxRecDepth 20000 in
theorem ggX3_longer_X2_longUpper : GoodIn wsX3_longer wsX2_longUpper := goodIn_r _ [64, 50, 51, 52, 53, 65, 66, 67, 35, 68, 56, 69, 70, 71, 72, 40, 38, 94, 95, 96, 97, 98, 99, 100] (by decide +kernel) (by decide +kernel)
set_option maxRecDepth 20000 in
theorem gX3_longer_X2_longUpper : GoodIn wsX3_longer (wsV RX3 165 RX2 yX2_longUpper wsX2_longUpper) := goodIn_app (goodIn_of _ (by decide +kernel)) ggX3_longer_X2_longUpper
set_option maxRecDepth 20000 in
theorem ggX3_longer_X2_longLower : GoodIn wsX3_longer wsX2_longLower := goodIn_r _ [76, 77, 78, 52, 79, 65, 66, 67, 35, 68, 56, 69, 70, 71, 72, 40, 38, 94, 95, 96, 97, 98, 99, 100] (by decide +kernel) (by decide +kernel)
set_option maxRecDepth 20000 in
theorem gX3_longer_X2_longLower : GoodIn wsX3_longer (wsV RX3 168 RX2 yX2_longLower wsX2_longLower) := goodIn_app (goodIn_of _ (by decide +kernel)) ggX3_longer_X2_longLower
set_option maxRecDepth 20000 in
theorem ggX3_longer_X3_commonDivisor : GoodIn wsX3_longer wsX3_commonDivisor := goodIn_r _ [82] (by decide +kernel) (by decide +kernel)
set_option maxRecDepth 20000 in
theorem gX3_longer_X3_commonDivisor : GoodIn wsX3_longer (va_wsS RX3 171 yX3_commonDivisor wsX3_commonDivisor) := goodIn_app (goodIn_of _ (by decide +kernel)) ggX3_longer_X3_commonDivisor
theorem dX3_longer_0 : decode cX3_longer 0 = .ok (.iload_n 3, 1) := by decide +kernel
theorem dX3_longer_1 : decode cX3_longer 1 = .ok (.ifCond .lt 17, 3) := by decide +kernel
theorem dX3_longer_4 : decode cX3_longer 4 = .ok (.iload_n 3, 1) := by decide +kernel
theorem dX3_longer_5 : decode cX3_longer 5 = .ok (.iconst 1, 1) := by decide +kernel
theorem dX3_longer_6 : decode cX3_longer 6 = .ok (.if_icmp .gt 12, 3) := by decide +kernel
theorem dX3_longer_9 : decode cX3_longer 9 = .ok (.aload_n 0, 1) := by decide +kernel
theorem dX3_longer_10 : decode cX3_longer 10 = .ok (.iload_n 1, 1) := by decide +kernel
theorem dX3_longer_11 : decode cX3_longer 11 = .ok (.iload_n 2, 1) := by decide +kernel
theorem dX3_longer_12 : decode cX3_longer 12 = .ok (.invokevirtual 151, 3) := by decide +kernel
theorem dX3_longer_15 : decode cX3_longer 15 = .ok (.ifCond .ne 5, 3) := by decide +kernel
theorem dX3_longer_18 : decode cX3_longer 18 = .ok (.iconst (-1), 1) := by decide +kernel
theorem dX3_longer_19 : decode cX3_longer 19 = .ok (.ireturn, 1) := by decide +kernel
theorem dX3_longer_20 : decode cX3_longer 20 = .ok (.aload_n 0, 1) := by decide +kernel
theorem dX3_longer_21 : decode cX3_longer 21 = .ok (.getfield 26, 3) := by decide +kernel
theorem dX3_longer_24 : decode cX3_longer 24 = .ok (.aload_n 0, 1) := by decide +kernel
theorem dX3_longer_25 : decode cX3_longer 25 = .ok (.getfield 12, 3) := by decide +kernel
theorem dX3_longer_28 : decode cX3_longer 28 = .ok (.invokevirtual 154, 3) := by decide +kernel
theorem dX3_longer_31 : decode cX3_longer 31 = .ok (.aload_n 0, 1) := by decide +kernel
theorem dX3_longer_32 : decode cX3_longer 32 = .ok (.getfield 26, 3) := by decide +kernel
theorem dX3_longer_35 : decode cX3_longer 35 = .ok (.iload_n 1, 1) := by decide +kernel
theorem dX3_longer_36 : decode cX3_longer 36 = .ok (.invokevirtual 158, 3) := by decide +kernel
theorem dX3_longer_39 : decode cX3_longer 39 = .ok (.aload_n 0, 1) := by decide +kernel
theorem dX3_longer_40 : decode cX3_longer 40 = .ok (.getfield 26, 3) := by decide +kernel
theorem dX3_longer_43 : decode cX3_longer 43 = .ok (.aload_n 0, 1) := by decide +kernel
theorem dX3_longer_44 : decode cX3_longer 44 = .ok (.getfield 26, 3) := by decide +kernel
theorem dX3_longer_47 : decode cX3_longer 47 = .ok (.iload_n 2, 1) := by decide +kernel
theorem dX3_longer_48 : decode cX3_longer 48 = .ok (.invokevirtual 162, 3) := by decide +kernel
theorem dX3_longer_51 : decode cX3_longer 51 = .ok (.invokevirtual 165, 3) := by decide +kernel
theorem dX3_longer_54 : decode cX3_longer 54 = .ok (.istore 4, 2) := by decide +kernel
theorem dX3_longer_56 : decode cX3_longer 56 = .ok (.aload_n 0, 1) := by decide +kernel
theorem dX3_longer_57 : decode cX3_longer 57 = .ok (.getfield 26, 3) := by decide +kernel
theorem dX3_longer_60 : decode cX3_longer 60 = .ok (.aload_n 0, 1) := by decide +kernel
theorem dX3_longer_61 : decode cX3_longer 61 = .ok (.getfield 26, 3) := by decide +kernel
theorem dX3_longer_64 : decode cX3_longer 64 = .ok (.iload_n 2, 1) := by decide +kernel
theorem dX3_longer_65 : decode cX3_longer 65 = .ok (.invokevirtual 162, 3) := by decide +kernel
theorem dX3_longer_68 : decode cX3_longer 68 = .ok (.invokevirtual 168, 3) := by decide +kernel
theorem dX3_longer_71 : decode cX3_longer 71 = .ok (.istore 5, 2) := by decide +kernel
theorem dX3_longer_73 : decode cX3_longer 73 = .ok (.iload 4, 2) := by decide +kernel
theorem dX3_longer_75 : decode cX3_longer 75 = .ok (.iload 5, 2) := by decide +kernel
theorem dX3_longer_77 : decode cX3_longer 77 = .ok (.invokestatic 171, 3) := by decide +kernel
theorem dX3_longer_80 : decode cX3_longer 80 = .ok (.istore 6, 2) := by decide +kernel
theorem dX3_longer_82 : decode cX3_longer 82 = .ok (.iload 6, 2) := by decide +kernel
theorem dX3_longer_84 : decode cX3_longer 84 = .ok (.iconst 1, 1) := by decide +kernel
theorem dX3_longer_85 : decode cX3_longer 85 = .ok (.if_icmp .ge 7, 3) := by decide +kernel
theorem dX3_longer_88 : decode cX3_longer 88 = .ok (.iconst (-1), 1) := by decide +kernel
theorem dX3_longer_89 : decode cX3_longer 89 = .ok (.goto 17, 3) := by decide +kernel
theorem dX3_longer_92 : decode cX3_longer 92 = .ok (.iload_n 3, 1) := by decide +kernel
theorem dX3_longer_93 : decode cX3_longer 93 = .ok (.ifCond .ne 8, 3) := by decide +kernel
theorem dX3_longer_96 : decode cX3_longer 96 = .ok (.iload 4, 2) := by decide +kernel
theorem dX3_longer_98 : decode cX3_longer 98 = .ok (.goto 5, 3) := by decide +kernel
theorem dX3_longer_101 : decode cX3_longer 101 = .ok (.iload 5, 2) := by decide +kernel
theorem dX3_longer_103 : decode cX3_longer 103 = .ok (.iload 6, 2) := by decide +kernel
theorem dX3_longer_105 : decode cX3_longer 105 = .ok (.idiv, 1) := by decide +kernel
theorem dX3_longer_106 : decode cX3_longer 106 = .ok (.ireturn, 1) := by decide +kernel
set_option maxRecDepth 20000 in
theorem ggX3_box_X3_hasBox : GoodIn wsX3_box wsX3_hasBox := goodIn_r _ [7, 2, 8, 9, 6, 10, 11, 12, 13, 14, 15, 16, 17, 18, 19, 20, 21, 22, 23, 24, 25, 26, 27, 28, 29, 30, 31, 67, 68, 69, 70, 71, 72, 73, 74, 75, 76, 77] (by decide +kernel) (by decide +kernel)
set_option maxRecDepth 20000 in
theorem gX3_box_X3_hasBox : GoodIn wsX3_box (wsV RX3 151 RX3 yX3_hasBox wsX3_hasBox) := goodIn_app (goodIn_of _ (by decide +kernel)) ggX3_box_X3_hasBox
set_option maxRecDepth 20000 in
theorem ggX3_box_X2_read : GoodIn wsX3_box wsX2_read := goodIn_r _ [36, 37, 38, 39, 40, 41, 12, 13, 14, 15, 16, 17, 18, 19, 20, 9, 6, 10, 21, 22, 23, 24, 25, 26, 27, 78, 79, 80, 81, 82, 83, 84, 75, 76, 77] (by decide +kernel) (by decide +kernel)
set_option maxRecDepth 20000 in
theorem gX3_box_X2_read : GoodIn wsX3_box (wsV RX3 154 RX2 yX2_read wsX2_read) := goodIn_app (goodIn_of _ (by decide +kernel)) ggX3_box_X2_read
set_option maxRecDepth 20000 in
theorem ggX3_box_X2_lay : GoodIn wsX3_box wsX2_lay := goodIn_r _ [45, 37, 46, 47, 48, 35, 49, 50, 51, 52, 53, 54, 55, 40, 56, 78, 79, 80, 81, 82, 83, 84] (by decide +kernel) (by decide +kernel)
set_option maxRecDepth 20000 in
theorem gX3_box_X2_lay : GoodIn wsX3_box (wsV RX3 158 RX2 yX2_lay wsX2_lay) := goodIn_app (goodIn_of _ (by decide +kernel)) ggX3_box_X2_lay
set_option maxRecDepth 20000 in
theorem ggX3_box_X2_placeOf : GoodIn wsX3_box wsX2_placeOf := goodIn_r _ [60, 39, 9, 6, 10, 78, 79, 80, 81, 82, 83, 84] (by decide +kernel) (by decide +kernel)
set_option maxRecDepth 20000 in
theorem gX3_box_X2_placeOf : GoodIn wsX3_box (wsV RX3 162 RX2 yX2_placeOf wsX2_placeOf) := goodIn_app (goodIn_of _ (by decide +kernel)) ggX3_box_X2_placeOf
set_option maxRecDepth 20000 in
theorem ggX3_box_X2_side : GoodIn wsX3_box wsX2_side := goodIn_r _ [64, 54, 56, 55, 38, 40, 65, 6, 66, 78, 79, 80, 81, 82, 83, 84] (by decide +kernel) (by decide +kernel)
set_option maxRecDepth 20000 in
theorem gX3_box_X2_side : GoodIn wsX3_box (wsV RX3 174 RX2 yX2_side wsX2_side) := goodIn_app (goodIn_of _ (by decide +kernel)) ggX3_box_X2_side
theorem dX3_box_0 : decode cX3_box 0 = .ok (.iload_n 3, 1) := by decide +kernel
theorem dX3_box_1 : decode cX3_box 1 = .ok (.ifCond .lt 17, 3) := by decide +kernel
theorem dX3_box_4 : decode cX3_box 4 = .ok (.iload_n 3, 1) := by decide +kernel
theorem dX3_box_5 : decode cX3_box 5 = .ok (.iconst 3, 1) := by decide +kernel
theorem dX3_box_6 : decode cX3_box 6 = .ok (.if_icmp .gt 12, 3) := by decide +kernel
theorem dX3_box_9 : decode cX3_box 9 = .ok (.aload_n 0, 1) := by decide +kernel
theorem dX3_box_10 : decode cX3_box 10 = .ok (.iload_n 1, 1) := by decide +kernel
theorem dX3_box_11 : decode cX3_box 11 = .ok (.iload_n 2, 1) := by decide +kernel
theorem dX3_box_12 : decode cX3_box 12 = .ok (.invokevirtual 151, 3) := by decide +kernel
theorem dX3_box_15 : decode cX3_box 15 = .ok (.ifCond .ne 5, 3) := by decide +kernel
theorem dX3_box_18 : decode cX3_box 18 = .ok (.iconst (-1), 1) := by decide +kernel
theorem dX3_box_19 : decode cX3_box 19 = .ok (.ireturn, 1) := by decide +kernel
theorem dX3_box_20 : decode cX3_box 20 = .ok (.aload_n 0, 1) := by decide +kernel
theorem dX3_box_21 : decode cX3_box 21 = .ok (.getfield 26, 3) := by decide +kernel
theorem dX3_box_24 : decode cX3_box 24 = .ok (.aload_n 0, 1) := by decide +kernel
theorem dX3_box_25 : decode cX3_box 25 = .ok (.getfield 12, 3) := by decide +kernel
theorem dX3_box_28 : decode cX3_box 28 = .ok (.invokevirtual 154, 3) := by decide +kernel
theorem dX3_box_31 : decode cX3_box 31 = .ok (.aload_n 0, 1) := by decide +kernel
theorem dX3_box_32 : decode cX3_box 32 = .ok (.getfield 26, 3) := by decide +kernel
theorem dX3_box_35 : decode cX3_box 35 = .ok (.iload_n 1, 1) := by decide +kernel
theorem dX3_box_36 : decode cX3_box 36 = .ok (.invokevirtual 158, 3) := by decide +kernel
theorem dX3_box_39 : decode cX3_box 39 = .ok (.aload_n 0, 1) := by decide +kernel
theorem dX3_box_40 : decode cX3_box 40 = .ok (.getfield 26, 3) := by decide +kernel
theorem dX3_box_43 : decode cX3_box 43 = .ok (.aload_n 0, 1) := by decide +kernel
theorem dX3_box_44 : decode cX3_box 44 = .ok (.getfield 26, 3) := by decide +kernel
theorem dX3_box_47 : decode cX3_box 47 = .ok (.iload_n 2, 1) := by decide +kernel
theorem dX3_box_48 : decode cX3_box 48 = .ok (.invokevirtual 162, 3) := by decide +kernel
theorem dX3_box_51 : decode cX3_box 51 = .ok (.iload_n 3, 1) := by decide +kernel
theorem dX3_box_52 : decode cX3_box 52 = .ok (.invokevirtual 174, 3) := by decide +kernel
theorem dX3_box_55 : decode cX3_box 55 = .ok (.ireturn, 1) := by decide +kernel
set_option maxRecDepth 20000 in
theorem ggX3_best_X2_read : GoodIn wsX3_best wsX2_read := goodIn_r _ [8, 9, 10, 11, 12, 13, 14, 15, 16, 17, 18, 19, 20, 21, 22, 23, 24, 25, 26, 27, 28, 29, 30, 31, 32, 83, 84, 85, 86, 87, 88, 89, 90, 91, 92] (by decide +kernel) (by decide +kernel)
set_option maxRecDepth 20000 in
theorem gX3_best_X2_read : GoodIn wsX3_best (wsV RX3 154 RX2 yX2_read wsX2_read) := goodIn_app (goodIn_of _ (by decide +kernel)) ggX3_best_X2_read
set_option maxRecDepth 20000 in
theorem ggX3_best_X2_bestCuts : GoodIn wsX3_best wsX2_bestCuts := goodIn_r _ [36, 9, 37, 38, 39, 40, 41, 42, 43, 7, 44, 45, 46, 47, 48, 49, 50, 12, 51, 52, 53, 54, 55, 56, 57, 58, 59, 60, 61, 62, 63, 64, 65, 66, 67, 10, 68, 69, 70, 71, 72, 73, 74, 83, 84, 85, 86, 87, 88, 89] (by decide +kernel) (by decide +kernel)
set_option maxRecDepth 20000 in
theorem gX3_best_X2_bestCuts : GoodIn wsX3_best (wsV RX3 180 RX2 yX2_bestCuts wsX2_bestCuts) := goodIn_app (goodIn_of _ (by decide +kernel)) ggX3_best_X2_bestCuts
theorem dX3_best_0 : decode cX3_best 0 = .ok (.aload_n 0, 1) := by decide +kernel
theorem dX3_best_1 : decode cX3_best 1 = .ok (.getfield 26, 3) := by decide +kernel
theorem dX3_best_4 : decode cX3_best 4 = .ok (.aload_n 0, 1) := by decide +kernel
theorem dX3_best_5 : decode cX3_best 5 = .ok (.getfield 12, 3) := by decide +kernel
theorem dX3_best_8 : decode cX3_best 8 = .ok (.invokevirtual 154, 3) := by decide +kernel
theorem dX3_best_11 : decode cX3_best 11 = .ok (.aload_n 0, 1) := by decide +kernel
theorem dX3_best_12 : decode cX3_best 12 = .ok (.getfield 26, 3) := by decide +kernel
theorem dX3_best_15 : decode cX3_best 15 = .ok (.getfield 177, 3) := by decide +kernel
theorem dX3_best_18 : decode cX3_best 18 = .ok (.ifCond .ne 8, 3) := by decide +kernel
theorem dX3_best_21 : decode cX3_best 21 = .ok (.bipush (-9), 2) := by decide +kernel
theorem dX3_best_23 : decode cX3_best 23 = .ok (.goto 10, 3) := by decide +kernel
theorem dX3_best_26 : decode cX3_best 26 = .ok (.aload_n 0, 1) := by decide +kernel
theorem dX3_best_27 : decode cX3_best 27 = .ok (.getfield 26, 3) := by decide +kernel
theorem dX3_best_30 : decode cX3_best 30 = .ok (.invokevirtual 180, 3) := by decide +kernel
theorem dX3_best_33 : decode cX3_best 33 = .ok (.ireturn, 1) := by decide +kernel
set_option maxRecDepth 20000 in
theorem ggX3_keep_X3_isYear : GoodIn wsX3_keep wsX3_isYear := goodIn_r _ [9] (by decide +kernel) (by decide +kernel)
set_option maxRecDepth 20000 in
theorem gX3_keep_X3_isYear : GoodIn wsX3_keep (va_wsS RX3 183 yX3_isYear wsX3_isYear) := goodIn_app (goodIn_of _ (by decide +kernel)) ggX3_keep_X3_isYear
set_option maxRecDepth 20000 in
theorem ggX3_keep_X0_init : GoodIn wsX3_keep wsX0_init := goodIn_r _ [11, 12, 13, 14, 15, 16, 46, 47, 48] (by decide +kernel) (by decide +kernel)
set_option maxRecDepth 20000 in
theorem gX3_keep_X0_init_n11 : GoodIn wsX3_keep (wsX0_init) := ggX3_keep_X0_init
set_option maxRecDepth 20000 in
theorem ggX3_keep_X0_copy : GoodIn wsX3_keep wsX0_copy := goodIn_r _ [20, 21, 22, 16, 46, 47, 48] (by decide +kernel) (by decide +kernel)
set_option maxRecDepth 20000 in
theorem gX3_keep_X0_copy : GoodIn wsX3_keep (wsV RX3 186 RX0 yX0_copy wsX0_copy) := goodIn_app (goodIn_of _ (by decide +kernel)) ggX3_keep_X0_copy
set_option maxRecDepth 20000 in
theorem ggX3_keep_X0_landCells : GoodIn wsX3_keep wsX0_landCells := goodIn_r _ [26, 27, 28, 29, 4, 30, 16, 31, 32, 33, 34, 35, 36, 37, 46, 47, 48] (by decide +kernel) (by decide +kernel)
set_option maxRecDepth 20000 in
theorem gX3_keep_X0_landCells : GoodIn wsX3_keep (wsV RX3 189 RX0 yX0_landCells wsX0_landCells) := goodIn_app (goodIn_of _ (by decide +kernel)) ggX3_keep_X0_landCells
theorem dX3_keep_0 : decode cX3_keep 0 = .ok (.iload_n 1, 1) := by decide +kernel
theorem dX3_keep_1 : decode cX3_keep 1 = .ok (.invokestatic 183, 3) := by decide +kernel
theorem dX3_keep_4 : decode cX3_keep 4 = .ok (.ifCond .ne 5, 3) := by decide +kernel
theorem dX3_keep_7 : decode cX3_keep 7 = .ok (.iconst (-1), 1) := by decide +kernel
theorem dX3_keep_8 : decode cX3_keep 8 = .ok (.ireturn, 1) := by decide +kernel
theorem dX3_keep_9 : decode cX3_keep 9 = .ok (.aload_n 0, 1) := by decide +kernel
theorem dX3_keep_10 : decode cX3_keep 10 = .ok (.getfield 30, 3) := by decide +kernel
theorem dX3_keep_13 : decode cX3_keep 13 = .ok (.iload_n 1, 1) := by decide +kernel
theorem dX3_keep_14 : decode cX3_keep 14 = .ok (.aaload, 1) := by decide +kernel
theorem dX3_keep_15 : decode cX3_keep 15 = .ok (.astore_n 2, 1) := by decide +kernel
theorem dX3_keep_16 : decode cX3_keep 16 = .ok (.aload_n 2, 1) := by decide +kernel
theorem dX3_keep_17 : decode cX3_keep 17 = .ok (.ifnonnull 18, 3) := by decide +kernel
theorem dX3_keep_20 : decode cX3_keep 20 = .ok (.new 9, 3) := by decide +kernel
theorem dX3_keep_23 : decode cX3_keep 23 = .ok (.dup, 1) := by decide +kernel
theorem dX3_keep_24 : decode cX3_keep 24 = .ok (.invokespecial 11, 3) := by decide +kernel
theorem dX3_keep_27 : decode cX3_keep 27 = .ok (.astore_n 2, 1) := by decide +kernel
theorem dX3_keep_28 : decode cX3_keep 28 = .ok (.aload_n 0, 1) := by decide +kernel
theorem dX3_keep_29 : decode cX3_keep 29 = .ok (.getfield 30, 3) := by decide +kernel
theorem dX3_keep_32 : decode cX3_keep 32 = .ok (.iload_n 1, 1) := by decide +kernel
theorem dX3_keep_33 : decode cX3_keep 33 = .ok (.aload_n 2, 1) := by decide +kernel
theorem dX3_keep_34 : decode cX3_keep 34 = .ok (.aastore, 1) := by decide +kernel
theorem dX3_keep_35 : decode cX3_keep 35 = .ok (.aload_n 2, 1) := by decide +kernel
theorem dX3_keep_36 : decode cX3_keep 36 = .ok (.aload_n 0, 1) := by decide +kernel
theorem dX3_keep_37 : decode cX3_keep 37 = .ok (.getfield 12, 3) := by decide +kernel
theorem dX3_keep_40 : decode cX3_keep 40 = .ok (.invokevirtual 186, 3) := by decide +kernel
theorem dX3_keep_43 : decode cX3_keep 43 = .ok (.aload_n 0, 1) := by decide +kernel
theorem dX3_keep_44 : decode cX3_keep 44 = .ok (.getfield 12, 3) := by decide +kernel
theorem dX3_keep_47 : decode cX3_keep 47 = .ok (.invokevirtual 189, 3) := by decide +kernel
theorem dX3_keep_50 : decode cX3_keep 50 = .ok (.ireturn, 1) := by decide +kernel
set_option maxRecDepth 20000 in
theorem ggX3_back_X3_isYear : GoodIn wsX3_back wsX3_isYear := goodIn_r _ [7] (by decide +kernel) (by decide +kernel)
set_option maxRecDepth 20000 in
theorem gX3_back_X3_isYear : GoodIn wsX3_back (va_wsS RX3 183 yX3_isYear wsX3_isYear) := goodIn_app (goodIn_of _ (by decide +kernel)) ggX3_back_X3_isYear
set_option maxRecDepth 20000 in
theorem ggX3_back_X0_copy : GoodIn wsX3_back wsX0_copy := goodIn_r _ [12, 13, 14, 15, 51, 52, 53] (by decide +kernel) (by decide +kernel)
set_option maxRecDepth 20000 in
theorem gX3_back_X0_copy : GoodIn wsX3_back (wsV RX3 186 RX0 yX0_copy wsX0_copy) := goodIn_app (goodIn_of _ (by decide +kernel)) ggX3_back_X0_copy
set_option maxRecDepth 20000 in
theorem ggX3_back_X3_forgetKinds : GoodIn wsX3_back wsX3_forgetKinds := goodIn_r _ [19, 20, 21, 43, 44, 45, 46, 47, 48, 49, 50] (by decide +kernel) (by decide +kernel)
set_option maxRecDepth 20000 in
theorem gX3_back_X3_forgetKinds : GoodIn wsX3_back (wsV RX3 48 RX3 yX3_forgetKinds wsX3_forgetKinds) := goodIn_app (goodIn_of _ (by decide +kernel)) ggX3_back_X3_forgetKinds
set_option maxRecDepth 20000 in
theorem ggX3_back_X1_forget : GoodIn wsX3_back wsX1_forget := goodIn_r _ [26, 27, 54, 55, 56, 57, 58] (by decide +kernel) (by decide +kernel)
set_option maxRecDepth 20000 in
theorem gX3_back_X1_forget : GoodIn wsX3_back (wsV RX3 51 RX1 yX1_forget wsX1_forget) := goodIn_app (goodIn_of _ (by decide +kernel)) ggX3_back_X1_forget
set_option maxRecDepth 20000 in
theorem ggX3_back_X0_landCells : GoodIn wsX3_back wsX0_landCells := goodIn_r _ [31, 32, 33, 34, 11, 35, 15, 36, 37, 38, 39, 40, 41, 42, 51, 52, 53] (by decide +kernel) (by decide +kernel)
set_option maxRecDepth 20000 in
theorem gX3_back_X0_landCells : GoodIn wsX3_back (wsV RX3 189 RX0 yX0_landCells wsX0_landCells) := goodIn_app (goodIn_of _ (by decide +kernel)) ggX3_back_X0_landCells
theorem dX3_back_0 : decode cX3_back 0 = .ok (.iload_n 1, 1) := by decide +kernel
theorem dX3_back_1 : decode cX3_back 1 = .ok (.invokestatic 183, 3) := by decide +kernel
theorem dX3_back_4 : decode cX3_back 4 = .ok (.ifCond .ne 5, 3) := by decide +kernel
theorem dX3_back_7 : decode cX3_back 7 = .ok (.iconst (-1), 1) := by decide +kernel
theorem dX3_back_8 : decode cX3_back 8 = .ok (.ireturn, 1) := by decide +kernel
theorem dX3_back_9 : decode cX3_back 9 = .ok (.aload_n 0, 1) := by decide +kernel
theorem dX3_back_10 : decode cX3_back 10 = .ok (.getfield 30, 3) := by decide +kernel
theorem dX3_back_13 : decode cX3_back 13 = .ok (.iload_n 1, 1) := by decide +kernel
theorem dX3_back_14 : decode cX3_back 14 = .ok (.aaload, 1) := by decide +kernel
theorem dX3_back_15 : decode cX3_back 15 = .ok (.astore_n 2, 1) := by decide +kernel
theorem dX3_back_16 : decode cX3_back 16 = .ok (.aload_n 2, 1) := by decide +kernel
theorem dX3_back_17 : decode cX3_back 17 = .ok (.ifnonnull 6, 3) := by decide +kernel
theorem dX3_back_20 : decode cX3_back 20 = .ok (.bipush (-2), 2) := by decide +kernel
theorem dX3_back_22 : decode cX3_back 22 = .ok (.ireturn, 1) := by decide +kernel
theorem dX3_back_23 : decode cX3_back 23 = .ok (.aload_n 0, 1) := by decide +kernel
theorem dX3_back_24 : decode cX3_back 24 = .ok (.getfield 12, 3) := by decide +kernel
theorem dX3_back_27 : decode cX3_back 27 = .ok (.aload_n 2, 1) := by decide +kernel
theorem dX3_back_28 : decode cX3_back 28 = .ok (.invokevirtual 186, 3) := by decide +kernel
theorem dX3_back_31 : decode cX3_back 31 = .ok (.aload_n 0, 1) := by decide +kernel
theorem dX3_back_32 : decode cX3_back 32 = .ok (.invokevirtual 48, 3) := by decide +kernel
theorem dX3_back_35 : decode cX3_back 35 = .ok (.aload_n 0, 1) := by decide +kernel
theorem dX3_back_36 : decode cX3_back 36 = .ok (.getfield 19, 3) := by decide +kernel
theorem dX3_back_39 : decode cX3_back 39 = .ok (.invokevirtual 51, 3) := by decide +kernel
theorem dX3_back_42 : decode cX3_back 42 = .ok (.aload_n 0, 1) := by decide +kernel
theorem dX3_back_43 : decode cX3_back 43 = .ok (.getfield 12, 3) := by decide +kernel
theorem dX3_back_46 : decode cX3_back 46 = .ok (.invokevirtual 189, 3) := by decide +kernel
theorem dX3_back_49 : decode cX3_back 49 = .ok (.ireturn, 1) := by decide +kernel
set_option maxRecDepth 20000 in
theorem ggX3_moved_X3_isYear : GoodIn wsX3_moved wsX3_isYear := goodIn_r _ [5] (by decide +kernel) (by decide +kernel)
set_option maxRecDepth 20000 in
theorem gX3_moved_X3_isYear : GoodIn wsX3_moved (va_wsS RX3 183 yX3_isYear wsX3_isYear) := goodIn_app (goodIn_of _ (by decide +kernel)) ggX3_moved_X3_isYear
set_option maxRecDepth 20000 in
theorem ggX3_moved_X0_isAsLargeAs : GoodIn wsX3_moved wsX0_isAsLargeAs := goodIn_r _ [10, 11, 12, 33, 34, 35] (by decide +kernel) (by decide +kernel)
set_option maxRecDepth 20000 in
theorem gX3_moved_X0_isAsLargeAs : GoodIn wsX3_moved (wsV RX3 192 RX0 yX0_isAsLargeAs wsX0_isAsLargeAs) := goodIn_app (goodIn_of _ (by decide +kernel)) ggX3_moved_X0_isAsLargeAs
set_option maxRecDepth 20000 in
theorem ggX3_moved_X0_unlike : GoodIn wsX3_moved wsX0_unlike := goodIn_r _ [16, 17, 18, 19, 20, 21, 22, 23, 24, 33, 34, 35] (by decide +kernel) (by decide +kernel)
set_option maxRecDepth 20000 in
theorem gX3_moved_X0_unlike : GoodIn wsX3_moved (wsV RX3 196 RX0 yX0_unlike wsX0_unlike) := goodIn_app (goodIn_of _ (by decide +kernel)) ggX3_moved_X0_unlike
theorem dX3_moved_0 : decode cX3_moved 0 = .ok (.iload_n 1, 1) := by decide +kernel
theorem dX3_moved_1 : decode cX3_moved 1 = .ok (.invokestatic 183, 3) := by decide +kernel
theorem dX3_moved_4 : decode cX3_moved 4 = .ok (.ifCond .eq 10, 3) := by decide +kernel
theorem dX3_moved_7 : decode cX3_moved 7 = .ok (.iload_n 2, 1) := by decide +kernel
theorem dX3_moved_8 : decode cX3_moved 8 = .ok (.invokestatic 183, 3) := by decide +kernel
theorem dX3_moved_11 : decode cX3_moved 11 = .ok (.ifCond .ne 5, 3) := by decide +kernel
theorem dX3_moved_14 : decode cX3_moved 14 = .ok (.iconst (-1), 1) := by decide +kernel
theorem dX3_moved_15 : decode cX3_moved 15 = .ok (.ireturn, 1) := by decide +kernel
theorem dX3_moved_16 : decode cX3_moved 16 = .ok (.aload_n 0, 1) := by decide +kernel
theorem dX3_moved_17 : decode cX3_moved 17 = .ok (.getfield 30, 3) := by decide +kernel
theorem dX3_moved_20 : decode cX3_moved 20 = .ok (.iload_n 1, 1) := by decide +kernel
theorem dX3_moved_21 : decode cX3_moved 21 = .ok (.aaload, 1) := by decide +kernel
theorem dX3_moved_22 : decode cX3_moved 22 = .ok (.astore_n 3, 1) := by decide +kernel
theorem dX3_moved_23 : decode cX3_moved 23 = .ok (.aload_n 0, 1) := by decide +kernel
theorem dX3_moved_24 : decode cX3_moved 24 = .ok (.getfield 30, 3) := by decide +kernel
theorem dX3_moved_27 : decode cX3_moved 27 = .ok (.iload_n 2, 1) := by decide +kernel
theorem dX3_moved_28 : decode cX3_moved 28 = .ok (.aaload, 1) := by decide +kernel
theorem dX3_moved_29 : decode cX3_moved 29 = .ok (.astore 4, 2) := by decide +kernel
theorem dX3_moved_31 : decode cX3_moved 31 = .ok (.aload_n 3, 1) := by decide +kernel
theorem dX3_moved_32 : decode cX3_moved 32 = .ok (.ifnull 17, 3) := by decide +kernel
theorem dX3_moved_35 : decode cX3_moved 35 = .ok (.aload 4, 2) := by decide +kernel
theorem dX3_moved_37 : decode cX3_moved 37 = .ok (.ifnull 12, 3) := by decide +kernel
theorem dX3_moved_40 : decode cX3_moved 40 = .ok (.aload_n 3, 1) := by decide +kernel
theorem dX3_moved_41 : decode cX3_moved 41 = .ok (.aload 4, 2) := by decide +kernel
theorem dX3_moved_43 : decode cX3_moved 43 = .ok (.invokevirtual 192, 3) := by decide +kernel
theorem dX3_moved_46 : decode cX3_moved 46 = .ok (.ifCond .ne 6, 3) := by decide +kernel
theorem dX3_moved_49 : decode cX3_moved 49 = .ok (.bipush (-9), 2) := by decide +kernel
theorem dX3_moved_51 : decode cX3_moved 51 = .ok (.ireturn, 1) := by decide +kernel
theorem dX3_moved_52 : decode cX3_moved 52 = .ok (.aload_n 3, 1) := by decide +kernel
theorem dX3_moved_53 : decode cX3_moved 53 = .ok (.aload 4, 2) := by decide +kernel
theorem dX3_moved_55 : decode cX3_moved 55 = .ok (.invokevirtual 196, 3) := by decide +kernel
theorem dX3_moved_58 : decode cX3_moved 58 = .ok (.ireturn, 1) := by decide +kernel
set_option maxRecDepth 20000 in
theorem ggX3_count_X0_peopled : GoodIn wsX3_count wsX0_peopled := goodIn_r _ [11, 12, 21, 22, 23] (by decide +kernel) (by decide +kernel)
set_option maxRecDepth 20000 in
theorem gX3_count_X0_peopled : GoodIn wsX3_count (wsV RX3 206 RX0 yX0_peopled wsX0_peopled) := goodIn_app (goodIn_of _ (by decide +kernel)) ggX3_count_X0_peopled
theorem dX3_count_0 : decode cX3_count 0 = .ok (.iload_n 1, 1) := by decide +kernel
theorem dX3_count_1 : decode cX3_count 1 = .ok (.tableswitch 75 0 4 #[35, 43, 51, 59, 67], 35) := by decide +kernel
theorem dX3_count_36 : decode cX3_count 36 = .ok (.aload_n 0, 1) := by decide +kernel
theorem dX3_count_37 : decode cX3_count 37 = .ok (.getfield 12, 3) := by decide +kernel
theorem dX3_count_40 : decode cX3_count 40 = .ok (.getfield 200, 3) := by decide +kernel
theorem dX3_count_43 : decode cX3_count 43 = .ok (.ireturn, 1) := by decide +kernel
theorem dX3_count_44 : decode cX3_count 44 = .ok (.aload_n 0, 1) := by decide +kernel
theorem dX3_count_45 : decode cX3_count 45 = .ok (.getfield 12, 3) := by decide +kernel
theorem dX3_count_48 : decode cX3_count 48 = .ok (.getfield 203, 3) := by decide +kernel
theorem dX3_count_51 : decode cX3_count 51 = .ok (.ireturn, 1) := by decide +kernel
theorem dX3_count_52 : decode cX3_count 52 = .ok (.aload_n 0, 1) := by decide +kernel
theorem dX3_count_53 : decode cX3_count 53 = .ok (.getfield 12, 3) := by decide +kernel
theorem dX3_count_56 : decode cX3_count 56 = .ok (.invokevirtual 206, 3) := by decide +kernel
theorem dX3_count_59 : decode cX3_count 59 = .ok (.ireturn, 1) := by decide +kernel
theorem dX3_count_60 : decode cX3_count 60 = .ok (.aload_n 0, 1) := by decide +kernel
theorem dX3_count_61 : decode cX3_count 61 = .ok (.getfield 19, 3) := by decide +kernel
theorem dX3_count_64 : decode cX3_count 64 = .ok (.getfield 130, 3) := by decide +kernel
theorem dX3_count_67 : decode cX3_count 67 = .ok (.ireturn, 1) := by decide +kernel
theorem dX3_count_68 : decode cX3_count 68 = .ok (.aload_n 0, 1) := by decide +kernel
theorem dX3_count_69 : decode cX3_count 69 = .ok (.getfield 19, 3) := by decide +kernel
theorem dX3_count_72 : decode cX3_count 72 = .ok (.getfield 209, 3) := by decide +kernel
theorem dX3_count_75 : decode cX3_count 75 = .ok (.ireturn, 1) := by decide +kernel
theorem dX3_count_76 : decode cX3_count 76 = .ok (.iconst (-1), 1) := by decide +kernel
theorem dX3_count_77 : decode cX3_count 77 = .ok (.ireturn, 1) := by decide +kernel
theorem dX3_trace_0 : decode cX3_trace 0 = .ok (.aload_n 0, 1) := by decide +kernel
theorem dX3_trace_1 : decode cX3_trace 1 = .ok (.getfield 107, 3) := by decide +kernel
theorem dX3_trace_4 : decode cX3_trace 4 = .ok (.lreturn, 1) := by decide +kernel
theorem dX3_forgetKinds_0 : decode cX3_forgetKinds 0 = .ok (.iconst 0, 1) := by decide +kernel
theorem dX3_forgetKinds_1 : decode cX3_forgetKinds 1 = .ok (.istore_n 1, 1) := by decide +kernel
theorem dX3_forgetKinds_2 : decode cX3_forgetKinds 2 = .ok (.iload_n 1, 1) := by decide +kernel
theorem dX3_forgetKinds_3 : decode cX3_forgetKinds 3 = .ok (.bipush 6, 2) := by decide +kernel
theorem dX3_forgetKinds_5 : decode cX3_forgetKinds 5 = .ok (.if_icmp .ge 24, 3) := by decide +kernel
theorem dX3_forgetKinds_8 : decode cX3_forgetKinds 8 = .ok (.aload_n 0, 1) := by decide +kernel
theorem dX3_forgetKinds_9 : decode cX3_forgetKinds 9 = .ok (.getfield 34, 3) := by decide +kernel
theorem dX3_forgetKinds_12 : decode cX3_forgetKinds 12 = .ok (.iload_n 1, 1) := by decide +kernel
theorem dX3_forgetKinds_13 : decode cX3_forgetKinds 13 = .ok (.iconst 0, 1) := by decide +kernel
theorem dX3_forgetKinds_14 : decode cX3_forgetKinds 14 = .ok (.iastore, 1) := by decide +kernel
theorem dX3_forgetKinds_15 : decode cX3_forgetKinds 15 = .ok (.aload_n 0, 1) := by decide +kernel
theorem dX3_forgetKinds_16 : decode cX3_forgetKinds 16 = .ok (.getfield 38, 3) := by decide +kernel
theorem dX3_forgetKinds_19 : decode cX3_forgetKinds 19 = .ok (.iload_n 1, 1) := by decide +kernel
theorem dX3_forgetKinds_20 : decode cX3_forgetKinds 20 = .ok (.bipush (-9), 2) := by decide +kernel
theorem dX3_forgetKinds_22 : decode cX3_forgetKinds 22 = .ok (.iastore, 1) := by decide +kernel
theorem dX3_forgetKinds_23 : decode cX3_forgetKinds 23 = .ok (.iinc 1 1, 3) := by decide +kernel
theorem dX3_forgetKinds_26 : decode cX3_forgetKinds 26 = .ok (.goto (-24), 3) := by decide +kernel
theorem dX3_forgetKinds_29 : decode cX3_forgetKinds 29 = .ok (.return_, 1) := by decide +kernel
theorem dX3_bodiesAsked_0 : decode cX3_bodiesAsked 0 = .ok (.iload_n 0, 1) := by decide +kernel
theorem dX3_bodiesAsked_1 : decode cX3_bodiesAsked 1 = .ok (.iconst 2, 1) := by decide +kernel
theorem dX3_bodiesAsked_2 : decode cX3_bodiesAsked 2 = .ok (.if_icmp .ne 8, 3) := by decide +kernel
theorem dX3_bodiesAsked_5 : decode cX3_bodiesAsked 5 = .ok (.bipush 111, 2) := by decide +kernel
theorem dX3_bodiesAsked_7 : decode cX3_bodiesAsked 7 = .ok (.goto 14, 3) := by decide +kernel
theorem dX3_bodiesAsked_10 : decode cX3_bodiesAsked 10 = .ok (.iload_n 0, 1) := by decide +kernel
theorem dX3_bodiesAsked_11 : decode cX3_bodiesAsked 11 = .ok (.iconst 1, 1) := by decide +kernel
theorem dX3_bodiesAsked_12 : decode cX3_bodiesAsked 12 = .ok (.if_icmp .ne 8, 3) := by decide +kernel
theorem dX3_bodiesAsked_15 : decode cX3_bodiesAsked 15 = .ok (.bipush 11, 2) := by decide +kernel
theorem dX3_bodiesAsked_17 : decode cX3_bodiesAsked 17 = .ok (.goto 4, 3) := by decide +kernel
theorem dX3_bodiesAsked_20 : decode cX3_bodiesAsked 20 = .ok (.iconst 1, 1) := by decide +kernel
theorem dX3_bodiesAsked_21 : decode cX3_bodiesAsked 21 = .ok (.ireturn, 1) := by decide +kernel
set_option maxRecDepth 20000 in
theorem ggX3_letsGo_X3_isLand : GoodIn wsX3_letsGo wsX3_isLand := goodIn_r _ [8] (by decide +kernel) (by decide +kernel)
set_option maxRecDepth 20000 in
theorem gX3_letsGo_X3_isLand : GoodIn wsX3_letsGo (va_wsS RX3 73 yX3_isLand wsX3_isLand) := goodIn_app (goodIn_of _ (by decide +kernel)) ggX3_letsGo_X3_isLand
set_option maxRecDepth 20000 in
theorem ggX3_letsGo_X0_cellsOf : GoodIn wsX3_letsGo wsX0_cellsOf := goodIn_r _ [13, 14, 6, 7, 8, 50, 51, 52] (by decide +kernel) (by decide +kernel)
set_option maxRecDepth 20000 in
theorem gX3_letsGo_X0_cellsOf : GoodIn wsX3_letsGo (wsV RX3 79 RX0 yX0_cellsOf wsX0_cellsOf) := goodIn_app (goodIn_of _ (by decide +kernel)) ggX3_letsGo_X0_cellsOf
set_option maxRecDepth 20000 in
theorem ggX3_letsGo_X3_bit : GoodIn wsX3_letsGo wsX3_bit := goodIn_r _ [17] (by decide +kernel) (by decide +kernel)
set_option maxRecDepth 20000 in
theorem gX3_letsGo_X3_bit : GoodIn wsX3_letsGo (va_wsS RX3 212 yX3_bit wsX3_bit) := goodIn_app (goodIn_of _ (by decide +kernel)) ggX3_letsGo_X3_bit
set_option maxRecDepth 20000 in
theorem ggX3_letsGo_X3_isWhole : GoodIn wsX3_letsGo wsX3_isWhole := goodIn_r _ [20, 21, 22, 7, 23, 24, 25, 26, 27, 28, 29, 30, 31] (by decide +kernel) (by decide +kernel)
set_option maxRecDepth 20000 in
theorem gX3_letsGo_X3_isWhole : GoodIn wsX3_letsGo (va_wsS RX3 83 yX3_isWhole wsX3_isWhole) := goodIn_app (goodIn_of _ (by decide +kernel)) ggX3_letsGo_X3_isWhole
set_option maxRecDepth 20000 in
theorem ggX3_letsGo_X0_isAtSea : GoodIn wsX3_letsGo wsX0_isAtSea := goodIn_r _ [35, 36, 37, 22, 7, 23, 24, 25, 26, 27, 28, 29, 30, 31, 38, 39, 40, 12, 41, 14, 50, 51, 52] (by decide +kernel) (by decide +kernel)
set_option maxRecDepth 20000 in
theorem gX3_letsGo_X0_isAtSea : GoodIn wsX3_letsGo (wsV RX3 91 RX0 yX0_isAtSea wsX0_isAtSea) := goodIn_app (goodIn_of _ (by decide +kernel)) ggX3_letsGo_X0_isAtSea
theorem dX3_letsGo_0 : decode cX3_letsGo 0 = .ok (.iload_n 1, 1) := by decide +kernel
theorem dX3_letsGo_1 : decode cX3_letsGo 1 = .ok (.invokestatic 73, 3) := by decide +kernel
theorem dX3_letsGo_4 : decode cX3_letsGo 4 = .ok (.ifCond .ne 5, 3) := by decide +kernel
theorem dX3_letsGo_7 : decode cX3_letsGo 7 = .ok (.iconst 0, 1) := by decide +kernel
theorem dX3_letsGo_8 : decode cX3_letsGo 8 = .ok (.ireturn, 1) := by decide +kernel
theorem dX3_letsGo_9 : decode cX3_letsGo 9 = .ok (.aload_n 0, 1) := by decide +kernel
theorem dX3_letsGo_10 : decode cX3_letsGo 10 = .ok (.getfield 12, 3) := by decide +kernel
theorem dX3_letsGo_13 : decode cX3_letsGo 13 = .ok (.iload_n 1, 1) := by decide +kernel
theorem dX3_letsGo_14 : decode cX3_letsGo 14 = .ok (.invokevirtual 79, 3) := by decide +kernel
theorem dX3_letsGo_17 : decode cX3_letsGo 17 = .ok (.iload_n 2, 1) := by decide +kernel
theorem dX3_letsGo_18 : decode cX3_letsGo 18 = .ok (.invokestatic 212, 3) := by decide +kernel
theorem dX3_letsGo_21 : decode cX3_letsGo 21 = .ok (.ldc2_w 215, 3) := by decide +kernel
theorem dX3_letsGo_24 : decode cX3_letsGo 24 = .ok (.lxor, 1) := by decide +kernel
theorem dX3_letsGo_25 : decode cX3_letsGo 25 = .ok (.land, 1) := by decide +kernel
theorem dX3_letsGo_26 : decode cX3_letsGo 26 = .ok (.lstore_n 3, 1) := by decide +kernel
theorem dX3_letsGo_27 : decode cX3_letsGo 27 = .ok (.lload_n 3, 1) := by decide +kernel
theorem dX3_letsGo_28 : decode cX3_letsGo 28 = .ok (.invokestatic 83, 3) := by decide +kernel
theorem dX3_letsGo_31 : decode cX3_letsGo 31 = .ok (.istore 5, 2) := by decide +kernel
theorem dX3_letsGo_33 : decode cX3_letsGo 33 = .ok (.iload 5, 2) := by decide +kernel
theorem dX3_letsGo_35 : decode cX3_letsGo 35 = .ok (.ifCond .eq 17, 3) := by decide +kernel
theorem dX3_letsGo_38 : decode cX3_letsGo 38 = .ok (.iload_n 2, 1) := by decide +kernel
theorem dX3_letsGo_39 : decode cX3_letsGo 39 = .ok (.aload_n 0, 1) := by decide +kernel
theorem dX3_letsGo_40 : decode cX3_letsGo 40 = .ok (.getfield 38, 3) := by decide +kernel
theorem dX3_letsGo_43 : decode cX3_letsGo 43 = .ok (.iload_n 1, 1) := by decide +kernel
theorem dX3_letsGo_44 : decode cX3_letsGo 44 = .ok (.iaload, 1) := by decide +kernel
theorem dX3_letsGo_45 : decode cX3_letsGo 45 = .ok (.if_icmp .eq 7, 3) := by decide +kernel
theorem dX3_letsGo_48 : decode cX3_letsGo 48 = .ok (.iconst 1, 1) := by decide +kernel
theorem dX3_letsGo_49 : decode cX3_letsGo 49 = .ok (.goto 4, 3) := by decide +kernel
theorem dX3_letsGo_52 : decode cX3_letsGo 52 = .ok (.iconst 0, 1) := by decide +kernel
theorem dX3_letsGo_53 : decode cX3_letsGo 53 = .ok (.istore 6, 2) := by decide +kernel
theorem dX3_letsGo_55 : decode cX3_letsGo 55 = .ok (.iload 6, 2) := by decide +kernel
theorem dX3_letsGo_57 : decode cX3_letsGo 57 = .ok (.ifCond .eq 18, 3) := by decide +kernel
theorem dX3_letsGo_60 : decode cX3_letsGo 60 = .ok (.aload_n 0, 1) := by decide +kernel
theorem dX3_letsGo_61 : decode cX3_letsGo 61 = .ok (.getfield 12, 3) := by decide +kernel
theorem dX3_letsGo_64 : decode cX3_letsGo 64 = .ok (.lload_n 3, 1) := by decide +kernel
theorem dX3_letsGo_65 : decode cX3_letsGo 65 = .ok (.invokevirtual 91, 3) := by decide +kernel
theorem dX3_letsGo_68 : decode cX3_letsGo 68 = .ok (.ifCond .eq 7, 3) := by decide +kernel
theorem dX3_letsGo_71 : decode cX3_letsGo 71 = .ok (.iconst 1, 1) := by decide +kernel
theorem dX3_letsGo_72 : decode cX3_letsGo 72 = .ok (.goto 4, 3) := by decide +kernel
theorem dX3_letsGo_75 : decode cX3_letsGo 75 = .ok (.iconst 0, 1) := by decide +kernel
theorem dX3_letsGo_76 : decode cX3_letsGo 76 = .ok (.istore 7, 2) := by decide +kernel
theorem dX3_letsGo_78 : decode cX3_letsGo 78 = .ok (.aload_n 0, 1) := by decide +kernel
theorem dX3_letsGo_79 : decode cX3_letsGo 79 = .ok (.getfield 34, 3) := by decide +kernel
theorem dX3_letsGo_82 : decode cX3_letsGo 82 = .ok (.iload_n 1, 1) := by decide +kernel
theorem dX3_letsGo_83 : decode cX3_letsGo 83 = .ok (.iaload, 1) := by decide +kernel
theorem dX3_letsGo_84 : decode cX3_letsGo 84 = .ok (.iconst 2, 1) := by decide +kernel
theorem dX3_letsGo_85 : decode cX3_letsGo 85 = .ok (.if_icmp .ne 8, 3) := by decide +kernel
theorem dX3_letsGo_88 : decode cX3_letsGo 88 = .ok (.iload 7, 2) := by decide +kernel
theorem dX3_letsGo_90 : decode cX3_letsGo 90 = .ok (.goto 20, 3) := by decide +kernel
theorem dX3_letsGo_93 : decode cX3_letsGo 93 = .ok (.aload_n 0, 1) := by decide +kernel
theorem dX3_letsGo_94 : decode cX3_letsGo 94 = .ok (.getfield 34, 3) := by decide +kernel
theorem dX3_letsGo_97 : decode cX3_letsGo 97 = .ok (.iload_n 1, 1) := by decide +kernel
theorem dX3_letsGo_98 : decode cX3_letsGo 98 = .ok (.iaload, 1) := by decide +kernel
theorem dX3_letsGo_99 : decode cX3_letsGo 99 = .ok (.iconst 1, 1) := by decide +kernel
theorem dX3_letsGo_100 : decode cX3_letsGo 100 = .ok (.if_icmp .ne 8, 3) := by decide +kernel
theorem dX3_letsGo_103 : decode cX3_letsGo 103 = .ok (.iload 6, 2) := by decide +kernel
theorem dX3_letsGo_105 : decode cX3_letsGo 105 = .ok (.goto 5, 3) := by decide +kernel
theorem dX3_letsGo_108 : decode cX3_letsGo 108 = .ok (.iload 5, 2) := by decide +kernel
theorem dX3_letsGo_110 : decode cX3_letsGo 110 = .ok (.ireturn, 1) := by decide +kernel
set_option maxRecDepth 20000 in
theorem ggX3_canGo_X0_landOf : GoodIn wsX3_canGo wsX0_landOf := goodIn_r _ [6, 7, 8, 9, 10, 67, 68, 69] (by decide +kernel) (by decide +kernel)
set_option maxRecDepth 20000 in
theorem gX3_canGo_X0_landOf : GoodIn wsX3_canGo (wsV RX3 66 RX0 yX0_landOf wsX0_landOf) := goodIn_app (goodIn_of _ (by decide +kernel)) ggX3_canGo_X0_landOf
set_option maxRecDepth 20000 in
theorem ggX3_canGo_X3_bit : GoodIn wsX3_canGo wsX3_bit := goodIn_r _ [10] (by decide +kernel) (by decide +kernel)
set_option maxRecDepth 20000 in
theorem gX3_canGo_X3_bit : GoodIn wsX3_canGo (va_wsS RX3 212 yX3_bit wsX3_bit) := goodIn_app (goodIn_of _ (by decide +kernel)) ggX3_canGo_X3_bit
set_option maxRecDepth 20000 in
theorem ggX3_canGo_X3_around : GoodIn wsX3_canGo wsX3_around := goodIn_r _ [14, 15, 16, 9, 17, 18, 19, 20, 21, 22] (by decide +kernel) (by decide +kernel)
set_option maxRecDepth 20000 in
theorem gX3_canGo_X3_around : GoodIn wsX3_canGo (va_wsS RX3 94 yX3_around wsX3_around) := goodIn_app (goodIn_of _ (by decide +kernel)) ggX3_canGo_X3_around
set_option maxRecDepth 20000 in
theorem ggX3_canGo_X0_cellsOf : GoodIn wsX3_canGo wsX0_cellsOf := goodIn_r _ [26, 7, 27, 9, 28, 67, 68, 69] (by decide +kernel) (by decide +kernel)
set_option maxRecDepth 20000 in
theorem gX3_canGo_X0_cellsOf : GoodIn wsX3_canGo (wsV RX3 79 RX0 yX0_cellsOf wsX0_cellsOf) := goodIn_app (goodIn_of _ (by decide +kernel)) ggX3_canGo_X0_cellsOf
set_option maxRecDepth 20000 in
theorem ggX3_canGo_X3_letsGo : GoodIn wsX3_canGo wsX3_letsGo := goodIn_r _ [32, 1, 33, 34, 35, 36, 27, 9, 28, 23, 24, 25, 5, 26, 7, 11, 8, 10, 37, 38, 39, 12, 13, 14, 15, 16, 17, 18, 19, 20, 21, 22, 40, 41, 42, 43, 44, 45, 46, 47, 48, 49, 59, 60, 61, 62, 63, 64, 65, 66, 67, 68, 69] (by decide +kernel) (by decide +kernel)
set_option maxRecDepth 20000 in
theorem gX3_canGo_X3_letsGo : GoodIn wsX3_canGo (wsV RX3 114 RX3 yX3_letsGo wsX3_letsGo) := goodIn_app (goodIn_of _ (by decide +kernel)) ggX3_canGo_X3_letsGo
set_option maxRecDepth 20000 in
theorem ggX3_canGo_X0_touching : GoodIn wsX3_canGo wsX0_touching := goodIn_r _ [53, 7, 13, 9, 14, 15, 16, 17, 18, 19, 20, 21, 22, 8, 10, 54, 41, 42, 5, 43, 44, 45, 46, 47, 48, 49, 67, 68, 69] (by decide +kernel) (by decide +kernel)
set_option maxRecDepth 20000 in
theorem gX3_canGo_X0_touching : GoodIn wsX3_canGo (wsV RX3 217 RX0 yX0_touching wsX0_touching) := goodIn_app (goodIn_of _ (by decide +kernel)) ggX3_canGo_X0_touching
set_option maxRecDepth 20000 in
theorem ggX3_canGo_X0_put : GoodIn wsX3_canGo wsX0_put := goodIn_r _ [58, 7, 45, 8, 9, 10, 67, 68, 69] (by decide +kernel) (by decide +kernel)
set_option maxRecDepth 20000 in
theorem gX3_canGo_X0_put : GoodIn wsX3_canGo (wsV RX3 70 RX0 yX0_put wsX0_put) := goodIn_app (goodIn_of _ (by decide +kernel)) ggX3_canGo_X0_put
theorem dX3_canGo_0 : decode cX3_canGo 0 = .ok (.aload_n 0, 1) := by decide +kernel
theorem dX3_canGo_1 : decode cX3_canGo 1 = .ok (.getfield 12, 3) := by decide +kernel
theorem dX3_canGo_4 : decode cX3_canGo 4 = .ok (.iload_n 1, 1) := by decide +kernel
theorem dX3_canGo_5 : decode cX3_canGo 5 = .ok (.invokevirtual 66, 3) := by decide +kernel
theorem dX3_canGo_8 : decode cX3_canGo 8 = .ok (.istore_n 3, 1) := by decide +kernel
theorem dX3_canGo_9 : decode cX3_canGo 9 = .ok (.iload_n 3, 1) := by decide +kernel
theorem dX3_canGo_10 : decode cX3_canGo 10 = .ok (.bipush (-4), 2) := by decide +kernel
theorem dX3_canGo_12 : decode cX3_canGo 12 = .ok (.if_icmp .eq 38, 3) := by decide +kernel
theorem dX3_canGo_15 : decode cX3_canGo 15 = .ok (.iload_n 3, 1) := by decide +kernel
theorem dX3_canGo_16 : decode cX3_canGo 16 = .ok (.iload_n 2, 1) := by decide +kernel
theorem dX3_canGo_17 : decode cX3_canGo 17 = .ok (.if_icmp .eq 33, 3) := by decide +kernel
theorem dX3_canGo_20 : decode cX3_canGo 20 = .ok (.iload_n 1, 1) := by decide +kernel
theorem dX3_canGo_21 : decode cX3_canGo 21 = .ok (.invokestatic 212, 3) := by decide +kernel
theorem dX3_canGo_24 : decode cX3_canGo 24 = .ok (.invokestatic 94, 3) := by decide +kernel
theorem dX3_canGo_27 : decode cX3_canGo 27 = .ok (.aload_n 0, 1) := by decide +kernel
theorem dX3_canGo_28 : decode cX3_canGo 28 = .ok (.getfield 12, 3) := by decide +kernel
theorem dX3_canGo_31 : decode cX3_canGo 31 = .ok (.iload_n 2, 1) := by decide +kernel
theorem dX3_canGo_32 : decode cX3_canGo 32 = .ok (.invokevirtual 79, 3) := by decide +kernel
theorem dX3_canGo_35 : decode cX3_canGo 35 = .ok (.land, 1) := by decide +kernel
theorem dX3_canGo_36 : decode cX3_canGo 36 = .ok (.lconst 0, 1) := by decide +kernel
theorem dX3_canGo_37 : decode cX3_canGo 37 = .ok (.lcmp, 1) := by decide +kernel
theorem dX3_canGo_38 : decode cX3_canGo 38 = .ok (.ifCond .eq 12, 3) := by decide +kernel
theorem dX3_canGo_41 : decode cX3_canGo 41 = .ok (.aload_n 0, 1) := by decide +kernel
theorem dX3_canGo_42 : decode cX3_canGo 42 = .ok (.iload_n 3, 1) := by decide +kernel
theorem dX3_canGo_43 : decode cX3_canGo 43 = .ok (.iload_n 1, 1) := by decide +kernel
theorem dX3_canGo_44 : decode cX3_canGo 44 = .ok (.invokevirtual 114, 3) := by decide +kernel
theorem dX3_canGo_47 : decode cX3_canGo 47 = .ok (.ifCond .ne 5, 3) := by decide +kernel
theorem dX3_canGo_50 : decode cX3_canGo 50 = .ok (.iconst 0, 1) := by decide +kernel
theorem dX3_canGo_51 : decode cX3_canGo 51 = .ok (.ireturn, 1) := by decide +kernel
theorem dX3_canGo_52 : decode cX3_canGo 52 = .ok (.aload_n 0, 1) := by decide +kernel
theorem dX3_canGo_53 : decode cX3_canGo 53 = .ok (.getfield 12, 3) := by decide +kernel
theorem dX3_canGo_56 : decode cX3_canGo 56 = .ok (.invokevirtual 217, 3) := by decide +kernel
theorem dX3_canGo_59 : decode cX3_canGo 59 = .ok (.lstore 4, 2) := by decide +kernel
theorem dX3_canGo_61 : decode cX3_canGo 61 = .ok (.aload_n 0, 1) := by decide +kernel
theorem dX3_canGo_62 : decode cX3_canGo 62 = .ok (.getfield 12, 3) := by decide +kernel
theorem dX3_canGo_65 : decode cX3_canGo 65 = .ok (.iload_n 1, 1) := by decide +kernel
theorem dX3_canGo_66 : decode cX3_canGo 66 = .ok (.iload_n 2, 1) := by decide +kernel
theorem dX3_canGo_67 : decode cX3_canGo 67 = .ok (.invokevirtual 70, 3) := by decide +kernel
theorem dX3_canGo_70 : decode cX3_canGo 70 = .ok (.aload_n 0, 1) := by decide +kernel
theorem dX3_canGo_71 : decode cX3_canGo 71 = .ok (.getfield 12, 3) := by decide +kernel
theorem dX3_canGo_74 : decode cX3_canGo 74 = .ok (.invokevirtual 217, 3) := by decide +kernel
theorem dX3_canGo_77 : decode cX3_canGo 77 = .ok (.lstore 6, 2) := by decide +kernel
theorem dX3_canGo_79 : decode cX3_canGo 79 = .ok (.aload_n 0, 1) := by decide +kernel
theorem dX3_canGo_80 : decode cX3_canGo 80 = .ok (.getfield 12, 3) := by decide +kernel
theorem dX3_canGo_83 : decode cX3_canGo 83 = .ok (.iload_n 1, 1) := by decide +kernel
theorem dX3_canGo_84 : decode cX3_canGo 84 = .ok (.iload_n 3, 1) := by decide +kernel
theorem dX3_canGo_85 : decode cX3_canGo 85 = .ok (.invokevirtual 70, 3) := by decide +kernel
theorem dX3_canGo_88 : decode cX3_canGo 88 = .ok (.lload 4, 2) := by decide +kernel
theorem dX3_canGo_90 : decode cX3_canGo 90 = .ok (.lload 6, 2) := by decide +kernel
theorem dX3_canGo_92 : decode cX3_canGo 92 = .ok (.lcmp, 1) := by decide +kernel
theorem dX3_canGo_93 : decode cX3_canGo 93 = .ok (.ifCond .ne 7, 3) := by decide +kernel
theorem dX3_canGo_96 : decode cX3_canGo 96 = .ok (.iconst 1, 1) := by decide +kernel
theorem dX3_canGo_97 : decode cX3_canGo 97 = .ok (.goto 4, 3) := by decide +kernel
theorem dX3_canGo_100 : decode cX3_canGo 100 = .ok (.iconst 0, 1) := by decide +kernel
theorem dX3_canGo_101 : decode cX3_canGo 101 = .ok (.ireturn, 1) := by decide +kernel
set_option maxRecDepth 20000 in
theorem ggX3_go_X0_landOf : GoodIn wsX3_go wsX0_landOf := goodIn_r _ [7, 8, 9, 10, 11, 43, 44, 45] (by decide +kernel) (by decide +kernel)
set_option maxRecDepth 20000 in
theorem gX3_go_X0_landOf : GoodIn wsX3_go (wsV RX3 66 RX0 yX0_landOf wsX0_landOf) := goodIn_app (goodIn_of _ (by decide +kernel)) ggX3_go_X0_landOf
set_option maxRecDepth 20000 in
theorem ggX3_go_X1_add : GoodIn wsX3_go wsX1_add := goodIn_r _ [16, 17, 18, 19, 20, 21, 22, 23, 24, 25, 26, 27, 28, 29, 46, 47, 48, 49, 50] (by decide +kernel) (by decide +kernel)
set_option maxRecDepth 20000 in
theorem gX3_go_X1_add : GoodIn wsX3_go (wsV RX3 221 RX1 yX1_add wsX1_add) := goodIn_app (goodIn_of _ (by decide +kernel)) ggX3_go_X1_add
set_option maxRecDepth 20000 in
theorem ggX3_go_X0_put : GoodIn wsX3_go wsX0_put := goodIn_r _ [33, 8, 34, 9, 10, 11, 43, 44, 45] (by decide +kernel) (by decide +kernel)
set_option maxRecDepth 20000 in
theorem gX3_go_X0_put : GoodIn wsX3_go (wsV RX3 70 RX0 yX0_put wsX0_put) := goodIn_app (goodIn_of _ (by decide +kernel)) ggX3_go_X0_put
theorem dX3_go_0 : decode cX3_go 0 = .ok (.aload_n 0, 1) := by decide +kernel
theorem dX3_go_1 : decode cX3_go 1 = .ok (.getfield 19, 3) := by decide +kernel
theorem dX3_go_4 : decode cX3_go 4 = .ok (.iload_n 1, 1) := by decide +kernel
theorem dX3_go_5 : decode cX3_go 5 = .ok (.aload_n 0, 1) := by decide +kernel
theorem dX3_go_6 : decode cX3_go 6 = .ok (.getfield 12, 3) := by decide +kernel
theorem dX3_go_9 : decode cX3_go 9 = .ok (.iload_n 1, 1) := by decide +kernel
theorem dX3_go_10 : decode cX3_go 10 = .ok (.invokevirtual 66, 3) := by decide +kernel
theorem dX3_go_13 : decode cX3_go 13 = .ok (.invokevirtual 221, 3) := by decide +kernel
theorem dX3_go_16 : decode cX3_go 16 = .ok (.aload_n 0, 1) := by decide +kernel
theorem dX3_go_17 : decode cX3_go 17 = .ok (.getfield 12, 3) := by decide +kernel
theorem dX3_go_20 : decode cX3_go 20 = .ok (.iload_n 1, 1) := by decide +kernel
theorem dX3_go_21 : decode cX3_go 21 = .ok (.iload_n 2, 1) := by decide +kernel
theorem dX3_go_22 : decode cX3_go 22 = .ok (.invokevirtual 70, 3) := by decide +kernel
theorem dX3_go_25 : decode cX3_go 25 = .ok (.return_, 1) := by decide +kernel
set_option maxRecDepth 20000 in
theorem ggX3_missWith_X3_isLand : GoodIn wsX3_missWith wsX3_isLand := goodIn_r _ [9] (by decide +kernel) (by decide +kernel)
set_option maxRecDepth 20000 in
theorem gX3_missWith_X3_isLand : GoodIn wsX3_missWith (va_wsS RX3 73 yX3_isLand wsX3_isLand) := goodIn_app (goodIn_of _ (by decide +kernel)) ggX3_missWith_X3_isLand
theorem dX3_missWith_0 : decode cX3_missWith 0 = .ok (.iload_n 1, 1) := by decide +kernel
theorem dX3_missWith_1 : decode cX3_missWith 1 = .ok (.invokestatic 73, 3) := by decide +kernel
theorem dX3_missWith_4 : decode cX3_missWith 4 = .ok (.ifCond .eq 17, 3) := by decide +kernel
theorem dX3_missWith_7 : decode cX3_missWith 7 = .ok (.iload_n 2, 1) := by decide +kernel
theorem dX3_missWith_8 : decode cX3_missWith 8 = .ok (.aload_n 0, 1) := by decide +kernel
theorem dX3_missWith_9 : decode cX3_missWith 9 = .ok (.getfield 41, 3) := by decide +kernel
theorem dX3_missWith_12 : decode cX3_missWith 12 = .ok (.iload_n 1, 1) := by decide +kernel
theorem dX3_missWith_13 : decode cX3_missWith 13 = .ok (.iaload, 1) := by decide +kernel
theorem dX3_missWith_14 : decode cX3_missWith 14 = .ok (.isub, 1) := by decide +kernel
theorem dX3_missWith_15 : decode cX3_missWith 15 = .ok (.invokestatic 224, 3) := by decide +kernel
theorem dX3_missWith_18 : decode cX3_missWith 18 = .ok (.goto 4, 3) := by decide +kernel
theorem dX3_missWith_21 : decode cX3_missWith 21 = .ok (.iconst 0, 1) := by decide +kernel
theorem dX3_missWith_22 : decode cX3_missWith 22 = .ok (.ireturn, 1) := by decide +kernel
set_option maxRecDepth 20000 in
theorem ggX3_missBehind_X0_sizeOf : GoodIn wsX3_missBehind wsX0_sizeOf := goodIn_r _ [6, 7, 8, 9, 5, 10, 11, 12, 13, 14, 15, 16, 17, 18, 19, 20, 21, 40, 41, 42] (by decide +kernel) (by decide +kernel)
set_option maxRecDepth 20000 in
theorem gX3_missBehind_X0_sizeOf : GoodIn wsX3_missBehind (wsV RX3 76 RX0 yX0_sizeOf wsX0_sizeOf) := goodIn_app (goodIn_of _ (by decide +kernel)) ggX3_missBehind_X0_sizeOf
set_option maxRecDepth 20000 in
theorem ggX3_missBehind_X3_missWith : GoodIn wsX3_missBehind wsX3_missWith := goodIn_r _ [25, 26, 27, 28, 29, 30, 31, 12, 13, 14, 32, 33, 34, 35, 36, 37, 38, 39] (by decide +kernel) (by decide +kernel)
set_option maxRecDepth 20000 in
theorem gX3_missBehind_X3_missWith : GoodIn wsX3_missBehind (wsV RX3 123 RX3 yX3_missWith wsX3_missWith) := goodIn_app (goodIn_of _ (by decide +kernel)) ggX3_missBehind_X3_missWith
theorem dX3_missBehind_0 : decode cX3_missBehind 0 = .ok (.aload_n 0, 1) := by decide +kernel
theorem dX3_missBehind_1 : decode cX3_missBehind 1 = .ok (.getfield 12, 3) := by decide +kernel
theorem dX3_missBehind_4 : decode cX3_missBehind 4 = .ok (.iload_n 2, 1) := by decide +kernel
theorem dX3_missBehind_5 : decode cX3_missBehind 5 = .ok (.invokevirtual 76, 3) := by decide +kernel
theorem dX3_missBehind_8 : decode cX3_missBehind 8 = .ok (.istore 4, 2) := by decide +kernel
theorem dX3_missBehind_10 : decode cX3_missBehind 10 = .ok (.aload_n 0, 1) := by decide +kernel
theorem dX3_missBehind_11 : decode cX3_missBehind 11 = .ok (.getfield 12, 3) := by decide +kernel
theorem dX3_missBehind_14 : decode cX3_missBehind 14 = .ok (.iload_n 3, 1) := by decide +kernel
theorem dX3_missBehind_15 : decode cX3_missBehind 15 = .ok (.invokevirtual 76, 3) := by decide +kernel
theorem dX3_missBehind_18 : decode cX3_missBehind 18 = .ok (.istore 5, 2) := by decide +kernel
theorem dX3_missBehind_20 : decode cX3_missBehind 20 = .ok (.iload_n 1, 1) := by decide +kernel
theorem dX3_missBehind_21 : decode cX3_missBehind 21 = .ok (.aload_n 0, 1) := by decide +kernel
theorem dX3_missBehind_22 : decode cX3_missBehind 22 = .ok (.iload_n 2, 1) := by decide +kernel
theorem dX3_missBehind_23 : decode cX3_missBehind 23 = .ok (.iload 4, 2) := by decide +kernel
theorem dX3_missBehind_25 : decode cX3_missBehind 25 = .ok (.invokevirtual 123, 3) := by decide +kernel
theorem dX3_missBehind_28 : decode cX3_missBehind 28 = .ok (.isub, 1) := by decide +kernel
theorem dX3_missBehind_29 : decode cX3_missBehind 29 = .ok (.aload_n 0, 1) := by decide +kernel
theorem dX3_missBehind_30 : decode cX3_missBehind 30 = .ok (.iload_n 2, 1) := by decide +kernel
theorem dX3_missBehind_31 : decode cX3_missBehind 31 = .ok (.iload 4, 2) := by decide +kernel
theorem dX3_missBehind_33 : decode cX3_missBehind 33 = .ok (.iconst 1, 1) := by decide +kernel
theorem dX3_missBehind_34 : decode cX3_missBehind 34 = .ok (.isub, 1) := by decide +kernel
theorem dX3_missBehind_35 : decode cX3_missBehind 35 = .ok (.invokevirtual 123, 3) := by decide +kernel
theorem dX3_missBehind_38 : decode cX3_missBehind 38 = .ok (.iadd, 1) := by decide +kernel
theorem dX3_missBehind_39 : decode cX3_missBehind 39 = .ok (.aload_n 0, 1) := by decide +kernel
theorem dX3_missBehind_40 : decode cX3_missBehind 40 = .ok (.iload_n 3, 1) := by decide +kernel
theorem dX3_missBehind_41 : decode cX3_missBehind 41 = .ok (.iload 5, 2) := by decide +kernel
theorem dX3_missBehind_43 : decode cX3_missBehind 43 = .ok (.invokevirtual 123, 3) := by decide +kernel
theorem dX3_missBehind_46 : decode cX3_missBehind 46 = .ok (.isub, 1) := by decide +kernel
theorem dX3_missBehind_47 : decode cX3_missBehind 47 = .ok (.aload_n 0, 1) := by decide +kernel
theorem dX3_missBehind_48 : decode cX3_missBehind 48 = .ok (.iload_n 3, 1) := by decide +kernel
theorem dX3_missBehind_49 : decode cX3_missBehind 49 = .ok (.iload 5, 2) := by decide +kernel
theorem dX3_missBehind_51 : decode cX3_missBehind 51 = .ok (.iconst 1, 1) := by decide +kernel
theorem dX3_missBehind_52 : decode cX3_missBehind 52 = .ok (.iadd, 1) := by decide +kernel
theorem dX3_missBehind_53 : decode cX3_missBehind 53 = .ok (.invokevirtual 123, 3) := by decide +kernel
theorem dX3_missBehind_56 : decode cX3_missBehind 56 = .ok (.iadd, 1) := by decide +kernel
theorem dX3_missBehind_57 : decode cX3_missBehind 57 = .ok (.ireturn, 1) := by decide +kernel
set_option maxRecDepth 20000 in
theorem ggX3_step_X3_miss : GoodIn wsX3_step wsX3_miss := goodIn_r _ [6, 1, 7, 8, 9, 10, 11, 12, 13, 14, 15, 16, 17, 5, 18, 19, 20, 21, 22, 23, 24, 25, 26, 27, 28, 29, 30, 31, 32, 33, 34, 35, 114, 115, 116, 117, 118, 119, 120, 121, 122, 123, 124] (by decide +kernel) (by decide +kernel)
set_option maxRecDepth 20000 in
theorem gX3_step_X3_miss : GoodIn wsX3_step (wsV RX3 229 RX3 yX3_miss wsX3_miss) := goodIn_app (goodIn_of _ (by decide +kernel)) ggX3_step_X3_miss
set_option maxRecDepth 20000 in
theorem ggX3_step_X0_landOf : GoodIn wsX3_step wsX0_landOf := goodIn_r _ [39, 16, 40, 5, 41, 122, 123, 124] (by decide +kernel) (by decide +kernel)
set_option maxRecDepth 20000 in
theorem gX3_step_X0_landOf : GoodIn wsX3_step (wsV RX3 66 RX0 yX0_landOf wsX0_landOf) := goodIn_app (goodIn_of _ (by decide +kernel)) ggX3_step_X0_landOf
set_option maxRecDepth 20000 in
theorem ggX3_step_X3_missBehind : GoodIn wsX3_step wsX3_missBehind := goodIn_r _ [45, 1, 7, 8, 9, 10, 11, 12, 13, 14, 15, 16, 17, 5, 18, 19, 20, 21, 22, 23, 24, 25, 26, 27, 28, 29, 30, 31, 32, 33, 34, 35, 114, 115, 116, 117, 118, 119, 120, 121, 122, 123, 124] (by decide +kernel) (by decide +kernel)
set_option maxRecDepth 20000 in
theorem gX3_step_X3_missBehind : GoodIn wsX3_step (wsV RX3 232 RX3 yX3_missBehind wsX3_missBehind) := goodIn_app (goodIn_of _ (by decide +kernel)) ggX3_step_X3_missBehind
set_option maxRecDepth 20000 in
theorem ggX3_step_X3_canGo : GoodIn wsX3_step wsX3_canGo := goodIn_r _ [49, 1, 36, 37, 38, 10, 39, 16, 40, 5, 41, 50, 51, 52, 53, 54, 55, 56, 57, 58, 59, 60, 61, 62, 13, 14, 15, 17, 18, 63, 64, 65, 66, 67, 68, 69, 35, 70, 71, 72, 73, 74, 75, 76, 77, 78, 79, 80, 81, 82, 83, 84, 85, 86, 87, 88, 89, 90, 91, 114, 115, 116, 117, 118, 119, 120, 121, 122, 123, 124] (by decide +kernel) (by decide +kernel)
set_option maxRecDepth 20000 in
theorem gX3_step_X3_canGo : GoodIn wsX3_step (wsV RX3 117 RX3 yX3_canGo wsX3_canGo) := goodIn_app (goodIn_of _ (by decide +kernel)) ggX3_step_X3_canGo
set_option maxRecDepth 20000 in
theorem ggX3_step_X3_go : GoodIn wsX3_step wsX3_go := goodIn_r _ [95, 96, 1, 36, 37, 38, 10, 39, 16, 40, 5, 41, 97, 98, 99, 100, 101, 102, 103, 104, 105, 106, 107, 33, 108, 109, 110, 111, 112, 113, 88, 89, 90, 91, 78, 114, 115, 116, 117, 118, 119, 120, 121, 122, 123, 124, 125, 126, 127, 128, 129] (by decide +kernel) (by decide +kernel)
set_option maxRecDepth 20000 in
theorem gX3_step_X3_go : GoodIn wsX3_step (wsV RX3 120 RX3 yX3_go wsX3_go) := goodIn_app (goodIn_of _ (by decide +kernel)) ggX3_step_X3_go
theorem dX3_step_0 : decode cX3_step 0 = .ok (.aload_n 0, 1) := by decide +kernel
theorem dX3_step_1 : decode cX3_step 1 = .ok (.invokevirtual 229, 3) := by decide +kernel
theorem dX3_step_4 : decode cX3_step 4 = .ok (.istore_n 1, 1) := by decide +kernel
theorem dX3_step_5 : decode cX3_step 5 = .ok (.iload_n 1, 1) := by decide +kernel
theorem dX3_step_6 : decode cX3_step 6 = .ok (.istore_n 2, 1) := by decide +kernel
theorem dX3_step_7 : decode cX3_step 7 = .ok (.iconst 0, 1) := by decide +kernel
theorem dX3_step_8 : decode cX3_step 8 = .ok (.istore_n 3, 1) := by decide +kernel
theorem dX3_step_9 : decode cX3_step 9 = .ok (.iconst 0, 1) := by decide +kernel
theorem dX3_step_10 : decode cX3_step 10 = .ok (.istore 4, 2) := by decide +kernel
theorem dX3_step_12 : decode cX3_step 12 = .ok (.iconst 0, 1) := by decide +kernel
theorem dX3_step_13 : decode cX3_step 13 = .ok (.istore 5, 2) := by decide +kernel
theorem dX3_step_15 : decode cX3_step 15 = .ok (.iload 5, 2) := by decide +kernel
theorem dX3_step_17 : decode cX3_step 17 = .ok (.bipush 64, 2) := by decide +kernel
theorem dX3_step_19 : decode cX3_step 19 = .ok (.if_icmp .ge 81, 3) := by decide +kernel
theorem dX3_step_22 : decode cX3_step 22 = .ok (.aload_n 0, 1) := by decide +kernel
theorem dX3_step_23 : decode cX3_step 23 = .ok (.getfield 12, 3) := by decide +kernel
theorem dX3_step_26 : decode cX3_step 26 = .ok (.iload 5, 2) := by decide +kernel
theorem dX3_step_28 : decode cX3_step 28 = .ok (.invokevirtual 66, 3) := by decide +kernel
theorem dX3_step_31 : decode cX3_step 31 = .ok (.istore 6, 2) := by decide +kernel
theorem dX3_step_33 : decode cX3_step 33 = .ok (.iconst 0, 1) := by decide +kernel
theorem dX3_step_34 : decode cX3_step 34 = .ok (.istore 7, 2) := by decide +kernel
theorem dX3_step_36 : decode cX3_step 36 = .ok (.iload 7, 2) := by decide +kernel
theorem dX3_step_38 : decode cX3_step 38 = .ok (.bipush 6, 2) := by decide +kernel
theorem dX3_step_40 : decode cX3_step 40 = .ok (.if_icmp .ge 54, 3) := by decide +kernel
theorem dX3_step_43 : decode cX3_step 43 = .ok (.iload 6, 2) := by decide +kernel
theorem dX3_step_45 : decode cX3_step 45 = .ok (.bipush (-4), 2) := by decide +kernel
theorem dX3_step_47 : decode cX3_step 47 = .ok (.if_icmp .eq 47, 3) := by decide +kernel
theorem dX3_step_50 : decode cX3_step 50 = .ok (.aload_n 0, 1) := by decide +kernel
theorem dX3_step_51 : decode cX3_step 51 = .ok (.iload_n 1, 1) := by decide +kernel
theorem dX3_step_52 : decode cX3_step 52 = .ok (.iload 6, 2) := by decide +kernel
theorem dX3_step_54 : decode cX3_step 54 = .ok (.iload 7, 2) := by decide +kernel
theorem dX3_step_56 : decode cX3_step 56 = .ok (.invokevirtual 232, 3) := by decide +kernel
theorem dX3_step_59 : decode cX3_step 59 = .ok (.istore 8, 2) := by decide +kernel
theorem dX3_step_61 : decode cX3_step 61 = .ok (.iload 8, 2) := by decide +kernel
theorem dX3_step_63 : decode cX3_step 63 = .ok (.iload_n 2, 1) := by decide +kernel
theorem dX3_step_64 : decode cX3_step 64 = .ok (.if_icmp .ge 24, 3) := by decide +kernel
theorem dX3_step_67 : decode cX3_step 67 = .ok (.aload_n 0, 1) := by decide +kernel
theorem dX3_step_68 : decode cX3_step 68 = .ok (.iload 5, 2) := by decide +kernel
theorem dX3_step_70 : decode cX3_step 70 = .ok (.iload 7, 2) := by decide +kernel
theorem dX3_step_72 : decode cX3_step 72 = .ok (.invokevirtual 117, 3) := by decide +kernel
theorem dX3_step_75 : decode cX3_step 75 = .ok (.ifCond .eq 13, 3) := by decide +kernel
theorem dX3_step_78 : decode cX3_step 78 = .ok (.iload 8, 2) := by decide +kernel
theorem dX3_step_80 : decode cX3_step 80 = .ok (.istore_n 2, 1) := by decide +kernel
theorem dX3_step_81 : decode cX3_step 81 = .ok (.iload 5, 2) := by decide +kernel
theorem dX3_step_83 : decode cX3_step 83 = .ok (.istore_n 3, 1) := by decide +kernel
theorem dX3_step_84 : decode cX3_step 84 = .ok (.iload 7, 2) := by decide +kernel
theorem dX3_step_86 : decode cX3_step 86 = .ok (.istore 4, 2) := by decide +kernel
theorem dX3_step_88 : decode cX3_step 88 = .ok (.iinc 7 1, 3) := by decide +kernel
theorem dX3_step_91 : decode cX3_step 91 = .ok (.goto (-55), 3) := by decide +kernel
theorem dX3_step_94 : decode cX3_step 94 = .ok (.iinc 5 1, 3) := by decide +kernel
theorem dX3_step_97 : decode cX3_step 97 = .ok (.goto (-82), 3) := by decide +kernel
theorem dX3_step_100 : decode cX3_step 100 = .ok (.iload_n 2, 1) := by decide +kernel
theorem dX3_step_101 : decode cX3_step 101 = .ok (.iload_n 1, 1) := by decide +kernel
theorem dX3_step_102 : decode cX3_step 102 = .ok (.if_icmp .ge 10, 3) := by decide +kernel
theorem dX3_step_105 : decode cX3_step 105 = .ok (.aload_n 0, 1) := by decide +kernel
theorem dX3_step_106 : decode cX3_step 106 = .ok (.iload_n 3, 1) := by decide +kernel
theorem dX3_step_107 : decode cX3_step 107 = .ok (.iload 4, 2) := by decide +kernel
theorem dX3_step_109 : decode cX3_step 109 = .ok (.invokevirtual 120, 3) := by decide +kernel
theorem dX3_step_112 : decode cX3_step 112 = .ok (.iload_n 2, 1) := by decide +kernel
theorem dX3_step_113 : decode cX3_step 113 = .ok (.iload_n 1, 1) := by decide +kernel
theorem dX3_step_114 : decode cX3_step 114 = .ok (.if_icmp .ge 7, 3) := by decide +kernel
theorem dX3_step_117 : decode cX3_step 117 = .ok (.iconst 1, 1) := by decide +kernel
theorem dX3_step_118 : decode cX3_step 118 = .ok (.goto 4, 3) := by decide +kernel
theorem dX3_step_121 : decode cX3_step 121 = .ok (.iconst 0, 1) := by decide +kernel
theorem dX3_step_122 : decode cX3_step 122 = .ok (.ireturn, 1) := by decide +kernel
theorem dX3_answer_0 : decode cX3_answer 0 = .ok (.iload_n 0, 1) := by decide +kernel
theorem dX3_answer_1 : decode cX3_answer 1 = .ok (.ifCond .eq 7, 3) := by decide +kernel
theorem dX3_answer_4 : decode cX3_answer 4 = .ok (.iconst 1, 1) := by decide +kernel
theorem dX3_answer_5 : decode cX3_answer 5 = .ok (.goto 4, 3) := by decide +kernel
theorem dX3_answer_8 : decode cX3_answer 8 = .ok (.iconst 0, 1) := by decide +kernel
theorem dX3_answer_9 : decode cX3_answer 9 = .ok (.ireturn, 1) := by decide +kernel
theorem dX3_isLand_0 : decode cX3_isLand 0 = .ok (.iload_n 0, 1) := by decide +kernel
theorem dX3_isLand_1 : decode cX3_isLand 1 = .ok (.ifCond .lt 13, 3) := by decide +kernel
theorem dX3_isLand_4 : decode cX3_isLand 4 = .ok (.iload_n 0, 1) := by decide +kernel
theorem dX3_isLand_5 : decode cX3_isLand 5 = .ok (.bipush 6, 2) := by decide +kernel
theorem dX3_isLand_7 : decode cX3_isLand 7 = .ok (.if_icmp .ge 7, 3) := by decide +kernel
theorem dX3_isLand_10 : decode cX3_isLand 10 = .ok (.iconst 1, 1) := by decide +kernel
theorem dX3_isLand_11 : decode cX3_isLand 11 = .ok (.goto 4, 3) := by decide +kernel
theorem dX3_isLand_14 : decode cX3_isLand 14 = .ok (.iconst 0, 1) := by decide +kernel
theorem dX3_isLand_15 : decode cX3_isLand 15 = .ok (.ireturn, 1) := by decide +kernel
set_option maxRecDepth 20000 in
theorem ggX3_isLandOrSea_X3_isLand : GoodIn wsX3_isLandOrSea wsX3_isLand := goodIn_r _ [4] (by decide +kernel) (by decide +kernel)
set_option maxRecDepth 20000 in
theorem gX3_isLandOrSea_X3_isLand : GoodIn wsX3_isLandOrSea (va_wsS RX3 73 yX3_isLand wsX3_isLand) := goodIn_app (goodIn_of _ (by decide +kernel)) ggX3_isLandOrSea_X3_isLand
theorem dX3_isLandOrSea_0 : decode cX3_isLandOrSea 0 = .ok (.iload_n 0, 1) := by decide +kernel
theorem dX3_isLandOrSea_1 : decode cX3_isLandOrSea 1 = .ok (.bipush (-4), 2) := by decide +kernel
theorem dX3_isLandOrSea_3 : decode cX3_isLandOrSea 3 = .ok (.if_icmp .eq 10, 3) := by decide +kernel
theorem dX3_isLandOrSea_6 : decode cX3_isLandOrSea 6 = .ok (.iload_n 0, 1) := by decide +kernel
theorem dX3_isLandOrSea_7 : decode cX3_isLandOrSea 7 = .ok (.invokestatic 73, 3) := by decide +kernel
theorem dX3_isLandOrSea_10 : decode cX3_isLandOrSea 10 = .ok (.ifCond .eq 7, 3) := by decide +kernel
theorem dX3_isLandOrSea_13 : decode cX3_isLandOrSea 13 = .ok (.iconst 1, 1) := by decide +kernel
theorem dX3_isLandOrSea_14 : decode cX3_isLandOrSea 14 = .ok (.goto 4, 3) := by decide +kernel
theorem dX3_isLandOrSea_17 : decode cX3_isLandOrSea 17 = .ok (.iconst 0, 1) := by decide +kernel
theorem dX3_isLandOrSea_18 : decode cX3_isLandOrSea 18 = .ok (.ireturn, 1) := by decide +kernel
theorem dX3_isYear_0 : decode cX3_isYear 0 = .ok (.iload_n 0, 1) := by decide +kernel
theorem dX3_isYear_1 : decode cX3_isYear 1 = .ok (.ifCond .lt 12, 3) := by decide +kernel
theorem dX3_isYear_4 : decode cX3_isYear 4 = .ok (.iload_n 0, 1) := by decide +kernel
theorem dX3_isYear_5 : decode cX3_isYear 5 = .ok (.iconst 4, 1) := by decide +kernel
theorem dX3_isYear_6 : decode cX3_isYear 6 = .ok (.if_icmp .ge 7, 3) := by decide +kernel
theorem dX3_isYear_9 : decode cX3_isYear 9 = .ok (.iconst 1, 1) := by decide +kernel
theorem dX3_isYear_10 : decode cX3_isYear 10 = .ok (.goto 4, 3) := by decide +kernel
theorem dX3_isYear_13 : decode cX3_isYear 13 = .ok (.iconst 0, 1) := by decide +kernel
theorem dX3_isYear_14 : decode cX3_isYear 14 = .ok (.ireturn, 1) := by decide +kernel
set_option maxRecDepth 20000 in
theorem ggX3_hasBox_X3_isLand : GoodIn wsX3_hasBox wsX3_isLand := goodIn_r _ [5] (by decide +kernel) (by decide +kernel)
set_option maxRecDepth 20000 in
theorem gX3_hasBox_X3_isLand : GoodIn wsX3_hasBox (va_wsS RX3 73 yX3_isLand wsX3_isLand) := goodIn_app (goodIn_of _ (by decide +kernel)) ggX3_hasBox_X3_isLand
set_option maxRecDepth 20000 in
theorem ggX3_hasBox_X0_sizeOf : GoodIn wsX3_hasBox wsX0_sizeOf := goodIn_r _ [10, 11, 12, 13, 9, 14, 15, 3, 4, 5, 16, 17, 18, 19, 20, 21, 22, 35, 36, 37] (by decide +kernel) (by decide +kernel)
set_option maxRecDepth 20000 in
theorem gX3_hasBox_X0_sizeOf : GoodIn wsX3_hasBox (wsV RX3 76 RX0 yX0_sizeOf wsX0_sizeOf) := goodIn_app (goodIn_of _ (by decide +kernel)) ggX3_hasBox_X0_sizeOf
set_option maxRecDepth 20000 in
theorem ggX3_hasBox_X0_peopled : GoodIn wsX3_hasBox wsX0_peopled := goodIn_r _ [26, 15, 35, 36, 37] (by decide +kernel) (by decide +kernel)
set_option maxRecDepth 20000 in
theorem gX3_hasBox_X0_peopled : GoodIn wsX3_hasBox (wsV RX3 206 RX0 yX0_peopled wsX0_peopled) := goodIn_app (goodIn_of _ (by decide +kernel)) ggX3_hasBox_X0_peopled
theorem dX3_hasBox_0 : decode cX3_hasBox 0 = .ok (.iload_n 2, 1) := by decide +kernel
theorem dX3_hasBox_1 : decode cX3_hasBox 1 = .ok (.invokestatic 73, 3) := by decide +kernel
theorem dX3_hasBox_4 : decode cX3_hasBox 4 = .ok (.ifCond .eq 37, 3) := by decide +kernel
theorem dX3_hasBox_7 : decode cX3_hasBox 7 = .ok (.aload_n 0, 1) := by decide +kernel
theorem dX3_hasBox_8 : decode cX3_hasBox 8 = .ok (.getfield 12, 3) := by decide +kernel
theorem dX3_hasBox_11 : decode cX3_hasBox 11 = .ok (.iload_n 2, 1) := by decide +kernel
theorem dX3_hasBox_12 : decode cX3_hasBox 12 = .ok (.invokevirtual 76, 3) := by decide +kernel
theorem dX3_hasBox_15 : decode cX3_hasBox 15 = .ok (.ifCond .le 26, 3) := by decide +kernel
theorem dX3_hasBox_18 : decode cX3_hasBox 18 = .ok (.iload_n 1, 1) := by decide +kernel
theorem dX3_hasBox_19 : decode cX3_hasBox 19 = .ok (.ifCond .lt 22, 3) := by decide +kernel
theorem dX3_hasBox_22 : decode cX3_hasBox 22 = .ok (.iload_n 1, 1) := by decide +kernel
theorem dX3_hasBox_23 : decode cX3_hasBox 23 = .ok (.iconst 1, 1) := by decide +kernel
theorem dX3_hasBox_24 : decode cX3_hasBox 24 = .ok (.aload_n 0, 1) := by decide +kernel
theorem dX3_hasBox_25 : decode cX3_hasBox 25 = .ok (.getfield 12, 3) := by decide +kernel
theorem dX3_hasBox_28 : decode cX3_hasBox 28 = .ok (.invokevirtual 206, 3) := by decide +kernel
theorem dX3_hasBox_31 : decode cX3_hasBox 31 = .ok (.iconst 1, 1) := by decide +kernel
theorem dX3_hasBox_32 : decode cX3_hasBox 32 = .ok (.isub, 1) := by decide +kernel
theorem dX3_hasBox_33 : decode cX3_hasBox 33 = .ok (.ishl, 1) := by decide +kernel
theorem dX3_hasBox_34 : decode cX3_hasBox 34 = .ok (.if_icmp .ge 7, 3) := by decide +kernel
theorem dX3_hasBox_37 : decode cX3_hasBox 37 = .ok (.iconst 1, 1) := by decide +kernel
theorem dX3_hasBox_38 : decode cX3_hasBox 38 = .ok (.goto 4, 3) := by decide +kernel
theorem dX3_hasBox_41 : decode cX3_hasBox 41 = .ok (.iconst 0, 1) := by decide +kernel
theorem dX3_hasBox_42 : decode cX3_hasBox 42 = .ok (.ireturn, 1) := by decide +kernel
theorem dX3_thousandths_0 : decode cX3_thousandths 0 = .ok (.iload_n 1, 1) := by decide +kernel
theorem dX3_thousandths_1 : decode cX3_thousandths 1 = .ok (.ifCond .le 13, 3) := by decide +kernel
theorem dX3_thousandths_4 : decode cX3_thousandths 4 = .ok (.iload_n 0, 1) := by decide +kernel
theorem dX3_thousandths_5 : decode cX3_thousandths 5 = .ok (.sipush 1000, 3) := by decide +kernel
theorem dX3_thousandths_8 : decode cX3_thousandths 8 = .ok (.imul, 1) := by decide +kernel
theorem dX3_thousandths_9 : decode cX3_thousandths 9 = .ok (.iload_n 1, 1) := by decide +kernel
theorem dX3_thousandths_10 : decode cX3_thousandths 10 = .ok (.idiv, 1) := by decide +kernel
theorem dX3_thousandths_11 : decode cX3_thousandths 11 = .ok (.goto 4, 3) := by decide +kernel
theorem dX3_thousandths_14 : decode cX3_thousandths 14 = .ok (.iconst 0, 1) := by decide +kernel
theorem dX3_thousandths_15 : decode cX3_thousandths 15 = .ok (.ireturn, 1) := by decide +kernel
theorem dX3_commonDivisor_0 : decode cX3_commonDivisor 0 = .ok (.iload_n 0, 1) := by decide +kernel
theorem dX3_commonDivisor_1 : decode cX3_commonDivisor 1 = .ok (.istore_n 2, 1) := by decide +kernel
theorem dX3_commonDivisor_2 : decode cX3_commonDivisor 2 = .ok (.iload_n 1, 1) := by decide +kernel
theorem dX3_commonDivisor_3 : decode cX3_commonDivisor 3 = .ok (.istore_n 3, 1) := by decide +kernel
theorem dX3_commonDivisor_4 : decode cX3_commonDivisor 4 = .ok (.iconst 0, 1) := by decide +kernel
theorem dX3_commonDivisor_5 : decode cX3_commonDivisor 5 = .ok (.istore 4, 2) := by decide +kernel
theorem dX3_commonDivisor_7 : decode cX3_commonDivisor 7 = .ok (.iload 4, 2) := by decide +kernel
theorem dX3_commonDivisor_9 : decode cX3_commonDivisor 9 = .ok (.bipush 64, 2) := by decide +kernel
theorem dX3_commonDivisor_11 : decode cX3_commonDivisor 11 = .ok (.if_icmp .ge 23, 3) := by decide +kernel
theorem dX3_commonDivisor_14 : decode cX3_commonDivisor 14 = .ok (.iload_n 3, 1) := by decide +kernel
theorem dX3_commonDivisor_15 : decode cX3_commonDivisor 15 = .ok (.ifCond .eq 19, 3) := by decide +kernel
theorem dX3_commonDivisor_18 : decode cX3_commonDivisor 18 = .ok (.iload_n 2, 1) := by decide +kernel
theorem dX3_commonDivisor_19 : decode cX3_commonDivisor 19 = .ok (.iload_n 3, 1) := by decide +kernel
theorem dX3_commonDivisor_20 : decode cX3_commonDivisor 20 = .ok (.irem, 1) := by decide +kernel
theorem dX3_commonDivisor_21 : decode cX3_commonDivisor 21 = .ok (.istore 5, 2) := by decide +kernel
theorem dX3_commonDivisor_23 : decode cX3_commonDivisor 23 = .ok (.iload_n 3, 1) := by decide +kernel
theorem dX3_commonDivisor_24 : decode cX3_commonDivisor 24 = .ok (.istore_n 2, 1) := by decide +kernel
theorem dX3_commonDivisor_25 : decode cX3_commonDivisor 25 = .ok (.iload 5, 2) := by decide +kernel
theorem dX3_commonDivisor_27 : decode cX3_commonDivisor 27 = .ok (.istore_n 3, 1) := by decide +kernel
theorem dX3_commonDivisor_28 : decode cX3_commonDivisor 28 = .ok (.iinc 4 1, 3) := by decide +kernel
theorem dX3_commonDivisor_31 : decode cX3_commonDivisor 31 = .ok (.goto (-24), 3) := by decide +kernel
theorem dX3_commonDivisor_34 : decode cX3_commonDivisor 34 = .ok (.iload_n 2, 1) := by decide +kernel
theorem dX3_commonDivisor_35 : decode cX3_commonDivisor 35 = .ok (.ireturn, 1) := by decide +kernel
theorem dX3_cellAt_0 : decode cX3_cellAt 0 = .ok (.iload_n 0, 1) := by decide +kernel
theorem dX3_cellAt_1 : decode cX3_cellAt 1 = .ok (.bipush 8, 2) := by decide +kernel
theorem dX3_cellAt_3 : decode cX3_cellAt 3 = .ok (.iload_n 1, 1) := by decide +kernel
theorem dX3_cellAt_4 : decode cX3_cellAt 4 = .ok (.imul, 1) := by decide +kernel
theorem dX3_cellAt_5 : decode cX3_cellAt 5 = .ok (.iadd, 1) := by decide +kernel
theorem dX3_cellAt_6 : decode cX3_cellAt 6 = .ok (.ireturn, 1) := by decide +kernel
theorem dX3_columnOf_0 : decode cX3_columnOf 0 = .ok (.iload_n 0, 1) := by decide +kernel
theorem dX3_columnOf_1 : decode cX3_columnOf 1 = .ok (.bipush 8, 2) := by decide +kernel
theorem dX3_columnOf_3 : decode cX3_columnOf 3 = .ok (.irem, 1) := by decide +kernel
theorem dX3_columnOf_4 : decode cX3_columnOf 4 = .ok (.ireturn, 1) := by decide +kernel
theorem dX3_rowOf_0 : decode cX3_rowOf 0 = .ok (.iload_n 0, 1) := by decide +kernel
theorem dX3_rowOf_1 : decode cX3_rowOf 1 = .ok (.bipush 8, 2) := by decide +kernel
theorem dX3_rowOf_3 : decode cX3_rowOf 3 = .ok (.idiv, 1) := by decide +kernel
theorem dX3_rowOf_4 : decode cX3_rowOf 4 = .ok (.ireturn, 1) := by decide +kernel
theorem dX3_bit_0 : decode cX3_bit 0 = .ok (.lconst 1, 1) := by decide +kernel
theorem dX3_bit_1 : decode cX3_bit 1 = .ok (.iload_n 0, 1) := by decide +kernel
theorem dX3_bit_2 : decode cX3_bit 2 = .ok (.lshl, 1) := by decide +kernel
theorem dX3_bit_3 : decode cX3_bit 3 = .ok (.lreturn, 1) := by decide +kernel
theorem dX3_toRight_0 : decode cX3_toRight 0 = .ok (.lload_n 0, 1) := by decide +kernel
theorem dX3_toRight_1 : decode cX3_toRight 1 = .ok (.ldc2_w 236, 3) := by decide +kernel
theorem dX3_toRight_4 : decode cX3_toRight 4 = .ok (.land, 1) := by decide +kernel
theorem dX3_toRight_5 : decode cX3_toRight 5 = .ok (.iconst 1, 1) := by decide +kernel
theorem dX3_toRight_6 : decode cX3_toRight 6 = .ok (.lshl, 1) := by decide +kernel
theorem dX3_toRight_7 : decode cX3_toRight 7 = .ok (.lreturn, 1) := by decide +kernel
theorem dX3_toLeft_0 : decode cX3_toLeft 0 = .ok (.lload_n 0, 1) := by decide +kernel
theorem dX3_toLeft_1 : decode cX3_toLeft 1 = .ok (.ldc2_w 238, 3) := by decide +kernel
theorem dX3_toLeft_4 : decode cX3_toLeft 4 = .ok (.land, 1) := by decide +kernel
theorem dX3_toLeft_5 : decode cX3_toLeft 5 = .ok (.iconst 1, 1) := by decide +kernel
theorem dX3_toLeft_6 : decode cX3_toLeft 6 = .ok (.lushr, 1) := by decide +kernel
theorem dX3_toLeft_7 : decode cX3_toLeft 7 = .ok (.lreturn, 1) := by decide +kernel
set_option maxRecDepth 20000 in
theorem ggX3_around_X3_toRight : GoodIn wsX3_around wsX3_toRight := goodIn_r _ [4, 5] (by decide +kernel) (by decide +kernel)
set_option maxRecDepth 20000 in
theorem gX3_around_X3_toRight : GoodIn wsX3_around (va_wsS RX3 240 yX3_toRight wsX3_toRight) := goodIn_app (goodIn_of _ (by decide +kernel)) ggX3_around_X3_toRight
set_option maxRecDepth 20000 in
theorem ggX3_around_X3_toLeft : GoodIn wsX3_around wsX3_toLeft := goodIn_r _ [8, 9] (by decide +kernel) (by decide +kernel)
set_option maxRecDepth 20000 in
theorem gX3_around_X3_toLeft : GoodIn wsX3_around (va_wsS RX3 243 yX3_toLeft wsX3_toLeft) := goodIn_app (goodIn_of _ (by decide +kernel)) ggX3_around_X3_toLeft
theorem dX3_around_0 : decode cX3_around 0 = .ok (.lload_n 0, 1) := by decide +kernel
theorem dX3_around_1 : decode cX3_around 1 = .ok (.invokestatic 240, 3) := by decide +kernel
theorem dX3_around_4 : decode cX3_around 4 = .ok (.lload_n 0, 1) := by decide +kernel
theorem dX3_around_5 : decode cX3_around 5 = .ok (.invokestatic 243, 3) := by decide +kernel
theorem dX3_around_8 : decode cX3_around 8 = .ok (.lor, 1) := by decide +kernel
theorem dX3_around_9 : decode cX3_around 9 = .ok (.lload_n 0, 1) := by decide +kernel
theorem dX3_around_10 : decode cX3_around 10 = .ok (.bipush 8, 2) := by decide +kernel
theorem dX3_around_12 : decode cX3_around 12 = .ok (.lshl, 1) := by decide +kernel
theorem dX3_around_13 : decode cX3_around 13 = .ok (.lor, 1) := by decide +kernel
theorem dX3_around_14 : decode cX3_around 14 = .ok (.lload_n 0, 1) := by decide +kernel
theorem dX3_around_15 : decode cX3_around 15 = .ok (.bipush 8, 2) := by decide +kernel
theorem dX3_around_17 : decode cX3_around 17 = .ok (.lushr, 1) := by decide +kernel
theorem dX3_around_18 : decode cX3_around 18 = .ok (.lor, 1) := by decide +kernel
theorem dX3_around_19 : decode cX3_around 19 = .ok (.lreturn, 1) := by decide +kernel
set_option maxRecDepth 20000 in
theorem ggX3_inside_X3_toRight : GoodIn wsX3_inside wsX3_toRight := goodIn_r _ [4, 5] (by decide +kernel) (by decide +kernel)
set_option maxRecDepth 20000 in
theorem gX3_inside_X3_toRight : GoodIn wsX3_inside (va_wsS RX3 240 yX3_toRight wsX3_toRight) := goodIn_app (goodIn_of _ (by decide +kernel)) ggX3_inside_X3_toRight
set_option maxRecDepth 20000 in
theorem ggX3_inside_X3_toLeft : GoodIn wsX3_inside wsX3_toLeft := goodIn_r _ [8, 9] (by decide +kernel) (by decide +kernel)
set_option maxRecDepth 20000 in
theorem gX3_inside_X3_toLeft : GoodIn wsX3_inside (va_wsS RX3 243 yX3_toLeft wsX3_toLeft) := goodIn_app (goodIn_of _ (by decide +kernel)) ggX3_inside_X3_toLeft
theorem dX3_inside_0 : decode cX3_inside 0 = .ok (.lload_n 0, 1) := by decide +kernel
theorem dX3_inside_1 : decode cX3_inside 1 = .ok (.lload_n 0, 1) := by decide +kernel
theorem dX3_inside_2 : decode cX3_inside 2 = .ok (.invokestatic 240, 3) := by decide +kernel
theorem dX3_inside_5 : decode cX3_inside 5 = .ok (.land, 1) := by decide +kernel
theorem dX3_inside_6 : decode cX3_inside 6 = .ok (.lload_n 0, 1) := by decide +kernel
theorem dX3_inside_7 : decode cX3_inside 7 = .ok (.invokestatic 243, 3) := by decide +kernel
theorem dX3_inside_10 : decode cX3_inside 10 = .ok (.land, 1) := by decide +kernel
theorem dX3_inside_11 : decode cX3_inside 11 = .ok (.lload_n 0, 1) := by decide +kernel
theorem dX3_inside_12 : decode cX3_inside 12 = .ok (.bipush 8, 2) := by decide +kernel
theorem dX3_inside_14 : decode cX3_inside 14 = .ok (.lshl, 1) := by decide +kernel
theorem dX3_inside_15 : decode cX3_inside 15 = .ok (.land, 1) := by decide +kernel
theorem dX3_inside_16 : decode cX3_inside 16 = .ok (.lload_n 0, 1) := by decide +kernel
theorem dX3_inside_17 : decode cX3_inside 17 = .ok (.bipush 8, 2) := by decide +kernel
theorem dX3_inside_19 : decode cX3_inside 19 = .ok (.lushr, 1) := by decide +kernel
theorem dX3_inside_20 : decode cX3_inside 20 = .ok (.land, 1) := by decide +kernel
theorem dX3_inside_21 : decode cX3_inside 21 = .ok (.lreturn, 1) := by decide +kernel
set_option maxRecDepth 20000 in
theorem ggX3_isWhole_X3_around : GoodIn wsX3_isWhole wsX3_around := goodIn_r _ [4, 5, 6, 3, 7, 8, 9, 10, 11, 12] (by decide +kernel) (by decide +kernel)
set_option maxRecDepth 20000 in
theorem gX3_isWhole_X3_around : GoodIn wsX3_isWhole (va_wsS RX3 94 yX3_around wsX3_around) := goodIn_app (goodIn_of _ (by decide +kernel)) ggX3_isWhole_X3_around
theorem dX3_isWhole_0 : decode cX3_isWhole 0 = .ok (.lload_n 0, 1) := by decide +kernel
theorem dX3_isWhole_1 : decode cX3_isWhole 1 = .ok (.lload_n 0, 1) := by decide +kernel
theorem dX3_isWhole_2 : decode cX3_isWhole 2 = .ok (.lneg, 1) := by decide +kernel
theorem dX3_isWhole_3 : decode cX3_isWhole 3 = .ok (.land, 1) := by decide +kernel
theorem dX3_isWhole_4 : decode cX3_isWhole 4 = .ok (.lstore_n 2, 1) := by decide +kernel
theorem dX3_isWhole_5 : decode cX3_isWhole 5 = .ok (.iconst 0, 1) := by decide +kernel
theorem dX3_isWhole_6 : decode cX3_isWhole 6 = .ok (.istore 4, 2) := by decide +kernel
theorem dX3_isWhole_8 : decode cX3_isWhole 8 = .ok (.iload 4, 2) := by decide +kernel
theorem dX3_isWhole_10 : decode cX3_isWhole 10 = .ok (.bipush 64, 2) := by decide +kernel
theorem dX3_isWhole_12 : decode cX3_isWhole 12 = .ok (.if_icmp .ge 32, 3) := by decide +kernel
theorem dX3_isWhole_15 : decode cX3_isWhole 15 = .ok (.lload_n 2, 1) := by decide +kernel
theorem dX3_isWhole_16 : decode cX3_isWhole 16 = .ok (.lload_n 2, 1) := by decide +kernel
theorem dX3_isWhole_17 : decode cX3_isWhole 17 = .ok (.invokestatic 94, 3) := by decide +kernel
theorem dX3_isWhole_20 : decode cX3_isWhole 20 = .ok (.lload_n 0, 1) := by decide +kernel
theorem dX3_isWhole_21 : decode cX3_isWhole 21 = .ok (.land, 1) := by decide +kernel
theorem dX3_isWhole_22 : decode cX3_isWhole 22 = .ok (.lor, 1) := by decide +kernel
theorem dX3_isWhole_23 : decode cX3_isWhole 23 = .ok (.lstore 5, 2) := by decide +kernel
theorem dX3_isWhole_25 : decode cX3_isWhole 25 = .ok (.lload 5, 2) := by decide +kernel
theorem dX3_isWhole_27 : decode cX3_isWhole 27 = .ok (.lload_n 2, 1) := by decide +kernel
theorem dX3_isWhole_28 : decode cX3_isWhole 28 = .ok (.lcmp, 1) := by decide +kernel
theorem dX3_isWhole_29 : decode cX3_isWhole 29 = .ok (.ifCond .ne 6, 3) := by decide +kernel
theorem dX3_isWhole_32 : decode cX3_isWhole 32 = .ok (.goto 12, 3) := by decide +kernel
theorem dX3_isWhole_35 : decode cX3_isWhole 35 = .ok (.lload 5, 2) := by decide +kernel
theorem dX3_isWhole_37 : decode cX3_isWhole 37 = .ok (.lstore_n 2, 1) := by decide +kernel
theorem dX3_isWhole_38 : decode cX3_isWhole 38 = .ok (.iinc 4 1, 3) := by decide +kernel
theorem dX3_isWhole_41 : decode cX3_isWhole 41 = .ok (.goto (-33), 3) := by decide +kernel
theorem dX3_isWhole_44 : decode cX3_isWhole 44 = .ok (.lload_n 0, 1) := by decide +kernel
theorem dX3_isWhole_45 : decode cX3_isWhole 45 = .ok (.lconst 0, 1) := by decide +kernel
theorem dX3_isWhole_46 : decode cX3_isWhole 46 = .ok (.lcmp, 1) := by decide +kernel
theorem dX3_isWhole_47 : decode cX3_isWhole 47 = .ok (.ifCond .eq 13, 3) := by decide +kernel
theorem dX3_isWhole_50 : decode cX3_isWhole 50 = .ok (.lload_n 2, 1) := by decide +kernel
theorem dX3_isWhole_51 : decode cX3_isWhole 51 = .ok (.lload_n 0, 1) := by decide +kernel
theorem dX3_isWhole_52 : decode cX3_isWhole 52 = .ok (.lcmp, 1) := by decide +kernel
theorem dX3_isWhole_53 : decode cX3_isWhole 53 = .ok (.ifCond .ne 7, 3) := by decide +kernel
theorem dX3_isWhole_56 : decode cX3_isWhole 56 = .ok (.iconst 1, 1) := by decide +kernel
theorem dX3_isWhole_57 : decode cX3_isWhole 57 = .ok (.goto 4, 3) := by decide +kernel
theorem dX3_isWhole_60 : decode cX3_isWhole 60 = .ok (.iconst 0, 1) := by decide +kernel
theorem dX3_isWhole_61 : decode cX3_isWhole 61 = .ok (.ireturn, 1) := by decide +kernel
set_option maxRecDepth 20000 in
theorem ggX3_firstOf_X3_bit : GoodIn wsX3_firstOf wsX3_bit := goodIn_r _ [4] (by decide +kernel) (by decide +kernel)
set_option maxRecDepth 20000 in
theorem gX3_firstOf_X3_bit : GoodIn wsX3_firstOf (va_wsS RX3 212 yX3_bit wsX3_bit) := goodIn_app (goodIn_of _ (by decide +kernel)) ggX3_firstOf_X3_bit
theorem dX3_firstOf_0 : decode cX3_firstOf 0 = .ok (.iconst 0, 1) := by decide +kernel
theorem dX3_firstOf_1 : decode cX3_firstOf 1 = .ok (.istore_n 2, 1) := by decide +kernel
theorem dX3_firstOf_2 : decode cX3_firstOf 2 = .ok (.iload_n 2, 1) := by decide +kernel
theorem dX3_firstOf_3 : decode cX3_firstOf 3 = .ok (.bipush 64, 2) := by decide +kernel
theorem dX3_firstOf_5 : decode cX3_firstOf 5 = .ok (.if_icmp .ge 22, 3) := by decide +kernel
theorem dX3_firstOf_8 : decode cX3_firstOf 8 = .ok (.lload_n 0, 1) := by decide +kernel
theorem dX3_firstOf_9 : decode cX3_firstOf 9 = .ok (.iload_n 2, 1) := by decide +kernel
theorem dX3_firstOf_10 : decode cX3_firstOf 10 = .ok (.invokestatic 212, 3) := by decide +kernel
theorem dX3_firstOf_13 : decode cX3_firstOf 13 = .ok (.land, 1) := by decide +kernel
theorem dX3_firstOf_14 : decode cX3_firstOf 14 = .ok (.lconst 0, 1) := by decide +kernel
theorem dX3_firstOf_15 : decode cX3_firstOf 15 = .ok (.lcmp, 1) := by decide +kernel
theorem dX3_firstOf_16 : decode cX3_firstOf 16 = .ok (.ifCond .eq 5, 3) := by decide +kernel
theorem dX3_firstOf_19 : decode cX3_firstOf 19 = .ok (.iload_n 2, 1) := by decide +kernel
theorem dX3_firstOf_20 : decode cX3_firstOf 20 = .ok (.ireturn, 1) := by decide +kernel
theorem dX3_firstOf_21 : decode cX3_firstOf 21 = .ok (.iinc 2 1, 3) := by decide +kernel
theorem dX3_firstOf_24 : decode cX3_firstOf 24 = .ok (.goto (-22), 3) := by decide +kernel
theorem dX3_firstOf_27 : decode cX3_firstOf 27 = .ok (.iconst 0, 1) := by decide +kernel
theorem dX3_firstOf_28 : decode cX3_firstOf 28 = .ok (.ireturn, 1) := by decide +kernel
set_option maxRecDepth 20000 in
theorem ggX4_init_X4_clears : GoodIn wsX4_init wsX4_clears := goodIn_r _ [27, 7, 28, 29, 30, 26, 31, 8, 9, 32, 33, 34, 35, 36, 37, 38, 39, 40, 41, 42, 43, 44, 45, 46, 47, 48, 49, 50, 51, 52, 53, 54, 55, 56, 57, 58] (by decide +kernel) (by decide +kernel)
set_option maxRecDepth 20000 in
theorem gX4_init_X4_clears : GoodIn wsX4_init (wsV RX4 63 RX4 yX4_clears wsX4_clears) := goodIn_app (goodIn_of _ (by decide +kernel)) ggX4_init_X4_clears
theorem dX4_init_0 : decode cX4_init 0 = .ok (.aload_n 0, 1) := by decide +kernel
theorem dX4_init_1 : decode cX4_init 1 = .ok (.invokespecial 1, 3) := by decide +kernel
theorem dX4_init_4 : decode cX4_init 4 = .ok (.aload_n 0, 1) := by decide +kernel
theorem dX4_init_5 : decode cX4_init 5 = .ok (.iconst 4, 1) := by decide +kernel
theorem dX4_init_6 : decode cX4_init 6 = .ok (.putfield 7, 3) := by decide +kernel
theorem dX4_init_9 : decode cX4_init 9 = .ok (.aload_n 0, 1) := by decide +kernel
theorem dX4_init_10 : decode cX4_init 10 = .ok (.iconst 4, 1) := by decide +kernel
theorem dX4_init_11 : decode cX4_init 11 = .ok (.putfield 13, 3) := by decide +kernel
theorem dX4_init_14 : decode cX4_init 14 = .ok (.aload_n 0, 1) := by decide +kernel
theorem dX4_init_15 : decode cX4_init 15 = .ok (.bipush 64, 2) := by decide +kernel
theorem dX4_init_17 : decode cX4_init 17 = .ok (.newarray .int, 2) := by decide +kernel
theorem dX4_init_19 : decode cX4_init 19 = .ok (.putfield 16, 3) := by decide +kernel
theorem dX4_init_22 : decode cX4_init 22 = .ok (.aload_n 0, 1) := by decide +kernel
theorem dX4_init_23 : decode cX4_init 23 = .ok (.bipush 6, 2) := by decide +kernel
theorem dX4_init_25 : decode cX4_init 25 = .ok (.newarray .int, 2) := by decide +kernel
theorem dX4_init_27 : decode cX4_init 27 = .ok (.putfield 20, 3) := by decide +kernel
theorem dX4_init_30 : decode cX4_init 30 = .ok (.aload_n 0, 1) := by decide +kernel
theorem dX4_init_31 : decode cX4_init 31 = .ok (.bipush 6, 2) := by decide +kernel
theorem dX4_init_33 : decode cX4_init 33 = .ok (.newarray .int, 2) := by decide +kernel
theorem dX4_init_35 : decode cX4_init 35 = .ok (.dup, 1) := by decide +kernel
theorem dX4_init_36 : decode cX4_init 36 = .ok (.iconst 0, 1) := by decide +kernel
theorem dX4_init_37 : decode cX4_init 37 = .ok (.iconst (-1), 1) := by decide +kernel
theorem dX4_init_38 : decode cX4_init 38 = .ok (.iastore, 1) := by decide +kernel
theorem dX4_init_39 : decode cX4_init 39 = .ok (.dup, 1) := by decide +kernel
theorem dX4_init_40 : decode cX4_init 40 = .ok (.iconst 1, 1) := by decide +kernel
theorem dX4_init_41 : decode cX4_init 41 = .ok (.iconst (-1), 1) := by decide +kernel
theorem dX4_init_42 : decode cX4_init 42 = .ok (.iastore, 1) := by decide +kernel
theorem dX4_init_43 : decode cX4_init 43 = .ok (.dup, 1) := by decide +kernel
theorem dX4_init_44 : decode cX4_init 44 = .ok (.iconst 2, 1) := by decide +kernel
theorem dX4_init_45 : decode cX4_init 45 = .ok (.iconst (-1), 1) := by decide +kernel
theorem dX4_init_46 : decode cX4_init 46 = .ok (.iastore, 1) := by decide +kernel
theorem dX4_init_47 : decode cX4_init 47 = .ok (.dup, 1) := by decide +kernel
theorem dX4_init_48 : decode cX4_init 48 = .ok (.iconst 3, 1) := by decide +kernel
theorem dX4_init_49 : decode cX4_init 49 = .ok (.iconst (-1), 1) := by decide +kernel
theorem dX4_init_50 : decode cX4_init 50 = .ok (.iastore, 1) := by decide +kernel
theorem dX4_init_51 : decode cX4_init 51 = .ok (.dup, 1) := by decide +kernel
theorem dX4_init_52 : decode cX4_init 52 = .ok (.iconst 4, 1) := by decide +kernel
theorem dX4_init_53 : decode cX4_init 53 = .ok (.iconst (-1), 1) := by decide +kernel
theorem dX4_init_54 : decode cX4_init 54 = .ok (.iastore, 1) := by decide +kernel
theorem dX4_init_55 : decode cX4_init 55 = .ok (.dup, 1) := by decide +kernel
theorem dX4_init_56 : decode cX4_init 56 = .ok (.iconst 5, 1) := by decide +kernel
theorem dX4_init_57 : decode cX4_init 57 = .ok (.iconst (-1), 1) := by decide +kernel
theorem dX4_init_58 : decode cX4_init 58 = .ok (.iastore, 1) := by decide +kernel
theorem dX4_init_59 : decode cX4_init 59 = .ok (.putfield 23, 3) := by decide +kernel
theorem dX4_init_62 : decode cX4_init 62 = .ok (.aload_n 0, 1) := by decide +kernel
theorem dX4_init_63 : decode cX4_init 63 = .ok (.bipush 6, 2) := by decide +kernel
theorem dX4_init_65 : decode cX4_init 65 = .ok (.newarray .int, 2) := by decide +kernel
theorem dX4_init_67 : decode cX4_init 67 = .ok (.putfield 26, 3) := by decide +kernel
theorem dX4_init_70 : decode cX4_init 70 = .ok (.aload_n 0, 1) := by decide +kernel
theorem dX4_init_71 : decode cX4_init 71 = .ok (.bipush 100, 2) := by decide +kernel
theorem dX4_init_73 : decode cX4_init 73 = .ok (.newarray .int, 2) := by decide +kernel
theorem dX4_init_75 : decode cX4_init 75 = .ok (.putfield 29, 3) := by decide +kernel
theorem dX4_init_78 : decode cX4_init 78 = .ok (.aload_n 0, 1) := by decide +kernel
theorem dX4_init_79 : decode cX4_init 79 = .ok (.bipush 100, 2) := by decide +kernel
theorem dX4_init_81 : decode cX4_init 81 = .ok (.newarray .int, 2) := by decide +kernel
theorem dX4_init_83 : decode cX4_init 83 = .ok (.putfield 32, 3) := by decide +kernel
theorem dX4_init_86 : decode cX4_init 86 = .ok (.aload_n 0, 1) := by decide +kernel
theorem dX4_init_87 : decode cX4_init 87 = .ok (.iconst 4, 1) := by decide +kernel
theorem dX4_init_88 : decode cX4_init 88 = .ok (.newarray .boolean, 2) := by decide +kernel
theorem dX4_init_90 : decode cX4_init 90 = .ok (.putfield 35, 3) := by decide +kernel
theorem dX4_init_93 : decode cX4_init 93 = .ok (.aload_n 0, 1) := by decide +kernel
theorem dX4_init_94 : decode cX4_init 94 = .ok (.iconst 4, 1) := by decide +kernel
theorem dX4_init_95 : decode cX4_init 95 = .ok (.newarray .int, 2) := by decide +kernel
theorem dX4_init_97 : decode cX4_init 97 = .ok (.putfield 39, 3) := by decide +kernel
theorem dX4_init_100 : decode cX4_init 100 = .ok (.aload_n 0, 1) := by decide +kernel
theorem dX4_init_101 : decode cX4_init 101 = .ok (.iconst 4, 1) := by decide +kernel
theorem dX4_init_102 : decode cX4_init 102 = .ok (.newarray .int, 2) := by decide +kernel
theorem dX4_init_104 : decode cX4_init 104 = .ok (.putfield 42, 3) := by decide +kernel
theorem dX4_init_107 : decode cX4_init 107 = .ok (.aload_n 0, 1) := by decide +kernel
theorem dX4_init_108 : decode cX4_init 108 = .ok (.sipush 256, 3) := by decide +kernel
theorem dX4_init_111 : decode cX4_init 111 = .ok (.newarray .int, 2) := by decide +kernel
theorem dX4_init_113 : decode cX4_init 113 = .ok (.putfield 45, 3) := by decide +kernel
theorem dX4_init_116 : decode cX4_init 116 = .ok (.aload_n 0, 1) := by decide +kernel
theorem dX4_init_117 : decode cX4_init 117 = .ok (.bipush 64, 2) := by decide +kernel
theorem dX4_init_119 : decode cX4_init 119 = .ok (.newarray .int, 2) := by decide +kernel
theorem dX4_init_121 : decode cX4_init 121 = .ok (.putfield 48, 3) := by decide +kernel
theorem dX4_init_124 : decode cX4_init 124 = .ok (.aload_n 0, 1) := by decide +kernel
theorem dX4_init_125 : decode cX4_init 125 = .ok (.bipush 64, 2) := by decide +kernel
theorem dX4_init_127 : decode cX4_init 127 = .ok (.newarray .boolean, 2) := by decide +kernel
theorem dX4_init_129 : decode cX4_init 129 = .ok (.putfield 51, 3) := by decide +kernel
theorem dX4_init_132 : decode cX4_init 132 = .ok (.aload_n 0, 1) := by decide +kernel
theorem dX4_init_133 : decode cX4_init 133 = .ok (.bipush 64, 2) := by decide +kernel
theorem dX4_init_135 : decode cX4_init 135 = .ok (.newarray .int, 2) := by decide +kernel
theorem dX4_init_137 : decode cX4_init 137 = .ok (.putfield 54, 3) := by decide +kernel
theorem dX4_init_140 : decode cX4_init 140 = .ok (.aload_n 0, 1) := by decide +kernel
theorem dX4_init_141 : decode cX4_init 141 = .ok (.bipush 6, 2) := by decide +kernel
theorem dX4_init_143 : decode cX4_init 143 = .ok (.newarray .int, 2) := by decide +kernel
theorem dX4_init_145 : decode cX4_init 145 = .ok (.putfield 57, 3) := by decide +kernel
theorem dX4_init_148 : decode cX4_init 148 = .ok (.aload_n 0, 1) := by decide +kernel
theorem dX4_init_149 : decode cX4_init 149 = .ok (.bipush 6, 2) := by decide +kernel
theorem dX4_init_151 : decode cX4_init 151 = .ok (.newarray .int, 2) := by decide +kernel
theorem dX4_init_153 : decode cX4_init 153 = .ok (.putfield 60, 3) := by decide +kernel
theorem dX4_init_156 : decode cX4_init 156 = .ok (.aload_n 0, 1) := by decide +kernel
theorem dX4_init_157 : decode cX4_init 157 = .ok (.invokevirtual 63, 3) := by decide +kernel
theorem dX4_init_160 : decode cX4_init 160 = .ok (.return_, 1) := by decide +kernel
theorem dX4_in_0 : decode cX4_in 0 = .ok (.iload_n 0, 1) := by decide +kernel
theorem dX4_in_1 : decode cX4_in 1 = .ok (.iload_n 1, 1) := by decide +kernel
theorem dX4_in_2 : decode cX4_in 2 = .ok (.if_icmp .lt 12, 3) := by decide +kernel
theorem dX4_in_5 : decode cX4_in 5 = .ok (.iload_n 0, 1) := by decide +kernel
theorem dX4_in_6 : decode cX4_in 6 = .ok (.iload_n 2, 1) := by decide +kernel
theorem dX4_in_7 : decode cX4_in 7 = .ok (.if_icmp .gt 7, 3) := by decide +kernel
theorem dX4_in_10 : decode cX4_in 10 = .ok (.iconst 1, 1) := by decide +kernel
theorem dX4_in_11 : decode cX4_in 11 = .ok (.goto 4, 3) := by decide +kernel
theorem dX4_in_14 : decode cX4_in 14 = .ok (.iconst 0, 1) := by decide +kernel
theorem dX4_in_15 : decode cX4_in 15 = .ok (.ireturn, 1) := by decide +kernel
set_option maxRecDepth 20000 in
theorem ggX4_clears_X4_plain : GoodIn wsX4_clears wsX4_plain := goodIn_r _ [6, 7, 8, 9, 10, 11, 12, 13, 14, 15, 16, 17, 18, 19, 20, 21, 22, 23, 24, 25, 26, 27, 28, 29, 30, 31, 32, 33, 34, 35] (by decide +kernel) (by decide +kernel)
set_option maxRecDepth 20000 in
theorem gX4_clears_X4_plain : GoodIn wsX4_clears (wsV RX4 66 RX4 yX4_plain wsX4_plain) := goodIn_app (goodIn_of _ (by decide +kernel)) ggX4_clears_X4_plain
theorem dX4_clears_0 : decode cX4_clears 0 = .ok (.iconst 0, 1) := by decide +kernel
theorem dX4_clears_1 : decode cX4_clears 1 = .ok (.istore_n 1, 1) := by decide +kernel
theorem dX4_clears_2 : decode cX4_clears 2 = .ok (.iload_n 1, 1) := by decide +kernel
theorem dX4_clears_3 : decode cX4_clears 3 = .ok (.bipush 64, 2) := by decide +kernel
theorem dX4_clears_5 : decode cX4_clears 5 = .ok (.if_icmp .ge 17, 3) := by decide +kernel
theorem dX4_clears_8 : decode cX4_clears 8 = .ok (.aload_n 0, 1) := by decide +kernel
theorem dX4_clears_9 : decode cX4_clears 9 = .ok (.getfield 16, 3) := by decide +kernel
theorem dX4_clears_12 : decode cX4_clears 12 = .ok (.iload_n 1, 1) := by decide +kernel
theorem dX4_clears_13 : decode cX4_clears 13 = .ok (.bipush (-4), 2) := by decide +kernel
theorem dX4_clears_15 : decode cX4_clears 15 = .ok (.iastore, 1) := by decide +kernel
theorem dX4_clears_16 : decode cX4_clears 16 = .ok (.iinc 1 1, 3) := by decide +kernel
theorem dX4_clears_19 : decode cX4_clears 19 = .ok (.goto (-17), 3) := by decide +kernel
theorem dX4_clears_22 : decode cX4_clears 22 = .ok (.aload_n 0, 1) := by decide +kernel
theorem dX4_clears_23 : decode cX4_clears 23 = .ok (.invokevirtual 66, 3) := by decide +kernel
theorem dX4_clears_26 : decode cX4_clears 26 = .ok (.return_, 1) := by decide +kernel
theorem dX4_plain_0 : decode cX4_plain 0 = .ok (.iconst 0, 1) := by decide +kernel
theorem dX4_plain_1 : decode cX4_plain 1 = .ok (.istore_n 1, 1) := by decide +kernel
theorem dX4_plain_2 : decode cX4_plain 2 = .ok (.iload_n 1, 1) := by decide +kernel
theorem dX4_plain_3 : decode cX4_plain 3 = .ok (.bipush 6, 2) := by decide +kernel
theorem dX4_plain_5 : decode cX4_plain 5 = .ok (.if_icmp .ge 23, 3) := by decide +kernel
theorem dX4_plain_8 : decode cX4_plain 8 = .ok (.aload_n 0, 1) := by decide +kernel
theorem dX4_plain_9 : decode cX4_plain 9 = .ok (.getfield 20, 3) := by decide +kernel
theorem dX4_plain_12 : decode cX4_plain 12 = .ok (.iload_n 1, 1) := by decide +kernel
theorem dX4_plain_13 : decode cX4_plain 13 = .ok (.iconst 0, 1) := by decide +kernel
theorem dX4_plain_14 : decode cX4_plain 14 = .ok (.iastore, 1) := by decide +kernel
theorem dX4_plain_15 : decode cX4_plain 15 = .ok (.aload_n 0, 1) := by decide +kernel
theorem dX4_plain_16 : decode cX4_plain 16 = .ok (.getfield 23, 3) := by decide +kernel
theorem dX4_plain_19 : decode cX4_plain 19 = .ok (.iload_n 1, 1) := by decide +kernel
theorem dX4_plain_20 : decode cX4_plain 20 = .ok (.iconst (-1), 1) := by decide +kernel
theorem dX4_plain_21 : decode cX4_plain 21 = .ok (.iastore, 1) := by decide +kernel
theorem dX4_plain_22 : decode cX4_plain 22 = .ok (.iinc 1 1, 3) := by decide +kernel
theorem dX4_plain_25 : decode cX4_plain 25 = .ok (.goto (-23), 3) := by decide +kernel
theorem dX4_plain_28 : decode cX4_plain 28 = .ok (.aload_n 0, 1) := by decide +kernel
theorem dX4_plain_29 : decode cX4_plain 29 = .ok (.iconst 0, 1) := by decide +kernel
theorem dX4_plain_30 : decode cX4_plain 30 = .ok (.putfield 69, 3) := by decide +kernel
theorem dX4_plain_33 : decode cX4_plain 33 = .ok (.return_, 1) := by decide +kernel
set_option maxRecDepth 20000 in
theorem ggX4_isLand_X4_in : GoodIn wsX4_isLand wsX4_in := goodIn_r _ [4] (by decide +kernel) (by decide +kernel)
set_option maxRecDepth 20000 in
theorem gX4_isLand_X4_in : GoodIn wsX4_isLand (va_wsS RX4 72 yX4_in wsX4_in) := goodIn_app (goodIn_of _ (by decide +kernel)) ggX4_isLand_X4_in
theorem dX4_isLand_0 : decode cX4_isLand 0 = .ok (.iload_n 0, 1) := by decide +kernel
theorem dX4_isLand_1 : decode cX4_isLand 1 = .ok (.iconst 0, 1) := by decide +kernel
theorem dX4_isLand_2 : decode cX4_isLand 2 = .ok (.iconst 5, 1) := by decide +kernel
theorem dX4_isLand_3 : decode cX4_isLand 3 = .ok (.invokestatic 72, 3) := by decide +kernel
theorem dX4_isLand_6 : decode cX4_isLand 6 = .ok (.ireturn, 1) := by decide +kernel
set_option maxRecDepth 20000 in
theorem ggX4_isOn_X4_in : GoodIn wsX4_isOn wsX4_in := goodIn_r _ [6] (by decide +kernel) (by decide +kernel)
set_option maxRecDepth 20000 in
theorem gX4_isOn_X4_in : GoodIn wsX4_isOn (va_wsS RX4 72 yX4_in wsX4_in) := goodIn_app (goodIn_of _ (by decide +kernel)) ggX4_isOn_X4_in
theorem dX4_isOn_0 : decode cX4_isOn 0 = .ok (.iload_n 1, 1) := by decide +kernel
theorem dX4_isOn_1 : decode cX4_isOn 1 = .ok (.iconst 0, 1) := by decide +kernel
theorem dX4_isOn_2 : decode cX4_isOn 2 = .ok (.aload_n 0, 1) := by decide +kernel
theorem dX4_isOn_3 : decode cX4_isOn 3 = .ok (.getfield 7, 3) := by decide +kernel
theorem dX4_isOn_6 : decode cX4_isOn 6 = .ok (.iconst 1, 1) := by decide +kernel
theorem dX4_isOn_7 : decode cX4_isOn 7 = .ok (.isub, 1) := by decide +kernel
theorem dX4_isOn_8 : decode cX4_isOn 8 = .ok (.invokestatic 72, 3) := by decide +kernel
theorem dX4_isOn_11 : decode cX4_isOn 11 = .ok (.ifCond .eq 21, 3) := by decide +kernel
theorem dX4_isOn_14 : decode cX4_isOn 14 = .ok (.iload_n 2, 1) := by decide +kernel
theorem dX4_isOn_15 : decode cX4_isOn 15 = .ok (.iconst 0, 1) := by decide +kernel
theorem dX4_isOn_16 : decode cX4_isOn 16 = .ok (.aload_n 0, 1) := by decide +kernel
theorem dX4_isOn_17 : decode cX4_isOn 17 = .ok (.getfield 13, 3) := by decide +kernel
theorem dX4_isOn_20 : decode cX4_isOn 20 = .ok (.iconst 1, 1) := by decide +kernel
theorem dX4_isOn_21 : decode cX4_isOn 21 = .ok (.isub, 1) := by decide +kernel
theorem dX4_isOn_22 : decode cX4_isOn 22 = .ok (.invokestatic 72, 3) := by decide +kernel
theorem dX4_isOn_25 : decode cX4_isOn 25 = .ok (.ifCond .eq 7, 3) := by decide +kernel
theorem dX4_isOn_28 : decode cX4_isOn 28 = .ok (.iconst 1, 1) := by decide +kernel
theorem dX4_isOn_29 : decode cX4_isOn 29 = .ok (.goto 4, 3) := by decide +kernel
theorem dX4_isOn_32 : decode cX4_isOn 32 = .ok (.iconst 0, 1) := by decide +kernel
theorem dX4_isOn_33 : decode cX4_isOn 33 = .ok (.ireturn, 1) := by decide +kernel
set_option maxRecDepth 20000 in
theorem ggX4_cellAt_X4_isOn : GoodIn wsX4_cellAt wsX4_isOn := goodIn_r _ [6, 1, 7, 8, 9, 5, 10, 11, 12, 13, 14, 15, 16, 17, 18, 19, 20, 21, 22, 23, 24, 25, 26, 27, 28, 29, 30, 31, 32, 33, 34, 35, 36] (by decide +kernel) (by decide +kernel)
set_option maxRecDepth 20000 in
theorem gX4_cellAt_X4_isOn : GoodIn wsX4_cellAt (wsV RX4 76 RX4 yX4_isOn wsX4_isOn) := goodIn_app (goodIn_of _ (by decide +kernel)) ggX4_cellAt_X4_isOn
theorem dX4_cellAt_0 : decode cX4_cellAt 0 = .ok (.aload_n 0, 1) := by decide +kernel
theorem dX4_cellAt_1 : decode cX4_cellAt 1 = .ok (.iload_n 1, 1) := by decide +kernel
theorem dX4_cellAt_2 : decode cX4_cellAt 2 = .ok (.iload_n 2, 1) := by decide +kernel
theorem dX4_cellAt_3 : decode cX4_cellAt 3 = .ok (.invokevirtual 76, 3) := by decide +kernel
theorem dX4_cellAt_6 : decode cX4_cellAt 6 = .ok (.ifCond .eq 14, 3) := by decide +kernel
theorem dX4_cellAt_9 : decode cX4_cellAt 9 = .ok (.iload_n 2, 1) := by decide +kernel
theorem dX4_cellAt_10 : decode cX4_cellAt 10 = .ok (.aload_n 0, 1) := by decide +kernel
theorem dX4_cellAt_11 : decode cX4_cellAt 11 = .ok (.getfield 7, 3) := by decide +kernel
theorem dX4_cellAt_14 : decode cX4_cellAt 14 = .ok (.imul, 1) := by decide +kernel
theorem dX4_cellAt_15 : decode cX4_cellAt 15 = .ok (.iload_n 1, 1) := by decide +kernel
theorem dX4_cellAt_16 : decode cX4_cellAt 16 = .ok (.iadd, 1) := by decide +kernel
theorem dX4_cellAt_17 : decode cX4_cellAt 17 = .ok (.goto 4, 3) := by decide +kernel
theorem dX4_cellAt_20 : decode cX4_cellAt 20 = .ok (.iconst (-1), 1) := by decide +kernel
theorem dX4_cellAt_21 : decode cX4_cellAt 21 = .ok (.ireturn, 1) := by decide +kernel
set_option maxRecDepth 20000 in
theorem ggX4_beside_X4_cellAt : GoodIn wsX4_beside wsX4_cellAt := goodIn_r _ [6, 1, 7, 8, 9, 5, 10, 11, 12, 13, 14, 15, 16, 17, 18, 19, 20, 21, 22, 23, 24, 25, 26, 27, 28, 29, 30, 31, 32, 33, 34, 35, 36, 37, 38, 39, 40] (by decide +kernel) (by decide +kernel)
set_option maxRecDepth 20000 in
theorem gX4_beside_X4_cellAt : GoodIn wsX4_beside (wsV RX4 80 RX4 yX4_cellAt wsX4_cellAt) := goodIn_app (goodIn_of _ (by decide +kernel)) ggX4_beside_X4_cellAt
theorem dX4_beside_0 : decode cX4_beside 0 = .ok (.iload_n 1, 1) := by decide +kernel
theorem dX4_beside_1 : decode cX4_beside 1 = .ok (.aload_n 0, 1) := by decide +kernel
theorem dX4_beside_2 : decode cX4_beside 2 = .ok (.getfield 7, 3) := by decide +kernel
theorem dX4_beside_5 : decode cX4_beside 5 = .ok (.irem, 1) := by decide +kernel
theorem dX4_beside_6 : decode cX4_beside 6 = .ok (.iload_n 2, 1) := by decide +kernel
theorem dX4_beside_7 : decode cX4_beside 7 = .ok (.ifCond .ne 7, 3) := by decide +kernel
theorem dX4_beside_10 : decode cX4_beside 10 = .ok (.iconst 1, 1) := by decide +kernel
theorem dX4_beside_11 : decode cX4_beside 11 = .ok (.goto 13, 3) := by decide +kernel
theorem dX4_beside_14 : decode cX4_beside 14 = .ok (.iload_n 2, 1) := by decide +kernel
theorem dX4_beside_15 : decode cX4_beside 15 = .ok (.iconst 1, 1) := by decide +kernel
theorem dX4_beside_16 : decode cX4_beside 16 = .ok (.if_icmp .ne 7, 3) := by decide +kernel
theorem dX4_beside_19 : decode cX4_beside 19 = .ok (.iconst (-1), 1) := by decide +kernel
theorem dX4_beside_20 : decode cX4_beside 20 = .ok (.goto 4, 3) := by decide +kernel
theorem dX4_beside_23 : decode cX4_beside 23 = .ok (.iconst 0, 1) := by decide +kernel
theorem dX4_beside_24 : decode cX4_beside 24 = .ok (.iadd, 1) := by decide +kernel
theorem dX4_beside_25 : decode cX4_beside 25 = .ok (.istore_n 3, 1) := by decide +kernel
theorem dX4_beside_26 : decode cX4_beside 26 = .ok (.iload_n 1, 1) := by decide +kernel
theorem dX4_beside_27 : decode cX4_beside 27 = .ok (.aload_n 0, 1) := by decide +kernel
theorem dX4_beside_28 : decode cX4_beside 28 = .ok (.getfield 7, 3) := by decide +kernel
theorem dX4_beside_31 : decode cX4_beside 31 = .ok (.idiv, 1) := by decide +kernel
theorem dX4_beside_32 : decode cX4_beside 32 = .ok (.iload_n 2, 1) := by decide +kernel
theorem dX4_beside_33 : decode cX4_beside 33 = .ok (.iconst 2, 1) := by decide +kernel
theorem dX4_beside_34 : decode cX4_beside 34 = .ok (.if_icmp .ne 7, 3) := by decide +kernel
theorem dX4_beside_37 : decode cX4_beside 37 = .ok (.iconst 1, 1) := by decide +kernel
theorem dX4_beside_38 : decode cX4_beside 38 = .ok (.goto 13, 3) := by decide +kernel
theorem dX4_beside_41 : decode cX4_beside 41 = .ok (.iload_n 2, 1) := by decide +kernel
theorem dX4_beside_42 : decode cX4_beside 42 = .ok (.iconst 3, 1) := by decide +kernel
theorem dX4_beside_43 : decode cX4_beside 43 = .ok (.if_icmp .ne 7, 3) := by decide +kernel
theorem dX4_beside_46 : decode cX4_beside 46 = .ok (.iconst (-1), 1) := by decide +kernel
theorem dX4_beside_47 : decode cX4_beside 47 = .ok (.goto 4, 3) := by decide +kernel
theorem dX4_beside_50 : decode cX4_beside 50 = .ok (.iconst 0, 1) := by decide +kernel
theorem dX4_beside_51 : decode cX4_beside 51 = .ok (.iadd, 1) := by decide +kernel
theorem dX4_beside_52 : decode cX4_beside 52 = .ok (.istore 4, 2) := by decide +kernel
theorem dX4_beside_54 : decode cX4_beside 54 = .ok (.aload_n 0, 1) := by decide +kernel
theorem dX4_beside_55 : decode cX4_beside 55 = .ok (.iload_n 3, 1) := by decide +kernel
theorem dX4_beside_56 : decode cX4_beside 56 = .ok (.iload 4, 2) := by decide +kernel
theorem dX4_beside_58 : decode cX4_beside 58 = .ok (.invokevirtual 80, 3) := by decide +kernel
theorem dX4_beside_61 : decode cX4_beside 61 = .ok (.ireturn, 1) := by decide +kernel
set_option maxRecDepth 20000 in
theorem ggX4_board_X4_in : GoodIn wsX4_board wsX4_in := goodIn_r _ [6] (by decide +kernel) (by decide +kernel)
set_option maxRecDepth 20000 in
theorem gX4_board_X4_in : GoodIn wsX4_board (va_wsS RX4 72 yX4_in wsX4_in) := goodIn_app (goodIn_of _ (by decide +kernel)) ggX4_board_X4_in
set_option maxRecDepth 20000 in
theorem ggX4_board_X4_clears : GoodIn wsX4_board wsX4_clears := goodIn_r _ [10, 11, 12, 13, 14, 5, 15, 16, 17, 18, 19, 20, 21, 22, 23, 24, 25, 26, 27, 28, 29, 30, 31, 32, 33, 34, 35, 36, 37, 38, 39, 40, 41, 42, 43, 44] (by decide +kernel) (by decide +kernel)
set_option maxRecDepth 20000 in
theorem gX4_board_X4_clears : GoodIn wsX4_board (wsV RX4 63 RX4 yX4_clears wsX4_clears) := goodIn_app (goodIn_of _ (by decide +kernel)) ggX4_board_X4_clears
theorem dX4_board_0 : decode cX4_board 0 = .ok (.iload_n 1, 1) := by decide +kernel
theorem dX4_board_1 : decode cX4_board 1 = .ok (.iconst 1, 1) := by decide +kernel
theorem dX4_board_2 : decode cX4_board 2 = .ok (.bipush 8, 2) := by decide +kernel
theorem dX4_board_4 : decode cX4_board 4 = .ok (.invokestatic 72, 3) := by decide +kernel
theorem dX4_board_7 : decode cX4_board 7 = .ok (.ifCond .eq 13, 3) := by decide +kernel
theorem dX4_board_10 : decode cX4_board 10 = .ok (.iload_n 2, 1) := by decide +kernel
theorem dX4_board_11 : decode cX4_board 11 = .ok (.iconst 1, 1) := by decide +kernel
theorem dX4_board_12 : decode cX4_board 12 = .ok (.bipush 8, 2) := by decide +kernel
theorem dX4_board_14 : decode cX4_board 14 = .ok (.invokestatic 72, 3) := by decide +kernel
theorem dX4_board_17 : decode cX4_board 17 = .ok (.ifCond .ne 5, 3) := by decide +kernel
theorem dX4_board_20 : decode cX4_board 20 = .ok (.iconst (-1), 1) := by decide +kernel
theorem dX4_board_21 : decode cX4_board 21 = .ok (.ireturn, 1) := by decide +kernel
theorem dX4_board_22 : decode cX4_board 22 = .ok (.aload_n 0, 1) := by decide +kernel
theorem dX4_board_23 : decode cX4_board 23 = .ok (.iload_n 1, 1) := by decide +kernel
theorem dX4_board_24 : decode cX4_board 24 = .ok (.putfield 7, 3) := by decide +kernel
theorem dX4_board_27 : decode cX4_board 27 = .ok (.aload_n 0, 1) := by decide +kernel
theorem dX4_board_28 : decode cX4_board 28 = .ok (.iload_n 2, 1) := by decide +kernel
theorem dX4_board_29 : decode cX4_board 29 = .ok (.putfield 13, 3) := by decide +kernel
theorem dX4_board_32 : decode cX4_board 32 = .ok (.aload_n 0, 1) := by decide +kernel
theorem dX4_board_33 : decode cX4_board 33 = .ok (.invokevirtual 63, 3) := by decide +kernel
theorem dX4_board_36 : decode cX4_board 36 = .ok (.aload_n 0, 1) := by decide +kernel
theorem dX4_board_37 : decode cX4_board 37 = .ok (.getfield 7, 3) := by decide +kernel
theorem dX4_board_40 : decode cX4_board 40 = .ok (.aload_n 0, 1) := by decide +kernel
theorem dX4_board_41 : decode cX4_board 41 = .ok (.getfield 13, 3) := by decide +kernel
theorem dX4_board_44 : decode cX4_board 44 = .ok (.imul, 1) := by decide +kernel
theorem dX4_board_45 : decode cX4_board 45 = .ok (.ireturn, 1) := by decide +kernel
set_option maxRecDepth 20000 in
theorem ggX4_set_X4_cellAt : GoodIn wsX4_set wsX4_cellAt := goodIn_r _ [7, 8, 9, 10, 11, 6, 12, 13, 14, 15, 16, 20, 21, 22, 23, 24, 25, 26, 27, 28, 29, 30, 31, 32, 33, 34, 35, 36, 37, 38, 39, 40, 41, 42, 43, 44, 45] (by decide +kernel) (by decide +kernel)
set_option maxRecDepth 20000 in
theorem gX4_set_X4_cellAt : GoodIn wsX4_set (wsV RX4 80 RX4 yX4_cellAt wsX4_cellAt) := goodIn_app (goodIn_of _ (by decide +kernel)) ggX4_set_X4_cellAt
set_option maxRecDepth 20000 in
theorem ggX4_set_X4_isLand : GoodIn wsX4_set wsX4_isLand := goodIn_r _ [19, 14, 15, 6, 16] (by decide +kernel) (by decide +kernel)
set_option maxRecDepth 20000 in
theorem gX4_set_X4_isLand : GoodIn wsX4_set (va_wsS RX4 84 yX4_isLand wsX4_isLand) := goodIn_app (goodIn_of _ (by decide +kernel)) ggX4_set_X4_isLand
theorem dX4_set_0 : decode cX4_set 0 = .ok (.aload_n 0, 1) := by decide +kernel
theorem dX4_set_1 : decode cX4_set 1 = .ok (.iload_n 1, 1) := by decide +kernel
theorem dX4_set_2 : decode cX4_set 2 = .ok (.iload_n 2, 1) := by decide +kernel
theorem dX4_set_3 : decode cX4_set 3 = .ok (.invokevirtual 80, 3) := by decide +kernel
theorem dX4_set_6 : decode cX4_set 6 = .ok (.istore 4, 2) := by decide +kernel
theorem dX4_set_8 : decode cX4_set 8 = .ok (.iload 4, 2) := by decide +kernel
theorem dX4_set_10 : decode cX4_set 10 = .ok (.ifCond .lt 16, 3) := by decide +kernel
theorem dX4_set_13 : decode cX4_set 13 = .ok (.iload_n 3, 1) := by decide +kernel
theorem dX4_set_14 : decode cX4_set 14 = .ok (.bipush (-4), 2) := by decide +kernel
theorem dX4_set_16 : decode cX4_set 16 = .ok (.if_icmp .eq 12, 3) := by decide +kernel
theorem dX4_set_19 : decode cX4_set 19 = .ok (.iload_n 3, 1) := by decide +kernel
theorem dX4_set_20 : decode cX4_set 20 = .ok (.invokestatic 84, 3) := by decide +kernel
theorem dX4_set_23 : decode cX4_set 23 = .ok (.ifCond .ne 5, 3) := by decide +kernel
theorem dX4_set_26 : decode cX4_set 26 = .ok (.iconst (-1), 1) := by decide +kernel
theorem dX4_set_27 : decode cX4_set 27 = .ok (.ireturn, 1) := by decide +kernel
theorem dX4_set_28 : decode cX4_set 28 = .ok (.aload_n 0, 1) := by decide +kernel
theorem dX4_set_29 : decode cX4_set 29 = .ok (.getfield 16, 3) := by decide +kernel
theorem dX4_set_32 : decode cX4_set 32 = .ok (.iload 4, 2) := by decide +kernel
theorem dX4_set_34 : decode cX4_set 34 = .ok (.iaload, 1) := by decide +kernel
theorem dX4_set_35 : decode cX4_set 35 = .ok (.istore 5, 2) := by decide +kernel
theorem dX4_set_37 : decode cX4_set 37 = .ok (.aload_n 0, 1) := by decide +kernel
theorem dX4_set_38 : decode cX4_set 38 = .ok (.getfield 16, 3) := by decide +kernel
theorem dX4_set_41 : decode cX4_set 41 = .ok (.iload 4, 2) := by decide +kernel
theorem dX4_set_43 : decode cX4_set 43 = .ok (.iload_n 3, 1) := by decide +kernel
theorem dX4_set_44 : decode cX4_set 44 = .ok (.iastore, 1) := by decide +kernel
theorem dX4_set_45 : decode cX4_set 45 = .ok (.aload_n 0, 1) := by decide +kernel
theorem dX4_set_46 : decode cX4_set 46 = .ok (.iconst 0, 1) := by decide +kernel
theorem dX4_set_47 : decode cX4_set 47 = .ok (.putfield 69, 3) := by decide +kernel
theorem dX4_set_50 : decode cX4_set 50 = .ok (.iload 5, 2) := by decide +kernel
theorem dX4_set_52 : decode cX4_set 52 = .ok (.ireturn, 1) := by decide +kernel
set_option maxRecDepth 20000 in
theorem ggX4_at_X4_cellAt : GoodIn wsX4_at wsX4_cellAt := goodIn_r _ [6, 7, 8, 9, 10, 5, 11, 12, 13, 14, 15, 16, 17, 18, 19, 20, 21, 22, 23, 24, 25, 26, 27, 28, 29, 30, 31, 32, 33, 34, 35, 36, 37, 38, 39, 40, 41] (by decide +kernel) (by decide +kernel)
set_option maxRecDepth 20000 in
theorem gX4_at_X4_cellAt : GoodIn wsX4_at (wsV RX4 80 RX4 yX4_cellAt wsX4_cellAt) := goodIn_app (goodIn_of _ (by decide +kernel)) ggX4_at_X4_cellAt
theorem dX4_at_0 : decode cX4_at 0 = .ok (.aload_n 0, 1) := by decide +kernel
theorem dX4_at_1 : decode cX4_at 1 = .ok (.iload_n 1, 1) := by decide +kernel
theorem dX4_at_2 : decode cX4_at 2 = .ok (.iload_n 2, 1) := by decide +kernel
theorem dX4_at_3 : decode cX4_at 3 = .ok (.invokevirtual 80, 3) := by decide +kernel
theorem dX4_at_6 : decode cX4_at 6 = .ok (.istore_n 3, 1) := by decide +kernel
theorem dX4_at_7 : decode cX4_at 7 = .ok (.iload_n 3, 1) := by decide +kernel
theorem dX4_at_8 : decode cX4_at 8 = .ok (.ifCond .ge 7, 3) := by decide +kernel
theorem dX4_at_11 : decode cX4_at 11 = .ok (.iconst (-1), 1) := by decide +kernel
theorem dX4_at_12 : decode cX4_at 12 = .ok (.goto 9, 3) := by decide +kernel
theorem dX4_at_15 : decode cX4_at 15 = .ok (.aload_n 0, 1) := by decide +kernel
theorem dX4_at_16 : decode cX4_at 16 = .ok (.getfield 16, 3) := by decide +kernel
theorem dX4_at_19 : decode cX4_at 19 = .ok (.iload_n 3, 1) := by decide +kernel
theorem dX4_at_20 : decode cX4_at 20 = .ok (.iaload, 1) := by decide +kernel
theorem dX4_at_21 : decode cX4_at 21 = .ok (.ireturn, 1) := by decide +kernel
theorem dX4_sizeOf_0 : decode cX4_sizeOf 0 = .ok (.iconst 0, 1) := by decide +kernel
theorem dX4_sizeOf_1 : decode cX4_sizeOf 1 = .ok (.istore_n 2, 1) := by decide +kernel
theorem dX4_sizeOf_2 : decode cX4_sizeOf 2 = .ok (.iconst 0, 1) := by decide +kernel
theorem dX4_sizeOf_3 : decode cX4_sizeOf 3 = .ok (.istore_n 3, 1) := by decide +kernel
theorem dX4_sizeOf_4 : decode cX4_sizeOf 4 = .ok (.iload_n 3, 1) := by decide +kernel
theorem dX4_sizeOf_5 : decode cX4_sizeOf 5 = .ok (.aload_n 0, 1) := by decide +kernel
theorem dX4_sizeOf_6 : decode cX4_sizeOf 6 = .ok (.getfield 7, 3) := by decide +kernel
theorem dX4_sizeOf_9 : decode cX4_sizeOf 9 = .ok (.aload_n 0, 1) := by decide +kernel
theorem dX4_sizeOf_10 : decode cX4_sizeOf 10 = .ok (.getfield 13, 3) := by decide +kernel
theorem dX4_sizeOf_13 : decode cX4_sizeOf 13 = .ok (.imul, 1) := by decide +kernel
theorem dX4_sizeOf_14 : decode cX4_sizeOf 14 = .ok (.if_icmp .ge 27, 3) := by decide +kernel
theorem dX4_sizeOf_17 : decode cX4_sizeOf 17 = .ok (.iload_n 2, 1) := by decide +kernel
theorem dX4_sizeOf_18 : decode cX4_sizeOf 18 = .ok (.aload_n 0, 1) := by decide +kernel
theorem dX4_sizeOf_19 : decode cX4_sizeOf 19 = .ok (.getfield 16, 3) := by decide +kernel
theorem dX4_sizeOf_22 : decode cX4_sizeOf 22 = .ok (.iload_n 3, 1) := by decide +kernel
theorem dX4_sizeOf_23 : decode cX4_sizeOf 23 = .ok (.iaload, 1) := by decide +kernel
theorem dX4_sizeOf_24 : decode cX4_sizeOf 24 = .ok (.iload_n 1, 1) := by decide +kernel
theorem dX4_sizeOf_25 : decode cX4_sizeOf 25 = .ok (.if_icmp .ne 7, 3) := by decide +kernel
theorem dX4_sizeOf_28 : decode cX4_sizeOf 28 = .ok (.iconst 1, 1) := by decide +kernel
theorem dX4_sizeOf_29 : decode cX4_sizeOf 29 = .ok (.goto 4, 3) := by decide +kernel
theorem dX4_sizeOf_32 : decode cX4_sizeOf 32 = .ok (.iconst 0, 1) := by decide +kernel
theorem dX4_sizeOf_33 : decode cX4_sizeOf 33 = .ok (.iadd, 1) := by decide +kernel
theorem dX4_sizeOf_34 : decode cX4_sizeOf 34 = .ok (.istore_n 2, 1) := by decide +kernel
theorem dX4_sizeOf_35 : decode cX4_sizeOf 35 = .ok (.iinc 3 1, 3) := by decide +kernel
theorem dX4_sizeOf_38 : decode cX4_sizeOf 38 = .ok (.goto (-34), 3) := by decide +kernel
theorem dX4_sizeOf_41 : decode cX4_sizeOf 41 = .ok (.iload_n 2, 1) := by decide +kernel
theorem dX4_sizeOf_42 : decode cX4_sizeOf 42 = .ok (.ireturn, 1) := by decide +kernel
set_option maxRecDepth 20000 in
theorem ggX4_size_X4_isLand : GoodIn wsX4_size wsX4_isLand := goodIn_r _ [4, 5, 6, 3, 7] (by decide +kernel) (by decide +kernel)
set_option maxRecDepth 20000 in
theorem gX4_size_X4_isLand : GoodIn wsX4_size (va_wsS RX4 84 yX4_isLand wsX4_isLand) := goodIn_app (goodIn_of _ (by decide +kernel)) ggX4_size_X4_isLand
set_option maxRecDepth 20000 in
theorem ggX4_size_X4_sizeOf : GoodIn wsX4_size wsX4_sizeOf := goodIn_r _ [11, 12, 13, 14, 15, 16, 17, 18, 19, 20, 21, 22, 23, 24, 25, 26, 27, 28, 29, 30, 31, 32, 33, 34, 35, 36, 37, 38, 39, 40] (by decide +kernel) (by decide +kernel)
set_option maxRecDepth 20000 in
theorem gX4_size_X4_sizeOf : GoodIn wsX4_size (wsV RX4 88 RX4 yX4_sizeOf wsX4_sizeOf) := goodIn_app (goodIn_of _ (by decide +kernel)) ggX4_size_X4_sizeOf
theorem dX4_size_0 : decode cX4_size 0 = .ok (.iload_n 1, 1) := by decide +kernel
theorem dX4_size_1 : decode cX4_size 1 = .ok (.invokestatic 84, 3) := by decide +kernel
theorem dX4_size_4 : decode cX4_size 4 = .ok (.ifCond .eq 11, 3) := by decide +kernel
theorem dX4_size_7 : decode cX4_size 7 = .ok (.aload_n 0, 1) := by decide +kernel
theorem dX4_size_8 : decode cX4_size 8 = .ok (.iload_n 1, 1) := by decide +kernel
theorem dX4_size_9 : decode cX4_size 9 = .ok (.invokevirtual 88, 3) := by decide +kernel
theorem dX4_size_12 : decode cX4_size 12 = .ok (.goto 4, 3) := by decide +kernel
theorem dX4_size_15 : decode cX4_size 15 = .ok (.iconst (-1), 1) := by decide +kernel
theorem dX4_size_16 : decode cX4_size 16 = .ok (.ireturn, 1) := by decide +kernel
set_option maxRecDepth 20000 in
theorem ggX4_isWhole_X4_beside : GoodIn wsX4_isWhole wsX4_beside := goodIn_r _ [10, 1, 11, 12, 13, 9, 14, 15, 16, 17, 18, 2, 19, 20, 21, 26, 27, 28, 29, 30, 31, 32, 33, 34, 35, 36, 37, 38, 39, 40, 41, 42, 43, 44, 45, 46, 47, 48, 49, 50, 51] (by decide +kernel) (by decide +kernel)
set_option maxRecDepth 20000 in
theorem gX4_isWhole_X4_beside : GoodIn wsX4_isWhole (wsV RX4 92 RX4 yX4_beside wsX4_beside) := goodIn_app (goodIn_of _ (by decide +kernel)) ggX4_isWhole_X4_beside
set_option maxRecDepth 20000 in
theorem ggX4_isWhole_X4_sizeOf : GoodIn wsX4_isWhole wsX4_sizeOf := goodIn_r _ [25, 1, 2, 3, 26, 27, 28, 29, 30, 31, 32, 33, 34, 35, 36, 37, 38, 39, 40, 41, 42, 43, 44, 45, 46, 47, 48, 49, 50, 51] (by decide +kernel) (by decide +kernel)
set_option maxRecDepth 20000 in
theorem gX4_isWhole_X4_sizeOf : GoodIn wsX4_isWhole (wsV RX4 88 RX4 yX4_sizeOf wsX4_sizeOf) := goodIn_app (goodIn_of _ (by decide +kernel)) ggX4_isWhole_X4_sizeOf
theorem dX4_isWhole_0 : decode cX4_isWhole 0 = .ok (.iconst 0, 1) := by decide +kernel
theorem dX4_isWhole_1 : decode cX4_isWhole 1 = .ok (.istore_n 2, 1) := by decide +kernel
theorem dX4_isWhole_2 : decode cX4_isWhole 2 = .ok (.iload_n 2, 1) := by decide +kernel
theorem dX4_isWhole_3 : decode cX4_isWhole 3 = .ok (.aload_n 0, 1) := by decide +kernel
theorem dX4_isWhole_4 : decode cX4_isWhole 4 = .ok (.getfield 7, 3) := by decide +kernel
theorem dX4_isWhole_7 : decode cX4_isWhole 7 = .ok (.aload_n 0, 1) := by decide +kernel
theorem dX4_isWhole_8 : decode cX4_isWhole 8 = .ok (.getfield 13, 3) := by decide +kernel
theorem dX4_isWhole_11 : decode cX4_isWhole 11 = .ok (.imul, 1) := by decide +kernel
theorem dX4_isWhole_12 : decode cX4_isWhole 12 = .ok (.if_icmp .ge 19, 3) := by decide +kernel
theorem dX4_isWhole_15 : decode cX4_isWhole 15 = .ok (.aload_n 0, 1) := by decide +kernel
theorem dX4_isWhole_16 : decode cX4_isWhole 16 = .ok (.getfield 16, 3) := by decide +kernel
theorem dX4_isWhole_19 : decode cX4_isWhole 19 = .ok (.iload_n 2, 1) := by decide +kernel
theorem dX4_isWhole_20 : decode cX4_isWhole 20 = .ok (.iaload, 1) := by decide +kernel
theorem dX4_isWhole_21 : decode cX4_isWhole 21 = .ok (.iload_n 1, 1) := by decide +kernel
theorem dX4_isWhole_22 : decode cX4_isWhole 22 = .ok (.if_icmp .eq 9, 3) := by decide +kernel
theorem dX4_isWhole_25 : decode cX4_isWhole 25 = .ok (.iinc 2 1, 3) := by decide +kernel
theorem dX4_isWhole_28 : decode cX4_isWhole 28 = .ok (.goto (-26), 3) := by decide +kernel
theorem dX4_isWhole_31 : decode cX4_isWhole 31 = .ok (.iload_n 2, 1) := by decide +kernel
theorem dX4_isWhole_32 : decode cX4_isWhole 32 = .ok (.aload_n 0, 1) := by decide +kernel
theorem dX4_isWhole_33 : decode cX4_isWhole 33 = .ok (.getfield 7, 3) := by decide +kernel
theorem dX4_isWhole_36 : decode cX4_isWhole 36 = .ok (.aload_n 0, 1) := by decide +kernel
theorem dX4_isWhole_37 : decode cX4_isWhole 37 = .ok (.getfield 13, 3) := by decide +kernel
theorem dX4_isWhole_40 : decode cX4_isWhole 40 = .ok (.imul, 1) := by decide +kernel
theorem dX4_isWhole_41 : decode cX4_isWhole 41 = .ok (.if_icmp .ne 5, 3) := by decide +kernel
theorem dX4_isWhole_44 : decode cX4_isWhole 44 = .ok (.iconst 0, 1) := by decide +kernel
theorem dX4_isWhole_45 : decode cX4_isWhole 45 = .ok (.ireturn, 1) := by decide +kernel
theorem dX4_isWhole_46 : decode cX4_isWhole 46 = .ok (.iconst 0, 1) := by decide +kernel
theorem dX4_isWhole_47 : decode cX4_isWhole 47 = .ok (.istore_n 3, 1) := by decide +kernel
theorem dX4_isWhole_48 : decode cX4_isWhole 48 = .ok (.iload_n 3, 1) := by decide +kernel
theorem dX4_isWhole_49 : decode cX4_isWhole 49 = .ok (.bipush 64, 2) := by decide +kernel
theorem dX4_isWhole_51 : decode cX4_isWhole 51 = .ok (.if_icmp .ge 16, 3) := by decide +kernel
theorem dX4_isWhole_54 : decode cX4_isWhole 54 = .ok (.aload_n 0, 1) := by decide +kernel
theorem dX4_isWhole_55 : decode cX4_isWhole 55 = .ok (.getfield 51, 3) := by decide +kernel
theorem dX4_isWhole_58 : decode cX4_isWhole 58 = .ok (.iload_n 3, 1) := by decide +kernel
theorem dX4_isWhole_59 : decode cX4_isWhole 59 = .ok (.iconst 0, 1) := by decide +kernel
theorem dX4_isWhole_60 : decode cX4_isWhole 60 = .ok (.bastore, 1) := by decide +kernel
theorem dX4_isWhole_61 : decode cX4_isWhole 61 = .ok (.iinc 3 1, 3) := by decide +kernel
theorem dX4_isWhole_64 : decode cX4_isWhole 64 = .ok (.goto (-16), 3) := by decide +kernel
theorem dX4_isWhole_67 : decode cX4_isWhole 67 = .ok (.aload_n 0, 1) := by decide +kernel
theorem dX4_isWhole_68 : decode cX4_isWhole 68 = .ok (.getfield 51, 3) := by decide +kernel
theorem dX4_isWhole_71 : decode cX4_isWhole 71 = .ok (.iload_n 2, 1) := by decide +kernel
theorem dX4_isWhole_72 : decode cX4_isWhole 72 = .ok (.iconst 1, 1) := by decide +kernel
theorem dX4_isWhole_73 : decode cX4_isWhole 73 = .ok (.bastore, 1) := by decide +kernel
theorem dX4_isWhole_74 : decode cX4_isWhole 74 = .ok (.aload_n 0, 1) := by decide +kernel
theorem dX4_isWhole_75 : decode cX4_isWhole 75 = .ok (.getfield 48, 3) := by decide +kernel
theorem dX4_isWhole_78 : decode cX4_isWhole 78 = .ok (.iconst 0, 1) := by decide +kernel
theorem dX4_isWhole_79 : decode cX4_isWhole 79 = .ok (.iload_n 2, 1) := by decide +kernel
theorem dX4_isWhole_80 : decode cX4_isWhole 80 = .ok (.iastore, 1) := by decide +kernel
theorem dX4_isWhole_81 : decode cX4_isWhole 81 = .ok (.iconst 1, 1) := by decide +kernel
theorem dX4_isWhole_82 : decode cX4_isWhole 82 = .ok (.istore_n 3, 1) := by decide +kernel
theorem dX4_isWhole_83 : decode cX4_isWhole 83 = .ok (.iconst 1, 1) := by decide +kernel
theorem dX4_isWhole_84 : decode cX4_isWhole 84 = .ok (.istore 4, 2) := by decide +kernel
theorem dX4_isWhole_86 : decode cX4_isWhole 86 = .ok (.iload_n 3, 1) := by decide +kernel
theorem dX4_isWhole_87 : decode cX4_isWhole 87 = .ok (.ifCond .le 90, 3) := by decide +kernel
theorem dX4_isWhole_90 : decode cX4_isWhole 90 = .ok (.iinc 3 (-1), 3) := by decide +kernel
theorem dX4_isWhole_93 : decode cX4_isWhole 93 = .ok (.aload_n 0, 1) := by decide +kernel
theorem dX4_isWhole_94 : decode cX4_isWhole 94 = .ok (.getfield 48, 3) := by decide +kernel
theorem dX4_isWhole_97 : decode cX4_isWhole 97 = .ok (.iload_n 3, 1) := by decide +kernel
theorem dX4_isWhole_98 : decode cX4_isWhole 98 = .ok (.iaload, 1) := by decide +kernel
theorem dX4_isWhole_99 : decode cX4_isWhole 99 = .ok (.istore 5, 2) := by decide +kernel
theorem dX4_isWhole_101 : decode cX4_isWhole 101 = .ok (.iconst 0, 1) := by decide +kernel
theorem dX4_isWhole_102 : decode cX4_isWhole 102 = .ok (.istore 6, 2) := by decide +kernel
theorem dX4_isWhole_104 : decode cX4_isWhole 104 = .ok (.iload 6, 2) := by decide +kernel
theorem dX4_isWhole_106 : decode cX4_isWhole 106 = .ok (.iconst 4, 1) := by decide +kernel
theorem dX4_isWhole_107 : decode cX4_isWhole 107 = .ok (.if_icmp .ge 67, 3) := by decide +kernel
theorem dX4_isWhole_110 : decode cX4_isWhole 110 = .ok (.aload_n 0, 1) := by decide +kernel
theorem dX4_isWhole_111 : decode cX4_isWhole 111 = .ok (.iload 5, 2) := by decide +kernel
theorem dX4_isWhole_113 : decode cX4_isWhole 113 = .ok (.iload 6, 2) := by decide +kernel
theorem dX4_isWhole_115 : decode cX4_isWhole 115 = .ok (.invokevirtual 92, 3) := by decide +kernel
theorem dX4_isWhole_118 : decode cX4_isWhole 118 = .ok (.istore 7, 2) := by decide +kernel
theorem dX4_isWhole_120 : decode cX4_isWhole 120 = .ok (.iload 7, 2) := by decide +kernel
theorem dX4_isWhole_122 : decode cX4_isWhole 122 = .ok (.ifCond .lt 46, 3) := by decide +kernel
theorem dX4_isWhole_125 : decode cX4_isWhole 125 = .ok (.aload_n 0, 1) := by decide +kernel
theorem dX4_isWhole_126 : decode cX4_isWhole 126 = .ok (.getfield 16, 3) := by decide +kernel
theorem dX4_isWhole_129 : decode cX4_isWhole 129 = .ok (.iload 7, 2) := by decide +kernel
theorem dX4_isWhole_131 : decode cX4_isWhole 131 = .ok (.iaload, 1) := by decide +kernel
theorem dX4_isWhole_132 : decode cX4_isWhole 132 = .ok (.iload_n 1, 1) := by decide +kernel
theorem dX4_isWhole_133 : decode cX4_isWhole 133 = .ok (.if_icmp .ne 35, 3) := by decide +kernel
theorem dX4_isWhole_136 : decode cX4_isWhole 136 = .ok (.aload_n 0, 1) := by decide +kernel
theorem dX4_isWhole_137 : decode cX4_isWhole 137 = .ok (.getfield 51, 3) := by decide +kernel
theorem dX4_isWhole_140 : decode cX4_isWhole 140 = .ok (.iload 7, 2) := by decide +kernel
theorem dX4_isWhole_142 : decode cX4_isWhole 142 = .ok (.baload, 1) := by decide +kernel
theorem dX4_isWhole_143 : decode cX4_isWhole 143 = .ok (.ifCond .ne 25, 3) := by decide +kernel
theorem dX4_isWhole_146 : decode cX4_isWhole 146 = .ok (.aload_n 0, 1) := by decide +kernel
theorem dX4_isWhole_147 : decode cX4_isWhole 147 = .ok (.getfield 51, 3) := by decide +kernel
theorem dX4_isWhole_150 : decode cX4_isWhole 150 = .ok (.iload 7, 2) := by decide +kernel
theorem dX4_isWhole_152 : decode cX4_isWhole 152 = .ok (.iconst 1, 1) := by decide +kernel
theorem dX4_isWhole_153 : decode cX4_isWhole 153 = .ok (.bastore, 1) := by decide +kernel
theorem dX4_isWhole_154 : decode cX4_isWhole 154 = .ok (.aload_n 0, 1) := by decide +kernel
theorem dX4_isWhole_155 : decode cX4_isWhole 155 = .ok (.getfield 48, 3) := by decide +kernel
theorem dX4_isWhole_158 : decode cX4_isWhole 158 = .ok (.iload_n 3, 1) := by decide +kernel
theorem dX4_isWhole_159 : decode cX4_isWhole 159 = .ok (.iload 7, 2) := by decide +kernel
theorem dX4_isWhole_161 : decode cX4_isWhole 161 = .ok (.iastore, 1) := by decide +kernel
theorem dX4_isWhole_162 : decode cX4_isWhole 162 = .ok (.iinc 3 1, 3) := by decide +kernel
theorem dX4_isWhole_165 : decode cX4_isWhole 165 = .ok (.iinc 4 1, 3) := by decide +kernel
theorem dX4_isWhole_168 : decode cX4_isWhole 168 = .ok (.iinc 6 1, 3) := by decide +kernel
theorem dX4_isWhole_171 : decode cX4_isWhole 171 = .ok (.goto (-67), 3) := by decide +kernel
theorem dX4_isWhole_174 : decode cX4_isWhole 174 = .ok (.goto (-88), 3) := by decide +kernel
theorem dX4_isWhole_177 : decode cX4_isWhole 177 = .ok (.iload 4, 2) := by decide +kernel
theorem dX4_isWhole_179 : decode cX4_isWhole 179 = .ok (.aload_n 0, 1) := by decide +kernel
theorem dX4_isWhole_180 : decode cX4_isWhole 180 = .ok (.iload_n 1, 1) := by decide +kernel
theorem dX4_isWhole_181 : decode cX4_isWhole 181 = .ok (.invokevirtual 88, 3) := by decide +kernel
theorem dX4_isWhole_184 : decode cX4_isWhole 184 = .ok (.if_icmp .ne 7, 3) := by decide +kernel
theorem dX4_isWhole_187 : decode cX4_isWhole 187 = .ok (.iconst 1, 1) := by decide +kernel
theorem dX4_isWhole_188 : decode cX4_isWhole 188 = .ok (.goto 4, 3) := by decide +kernel
theorem dX4_isWhole_191 : decode cX4_isWhole 191 = .ok (.iconst 0, 1) := by decide +kernel
theorem dX4_isWhole_192 : decode cX4_isWhole 192 = .ok (.ireturn, 1) := by decide +kernel
set_option maxRecDepth 20000 in
theorem ggX4_whole_X4_isLand : GoodIn wsX4_whole wsX4_isLand := goodIn_r _ [4, 5, 6, 3, 7] (by decide +kernel) (by decide +kernel)
set_option maxRecDepth 20000 in
theorem gX4_whole_X4_isLand : GoodIn wsX4_whole (va_wsS RX4 84 yX4_isLand wsX4_isLand) := goodIn_app (goodIn_of _ (by decide +kernel)) ggX4_whole_X4_isLand
set_option maxRecDepth 20000 in
theorem ggX4_whole_X4_isWhole : GoodIn wsX4_whole wsX4_isWhole := goodIn_r _ [11, 12, 13, 14, 15, 16, 17, 18, 19, 3, 20, 21, 22, 23, 24, 25, 26, 27, 28, 5, 6, 7, 29, 30, 31, 32, 33, 34, 35, 36, 37, 38, 39, 40, 41, 42, 43, 44, 45, 46, 47, 48, 49, 50, 51, 52, 53, 54, 55, 56, 57, 58] (by decide +kernel) (by decide +kernel)
set_option maxRecDepth 20000 in
theorem gX4_whole_X4_isWhole : GoodIn wsX4_whole (wsV RX4 95 RX4 yX4_isWhole wsX4_isWhole) := goodIn_app (goodIn_of _ (by decide +kernel)) ggX4_whole_X4_isWhole
theorem dX4_whole_0 : decode cX4_whole 0 = .ok (.iload_n 1, 1) := by decide +kernel
theorem dX4_whole_1 : decode cX4_whole 1 = .ok (.invokestatic 84, 3) := by decide +kernel
theorem dX4_whole_4 : decode cX4_whole 4 = .ok (.ifCond .ne 7, 3) := by decide +kernel
theorem dX4_whole_7 : decode cX4_whole 7 = .ok (.iconst (-1), 1) := by decide +kernel
theorem dX4_whole_8 : decode cX4_whole 8 = .ok (.goto 16, 3) := by decide +kernel
theorem dX4_whole_11 : decode cX4_whole 11 = .ok (.aload_n 0, 1) := by decide +kernel
theorem dX4_whole_12 : decode cX4_whole 12 = .ok (.iload_n 1, 1) := by decide +kernel
theorem dX4_whole_13 : decode cX4_whole 13 = .ok (.invokevirtual 95, 3) := by decide +kernel
theorem dX4_whole_16 : decode cX4_whole 16 = .ok (.ifCond .eq 7, 3) := by decide +kernel
theorem dX4_whole_19 : decode cX4_whole 19 = .ok (.iconst 1, 1) := by decide +kernel
theorem dX4_whole_20 : decode cX4_whole 20 = .ok (.goto 4, 3) := by decide +kernel
theorem dX4_whole_23 : decode cX4_whole 23 = .ok (.iconst 0, 1) := by decide +kernel
theorem dX4_whole_24 : decode cX4_whole 24 = .ok (.ireturn, 1) := by decide +kernel
theorem dX4_numberOf_0 : decode cX4_numberOf 0 = .ok (.iload_n 0, 1) := by decide +kernel
theorem dX4_numberOf_1 : decode cX4_numberOf 1 = .ok (.bipush (-4), 2) := by decide +kernel
theorem dX4_numberOf_3 : decode cX4_numberOf 3 = .ok (.if_icmp .ne 8, 3) := by decide +kernel
theorem dX4_numberOf_6 : decode cX4_numberOf 6 = .ok (.bipush 6, 2) := by decide +kernel
theorem dX4_numberOf_8 : decode cX4_numberOf 8 = .ok (.goto 4, 3) := by decide +kernel
theorem dX4_numberOf_11 : decode cX4_numberOf 11 = .ok (.iload_n 0, 1) := by decide +kernel
theorem dX4_numberOf_12 : decode cX4_numberOf 12 = .ok (.ireturn, 1) := by decide +kernel
set_option maxRecDepth 20000 in
theorem ggX4_touches_X4_beside : GoodIn wsX4_touches wsX4_beside := goodIn_r _ [8, 1, 9, 10, 11, 7, 12, 13, 14, 15, 16, 2, 17, 18, 19, 23, 24, 25, 26, 27, 28, 29, 30, 31, 32, 33, 34, 35, 36, 37, 38, 39, 40, 41, 42, 43, 44, 45, 46, 47, 48] (by decide +kernel) (by decide +kernel)
set_option maxRecDepth 20000 in
theorem gX4_touches_X4_beside : GoodIn wsX4_touches (wsV RX4 92 RX4 yX4_beside wsX4_beside) := goodIn_app (goodIn_of _ (by decide +kernel)) ggX4_touches_X4_beside
set_option maxRecDepth 20000 in
theorem ggX4_touches_X4_numberOf : GoodIn wsX4_touches wsX4_numberOf := goodIn_r _ [22] (by decide +kernel) (by decide +kernel)
set_option maxRecDepth 20000 in
theorem gX4_touches_X4_numberOf : GoodIn wsX4_touches (va_wsS RX4 98 yX4_numberOf wsX4_numberOf) := goodIn_app (goodIn_of _ (by decide +kernel)) ggX4_touches_X4_numberOf
theorem dX4_touches_0 : decode cX4_touches 0 = .ok (.lconst 0, 1) := by decide +kernel
theorem dX4_touches_1 : decode cX4_touches 1 = .ok (.lstore_n 1, 1) := by decide +kernel
theorem dX4_touches_2 : decode cX4_touches 2 = .ok (.iconst 0, 1) := by decide +kernel
theorem dX4_touches_3 : decode cX4_touches 3 = .ok (.istore_n 3, 1) := by decide +kernel
theorem dX4_touches_4 : decode cX4_touches 4 = .ok (.iload_n 3, 1) := by decide +kernel
theorem dX4_touches_5 : decode cX4_touches 5 = .ok (.aload_n 0, 1) := by decide +kernel
theorem dX4_touches_6 : decode cX4_touches 6 = .ok (.getfield 7, 3) := by decide +kernel
theorem dX4_touches_9 : decode cX4_touches 9 = .ok (.aload_n 0, 1) := by decide +kernel
theorem dX4_touches_10 : decode cX4_touches 10 = .ok (.getfield 13, 3) := by decide +kernel
theorem dX4_touches_13 : decode cX4_touches 13 = .ok (.imul, 1) := by decide +kernel
theorem dX4_touches_14 : decode cX4_touches 14 = .ok (.if_icmp .ge 99, 3) := by decide +kernel
theorem dX4_touches_17 : decode cX4_touches 17 = .ok (.iconst 0, 1) := by decide +kernel
theorem dX4_touches_18 : decode cX4_touches 18 = .ok (.istore 4, 2) := by decide +kernel
theorem dX4_touches_20 : decode cX4_touches 20 = .ok (.iload 4, 2) := by decide +kernel
theorem dX4_touches_22 : decode cX4_touches 22 = .ok (.iconst 4, 1) := by decide +kernel
theorem dX4_touches_23 : decode cX4_touches 23 = .ok (.if_icmp .ge 84, 3) := by decide +kernel
theorem dX4_touches_26 : decode cX4_touches 26 = .ok (.aload_n 0, 1) := by decide +kernel
theorem dX4_touches_27 : decode cX4_touches 27 = .ok (.iload_n 3, 1) := by decide +kernel
theorem dX4_touches_28 : decode cX4_touches 28 = .ok (.iload 4, 2) := by decide +kernel
theorem dX4_touches_30 : decode cX4_touches 30 = .ok (.invokevirtual 92, 3) := by decide +kernel
theorem dX4_touches_33 : decode cX4_touches 33 = .ok (.istore 5, 2) := by decide +kernel
theorem dX4_touches_35 : decode cX4_touches 35 = .ok (.aload_n 0, 1) := by decide +kernel
theorem dX4_touches_36 : decode cX4_touches 36 = .ok (.getfield 16, 3) := by decide +kernel
theorem dX4_touches_39 : decode cX4_touches 39 = .ok (.iload_n 3, 1) := by decide +kernel
theorem dX4_touches_40 : decode cX4_touches 40 = .ok (.iaload, 1) := by decide +kernel
theorem dX4_touches_41 : decode cX4_touches 41 = .ok (.invokestatic 98, 3) := by decide +kernel
theorem dX4_touches_44 : decode cX4_touches 44 = .ok (.istore 6, 2) := by decide +kernel
theorem dX4_touches_46 : decode cX4_touches 46 = .ok (.iload 5, 2) := by decide +kernel
theorem dX4_touches_48 : decode cX4_touches 48 = .ok (.ifCond .ge 8, 3) := by decide +kernel
theorem dX4_touches_51 : decode cX4_touches 51 = .ok (.bipush 6, 2) := by decide +kernel
theorem dX4_touches_53 : decode cX4_touches 53 = .ok (.goto 13, 3) := by decide +kernel
theorem dX4_touches_56 : decode cX4_touches 56 = .ok (.aload_n 0, 1) := by decide +kernel
theorem dX4_touches_57 : decode cX4_touches 57 = .ok (.getfield 16, 3) := by decide +kernel
theorem dX4_touches_60 : decode cX4_touches 60 = .ok (.iload 5, 2) := by decide +kernel
theorem dX4_touches_62 : decode cX4_touches 62 = .ok (.iaload, 1) := by decide +kernel
theorem dX4_touches_63 : decode cX4_touches 63 = .ok (.invokestatic 98, 3) := by decide +kernel
theorem dX4_touches_66 : decode cX4_touches 66 = .ok (.istore 7, 2) := by decide +kernel
theorem dX4_touches_68 : decode cX4_touches 68 = .ok (.iload 6, 2) := by decide +kernel
theorem dX4_touches_70 : decode cX4_touches 70 = .ok (.iload 7, 2) := by decide +kernel
theorem dX4_touches_72 : decode cX4_touches 72 = .ok (.if_icmp .eq 29, 3) := by decide +kernel
theorem dX4_touches_75 : decode cX4_touches 75 = .ok (.lload_n 1, 1) := by decide +kernel
theorem dX4_touches_76 : decode cX4_touches 76 = .ok (.lconst 1, 1) := by decide +kernel
theorem dX4_touches_77 : decode cX4_touches 77 = .ok (.bipush 7, 2) := by decide +kernel
theorem dX4_touches_79 : decode cX4_touches 79 = .ok (.iload 6, 2) := by decide +kernel
theorem dX4_touches_81 : decode cX4_touches 81 = .ok (.imul, 1) := by decide +kernel
theorem dX4_touches_82 : decode cX4_touches 82 = .ok (.iload 7, 2) := by decide +kernel
theorem dX4_touches_84 : decode cX4_touches 84 = .ok (.iadd, 1) := by decide +kernel
theorem dX4_touches_85 : decode cX4_touches 85 = .ok (.lshl, 1) := by decide +kernel
theorem dX4_touches_86 : decode cX4_touches 86 = .ok (.lor, 1) := by decide +kernel
theorem dX4_touches_87 : decode cX4_touches 87 = .ok (.lstore_n 1, 1) := by decide +kernel
theorem dX4_touches_88 : decode cX4_touches 88 = .ok (.lload_n 1, 1) := by decide +kernel
theorem dX4_touches_89 : decode cX4_touches 89 = .ok (.lconst 1, 1) := by decide +kernel
theorem dX4_touches_90 : decode cX4_touches 90 = .ok (.bipush 7, 2) := by decide +kernel
theorem dX4_touches_92 : decode cX4_touches 92 = .ok (.iload 7, 2) := by decide +kernel
theorem dX4_touches_94 : decode cX4_touches 94 = .ok (.imul, 1) := by decide +kernel
theorem dX4_touches_95 : decode cX4_touches 95 = .ok (.iload 6, 2) := by decide +kernel
theorem dX4_touches_97 : decode cX4_touches 97 = .ok (.iadd, 1) := by decide +kernel
theorem dX4_touches_98 : decode cX4_touches 98 = .ok (.lshl, 1) := by decide +kernel
theorem dX4_touches_99 : decode cX4_touches 99 = .ok (.lor, 1) := by decide +kernel
theorem dX4_touches_100 : decode cX4_touches 100 = .ok (.lstore_n 1, 1) := by decide +kernel
theorem dX4_touches_101 : decode cX4_touches 101 = .ok (.iinc 4 1, 3) := by decide +kernel
theorem dX4_touches_104 : decode cX4_touches 104 = .ok (.goto (-84), 3) := by decide +kernel
theorem dX4_touches_107 : decode cX4_touches 107 = .ok (.iinc 3 1, 3) := by decide +kernel
theorem dX4_touches_110 : decode cX4_touches 110 = .ok (.goto (-106), 3) := by decide +kernel
theorem dX4_touches_113 : decode cX4_touches 113 = .ok (.lload_n 1, 1) := by decide +kernel
theorem dX4_touches_114 : decode cX4_touches 114 = .ok (.lreturn, 1) := by decide +kernel
set_option maxRecDepth 20000 in
theorem ggX4_areTouching_X4_touches : GoodIn wsX4_areTouching wsX4_touches := goodIn_r _ [5, 6, 7, 8, 9, 10, 11, 4, 12, 13, 14, 15, 16, 17, 18, 19, 20, 21, 22, 23, 24, 25, 26, 27, 28, 29, 30, 31, 32, 33, 34, 35, 36, 37, 38, 39, 40, 41, 42, 43, 44, 45, 46, 47, 48, 49, 50, 51, 52] (by decide +kernel) (by decide +kernel)
set_option maxRecDepth 20000 in
theorem gX4_areTouching_X4_touches : GoodIn wsX4_areTouching (wsV RX4 101 RX4 yX4_touches wsX4_touches) := goodIn_app (goodIn_of _ (by decide +kernel)) ggX4_areTouching_X4_touches
set_option maxRecDepth 20000 in
theorem ggX4_areTouching_X4_numberOf : GoodIn wsX4_areTouching wsX4_numberOf := goodIn_r _ [26] (by decide +kernel) (by decide +kernel)
set_option maxRecDepth 20000 in
theorem gX4_areTouching_X4_numberOf : GoodIn wsX4_areTouching (va_wsS RX4 98 yX4_numberOf wsX4_numberOf) := goodIn_app (goodIn_of _ (by decide +kernel)) ggX4_areTouching_X4_numberOf
theorem dX4_areTouching_0 : decode cX4_areTouching 0 = .ok (.aload_n 0, 1) := by decide +kernel
theorem dX4_areTouching_1 : decode cX4_areTouching 1 = .ok (.invokevirtual 101, 3) := by decide +kernel
theorem dX4_areTouching_4 : decode cX4_areTouching 4 = .ok (.bipush 7, 2) := by decide +kernel
theorem dX4_areTouching_6 : decode cX4_areTouching 6 = .ok (.iload_n 1, 1) := by decide +kernel
theorem dX4_areTouching_7 : decode cX4_areTouching 7 = .ok (.invokestatic 98, 3) := by decide +kernel
theorem dX4_areTouching_10 : decode cX4_areTouching 10 = .ok (.imul, 1) := by decide +kernel
theorem dX4_areTouching_11 : decode cX4_areTouching 11 = .ok (.iload_n 2, 1) := by decide +kernel
theorem dX4_areTouching_12 : decode cX4_areTouching 12 = .ok (.invokestatic 98, 3) := by decide +kernel
theorem dX4_areTouching_15 : decode cX4_areTouching 15 = .ok (.iadd, 1) := by decide +kernel
theorem dX4_areTouching_16 : decode cX4_areTouching 16 = .ok (.lshr, 1) := by decide +kernel
theorem dX4_areTouching_17 : decode cX4_areTouching 17 = .ok (.lconst 1, 1) := by decide +kernel
theorem dX4_areTouching_18 : decode cX4_areTouching 18 = .ok (.land, 1) := by decide +kernel
theorem dX4_areTouching_19 : decode cX4_areTouching 19 = .ok (.lconst 1, 1) := by decide +kernel
theorem dX4_areTouching_20 : decode cX4_areTouching 20 = .ok (.lcmp, 1) := by decide +kernel
theorem dX4_areTouching_21 : decode cX4_areTouching 21 = .ok (.ifCond .ne 7, 3) := by decide +kernel
theorem dX4_areTouching_24 : decode cX4_areTouching 24 = .ok (.iconst 1, 1) := by decide +kernel
theorem dX4_areTouching_25 : decode cX4_areTouching 25 = .ok (.goto 4, 3) := by decide +kernel
theorem dX4_areTouching_28 : decode cX4_areTouching 28 = .ok (.iconst 0, 1) := by decide +kernel
theorem dX4_areTouching_29 : decode cX4_areTouching 29 = .ok (.ireturn, 1) := by decide +kernel
set_option maxRecDepth 20000 in
theorem ggX4_touch_X4_isLand : GoodIn wsX4_touch wsX4_isLand := goodIn_r _ [4, 5, 6, 3, 7] (by decide +kernel) (by decide +kernel)
set_option maxRecDepth 20000 in
theorem gX4_touch_X4_isLand : GoodIn wsX4_touch (va_wsS RX4 84 yX4_isLand wsX4_isLand) := goodIn_app (goodIn_of _ (by decide +kernel)) ggX4_touch_X4_isLand
set_option maxRecDepth 20000 in
theorem ggX4_touch_X4_areTouching : GoodIn wsX4_touch wsX4_areTouching := goodIn_r _ [11, 12, 13, 14, 3, 15, 16, 17, 18, 19, 20, 21, 22, 23, 24, 25, 26, 27, 28, 29, 30, 5, 6, 7, 31, 32, 33, 34, 35, 36, 37, 38, 39, 40, 41, 42, 43, 44, 45, 46, 47, 48, 49, 50, 51, 52, 53, 54, 55, 56, 57, 58, 59] (by decide +kernel) (by decide +kernel)
set_option maxRecDepth 20000 in
theorem gX4_touch_X4_areTouching : GoodIn wsX4_touch (wsV RX4 105 RX4 yX4_areTouching wsX4_areTouching) := goodIn_app (goodIn_of _ (by decide +kernel)) ggX4_touch_X4_areTouching
theorem dX4_touch_0 : decode cX4_touch 0 = .ok (.iload_n 1, 1) := by decide +kernel
theorem dX4_touch_1 : decode cX4_touch 1 = .ok (.bipush (-4), 2) := by decide +kernel
theorem dX4_touch_3 : decode cX4_touch 3 = .ok (.if_icmp .eq 10, 3) := by decide +kernel
theorem dX4_touch_6 : decode cX4_touch 6 = .ok (.iload_n 1, 1) := by decide +kernel
theorem dX4_touch_7 : decode cX4_touch 7 = .ok (.invokestatic 84, 3) := by decide +kernel
theorem dX4_touch_10 : decode cX4_touch 10 = .ok (.ifCond .eq 25, 3) := by decide +kernel
theorem dX4_touch_13 : decode cX4_touch 13 = .ok (.iload_n 2, 1) := by decide +kernel
theorem dX4_touch_14 : decode cX4_touch 14 = .ok (.bipush (-4), 2) := by decide +kernel
theorem dX4_touch_16 : decode cX4_touch 16 = .ok (.if_icmp .eq 10, 3) := by decide +kernel
theorem dX4_touch_19 : decode cX4_touch 19 = .ok (.iload_n 2, 1) := by decide +kernel
theorem dX4_touch_20 : decode cX4_touch 20 = .ok (.invokestatic 84, 3) := by decide +kernel
theorem dX4_touch_23 : decode cX4_touch 23 = .ok (.ifCond .eq 12, 3) := by decide +kernel
theorem dX4_touch_26 : decode cX4_touch 26 = .ok (.iload_n 1, 1) := by decide +kernel
theorem dX4_touch_27 : decode cX4_touch 27 = .ok (.iload_n 2, 1) := by decide +kernel
theorem dX4_touch_28 : decode cX4_touch 28 = .ok (.if_icmp .eq 7, 3) := by decide +kernel
theorem dX4_touch_31 : decode cX4_touch 31 = .ok (.iconst 1, 1) := by decide +kernel
theorem dX4_touch_32 : decode cX4_touch 32 = .ok (.goto 4, 3) := by decide +kernel
theorem dX4_touch_35 : decode cX4_touch 35 = .ok (.iconst 0, 1) := by decide +kernel
theorem dX4_touch_36 : decode cX4_touch 36 = .ok (.istore_n 3, 1) := by decide +kernel
theorem dX4_touch_37 : decode cX4_touch 37 = .ok (.iload_n 3, 1) := by decide +kernel
theorem dX4_touch_38 : decode cX4_touch 38 = .ok (.ifCond .ne 7, 3) := by decide +kernel
theorem dX4_touch_41 : decode cX4_touch 41 = .ok (.iconst (-1), 1) := by decide +kernel
theorem dX4_touch_42 : decode cX4_touch 42 = .ok (.goto 17, 3) := by decide +kernel
theorem dX4_touch_45 : decode cX4_touch 45 = .ok (.aload_n 0, 1) := by decide +kernel
theorem dX4_touch_46 : decode cX4_touch 46 = .ok (.iload_n 1, 1) := by decide +kernel
theorem dX4_touch_47 : decode cX4_touch 47 = .ok (.iload_n 2, 1) := by decide +kernel
theorem dX4_touch_48 : decode cX4_touch 48 = .ok (.invokevirtual 105, 3) := by decide +kernel
theorem dX4_touch_51 : decode cX4_touch 51 = .ok (.ifCond .eq 7, 3) := by decide +kernel
theorem dX4_touch_54 : decode cX4_touch 54 = .ok (.iconst 1, 1) := by decide +kernel
theorem dX4_touch_55 : decode cX4_touch 55 = .ok (.goto 4, 3) := by decide +kernel
theorem dX4_touch_58 : decode cX4_touch 58 = .ok (.iconst 0, 1) := by decide +kernel
theorem dX4_touch_59 : decode cX4_touch 59 = .ok (.ireturn, 1) := by decide +kernel
set_option maxRecDepth 20000 in
theorem ggX4_kind_X4_isLand : GoodIn wsX4_kind wsX4_isLand := goodIn_r _ [7, 8, 9, 6, 10] (by decide +kernel) (by decide +kernel)
set_option maxRecDepth 20000 in
theorem gX4_kind_X4_isLand : GoodIn wsX4_kind (va_wsS RX4 84 yX4_isLand wsX4_isLand) := goodIn_app (goodIn_of _ (by decide +kernel)) ggX4_kind_X4_isLand
set_option maxRecDepth 20000 in
theorem ggX4_kind_X4_in : GoodIn wsX4_kind wsX4_in := goodIn_r _ [10] (by decide +kernel) (by decide +kernel)
set_option maxRecDepth 20000 in
theorem gX4_kind_X4_in : GoodIn wsX4_kind (va_wsS RX4 72 yX4_in wsX4_in) := goodIn_app (goodIn_of _ (by decide +kernel)) ggX4_kind_X4_in
set_option maxRecDepth 20000 in
theorem ggX4_kind_X4_isOn : GoodIn wsX4_kind wsX4_isOn := goodIn_r _ [14, 15, 16, 8, 9, 6, 10, 21, 22, 23, 24, 25, 26, 27, 28, 29, 30, 31, 32, 33, 34, 35, 36, 37, 38, 39, 40, 41, 42, 43, 44, 45, 46] (by decide +kernel) (by decide +kernel)
set_option maxRecDepth 20000 in
theorem gX4_kind_X4_isOn : GoodIn wsX4_kind (wsV RX4 76 RX4 yX4_isOn wsX4_isOn) := goodIn_app (goodIn_of _ (by decide +kernel)) ggX4_kind_X4_isOn
set_option maxRecDepth 20000 in
theorem ggX4_kind_X4_cellAt : GoodIn wsX4_kind wsX4_cellAt := goodIn_r _ [20, 15, 11, 12, 13, 6, 14, 16, 8, 9, 10, 21, 22, 23, 24, 25, 26, 27, 28, 29, 30, 31, 32, 33, 34, 35, 36, 37, 38, 39, 40, 41, 42, 43, 44, 45, 46] (by decide +kernel) (by decide +kernel)
set_option maxRecDepth 20000 in
theorem gX4_kind_X4_cellAt : GoodIn wsX4_kind (wsV RX4 80 RX4 yX4_cellAt wsX4_cellAt) := goodIn_app (goodIn_of _ (by decide +kernel)) ggX4_kind_X4_cellAt
theorem dX4_kind_0 : decode cX4_kind 0 = .ok (.iload_n 1, 1) := by decide +kernel
theorem dX4_kind_1 : decode cX4_kind 1 = .ok (.invokestatic 84, 3) := by decide +kernel
theorem dX4_kind_4 : decode cX4_kind 4 = .ok (.ifCond .eq 26, 3) := by decide +kernel
theorem dX4_kind_7 : decode cX4_kind 7 = .ok (.iload_n 2, 1) := by decide +kernel
theorem dX4_kind_8 : decode cX4_kind 8 = .ok (.iconst 0, 1) := by decide +kernel
theorem dX4_kind_9 : decode cX4_kind 9 = .ok (.iconst 2, 1) := by decide +kernel
theorem dX4_kind_10 : decode cX4_kind 10 = .ok (.invokestatic 72, 3) := by decide +kernel
theorem dX4_kind_13 : decode cX4_kind 13 = .ok (.ifCond .eq 17, 3) := by decide +kernel
theorem dX4_kind_16 : decode cX4_kind 16 = .ok (.iload_n 2, 1) := by decide +kernel
theorem dX4_kind_17 : decode cX4_kind 17 = .ok (.ifCond .le 15, 3) := by decide +kernel
theorem dX4_kind_20 : decode cX4_kind 20 = .ok (.aload_n 0, 1) := by decide +kernel
theorem dX4_kind_21 : decode cX4_kind 21 = .ok (.iload_n 3, 1) := by decide +kernel
theorem dX4_kind_22 : decode cX4_kind 22 = .ok (.iload 4, 2) := by decide +kernel
theorem dX4_kind_24 : decode cX4_kind 24 = .ok (.invokevirtual 76, 3) := by decide +kernel
theorem dX4_kind_27 : decode cX4_kind 27 = .ok (.ifCond .ne 5, 3) := by decide +kernel
theorem dX4_kind_30 : decode cX4_kind 30 = .ok (.iconst (-1), 1) := by decide +kernel
theorem dX4_kind_31 : decode cX4_kind 31 = .ok (.ireturn, 1) := by decide +kernel
theorem dX4_kind_32 : decode cX4_kind 32 = .ok (.iload_n 2, 1) := by decide +kernel
theorem dX4_kind_33 : decode cX4_kind 33 = .ok (.ifCond .le 22, 3) := by decide +kernel
theorem dX4_kind_36 : decode cX4_kind 36 = .ok (.aload_n 0, 1) := by decide +kernel
theorem dX4_kind_37 : decode cX4_kind 37 = .ok (.getfield 16, 3) := by decide +kernel
theorem dX4_kind_40 : decode cX4_kind 40 = .ok (.aload_n 0, 1) := by decide +kernel
theorem dX4_kind_41 : decode cX4_kind 41 = .ok (.iload_n 3, 1) := by decide +kernel
theorem dX4_kind_42 : decode cX4_kind 42 = .ok (.iload 4, 2) := by decide +kernel
theorem dX4_kind_44 : decode cX4_kind 44 = .ok (.invokevirtual 80, 3) := by decide +kernel
theorem dX4_kind_47 : decode cX4_kind 47 = .ok (.iaload, 1) := by decide +kernel
theorem dX4_kind_48 : decode cX4_kind 48 = .ok (.iload_n 1, 1) := by decide +kernel
theorem dX4_kind_49 : decode cX4_kind 49 = .ok (.if_icmp .eq 6, 3) := by decide +kernel
theorem dX4_kind_52 : decode cX4_kind 52 = .ok (.bipush (-2), 2) := by decide +kernel
theorem dX4_kind_54 : decode cX4_kind 54 = .ok (.ireturn, 1) := by decide +kernel
theorem dX4_kind_55 : decode cX4_kind 55 = .ok (.aload_n 0, 1) := by decide +kernel
theorem dX4_kind_56 : decode cX4_kind 56 = .ok (.getfield 20, 3) := by decide +kernel
theorem dX4_kind_59 : decode cX4_kind 59 = .ok (.iload_n 1, 1) := by decide +kernel
theorem dX4_kind_60 : decode cX4_kind 60 = .ok (.iload_n 2, 1) := by decide +kernel
theorem dX4_kind_61 : decode cX4_kind 61 = .ok (.iastore, 1) := by decide +kernel
theorem dX4_kind_62 : decode cX4_kind 62 = .ok (.aload_n 0, 1) := by decide +kernel
theorem dX4_kind_63 : decode cX4_kind 63 = .ok (.getfield 23, 3) := by decide +kernel
theorem dX4_kind_66 : decode cX4_kind 66 = .ok (.iload_n 1, 1) := by decide +kernel
theorem dX4_kind_67 : decode cX4_kind 67 = .ok (.iload_n 2, 1) := by decide +kernel
theorem dX4_kind_68 : decode cX4_kind 68 = .ok (.ifCond .ne 7, 3) := by decide +kernel
theorem dX4_kind_71 : decode cX4_kind 71 = .ok (.iconst (-1), 1) := by decide +kernel
theorem dX4_kind_72 : decode cX4_kind 72 = .ok (.goto 10, 3) := by decide +kernel
theorem dX4_kind_75 : decode cX4_kind 75 = .ok (.aload_n 0, 1) := by decide +kernel
theorem dX4_kind_76 : decode cX4_kind 76 = .ok (.iload_n 3, 1) := by decide +kernel
theorem dX4_kind_77 : decode cX4_kind 77 = .ok (.iload 4, 2) := by decide +kernel
theorem dX4_kind_79 : decode cX4_kind 79 = .ok (.invokevirtual 80, 3) := by decide +kernel
theorem dX4_kind_82 : decode cX4_kind 82 = .ok (.iastore, 1) := by decide +kernel
theorem dX4_kind_83 : decode cX4_kind 83 = .ok (.iconst 1, 1) := by decide +kernel
theorem dX4_kind_84 : decode cX4_kind 84 = .ok (.ireturn, 1) := by decide +kernel
set_option maxRecDepth 20000 in
theorem ggX4_about_X4_isLand : GoodIn wsX4_about wsX4_isLand := goodIn_r _ [8, 9, 10, 7, 11] (by decide +kernel) (by decide +kernel)
set_option maxRecDepth 20000 in
theorem gX4_about_X4_isLand : GoodIn wsX4_about (va_wsS RX4 84 yX4_isLand wsX4_isLand) := goodIn_app (goodIn_of _ (by decide +kernel)) ggX4_about_X4_isLand
theorem dX4_about_0 : decode cX4_about 0 = .ok (.iload_n 1, 1) := by decide +kernel
theorem dX4_about_1 : decode cX4_about 1 = .ok (.invokestatic 84, 3) := by decide +kernel
theorem dX4_about_4 : decode cX4_about 4 = .ok (.ifCond .ne 5, 3) := by decide +kernel
theorem dX4_about_7 : decode cX4_about 7 = .ok (.iconst (-1), 1) := by decide +kernel
theorem dX4_about_8 : decode cX4_about 8 = .ok (.ireturn, 1) := by decide +kernel
theorem dX4_about_9 : decode cX4_about 9 = .ok (.iload_n 2, 1) := by decide +kernel
theorem dX4_about_10 : decode cX4_about 10 = .ok (.tableswitch 96 0 3 #[30, 37, 63, 89], 30) := by decide +kernel
theorem dX4_about_40 : decode cX4_about 40 = .ok (.aload_n 0, 1) := by decide +kernel
theorem dX4_about_41 : decode cX4_about 41 = .ok (.getfield 20, 3) := by decide +kernel
theorem dX4_about_44 : decode cX4_about 44 = .ok (.iload_n 1, 1) := by decide +kernel
theorem dX4_about_45 : decode cX4_about 45 = .ok (.iaload, 1) := by decide +kernel
theorem dX4_about_46 : decode cX4_about 46 = .ok (.ireturn, 1) := by decide +kernel
theorem dX4_about_47 : decode cX4_about 47 = .ok (.aload_n 0, 1) := by decide +kernel
theorem dX4_about_48 : decode cX4_about 48 = .ok (.getfield 23, 3) := by decide +kernel
theorem dX4_about_51 : decode cX4_about 51 = .ok (.iload_n 1, 1) := by decide +kernel
theorem dX4_about_52 : decode cX4_about 52 = .ok (.iaload, 1) := by decide +kernel
theorem dX4_about_53 : decode cX4_about 53 = .ok (.ifCond .ge 8, 3) := by decide +kernel
theorem dX4_about_56 : decode cX4_about 56 = .ok (.bipush (-9), 2) := by decide +kernel
theorem dX4_about_58 : decode cX4_about 58 = .ok (.goto 14, 3) := by decide +kernel
theorem dX4_about_61 : decode cX4_about 61 = .ok (.aload_n 0, 1) := by decide +kernel
theorem dX4_about_62 : decode cX4_about 62 = .ok (.getfield 23, 3) := by decide +kernel
theorem dX4_about_65 : decode cX4_about 65 = .ok (.iload_n 1, 1) := by decide +kernel
theorem dX4_about_66 : decode cX4_about 66 = .ok (.iaload, 1) := by decide +kernel
theorem dX4_about_67 : decode cX4_about 67 = .ok (.aload_n 0, 1) := by decide +kernel
theorem dX4_about_68 : decode cX4_about 68 = .ok (.getfield 7, 3) := by decide +kernel
theorem dX4_about_71 : decode cX4_about 71 = .ok (.irem, 1) := by decide +kernel
theorem dX4_about_72 : decode cX4_about 72 = .ok (.ireturn, 1) := by decide +kernel
theorem dX4_about_73 : decode cX4_about 73 = .ok (.aload_n 0, 1) := by decide +kernel
theorem dX4_about_74 : decode cX4_about 74 = .ok (.getfield 23, 3) := by decide +kernel
theorem dX4_about_77 : decode cX4_about 77 = .ok (.iload_n 1, 1) := by decide +kernel
theorem dX4_about_78 : decode cX4_about 78 = .ok (.iaload, 1) := by decide +kernel
theorem dX4_about_79 : decode cX4_about 79 = .ok (.ifCond .ge 8, 3) := by decide +kernel
theorem dX4_about_82 : decode cX4_about 82 = .ok (.bipush (-9), 2) := by decide +kernel
theorem dX4_about_84 : decode cX4_about 84 = .ok (.goto 14, 3) := by decide +kernel
theorem dX4_about_87 : decode cX4_about 87 = .ok (.aload_n 0, 1) := by decide +kernel
theorem dX4_about_88 : decode cX4_about 88 = .ok (.getfield 23, 3) := by decide +kernel
theorem dX4_about_91 : decode cX4_about 91 = .ok (.iload_n 1, 1) := by decide +kernel
theorem dX4_about_92 : decode cX4_about 92 = .ok (.iaload, 1) := by decide +kernel
theorem dX4_about_93 : decode cX4_about 93 = .ok (.aload_n 0, 1) := by decide +kernel
theorem dX4_about_94 : decode cX4_about 94 = .ok (.getfield 7, 3) := by decide +kernel
theorem dX4_about_97 : decode cX4_about 97 = .ok (.idiv, 1) := by decide +kernel
theorem dX4_about_98 : decode cX4_about 98 = .ok (.ireturn, 1) := by decide +kernel
theorem dX4_about_99 : decode cX4_about 99 = .ok (.aload_n 0, 1) := by decide +kernel
theorem dX4_about_100 : decode cX4_about 100 = .ok (.getfield 26, 3) := by decide +kernel
theorem dX4_about_103 : decode cX4_about 103 = .ok (.iload_n 1, 1) := by decide +kernel
theorem dX4_about_104 : decode cX4_about 104 = .ok (.iaload, 1) := by decide +kernel
theorem dX4_about_105 : decode cX4_about 105 = .ok (.ireturn, 1) := by decide +kernel
theorem dX4_about_106 : decode cX4_about 106 = .ok (.iconst (-1), 1) := by decide +kernel
theorem dX4_about_107 : decode cX4_about 107 = .ok (.ireturn, 1) := by decide +kernel
set_option maxRecDepth 20000 in
theorem ggX4_doesLeave_X4_isWhole : GoodIn wsX4_doesLeave wsX4_isWhole := goodIn_r _ [10, 2, 3, 1, 11, 12, 13, 14, 15, 9, 16, 17, 18, 19, 20, 21, 22, 23, 24, 25, 26, 27, 28, 29, 30, 31, 32, 33, 34, 35, 36, 37, 38, 39, 40, 41, 42, 43, 44, 45, 46, 47, 48, 49, 50, 51, 52, 53, 54, 55, 56, 57] (by decide +kernel) (by decide +kernel)
set_option maxRecDepth 20000 in
theorem gX4_doesLeave_X4_isWhole : GoodIn wsX4_doesLeave (wsV RX4 95 RX4 yX4_isWhole wsX4_isWhole) := goodIn_app (goodIn_of _ (by decide +kernel)) ggX4_doesLeave_X4_isWhole
set_option maxRecDepth 20000 in
theorem ggX4_doesLeave_X4_beside : GoodIn wsX4_doesLeave wsX4_beside := goodIn_r _ [16, 2, 17, 18, 19, 9, 20, 21, 22, 23, 24, 3, 25, 26, 27, 32, 33, 34, 35, 36, 37, 38, 39, 40, 41, 42, 43, 44, 45, 46, 47, 48, 49, 50, 51, 52, 53, 54, 55, 56, 57] (by decide +kernel) (by decide +kernel)
set_option maxRecDepth 20000 in
theorem gX4_doesLeave_X4_beside : GoodIn wsX4_doesLeave (wsV RX4 92 RX4 yX4_beside wsX4_beside) := goodIn_app (goodIn_of _ (by decide +kernel)) ggX4_doesLeave_X4_beside
theorem dX4_doesLeave_0 : decode cX4_doesLeave 0 = .ok (.aload_n 0, 1) := by decide +kernel
theorem dX4_doesLeave_1 : decode cX4_doesLeave 1 = .ok (.getfield 16, 3) := by decide +kernel
theorem dX4_doesLeave_4 : decode cX4_doesLeave 4 = .ok (.iload_n 1, 1) := by decide +kernel
theorem dX4_doesLeave_5 : decode cX4_doesLeave 5 = .ok (.iaload, 1) := by decide +kernel
theorem dX4_doesLeave_6 : decode cX4_doesLeave 6 = .ok (.istore_n 2, 1) := by decide +kernel
theorem dX4_doesLeave_7 : decode cX4_doesLeave 7 = .ok (.aload_n 0, 1) := by decide +kernel
theorem dX4_doesLeave_8 : decode cX4_doesLeave 8 = .ok (.getfield 16, 3) := by decide +kernel
theorem dX4_doesLeave_11 : decode cX4_doesLeave 11 = .ok (.iload_n 1, 1) := by decide +kernel
theorem dX4_doesLeave_12 : decode cX4_doesLeave 12 = .ok (.bipush 7, 2) := by decide +kernel
theorem dX4_doesLeave_14 : decode cX4_doesLeave 14 = .ok (.iastore, 1) := by decide +kernel
theorem dX4_doesLeave_15 : decode cX4_doesLeave 15 = .ok (.aload_n 0, 1) := by decide +kernel
theorem dX4_doesLeave_16 : decode cX4_doesLeave 16 = .ok (.iload_n 2, 1) := by decide +kernel
theorem dX4_doesLeave_17 : decode cX4_doesLeave 17 = .ok (.invokevirtual 95, 3) := by decide +kernel
theorem dX4_doesLeave_20 : decode cX4_doesLeave 20 = .ok (.istore_n 3, 1) := by decide +kernel
theorem dX4_doesLeave_21 : decode cX4_doesLeave 21 = .ok (.iconst 0, 1) := by decide +kernel
theorem dX4_doesLeave_22 : decode cX4_doesLeave 22 = .ok (.istore 4, 2) := by decide +kernel
theorem dX4_doesLeave_24 : decode cX4_doesLeave 24 = .ok (.iconst 0, 1) := by decide +kernel
theorem dX4_doesLeave_25 : decode cX4_doesLeave 25 = .ok (.istore 5, 2) := by decide +kernel
theorem dX4_doesLeave_27 : decode cX4_doesLeave 27 = .ok (.iload 5, 2) := by decide +kernel
theorem dX4_doesLeave_29 : decode cX4_doesLeave 29 = .ok (.aload_n 0, 1) := by decide +kernel
theorem dX4_doesLeave_30 : decode cX4_doesLeave 30 = .ok (.getfield 7, 3) := by decide +kernel
theorem dX4_doesLeave_33 : decode cX4_doesLeave 33 = .ok (.aload_n 0, 1) := by decide +kernel
theorem dX4_doesLeave_34 : decode cX4_doesLeave 34 = .ok (.getfield 13, 3) := by decide +kernel
theorem dX4_doesLeave_37 : decode cX4_doesLeave 37 = .ok (.imul, 1) := by decide +kernel
theorem dX4_doesLeave_38 : decode cX4_doesLeave 38 = .ok (.if_icmp .ge 74, 3) := by decide +kernel
theorem dX4_doesLeave_41 : decode cX4_doesLeave 41 = .ok (.iconst 0, 1) := by decide +kernel
theorem dX4_doesLeave_42 : decode cX4_doesLeave 42 = .ok (.istore 6, 2) := by decide +kernel
theorem dX4_doesLeave_44 : decode cX4_doesLeave 44 = .ok (.iload 6, 2) := by decide +kernel
theorem dX4_doesLeave_46 : decode cX4_doesLeave 46 = .ok (.iconst 4, 1) := by decide +kernel
theorem dX4_doesLeave_47 : decode cX4_doesLeave 47 = .ok (.if_icmp .ge 59, 3) := by decide +kernel
theorem dX4_doesLeave_50 : decode cX4_doesLeave 50 = .ok (.aload_n 0, 1) := by decide +kernel
theorem dX4_doesLeave_51 : decode cX4_doesLeave 51 = .ok (.iload 5, 2) := by decide +kernel
theorem dX4_doesLeave_53 : decode cX4_doesLeave 53 = .ok (.iload 6, 2) := by decide +kernel
theorem dX4_doesLeave_55 : decode cX4_doesLeave 55 = .ok (.invokevirtual 92, 3) := by decide +kernel
theorem dX4_doesLeave_58 : decode cX4_doesLeave 58 = .ok (.istore 7, 2) := by decide +kernel
theorem dX4_doesLeave_60 : decode cX4_doesLeave 60 = .ok (.iload 4, 2) := by decide +kernel
theorem dX4_doesLeave_62 : decode cX4_doesLeave 62 = .ok (.ifCond .ne 31, 3) := by decide +kernel
theorem dX4_doesLeave_65 : decode cX4_doesLeave 65 = .ok (.aload_n 0, 1) := by decide +kernel
theorem dX4_doesLeave_66 : decode cX4_doesLeave 66 = .ok (.getfield 16, 3) := by decide +kernel
theorem dX4_doesLeave_69 : decode cX4_doesLeave 69 = .ok (.iload 5, 2) := by decide +kernel
theorem dX4_doesLeave_71 : decode cX4_doesLeave 71 = .ok (.iaload, 1) := by decide +kernel
theorem dX4_doesLeave_72 : decode cX4_doesLeave 72 = .ok (.iload_n 2, 1) := by decide +kernel
theorem dX4_doesLeave_73 : decode cX4_doesLeave 73 = .ok (.if_icmp .ne 24, 3) := by decide +kernel
theorem dX4_doesLeave_76 : decode cX4_doesLeave 76 = .ok (.iload 7, 2) := by decide +kernel
theorem dX4_doesLeave_78 : decode cX4_doesLeave 78 = .ok (.ifCond .lt 15, 3) := by decide +kernel
theorem dX4_doesLeave_81 : decode cX4_doesLeave 81 = .ok (.aload_n 0, 1) := by decide +kernel
theorem dX4_doesLeave_82 : decode cX4_doesLeave 82 = .ok (.getfield 16, 3) := by decide +kernel
theorem dX4_doesLeave_85 : decode cX4_doesLeave 85 = .ok (.iload 7, 2) := by decide +kernel
theorem dX4_doesLeave_87 : decode cX4_doesLeave 87 = .ok (.iaload, 1) := by decide +kernel
theorem dX4_doesLeave_88 : decode cX4_doesLeave 88 = .ok (.bipush (-4), 2) := by decide +kernel
theorem dX4_doesLeave_90 : decode cX4_doesLeave 90 = .ok (.if_icmp .ne 7, 3) := by decide +kernel
theorem dX4_doesLeave_93 : decode cX4_doesLeave 93 = .ok (.iconst 1, 1) := by decide +kernel
theorem dX4_doesLeave_94 : decode cX4_doesLeave 94 = .ok (.goto 4, 3) := by decide +kernel
theorem dX4_doesLeave_97 : decode cX4_doesLeave 97 = .ok (.iconst 0, 1) := by decide +kernel
theorem dX4_doesLeave_98 : decode cX4_doesLeave 98 = .ok (.istore 4, 2) := by decide +kernel
theorem dX4_doesLeave_100 : decode cX4_doesLeave 100 = .ok (.iinc 6 1, 3) := by decide +kernel
theorem dX4_doesLeave_103 : decode cX4_doesLeave 103 = .ok (.goto (-59), 3) := by decide +kernel
theorem dX4_doesLeave_106 : decode cX4_doesLeave 106 = .ok (.iinc 5 1, 3) := by decide +kernel
theorem dX4_doesLeave_109 : decode cX4_doesLeave 109 = .ok (.goto (-82), 3) := by decide +kernel
theorem dX4_doesLeave_112 : decode cX4_doesLeave 112 = .ok (.aload_n 0, 1) := by decide +kernel
theorem dX4_doesLeave_113 : decode cX4_doesLeave 113 = .ok (.getfield 16, 3) := by decide +kernel
theorem dX4_doesLeave_116 : decode cX4_doesLeave 116 = .ok (.iload_n 1, 1) := by decide +kernel
theorem dX4_doesLeave_117 : decode cX4_doesLeave 117 = .ok (.iload_n 2, 1) := by decide +kernel
theorem dX4_doesLeave_118 : decode cX4_doesLeave 118 = .ok (.iastore, 1) := by decide +kernel
theorem dX4_doesLeave_119 : decode cX4_doesLeave 119 = .ok (.iload_n 3, 1) := by decide +kernel
theorem dX4_doesLeave_120 : decode cX4_doesLeave 120 = .ok (.ifCond .eq 41, 3) := by decide +kernel
theorem dX4_doesLeave_123 : decode cX4_doesLeave 123 = .ok (.aload_n 0, 1) := by decide +kernel
theorem dX4_doesLeave_124 : decode cX4_doesLeave 124 = .ok (.getfield 20, 3) := by decide +kernel
theorem dX4_doesLeave_127 : decode cX4_doesLeave 127 = .ok (.iload_n 2, 1) := by decide +kernel
theorem dX4_doesLeave_128 : decode cX4_doesLeave 128 = .ok (.iaload, 1) := by decide +kernel
theorem dX4_doesLeave_129 : decode cX4_doesLeave 129 = .ok (.ifCond .eq 13, 3) := by decide +kernel
theorem dX4_doesLeave_132 : decode cX4_doesLeave 132 = .ok (.aload_n 0, 1) := by decide +kernel
theorem dX4_doesLeave_133 : decode cX4_doesLeave 133 = .ok (.getfield 23, 3) := by decide +kernel
theorem dX4_doesLeave_136 : decode cX4_doesLeave 136 = .ok (.iload_n 2, 1) := by decide +kernel
theorem dX4_doesLeave_137 : decode cX4_doesLeave 137 = .ok (.iaload, 1) := by decide +kernel
theorem dX4_doesLeave_138 : decode cX4_doesLeave 138 = .ok (.iload_n 1, 1) := by decide +kernel
theorem dX4_doesLeave_139 : decode cX4_doesLeave 139 = .ok (.if_icmp .eq 22, 3) := by decide +kernel
theorem dX4_doesLeave_142 : decode cX4_doesLeave 142 = .ok (.aload_n 0, 1) := by decide +kernel
theorem dX4_doesLeave_143 : decode cX4_doesLeave 143 = .ok (.getfield 20, 3) := by decide +kernel
theorem dX4_doesLeave_146 : decode cX4_doesLeave 146 = .ok (.iload_n 2, 1) := by decide +kernel
theorem dX4_doesLeave_147 : decode cX4_doesLeave 147 = .ok (.iaload, 1) := by decide +kernel
theorem dX4_doesLeave_148 : decode cX4_doesLeave 148 = .ok (.iconst 2, 1) := by decide +kernel
theorem dX4_doesLeave_149 : decode cX4_doesLeave 149 = .ok (.if_icmp .lt 8, 3) := by decide +kernel
theorem dX4_doesLeave_152 : decode cX4_doesLeave 152 = .ok (.iload 4, 2) := by decide +kernel
theorem dX4_doesLeave_154 : decode cX4_doesLeave 154 = .ok (.ifCond .eq 7, 3) := by decide +kernel
theorem dX4_doesLeave_157 : decode cX4_doesLeave 157 = .ok (.iconst 1, 1) := by decide +kernel
theorem dX4_doesLeave_158 : decode cX4_doesLeave 158 = .ok (.goto 4, 3) := by decide +kernel
theorem dX4_doesLeave_161 : decode cX4_doesLeave 161 = .ok (.iconst 0, 1) := by decide +kernel
theorem dX4_doesLeave_162 : decode cX4_doesLeave 162 = .ok (.ireturn, 1) := by decide +kernel
set_option maxRecDepth 20000 in
theorem ggX4_leaves_X4_cellAt : GoodIn wsX4_leaves wsX4_cellAt := goodIn_r _ [10, 11, 12, 13, 14, 9, 15, 16, 17, 18, 19, 39, 40, 41, 42, 43, 44, 45, 46, 47, 48, 49, 50, 51, 52, 53, 54, 55, 56, 57, 58, 59, 60, 61, 62, 63, 64] (by decide +kernel) (by decide +kernel)
set_option maxRecDepth 20000 in
theorem gX4_leaves_X4_cellAt : GoodIn wsX4_leaves (wsV RX4 80 RX4 yX4_cellAt wsX4_cellAt) := goodIn_app (goodIn_of _ (by decide +kernel)) ggX4_leaves_X4_cellAt
set_option maxRecDepth 20000 in
theorem ggX4_leaves_X4_doesLeave : GoodIn wsX4_leaves wsX4_doesLeave := goodIn_r _ [23, 1, 11, 16, 2, 24, 25, 26, 27, 9, 28, 29, 30, 31, 32, 33, 34, 6, 7, 8, 10, 12, 13, 14, 15, 17, 18, 19, 35, 36, 37, 38, 39, 40, 41, 42, 43, 44, 45, 46, 47, 48, 49, 50, 51, 52, 53, 54, 55, 56, 57, 58, 59, 60, 61, 62, 63, 64] (by decide +kernel) (by decide +kernel)
set_option maxRecDepth 20000 in
theorem gX4_leaves_X4_doesLeave : GoodIn wsX4_leaves (wsV RX4 116 RX4 yX4_doesLeave wsX4_doesLeave) := goodIn_app (goodIn_of _ (by decide +kernel)) ggX4_leaves_X4_doesLeave
theorem dX4_leaves_0 : decode cX4_leaves 0 = .ok (.aload_n 0, 1) := by decide +kernel
theorem dX4_leaves_1 : decode cX4_leaves 1 = .ok (.iload_n 1, 1) := by decide +kernel
theorem dX4_leaves_2 : decode cX4_leaves 2 = .ok (.iload_n 2, 1) := by decide +kernel
theorem dX4_leaves_3 : decode cX4_leaves 3 = .ok (.invokevirtual 80, 3) := by decide +kernel
theorem dX4_leaves_6 : decode cX4_leaves 6 = .ok (.istore_n 3, 1) := by decide +kernel
theorem dX4_leaves_7 : decode cX4_leaves 7 = .ok (.iload_n 3, 1) := by decide +kernel
theorem dX4_leaves_8 : decode cX4_leaves 8 = .ok (.ifCond .lt 14, 3) := by decide +kernel
theorem dX4_leaves_11 : decode cX4_leaves 11 = .ok (.aload_n 0, 1) := by decide +kernel
theorem dX4_leaves_12 : decode cX4_leaves 12 = .ok (.getfield 16, 3) := by decide +kernel
theorem dX4_leaves_15 : decode cX4_leaves 15 = .ok (.iload_n 3, 1) := by decide +kernel
theorem dX4_leaves_16 : decode cX4_leaves 16 = .ok (.iaload, 1) := by decide +kernel
theorem dX4_leaves_17 : decode cX4_leaves 17 = .ok (.bipush (-4), 2) := by decide +kernel
theorem dX4_leaves_19 : decode cX4_leaves 19 = .ok (.if_icmp .ne 5, 3) := by decide +kernel
theorem dX4_leaves_22 : decode cX4_leaves 22 = .ok (.iconst (-1), 1) := by decide +kernel
theorem dX4_leaves_23 : decode cX4_leaves 23 = .ok (.ireturn, 1) := by decide +kernel
theorem dX4_leaves_24 : decode cX4_leaves 24 = .ok (.aload_n 0, 1) := by decide +kernel
theorem dX4_leaves_25 : decode cX4_leaves 25 = .ok (.getfield 20, 3) := by decide +kernel
theorem dX4_leaves_28 : decode cX4_leaves 28 = .ok (.aload_n 0, 1) := by decide +kernel
theorem dX4_leaves_29 : decode cX4_leaves 29 = .ok (.getfield 16, 3) := by decide +kernel
theorem dX4_leaves_32 : decode cX4_leaves 32 = .ok (.iload_n 3, 1) := by decide +kernel
theorem dX4_leaves_33 : decode cX4_leaves 33 = .ok (.iaload, 1) := by decide +kernel
theorem dX4_leaves_34 : decode cX4_leaves 34 = .ok (.iaload, 1) := by decide +kernel
theorem dX4_leaves_35 : decode cX4_leaves 35 = .ok (.istore 4, 2) := by decide +kernel
theorem dX4_leaves_37 : decode cX4_leaves 37 = .ok (.aload_n 0, 1) := by decide +kernel
theorem dX4_leaves_38 : decode cX4_leaves 38 = .ok (.dup, 1) := by decide +kernel
theorem dX4_leaves_39 : decode cX4_leaves 39 = .ok (.getfield 108, 3) := by decide +kernel
theorem dX4_leaves_42 : decode cX4_leaves 42 = .ok (.iload 4, 2) := by decide +kernel
theorem dX4_leaves_44 : decode cX4_leaves 44 = .ok (.ifCond .ne 7, 3) := by decide +kernel
theorem dX4_leaves_47 : decode cX4_leaves 47 = .ok (.lconst 1, 1) := by decide +kernel
theorem dX4_leaves_48 : decode cX4_leaves 48 = .ok (.goto 18, 3) := by decide +kernel
theorem dX4_leaves_51 : decode cX4_leaves 51 = .ok (.iload 4, 2) := by decide +kernel
theorem dX4_leaves_53 : decode cX4_leaves 53 = .ok (.iconst 1, 1) := by decide +kernel
theorem dX4_leaves_54 : decode cX4_leaves 54 = .ok (.if_icmp .ne 9, 3) := by decide +kernel
theorem dX4_leaves_57 : decode cX4_leaves 57 = .ok (.ldc2_w 112, 3) := by decide +kernel
theorem dX4_leaves_60 : decode cX4_leaves 60 = .ok (.goto 6, 3) := by decide +kernel
theorem dX4_leaves_63 : decode cX4_leaves 63 = .ok (.ldc2_w 114, 3) := by decide +kernel
theorem dX4_leaves_66 : decode cX4_leaves 66 = .ok (.ladd, 1) := by decide +kernel
theorem dX4_leaves_67 : decode cX4_leaves 67 = .ok (.putfield 108, 3) := by decide +kernel
theorem dX4_leaves_70 : decode cX4_leaves 70 = .ok (.aload_n 0, 1) := by decide +kernel
theorem dX4_leaves_71 : decode cX4_leaves 71 = .ok (.iload_n 3, 1) := by decide +kernel
theorem dX4_leaves_72 : decode cX4_leaves 72 = .ok (.invokevirtual 116, 3) := by decide +kernel
theorem dX4_leaves_75 : decode cX4_leaves 75 = .ok (.ifCond .eq 7, 3) := by decide +kernel
theorem dX4_leaves_78 : decode cX4_leaves 78 = .ok (.iconst 1, 1) := by decide +kernel
theorem dX4_leaves_79 : decode cX4_leaves 79 = .ok (.goto 4, 3) := by decide +kernel
theorem dX4_leaves_82 : decode cX4_leaves 82 = .ok (.iconst 0, 1) := by decide +kernel
theorem dX4_leaves_83 : decode cX4_leaves 83 = .ok (.ireturn, 1) := by decide +kernel
set_option maxRecDepth 20000 in
theorem ggX4_mayGo_X4_beside : GoodIn wsX4_mayGo wsX4_beside := goodIn_r _ [6, 7, 8, 9, 10, 5, 11, 12, 13, 14, 15, 16, 17, 18, 19, 43, 44, 45, 46, 47, 48, 49, 50, 51, 52, 53, 54, 55, 56, 57, 58, 59, 60, 61, 62, 63, 64, 65, 66, 67, 68] (by decide +kernel) (by decide +kernel)
set_option maxRecDepth 20000 in
theorem gX4_mayGo_X4_beside : GoodIn wsX4_mayGo (wsV RX4 92 RX4 yX4_beside wsX4_beside) := goodIn_app (goodIn_of _ (by decide +kernel)) ggX4_mayGo_X4_beside
set_option maxRecDepth 20000 in
theorem ggX4_mayGo_X4_doesLeave : GoodIn wsX4_mayGo wsX4_doesLeave := goodIn_r _ [23, 1, 7, 16, 24, 25, 26, 27, 28, 5, 29, 30, 31, 2, 3, 4, 6, 8, 9, 10, 11, 12, 13, 14, 15, 17, 18, 19, 32, 33, 34, 35, 43, 44, 45, 46, 47, 48, 49, 50, 51, 52, 53, 54, 55, 56, 57, 58, 59, 60, 61, 62, 63, 64, 65, 66, 67, 68] (by decide +kernel) (by decide +kernel)
set_option maxRecDepth 20000 in
theorem gX4_mayGo_X4_doesLeave : GoodIn wsX4_mayGo (wsV RX4 116 RX4 yX4_doesLeave wsX4_doesLeave) := goodIn_app (goodIn_of _ (by decide +kernel)) ggX4_mayGo_X4_doesLeave
set_option maxRecDepth 20000 in
theorem ggX4_mayGo_X4_touches : GoodIn wsX4_mayGo wsX4_touches := goodIn_r _ [39, 7, 16, 1, 2, 3, 4, 5, 6, 8, 9, 10, 11, 12, 13, 14, 15, 17, 18, 19, 40, 41, 42, 43, 44, 45, 46, 47, 48, 49, 50, 51, 52, 53, 54, 55, 56, 57, 58, 59, 60, 61, 62, 63, 64, 65, 66, 67, 68] (by decide +kernel) (by decide +kernel)
set_option maxRecDepth 20000 in
theorem gX4_mayGo_X4_touches : GoodIn wsX4_mayGo (wsV RX4 101 RX4 yX4_touches wsX4_touches) := goodIn_app (goodIn_of _ (by decide +kernel)) ggX4_mayGo_X4_touches
theorem dX4_mayGo_0 : decode cX4_mayGo 0 = .ok (.aload_n 0, 1) := by decide +kernel
theorem dX4_mayGo_1 : decode cX4_mayGo 1 = .ok (.getfield 16, 3) := by decide +kernel
theorem dX4_mayGo_4 : decode cX4_mayGo 4 = .ok (.iload_n 1, 1) := by decide +kernel
theorem dX4_mayGo_5 : decode cX4_mayGo 5 = .ok (.iaload, 1) := by decide +kernel
theorem dX4_mayGo_6 : decode cX4_mayGo 6 = .ok (.istore_n 3, 1) := by decide +kernel
theorem dX4_mayGo_7 : decode cX4_mayGo 7 = .ok (.iload_n 3, 1) := by decide +kernel
theorem dX4_mayGo_8 : decode cX4_mayGo 8 = .ok (.bipush (-4), 2) := by decide +kernel
theorem dX4_mayGo_10 : decode cX4_mayGo 10 = .ok (.if_icmp .eq 8, 3) := by decide +kernel
theorem dX4_mayGo_13 : decode cX4_mayGo 13 = .ok (.iload_n 3, 1) := by decide +kernel
theorem dX4_mayGo_14 : decode cX4_mayGo 14 = .ok (.iload_n 2, 1) := by decide +kernel
theorem dX4_mayGo_15 : decode cX4_mayGo 15 = .ok (.if_icmp .ne 5, 3) := by decide +kernel
theorem dX4_mayGo_18 : decode cX4_mayGo 18 = .ok (.iconst 0, 1) := by decide +kernel
theorem dX4_mayGo_19 : decode cX4_mayGo 19 = .ok (.ireturn, 1) := by decide +kernel
theorem dX4_mayGo_20 : decode cX4_mayGo 20 = .ok (.iconst 0, 1) := by decide +kernel
theorem dX4_mayGo_21 : decode cX4_mayGo 21 = .ok (.istore 4, 2) := by decide +kernel
theorem dX4_mayGo_23 : decode cX4_mayGo 23 = .ok (.iconst 0, 1) := by decide +kernel
theorem dX4_mayGo_24 : decode cX4_mayGo 24 = .ok (.istore 5, 2) := by decide +kernel
theorem dX4_mayGo_26 : decode cX4_mayGo 26 = .ok (.iload 5, 2) := by decide +kernel
theorem dX4_mayGo_28 : decode cX4_mayGo 28 = .ok (.iconst 4, 1) := by decide +kernel
theorem dX4_mayGo_29 : decode cX4_mayGo 29 = .ok (.if_icmp .ge 46, 3) := by decide +kernel
theorem dX4_mayGo_32 : decode cX4_mayGo 32 = .ok (.aload_n 0, 1) := by decide +kernel
theorem dX4_mayGo_33 : decode cX4_mayGo 33 = .ok (.iload_n 1, 1) := by decide +kernel
theorem dX4_mayGo_34 : decode cX4_mayGo 34 = .ok (.iload 5, 2) := by decide +kernel
theorem dX4_mayGo_36 : decode cX4_mayGo 36 = .ok (.invokevirtual 92, 3) := by decide +kernel
theorem dX4_mayGo_39 : decode cX4_mayGo 39 = .ok (.istore 6, 2) := by decide +kernel
theorem dX4_mayGo_41 : decode cX4_mayGo 41 = .ok (.iload 4, 2) := by decide +kernel
theorem dX4_mayGo_43 : decode cX4_mayGo 43 = .ok (.ifCond .ne 19, 3) := by decide +kernel
theorem dX4_mayGo_46 : decode cX4_mayGo 46 = .ok (.iload 6, 2) := by decide +kernel
theorem dX4_mayGo_48 : decode cX4_mayGo 48 = .ok (.ifCond .lt 18, 3) := by decide +kernel
theorem dX4_mayGo_51 : decode cX4_mayGo 51 = .ok (.aload_n 0, 1) := by decide +kernel
theorem dX4_mayGo_52 : decode cX4_mayGo 52 = .ok (.getfield 16, 3) := by decide +kernel
theorem dX4_mayGo_55 : decode cX4_mayGo 55 = .ok (.iload 6, 2) := by decide +kernel
theorem dX4_mayGo_57 : decode cX4_mayGo 57 = .ok (.iaload, 1) := by decide +kernel
theorem dX4_mayGo_58 : decode cX4_mayGo 58 = .ok (.iload_n 2, 1) := by decide +kernel
theorem dX4_mayGo_59 : decode cX4_mayGo 59 = .ok (.if_icmp .ne 7, 3) := by decide +kernel
theorem dX4_mayGo_62 : decode cX4_mayGo 62 = .ok (.iconst 1, 1) := by decide +kernel
theorem dX4_mayGo_63 : decode cX4_mayGo 63 = .ok (.goto 4, 3) := by decide +kernel
theorem dX4_mayGo_66 : decode cX4_mayGo 66 = .ok (.iconst 0, 1) := by decide +kernel
theorem dX4_mayGo_67 : decode cX4_mayGo 67 = .ok (.istore 4, 2) := by decide +kernel
theorem dX4_mayGo_69 : decode cX4_mayGo 69 = .ok (.iinc 5 1, 3) := by decide +kernel
theorem dX4_mayGo_72 : decode cX4_mayGo 72 = .ok (.goto (-46), 3) := by decide +kernel
theorem dX4_mayGo_75 : decode cX4_mayGo 75 = .ok (.iload 4, 2) := by decide +kernel
theorem dX4_mayGo_77 : decode cX4_mayGo 77 = .ok (.ifCond .eq 11, 3) := by decide +kernel
theorem dX4_mayGo_80 : decode cX4_mayGo 80 = .ok (.aload_n 0, 1) := by decide +kernel
theorem dX4_mayGo_81 : decode cX4_mayGo 81 = .ok (.iload_n 1, 1) := by decide +kernel
theorem dX4_mayGo_82 : decode cX4_mayGo 82 = .ok (.invokevirtual 116, 3) := by decide +kernel
theorem dX4_mayGo_85 : decode cX4_mayGo 85 = .ok (.ifCond .ne 5, 3) := by decide +kernel
theorem dX4_mayGo_88 : decode cX4_mayGo 88 = .ok (.iconst 0, 1) := by decide +kernel
theorem dX4_mayGo_89 : decode cX4_mayGo 89 = .ok (.ireturn, 1) := by decide +kernel
theorem dX4_mayGo_90 : decode cX4_mayGo 90 = .ok (.aload_n 0, 1) := by decide +kernel
theorem dX4_mayGo_91 : decode cX4_mayGo 91 = .ok (.invokevirtual 101, 3) := by decide +kernel
theorem dX4_mayGo_94 : decode cX4_mayGo 94 = .ok (.lstore 5, 2) := by decide +kernel
theorem dX4_mayGo_96 : decode cX4_mayGo 96 = .ok (.aload_n 0, 1) := by decide +kernel
theorem dX4_mayGo_97 : decode cX4_mayGo 97 = .ok (.getfield 16, 3) := by decide +kernel
theorem dX4_mayGo_100 : decode cX4_mayGo 100 = .ok (.iload_n 1, 1) := by decide +kernel
theorem dX4_mayGo_101 : decode cX4_mayGo 101 = .ok (.iload_n 2, 1) := by decide +kernel
theorem dX4_mayGo_102 : decode cX4_mayGo 102 = .ok (.iastore, 1) := by decide +kernel
theorem dX4_mayGo_103 : decode cX4_mayGo 103 = .ok (.aload_n 0, 1) := by decide +kernel
theorem dX4_mayGo_104 : decode cX4_mayGo 104 = .ok (.invokevirtual 101, 3) := by decide +kernel
theorem dX4_mayGo_107 : decode cX4_mayGo 107 = .ok (.lload 5, 2) := by decide +kernel
theorem dX4_mayGo_109 : decode cX4_mayGo 109 = .ok (.lcmp, 1) := by decide +kernel
theorem dX4_mayGo_110 : decode cX4_mayGo 110 = .ok (.ifCond .ne 7, 3) := by decide +kernel
theorem dX4_mayGo_113 : decode cX4_mayGo 113 = .ok (.iconst 1, 1) := by decide +kernel
theorem dX4_mayGo_114 : decode cX4_mayGo 114 = .ok (.goto 4, 3) := by decide +kernel
theorem dX4_mayGo_117 : decode cX4_mayGo 117 = .ok (.iconst 0, 1) := by decide +kernel
theorem dX4_mayGo_118 : decode cX4_mayGo 118 = .ok (.istore 7, 2) := by decide +kernel
theorem dX4_mayGo_120 : decode cX4_mayGo 120 = .ok (.aload_n 0, 1) := by decide +kernel
theorem dX4_mayGo_121 : decode cX4_mayGo 121 = .ok (.getfield 16, 3) := by decide +kernel
theorem dX4_mayGo_124 : decode cX4_mayGo 124 = .ok (.iload_n 1, 1) := by decide +kernel
theorem dX4_mayGo_125 : decode cX4_mayGo 125 = .ok (.iload_n 3, 1) := by decide +kernel
theorem dX4_mayGo_126 : decode cX4_mayGo 126 = .ok (.iastore, 1) := by decide +kernel
theorem dX4_mayGo_127 : decode cX4_mayGo 127 = .ok (.iload 7, 2) := by decide +kernel
theorem dX4_mayGo_129 : decode cX4_mayGo 129 = .ok (.ireturn, 1) := by decide +kernel
set_option maxRecDepth 20000 in
theorem ggX4_may_X4_cellAt : GoodIn wsX4_may wsX4_cellAt := goodIn_r _ [5, 6, 7, 8, 9, 4, 10, 11, 12, 13, 14, 50, 51, 52, 53, 54, 55, 56, 57, 58, 59, 60, 61, 62, 63, 64, 65, 66, 67, 68, 69, 70, 71, 72, 73, 74, 75] (by decide +kernel) (by decide +kernel)
set_option maxRecDepth 20000 in
theorem gX4_may_X4_cellAt : GoodIn wsX4_may (wsV RX4 80 RX4 yX4_cellAt wsX4_cellAt) := goodIn_app (goodIn_of _ (by decide +kernel)) ggX4_may_X4_cellAt
set_option maxRecDepth 20000 in
theorem ggX4_may_X4_isLand : GoodIn wsX4_may wsX4_isLand := goodIn_r _ [17, 12, 13, 4, 14] (by decide +kernel) (by decide +kernel)
set_option maxRecDepth 20000 in
theorem gX4_may_X4_isLand : GoodIn wsX4_may (va_wsS RX4 84 yX4_isLand wsX4_isLand) := goodIn_app (goodIn_of _ (by decide +kernel)) ggX4_may_X4_isLand
set_option maxRecDepth 20000 in
theorem ggX4_may_X4_mayGo : GoodIn wsX4_may wsX4_mayGo := goodIn_r _ [21, 22, 23, 24, 25, 4, 26, 6, 1, 2, 3, 5, 7, 8, 9, 10, 11, 12, 13, 14, 27, 28, 29, 30, 31, 32, 33, 34, 35, 36, 37, 38, 39, 40, 41, 42, 43, 44, 45, 46, 47, 48, 49, 50, 51, 52, 53, 54, 55, 56, 57, 58, 59, 60, 61, 62, 63, 64, 65, 66, 67, 68, 69, 70, 71, 72, 73, 74, 75] (by decide +kernel) (by decide +kernel)
set_option maxRecDepth 20000 in
theorem gX4_may_X4_mayGo : GoodIn wsX4_may (wsV RX4 119 RX4 yX4_mayGo wsX4_mayGo) := goodIn_app (goodIn_of _ (by decide +kernel)) ggX4_may_X4_mayGo
theorem dX4_may_0 : decode cX4_may 0 = .ok (.aload_n 0, 1) := by decide +kernel
theorem dX4_may_1 : decode cX4_may 1 = .ok (.iload_n 1, 1) := by decide +kernel
theorem dX4_may_2 : decode cX4_may 2 = .ok (.iload_n 2, 1) := by decide +kernel
theorem dX4_may_3 : decode cX4_may 3 = .ok (.invokevirtual 80, 3) := by decide +kernel
theorem dX4_may_6 : decode cX4_may 6 = .ok (.istore 4, 2) := by decide +kernel
theorem dX4_may_8 : decode cX4_may 8 = .ok (.iload 4, 2) := by decide +kernel
theorem dX4_may_10 : decode cX4_may 10 = .ok (.ifCond .lt 10, 3) := by decide +kernel
theorem dX4_may_13 : decode cX4_may 13 = .ok (.iload_n 3, 1) := by decide +kernel
theorem dX4_may_14 : decode cX4_may 14 = .ok (.invokestatic 84, 3) := by decide +kernel
theorem dX4_may_17 : decode cX4_may 17 = .ok (.ifCond .ne 5, 3) := by decide +kernel
theorem dX4_may_20 : decode cX4_may 20 = .ok (.iconst (-1), 1) := by decide +kernel
theorem dX4_may_21 : decode cX4_may 21 = .ok (.ireturn, 1) := by decide +kernel
theorem dX4_may_22 : decode cX4_may 22 = .ok (.aload_n 0, 1) := by decide +kernel
theorem dX4_may_23 : decode cX4_may 23 = .ok (.iload 4, 2) := by decide +kernel
theorem dX4_may_25 : decode cX4_may 25 = .ok (.iload_n 3, 1) := by decide +kernel
theorem dX4_may_26 : decode cX4_may 26 = .ok (.invokevirtual 119, 3) := by decide +kernel
theorem dX4_may_29 : decode cX4_may 29 = .ok (.ifCond .eq 7, 3) := by decide +kernel
theorem dX4_may_32 : decode cX4_may 32 = .ok (.iconst 1, 1) := by decide +kernel
theorem dX4_may_33 : decode cX4_may 33 = .ok (.goto 4, 3) := by decide +kernel
theorem dX4_may_36 : decode cX4_may 36 = .ok (.iconst 0, 1) := by decide +kernel
theorem dX4_may_37 : decode cX4_may 37 = .ok (.ireturn, 1) := by decide +kernel
theorem dX4_goes_0 : decode cX4_goes 0 = .ok (.aload_n 0, 1) := by decide +kernel
theorem dX4_goes_1 : decode cX4_goes 1 = .ok (.getfield 29, 3) := by decide +kernel
theorem dX4_goes_4 : decode cX4_goes 4 = .ok (.aload_n 0, 1) := by decide +kernel
theorem dX4_goes_5 : decode cX4_goes 5 = .ok (.getfield 122, 3) := by decide +kernel
theorem dX4_goes_8 : decode cX4_goes 8 = .ok (.iload_n 1, 1) := by decide +kernel
theorem dX4_goes_9 : decode cX4_goes 9 = .ok (.iastore, 1) := by decide +kernel
theorem dX4_goes_10 : decode cX4_goes 10 = .ok (.aload_n 0, 1) := by decide +kernel
theorem dX4_goes_11 : decode cX4_goes 11 = .ok (.getfield 32, 3) := by decide +kernel
theorem dX4_goes_14 : decode cX4_goes 14 = .ok (.aload_n 0, 1) := by decide +kernel
theorem dX4_goes_15 : decode cX4_goes 15 = .ok (.getfield 122, 3) := by decide +kernel
theorem dX4_goes_18 : decode cX4_goes 18 = .ok (.aload_n 0, 1) := by decide +kernel
theorem dX4_goes_19 : decode cX4_goes 19 = .ok (.getfield 16, 3) := by decide +kernel
theorem dX4_goes_22 : decode cX4_goes 22 = .ok (.iload_n 1, 1) := by decide +kernel
theorem dX4_goes_23 : decode cX4_goes 23 = .ok (.iaload, 1) := by decide +kernel
theorem dX4_goes_24 : decode cX4_goes 24 = .ok (.iastore, 1) := by decide +kernel
theorem dX4_goes_25 : decode cX4_goes 25 = .ok (.aload_n 0, 1) := by decide +kernel
theorem dX4_goes_26 : decode cX4_goes 26 = .ok (.aload_n 0, 1) := by decide +kernel
theorem dX4_goes_27 : decode cX4_goes 27 = .ok (.getfield 122, 3) := by decide +kernel
theorem dX4_goes_30 : decode cX4_goes 30 = .ok (.iconst 1, 1) := by decide +kernel
theorem dX4_goes_31 : decode cX4_goes 31 = .ok (.iadd, 1) := by decide +kernel
theorem dX4_goes_32 : decode cX4_goes 32 = .ok (.bipush 100, 2) := by decide +kernel
theorem dX4_goes_34 : decode cX4_goes 34 = .ok (.irem, 1) := by decide +kernel
theorem dX4_goes_35 : decode cX4_goes 35 = .ok (.putfield 122, 3) := by decide +kernel
theorem dX4_goes_38 : decode cX4_goes 38 = .ok (.aload_n 0, 1) := by decide +kernel
theorem dX4_goes_39 : decode cX4_goes 39 = .ok (.dup, 1) := by decide +kernel
theorem dX4_goes_40 : decode cX4_goes 40 = .ok (.getfield 69, 3) := by decide +kernel
theorem dX4_goes_43 : decode cX4_goes 43 = .ok (.aload_n 0, 1) := by decide +kernel
theorem dX4_goes_44 : decode cX4_goes 44 = .ok (.getfield 69, 3) := by decide +kernel
theorem dX4_goes_47 : decode cX4_goes 47 = .ok (.bipush 100, 2) := by decide +kernel
theorem dX4_goes_49 : decode cX4_goes 49 = .ok (.if_icmp .ne 7, 3) := by decide +kernel
theorem dX4_goes_52 : decode cX4_goes 52 = .ok (.iconst 0, 1) := by decide +kernel
theorem dX4_goes_53 : decode cX4_goes 53 = .ok (.goto 4, 3) := by decide +kernel
theorem dX4_goes_56 : decode cX4_goes 56 = .ok (.iconst 1, 1) := by decide +kernel
theorem dX4_goes_57 : decode cX4_goes 57 = .ok (.iadd, 1) := by decide +kernel
theorem dX4_goes_58 : decode cX4_goes 58 = .ok (.putfield 69, 3) := by decide +kernel
theorem dX4_goes_61 : decode cX4_goes 61 = .ok (.aload_n 0, 1) := by decide +kernel
theorem dX4_goes_62 : decode cX4_goes 62 = .ok (.dup, 1) := by decide +kernel
theorem dX4_goes_63 : decode cX4_goes 63 = .ok (.getfield 125, 3) := by decide +kernel
theorem dX4_goes_66 : decode cX4_goes 66 = .ok (.iconst 1, 1) := by decide +kernel
theorem dX4_goes_67 : decode cX4_goes 67 = .ok (.iadd, 1) := by decide +kernel
theorem dX4_goes_68 : decode cX4_goes 68 = .ok (.putfield 125, 3) := by decide +kernel
theorem dX4_goes_71 : decode cX4_goes 71 = .ok (.aload_n 0, 1) := by decide +kernel
theorem dX4_goes_72 : decode cX4_goes 72 = .ok (.getfield 16, 3) := by decide +kernel
theorem dX4_goes_75 : decode cX4_goes 75 = .ok (.iload_n 1, 1) := by decide +kernel
theorem dX4_goes_76 : decode cX4_goes 76 = .ok (.iload_n 2, 1) := by decide +kernel
theorem dX4_goes_77 : decode cX4_goes 77 = .ok (.iastore, 1) := by decide +kernel
theorem dX4_goes_78 : decode cX4_goes 78 = .ok (.return_, 1) := by decide +kernel
set_option maxRecDepth 20000 in
theorem ggX4_move_X4_cellAt : GoodIn wsX4_move wsX4_cellAt := goodIn_r _ [6, 7, 8, 9, 10, 5, 11, 12, 13, 14, 15, 59, 60, 61, 62, 63, 64, 65, 66, 67, 68, 69, 70, 71, 72, 73, 74, 75, 76, 77, 78, 79, 80, 81, 82, 83, 84] (by decide +kernel) (by decide +kernel)
set_option maxRecDepth 20000 in
theorem gX4_move_X4_cellAt : GoodIn wsX4_move (wsV RX4 80 RX4 yX4_cellAt wsX4_cellAt) := goodIn_app (goodIn_of _ (by decide +kernel)) ggX4_move_X4_cellAt
set_option maxRecDepth 20000 in
theorem ggX4_move_X4_isLand : GoodIn wsX4_move wsX4_isLand := goodIn_r _ [18, 13, 14, 5, 15] (by decide +kernel) (by decide +kernel)
set_option maxRecDepth 20000 in
theorem gX4_move_X4_isLand : GoodIn wsX4_move (va_wsS RX4 84 yX4_isLand wsX4_isLand) := goodIn_app (goodIn_of _ (by decide +kernel)) ggX4_move_X4_isLand
set_option maxRecDepth 20000 in
theorem ggX4_move_X4_mayGo : GoodIn wsX4_move wsX4_mayGo := goodIn_r _ [22, 1, 23, 24, 25, 5, 26, 7, 2, 3, 4, 6, 8, 9, 10, 11, 12, 13, 14, 15, 27, 28, 29, 30, 31, 32, 33, 34, 35, 36, 37, 38, 39, 40, 41, 42, 43, 44, 45, 46, 47, 48, 49, 59, 60, 61, 62, 63, 64, 65, 66, 67, 68, 69, 70, 71, 72, 73, 74, 75, 76, 77, 78, 79, 80, 81, 82, 83, 84] (by decide +kernel) (by decide +kernel)
set_option maxRecDepth 20000 in
theorem gX4_move_X4_mayGo : GoodIn wsX4_move (wsV RX4 119 RX4 yX4_mayGo wsX4_mayGo) := goodIn_app (goodIn_of _ (by decide +kernel)) ggX4_move_X4_mayGo
set_option maxRecDepth 20000 in
theorem ggX4_move_X4_goes : GoodIn wsX4_move wsX4_goes := goodIn_r _ [53, 54, 55, 56, 1, 57, 58, 59, 60, 61, 62, 63, 64, 65, 66, 67, 68, 69, 70, 71, 72, 73, 74, 75, 76, 77, 78, 79, 80, 81, 82, 83, 84] (by decide +kernel) (by decide +kernel)
set_option maxRecDepth 20000 in
theorem gX4_move_X4_goes : GoodIn wsX4_move (wsV RX4 128 RX4 yX4_goes wsX4_goes) := goodIn_app (goodIn_of _ (by decide +kernel)) ggX4_move_X4_goes
theorem dX4_move_0 : decode cX4_move 0 = .ok (.aload_n 0, 1) := by decide +kernel
theorem dX4_move_1 : decode cX4_move 1 = .ok (.iload_n 1, 1) := by decide +kernel
theorem dX4_move_2 : decode cX4_move 2 = .ok (.iload_n 2, 1) := by decide +kernel
theorem dX4_move_3 : decode cX4_move 3 = .ok (.invokevirtual 80, 3) := by decide +kernel
theorem dX4_move_6 : decode cX4_move 6 = .ok (.istore 4, 2) := by decide +kernel
theorem dX4_move_8 : decode cX4_move 8 = .ok (.iload 4, 2) := by decide +kernel
theorem dX4_move_10 : decode cX4_move 10 = .ok (.ifCond .lt 10, 3) := by decide +kernel
theorem dX4_move_13 : decode cX4_move 13 = .ok (.iload_n 3, 1) := by decide +kernel
theorem dX4_move_14 : decode cX4_move 14 = .ok (.invokestatic 84, 3) := by decide +kernel
theorem dX4_move_17 : decode cX4_move 17 = .ok (.ifCond .ne 5, 3) := by decide +kernel
theorem dX4_move_20 : decode cX4_move 20 = .ok (.iconst (-1), 1) := by decide +kernel
theorem dX4_move_21 : decode cX4_move 21 = .ok (.ireturn, 1) := by decide +kernel
theorem dX4_move_22 : decode cX4_move 22 = .ok (.aload_n 0, 1) := by decide +kernel
theorem dX4_move_23 : decode cX4_move 23 = .ok (.iload 4, 2) := by decide +kernel
theorem dX4_move_25 : decode cX4_move 25 = .ok (.iload_n 3, 1) := by decide +kernel
theorem dX4_move_26 : decode cX4_move 26 = .ok (.invokevirtual 119, 3) := by decide +kernel
theorem dX4_move_29 : decode cX4_move 29 = .ok (.ifCond .ne 6, 3) := by decide +kernel
theorem dX4_move_32 : decode cX4_move 32 = .ok (.bipush (-2), 2) := by decide +kernel
theorem dX4_move_34 : decode cX4_move 34 = .ok (.ireturn, 1) := by decide +kernel
theorem dX4_move_35 : decode cX4_move 35 = .ok (.aload_n 0, 1) := by decide +kernel
theorem dX4_move_36 : decode cX4_move 36 = .ok (.getfield 16, 3) := by decide +kernel
theorem dX4_move_39 : decode cX4_move 39 = .ok (.iload 4, 2) := by decide +kernel
theorem dX4_move_41 : decode cX4_move 41 = .ok (.iaload, 1) := by decide +kernel
theorem dX4_move_42 : decode cX4_move 42 = .ok (.istore 5, 2) := by decide +kernel
theorem dX4_move_44 : decode cX4_move 44 = .ok (.aload_n 0, 1) := by decide +kernel
theorem dX4_move_45 : decode cX4_move 45 = .ok (.iload 4, 2) := by decide +kernel
theorem dX4_move_47 : decode cX4_move 47 = .ok (.iload_n 3, 1) := by decide +kernel
theorem dX4_move_48 : decode cX4_move 48 = .ok (.invokevirtual 128, 3) := by decide +kernel
theorem dX4_move_51 : decode cX4_move 51 = .ok (.iload 5, 2) := by decide +kernel
theorem dX4_move_53 : decode cX4_move 53 = .ok (.ireturn, 1) := by decide +kernel
set_option maxRecDepth 20000 in
theorem ggX4_want_X4_isLand : GoodIn wsX4_want wsX4_isLand := goodIn_r _ [5, 6, 7, 4, 8] (by decide +kernel) (by decide +kernel)
set_option maxRecDepth 20000 in
theorem gX4_want_X4_isLand : GoodIn wsX4_want (va_wsS RX4 84 yX4_isLand wsX4_isLand) := goodIn_app (goodIn_of _ (by decide +kernel)) ggX4_want_X4_isLand
set_option maxRecDepth 20000 in
theorem ggX4_want_X4_in : GoodIn wsX4_want wsX4_in := goodIn_r _ [8] (by decide +kernel) (by decide +kernel)
set_option maxRecDepth 20000 in
theorem gX4_want_X4_in : GoodIn wsX4_want (va_wsS RX4 72 yX4_in wsX4_in) := goodIn_app (goodIn_of _ (by decide +kernel)) ggX4_want_X4_in
theorem dX4_want_0 : decode cX4_want 0 = .ok (.iload_n 1, 1) := by decide +kernel
theorem dX4_want_1 : decode cX4_want 1 = .ok (.invokestatic 84, 3) := by decide +kernel
theorem dX4_want_4 : decode cX4_want 4 = .ok (.ifCond .eq 13, 3) := by decide +kernel
theorem dX4_want_7 : decode cX4_want 7 = .ok (.iload_n 2, 1) := by decide +kernel
theorem dX4_want_8 : decode cX4_want 8 = .ok (.iconst 0, 1) := by decide +kernel
theorem dX4_want_9 : decode cX4_want 9 = .ok (.bipush 64, 2) := by decide +kernel
theorem dX4_want_11 : decode cX4_want 11 = .ok (.invokestatic 72, 3) := by decide +kernel
theorem dX4_want_14 : decode cX4_want 14 = .ok (.ifCond .ne 5, 3) := by decide +kernel
theorem dX4_want_17 : decode cX4_want 17 = .ok (.iconst (-1), 1) := by decide +kernel
theorem dX4_want_18 : decode cX4_want 18 = .ok (.ireturn, 1) := by decide +kernel
theorem dX4_want_19 : decode cX4_want 19 = .ok (.aload_n 0, 1) := by decide +kernel
theorem dX4_want_20 : decode cX4_want 20 = .ok (.getfield 26, 3) := by decide +kernel
theorem dX4_want_23 : decode cX4_want 23 = .ok (.iload_n 1, 1) := by decide +kernel
theorem dX4_want_24 : decode cX4_want 24 = .ok (.iaload, 1) := by decide +kernel
theorem dX4_want_25 : decode cX4_want 25 = .ok (.istore_n 3, 1) := by decide +kernel
theorem dX4_want_26 : decode cX4_want 26 = .ok (.aload_n 0, 1) := by decide +kernel
theorem dX4_want_27 : decode cX4_want 27 = .ok (.getfield 26, 3) := by decide +kernel
theorem dX4_want_30 : decode cX4_want 30 = .ok (.iload_n 1, 1) := by decide +kernel
theorem dX4_want_31 : decode cX4_want 31 = .ok (.iload_n 2, 1) := by decide +kernel
theorem dX4_want_32 : decode cX4_want 32 = .ok (.iastore, 1) := by decide +kernel
theorem dX4_want_33 : decode cX4_want 33 = .ok (.iload_n 3, 1) := by decide +kernel
theorem dX4_want_34 : decode cX4_want 34 = .ok (.ireturn, 1) := by decide +kernel
set_option maxRecDepth 20000 in
theorem ggX4_missNow_X4_sizeOf : GoodIn wsX4_missNow wsX4_sizeOf := goodIn_r _ [6, 7, 8, 9, 10, 11, 12, 13, 14, 15, 16, 17, 18, 19, 20, 21, 22, 23, 24, 25, 26, 27, 28, 29, 30, 31, 32, 33, 34, 35] (by decide +kernel) (by decide +kernel)
set_option maxRecDepth 20000 in
theorem gX4_missNow_X4_sizeOf : GoodIn wsX4_missNow (wsV RX4 88 RX4 yX4_sizeOf wsX4_sizeOf) := goodIn_app (goodIn_of _ (by decide +kernel)) ggX4_missNow_X4_sizeOf
theorem dX4_missNow_0 : decode cX4_missNow 0 = .ok (.iconst 0, 1) := by decide +kernel
theorem dX4_missNow_1 : decode cX4_missNow 1 = .ok (.istore_n 1, 1) := by decide +kernel
theorem dX4_missNow_2 : decode cX4_missNow 2 = .ok (.iconst 0, 1) := by decide +kernel
theorem dX4_missNow_3 : decode cX4_missNow 3 = .ok (.istore_n 2, 1) := by decide +kernel
theorem dX4_missNow_4 : decode cX4_missNow 4 = .ok (.iload_n 2, 1) := by decide +kernel
theorem dX4_missNow_5 : decode cX4_missNow 5 = .ok (.bipush 6, 2) := by decide +kernel
theorem dX4_missNow_7 : decode cX4_missNow 7 = .ok (.if_icmp .ge 49, 3) := by decide +kernel
theorem dX4_missNow_10 : decode cX4_missNow 10 = .ok (.aload_n 0, 1) := by decide +kernel
theorem dX4_missNow_11 : decode cX4_missNow 11 = .ok (.iload_n 2, 1) := by decide +kernel
theorem dX4_missNow_12 : decode cX4_missNow 12 = .ok (.invokevirtual 88, 3) := by decide +kernel
theorem dX4_missNow_15 : decode cX4_missNow 15 = .ok (.istore_n 3, 1) := by decide +kernel
theorem dX4_missNow_16 : decode cX4_missNow 16 = .ok (.iload_n 3, 1) := by decide +kernel
theorem dX4_missNow_17 : decode cX4_missNow 17 = .ok (.aload_n 0, 1) := by decide +kernel
theorem dX4_missNow_18 : decode cX4_missNow 18 = .ok (.getfield 26, 3) := by decide +kernel
theorem dX4_missNow_21 : decode cX4_missNow 21 = .ok (.iload_n 2, 1) := by decide +kernel
theorem dX4_missNow_22 : decode cX4_missNow 22 = .ok (.iaload, 1) := by decide +kernel
theorem dX4_missNow_23 : decode cX4_missNow 23 = .ok (.isub, 1) := by decide +kernel
theorem dX4_missNow_24 : decode cX4_missNow 24 = .ok (.istore 4, 2) := by decide +kernel
theorem dX4_missNow_26 : decode cX4_missNow 26 = .ok (.iload_n 1, 1) := by decide +kernel
theorem dX4_missNow_27 : decode cX4_missNow 27 = .ok (.iload_n 3, 1) := by decide +kernel
theorem dX4_missNow_28 : decode cX4_missNow 28 = .ok (.ifCond .ne 7, 3) := by decide +kernel
theorem dX4_missNow_31 : decode cX4_missNow 31 = .ok (.iconst 0, 1) := by decide +kernel
theorem dX4_missNow_32 : decode cX4_missNow 32 = .ok (.goto 16, 3) := by decide +kernel
theorem dX4_missNow_35 : decode cX4_missNow 35 = .ok (.iload 4, 2) := by decide +kernel
theorem dX4_missNow_37 : decode cX4_missNow 37 = .ok (.ifCond .ge 9, 3) := by decide +kernel
theorem dX4_missNow_40 : decode cX4_missNow 40 = .ok (.iload 4, 2) := by decide +kernel
theorem dX4_missNow_42 : decode cX4_missNow 42 = .ok (.ineg, 1) := by decide +kernel
theorem dX4_missNow_43 : decode cX4_missNow 43 = .ok (.goto 5, 3) := by decide +kernel
theorem dX4_missNow_46 : decode cX4_missNow 46 = .ok (.iload 4, 2) := by decide +kernel
theorem dX4_missNow_48 : decode cX4_missNow 48 = .ok (.iadd, 1) := by decide +kernel
theorem dX4_missNow_49 : decode cX4_missNow 49 = .ok (.istore_n 1, 1) := by decide +kernel
theorem dX4_missNow_50 : decode cX4_missNow 50 = .ok (.iinc 2 1, 3) := by decide +kernel
theorem dX4_missNow_53 : decode cX4_missNow 53 = .ok (.goto (-49), 3) := by decide +kernel
theorem dX4_missNow_56 : decode cX4_missNow 56 = .ok (.iload_n 1, 1) := by decide +kernel
theorem dX4_missNow_57 : decode cX4_missNow 57 = .ok (.ireturn, 1) := by decide +kernel
set_option maxRecDepth 20000 in
theorem ggX4_miss_X4_missNow : GoodIn wsX4_miss wsX4_missNow := goodIn_r _ [5, 6, 7, 8, 9, 4, 10, 11, 12, 13, 14, 15, 16, 17, 18, 19, 20, 21, 22, 23, 24, 25, 26, 27, 28, 29, 30, 31, 32, 33, 34, 35, 36, 37, 38, 39] (by decide +kernel) (by decide +kernel)
set_option maxRecDepth 20000 in
theorem gX4_miss_X4_missNow : GoodIn wsX4_miss (wsV RX4 132 RX4 yX4_missNow wsX4_missNow) := goodIn_app (goodIn_of _ (by decide +kernel)) ggX4_miss_X4_missNow
theorem dX4_miss_0 : decode cX4_miss 0 = .ok (.aload_n 0, 1) := by decide +kernel
theorem dX4_miss_1 : decode cX4_miss 1 = .ok (.invokevirtual 132, 3) := by decide +kernel
theorem dX4_miss_4 : decode cX4_miss 4 = .ok (.ireturn, 1) := by decide +kernel
set_option maxRecDepth 20000 in
theorem ggX4_goesOn_X4_missNow : GoodIn wsX4_goesOn wsX4_missNow := goodIn_r _ [8, 9, 10, 11, 12, 7, 13, 1, 2, 3, 61, 62, 63, 64, 65, 66, 67, 68, 69, 70, 71, 72, 73, 74, 75, 76, 77, 78, 79, 80, 81, 82, 83, 84, 85, 86] (by decide +kernel) (by decide +kernel)
set_option maxRecDepth 20000 in
theorem gX4_goesOn_X4_missNow : GoodIn wsX4_goesOn (wsV RX4 132 RX4 yX4_missNow wsX4_missNow) := goodIn_app (goodIn_of _ (by decide +kernel)) ggX4_goesOn_X4_missNow
set_option maxRecDepth 20000 in
theorem ggX4_goesOn_X4_mayGo : GoodIn wsX4_goesOn wsX4_mayGo := goodIn_r _ [17, 3, 18, 19, 20, 7, 21, 1, 22, 23, 24, 25, 26, 27, 28, 29, 2, 30, 31, 32, 33, 34, 35, 36, 37, 38, 39, 40, 41, 42, 43, 44, 10, 11, 12, 13, 45, 46, 47, 48, 49, 50, 51, 61, 62, 63, 64, 65, 66, 67, 68, 69, 70, 71, 72, 73, 74, 75, 76, 77, 78, 79, 80, 81, 82, 83, 84, 85, 86] (by decide +kernel) (by decide +kernel)
set_option maxRecDepth 20000 in
theorem gX4_goesOn_X4_mayGo : GoodIn wsX4_goesOn (wsV RX4 119 RX4 yX4_mayGo wsX4_mayGo) := goodIn_app (goodIn_of _ (by decide +kernel)) ggX4_goesOn_X4_mayGo
set_option maxRecDepth 20000 in
theorem ggX4_goesOn_X4_goes : GoodIn wsX4_goesOn wsX4_goes := goodIn_r _ [55, 56, 57, 58, 3, 59, 60, 61, 62, 63, 64, 65, 66, 67, 68, 69, 70, 71, 72, 73, 74, 75, 76, 77, 78, 79, 80, 81, 82, 83, 84, 85, 86] (by decide +kernel) (by decide +kernel)
set_option maxRecDepth 20000 in
theorem gX4_goesOn_X4_goes : GoodIn wsX4_goesOn (wsV RX4 128 RX4 yX4_goes wsX4_goes) := goodIn_app (goodIn_of _ (by decide +kernel)) ggX4_goesOn_X4_goes
theorem dX4_goesOn_0 : decode cX4_goesOn 0 = .ok (.aload_n 0, 1) := by decide +kernel
theorem dX4_goesOn_1 : decode cX4_goesOn 1 = .ok (.invokevirtual 132, 3) := by decide +kernel
theorem dX4_goesOn_4 : decode cX4_goesOn 4 = .ok (.istore_n 1, 1) := by decide +kernel
theorem dX4_goesOn_5 : decode cX4_goesOn 5 = .ok (.iconst (-1), 1) := by decide +kernel
theorem dX4_goesOn_6 : decode cX4_goesOn 6 = .ok (.istore_n 2, 1) := by decide +kernel
theorem dX4_goesOn_7 : decode cX4_goesOn 7 = .ok (.iconst 0, 1) := by decide +kernel
theorem dX4_goesOn_8 : decode cX4_goesOn 8 = .ok (.istore_n 3, 1) := by decide +kernel
theorem dX4_goesOn_9 : decode cX4_goesOn 9 = .ok (.iconst 0, 1) := by decide +kernel
theorem dX4_goesOn_10 : decode cX4_goesOn 10 = .ok (.istore 4, 2) := by decide +kernel
theorem dX4_goesOn_12 : decode cX4_goesOn 12 = .ok (.iload 4, 2) := by decide +kernel
theorem dX4_goesOn_14 : decode cX4_goesOn 14 = .ok (.aload_n 0, 1) := by decide +kernel
theorem dX4_goesOn_15 : decode cX4_goesOn 15 = .ok (.getfield 7, 3) := by decide +kernel
theorem dX4_goesOn_18 : decode cX4_goesOn 18 = .ok (.aload_n 0, 1) := by decide +kernel
theorem dX4_goesOn_19 : decode cX4_goesOn 19 = .ok (.getfield 13, 3) := by decide +kernel
theorem dX4_goesOn_22 : decode cX4_goesOn 22 = .ok (.imul, 1) := by decide +kernel
theorem dX4_goesOn_23 : decode cX4_goesOn 23 = .ok (.if_icmp .ge 108, 3) := by decide +kernel
theorem dX4_goesOn_26 : decode cX4_goesOn 26 = .ok (.iconst 0, 1) := by decide +kernel
theorem dX4_goesOn_27 : decode cX4_goesOn 27 = .ok (.istore 5, 2) := by decide +kernel
theorem dX4_goesOn_29 : decode cX4_goesOn 29 = .ok (.iload 5, 2) := by decide +kernel
theorem dX4_goesOn_31 : decode cX4_goesOn 31 = .ok (.bipush 6, 2) := by decide +kernel
theorem dX4_goesOn_33 : decode cX4_goesOn 33 = .ok (.if_icmp .ge 92, 3) := by decide +kernel
theorem dX4_goesOn_36 : decode cX4_goesOn 36 = .ok (.aload_n 0, 1) := by decide +kernel
theorem dX4_goesOn_37 : decode cX4_goesOn 37 = .ok (.iload 4, 2) := by decide +kernel
theorem dX4_goesOn_39 : decode cX4_goesOn 39 = .ok (.iload 5, 2) := by decide +kernel
theorem dX4_goesOn_41 : decode cX4_goesOn 41 = .ok (.invokevirtual 119, 3) := by decide +kernel
theorem dX4_goesOn_44 : decode cX4_goesOn 44 = .ok (.ifCond .eq 75, 3) := by decide +kernel
theorem dX4_goesOn_47 : decode cX4_goesOn 47 = .ok (.aload_n 0, 1) := by decide +kernel
theorem dX4_goesOn_48 : decode cX4_goesOn 48 = .ok (.getfield 16, 3) := by decide +kernel
theorem dX4_goesOn_51 : decode cX4_goesOn 51 = .ok (.iload 4, 2) := by decide +kernel
theorem dX4_goesOn_53 : decode cX4_goesOn 53 = .ok (.iaload, 1) := by decide +kernel
theorem dX4_goesOn_54 : decode cX4_goesOn 54 = .ok (.istore 6, 2) := by decide +kernel
theorem dX4_goesOn_56 : decode cX4_goesOn 56 = .ok (.aload_n 0, 1) := by decide +kernel
theorem dX4_goesOn_57 : decode cX4_goesOn 57 = .ok (.getfield 16, 3) := by decide +kernel
theorem dX4_goesOn_60 : decode cX4_goesOn 60 = .ok (.iload 4, 2) := by decide +kernel
theorem dX4_goesOn_62 : decode cX4_goesOn 62 = .ok (.iload 5, 2) := by decide +kernel
theorem dX4_goesOn_64 : decode cX4_goesOn 64 = .ok (.iastore, 1) := by decide +kernel
theorem dX4_goesOn_65 : decode cX4_goesOn 65 = .ok (.aload_n 0, 1) := by decide +kernel
theorem dX4_goesOn_66 : decode cX4_goesOn 66 = .ok (.invokevirtual 132, 3) := by decide +kernel
theorem dX4_goesOn_69 : decode cX4_goesOn 69 = .ok (.istore 7, 2) := by decide +kernel
theorem dX4_goesOn_71 : decode cX4_goesOn 71 = .ok (.aload_n 0, 1) := by decide +kernel
theorem dX4_goesOn_72 : decode cX4_goesOn 72 = .ok (.getfield 16, 3) := by decide +kernel
theorem dX4_goesOn_75 : decode cX4_goesOn 75 = .ok (.iload 4, 2) := by decide +kernel
theorem dX4_goesOn_77 : decode cX4_goesOn 77 = .ok (.iload 6, 2) := by decide +kernel
theorem dX4_goesOn_79 : decode cX4_goesOn 79 = .ok (.iastore, 1) := by decide +kernel
theorem dX4_goesOn_80 : decode cX4_goesOn 80 = .ok (.iload 7, 2) := by decide +kernel
theorem dX4_goesOn_82 : decode cX4_goesOn 82 = .ok (.iload_n 1, 1) := by decide +kernel
theorem dX4_goesOn_83 : decode cX4_goesOn 83 = .ok (.if_icmp .ge 8, 3) := by decide +kernel
theorem dX4_goesOn_86 : decode cX4_goesOn 86 = .ok (.iload 4, 2) := by decide +kernel
theorem dX4_goesOn_88 : decode cX4_goesOn 88 = .ok (.goto 4, 3) := by decide +kernel
theorem dX4_goesOn_91 : decode cX4_goesOn 91 = .ok (.iload_n 2, 1) := by decide +kernel
theorem dX4_goesOn_92 : decode cX4_goesOn 92 = .ok (.istore_n 2, 1) := by decide +kernel
theorem dX4_goesOn_93 : decode cX4_goesOn 93 = .ok (.iload 7, 2) := by decide +kernel
theorem dX4_goesOn_95 : decode cX4_goesOn 95 = .ok (.iload_n 1, 1) := by decide +kernel
theorem dX4_goesOn_96 : decode cX4_goesOn 96 = .ok (.if_icmp .ge 8, 3) := by decide +kernel
theorem dX4_goesOn_99 : decode cX4_goesOn 99 = .ok (.iload 5, 2) := by decide +kernel
theorem dX4_goesOn_101 : decode cX4_goesOn 101 = .ok (.goto 4, 3) := by decide +kernel
theorem dX4_goesOn_104 : decode cX4_goesOn 104 = .ok (.iload_n 3, 1) := by decide +kernel
theorem dX4_goesOn_105 : decode cX4_goesOn 105 = .ok (.istore_n 3, 1) := by decide +kernel
theorem dX4_goesOn_106 : decode cX4_goesOn 106 = .ok (.iload 7, 2) := by decide +kernel
theorem dX4_goesOn_108 : decode cX4_goesOn 108 = .ok (.iload_n 1, 1) := by decide +kernel
theorem dX4_goesOn_109 : decode cX4_goesOn 109 = .ok (.if_icmp .ge 8, 3) := by decide +kernel
theorem dX4_goesOn_112 : decode cX4_goesOn 112 = .ok (.iload 7, 2) := by decide +kernel
theorem dX4_goesOn_114 : decode cX4_goesOn 114 = .ok (.goto 4, 3) := by decide +kernel
theorem dX4_goesOn_117 : decode cX4_goesOn 117 = .ok (.iload_n 1, 1) := by decide +kernel
theorem dX4_goesOn_118 : decode cX4_goesOn 118 = .ok (.istore_n 1, 1) := by decide +kernel
theorem dX4_goesOn_119 : decode cX4_goesOn 119 = .ok (.iinc 5 1, 3) := by decide +kernel
theorem dX4_goesOn_122 : decode cX4_goesOn 122 = .ok (.goto (-93), 3) := by decide +kernel
theorem dX4_goesOn_125 : decode cX4_goesOn 125 = .ok (.iinc 4 1, 3) := by decide +kernel
theorem dX4_goesOn_128 : decode cX4_goesOn 128 = .ok (.goto (-116), 3) := by decide +kernel
theorem dX4_goesOn_131 : decode cX4_goesOn 131 = .ok (.iload_n 2, 1) := by decide +kernel
theorem dX4_goesOn_132 : decode cX4_goesOn 132 = .ok (.ifCond .ge 5, 3) := by decide +kernel
theorem dX4_goesOn_135 : decode cX4_goesOn 135 = .ok (.iconst 0, 1) := by decide +kernel
theorem dX4_goesOn_136 : decode cX4_goesOn 136 = .ok (.ireturn, 1) := by decide +kernel
theorem dX4_goesOn_137 : decode cX4_goesOn 137 = .ok (.aload_n 0, 1) := by decide +kernel
theorem dX4_goesOn_138 : decode cX4_goesOn 138 = .ok (.iload_n 2, 1) := by decide +kernel
theorem dX4_goesOn_139 : decode cX4_goesOn 139 = .ok (.iload_n 3, 1) := by decide +kernel
theorem dX4_goesOn_140 : decode cX4_goesOn 140 = .ok (.invokevirtual 128, 3) := by decide +kernel
theorem dX4_goesOn_143 : decode cX4_goesOn 143 = .ok (.iconst 1, 1) := by decide +kernel
theorem dX4_goesOn_144 : decode cX4_goesOn 144 = .ok (.ireturn, 1) := by decide +kernel
set_option maxRecDepth 20000 in
theorem ggX4_steps_X4_in : GoodIn wsX4_steps wsX4_in := goodIn_r _ [4] (by decide +kernel) (by decide +kernel)
set_option maxRecDepth 20000 in
theorem gX4_steps_X4_in : GoodIn wsX4_steps (va_wsS RX4 72 yX4_in wsX4_in) := goodIn_app (goodIn_of _ (by decide +kernel)) ggX4_steps_X4_in
set_option maxRecDepth 20000 in
theorem ggX4_steps_X4_goesOn : GoodIn wsX4_steps wsX4_goesOn := goodIn_r _ [8, 9, 10, 11, 12, 13, 14, 3, 15, 16, 17, 18, 19, 20, 21, 22, 23, 24, 25, 26, 27, 28, 29, 30, 31, 32, 33, 34, 35, 36, 1, 2, 4, 37, 38, 39, 40, 41, 42, 43, 44, 45, 46, 47, 48, 49, 50, 51, 52, 53, 54, 55, 56, 57, 58, 59, 60, 61, 62, 63, 64, 65, 66, 67, 68, 69, 70, 71, 72, 73, 74, 75, 76, 77, 78, 79, 80, 81, 82, 83, 84, 85, 86, 87, 88, 89, 90] (by decide +kernel) (by decide +kernel)
set_option maxRecDepth 20000 in
theorem gX4_steps_X4_goesOn : GoodIn wsX4_steps (wsV RX4 136 RX4 yX4_goesOn wsX4_goesOn) := goodIn_app (goodIn_of _ (by decide +kernel)) ggX4_steps_X4_goesOn
theorem dX4_steps_0 : decode cX4_steps 0 = .ok (.iload_n 1, 1) := by decide +kernel
theorem dX4_steps_1 : decode cX4_steps 1 = .ok (.iconst 1, 1) := by decide +kernel
theorem dX4_steps_2 : decode cX4_steps 2 = .ok (.bipush 64, 2) := by decide +kernel
theorem dX4_steps_4 : decode cX4_steps 4 = .ok (.invokestatic 72, 3) := by decide +kernel
theorem dX4_steps_7 : decode cX4_steps 7 = .ok (.ifCond .ne 5, 3) := by decide +kernel
theorem dX4_steps_10 : decode cX4_steps 10 = .ok (.iconst (-1), 1) := by decide +kernel
theorem dX4_steps_11 : decode cX4_steps 11 = .ok (.ireturn, 1) := by decide +kernel
theorem dX4_steps_12 : decode cX4_steps 12 = .ok (.iconst 0, 1) := by decide +kernel
theorem dX4_steps_13 : decode cX4_steps 13 = .ok (.istore_n 2, 1) := by decide +kernel
theorem dX4_steps_14 : decode cX4_steps 14 = .ok (.iconst 1, 1) := by decide +kernel
theorem dX4_steps_15 : decode cX4_steps 15 = .ok (.istore_n 3, 1) := by decide +kernel
theorem dX4_steps_16 : decode cX4_steps 16 = .ok (.iload_n 3, 1) := by decide +kernel
theorem dX4_steps_17 : decode cX4_steps 17 = .ok (.ifCond .eq 28, 3) := by decide +kernel
theorem dX4_steps_20 : decode cX4_steps 20 = .ok (.iload_n 2, 1) := by decide +kernel
theorem dX4_steps_21 : decode cX4_steps 21 = .ok (.iload_n 1, 1) := by decide +kernel
theorem dX4_steps_22 : decode cX4_steps 22 = .ok (.if_icmp .ge 23, 3) := by decide +kernel
theorem dX4_steps_25 : decode cX4_steps 25 = .ok (.aload_n 0, 1) := by decide +kernel
theorem dX4_steps_26 : decode cX4_steps 26 = .ok (.invokevirtual 136, 3) := by decide +kernel
theorem dX4_steps_29 : decode cX4_steps 29 = .ok (.istore_n 3, 1) := by decide +kernel
theorem dX4_steps_30 : decode cX4_steps 30 = .ok (.iload_n 2, 1) := by decide +kernel
theorem dX4_steps_31 : decode cX4_steps 31 = .ok (.iload_n 3, 1) := by decide +kernel
theorem dX4_steps_32 : decode cX4_steps 32 = .ok (.ifCond .eq 7, 3) := by decide +kernel
theorem dX4_steps_35 : decode cX4_steps 35 = .ok (.iconst 1, 1) := by decide +kernel
theorem dX4_steps_36 : decode cX4_steps 36 = .ok (.goto 4, 3) := by decide +kernel
theorem dX4_steps_39 : decode cX4_steps 39 = .ok (.iconst 0, 1) := by decide +kernel
theorem dX4_steps_40 : decode cX4_steps 40 = .ok (.iadd, 1) := by decide +kernel
theorem dX4_steps_41 : decode cX4_steps 41 = .ok (.istore_n 2, 1) := by decide +kernel
theorem dX4_steps_42 : decode cX4_steps 42 = .ok (.goto (-26), 3) := by decide +kernel
theorem dX4_steps_45 : decode cX4_steps 45 = .ok (.iload_n 2, 1) := by decide +kernel
theorem dX4_steps_46 : decode cX4_steps 46 = .ok (.ireturn, 1) := by decide +kernel
set_option maxRecDepth 20000 in
theorem ggX4_undo_X4_in : GoodIn wsX4_undo wsX4_in := goodIn_r _ [9] (by decide +kernel) (by decide +kernel)
set_option maxRecDepth 20000 in
theorem gX4_undo_X4_in : GoodIn wsX4_undo (va_wsS RX4 72 yX4_in wsX4_in) := goodIn_app (goodIn_of _ (by decide +kernel)) ggX4_undo_X4_in
theorem dX4_undo_0 : decode cX4_undo 0 = .ok (.iload_n 1, 1) := by decide +kernel
theorem dX4_undo_1 : decode cX4_undo 1 = .ok (.iconst 1, 1) := by decide +kernel
theorem dX4_undo_2 : decode cX4_undo 2 = .ok (.bipush 100, 2) := by decide +kernel
theorem dX4_undo_4 : decode cX4_undo 4 = .ok (.invokestatic 72, 3) := by decide +kernel
theorem dX4_undo_7 : decode cX4_undo 7 = .ok (.ifCond .ne 5, 3) := by decide +kernel
theorem dX4_undo_10 : decode cX4_undo 10 = .ok (.iconst (-1), 1) := by decide +kernel
theorem dX4_undo_11 : decode cX4_undo 11 = .ok (.ireturn, 1) := by decide +kernel
theorem dX4_undo_12 : decode cX4_undo 12 = .ok (.iconst 0, 1) := by decide +kernel
theorem dX4_undo_13 : decode cX4_undo 13 = .ok (.istore_n 2, 1) := by decide +kernel
theorem dX4_undo_14 : decode cX4_undo 14 = .ok (.iload_n 2, 1) := by decide +kernel
theorem dX4_undo_15 : decode cX4_undo 15 = .ok (.iload_n 1, 1) := by decide +kernel
theorem dX4_undo_16 : decode cX4_undo 16 = .ok (.if_icmp .ge 65, 3) := by decide +kernel
theorem dX4_undo_19 : decode cX4_undo 19 = .ok (.aload_n 0, 1) := by decide +kernel
theorem dX4_undo_20 : decode cX4_undo 20 = .ok (.getfield 69, 3) := by decide +kernel
theorem dX4_undo_23 : decode cX4_undo 23 = .ok (.ifCond .le 58, 3) := by decide +kernel
theorem dX4_undo_26 : decode cX4_undo 26 = .ok (.aload_n 0, 1) := by decide +kernel
theorem dX4_undo_27 : decode cX4_undo 27 = .ok (.aload_n 0, 1) := by decide +kernel
theorem dX4_undo_28 : decode cX4_undo 28 = .ok (.getfield 122, 3) := by decide +kernel
theorem dX4_undo_31 : decode cX4_undo 31 = .ok (.bipush 100, 2) := by decide +kernel
theorem dX4_undo_33 : decode cX4_undo 33 = .ok (.iadd, 1) := by decide +kernel
theorem dX4_undo_34 : decode cX4_undo 34 = .ok (.iconst 1, 1) := by decide +kernel
theorem dX4_undo_35 : decode cX4_undo 35 = .ok (.isub, 1) := by decide +kernel
theorem dX4_undo_36 : decode cX4_undo 36 = .ok (.bipush 100, 2) := by decide +kernel
theorem dX4_undo_38 : decode cX4_undo 38 = .ok (.irem, 1) := by decide +kernel
theorem dX4_undo_39 : decode cX4_undo 39 = .ok (.putfield 122, 3) := by decide +kernel
theorem dX4_undo_42 : decode cX4_undo 42 = .ok (.aload_n 0, 1) := by decide +kernel
theorem dX4_undo_43 : decode cX4_undo 43 = .ok (.getfield 16, 3) := by decide +kernel
theorem dX4_undo_46 : decode cX4_undo 46 = .ok (.aload_n 0, 1) := by decide +kernel
theorem dX4_undo_47 : decode cX4_undo 47 = .ok (.getfield 29, 3) := by decide +kernel
theorem dX4_undo_50 : decode cX4_undo 50 = .ok (.aload_n 0, 1) := by decide +kernel
theorem dX4_undo_51 : decode cX4_undo 51 = .ok (.getfield 122, 3) := by decide +kernel
theorem dX4_undo_54 : decode cX4_undo 54 = .ok (.iaload, 1) := by decide +kernel
theorem dX4_undo_55 : decode cX4_undo 55 = .ok (.aload_n 0, 1) := by decide +kernel
theorem dX4_undo_56 : decode cX4_undo 56 = .ok (.getfield 32, 3) := by decide +kernel
theorem dX4_undo_59 : decode cX4_undo 59 = .ok (.aload_n 0, 1) := by decide +kernel
theorem dX4_undo_60 : decode cX4_undo 60 = .ok (.getfield 122, 3) := by decide +kernel
theorem dX4_undo_63 : decode cX4_undo 63 = .ok (.iaload, 1) := by decide +kernel
theorem dX4_undo_64 : decode cX4_undo 64 = .ok (.iastore, 1) := by decide +kernel
theorem dX4_undo_65 : decode cX4_undo 65 = .ok (.aload_n 0, 1) := by decide +kernel
theorem dX4_undo_66 : decode cX4_undo 66 = .ok (.dup, 1) := by decide +kernel
theorem dX4_undo_67 : decode cX4_undo 67 = .ok (.getfield 69, 3) := by decide +kernel
theorem dX4_undo_70 : decode cX4_undo 70 = .ok (.iconst 1, 1) := by decide +kernel
theorem dX4_undo_71 : decode cX4_undo 71 = .ok (.isub, 1) := by decide +kernel
theorem dX4_undo_72 : decode cX4_undo 72 = .ok (.putfield 69, 3) := by decide +kernel
theorem dX4_undo_75 : decode cX4_undo 75 = .ok (.iinc 2 1, 3) := by decide +kernel
theorem dX4_undo_78 : decode cX4_undo 78 = .ok (.goto (-64), 3) := by decide +kernel
theorem dX4_undo_81 : decode cX4_undo 81 = .ok (.iload_n 2, 1) := by decide +kernel
theorem dX4_undo_82 : decode cX4_undo 82 = .ok (.ireturn, 1) := by decide +kernel
set_option maxRecDepth 20000 in
theorem ggX4_sound_X4_beside : GoodIn wsX4_sound wsX4_beside := goodIn_r _ [9, 1, 10, 11, 12, 8, 13, 14, 15, 16, 17, 2, 18, 19, 20, 21, 22, 23, 24, 25, 26, 27, 28, 29, 30, 31, 32, 33, 34, 35, 36, 37, 38, 39, 40, 41, 42, 43, 44, 45, 46] (by decide +kernel) (by decide +kernel)
set_option maxRecDepth 20000 in
theorem gX4_sound_X4_beside : GoodIn wsX4_sound (wsV RX4 92 RX4 yX4_beside wsX4_beside) := goodIn_app (goodIn_of _ (by decide +kernel)) ggX4_sound_X4_beside
theorem dX4_sound_0 : decode cX4_sound 0 = .ok (.iconst 0, 1) := by decide +kernel
theorem dX4_sound_1 : decode cX4_sound 1 = .ok (.istore_n 2, 1) := by decide +kernel
theorem dX4_sound_2 : decode cX4_sound 2 = .ok (.iload_n 2, 1) := by decide +kernel
theorem dX4_sound_3 : decode cX4_sound 3 = .ok (.aload_n 0, 1) := by decide +kernel
theorem dX4_sound_4 : decode cX4_sound 4 = .ok (.getfield 7, 3) := by decide +kernel
theorem dX4_sound_7 : decode cX4_sound 7 = .ok (.aload_n 0, 1) := by decide +kernel
theorem dX4_sound_8 : decode cX4_sound 8 = .ok (.getfield 13, 3) := by decide +kernel
theorem dX4_sound_11 : decode cX4_sound 11 = .ok (.imul, 1) := by decide +kernel
theorem dX4_sound_12 : decode cX4_sound 12 = .ok (.if_icmp .ge 31, 3) := by decide +kernel
theorem dX4_sound_15 : decode cX4_sound 15 = .ok (.aload_n 0, 1) := by decide +kernel
theorem dX4_sound_16 : decode cX4_sound 16 = .ok (.getfield 54, 3) := by decide +kernel
theorem dX4_sound_19 : decode cX4_sound 19 = .ok (.iload_n 2, 1) := by decide +kernel
theorem dX4_sound_20 : decode cX4_sound 20 = .ok (.aload_n 0, 1) := by decide +kernel
theorem dX4_sound_21 : decode cX4_sound 21 = .ok (.getfield 16, 3) := by decide +kernel
theorem dX4_sound_24 : decode cX4_sound 24 = .ok (.iload_n 2, 1) := by decide +kernel
theorem dX4_sound_25 : decode cX4_sound 25 = .ok (.iaload, 1) := by decide +kernel
theorem dX4_sound_26 : decode cX4_sound 26 = .ok (.iload_n 1, 1) := by decide +kernel
theorem dX4_sound_27 : decode cX4_sound 27 = .ok (.if_icmp .ne 8, 3) := by decide +kernel
theorem dX4_sound_30 : decode cX4_sound 30 = .ok (.bipush 100, 2) := by decide +kernel
theorem dX4_sound_32 : decode cX4_sound 32 = .ok (.goto 4, 3) := by decide +kernel
theorem dX4_sound_35 : decode cX4_sound 35 = .ok (.iconst 0, 1) := by decide +kernel
theorem dX4_sound_36 : decode cX4_sound 36 = .ok (.iastore, 1) := by decide +kernel
theorem dX4_sound_37 : decode cX4_sound 37 = .ok (.iinc 2 1, 3) := by decide +kernel
theorem dX4_sound_40 : decode cX4_sound 40 = .ok (.goto (-38), 3) := by decide +kernel
theorem dX4_sound_43 : decode cX4_sound 43 = .ok (.iconst 1, 1) := by decide +kernel
theorem dX4_sound_44 : decode cX4_sound 44 = .ok (.istore_n 2, 1) := by decide +kernel
theorem dX4_sound_45 : decode cX4_sound 45 = .ok (.iload_n 2, 1) := by decide +kernel
theorem dX4_sound_46 : decode cX4_sound 46 = .ok (.ifCond .eq 94, 3) := by decide +kernel
theorem dX4_sound_49 : decode cX4_sound 49 = .ok (.iconst 0, 1) := by decide +kernel
theorem dX4_sound_50 : decode cX4_sound 50 = .ok (.istore_n 2, 1) := by decide +kernel
theorem dX4_sound_51 : decode cX4_sound 51 = .ok (.iconst 0, 1) := by decide +kernel
theorem dX4_sound_52 : decode cX4_sound 52 = .ok (.istore_n 3, 1) := by decide +kernel
theorem dX4_sound_53 : decode cX4_sound 53 = .ok (.iload_n 3, 1) := by decide +kernel
theorem dX4_sound_54 : decode cX4_sound 54 = .ok (.aload_n 0, 1) := by decide +kernel
theorem dX4_sound_55 : decode cX4_sound 55 = .ok (.getfield 7, 3) := by decide +kernel
theorem dX4_sound_58 : decode cX4_sound 58 = .ok (.aload_n 0, 1) := by decide +kernel
theorem dX4_sound_59 : decode cX4_sound 59 = .ok (.getfield 13, 3) := by decide +kernel
theorem dX4_sound_62 : decode cX4_sound 62 = .ok (.imul, 1) := by decide +kernel
theorem dX4_sound_63 : decode cX4_sound 63 = .ok (.if_icmp .ge 74, 3) := by decide +kernel
theorem dX4_sound_66 : decode cX4_sound 66 = .ok (.iconst 0, 1) := by decide +kernel
theorem dX4_sound_67 : decode cX4_sound 67 = .ok (.istore 4, 2) := by decide +kernel
theorem dX4_sound_69 : decode cX4_sound 69 = .ok (.iload 4, 2) := by decide +kernel
theorem dX4_sound_71 : decode cX4_sound 71 = .ok (.iconst 4, 1) := by decide +kernel
theorem dX4_sound_72 : decode cX4_sound 72 = .ok (.if_icmp .ge 59, 3) := by decide +kernel
theorem dX4_sound_75 : decode cX4_sound 75 = .ok (.aload_n 0, 1) := by decide +kernel
theorem dX4_sound_76 : decode cX4_sound 76 = .ok (.iload_n 3, 1) := by decide +kernel
theorem dX4_sound_77 : decode cX4_sound 77 = .ok (.iload 4, 2) := by decide +kernel
theorem dX4_sound_79 : decode cX4_sound 79 = .ok (.invokevirtual 92, 3) := by decide +kernel
theorem dX4_sound_82 : decode cX4_sound 82 = .ok (.istore 5, 2) := by decide +kernel
theorem dX4_sound_84 : decode cX4_sound 84 = .ok (.iload 5, 2) := by decide +kernel
theorem dX4_sound_86 : decode cX4_sound 86 = .ok (.ifCond .ge 7, 3) := by decide +kernel
theorem dX4_sound_89 : decode cX4_sound 89 = .ok (.iconst 1, 1) := by decide +kernel
theorem dX4_sound_90 : decode cX4_sound 90 = .ok (.goto 12, 3) := by decide +kernel
theorem dX4_sound_93 : decode cX4_sound 93 = .ok (.aload_n 0, 1) := by decide +kernel
theorem dX4_sound_94 : decode cX4_sound 94 = .ok (.getfield 54, 3) := by decide +kernel
theorem dX4_sound_97 : decode cX4_sound 97 = .ok (.iload 5, 2) := by decide +kernel
theorem dX4_sound_99 : decode cX4_sound 99 = .ok (.iaload, 1) := by decide +kernel
theorem dX4_sound_100 : decode cX4_sound 100 = .ok (.iconst 1, 1) := by decide +kernel
theorem dX4_sound_101 : decode cX4_sound 101 = .ok (.iadd, 1) := by decide +kernel
theorem dX4_sound_102 : decode cX4_sound 102 = .ok (.istore 6, 2) := by decide +kernel
theorem dX4_sound_104 : decode cX4_sound 104 = .ok (.aload_n 0, 1) := by decide +kernel
theorem dX4_sound_105 : decode cX4_sound 105 = .ok (.getfield 54, 3) := by decide +kernel
theorem dX4_sound_108 : decode cX4_sound 108 = .ok (.iload_n 3, 1) := by decide +kernel
theorem dX4_sound_109 : decode cX4_sound 109 = .ok (.iaload, 1) := by decide +kernel
theorem dX4_sound_110 : decode cX4_sound 110 = .ok (.iload 6, 2) := by decide +kernel
theorem dX4_sound_112 : decode cX4_sound 112 = .ok (.if_icmp .le 13, 3) := by decide +kernel
theorem dX4_sound_115 : decode cX4_sound 115 = .ok (.aload_n 0, 1) := by decide +kernel
theorem dX4_sound_116 : decode cX4_sound 116 = .ok (.getfield 54, 3) := by decide +kernel
theorem dX4_sound_119 : decode cX4_sound 119 = .ok (.iload_n 3, 1) := by decide +kernel
theorem dX4_sound_120 : decode cX4_sound 120 = .ok (.iload 6, 2) := by decide +kernel
theorem dX4_sound_122 : decode cX4_sound 122 = .ok (.iastore, 1) := by decide +kernel
theorem dX4_sound_123 : decode cX4_sound 123 = .ok (.iconst 1, 1) := by decide +kernel
theorem dX4_sound_124 : decode cX4_sound 124 = .ok (.istore_n 2, 1) := by decide +kernel
theorem dX4_sound_125 : decode cX4_sound 125 = .ok (.iinc 4 1, 3) := by decide +kernel
theorem dX4_sound_128 : decode cX4_sound 128 = .ok (.goto (-59), 3) := by decide +kernel
theorem dX4_sound_131 : decode cX4_sound 131 = .ok (.iinc 3 1, 3) := by decide +kernel
theorem dX4_sound_134 : decode cX4_sound 134 = .ok (.goto (-81), 3) := by decide +kernel
theorem dX4_sound_137 : decode cX4_sound 137 = .ok (.goto (-92), 3) := by decide +kernel
theorem dX4_sound_140 : decode cX4_sound 140 = .ok (.return_, 1) := by decide +kernel
set_option maxRecDepth 20000 in
theorem ggX4_label_X4_isLand : GoodIn wsX4_label wsX4_isLand := goodIn_r _ [7, 8, 9, 6, 10] (by decide +kernel) (by decide +kernel)
set_option maxRecDepth 20000 in
theorem gX4_label_X4_isLand : GoodIn wsX4_label (va_wsS RX4 84 yX4_isLand wsX4_isLand) := goodIn_app (goodIn_of _ (by decide +kernel)) ggX4_label_X4_isLand
set_option maxRecDepth 20000 in
theorem ggX4_label_X4_in : GoodIn wsX4_label wsX4_in := goodIn_r _ [10] (by decide +kernel) (by decide +kernel)
set_option maxRecDepth 20000 in
theorem gX4_label_X4_in : GoodIn wsX4_label (va_wsS RX4 72 yX4_in wsX4_in) := goodIn_app (goodIn_of _ (by decide +kernel)) ggX4_label_X4_in
set_option maxRecDepth 20000 in
theorem ggX4_label_X4_sizeOf : GoodIn wsX4_label wsX4_sizeOf := goodIn_r _ [14, 1, 2, 15, 32, 33, 34, 35, 36, 37, 38, 39, 40, 41, 42, 43, 44, 45, 46, 47, 48, 49, 50, 51, 52, 53, 54, 55, 56, 57] (by decide +kernel) (by decide +kernel)
set_option maxRecDepth 20000 in
theorem gX4_label_X4_sizeOf : GoodIn wsX4_label (wsV RX4 88 RX4 yX4_sizeOf wsX4_sizeOf) := goodIn_app (goodIn_of _ (by decide +kernel)) ggX4_label_X4_sizeOf
set_option maxRecDepth 20000 in
theorem ggX4_label_X4_sound : GoodIn wsX4_label wsX4_sound := goodIn_r _ [19, 1, 2, 3, 15, 20, 21, 22, 6, 23, 24, 25, 26, 27, 28, 29, 30, 31, 8, 9, 10, 32, 33, 34, 35, 36, 37, 38, 39, 40, 41, 42, 43, 44, 45, 46, 47, 48, 49, 50, 51, 52, 53, 54, 55, 56, 57] (by decide +kernel) (by decide +kernel)
set_option maxRecDepth 20000 in
theorem gX4_label_X4_sound : GoodIn wsX4_label (wsV RX4 140 RX4 yX4_sound wsX4_sound) := goodIn_app (goodIn_of _ (by decide +kernel)) ggX4_label_X4_sound
theorem dX4_label_0 : decode cX4_label 0 = .ok (.iload_n 1, 1) := by decide +kernel
theorem dX4_label_1 : decode cX4_label 1 = .ok (.invokestatic 84, 3) := by decide +kernel
theorem dX4_label_4 : decode cX4_label 4 = .ok (.ifCond .eq 12, 3) := by decide +kernel
theorem dX4_label_7 : decode cX4_label 7 = .ok (.iload_n 2, 1) := by decide +kernel
theorem dX4_label_8 : decode cX4_label 8 = .ok (.iconst 0, 1) := by decide +kernel
theorem dX4_label_9 : decode cX4_label 9 = .ok (.iconst 2, 1) := by decide +kernel
theorem dX4_label_10 : decode cX4_label 10 = .ok (.invokestatic 72, 3) := by decide +kernel
theorem dX4_label_13 : decode cX4_label 13 = .ok (.ifCond .ne 5, 3) := by decide +kernel
theorem dX4_label_16 : decode cX4_label 16 = .ok (.iconst (-1), 1) := by decide +kernel
theorem dX4_label_17 : decode cX4_label 17 = .ok (.ireturn, 1) := by decide +kernel
theorem dX4_label_18 : decode cX4_label 18 = .ok (.aload_n 0, 1) := by decide +kernel
theorem dX4_label_19 : decode cX4_label 19 = .ok (.iload_n 1, 1) := by decide +kernel
theorem dX4_label_20 : decode cX4_label 20 = .ok (.invokevirtual 88, 3) := by decide +kernel
theorem dX4_label_23 : decode cX4_label 23 = .ok (.ifCond .ne 6, 3) := by decide +kernel
theorem dX4_label_26 : decode cX4_label 26 = .ok (.bipush (-9), 2) := by decide +kernel
theorem dX4_label_28 : decode cX4_label 28 = .ok (.ireturn, 1) := by decide +kernel
theorem dX4_label_29 : decode cX4_label 29 = .ok (.aload_n 0, 1) := by decide +kernel
theorem dX4_label_30 : decode cX4_label 30 = .ok (.iload_n 1, 1) := by decide +kernel
theorem dX4_label_31 : decode cX4_label 31 = .ok (.invokevirtual 140, 3) := by decide +kernel
theorem dX4_label_34 : decode cX4_label 34 = .ok (.iconst 0, 1) := by decide +kernel
theorem dX4_label_35 : decode cX4_label 35 = .ok (.istore_n 3, 1) := by decide +kernel
theorem dX4_label_36 : decode cX4_label 36 = .ok (.iconst 1, 1) := by decide +kernel
theorem dX4_label_37 : decode cX4_label 37 = .ok (.istore 4, 2) := by decide +kernel
theorem dX4_label_39 : decode cX4_label 39 = .ok (.iload 4, 2) := by decide +kernel
theorem dX4_label_41 : decode cX4_label 41 = .ok (.aload_n 0, 1) := by decide +kernel
theorem dX4_label_42 : decode cX4_label 42 = .ok (.getfield 7, 3) := by decide +kernel
theorem dX4_label_45 : decode cX4_label 45 = .ok (.aload_n 0, 1) := by decide +kernel
theorem dX4_label_46 : decode cX4_label 46 = .ok (.getfield 13, 3) := by decide +kernel
theorem dX4_label_49 : decode cX4_label 49 = .ok (.imul, 1) := by decide +kernel
theorem dX4_label_50 : decode cX4_label 50 = .ok (.if_icmp .ge 32, 3) := by decide +kernel
theorem dX4_label_53 : decode cX4_label 53 = .ok (.aload_n 0, 1) := by decide +kernel
theorem dX4_label_54 : decode cX4_label 54 = .ok (.getfield 54, 3) := by decide +kernel
theorem dX4_label_57 : decode cX4_label 57 = .ok (.iload 4, 2) := by decide +kernel
theorem dX4_label_59 : decode cX4_label 59 = .ok (.iaload, 1) := by decide +kernel
theorem dX4_label_60 : decode cX4_label 60 = .ok (.aload_n 0, 1) := by decide +kernel
theorem dX4_label_61 : decode cX4_label 61 = .ok (.getfield 54, 3) := by decide +kernel
theorem dX4_label_64 : decode cX4_label 64 = .ok (.iload_n 3, 1) := by decide +kernel
theorem dX4_label_65 : decode cX4_label 65 = .ok (.iaload, 1) := by decide +kernel
theorem dX4_label_66 : decode cX4_label 66 = .ok (.if_icmp .le 8, 3) := by decide +kernel
theorem dX4_label_69 : decode cX4_label 69 = .ok (.iload 4, 2) := by decide +kernel
theorem dX4_label_71 : decode cX4_label 71 = .ok (.goto 4, 3) := by decide +kernel
theorem dX4_label_74 : decode cX4_label 74 = .ok (.iload_n 3, 1) := by decide +kernel
theorem dX4_label_75 : decode cX4_label 75 = .ok (.istore_n 3, 1) := by decide +kernel
theorem dX4_label_76 : decode cX4_label 76 = .ok (.iinc 4 1, 3) := by decide +kernel
theorem dX4_label_79 : decode cX4_label 79 = .ok (.goto (-40), 3) := by decide +kernel
theorem dX4_label_82 : decode cX4_label 82 = .ok (.iload_n 2, 1) := by decide +kernel
theorem dX4_label_83 : decode cX4_label 83 = .ok (.ifCond .ne 12, 3) := by decide +kernel
theorem dX4_label_86 : decode cX4_label 86 = .ok (.iload_n 3, 1) := by decide +kernel
theorem dX4_label_87 : decode cX4_label 87 = .ok (.aload_n 0, 1) := by decide +kernel
theorem dX4_label_88 : decode cX4_label 88 = .ok (.getfield 7, 3) := by decide +kernel
theorem dX4_label_91 : decode cX4_label 91 = .ok (.irem, 1) := by decide +kernel
theorem dX4_label_92 : decode cX4_label 92 = .ok (.goto 23, 3) := by decide +kernel
theorem dX4_label_95 : decode cX4_label 95 = .ok (.iload_n 2, 1) := by decide +kernel
theorem dX4_label_96 : decode cX4_label 96 = .ok (.iconst 1, 1) := by decide +kernel
theorem dX4_label_97 : decode cX4_label 97 = .ok (.if_icmp .ne 12, 3) := by decide +kernel
theorem dX4_label_100 : decode cX4_label 100 = .ok (.iload_n 3, 1) := by decide +kernel
theorem dX4_label_101 : decode cX4_label 101 = .ok (.aload_n 0, 1) := by decide +kernel
theorem dX4_label_102 : decode cX4_label 102 = .ok (.getfield 7, 3) := by decide +kernel
theorem dX4_label_105 : decode cX4_label 105 = .ok (.idiv, 1) := by decide +kernel
theorem dX4_label_106 : decode cX4_label 106 = .ok (.goto 9, 3) := by decide +kernel
theorem dX4_label_109 : decode cX4_label 109 = .ok (.aload_n 0, 1) := by decide +kernel
theorem dX4_label_110 : decode cX4_label 110 = .ok (.getfield 54, 3) := by decide +kernel
theorem dX4_label_113 : decode cX4_label 113 = .ok (.iload_n 3, 1) := by decide +kernel
theorem dX4_label_114 : decode cX4_label 114 = .ok (.iaload, 1) := by decide +kernel
theorem dX4_label_115 : decode cX4_label 115 = .ok (.ireturn, 1) := by decide +kernel
set_option maxRecDepth 20000 in
theorem ggX4_weigh_X4_sizeOf : GoodIn wsX4_weigh wsX4_sizeOf := goodIn_r _ [9, 10, 11, 12, 13, 14, 15, 16, 17, 18, 19, 20, 21, 22, 23, 24, 25, 26, 27, 28, 29, 30, 31, 32, 33, 34, 35, 36, 37, 38] (by decide +kernel) (by decide +kernel)
set_option maxRecDepth 20000 in
theorem gX4_weigh_X4_sizeOf : GoodIn wsX4_weigh (wsV RX4 88 RX4 yX4_sizeOf wsX4_sizeOf) := goodIn_app (goodIn_of _ (by decide +kernel)) ggX4_weigh_X4_sizeOf
theorem dX4_weigh_0 : decode cX4_weigh 0 = .ok (.aload_n 0, 1) := by decide +kernel
theorem dX4_weigh_1 : decode cX4_weigh 1 = .ok (.iconst 0, 1) := by decide +kernel
theorem dX4_weigh_2 : decode cX4_weigh 2 = .ok (.putfield 144, 3) := by decide +kernel
theorem dX4_weigh_5 : decode cX4_weigh 5 = .ok (.aload_n 0, 1) := by decide +kernel
theorem dX4_weigh_6 : decode cX4_weigh 6 = .ok (.iconst 0, 1) := by decide +kernel
theorem dX4_weigh_7 : decode cX4_weigh 7 = .ok (.putfield 147, 3) := by decide +kernel
theorem dX4_weigh_10 : decode cX4_weigh 10 = .ok (.iconst 0, 1) := by decide +kernel
theorem dX4_weigh_11 : decode cX4_weigh 11 = .ok (.istore_n 1, 1) := by decide +kernel
theorem dX4_weigh_12 : decode cX4_weigh 12 = .ok (.iload_n 1, 1) := by decide +kernel
theorem dX4_weigh_13 : decode cX4_weigh 13 = .ok (.bipush 6, 2) := by decide +kernel
theorem dX4_weigh_15 : decode cX4_weigh 15 = .ok (.if_icmp .ge 59, 3) := by decide +kernel
theorem dX4_weigh_18 : decode cX4_weigh 18 = .ok (.aload_n 0, 1) := by decide +kernel
theorem dX4_weigh_19 : decode cX4_weigh 19 = .ok (.iload_n 1, 1) := by decide +kernel
theorem dX4_weigh_20 : decode cX4_weigh 20 = .ok (.invokevirtual 88, 3) := by decide +kernel
theorem dX4_weigh_23 : decode cX4_weigh 23 = .ok (.istore_n 2, 1) := by decide +kernel
theorem dX4_weigh_24 : decode cX4_weigh 24 = .ok (.iload_n 2, 1) := by decide +kernel
theorem dX4_weigh_25 : decode cX4_weigh 25 = .ok (.ifCond .le 43, 3) := by decide +kernel
theorem dX4_weigh_28 : decode cX4_weigh 28 = .ok (.aload_n 0, 1) := by decide +kernel
theorem dX4_weigh_29 : decode cX4_weigh 29 = .ok (.getfield 57, 3) := by decide +kernel
theorem dX4_weigh_32 : decode cX4_weigh 32 = .ok (.aload_n 0, 1) := by decide +kernel
theorem dX4_weigh_33 : decode cX4_weigh 33 = .ok (.getfield 144, 3) := by decide +kernel
theorem dX4_weigh_36 : decode cX4_weigh 36 = .ok (.iload_n 2, 1) := by decide +kernel
theorem dX4_weigh_37 : decode cX4_weigh 37 = .ok (.iastore, 1) := by decide +kernel
theorem dX4_weigh_38 : decode cX4_weigh 38 = .ok (.aload_n 0, 1) := by decide +kernel
theorem dX4_weigh_39 : decode cX4_weigh 39 = .ok (.getfield 60, 3) := by decide +kernel
theorem dX4_weigh_42 : decode cX4_weigh 42 = .ok (.aload_n 0, 1) := by decide +kernel
theorem dX4_weigh_43 : decode cX4_weigh 43 = .ok (.getfield 144, 3) := by decide +kernel
theorem dX4_weigh_46 : decode cX4_weigh 46 = .ok (.iload_n 1, 1) := by decide +kernel
theorem dX4_weigh_47 : decode cX4_weigh 47 = .ok (.iastore, 1) := by decide +kernel
theorem dX4_weigh_48 : decode cX4_weigh 48 = .ok (.aload_n 0, 1) := by decide +kernel
theorem dX4_weigh_49 : decode cX4_weigh 49 = .ok (.dup, 1) := by decide +kernel
theorem dX4_weigh_50 : decode cX4_weigh 50 = .ok (.getfield 144, 3) := by decide +kernel
theorem dX4_weigh_53 : decode cX4_weigh 53 = .ok (.iconst 1, 1) := by decide +kernel
theorem dX4_weigh_54 : decode cX4_weigh 54 = .ok (.iadd, 1) := by decide +kernel
theorem dX4_weigh_55 : decode cX4_weigh 55 = .ok (.putfield 144, 3) := by decide +kernel
theorem dX4_weigh_58 : decode cX4_weigh 58 = .ok (.aload_n 0, 1) := by decide +kernel
theorem dX4_weigh_59 : decode cX4_weigh 59 = .ok (.dup, 1) := by decide +kernel
theorem dX4_weigh_60 : decode cX4_weigh 60 = .ok (.getfield 147, 3) := by decide +kernel
theorem dX4_weigh_63 : decode cX4_weigh 63 = .ok (.iload_n 2, 1) := by decide +kernel
theorem dX4_weigh_64 : decode cX4_weigh 64 = .ok (.iadd, 1) := by decide +kernel
theorem dX4_weigh_65 : decode cX4_weigh 65 = .ok (.putfield 147, 3) := by decide +kernel
theorem dX4_weigh_68 : decode cX4_weigh 68 = .ok (.iinc 1 1, 3) := by decide +kernel
theorem dX4_weigh_71 : decode cX4_weigh 71 = .ok (.goto (-59), 3) := by decide +kernel
theorem dX4_weigh_74 : decode cX4_weigh 74 = .ok (.return_, 1) := by decide +kernel
theorem dX4_lay_0 : decode cX4_lay 0 = .ok (.iload_n 2, 1) := by decide +kernel
theorem dX4_lay_1 : decode cX4_lay 1 = .ok (.istore_n 3, 1) := by decide +kernel
theorem dX4_lay_2 : decode cX4_lay 2 = .ok (.iload_n 3, 1) := by decide +kernel
theorem dX4_lay_3 : decode cX4_lay 3 = .ok (.ifCond .le 19, 3) := by decide +kernel
theorem dX4_lay_6 : decode cX4_lay 6 = .ok (.iload_n 1, 1) := by decide +kernel
theorem dX4_lay_7 : decode cX4_lay 7 = .ok (.iload_n 3, 1) := by decide +kernel
theorem dX4_lay_8 : decode cX4_lay 8 = .ok (.iconst 1, 1) := by decide +kernel
theorem dX4_lay_9 : decode cX4_lay 9 = .ok (.isub, 1) := by decide +kernel
theorem dX4_lay_10 : decode cX4_lay 10 = .ok (.ishr, 1) := by decide +kernel
theorem dX4_lay_11 : decode cX4_lay 11 = .ok (.iconst 1, 1) := by decide +kernel
theorem dX4_lay_12 : decode cX4_lay 12 = .ok (.iand, 1) := by decide +kernel
theorem dX4_lay_13 : decode cX4_lay 13 = .ok (.ifCond .ne 9, 3) := by decide +kernel
theorem dX4_lay_16 : decode cX4_lay 16 = .ok (.iinc 3 (-1), 3) := by decide +kernel
theorem dX4_lay_19 : decode cX4_lay 19 = .ok (.goto (-17), 3) := by decide +kernel
theorem dX4_lay_22 : decode cX4_lay 22 = .ok (.aload_n 0, 1) := by decide +kernel
theorem dX4_lay_23 : decode cX4_lay 23 = .ok (.iconst 0, 1) := by decide +kernel
theorem dX4_lay_24 : decode cX4_lay 24 = .ok (.putfield 150, 3) := by decide +kernel
theorem dX4_lay_27 : decode cX4_lay 27 = .ok (.aload_n 0, 1) := by decide +kernel
theorem dX4_lay_28 : decode cX4_lay 28 = .ok (.iconst 0, 1) := by decide +kernel
theorem dX4_lay_29 : decode cX4_lay 29 = .ok (.putfield 153, 3) := by decide +kernel
theorem dX4_lay_32 : decode cX4_lay 32 = .ok (.aload_n 0, 1) := by decide +kernel
theorem dX4_lay_33 : decode cX4_lay 33 = .ok (.iconst 0, 1) := by decide +kernel
theorem dX4_lay_34 : decode cX4_lay 34 = .ok (.putfield 156, 3) := by decide +kernel
theorem dX4_lay_37 : decode cX4_lay 37 = .ok (.iconst 0, 1) := by decide +kernel
theorem dX4_lay_38 : decode cX4_lay 38 = .ok (.istore 4, 2) := by decide +kernel
theorem dX4_lay_40 : decode cX4_lay 40 = .ok (.iload 4, 2) := by decide +kernel
theorem dX4_lay_42 : decode cX4_lay 42 = .ok (.iload_n 3, 1) := by decide +kernel
theorem dX4_lay_43 : decode cX4_lay 43 = .ok (.if_icmp .ge 25, 3) := by decide +kernel
theorem dX4_lay_46 : decode cX4_lay 46 = .ok (.aload_n 0, 1) := by decide +kernel
theorem dX4_lay_47 : decode cX4_lay 47 = .ok (.dup, 1) := by decide +kernel
theorem dX4_lay_48 : decode cX4_lay 48 = .ok (.getfield 156, 3) := by decide +kernel
theorem dX4_lay_51 : decode cX4_lay 51 = .ok (.aload_n 0, 1) := by decide +kernel
theorem dX4_lay_52 : decode cX4_lay 52 = .ok (.getfield 57, 3) := by decide +kernel
theorem dX4_lay_55 : decode cX4_lay 55 = .ok (.iload 4, 2) := by decide +kernel
theorem dX4_lay_57 : decode cX4_lay 57 = .ok (.iaload, 1) := by decide +kernel
theorem dX4_lay_58 : decode cX4_lay 58 = .ok (.iadd, 1) := by decide +kernel
theorem dX4_lay_59 : decode cX4_lay 59 = .ok (.putfield 156, 3) := by decide +kernel
theorem dX4_lay_62 : decode cX4_lay 62 = .ok (.iinc 4 1, 3) := by decide +kernel
theorem dX4_lay_65 : decode cX4_lay 65 = .ok (.goto (-25), 3) := by decide +kernel
theorem dX4_lay_68 : decode cX4_lay 68 = .ok (.iconst 1, 1) := by decide +kernel
theorem dX4_lay_69 : decode cX4_lay 69 = .ok (.istore 4, 2) := by decide +kernel
theorem dX4_lay_71 : decode cX4_lay 71 = .ok (.iload_n 3, 1) := by decide +kernel
theorem dX4_lay_72 : decode cX4_lay 72 = .ok (.istore 5, 2) := by decide +kernel
theorem dX4_lay_74 : decode cX4_lay 74 = .ok (.iload 5, 2) := by decide +kernel
theorem dX4_lay_76 : decode cX4_lay 76 = .ok (.aload_n 0, 1) := by decide +kernel
theorem dX4_lay_77 : decode cX4_lay 77 = .ok (.getfield 144, 3) := by decide +kernel
theorem dX4_lay_80 : decode cX4_lay 80 = .ok (.if_icmp .ge 72, 3) := by decide +kernel
theorem dX4_lay_83 : decode cX4_lay 83 = .ok (.iload 4, 2) := by decide +kernel
theorem dX4_lay_85 : decode cX4_lay 85 = .ok (.ifCond .eq 67, 3) := by decide +kernel
theorem dX4_lay_88 : decode cX4_lay 88 = .ok (.aload_n 0, 1) := by decide +kernel
theorem dX4_lay_89 : decode cX4_lay 89 = .ok (.dup, 1) := by decide +kernel
theorem dX4_lay_90 : decode cX4_lay 90 = .ok (.getfield 153, 3) := by decide +kernel
theorem dX4_lay_93 : decode cX4_lay 93 = .ok (.aload_n 0, 1) := by decide +kernel
theorem dX4_lay_94 : decode cX4_lay 94 = .ok (.getfield 57, 3) := by decide +kernel
theorem dX4_lay_97 : decode cX4_lay 97 = .ok (.iload 5, 2) := by decide +kernel
theorem dX4_lay_99 : decode cX4_lay 99 = .ok (.iaload, 1) := by decide +kernel
theorem dX4_lay_100 : decode cX4_lay 100 = .ok (.iadd, 1) := by decide +kernel
theorem dX4_lay_101 : decode cX4_lay 101 = .ok (.putfield 153, 3) := by decide +kernel
theorem dX4_lay_104 : decode cX4_lay 104 = .ok (.aload_n 0, 1) := by decide +kernel
theorem dX4_lay_105 : decode cX4_lay 105 = .ok (.dup, 1) := by decide +kernel
theorem dX4_lay_106 : decode cX4_lay 106 = .ok (.getfield 150, 3) := by decide +kernel
theorem dX4_lay_109 : decode cX4_lay 109 = .ok (.iload 5, 2) := by decide +kernel
theorem dX4_lay_111 : decode cX4_lay 111 = .ok (.iload_n 2, 1) := by decide +kernel
theorem dX4_lay_112 : decode cX4_lay 112 = .ok (.if_icmp .ge 13, 3) := by decide +kernel
theorem dX4_lay_115 : decode cX4_lay 115 = .ok (.aload_n 0, 1) := by decide +kernel
theorem dX4_lay_116 : decode cX4_lay 116 = .ok (.getfield 57, 3) := by decide +kernel
theorem dX4_lay_119 : decode cX4_lay 119 = .ok (.iload 5, 2) := by decide +kernel
theorem dX4_lay_121 : decode cX4_lay 121 = .ok (.iaload, 1) := by decide +kernel
theorem dX4_lay_122 : decode cX4_lay 122 = .ok (.goto 4, 3) := by decide +kernel
theorem dX4_lay_125 : decode cX4_lay 125 = .ok (.iconst 0, 1) := by decide +kernel
theorem dX4_lay_126 : decode cX4_lay 126 = .ok (.iadd, 1) := by decide +kernel
theorem dX4_lay_127 : decode cX4_lay 127 = .ok (.putfield 150, 3) := by decide +kernel
theorem dX4_lay_130 : decode cX4_lay 130 = .ok (.iload_n 1, 1) := by decide +kernel
theorem dX4_lay_131 : decode cX4_lay 131 = .ok (.iload 5, 2) := by decide +kernel
theorem dX4_lay_133 : decode cX4_lay 133 = .ok (.ishr, 1) := by decide +kernel
theorem dX4_lay_134 : decode cX4_lay 134 = .ok (.iconst 1, 1) := by decide +kernel
theorem dX4_lay_135 : decode cX4_lay 135 = .ok (.iand, 1) := by decide +kernel
theorem dX4_lay_136 : decode cX4_lay 136 = .ok (.ifCond .ne 7, 3) := by decide +kernel
theorem dX4_lay_139 : decode cX4_lay 139 = .ok (.iconst 1, 1) := by decide +kernel
theorem dX4_lay_140 : decode cX4_lay 140 = .ok (.goto 4, 3) := by decide +kernel
theorem dX4_lay_143 : decode cX4_lay 143 = .ok (.iconst 0, 1) := by decide +kernel
theorem dX4_lay_144 : decode cX4_lay 144 = .ok (.istore 4, 2) := by decide +kernel
theorem dX4_lay_146 : decode cX4_lay 146 = .ok (.iinc 5 1, 3) := by decide +kernel
theorem dX4_lay_149 : decode cX4_lay 149 = .ok (.goto (-75), 3) := by decide +kernel
theorem dX4_lay_152 : decode cX4_lay 152 = .ok (.return_, 1) := by decide +kernel
set_option maxRecDepth 20000 in
theorem ggX4_boxOf_X4_isLand : GoodIn wsX4_boxOf wsX4_isLand := goodIn_r _ [6, 7, 8, 5, 9] (by decide +kernel) (by decide +kernel)
set_option maxRecDepth 20000 in
theorem gX4_boxOf_X4_isLand : GoodIn wsX4_boxOf (va_wsS RX4 84 yX4_isLand wsX4_isLand) := goodIn_app (goodIn_of _ (by decide +kernel)) ggX4_boxOf_X4_isLand
set_option maxRecDepth 20000 in
theorem ggX4_boxOf_X4_sizeOf : GoodIn wsX4_boxOf wsX4_sizeOf := goodIn_r _ [13, 14, 15, 16, 30, 31, 32, 33, 34, 35, 36, 37, 38, 39, 40, 41, 42, 43, 44, 45, 46, 47, 48, 49, 50, 51, 52, 53, 54, 55] (by decide +kernel) (by decide +kernel)
set_option maxRecDepth 20000 in
theorem gX4_boxOf_X4_sizeOf : GoodIn wsX4_boxOf (wsV RX4 88 RX4 yX4_sizeOf wsX4_sizeOf) := goodIn_app (goodIn_of _ (by decide +kernel)) ggX4_boxOf_X4_sizeOf
set_option maxRecDepth 20000 in
theorem ggX4_boxOf_X4_weigh : GoodIn wsX4_boxOf wsX4_weigh := goodIn_r _ [20, 1, 21, 22, 2, 10, 11, 12, 5, 13, 14, 15, 16, 30, 31, 32, 33, 34, 35, 36, 37, 38, 39, 40, 41, 42, 43, 44, 45, 46, 47, 48, 49, 50, 51, 52, 53, 54, 55] (by decide +kernel) (by decide +kernel)
set_option maxRecDepth 20000 in
theorem gX4_boxOf_X4_weigh : GoodIn wsX4_boxOf (wsV RX4 159 RX4 yX4_weigh wsX4_weigh) := goodIn_app (goodIn_of _ (by decide +kernel)) ggX4_boxOf_X4_weigh
set_option maxRecDepth 20000 in
theorem ggX4_boxOf_X4_lay : GoodIn wsX4_boxOf wsX4_lay := goodIn_r _ [26, 27, 28, 29, 22, 1, 30, 31, 32, 33, 34, 35, 36, 37, 38, 39, 40, 41, 42, 43, 44, 45, 46, 47, 48, 49, 50, 51, 52, 53, 54, 55] (by decide +kernel) (by decide +kernel)
set_option maxRecDepth 20000 in
theorem gX4_boxOf_X4_lay : GoodIn wsX4_boxOf (wsV RX4 162 RX4 yX4_lay wsX4_lay) := goodIn_app (goodIn_of _ (by decide +kernel)) ggX4_boxOf_X4_lay
theorem dX4_boxOf_0 : decode cX4_boxOf 0 = .ok (.iload_n 2, 1) := by decide +kernel
theorem dX4_boxOf_1 : decode cX4_boxOf 1 = .ok (.invokestatic 84, 3) := by decide +kernel
theorem dX4_boxOf_4 : decode cX4_boxOf 4 = .ok (.ifCond .eq 15, 3) := by decide +kernel
theorem dX4_boxOf_7 : decode cX4_boxOf 7 = .ok (.aload_n 0, 1) := by decide +kernel
theorem dX4_boxOf_8 : decode cX4_boxOf 8 = .ok (.iload_n 2, 1) := by decide +kernel
theorem dX4_boxOf_9 : decode cX4_boxOf 9 = .ok (.invokevirtual 88, 3) := by decide +kernel
theorem dX4_boxOf_12 : decode cX4_boxOf 12 = .ok (.ifCond .eq 7, 3) := by decide +kernel
theorem dX4_boxOf_15 : decode cX4_boxOf 15 = .ok (.iload_n 1, 1) := by decide +kernel
theorem dX4_boxOf_16 : decode cX4_boxOf 16 = .ok (.ifCond .ge 5, 3) := by decide +kernel
theorem dX4_boxOf_19 : decode cX4_boxOf 19 = .ok (.iconst (-1), 1) := by decide +kernel
theorem dX4_boxOf_20 : decode cX4_boxOf 20 = .ok (.ireturn, 1) := by decide +kernel
theorem dX4_boxOf_21 : decode cX4_boxOf 21 = .ok (.aload_n 0, 1) := by decide +kernel
theorem dX4_boxOf_22 : decode cX4_boxOf 22 = .ok (.invokevirtual 159, 3) := by decide +kernel
theorem dX4_boxOf_25 : decode cX4_boxOf 25 = .ok (.iload_n 1, 1) := by decide +kernel
theorem dX4_boxOf_26 : decode cX4_boxOf 26 = .ok (.aload_n 0, 1) := by decide +kernel
theorem dX4_boxOf_27 : decode cX4_boxOf 27 = .ok (.getfield 144, 3) := by decide +kernel
theorem dX4_boxOf_30 : decode cX4_boxOf 30 = .ok (.iconst 1, 1) := by decide +kernel
theorem dX4_boxOf_31 : decode cX4_boxOf 31 = .ok (.isub, 1) := by decide +kernel
theorem dX4_boxOf_32 : decode cX4_boxOf 32 = .ok (.ishr, 1) := by decide +kernel
theorem dX4_boxOf_33 : decode cX4_boxOf 33 = .ok (.ifCond .eq 5, 3) := by decide +kernel
theorem dX4_boxOf_36 : decode cX4_boxOf 36 = .ok (.iconst (-1), 1) := by decide +kernel
theorem dX4_boxOf_37 : decode cX4_boxOf 37 = .ok (.ireturn, 1) := by decide +kernel
theorem dX4_boxOf_38 : decode cX4_boxOf 38 = .ok (.iconst 0, 1) := by decide +kernel
theorem dX4_boxOf_39 : decode cX4_boxOf 39 = .ok (.istore_n 3, 1) := by decide +kernel
theorem dX4_boxOf_40 : decode cX4_boxOf 40 = .ok (.aload_n 0, 1) := by decide +kernel
theorem dX4_boxOf_41 : decode cX4_boxOf 41 = .ok (.getfield 60, 3) := by decide +kernel
theorem dX4_boxOf_44 : decode cX4_boxOf 44 = .ok (.iload_n 3, 1) := by decide +kernel
theorem dX4_boxOf_45 : decode cX4_boxOf 45 = .ok (.iaload, 1) := by decide +kernel
theorem dX4_boxOf_46 : decode cX4_boxOf 46 = .ok (.iload_n 2, 1) := by decide +kernel
theorem dX4_boxOf_47 : decode cX4_boxOf 47 = .ok (.if_icmp .eq 9, 3) := by decide +kernel
theorem dX4_boxOf_50 : decode cX4_boxOf 50 = .ok (.iinc 3 1, 3) := by decide +kernel
theorem dX4_boxOf_53 : decode cX4_boxOf 53 = .ok (.goto (-13), 3) := by decide +kernel
theorem dX4_boxOf_56 : decode cX4_boxOf 56 = .ok (.aload_n 0, 1) := by decide +kernel
theorem dX4_boxOf_57 : decode cX4_boxOf 57 = .ok (.iload_n 1, 1) := by decide +kernel
theorem dX4_boxOf_58 : decode cX4_boxOf 58 = .ok (.iload_n 3, 1) := by decide +kernel
theorem dX4_boxOf_59 : decode cX4_boxOf 59 = .ok (.invokevirtual 162, 3) := by decide +kernel
theorem dX4_boxOf_62 : decode cX4_boxOf 62 = .ok (.iload_n 3, 1) := by decide +kernel
theorem dX4_boxOf_63 : decode cX4_boxOf 63 = .ok (.ireturn, 1) := by decide +kernel
theorem dX4_common_0 : decode cX4_common 0 = .ok (.iload_n 0, 1) := by decide +kernel
theorem dX4_common_1 : decode cX4_common 1 = .ok (.istore_n 2, 1) := by decide +kernel
theorem dX4_common_2 : decode cX4_common 2 = .ok (.iload_n 1, 1) := by decide +kernel
theorem dX4_common_3 : decode cX4_common 3 = .ok (.istore_n 3, 1) := by decide +kernel
theorem dX4_common_4 : decode cX4_common 4 = .ok (.iload_n 3, 1) := by decide +kernel
theorem dX4_common_5 : decode cX4_common 5 = .ok (.ifCond .eq 16, 3) := by decide +kernel
theorem dX4_common_8 : decode cX4_common 8 = .ok (.iload_n 2, 1) := by decide +kernel
theorem dX4_common_9 : decode cX4_common 9 = .ok (.iload_n 3, 1) := by decide +kernel
theorem dX4_common_10 : decode cX4_common 10 = .ok (.irem, 1) := by decide +kernel
theorem dX4_common_11 : decode cX4_common 11 = .ok (.istore 4, 2) := by decide +kernel
theorem dX4_common_13 : decode cX4_common 13 = .ok (.iload_n 3, 1) := by decide +kernel
theorem dX4_common_14 : decode cX4_common 14 = .ok (.istore_n 2, 1) := by decide +kernel
theorem dX4_common_15 : decode cX4_common 15 = .ok (.iload 4, 2) := by decide +kernel
theorem dX4_common_17 : decode cX4_common 17 = .ok (.istore_n 3, 1) := by decide +kernel
theorem dX4_common_18 : decode cX4_common 18 = .ok (.goto (-14), 3) := by decide +kernel
theorem dX4_common_21 : decode cX4_common 21 = .ok (.iload_n 2, 1) := by decide +kernel
theorem dX4_common_22 : decode cX4_common 22 = .ok (.ireturn, 1) := by decide +kernel
set_option maxRecDepth 20000 in
theorem ggX4_longUp_X4_common : GoodIn wsX4_longUp wsX4_common := goodIn_r _ [7] (by decide +kernel) (by decide +kernel)
set_option maxRecDepth 20000 in
theorem gX4_longUp_X4_common : GoodIn wsX4_longUp (va_wsS RX4 165 yX4_common wsX4_common) := goodIn_app (goodIn_of _ (by decide +kernel)) ggX4_longUp_X4_common
theorem dX4_longUp_0 : decode cX4_longUp 0 = .ok (.aload_n 0, 1) := by decide +kernel
theorem dX4_longUp_1 : decode cX4_longUp 1 = .ok (.getfield 57, 3) := by decide +kernel
theorem dX4_longUp_4 : decode cX4_longUp 4 = .ok (.iload_n 1, 1) := by decide +kernel
theorem dX4_longUp_5 : decode cX4_longUp 5 = .ok (.iaload, 1) := by decide +kernel
theorem dX4_longUp_6 : decode cX4_longUp 6 = .ok (.aload_n 0, 1) := by decide +kernel
theorem dX4_longUp_7 : decode cX4_longUp 7 = .ok (.getfield 147, 3) := by decide +kernel
theorem dX4_longUp_10 : decode cX4_longUp 10 = .ok (.imul, 1) := by decide +kernel
theorem dX4_longUp_11 : decode cX4_longUp 11 = .ok (.istore_n 2, 1) := by decide +kernel
theorem dX4_longUp_12 : decode cX4_longUp 12 = .ok (.aload_n 0, 1) := by decide +kernel
theorem dX4_longUp_13 : decode cX4_longUp 13 = .ok (.getfield 153, 3) := by decide +kernel
theorem dX4_longUp_16 : decode cX4_longUp 16 = .ok (.aload_n 0, 1) := by decide +kernel
theorem dX4_longUp_17 : decode cX4_longUp 17 = .ok (.getfield 153, 3) := by decide +kernel
theorem dX4_longUp_20 : decode cX4_longUp 20 = .ok (.imul, 1) := by decide +kernel
theorem dX4_longUp_21 : decode cX4_longUp 21 = .ok (.istore_n 3, 1) := by decide +kernel
theorem dX4_longUp_22 : decode cX4_longUp 22 = .ok (.iload_n 2, 1) := by decide +kernel
theorem dX4_longUp_23 : decode cX4_longUp 23 = .ok (.iload_n 3, 1) := by decide +kernel
theorem dX4_longUp_24 : decode cX4_longUp 24 = .ok (.if_icmp .le 7, 3) := by decide +kernel
theorem dX4_longUp_27 : decode cX4_longUp 27 = .ok (.iload_n 2, 1) := by decide +kernel
theorem dX4_longUp_28 : decode cX4_longUp 28 = .ok (.goto 4, 3) := by decide +kernel
theorem dX4_longUp_31 : decode cX4_longUp 31 = .ok (.iload_n 3, 1) := by decide +kernel
theorem dX4_longUp_32 : decode cX4_longUp 32 = .ok (.iload_n 2, 1) := by decide +kernel
theorem dX4_longUp_33 : decode cX4_longUp 33 = .ok (.iload_n 3, 1) := by decide +kernel
theorem dX4_longUp_34 : decode cX4_longUp 34 = .ok (.invokestatic 165, 3) := by decide +kernel
theorem dX4_longUp_37 : decode cX4_longUp 37 = .ok (.idiv, 1) := by decide +kernel
theorem dX4_longUp_38 : decode cX4_longUp 38 = .ok (.ireturn, 1) := by decide +kernel
set_option maxRecDepth 20000 in
theorem ggX4_longDown_X4_common : GoodIn wsX4_longDown wsX4_common := goodIn_r _ [7] (by decide +kernel) (by decide +kernel)
set_option maxRecDepth 20000 in
theorem gX4_longDown_X4_common : GoodIn wsX4_longDown (va_wsS RX4 165 yX4_common wsX4_common) := goodIn_app (goodIn_of _ (by decide +kernel)) ggX4_longDown_X4_common
theorem dX4_longDown_0 : decode cX4_longDown 0 = .ok (.aload_n 0, 1) := by decide +kernel
theorem dX4_longDown_1 : decode cX4_longDown 1 = .ok (.getfield 57, 3) := by decide +kernel
theorem dX4_longDown_4 : decode cX4_longDown 4 = .ok (.iload_n 1, 1) := by decide +kernel
theorem dX4_longDown_5 : decode cX4_longDown 5 = .ok (.iaload, 1) := by decide +kernel
theorem dX4_longDown_6 : decode cX4_longDown 6 = .ok (.aload_n 0, 1) := by decide +kernel
theorem dX4_longDown_7 : decode cX4_longDown 7 = .ok (.getfield 147, 3) := by decide +kernel
theorem dX4_longDown_10 : decode cX4_longDown 10 = .ok (.imul, 1) := by decide +kernel
theorem dX4_longDown_11 : decode cX4_longDown 11 = .ok (.istore_n 2, 1) := by decide +kernel
theorem dX4_longDown_12 : decode cX4_longDown 12 = .ok (.aload_n 0, 1) := by decide +kernel
theorem dX4_longDown_13 : decode cX4_longDown 13 = .ok (.getfield 153, 3) := by decide +kernel
theorem dX4_longDown_16 : decode cX4_longDown 16 = .ok (.aload_n 0, 1) := by decide +kernel
theorem dX4_longDown_17 : decode cX4_longDown 17 = .ok (.getfield 153, 3) := by decide +kernel
theorem dX4_longDown_20 : decode cX4_longDown 20 = .ok (.imul, 1) := by decide +kernel
theorem dX4_longDown_21 : decode cX4_longDown 21 = .ok (.istore_n 3, 1) := by decide +kernel
theorem dX4_longDown_22 : decode cX4_longDown 22 = .ok (.iload_n 2, 1) := by decide +kernel
theorem dX4_longDown_23 : decode cX4_longDown 23 = .ok (.iload_n 3, 1) := by decide +kernel
theorem dX4_longDown_24 : decode cX4_longDown 24 = .ok (.if_icmp .le 7, 3) := by decide +kernel
theorem dX4_longDown_27 : decode cX4_longDown 27 = .ok (.iload_n 3, 1) := by decide +kernel
theorem dX4_longDown_28 : decode cX4_longDown 28 = .ok (.goto 4, 3) := by decide +kernel
theorem dX4_longDown_31 : decode cX4_longDown 31 = .ok (.iload_n 2, 1) := by decide +kernel
theorem dX4_longDown_32 : decode cX4_longDown 32 = .ok (.iload_n 2, 1) := by decide +kernel
theorem dX4_longDown_33 : decode cX4_longDown 33 = .ok (.iload_n 3, 1) := by decide +kernel
theorem dX4_longDown_34 : decode cX4_longDown 34 = .ok (.invokestatic 165, 3) := by decide +kernel
theorem dX4_longDown_37 : decode cX4_longDown 37 = .ok (.idiv, 1) := by decide +kernel
theorem dX4_longDown_38 : decode cX4_longDown 38 = .ok (.ireturn, 1) := by decide +kernel
set_option maxRecDepth 20000 in
theorem ggX4_longer_X4_in : GoodIn wsX4_longer wsX4_in := goodIn_r _ [4] (by decide +kernel) (by decide +kernel)
set_option maxRecDepth 20000 in
theorem gX4_longer_X4_in : GoodIn wsX4_longer (va_wsS RX4 72 yX4_in wsX4_in) := goodIn_app (goodIn_of _ (by decide +kernel)) ggX4_longer_X4_in
set_option maxRecDepth 20000 in
theorem ggX4_longer_X4_boxOf : GoodIn wsX4_longer wsX4_boxOf := goodIn_r _ [8, 9, 10, 11, 12, 3, 13, 1, 2, 4, 14, 15, 16, 17, 18, 19, 20, 21, 22, 23, 24, 25, 26, 27, 28, 29, 30, 31, 32, 33, 45, 46, 47, 48, 49, 50, 51, 52, 53, 54, 55, 56, 57, 58, 59, 60, 61, 62, 63, 64, 65, 66, 67, 68, 69, 70] (by decide +kernel) (by decide +kernel)
set_option maxRecDepth 20000 in
theorem gX4_longer_X4_boxOf : GoodIn wsX4_longer (wsV RX4 168 RX4 yX4_boxOf wsX4_boxOf) := goodIn_app (goodIn_of _ (by decide +kernel)) ggX4_longer_X4_boxOf
set_option maxRecDepth 20000 in
theorem ggX4_longer_X4_longUp : GoodIn wsX4_longer wsX4_longUp := goodIn_r _ [37, 26, 25, 32, 38, 39, 3, 40, 45, 46, 47, 48, 49, 50, 51, 52, 53, 54, 55, 56, 57, 58, 59, 60, 61, 62, 63, 64, 65, 66, 67, 68, 69, 70] (by decide +kernel) (by decide +kernel)
set_option maxRecDepth 20000 in
theorem gX4_longer_X4_longUp : GoodIn wsX4_longer (wsV RX4 171 RX4 yX4_longUp wsX4_longUp) := goodIn_app (goodIn_of _ (by decide +kernel)) ggX4_longer_X4_longUp
set_option maxRecDepth 20000 in
theorem ggX4_longer_X4_longDown : GoodIn wsX4_longer wsX4_longDown := goodIn_r _ [44, 26, 25, 32, 38, 39, 3, 40, 45, 46, 47, 48, 49, 50, 51, 52, 53, 54, 55, 56, 57, 58, 59, 60, 61, 62, 63, 64, 65, 66, 67, 68, 69, 70] (by decide +kernel) (by decide +kernel)
set_option maxRecDepth 20000 in
theorem gX4_longer_X4_longDown : GoodIn wsX4_longer (wsV RX4 174 RX4 yX4_longDown wsX4_longDown) := goodIn_app (goodIn_of _ (by decide +kernel)) ggX4_longer_X4_longDown
theorem dX4_longer_0 : decode cX4_longer 0 = .ok (.iload_n 3, 1) := by decide +kernel
theorem dX4_longer_1 : decode cX4_longer 1 = .ok (.iconst 0, 1) := by decide +kernel
theorem dX4_longer_2 : decode cX4_longer 2 = .ok (.iconst 1, 1) := by decide +kernel
theorem dX4_longer_3 : decode cX4_longer 3 = .ok (.invokestatic 72, 3) := by decide +kernel
theorem dX4_longer_6 : decode cX4_longer 6 = .ok (.ifCond .eq 12, 3) := by decide +kernel
theorem dX4_longer_9 : decode cX4_longer 9 = .ok (.aload_n 0, 1) := by decide +kernel
theorem dX4_longer_10 : decode cX4_longer 10 = .ok (.iload_n 1, 1) := by decide +kernel
theorem dX4_longer_11 : decode cX4_longer 11 = .ok (.iload_n 2, 1) := by decide +kernel
theorem dX4_longer_12 : decode cX4_longer 12 = .ok (.invokevirtual 168, 3) := by decide +kernel
theorem dX4_longer_15 : decode cX4_longer 15 = .ok (.goto 4, 3) := by decide +kernel
theorem dX4_longer_18 : decode cX4_longer 18 = .ok (.iconst (-1), 1) := by decide +kernel
theorem dX4_longer_19 : decode cX4_longer 19 = .ok (.istore 4, 2) := by decide +kernel
theorem dX4_longer_21 : decode cX4_longer 21 = .ok (.iload 4, 2) := by decide +kernel
theorem dX4_longer_23 : decode cX4_longer 23 = .ok (.ifCond .ge 7, 3) := by decide +kernel
theorem dX4_longer_26 : decode cX4_longer 26 = .ok (.iconst (-1), 1) := by decide +kernel
theorem dX4_longer_27 : decode cX4_longer 27 = .ok (.goto 22, 3) := by decide +kernel
theorem dX4_longer_30 : decode cX4_longer 30 = .ok (.iload_n 3, 1) := by decide +kernel
theorem dX4_longer_31 : decode cX4_longer 31 = .ok (.ifCond .ne 12, 3) := by decide +kernel
theorem dX4_longer_34 : decode cX4_longer 34 = .ok (.aload_n 0, 1) := by decide +kernel
theorem dX4_longer_35 : decode cX4_longer 35 = .ok (.iload 4, 2) := by decide +kernel
theorem dX4_longer_37 : decode cX4_longer 37 = .ok (.invokevirtual 171, 3) := by decide +kernel
theorem dX4_longer_40 : decode cX4_longer 40 = .ok (.goto 9, 3) := by decide +kernel
theorem dX4_longer_43 : decode cX4_longer 43 = .ok (.aload_n 0, 1) := by decide +kernel
theorem dX4_longer_44 : decode cX4_longer 44 = .ok (.iload 4, 2) := by decide +kernel
theorem dX4_longer_46 : decode cX4_longer 46 = .ok (.invokevirtual 174, 3) := by decide +kernel
theorem dX4_longer_49 : decode cX4_longer 49 = .ok (.ireturn, 1) := by decide +kernel
set_option maxRecDepth 20000 in
theorem ggX4_box_X4_in : GoodIn wsX4_box wsX4_in := goodIn_r _ [9] (by decide +kernel) (by decide +kernel)
set_option maxRecDepth 20000 in
theorem gX4_box_X4_in : GoodIn wsX4_box (va_wsS RX4 72 yX4_in wsX4_in) := goodIn_app (goodIn_of _ (by decide +kernel)) ggX4_box_X4_in
set_option maxRecDepth 20000 in
theorem ggX4_box_X4_boxOf : GoodIn wsX4_box wsX4_boxOf := goodIn_r _ [13, 14, 15, 16, 17, 8, 18, 6, 7, 9, 19, 20, 21, 22, 23, 24, 25, 26, 27, 28, 29, 4, 5, 30, 31, 32, 33, 1, 2, 3, 34, 35, 36, 37, 38, 39, 40, 41, 42, 43, 44, 45, 46, 47, 48, 49, 50, 51, 52, 53, 54, 55, 56, 57, 58, 59] (by decide +kernel) (by decide +kernel)
set_option maxRecDepth 20000 in
theorem gX4_box_X4_boxOf : GoodIn wsX4_box (wsV RX4 168 RX4 yX4_boxOf wsX4_boxOf) := goodIn_app (goodIn_of _ (by decide +kernel)) ggX4_box_X4_boxOf
theorem dX4_box_0 : decode cX4_box 0 = .ok (.iload_n 3, 1) := by decide +kernel
theorem dX4_box_1 : decode cX4_box 1 = .ok (.iconst 0, 1) := by decide +kernel
theorem dX4_box_2 : decode cX4_box 2 = .ok (.iconst 3, 1) := by decide +kernel
theorem dX4_box_3 : decode cX4_box 3 = .ok (.invokestatic 72, 3) := by decide +kernel
theorem dX4_box_6 : decode cX4_box 6 = .ok (.ifCond .eq 12, 3) := by decide +kernel
theorem dX4_box_9 : decode cX4_box 9 = .ok (.aload_n 0, 1) := by decide +kernel
theorem dX4_box_10 : decode cX4_box 10 = .ok (.iload_n 1, 1) := by decide +kernel
theorem dX4_box_11 : decode cX4_box 11 = .ok (.iload_n 2, 1) := by decide +kernel
theorem dX4_box_12 : decode cX4_box 12 = .ok (.invokevirtual 168, 3) := by decide +kernel
theorem dX4_box_15 : decode cX4_box 15 = .ok (.goto 4, 3) := by decide +kernel
theorem dX4_box_18 : decode cX4_box 18 = .ok (.iconst (-1), 1) := by decide +kernel
theorem dX4_box_19 : decode cX4_box 19 = .ok (.istore 4, 2) := by decide +kernel
theorem dX4_box_21 : decode cX4_box 21 = .ok (.iload 4, 2) := by decide +kernel
theorem dX4_box_23 : decode cX4_box 23 = .ok (.ifCond .ge 5, 3) := by decide +kernel
theorem dX4_box_26 : decode cX4_box 26 = .ok (.iconst (-1), 1) := by decide +kernel
theorem dX4_box_27 : decode cX4_box 27 = .ok (.ireturn, 1) := by decide +kernel
theorem dX4_box_28 : decode cX4_box 28 = .ok (.iload_n 3, 1) := by decide +kernel
theorem dX4_box_29 : decode cX4_box 29 = .ok (.tableswitch 72 0 2 #[27, 41, 55], 27) := by decide +kernel
theorem dX4_box_56 : decode cX4_box 56 = .ok (.sipush 1000, 3) := by decide +kernel
theorem dX4_box_59 : decode cX4_box 59 = .ok (.aload_n 0, 1) := by decide +kernel
theorem dX4_box_60 : decode cX4_box 60 = .ok (.getfield 150, 3) := by decide +kernel
theorem dX4_box_63 : decode cX4_box 63 = .ok (.imul, 1) := by decide +kernel
theorem dX4_box_64 : decode cX4_box 64 = .ok (.aload_n 0, 1) := by decide +kernel
theorem dX4_box_65 : decode cX4_box 65 = .ok (.getfield 153, 3) := by decide +kernel
theorem dX4_box_68 : decode cX4_box 68 = .ok (.idiv, 1) := by decide +kernel
theorem dX4_box_69 : decode cX4_box 69 = .ok (.ireturn, 1) := by decide +kernel
theorem dX4_box_70 : decode cX4_box 70 = .ok (.sipush 1000, 3) := by decide +kernel
theorem dX4_box_73 : decode cX4_box 73 = .ok (.aload_n 0, 1) := by decide +kernel
theorem dX4_box_74 : decode cX4_box 74 = .ok (.getfield 156, 3) := by decide +kernel
theorem dX4_box_77 : decode cX4_box 77 = .ok (.imul, 1) := by decide +kernel
theorem dX4_box_78 : decode cX4_box 78 = .ok (.aload_n 0, 1) := by decide +kernel
theorem dX4_box_79 : decode cX4_box 79 = .ok (.getfield 147, 3) := by decide +kernel
theorem dX4_box_82 : decode cX4_box 82 = .ok (.idiv, 1) := by decide +kernel
theorem dX4_box_83 : decode cX4_box 83 = .ok (.ireturn, 1) := by decide +kernel
theorem dX4_box_84 : decode cX4_box 84 = .ok (.sipush 1000, 3) := by decide +kernel
theorem dX4_box_87 : decode cX4_box 87 = .ok (.aload_n 0, 1) := by decide +kernel
theorem dX4_box_88 : decode cX4_box 88 = .ok (.getfield 57, 3) := by decide +kernel
theorem dX4_box_91 : decode cX4_box 91 = .ok (.iload 4, 2) := by decide +kernel
theorem dX4_box_93 : decode cX4_box 93 = .ok (.iaload, 1) := by decide +kernel
theorem dX4_box_94 : decode cX4_box 94 = .ok (.imul, 1) := by decide +kernel
theorem dX4_box_95 : decode cX4_box 95 = .ok (.aload_n 0, 1) := by decide +kernel
theorem dX4_box_96 : decode cX4_box 96 = .ok (.getfield 153, 3) := by decide +kernel
theorem dX4_box_99 : decode cX4_box 99 = .ok (.idiv, 1) := by decide +kernel
theorem dX4_box_100 : decode cX4_box 100 = .ok (.ireturn, 1) := by decide +kernel
theorem dX4_box_101 : decode cX4_box 101 = .ok (.sipush 1000, 3) := by decide +kernel
theorem dX4_box_104 : decode cX4_box 104 = .ok (.aload_n 0, 1) := by decide +kernel
theorem dX4_box_105 : decode cX4_box 105 = .ok (.getfield 153, 3) := by decide +kernel
theorem dX4_box_108 : decode cX4_box 108 = .ok (.imul, 1) := by decide +kernel
theorem dX4_box_109 : decode cX4_box 109 = .ok (.aload_n 0, 1) := by decide +kernel
theorem dX4_box_110 : decode cX4_box 110 = .ok (.getfield 147, 3) := by decide +kernel
theorem dX4_box_113 : decode cX4_box 113 = .ok (.idiv, 1) := by decide +kernel
theorem dX4_box_114 : decode cX4_box 114 = .ok (.ireturn, 1) := by decide +kernel
set_option maxRecDepth 20000 in
theorem ggX4_best_X4_weigh : GoodIn wsX4_best wsX4_weigh := goodIn_r _ [6, 1, 7, 8, 9, 10, 11, 12, 5, 13, 14, 15, 16, 35, 36, 37, 38, 39, 40, 41, 42, 43, 44, 45, 46, 47, 48, 49, 50, 51, 52, 53, 54, 55, 56, 57, 58, 59, 60] (by decide +kernel) (by decide +kernel)
set_option maxRecDepth 20000 in
theorem gX4_best_X4_weigh : GoodIn wsX4_best (wsV RX4 159 RX4 yX4_weigh wsX4_weigh) := goodIn_app (goodIn_of _ (by decide +kernel)) ggX4_best_X4_weigh
set_option maxRecDepth 20000 in
theorem ggX4_best_X4_lay : GoodIn wsX4_best wsX4_lay := goodIn_r _ [20, 21, 22, 23, 8, 1, 35, 36, 37, 38, 39, 40, 41, 42, 43, 44, 45, 46, 47, 48, 49, 50, 51, 52, 53, 54, 55, 56, 57, 58, 59, 60] (by decide +kernel) (by decide +kernel)
set_option maxRecDepth 20000 in
theorem gX4_best_X4_lay : GoodIn wsX4_best (wsV RX4 162 RX4 yX4_lay wsX4_lay) := goodIn_app (goodIn_of _ (by decide +kernel)) ggX4_best_X4_lay
set_option maxRecDepth 20000 in
theorem ggX4_best_X4_longUp : GoodIn wsX4_best wsX4_longUp := goodIn_r _ [27, 8, 7, 22, 28, 29, 5, 30, 35, 36, 37, 38, 39, 40, 41, 42, 43, 44, 45, 46, 47, 48, 49, 50, 51, 52, 53, 54, 55, 56, 57, 58, 59, 60] (by decide +kernel) (by decide +kernel)
set_option maxRecDepth 20000 in
theorem gX4_best_X4_longUp : GoodIn wsX4_best (wsV RX4 171 RX4 yX4_longUp wsX4_longUp) := goodIn_app (goodIn_of _ (by decide +kernel)) ggX4_best_X4_longUp
set_option maxRecDepth 20000 in
theorem ggX4_best_X4_longDown : GoodIn wsX4_best wsX4_longDown := goodIn_r _ [34, 8, 7, 22, 28, 29, 5, 30, 35, 36, 37, 38, 39, 40, 41, 42, 43, 44, 45, 46, 47, 48, 49, 50, 51, 52, 53, 54, 55, 56, 57, 58, 59, 60] (by decide +kernel) (by decide +kernel)
set_option maxRecDepth 20000 in
theorem gX4_best_X4_longDown : GoodIn wsX4_best (wsV RX4 174 RX4 yX4_longDown wsX4_longDown) := goodIn_app (goodIn_of _ (by decide +kernel)) ggX4_best_X4_longDown
theorem dX4_best_0 : decode cX4_best 0 = .ok (.aload_n 0, 1) := by decide +kernel
theorem dX4_best_1 : decode cX4_best 1 = .ok (.invokevirtual 159, 3) := by decide +kernel
theorem dX4_best_4 : decode cX4_best 4 = .ok (.aload_n 0, 1) := by decide +kernel
theorem dX4_best_5 : decode cX4_best 5 = .ok (.getfield 144, 3) := by decide +kernel
theorem dX4_best_8 : decode cX4_best 8 = .ok (.ifCond .ne 6, 3) := by decide +kernel
theorem dX4_best_11 : decode cX4_best 11 = .ok (.bipush (-9), 2) := by decide +kernel
theorem dX4_best_13 : decode cX4_best 13 = .ok (.ireturn, 1) := by decide +kernel
theorem dX4_best_14 : decode cX4_best 14 = .ok (.iconst (-1), 1) := by decide +kernel
theorem dX4_best_15 : decode cX4_best 15 = .ok (.istore_n 1, 1) := by decide +kernel
theorem dX4_best_16 : decode cX4_best 16 = .ok (.iconst 0, 1) := by decide +kernel
theorem dX4_best_17 : decode cX4_best 17 = .ok (.istore_n 2, 1) := by decide +kernel
theorem dX4_best_18 : decode cX4_best 18 = .ok (.iconst 1, 1) := by decide +kernel
theorem dX4_best_19 : decode cX4_best 19 = .ok (.istore_n 3, 1) := by decide +kernel
theorem dX4_best_20 : decode cX4_best 20 = .ok (.iconst 0, 1) := by decide +kernel
theorem dX4_best_21 : decode cX4_best 21 = .ok (.istore 4, 2) := by decide +kernel
theorem dX4_best_23 : decode cX4_best 23 = .ok (.iload 4, 2) := by decide +kernel
theorem dX4_best_25 : decode cX4_best 25 = .ok (.iconst 1, 1) := by decide +kernel
theorem dX4_best_26 : decode cX4_best 26 = .ok (.aload_n 0, 1) := by decide +kernel
theorem dX4_best_27 : decode cX4_best 27 = .ok (.getfield 144, 3) := by decide +kernel
theorem dX4_best_30 : decode cX4_best 30 = .ok (.iconst 1, 1) := by decide +kernel
theorem dX4_best_31 : decode cX4_best 31 = .ok (.isub, 1) := by decide +kernel
theorem dX4_best_32 : decode cX4_best 32 = .ok (.ishl, 1) := by decide +kernel
theorem dX4_best_33 : decode cX4_best 33 = .ok (.if_icmp .ge 139, 3) := by decide +kernel
theorem dX4_best_36 : decode cX4_best 36 = .ok (.iconst 0, 1) := by decide +kernel
theorem dX4_best_37 : decode cX4_best 37 = .ok (.istore 5, 2) := by decide +kernel
theorem dX4_best_39 : decode cX4_best 39 = .ok (.iconst 1, 1) := by decide +kernel
theorem dX4_best_40 : decode cX4_best 40 = .ok (.istore 6, 2) := by decide +kernel
theorem dX4_best_42 : decode cX4_best 42 = .ok (.iconst 0, 1) := by decide +kernel
theorem dX4_best_43 : decode cX4_best 43 = .ok (.istore 7, 2) := by decide +kernel
theorem dX4_best_45 : decode cX4_best 45 = .ok (.iload 7, 2) := by decide +kernel
theorem dX4_best_47 : decode cX4_best 47 = .ok (.aload_n 0, 1) := by decide +kernel
theorem dX4_best_48 : decode cX4_best 48 = .ok (.getfield 144, 3) := by decide +kernel
theorem dX4_best_51 : decode cX4_best 51 = .ok (.if_icmp .ge 86, 3) := by decide +kernel
theorem dX4_best_54 : decode cX4_best 54 = .ok (.aload_n 0, 1) := by decide +kernel
theorem dX4_best_55 : decode cX4_best 55 = .ok (.iload 4, 2) := by decide +kernel
theorem dX4_best_57 : decode cX4_best 57 = .ok (.iload 7, 2) := by decide +kernel
theorem dX4_best_59 : decode cX4_best 59 = .ok (.invokevirtual 162, 3) := by decide +kernel
theorem dX4_best_62 : decode cX4_best 62 = .ok (.aload_n 0, 1) := by decide +kernel
theorem dX4_best_63 : decode cX4_best 63 = .ok (.iload 7, 2) := by decide +kernel
theorem dX4_best_65 : decode cX4_best 65 = .ok (.invokevirtual 171, 3) := by decide +kernel
theorem dX4_best_68 : decode cX4_best 68 = .ok (.istore 8, 2) := by decide +kernel
theorem dX4_best_70 : decode cX4_best 70 = .ok (.aload_n 0, 1) := by decide +kernel
theorem dX4_best_71 : decode cX4_best 71 = .ok (.iload 7, 2) := by decide +kernel
theorem dX4_best_73 : decode cX4_best 73 = .ok (.invokevirtual 174, 3) := by decide +kernel
theorem dX4_best_76 : decode cX4_best 76 = .ok (.istore 9, 2) := by decide +kernel
theorem dX4_best_78 : decode cX4_best 78 = .ok (.iload 8, 2) := by decide +kernel
theorem dX4_best_80 : decode cX4_best 80 = .ok (.i2l, 1) := by decide +kernel
theorem dX4_best_81 : decode cX4_best 81 = .ok (.iload 6, 2) := by decide +kernel
theorem dX4_best_83 : decode cX4_best 83 = .ok (.i2l, 1) := by decide +kernel
theorem dX4_best_84 : decode cX4_best 84 = .ok (.lmul, 1) := by decide +kernel
theorem dX4_best_85 : decode cX4_best 85 = .ok (.iload 5, 2) := by decide +kernel
theorem dX4_best_87 : decode cX4_best 87 = .ok (.i2l, 1) := by decide +kernel
theorem dX4_best_88 : decode cX4_best 88 = .ok (.iload 9, 2) := by decide +kernel
theorem dX4_best_90 : decode cX4_best 90 = .ok (.i2l, 1) := by decide +kernel
theorem dX4_best_91 : decode cX4_best 91 = .ok (.lmul, 1) := by decide +kernel
theorem dX4_best_92 : decode cX4_best 92 = .ok (.lcmp, 1) := by decide +kernel
theorem dX4_best_93 : decode cX4_best 93 = .ok (.ifCond .le 7, 3) := by decide +kernel
theorem dX4_best_96 : decode cX4_best 96 = .ok (.iconst 1, 1) := by decide +kernel
theorem dX4_best_97 : decode cX4_best 97 = .ok (.goto 4, 3) := by decide +kernel
theorem dX4_best_100 : decode cX4_best 100 = .ok (.iconst 0, 1) := by decide +kernel
theorem dX4_best_101 : decode cX4_best 101 = .ok (.istore 10, 2) := by decide +kernel
theorem dX4_best_103 : decode cX4_best 103 = .ok (.iload 10, 2) := by decide +kernel
theorem dX4_best_105 : decode cX4_best 105 = .ok (.ifCond .eq 8, 3) := by decide +kernel
theorem dX4_best_108 : decode cX4_best 108 = .ok (.iload 8, 2) := by decide +kernel
theorem dX4_best_110 : decode cX4_best 110 = .ok (.goto 5, 3) := by decide +kernel
theorem dX4_best_113 : decode cX4_best 113 = .ok (.iload 5, 2) := by decide +kernel
theorem dX4_best_115 : decode cX4_best 115 = .ok (.istore 5, 2) := by decide +kernel
theorem dX4_best_117 : decode cX4_best 117 = .ok (.iload 10, 2) := by decide +kernel
theorem dX4_best_119 : decode cX4_best 119 = .ok (.ifCond .eq 8, 3) := by decide +kernel
theorem dX4_best_122 : decode cX4_best 122 = .ok (.iload 9, 2) := by decide +kernel
theorem dX4_best_124 : decode cX4_best 124 = .ok (.goto 5, 3) := by decide +kernel
theorem dX4_best_127 : decode cX4_best 127 = .ok (.iload 6, 2) := by decide +kernel
theorem dX4_best_129 : decode cX4_best 129 = .ok (.istore 6, 2) := by decide +kernel
theorem dX4_best_131 : decode cX4_best 131 = .ok (.iinc 7 1, 3) := by decide +kernel
theorem dX4_best_134 : decode cX4_best 134 = .ok (.goto (-89), 3) := by decide +kernel
theorem dX4_best_137 : decode cX4_best 137 = .ok (.iload_n 1, 1) := by decide +kernel
theorem dX4_best_138 : decode cX4_best 138 = .ok (.ifCond .lt 19, 3) := by decide +kernel
theorem dX4_best_141 : decode cX4_best 141 = .ok (.iload 5, 2) := by decide +kernel
theorem dX4_best_143 : decode cX4_best 143 = .ok (.i2l, 1) := by decide +kernel
theorem dX4_best_144 : decode cX4_best 144 = .ok (.iload_n 3, 1) := by decide +kernel
theorem dX4_best_145 : decode cX4_best 145 = .ok (.i2l, 1) := by decide +kernel
theorem dX4_best_146 : decode cX4_best 146 = .ok (.lmul, 1) := by decide +kernel
theorem dX4_best_147 : decode cX4_best 147 = .ok (.iload_n 2, 1) := by decide +kernel
theorem dX4_best_148 : decode cX4_best 148 = .ok (.i2l, 1) := by decide +kernel
theorem dX4_best_149 : decode cX4_best 149 = .ok (.iload 6, 2) := by decide +kernel
theorem dX4_best_151 : decode cX4_best 151 = .ok (.i2l, 1) := by decide +kernel
theorem dX4_best_152 : decode cX4_best 152 = .ok (.lmul, 1) := by decide +kernel
theorem dX4_best_153 : decode cX4_best 153 = .ok (.lcmp, 1) := by decide +kernel
theorem dX4_best_154 : decode cX4_best 154 = .ok (.ifCond .ge 12, 3) := by decide +kernel
theorem dX4_best_157 : decode cX4_best 157 = .ok (.iload 4, 2) := by decide +kernel
theorem dX4_best_159 : decode cX4_best 159 = .ok (.istore_n 1, 1) := by decide +kernel
theorem dX4_best_160 : decode cX4_best 160 = .ok (.iload 5, 2) := by decide +kernel
theorem dX4_best_162 : decode cX4_best 162 = .ok (.istore_n 2, 1) := by decide +kernel
theorem dX4_best_163 : decode cX4_best 163 = .ok (.iload 6, 2) := by decide +kernel
theorem dX4_best_165 : decode cX4_best 165 = .ok (.istore_n 3, 1) := by decide +kernel
theorem dX4_best_166 : decode cX4_best 166 = .ok (.iinc 4 1, 3) := by decide +kernel
theorem dX4_best_169 : decode cX4_best 169 = .ok (.goto (-146), 3) := by decide +kernel
theorem dX4_best_172 : decode cX4_best 172 = .ok (.iload_n 1, 1) := by decide +kernel
theorem dX4_best_173 : decode cX4_best 173 = .ok (.ireturn, 1) := by decide +kernel
set_option maxRecDepth 20000 in
theorem ggX4_isYear_X4_in : GoodIn wsX4_isYear wsX4_in := goodIn_r _ [4] (by decide +kernel) (by decide +kernel)
set_option maxRecDepth 20000 in
theorem gX4_isYear_X4_in : GoodIn wsX4_isYear (va_wsS RX4 72 yX4_in wsX4_in) := goodIn_app (goodIn_of _ (by decide +kernel)) ggX4_isYear_X4_in
theorem dX4_isYear_0 : decode cX4_isYear 0 = .ok (.iload_n 0, 1) := by decide +kernel
theorem dX4_isYear_1 : decode cX4_isYear 1 = .ok (.iconst 0, 1) := by decide +kernel
theorem dX4_isYear_2 : decode cX4_isYear 2 = .ok (.iconst 3, 1) := by decide +kernel
theorem dX4_isYear_3 : decode cX4_isYear 3 = .ok (.invokestatic 72, 3) := by decide +kernel
theorem dX4_isYear_6 : decode cX4_isYear 6 = .ok (.ireturn, 1) := by decide +kernel
set_option maxRecDepth 20000 in
theorem ggX4_landCells_X4_sizeOf : GoodIn wsX4_landCells wsX4_sizeOf := goodIn_r _ [7, 1, 2, 8, 9, 10, 11, 12, 13, 14, 15, 16, 17, 18, 19, 20, 21, 22, 23, 24, 25, 26, 27, 28, 29, 30, 31, 32, 33, 34] (by decide +kernel) (by decide +kernel)
set_option maxRecDepth 20000 in
theorem gX4_landCells_X4_sizeOf : GoodIn wsX4_landCells (wsV RX4 88 RX4 yX4_sizeOf wsX4_sizeOf) := goodIn_app (goodIn_of _ (by decide +kernel)) ggX4_landCells_X4_sizeOf
theorem dX4_landCells_0 : decode cX4_landCells 0 = .ok (.aload_n 0, 1) := by decide +kernel
theorem dX4_landCells_1 : decode cX4_landCells 1 = .ok (.getfield 7, 3) := by decide +kernel
theorem dX4_landCells_4 : decode cX4_landCells 4 = .ok (.aload_n 0, 1) := by decide +kernel
theorem dX4_landCells_5 : decode cX4_landCells 5 = .ok (.getfield 13, 3) := by decide +kernel
theorem dX4_landCells_8 : decode cX4_landCells 8 = .ok (.imul, 1) := by decide +kernel
theorem dX4_landCells_9 : decode cX4_landCells 9 = .ok (.aload_n 0, 1) := by decide +kernel
theorem dX4_landCells_10 : decode cX4_landCells 10 = .ok (.bipush (-4), 2) := by decide +kernel
theorem dX4_landCells_12 : decode cX4_landCells 12 = .ok (.invokevirtual 88, 3) := by decide +kernel
theorem dX4_landCells_15 : decode cX4_landCells 15 = .ok (.isub, 1) := by decide +kernel
theorem dX4_landCells_16 : decode cX4_landCells 16 = .ok (.ireturn, 1) := by decide +kernel
set_option maxRecDepth 20000 in
theorem ggX4_keep_X4_isYear : GoodIn wsX4_keep wsX4_isYear := goodIn_r _ [11, 12, 13, 10, 14] (by decide +kernel) (by decide +kernel)
set_option maxRecDepth 20000 in
theorem gX4_keep_X4_isYear : GoodIn wsX4_keep (va_wsS RX4 177 yX4_isYear wsX4_isYear) := goodIn_app (goodIn_of _ (by decide +kernel)) ggX4_keep_X4_isYear
set_option maxRecDepth 20000 in
theorem ggX4_keep_X4_landCells : GoodIn wsX4_keep wsX4_landCells := goodIn_r _ [18, 3, 5, 19, 20, 21, 10, 22, 7, 23, 24, 25, 26, 27, 28, 29, 30, 31, 32, 33, 34, 35, 36, 37, 38, 39, 40, 41, 42, 43, 44, 45, 46, 47, 48] (by decide +kernel) (by decide +kernel)
set_option maxRecDepth 20000 in
theorem gX4_keep_X4_landCells : GoodIn wsX4_keep (wsV RX4 180 RX4 yX4_landCells wsX4_landCells) := goodIn_app (goodIn_of _ (by decide +kernel)) ggX4_keep_X4_landCells
theorem dX4_keep_0 : decode cX4_keep 0 = .ok (.iload_n 1, 1) := by decide +kernel
theorem dX4_keep_1 : decode cX4_keep 1 = .ok (.invokestatic 177, 3) := by decide +kernel
theorem dX4_keep_4 : decode cX4_keep 4 = .ok (.ifCond .ne 5, 3) := by decide +kernel
theorem dX4_keep_7 : decode cX4_keep 7 = .ok (.iconst (-1), 1) := by decide +kernel
theorem dX4_keep_8 : decode cX4_keep 8 = .ok (.ireturn, 1) := by decide +kernel
theorem dX4_keep_9 : decode cX4_keep 9 = .ok (.aload_n 0, 1) := by decide +kernel
theorem dX4_keep_10 : decode cX4_keep 10 = .ok (.getfield 35, 3) := by decide +kernel
theorem dX4_keep_13 : decode cX4_keep 13 = .ok (.iload_n 1, 1) := by decide +kernel
theorem dX4_keep_14 : decode cX4_keep 14 = .ok (.iconst 1, 1) := by decide +kernel
theorem dX4_keep_15 : decode cX4_keep 15 = .ok (.bastore, 1) := by decide +kernel
theorem dX4_keep_16 : decode cX4_keep 16 = .ok (.aload_n 0, 1) := by decide +kernel
theorem dX4_keep_17 : decode cX4_keep 17 = .ok (.getfield 39, 3) := by decide +kernel
theorem dX4_keep_20 : decode cX4_keep 20 = .ok (.iload_n 1, 1) := by decide +kernel
theorem dX4_keep_21 : decode cX4_keep 21 = .ok (.aload_n 0, 1) := by decide +kernel
theorem dX4_keep_22 : decode cX4_keep 22 = .ok (.getfield 7, 3) := by decide +kernel
theorem dX4_keep_25 : decode cX4_keep 25 = .ok (.iastore, 1) := by decide +kernel
theorem dX4_keep_26 : decode cX4_keep 26 = .ok (.aload_n 0, 1) := by decide +kernel
theorem dX4_keep_27 : decode cX4_keep 27 = .ok (.getfield 42, 3) := by decide +kernel
theorem dX4_keep_30 : decode cX4_keep 30 = .ok (.iload_n 1, 1) := by decide +kernel
theorem dX4_keep_31 : decode cX4_keep 31 = .ok (.aload_n 0, 1) := by decide +kernel
theorem dX4_keep_32 : decode cX4_keep 32 = .ok (.getfield 13, 3) := by decide +kernel
theorem dX4_keep_35 : decode cX4_keep 35 = .ok (.iastore, 1) := by decide +kernel
theorem dX4_keep_36 : decode cX4_keep 36 = .ok (.iconst 0, 1) := by decide +kernel
theorem dX4_keep_37 : decode cX4_keep 37 = .ok (.istore_n 2, 1) := by decide +kernel
theorem dX4_keep_38 : decode cX4_keep 38 = .ok (.iload_n 2, 1) := by decide +kernel
theorem dX4_keep_39 : decode cX4_keep 39 = .ok (.aload_n 0, 1) := by decide +kernel
theorem dX4_keep_40 : decode cX4_keep 40 = .ok (.getfield 7, 3) := by decide +kernel
theorem dX4_keep_43 : decode cX4_keep 43 = .ok (.aload_n 0, 1) := by decide +kernel
theorem dX4_keep_44 : decode cX4_keep 44 = .ok (.getfield 13, 3) := by decide +kernel
theorem dX4_keep_47 : decode cX4_keep 47 = .ok (.imul, 1) := by decide +kernel
theorem dX4_keep_48 : decode cX4_keep 48 = .ok (.if_icmp .ge 26, 3) := by decide +kernel
theorem dX4_keep_51 : decode cX4_keep 51 = .ok (.aload_n 0, 1) := by decide +kernel
theorem dX4_keep_52 : decode cX4_keep 52 = .ok (.getfield 45, 3) := by decide +kernel
theorem dX4_keep_55 : decode cX4_keep 55 = .ok (.bipush 64, 2) := by decide +kernel
theorem dX4_keep_57 : decode cX4_keep 57 = .ok (.iload_n 1, 1) := by decide +kernel
theorem dX4_keep_58 : decode cX4_keep 58 = .ok (.imul, 1) := by decide +kernel
theorem dX4_keep_59 : decode cX4_keep 59 = .ok (.iload_n 2, 1) := by decide +kernel
theorem dX4_keep_60 : decode cX4_keep 60 = .ok (.iadd, 1) := by decide +kernel
theorem dX4_keep_61 : decode cX4_keep 61 = .ok (.aload_n 0, 1) := by decide +kernel
theorem dX4_keep_62 : decode cX4_keep 62 = .ok (.getfield 16, 3) := by decide +kernel
theorem dX4_keep_65 : decode cX4_keep 65 = .ok (.iload_n 2, 1) := by decide +kernel
theorem dX4_keep_66 : decode cX4_keep 66 = .ok (.iaload, 1) := by decide +kernel
theorem dX4_keep_67 : decode cX4_keep 67 = .ok (.iastore, 1) := by decide +kernel
theorem dX4_keep_68 : decode cX4_keep 68 = .ok (.iinc 2 1, 3) := by decide +kernel
theorem dX4_keep_71 : decode cX4_keep 71 = .ok (.goto (-33), 3) := by decide +kernel
theorem dX4_keep_74 : decode cX4_keep 74 = .ok (.aload_n 0, 1) := by decide +kernel
theorem dX4_keep_75 : decode cX4_keep 75 = .ok (.invokevirtual 180, 3) := by decide +kernel
theorem dX4_keep_78 : decode cX4_keep 78 = .ok (.ireturn, 1) := by decide +kernel
set_option maxRecDepth 20000 in
theorem ggX4_back_X4_isYear : GoodIn wsX4_back wsX4_isYear := goodIn_r _ [11, 12, 13, 10, 14] (by decide +kernel) (by decide +kernel)
set_option maxRecDepth 20000 in
theorem gX4_back_X4_isYear : GoodIn wsX4_back (va_wsS RX4 177 yX4_isYear wsX4_isYear) := goodIn_app (goodIn_of _ (by decide +kernel)) ggX4_back_X4_isYear
set_option maxRecDepth 20000 in
theorem ggX4_back_X4_plain : GoodIn wsX4_back wsX4_plain := goodIn_r _ [18, 19, 20, 21, 30, 31, 32, 33, 34, 35, 36, 37, 38, 39, 40, 41, 42, 43, 44, 45, 46, 47, 48, 49, 50, 51, 52, 53, 54, 55] (by decide +kernel) (by decide +kernel)
set_option maxRecDepth 20000 in
theorem gX4_back_X4_plain : GoodIn wsX4_back (wsV RX4 66 RX4 yX4_plain wsX4_plain) := goodIn_app (goodIn_of _ (by decide +kernel)) ggX4_back_X4_plain
set_option maxRecDepth 20000 in
theorem ggX4_back_X4_landCells : GoodIn wsX4_back wsX4_landCells := goodIn_r _ [25, 3, 5, 26, 27, 28, 10, 29, 6, 30, 31, 32, 33, 34, 35, 36, 37, 38, 39, 40, 41, 42, 43, 44, 45, 46, 47, 48, 49, 50, 51, 52, 53, 54, 55] (by decide +kernel) (by decide +kernel)
set_option maxRecDepth 20000 in
theorem gX4_back_X4_landCells : GoodIn wsX4_back (wsV RX4 180 RX4 yX4_landCells wsX4_landCells) := goodIn_app (goodIn_of _ (by decide +kernel)) ggX4_back_X4_landCells
theorem dX4_back_0 : decode cX4_back 0 = .ok (.iload_n 1, 1) := by decide +kernel
theorem dX4_back_1 : decode cX4_back 1 = .ok (.invokestatic 177, 3) := by decide +kernel
theorem dX4_back_4 : decode cX4_back 4 = .ok (.ifCond .ne 5, 3) := by decide +kernel
theorem dX4_back_7 : decode cX4_back 7 = .ok (.iconst (-1), 1) := by decide +kernel
theorem dX4_back_8 : decode cX4_back 8 = .ok (.ireturn, 1) := by decide +kernel
theorem dX4_back_9 : decode cX4_back 9 = .ok (.aload_n 0, 1) := by decide +kernel
theorem dX4_back_10 : decode cX4_back 10 = .ok (.getfield 35, 3) := by decide +kernel
theorem dX4_back_13 : decode cX4_back 13 = .ok (.iload_n 1, 1) := by decide +kernel
theorem dX4_back_14 : decode cX4_back 14 = .ok (.baload, 1) := by decide +kernel
theorem dX4_back_15 : decode cX4_back 15 = .ok (.ifCond .ne 6, 3) := by decide +kernel
theorem dX4_back_18 : decode cX4_back 18 = .ok (.bipush (-2), 2) := by decide +kernel
theorem dX4_back_20 : decode cX4_back 20 = .ok (.ireturn, 1) := by decide +kernel
theorem dX4_back_21 : decode cX4_back 21 = .ok (.aload_n 0, 1) := by decide +kernel
theorem dX4_back_22 : decode cX4_back 22 = .ok (.aload_n 0, 1) := by decide +kernel
theorem dX4_back_23 : decode cX4_back 23 = .ok (.getfield 39, 3) := by decide +kernel
theorem dX4_back_26 : decode cX4_back 26 = .ok (.iload_n 1, 1) := by decide +kernel
theorem dX4_back_27 : decode cX4_back 27 = .ok (.iaload, 1) := by decide +kernel
theorem dX4_back_28 : decode cX4_back 28 = .ok (.putfield 7, 3) := by decide +kernel
theorem dX4_back_31 : decode cX4_back 31 = .ok (.aload_n 0, 1) := by decide +kernel
theorem dX4_back_32 : decode cX4_back 32 = .ok (.aload_n 0, 1) := by decide +kernel
theorem dX4_back_33 : decode cX4_back 33 = .ok (.getfield 42, 3) := by decide +kernel
theorem dX4_back_36 : decode cX4_back 36 = .ok (.iload_n 1, 1) := by decide +kernel
theorem dX4_back_37 : decode cX4_back 37 = .ok (.iaload, 1) := by decide +kernel
theorem dX4_back_38 : decode cX4_back 38 = .ok (.putfield 13, 3) := by decide +kernel
theorem dX4_back_41 : decode cX4_back 41 = .ok (.iconst 0, 1) := by decide +kernel
theorem dX4_back_42 : decode cX4_back 42 = .ok (.istore_n 2, 1) := by decide +kernel
theorem dX4_back_43 : decode cX4_back 43 = .ok (.iload_n 2, 1) := by decide +kernel
theorem dX4_back_44 : decode cX4_back 44 = .ok (.aload_n 0, 1) := by decide +kernel
theorem dX4_back_45 : decode cX4_back 45 = .ok (.getfield 7, 3) := by decide +kernel
theorem dX4_back_48 : decode cX4_back 48 = .ok (.aload_n 0, 1) := by decide +kernel
theorem dX4_back_49 : decode cX4_back 49 = .ok (.getfield 13, 3) := by decide +kernel
theorem dX4_back_52 : decode cX4_back 52 = .ok (.imul, 1) := by decide +kernel
theorem dX4_back_53 : decode cX4_back 53 = .ok (.if_icmp .ge 26, 3) := by decide +kernel
theorem dX4_back_56 : decode cX4_back 56 = .ok (.aload_n 0, 1) := by decide +kernel
theorem dX4_back_57 : decode cX4_back 57 = .ok (.getfield 16, 3) := by decide +kernel
theorem dX4_back_60 : decode cX4_back 60 = .ok (.iload_n 2, 1) := by decide +kernel
theorem dX4_back_61 : decode cX4_back 61 = .ok (.aload_n 0, 1) := by decide +kernel
theorem dX4_back_62 : decode cX4_back 62 = .ok (.getfield 45, 3) := by decide +kernel
theorem dX4_back_65 : decode cX4_back 65 = .ok (.bipush 64, 2) := by decide +kernel
theorem dX4_back_67 : decode cX4_back 67 = .ok (.iload_n 1, 1) := by decide +kernel
theorem dX4_back_68 : decode cX4_back 68 = .ok (.imul, 1) := by decide +kernel
theorem dX4_back_69 : decode cX4_back 69 = .ok (.iload_n 2, 1) := by decide +kernel
theorem dX4_back_70 : decode cX4_back 70 = .ok (.iadd, 1) := by decide +kernel
theorem dX4_back_71 : decode cX4_back 71 = .ok (.iaload, 1) := by decide +kernel
theorem dX4_back_72 : decode cX4_back 72 = .ok (.iastore, 1) := by decide +kernel
theorem dX4_back_73 : decode cX4_back 73 = .ok (.iinc 2 1, 3) := by decide +kernel
theorem dX4_back_76 : decode cX4_back 76 = .ok (.goto (-33), 3) := by decide +kernel
theorem dX4_back_79 : decode cX4_back 79 = .ok (.aload_n 0, 1) := by decide +kernel
theorem dX4_back_80 : decode cX4_back 80 = .ok (.invokevirtual 66, 3) := by decide +kernel
theorem dX4_back_83 : decode cX4_back 83 = .ok (.aload_n 0, 1) := by decide +kernel
theorem dX4_back_84 : decode cX4_back 84 = .ok (.invokevirtual 180, 3) := by decide +kernel
theorem dX4_back_87 : decode cX4_back 87 = .ok (.ireturn, 1) := by decide +kernel
set_option maxRecDepth 20000 in
theorem ggX4_moved_X4_isYear : GoodIn wsX4_moved wsX4_isYear := goodIn_r _ [8, 9, 10, 7, 11] (by decide +kernel) (by decide +kernel)
set_option maxRecDepth 20000 in
theorem gX4_moved_X4_isYear : GoodIn wsX4_moved (va_wsS RX4 177 yX4_isYear wsX4_isYear) := goodIn_app (goodIn_of _ (by decide +kernel)) ggX4_moved_X4_isYear
theorem dX4_moved_0 : decode cX4_moved 0 = .ok (.iload_n 1, 1) := by decide +kernel
theorem dX4_moved_1 : decode cX4_moved 1 = .ok (.invokestatic 177, 3) := by decide +kernel
theorem dX4_moved_4 : decode cX4_moved 4 = .ok (.ifCond .eq 10, 3) := by decide +kernel
theorem dX4_moved_7 : decode cX4_moved 7 = .ok (.iload_n 2, 1) := by decide +kernel
theorem dX4_moved_8 : decode cX4_moved 8 = .ok (.invokestatic 177, 3) := by decide +kernel
theorem dX4_moved_11 : decode cX4_moved 11 = .ok (.ifCond .ne 5, 3) := by decide +kernel
theorem dX4_moved_14 : decode cX4_moved 14 = .ok (.iconst (-1), 1) := by decide +kernel
theorem dX4_moved_15 : decode cX4_moved 15 = .ok (.ireturn, 1) := by decide +kernel
theorem dX4_moved_16 : decode cX4_moved 16 = .ok (.aload_n 0, 1) := by decide +kernel
theorem dX4_moved_17 : decode cX4_moved 17 = .ok (.getfield 35, 3) := by decide +kernel
theorem dX4_moved_20 : decode cX4_moved 20 = .ok (.iload_n 1, 1) := by decide +kernel
theorem dX4_moved_21 : decode cX4_moved 21 = .ok (.baload, 1) := by decide +kernel
theorem dX4_moved_22 : decode cX4_moved 22 = .ok (.ifCond .eq 42, 3) := by decide +kernel
theorem dX4_moved_25 : decode cX4_moved 25 = .ok (.aload_n 0, 1) := by decide +kernel
theorem dX4_moved_26 : decode cX4_moved 26 = .ok (.getfield 35, 3) := by decide +kernel
theorem dX4_moved_29 : decode cX4_moved 29 = .ok (.iload_n 2, 1) := by decide +kernel
theorem dX4_moved_30 : decode cX4_moved 30 = .ok (.baload, 1) := by decide +kernel
theorem dX4_moved_31 : decode cX4_moved 31 = .ok (.ifCond .eq 33, 3) := by decide +kernel
theorem dX4_moved_34 : decode cX4_moved 34 = .ok (.aload_n 0, 1) := by decide +kernel
theorem dX4_moved_35 : decode cX4_moved 35 = .ok (.getfield 39, 3) := by decide +kernel
theorem dX4_moved_38 : decode cX4_moved 38 = .ok (.iload_n 1, 1) := by decide +kernel
theorem dX4_moved_39 : decode cX4_moved 39 = .ok (.iaload, 1) := by decide +kernel
theorem dX4_moved_40 : decode cX4_moved 40 = .ok (.aload_n 0, 1) := by decide +kernel
theorem dX4_moved_41 : decode cX4_moved 41 = .ok (.getfield 39, 3) := by decide +kernel
theorem dX4_moved_44 : decode cX4_moved 44 = .ok (.iload_n 2, 1) := by decide +kernel
theorem dX4_moved_45 : decode cX4_moved 45 = .ok (.iaload, 1) := by decide +kernel
theorem dX4_moved_46 : decode cX4_moved 46 = .ok (.if_icmp .ne 18, 3) := by decide +kernel
theorem dX4_moved_49 : decode cX4_moved 49 = .ok (.aload_n 0, 1) := by decide +kernel
theorem dX4_moved_50 : decode cX4_moved 50 = .ok (.getfield 42, 3) := by decide +kernel
theorem dX4_moved_53 : decode cX4_moved 53 = .ok (.iload_n 1, 1) := by decide +kernel
theorem dX4_moved_54 : decode cX4_moved 54 = .ok (.iaload, 1) := by decide +kernel
theorem dX4_moved_55 : decode cX4_moved 55 = .ok (.aload_n 0, 1) := by decide +kernel
theorem dX4_moved_56 : decode cX4_moved 56 = .ok (.getfield 42, 3) := by decide +kernel
theorem dX4_moved_59 : decode cX4_moved 59 = .ok (.iload_n 2, 1) := by decide +kernel
theorem dX4_moved_60 : decode cX4_moved 60 = .ok (.iaload, 1) := by decide +kernel
theorem dX4_moved_61 : decode cX4_moved 61 = .ok (.if_icmp .eq 6, 3) := by decide +kernel
theorem dX4_moved_64 : decode cX4_moved 64 = .ok (.bipush (-9), 2) := by decide +kernel
theorem dX4_moved_66 : decode cX4_moved 66 = .ok (.ireturn, 1) := by decide +kernel
theorem dX4_moved_67 : decode cX4_moved 67 = .ok (.iconst 0, 1) := by decide +kernel
theorem dX4_moved_68 : decode cX4_moved 68 = .ok (.istore_n 3, 1) := by decide +kernel
theorem dX4_moved_69 : decode cX4_moved 69 = .ok (.iconst 0, 1) := by decide +kernel
theorem dX4_moved_70 : decode cX4_moved 70 = .ok (.istore 4, 2) := by decide +kernel
theorem dX4_moved_72 : decode cX4_moved 72 = .ok (.iload 4, 2) := by decide +kernel
theorem dX4_moved_74 : decode cX4_moved 74 = .ok (.aload_n 0, 1) := by decide +kernel
theorem dX4_moved_75 : decode cX4_moved 75 = .ok (.getfield 39, 3) := by decide +kernel
theorem dX4_moved_78 : decode cX4_moved 78 = .ok (.iload_n 1, 1) := by decide +kernel
theorem dX4_moved_79 : decode cX4_moved 79 = .ok (.iaload, 1) := by decide +kernel
theorem dX4_moved_80 : decode cX4_moved 80 = .ok (.aload_n 0, 1) := by decide +kernel
theorem dX4_moved_81 : decode cX4_moved 81 = .ok (.getfield 42, 3) := by decide +kernel
theorem dX4_moved_84 : decode cX4_moved 84 = .ok (.iload_n 1, 1) := by decide +kernel
theorem dX4_moved_85 : decode cX4_moved 85 = .ok (.iaload, 1) := by decide +kernel
theorem dX4_moved_86 : decode cX4_moved 86 = .ok (.imul, 1) := by decide +kernel
theorem dX4_moved_87 : decode cX4_moved 87 = .ok (.if_icmp .ge 44, 3) := by decide +kernel
theorem dX4_moved_90 : decode cX4_moved 90 = .ok (.iload_n 3, 1) := by decide +kernel
theorem dX4_moved_91 : decode cX4_moved 91 = .ok (.aload_n 0, 1) := by decide +kernel
theorem dX4_moved_92 : decode cX4_moved 92 = .ok (.getfield 45, 3) := by decide +kernel
theorem dX4_moved_95 : decode cX4_moved 95 = .ok (.bipush 64, 2) := by decide +kernel
theorem dX4_moved_97 : decode cX4_moved 97 = .ok (.iload_n 1, 1) := by decide +kernel
theorem dX4_moved_98 : decode cX4_moved 98 = .ok (.imul, 1) := by decide +kernel
theorem dX4_moved_99 : decode cX4_moved 99 = .ok (.iload 4, 2) := by decide +kernel
theorem dX4_moved_101 : decode cX4_moved 101 = .ok (.iadd, 1) := by decide +kernel
theorem dX4_moved_102 : decode cX4_moved 102 = .ok (.iaload, 1) := by decide +kernel
theorem dX4_moved_103 : decode cX4_moved 103 = .ok (.aload_n 0, 1) := by decide +kernel
theorem dX4_moved_104 : decode cX4_moved 104 = .ok (.getfield 45, 3) := by decide +kernel
theorem dX4_moved_107 : decode cX4_moved 107 = .ok (.bipush 64, 2) := by decide +kernel
theorem dX4_moved_109 : decode cX4_moved 109 = .ok (.iload_n 2, 1) := by decide +kernel
theorem dX4_moved_110 : decode cX4_moved 110 = .ok (.imul, 1) := by decide +kernel
theorem dX4_moved_111 : decode cX4_moved 111 = .ok (.iload 4, 2) := by decide +kernel
theorem dX4_moved_113 : decode cX4_moved 113 = .ok (.iadd, 1) := by decide +kernel
theorem dX4_moved_114 : decode cX4_moved 114 = .ok (.iaload, 1) := by decide +kernel
theorem dX4_moved_115 : decode cX4_moved 115 = .ok (.if_icmp .eq 7, 3) := by decide +kernel
theorem dX4_moved_118 : decode cX4_moved 118 = .ok (.iconst 1, 1) := by decide +kernel
theorem dX4_moved_119 : decode cX4_moved 119 = .ok (.goto 4, 3) := by decide +kernel
theorem dX4_moved_122 : decode cX4_moved 122 = .ok (.iconst 0, 1) := by decide +kernel
theorem dX4_moved_123 : decode cX4_moved 123 = .ok (.iadd, 1) := by decide +kernel
theorem dX4_moved_124 : decode cX4_moved 124 = .ok (.istore_n 3, 1) := by decide +kernel
theorem dX4_moved_125 : decode cX4_moved 125 = .ok (.iinc 4 1, 3) := by decide +kernel
theorem dX4_moved_128 : decode cX4_moved 128 = .ok (.goto (-56), 3) := by decide +kernel
theorem dX4_moved_131 : decode cX4_moved 131 = .ok (.iload_n 3, 1) := by decide +kernel
theorem dX4_moved_132 : decode cX4_moved 132 = .ok (.ireturn, 1) := by decide +kernel
set_option maxRecDepth 20000 in
theorem ggX4_count_X4_sizeOf : GoodIn wsX4_count wsX4_sizeOf := goodIn_r _ [9, 1, 2, 10, 11, 12, 13, 14, 15, 16, 17, 18, 19, 20, 21, 22, 23, 24, 25, 26, 27, 28, 29, 30, 31, 32, 33, 34, 35, 36] (by decide +kernel) (by decide +kernel)
set_option maxRecDepth 20000 in
theorem gX4_count_X4_sizeOf : GoodIn wsX4_count (wsV RX4 88 RX4 yX4_sizeOf wsX4_sizeOf) := goodIn_app (goodIn_of _ (by decide +kernel)) ggX4_count_X4_sizeOf
theorem dX4_count_0 : decode cX4_count 0 = .ok (.iconst 0, 1) := by decide +kernel
theorem dX4_count_1 : decode cX4_count 1 = .ok (.istore_n 2, 1) := by decide +kernel
theorem dX4_count_2 : decode cX4_count 2 = .ok (.iload_n 1, 1) := by decide +kernel
theorem dX4_count_3 : decode cX4_count 3 = .ok (.tableswitch 85 0 4 #[33, 38, 43, 75, 80], 33) := by decide +kernel
theorem dX4_count_36 : decode cX4_count 36 = .ok (.aload_n 0, 1) := by decide +kernel
theorem dX4_count_37 : decode cX4_count 37 = .ok (.getfield 7, 3) := by decide +kernel
theorem dX4_count_40 : decode cX4_count 40 = .ok (.ireturn, 1) := by decide +kernel
theorem dX4_count_41 : decode cX4_count 41 = .ok (.aload_n 0, 1) := by decide +kernel
theorem dX4_count_42 : decode cX4_count 42 = .ok (.getfield 13, 3) := by decide +kernel
theorem dX4_count_45 : decode cX4_count 45 = .ok (.ireturn, 1) := by decide +kernel
theorem dX4_count_46 : decode cX4_count 46 = .ok (.iconst 0, 1) := by decide +kernel
theorem dX4_count_47 : decode cX4_count 47 = .ok (.istore_n 3, 1) := by decide +kernel
theorem dX4_count_48 : decode cX4_count 48 = .ok (.iload_n 3, 1) := by decide +kernel
theorem dX4_count_49 : decode cX4_count 49 = .ok (.bipush 6, 2) := by decide +kernel
theorem dX4_count_51 : decode cX4_count 51 = .ok (.if_icmp .ge 25, 3) := by decide +kernel
theorem dX4_count_54 : decode cX4_count 54 = .ok (.iload_n 2, 1) := by decide +kernel
theorem dX4_count_55 : decode cX4_count 55 = .ok (.aload_n 0, 1) := by decide +kernel
theorem dX4_count_56 : decode cX4_count 56 = .ok (.iload_n 3, 1) := by decide +kernel
theorem dX4_count_57 : decode cX4_count 57 = .ok (.invokevirtual 88, 3) := by decide +kernel
theorem dX4_count_60 : decode cX4_count 60 = .ok (.ifCond .le 7, 3) := by decide +kernel
theorem dX4_count_63 : decode cX4_count 63 = .ok (.iconst 1, 1) := by decide +kernel
theorem dX4_count_64 : decode cX4_count 64 = .ok (.goto 4, 3) := by decide +kernel
theorem dX4_count_67 : decode cX4_count 67 = .ok (.iconst 0, 1) := by decide +kernel
theorem dX4_count_68 : decode cX4_count 68 = .ok (.iadd, 1) := by decide +kernel
theorem dX4_count_69 : decode cX4_count 69 = .ok (.istore_n 2, 1) := by decide +kernel
theorem dX4_count_70 : decode cX4_count 70 = .ok (.iinc 3 1, 3) := by decide +kernel
theorem dX4_count_73 : decode cX4_count 73 = .ok (.goto (-25), 3) := by decide +kernel
theorem dX4_count_76 : decode cX4_count 76 = .ok (.iload_n 2, 1) := by decide +kernel
theorem dX4_count_77 : decode cX4_count 77 = .ok (.ireturn, 1) := by decide +kernel
theorem dX4_count_78 : decode cX4_count 78 = .ok (.aload_n 0, 1) := by decide +kernel
theorem dX4_count_79 : decode cX4_count 79 = .ok (.getfield 69, 3) := by decide +kernel
theorem dX4_count_82 : decode cX4_count 82 = .ok (.ireturn, 1) := by decide +kernel
theorem dX4_count_83 : decode cX4_count 83 = .ok (.aload_n 0, 1) := by decide +kernel
theorem dX4_count_84 : decode cX4_count 84 = .ok (.getfield 125, 3) := by decide +kernel
theorem dX4_count_87 : decode cX4_count 87 = .ok (.ireturn, 1) := by decide +kernel
theorem dX4_count_88 : decode cX4_count 88 = .ok (.iconst (-1), 1) := by decide +kernel
theorem dX4_count_89 : decode cX4_count 89 = .ok (.ireturn, 1) := by decide +kernel
theorem dX4_trace_0 : decode cX4_trace 0 = .ok (.aload_n 0, 1) := by decide +kernel
theorem dX4_trace_1 : decode cX4_trace 1 = .ok (.getfield 108, 3) := by decide +kernel
theorem dX4_trace_4 : decode cX4_trace 4 = .ok (.lreturn, 1) := by decide +kernel
theorem dJ13_bitCount_95d88_0 : decode cJ13_bitCount_95d88 0 = .ok (.lload_n 0, 1) := by decide +kernel
theorem dJ13_bitCount_95d88_1 : decode cJ13_bitCount_95d88 1 = .ok (.lload_n 0, 1) := by decide +kernel
theorem dJ13_bitCount_95d88_2 : decode cJ13_bitCount_95d88 2 = .ok (.iconst 1, 1) := by decide +kernel
theorem dJ13_bitCount_95d88_3 : decode cJ13_bitCount_95d88 3 = .ok (.lushr, 1) := by decide +kernel
theorem dJ13_bitCount_95d88_4 : decode cJ13_bitCount_95d88 4 = .ok (.ldc2_w 314, 3) := by decide +kernel
theorem dJ13_bitCount_95d88_7 : decode cJ13_bitCount_95d88 7 = .ok (.land, 1) := by decide +kernel
theorem dJ13_bitCount_95d88_8 : decode cJ13_bitCount_95d88 8 = .ok (.lsub, 1) := by decide +kernel
theorem dJ13_bitCount_95d88_9 : decode cJ13_bitCount_95d88 9 = .ok (.lstore_n 0, 1) := by decide +kernel
theorem dJ13_bitCount_95d88_10 : decode cJ13_bitCount_95d88 10 = .ok (.lload_n 0, 1) := by decide +kernel
theorem dJ13_bitCount_95d88_11 : decode cJ13_bitCount_95d88 11 = .ok (.ldc2_w 316, 3) := by decide +kernel
theorem dJ13_bitCount_95d88_14 : decode cJ13_bitCount_95d88 14 = .ok (.land, 1) := by decide +kernel
theorem dJ13_bitCount_95d88_15 : decode cJ13_bitCount_95d88 15 = .ok (.lload_n 0, 1) := by decide +kernel
theorem dJ13_bitCount_95d88_16 : decode cJ13_bitCount_95d88 16 = .ok (.iconst 2, 1) := by decide +kernel
theorem dJ13_bitCount_95d88_17 : decode cJ13_bitCount_95d88 17 = .ok (.lushr, 1) := by decide +kernel
theorem dJ13_bitCount_95d88_18 : decode cJ13_bitCount_95d88 18 = .ok (.ldc2_w 316, 3) := by decide +kernel
theorem dJ13_bitCount_95d88_21 : decode cJ13_bitCount_95d88 21 = .ok (.land, 1) := by decide +kernel
theorem dJ13_bitCount_95d88_22 : decode cJ13_bitCount_95d88 22 = .ok (.ladd, 1) := by decide +kernel
theorem dJ13_bitCount_95d88_23 : decode cJ13_bitCount_95d88 23 = .ok (.lstore_n 0, 1) := by decide +kernel
theorem dJ13_bitCount_95d88_24 : decode cJ13_bitCount_95d88 24 = .ok (.lload_n 0, 1) := by decide +kernel
theorem dJ13_bitCount_95d88_25 : decode cJ13_bitCount_95d88 25 = .ok (.lload_n 0, 1) := by decide +kernel
theorem dJ13_bitCount_95d88_26 : decode cJ13_bitCount_95d88 26 = .ok (.iconst 4, 1) := by decide +kernel
theorem dJ13_bitCount_95d88_27 : decode cJ13_bitCount_95d88 27 = .ok (.lushr, 1) := by decide +kernel
theorem dJ13_bitCount_95d88_28 : decode cJ13_bitCount_95d88 28 = .ok (.ladd, 1) := by decide +kernel
theorem dJ13_bitCount_95d88_29 : decode cJ13_bitCount_95d88 29 = .ok (.ldc2_w 318, 3) := by decide +kernel
theorem dJ13_bitCount_95d88_32 : decode cJ13_bitCount_95d88 32 = .ok (.land, 1) := by decide +kernel
theorem dJ13_bitCount_95d88_33 : decode cJ13_bitCount_95d88 33 = .ok (.lstore_n 0, 1) := by decide +kernel
theorem dJ13_bitCount_95d88_34 : decode cJ13_bitCount_95d88 34 = .ok (.lload_n 0, 1) := by decide +kernel
theorem dJ13_bitCount_95d88_35 : decode cJ13_bitCount_95d88 35 = .ok (.lload_n 0, 1) := by decide +kernel
theorem dJ13_bitCount_95d88_36 : decode cJ13_bitCount_95d88 36 = .ok (.bipush 8, 2) := by decide +kernel
theorem dJ13_bitCount_95d88_38 : decode cJ13_bitCount_95d88 38 = .ok (.lushr, 1) := by decide +kernel
theorem dJ13_bitCount_95d88_39 : decode cJ13_bitCount_95d88 39 = .ok (.ladd, 1) := by decide +kernel
theorem dJ13_bitCount_95d88_40 : decode cJ13_bitCount_95d88 40 = .ok (.lstore_n 0, 1) := by decide +kernel
theorem dJ13_bitCount_95d88_41 : decode cJ13_bitCount_95d88 41 = .ok (.lload_n 0, 1) := by decide +kernel
theorem dJ13_bitCount_95d88_42 : decode cJ13_bitCount_95d88 42 = .ok (.lload_n 0, 1) := by decide +kernel
theorem dJ13_bitCount_95d88_43 : decode cJ13_bitCount_95d88 43 = .ok (.bipush 16, 2) := by decide +kernel
theorem dJ13_bitCount_95d88_45 : decode cJ13_bitCount_95d88 45 = .ok (.lushr, 1) := by decide +kernel
theorem dJ13_bitCount_95d88_46 : decode cJ13_bitCount_95d88 46 = .ok (.ladd, 1) := by decide +kernel
theorem dJ13_bitCount_95d88_47 : decode cJ13_bitCount_95d88 47 = .ok (.lstore_n 0, 1) := by decide +kernel
theorem dJ13_bitCount_95d88_48 : decode cJ13_bitCount_95d88 48 = .ok (.lload_n 0, 1) := by decide +kernel
theorem dJ13_bitCount_95d88_49 : decode cJ13_bitCount_95d88 49 = .ok (.lload_n 0, 1) := by decide +kernel
theorem dJ13_bitCount_95d88_50 : decode cJ13_bitCount_95d88 50 = .ok (.bipush 32, 2) := by decide +kernel
theorem dJ13_bitCount_95d88_52 : decode cJ13_bitCount_95d88 52 = .ok (.lushr, 1) := by decide +kernel
theorem dJ13_bitCount_95d88_53 : decode cJ13_bitCount_95d88 53 = .ok (.ladd, 1) := by decide +kernel
theorem dJ13_bitCount_95d88_54 : decode cJ13_bitCount_95d88 54 = .ok (.lstore_n 0, 1) := by decide +kernel
theorem dJ13_bitCount_95d88_55 : decode cJ13_bitCount_95d88 55 = .ok (.lload_n 0, 1) := by decide +kernel
theorem dJ13_bitCount_95d88_56 : decode cJ13_bitCount_95d88 56 = .ok (.l2i, 1) := by decide +kernel
theorem dJ13_bitCount_95d88_57 : decode cJ13_bitCount_95d88 57 = .ok (.bipush 127, 2) := by decide +kernel
theorem dJ13_bitCount_95d88_59 : decode cJ13_bitCount_95d88 59 = .ok (.iand, 1) := by decide +kernel
theorem dJ13_bitCount_95d88_60 : decode cJ13_bitCount_95d88 60 = .ok (.ireturn, 1) := by decide +kernel
theorem dJ9_floorMod_7cf53_0 : decode cJ9_floorMod_7cf53 0 = .ok (.iload_n 0, 1) := by decide +kernel
theorem dJ9_floorMod_7cf53_1 : decode cJ9_floorMod_7cf53 1 = .ok (.iload_n 1, 1) := by decide +kernel
theorem dJ9_floorMod_7cf53_2 : decode cJ9_floorMod_7cf53 2 = .ok (.irem, 1) := by decide +kernel
theorem dJ9_floorMod_7cf53_3 : decode cJ9_floorMod_7cf53 3 = .ok (.istore_n 2, 1) := by decide +kernel
theorem dJ9_floorMod_7cf53_4 : decode cJ9_floorMod_7cf53 4 = .ok (.iload_n 0, 1) := by decide +kernel
theorem dJ9_floorMod_7cf53_5 : decode cJ9_floorMod_7cf53 5 = .ok (.iload_n 1, 1) := by decide +kernel
theorem dJ9_floorMod_7cf53_6 : decode cJ9_floorMod_7cf53 6 = .ok (.ixor, 1) := by decide +kernel
theorem dJ9_floorMod_7cf53_7 : decode cJ9_floorMod_7cf53 7 = .ok (.ifCond .ge 11, 3) := by decide +kernel
theorem dJ9_floorMod_7cf53_10 : decode cJ9_floorMod_7cf53 10 = .ok (.iload_n 2, 1) := by decide +kernel
theorem dJ9_floorMod_7cf53_11 : decode cJ9_floorMod_7cf53 11 = .ok (.ifCond .eq 7, 3) := by decide +kernel
theorem dJ9_floorMod_7cf53_14 : decode cJ9_floorMod_7cf53 14 = .ok (.iload_n 2, 1) := by decide +kernel
theorem dJ9_floorMod_7cf53_15 : decode cJ9_floorMod_7cf53 15 = .ok (.iload_n 1, 1) := by decide +kernel
theorem dJ9_floorMod_7cf53_16 : decode cJ9_floorMod_7cf53 16 = .ok (.iadd, 1) := by decide +kernel
theorem dJ9_floorMod_7cf53_17 : decode cJ9_floorMod_7cf53 17 = .ok (.ireturn, 1) := by decide +kernel
theorem dJ9_floorMod_7cf53_18 : decode cJ9_floorMod_7cf53 18 = .ok (.iload_n 2, 1) := by decide +kernel
theorem dJ9_floorMod_7cf53_19 : decode cJ9_floorMod_7cf53 19 = .ok (.ireturn, 1) := by decide +kernel
theorem dJ9_abs_0f7a4_0 : decode cJ9_abs_0f7a4 0 = .ok (.iload_n 0, 1) := by decide +kernel
theorem dJ9_abs_0f7a4_1 : decode cJ9_abs_0f7a4 1 = .ok (.ifCond .ge 8, 3) := by decide +kernel
theorem dJ9_abs_0f7a4_4 : decode cJ9_abs_0f7a4 4 = .ok (.iload_n 0, 1) := by decide +kernel
theorem dJ9_abs_0f7a4_5 : decode cJ9_abs_0f7a4 5 = .ok (.ineg, 1) := by decide +kernel
theorem dJ9_abs_0f7a4_6 : decode cJ9_abs_0f7a4 6 = .ok (.goto 4, 3) := by decide +kernel
theorem dJ9_abs_0f7a4_9 : decode cJ9_abs_0f7a4 9 = .ok (.iload_n 0, 1) := by decide +kernel
theorem dJ9_abs_0f7a4_10 : decode cJ9_abs_0f7a4 10 = .ok (.ireturn, 1) := by decide +kernel
theorem dJ9_max_7cf53_0 : decode cJ9_max_7cf53 0 = .ok (.iload_n 0, 1) := by decide +kernel
theorem dJ9_max_7cf53_1 : decode cJ9_max_7cf53 1 = .ok (.iload_n 1, 1) := by decide +kernel
theorem dJ9_max_7cf53_2 : decode cJ9_max_7cf53 2 = .ok (.if_icmp .lt 7, 3) := by decide +kernel
theorem dJ9_max_7cf53_5 : decode cJ9_max_7cf53 5 = .ok (.iload_n 0, 1) := by decide +kernel
theorem dJ9_max_7cf53_6 : decode cJ9_max_7cf53 6 = .ok (.goto 4, 3) := by decide +kernel
theorem dJ9_max_7cf53_9 : decode cJ9_max_7cf53 9 = .ok (.iload_n 1, 1) := by decide +kernel
theorem dJ9_max_7cf53_10 : decode cJ9_max_7cf53 10 = .ok (.ireturn, 1) := by decide +kernel
theorem dJ9_min_7cf53_0 : decode cJ9_min_7cf53 0 = .ok (.iload_n 0, 1) := by decide +kernel
theorem dJ9_min_7cf53_1 : decode cJ9_min_7cf53 1 = .ok (.iload_n 1, 1) := by decide +kernel
theorem dJ9_min_7cf53_2 : decode cJ9_min_7cf53 2 = .ok (.if_icmp .gt 7, 3) := by decide +kernel
theorem dJ9_min_7cf53_5 : decode cJ9_min_7cf53 5 = .ok (.iload_n 0, 1) := by decide +kernel
theorem dJ9_min_7cf53_6 : decode cJ9_min_7cf53 6 = .ok (.goto 4, 3) := by decide +kernel
theorem dJ9_min_7cf53_9 : decode cJ9_min_7cf53 9 = .ok (.iload_n 1, 1) := by decide +kernel
theorem dJ9_min_7cf53_10 : decode cJ9_min_7cf53 10 = .ok (.ireturn, 1) := by decide +kernel
set_option maxRecDepth 20000 in
theorem ggL_law_X3_init : GoodIn wsL_law wsX3_init := goodIn_r _ [8, 9, 10, 11, 12, 13, 14, 15, 16, 17, 18, 19, 20, 21, 22, 23, 24, 25, 26, 27, 28, 29, 30, 31, 32, 33, 34, 35, 36, 37, 38, 39, 40, 41, 42, 43, 44, 45, 46, 47, 48, 49, 50, 51, 52, 53, 54, 55, 2, 56, 655, 656, 657, 621, 622, 623, 624, 625, 626, 627, 628, 658, 659, 660, 661, 662, 663, 664, 665, 666, 667, 668, 669] (by decide +kernel) (by decide +kernel)
set_option maxRecDepth 20000 in
theorem gL_law_X3_init : GoodIn wsL_law (wsX3_init) := ggL_law_X3_init
set_option maxRecDepth 20000 in
theorem ggL_law_X4_init : GoodIn wsL_law wsX4_init := goodIn_r _ [59, 60, 10, 11, 61, 62, 25, 63, 64, 65, 66, 67, 68, 69, 70, 71, 72, 73, 74, 75, 76, 77, 78, 79, 80, 81, 5, 82, 83, 84, 85, 86, 87, 629, 630, 631, 632, 633, 634, 635, 636, 637, 638, 639, 640, 641, 642, 643, 644, 645, 646, 647, 648, 649, 650, 651, 652, 653, 654] (by decide +kernel) (by decide +kernel)
set_option maxRecDepth 20000 in
theorem gL_law_X4_init : GoodIn wsL_law (wsX4_init) := ggL_law_X4_init
set_option maxRecDepth 20000 in
theorem ggL_law_X3_board : GoodIn wsL_law wsX3_board := goodIn_r _ [91, 15, 19, 47, 48, 49, 14, 50, 51, 52, 33, 53, 54, 55, 2, 56, 26, 27, 92, 93, 94, 18, 95, 96, 621, 622, 623, 624, 625, 626, 627, 628, 655, 656, 657, 658, 659, 660, 661, 662] (by decide +kernel) (by decide +kernel)
set_option maxRecDepth 20000 in
theorem gL_law_X3_board : GoodIn wsL_law (wsV RL 13 RX3 yX3_board wsX3_board) := goodIn_app (goodIn_of _ (by decide +kernel)) ggL_law_X3_board
set_option maxRecDepth 20000 in
theorem ggL_law_X4_board : GoodIn wsL_law wsX4_board := goodIn_r _ [100, 61, 62, 101, 102, 5, 103, 79, 80, 81, 82, 63, 83, 84, 85, 86, 64, 65, 87, 629, 630, 631, 632, 633, 634, 635, 636, 637, 638, 639, 640, 641, 642, 643, 644, 645, 646, 647, 648, 649, 650, 651, 652, 653, 654] (by decide +kernel) (by decide +kernel)
set_option maxRecDepth 20000 in
theorem gL_law_X4_board : GoodIn wsL_law (wsV RL 17 RX4 yX4_board wsX4_board) := goodIn_app (goodIn_of _ (by decide +kernel)) ggL_law_X4_board
set_option maxRecDepth 20000 in
theorem ggL_law_X3_set : GoodIn wsL_law wsX3_set := goodIn_r _ [107, 15, 19, 108, 109, 110, 14, 111, 51, 52, 112, 113, 2, 114, 115, 116, 117, 118, 119, 120, 121, 122, 123, 124, 33, 125, 126, 127, 128, 129, 130, 131, 92, 93, 94, 18, 95, 96, 621, 622, 623, 624, 625, 626, 627, 628, 655, 656, 657, 658, 659, 660, 661, 662] (by decide +kernel) (by decide +kernel)
set_option maxRecDepth 20000 in
theorem gL_law_X3_set : GoodIn wsL_law (wsV RL 18 RX3 yX3_set wsX3_set) := goodIn_app (goodIn_of _ (by decide +kernel)) ggL_law_X3_set
set_option maxRecDepth 20000 in
theorem ggL_law_X4_set : GoodIn wsL_law wsX4_set := goodIn_r _ [135, 63, 87, 136, 137, 138, 5, 139, 61, 140, 141, 142, 143, 62, 101, 102, 103, 144, 145, 146, 629, 630, 631, 632, 633, 634, 635, 636, 637, 638, 639, 640, 641, 642, 643, 644, 645, 646, 647, 648, 649, 650, 651, 652, 653, 654] (by decide +kernel) (by decide +kernel)
set_option maxRecDepth 20000 in
theorem gL_law_X4_set : GoodIn wsL_law (wsV RL 22 RX4 yX4_set wsX4_set) := goodIn_app (goodIn_of _ (by decide +kernel)) ggL_law_X4_set
set_option maxRecDepth 20000 in
theorem ggL_law_X3_at : GoodIn wsL_law wsX3_at := goodIn_r _ [150, 15, 108, 109, 110, 14, 111, 51, 52, 118, 119, 2, 120, 121, 122, 123, 124, 33, 125, 126, 621, 622, 623, 624, 625, 626, 627, 628, 655, 656, 657] (by decide +kernel) (by decide +kernel)
set_option maxRecDepth 20000 in
theorem gL_law_X3_at : GoodIn wsL_law (wsV RL 23 RX3 yX3_at wsX3_at) := goodIn_app (goodIn_of _ (by decide +kernel)) ggL_law_X3_at
set_option maxRecDepth 20000 in
theorem ggL_law_X4_at : GoodIn wsL_law wsX4_at := goodIn_r _ [154, 63, 136, 137, 138, 5, 139, 61, 140, 141, 142, 143, 62, 101, 102, 103, 629, 630, 631, 632, 633, 634, 635, 636, 637, 638, 639, 640, 641, 642, 643, 644, 645, 646, 647, 648, 649, 650, 651, 652, 653, 654] (by decide +kernel) (by decide +kernel)
set_option maxRecDepth 20000 in
theorem gL_law_X4_at : GoodIn wsL_law (wsV RL 26 RX4 yX4_at wsX4_at) := goodIn_app (goodIn_of _ (by decide +kernel)) ggL_law_X4_at
set_option maxRecDepth 20000 in
theorem ggL_law_X3_size : GoodIn wsL_law wsX3_size := goodIn_r _ [158, 15, 115, 116, 2, 117, 159, 160, 161, 14, 162, 163, 164, 165, 166, 33, 167, 168, 169, 170, 171, 172, 173, 621, 622, 623, 624, 625, 626, 627, 628, 655, 656, 657] (by decide +kernel) (by decide +kernel)
set_option maxRecDepth 20000 in
theorem gL_law_X3_size : GoodIn wsL_law (wsV RL 27 RX3 yX3_size wsX3_size) := goodIn_app (goodIn_of _ (by decide +kernel)) ggL_law_X3_size
set_option maxRecDepth 20000 in
theorem ggL_law_X4_size : GoodIn wsL_law wsX4_size := goodIn_r _ [177, 144, 145, 5, 146, 101, 102, 103, 178, 179, 180, 181, 61, 62, 63, 629, 630, 631, 632, 633, 634, 635, 636, 637, 638, 639, 640, 641, 642, 643, 644, 645, 646, 647, 648, 649, 650, 651, 652, 653, 654] (by decide +kernel) (by decide +kernel)
set_option maxRecDepth 20000 in
theorem gL_law_X4_size : GoodIn wsL_law (wsV RL 31 RX4 yX4_size wsX4_size) := goodIn_app (goodIn_of _ (by decide +kernel)) ggL_law_X4_size
set_option maxRecDepth 20000 in
theorem ggL_law_X3_whole : GoodIn wsL_law wsX3_whole := goodIn_r _ [185, 15, 115, 116, 2, 117, 186, 164, 165, 14, 166, 33, 187, 188, 189, 190, 191, 192, 193, 194, 195, 196, 197, 198, 199, 200, 201, 202, 203, 621, 622, 623, 624, 625, 626, 627, 628, 655, 656, 657] (by decide +kernel) (by decide +kernel)
set_option maxRecDepth 20000 in
theorem gL_law_X3_whole : GoodIn wsL_law (wsV RL 32 RX3 yX3_whole wsX3_whole) := goodIn_app (goodIn_of _ (by decide +kernel)) ggL_law_X3_whole
set_option maxRecDepth 20000 in
theorem ggL_law_X4_whole : GoodIn wsL_law wsX4_whole := goodIn_r _ [207, 144, 145, 5, 146, 101, 102, 103, 208, 209, 210, 211, 61, 62, 63, 75, 74, 212, 213, 214, 215, 136, 137, 138, 139, 140, 141, 142, 143, 178, 179, 180, 181, 629, 630, 631, 632, 633, 634, 635, 636, 637, 638, 639, 640, 641, 642, 643, 644, 645, 646, 647, 648, 649, 650, 651, 652, 653, 654] (by decide +kernel) (by decide +kernel)
set_option maxRecDepth 20000 in
theorem gL_law_X4_whole : GoodIn wsL_law (wsV RL 35 RX4 yX4_whole wsX4_whole) := goodIn_app (goodIn_of _ (by decide +kernel)) ggL_law_X4_whole
set_option maxRecDepth 20000 in
theorem ggL_law_X3_touch : GoodIn wsL_law wsX3_touch := goodIn_r _ [219, 15, 112, 113, 2, 114, 115, 116, 117, 186, 164, 165, 14, 166, 33, 220, 221, 222, 223, 224, 131, 191, 192, 193, 194, 195, 196, 197, 198, 199, 200, 225, 226, 227, 228, 201, 202, 203, 190, 621, 622, 623, 624, 625, 626, 627, 628, 655, 656, 657] (by decide +kernel) (by decide +kernel)
set_option maxRecDepth 20000 in
theorem gL_law_X3_touch : GoodIn wsL_law (wsV RL 36 RX3 yX3_touch wsX3_touch) := goodIn_app (goodIn_of _ (by decide +kernel)) ggL_law_X3_touch
set_option maxRecDepth 20000 in
theorem ggL_law_X4_touch : GoodIn wsL_law wsX4_touch := goodIn_r _ [232, 144, 145, 5, 146, 101, 102, 103, 233, 234, 235, 236, 237, 238, 239, 240, 61, 62, 63, 212, 213, 214, 215, 136, 137, 138, 139, 140, 141, 142, 143, 241, 242, 243, 629, 630, 631, 632, 633, 634, 635, 636, 637, 638, 639, 640, 641, 642, 643, 644, 645, 646, 647, 648, 649, 650, 651, 652, 653, 654] (by decide +kernel) (by decide +kernel)
set_option maxRecDepth 20000 in
theorem gL_law_X4_touch : GoodIn wsL_law (wsV RL 39 RX4 yX4_touch wsX4_touch) := goodIn_app (goodIn_of _ (by decide +kernel)) ggL_law_X4_touch
set_option maxRecDepth 20000 in
theorem ggL_law_X3_kind : GoodIn wsL_law wsX3_kind := goodIn_r _ [247, 15, 26, 27, 115, 116, 2, 117, 108, 109, 110, 14, 111, 51, 52, 118, 119, 120, 121, 122, 123, 124, 33, 125, 126, 621, 622, 623, 624, 625, 626, 627, 628, 655, 656, 657] (by decide +kernel) (by decide +kernel)
set_option maxRecDepth 20000 in
theorem gL_law_X3_kind : GoodIn wsL_law (wsV RL 40 RX3 yX3_kind wsX3_kind) := goodIn_app (goodIn_of _ (by decide +kernel)) ggL_law_X3_kind
set_option maxRecDepth 20000 in
theorem ggL_law_X4_kind : GoodIn wsL_law wsX4_kind := goodIn_r _ [251, 63, 64, 65, 144, 145, 5, 146, 101, 102, 103, 140, 141, 142, 143, 61, 62, 136, 137, 138, 139, 629, 630, 631, 632, 633, 634, 635, 636, 637, 638, 639, 640, 641, 642, 643, 644, 645, 646, 647, 648, 649, 650, 651, 652, 653, 654] (by decide +kernel) (by decide +kernel)
set_option maxRecDepth 20000 in
theorem gL_law_X4_kind : GoodIn wsL_law (wsV RL 44 RX4 yX4_kind wsX4_kind) := goodIn_app (goodIn_of _ (by decide +kernel)) ggL_law_X4_kind
set_option maxRecDepth 20000 in
theorem ggL_law_X3_about : GoodIn wsL_law wsX3_about := goodIn_r _ [255, 26, 27, 28, 115, 116, 2, 117, 256, 257, 258, 259, 260, 261, 621, 622, 623, 624, 625, 626, 627, 628] (by decide +kernel) (by decide +kernel)
set_option maxRecDepth 20000 in
theorem gL_law_X3_about : GoodIn wsL_law (wsV RL 45 RX3 yX3_about wsX3_about) := goodIn_app (goodIn_of _ (by decide +kernel)) ggL_law_X3_about
set_option maxRecDepth 20000 in
theorem ggL_law_X4_about : GoodIn wsL_law wsX4_about := goodIn_r _ [265, 64, 65, 61, 66, 144, 145, 5, 146, 101, 102, 103, 629, 630, 631, 632, 633, 634, 635, 636, 637, 638, 639, 640, 641, 642, 643, 644, 645, 646, 647, 648, 649, 650, 651, 652, 653, 654] (by decide +kernel) (by decide +kernel)
set_option maxRecDepth 20000 in
theorem gL_law_X4_about : GoodIn wsL_law (wsV RL 48 RX4 yX4_about wsX4_about) := goodIn_app (goodIn_of _ (by decide +kernel)) ggL_law_X4_about
set_option maxRecDepth 20000 in
theorem ggL_law_X3_leaves : GoodIn wsL_law wsX3_leaves := goodIn_r _ [269, 270, 26, 271, 148, 149, 2, 150, 15, 108, 109, 110, 14, 111, 51, 52, 118, 119, 120, 121, 122, 123, 124, 33, 125, 126, 115, 116, 117, 272, 273, 274, 275, 276, 277, 278, 279, 27, 186, 164, 165, 166, 280, 187, 188, 189, 190, 191, 192, 193, 194, 195, 196, 197, 198, 199, 200, 220, 221, 222, 223, 224, 131, 225, 226, 227, 228, 201, 202, 203, 621, 622, 623, 624, 625, 626, 627, 628, 655, 656, 657] (by decide +kernel) (by decide +kernel)
set_option maxRecDepth 20000 in
theorem gL_law_X3_leaves : GoodIn wsL_law (wsV RL 49 RX3 yX3_leaves wsX3_leaves) := goodIn_app (goodIn_of _ (by decide +kernel)) ggL_law_X3_leaves
set_option maxRecDepth 20000 in
theorem ggL_law_X4_leaves : GoodIn wsL_law wsX4_leaves := goodIn_r _ [284, 63, 64, 285, 286, 287, 136, 137, 138, 5, 139, 61, 140, 141, 142, 143, 62, 101, 102, 103, 288, 289, 290, 291, 65, 208, 209, 210, 211, 75, 74, 212, 213, 214, 215, 178, 179, 180, 181, 629, 630, 631, 632, 633, 634, 635, 636, 637, 638, 639, 640, 641, 642, 643, 644, 645, 646, 647, 648, 649, 650, 651, 652, 653, 654] (by decide +kernel) (by decide +kernel)
set_option maxRecDepth 20000 in
theorem gL_law_X4_leaves : GoodIn wsL_law (wsV RL 52 RX4 yX4_leaves wsX4_leaves) := goodIn_app (goodIn_of _ (by decide +kernel)) ggL_law_X4_leaves
set_option maxRecDepth 20000 in
theorem ggL_law_X3_may : GoodIn wsL_law wsX3_may := goodIn_r _ [295, 15, 108, 109, 110, 14, 111, 51, 52, 115, 116, 2, 117, 118, 119, 120, 296, 297, 298, 299, 121, 122, 123, 124, 33, 125, 126, 280, 190, 191, 192, 193, 194, 195, 196, 197, 198, 199, 200, 186, 164, 165, 166, 275, 276, 277, 278, 279, 27, 26, 187, 188, 189, 220, 221, 222, 223, 224, 131, 225, 226, 227, 228, 300, 301, 302, 303, 304, 127, 128, 129, 130, 201, 202, 203, 621, 622, 623, 624, 625, 626, 627, 628, 655, 656, 657] (by decide +kernel) (by decide +kernel)
set_option maxRecDepth 20000 in
theorem gL_law_X3_may : GoodIn wsL_law (wsV RL 53 RX3 yX3_may wsX3_may) := goodIn_app (goodIn_of _ (by decide +kernel)) ggL_law_X3_may
set_option maxRecDepth 20000 in
theorem ggL_law_X4_may : GoodIn wsL_law wsX4_may := goodIn_r _ [308, 136, 137, 138, 5, 139, 61, 140, 141, 142, 143, 62, 101, 102, 103, 144, 145, 146, 309, 310, 311, 312, 63, 212, 213, 214, 215, 288, 289, 290, 291, 64, 65, 208, 209, 210, 211, 75, 74, 178, 179, 180, 181, 237, 238, 239, 240, 241, 242, 243, 629, 630, 631, 632, 633, 634, 635, 636, 637, 638, 639, 640, 641, 642, 643, 644, 645, 646, 647, 648, 649, 650, 651, 652, 653, 654] (by decide +kernel) (by decide +kernel)
set_option maxRecDepth 20000 in
theorem gL_law_X4_may : GoodIn wsL_law (wsV RL 56 RX4 yX4_may wsX4_may) := goodIn_app (goodIn_of _ (by decide +kernel)) ggL_law_X4_may
set_option maxRecDepth 20000 in
theorem ggL_law_X3_move : GoodIn wsL_law wsX3_move := goodIn_r _ [316, 15, 108, 109, 110, 14, 111, 51, 52, 115, 116, 2, 117, 118, 119, 120, 296, 297, 298, 299, 121, 122, 123, 124, 33, 125, 126, 280, 190, 191, 192, 193, 194, 195, 196, 197, 198, 199, 200, 186, 164, 165, 166, 275, 276, 277, 278, 279, 27, 26, 187, 188, 189, 220, 221, 222, 223, 224, 131, 225, 226, 227, 228, 300, 301, 302, 303, 304, 127, 128, 129, 130, 317, 318, 319, 320, 19, 321, 322, 323, 18, 324, 325, 37, 38, 96, 326, 327, 328, 329, 330, 331, 332, 333, 334, 621, 622, 623, 624, 625, 626, 627, 628, 655, 656, 657, 658, 659, 660, 661, 662] (by decide +kernel) (by decide +kernel)
set_option maxRecDepth 20000 in
theorem gL_law_X3_move : GoodIn wsL_law (wsV RL 57 RX3 yX3_move wsX3_move) := goodIn_app (goodIn_of _ (by decide +kernel)) ggL_law_X3_move
set_option maxRecDepth 20000 in
theorem ggL_law_X4_move : GoodIn wsL_law wsX4_move := goodIn_r _ [338, 63, 136, 137, 138, 5, 139, 61, 140, 141, 142, 143, 62, 101, 102, 103, 144, 145, 146, 309, 310, 311, 312, 212, 213, 214, 215, 288, 289, 290, 291, 64, 65, 208, 209, 210, 211, 75, 74, 178, 179, 180, 181, 237, 238, 239, 240, 241, 242, 243, 339, 340, 341, 342, 67, 343, 68, 87, 344, 629, 630, 631, 632, 633, 634, 635, 636, 637, 638, 639, 640, 641, 642, 643, 644, 645, 646, 647, 648, 649, 650, 651, 652, 653, 654] (by decide +kernel) (by decide +kernel)
set_option maxRecDepth 20000 in
theorem gL_law_X4_move : GoodIn wsL_law (wsV RL 60 RX4 yX4_move wsX4_move) := goodIn_app (goodIn_of _ (by decide +kernel)) ggL_law_X4_move
set_option maxRecDepth 20000 in
theorem ggL_law_X3_want : GoodIn wsL_law wsX3_want := goodIn_r _ [348, 28, 115, 116, 2, 117, 621, 622, 623, 624, 625, 626, 627, 628] (by decide +kernel) (by decide +kernel)
set_option maxRecDepth 20000 in
theorem gL_law_X3_want : GoodIn wsL_law (wsV RL 61 RX3 yX3_want wsX3_want) := goodIn_app (goodIn_of _ (by decide +kernel)) ggL_law_X3_want
set_option maxRecDepth 20000 in
theorem ggL_law_X4_want : GoodIn wsL_law wsX4_want := goodIn_r _ [352, 66, 144, 145, 5, 146, 101, 102, 103, 629, 630, 631, 632, 633, 634, 635, 636, 637, 638, 639, 640, 641, 642, 643, 644, 645, 646, 647, 648, 649, 650, 651, 652, 653, 654] (by decide +kernel) (by decide +kernel)
set_option maxRecDepth 20000 in
theorem gL_law_X4_want : GoodIn wsL_law (wsV RL 64 RX4 yX4_want wsX4_want) := goodIn_app (goodIn_of _ (by decide +kernel)) ggL_law_X4_want
set_option maxRecDepth 20000 in
theorem ggL_law_X3_miss : GoodIn wsL_law wsX3_miss := goodIn_r _ [356, 15, 159, 160, 161, 14, 162, 163, 164, 165, 166, 33, 116, 2, 117, 167, 168, 169, 170, 171, 172, 173, 357, 358, 359, 360, 28, 361, 362, 328, 363, 115, 621, 622, 623, 624, 625, 626, 627, 628, 655, 656, 657] (by decide +kernel) (by decide +kernel)
set_option maxRecDepth 20000 in
theorem gL_law_X3_miss : GoodIn wsL_law (wsV RL 65 RX3 yX3_miss wsX3_miss) := goodIn_app (goodIn_of _ (by decide +kernel)) ggL_law_X3_miss
set_option maxRecDepth 20000 in
theorem ggL_law_X4_miss : GoodIn wsL_law wsX4_miss := goodIn_r _ [367, 368, 369, 370, 5, 371, 66, 178, 179, 180, 181, 61, 62, 63, 629, 630, 631, 632, 633, 634, 635, 636, 637, 638, 639, 640, 641, 642, 643, 644, 645, 646, 647, 648, 649, 650, 651, 652, 653, 654] (by decide +kernel) (by decide +kernel)
set_option maxRecDepth 20000 in
theorem gL_law_X4_miss : GoodIn wsL_law (wsV RL 69 RX4 yX4_miss wsX4_miss) := goodIn_app (goodIn_of _ (by decide +kernel)) ggL_law_X4_miss
set_option maxRecDepth 20000 in
theorem ggL_law_X3_steps : GoodIn wsL_law wsX3_steps := goodIn_r _ [375, 376, 377, 378, 2, 379, 15, 380, 354, 355, 356, 159, 160, 161, 14, 162, 163, 164, 165, 166, 33, 116, 117, 167, 168, 169, 170, 171, 172, 173, 357, 358, 359, 360, 28, 361, 362, 328, 363, 115, 121, 122, 123, 124, 125, 126, 381, 382, 383, 384, 296, 297, 298, 299, 280, 190, 191, 192, 193, 194, 195, 196, 197, 198, 199, 200, 186, 275, 276, 277, 278, 279, 27, 26, 187, 188, 189, 220, 221, 222, 223, 224, 131, 225, 226, 227, 228, 300, 301, 302, 303, 304, 127, 128, 129, 130, 317, 318, 319, 320, 19, 321, 322, 323, 18, 324, 325, 37, 38, 96, 326, 327, 329, 330, 331, 332, 333, 334, 621, 622, 623, 624, 625, 626, 627, 628, 655, 656, 657, 658, 659, 660, 661, 662] (by decide +kernel) (by decide +kernel)
set_option maxRecDepth 20000 in
theorem gL_law_X3_steps : GoodIn wsL_law (wsV RL 70 RX3 yX3_steps wsX3_steps) := goodIn_app (goodIn_of _ (by decide +kernel)) ggL_law_X3_steps
set_option maxRecDepth 20000 in
theorem ggL_law_X4_steps : GoodIn wsL_law wsX4_steps := goodIn_r _ [388, 101, 102, 5, 103, 389, 390, 391, 392, 61, 62, 63, 368, 369, 370, 371, 66, 178, 179, 180, 181, 309, 310, 311, 312, 212, 213, 214, 215, 136, 137, 138, 139, 140, 141, 142, 143, 288, 289, 290, 291, 64, 65, 208, 209, 210, 211, 75, 74, 237, 238, 239, 240, 241, 242, 243, 339, 340, 341, 342, 67, 343, 68, 87, 344, 629, 630, 631, 632, 633, 634, 635, 636, 637, 638, 639, 640, 641, 642, 643, 644, 645, 646, 647, 648, 649, 650, 651, 652, 653, 654] (by decide +kernel) (by decide +kernel)
set_option maxRecDepth 20000 in
theorem gL_law_X4_steps : GoodIn wsL_law (wsV RL 73 RX4 yX4_steps wsX4_steps) := goodIn_app (goodIn_of _ (by decide +kernel)) ggL_law_X4_steps
set_option maxRecDepth 20000 in
theorem ggL_law_X3_undo : GoodIn wsL_law wsX3_undo := goodIn_r _ [396, 19, 397, 15, 398, 399, 400, 18, 401, 37, 325, 331, 332, 333, 334, 402, 403, 404, 405, 38, 127, 128, 129, 14, 130, 33, 131, 125, 2, 126, 406, 407, 408, 409, 96, 621, 622, 623, 624, 625, 626, 627, 628, 658, 659, 660, 661, 662, 655, 656, 657] (by decide +kernel) (by decide +kernel)
set_option maxRecDepth 20000 in
theorem gL_law_X3_undo : GoodIn wsL_law (wsV RL 74 RX3 yX3_undo wsX3_undo) := goodIn_app (goodIn_of _ (by decide +kernel)) ggL_law_X3_undo
set_option maxRecDepth 20000 in
theorem ggL_law_X4_undo : GoodIn wsL_law wsX4_undo := goodIn_r _ [413, 87, 343, 63, 67, 68, 101, 102, 5, 103, 629, 630, 631, 632, 633, 634, 635, 636, 637, 638, 639, 640, 641, 642, 643, 644, 645, 646, 647, 648, 649, 650, 651, 652, 653, 654] (by decide +kernel) (by decide +kernel)
set_option maxRecDepth 20000 in
theorem gL_law_X4_undo : GoodIn wsL_law (wsV RL 77 RX4 yX4_undo wsX4_undo) := goodIn_app (goodIn_of _ (by decide +kernel)) ggL_law_X4_undo
set_option maxRecDepth 20000 in
theorem ggL_law_X3_label : GoodIn wsL_law wsX3_label := goodIn_r _ [417, 15, 115, 116, 2, 117, 186, 164, 165, 14, 166, 33, 418, 419, 420, 193, 194, 195, 196, 197, 198, 199, 200, 421, 422, 423, 280, 125, 126, 256, 257, 258, 259, 260, 261, 621, 622, 623, 624, 625, 626, 627, 628, 655, 656, 657] (by decide +kernel) (by decide +kernel)
set_option maxRecDepth 20000 in
theorem gL_law_X3_label : GoodIn wsL_law (wsV RL 78 RX3 yX3_label wsX3_label) := goodIn_app (goodIn_of _ (by decide +kernel)) ggL_law_X3_label
set_option maxRecDepth 20000 in
theorem ggL_law_X4_label : GoodIn wsL_law wsX4_label := goodIn_r _ [427, 61, 62, 76, 144, 145, 5, 146, 101, 102, 103, 178, 179, 180, 181, 63, 428, 429, 430, 431, 212, 213, 214, 215, 136, 137, 138, 139, 140, 141, 142, 143, 629, 630, 631, 632, 633, 634, 635, 636, 637, 638, 639, 640, 641, 642, 643, 644, 645, 646, 647, 648, 649, 650, 651, 652, 653, 654] (by decide +kernel) (by decide +kernel)
set_option maxRecDepth 20000 in
theorem gL_law_X4_label : GoodIn wsL_law (wsV RL 81 RX4 yX4_label wsX4_label) := goodIn_app (goodIn_of _ (by decide +kernel)) ggL_law_X4_label
set_option maxRecDepth 20000 in
theorem ggL_law_X3_longer : GoodIn wsL_law wsX3_longer := goodIn_r _ [435, 23, 15, 436, 437, 438, 2, 439, 115, 116, 117, 159, 160, 161, 14, 162, 163, 164, 165, 166, 33, 167, 168, 169, 170, 171, 172, 173, 440, 441, 442, 443, 444, 445, 446, 22, 447, 448, 449, 42, 43, 450, 451, 452, 453, 454, 455, 456, 457, 458, 459, 460, 328, 461, 44, 45, 46, 462, 463, 464, 465, 466, 467, 468, 469, 470, 471, 472, 473, 474, 475, 476, 477, 478, 479, 480, 481, 482, 327, 329, 483, 484, 485, 621, 622, 623, 624, 625, 626, 627, 628, 655, 656, 657, 663, 664, 665, 666, 667, 668, 669] (by decide +kernel) (by decide +kernel)
set_option maxRecDepth 20000 in
theorem gL_law_X3_longer : GoodIn wsL_law (wsV RL 82 RX3 yX3_longer wsX3_longer) := goodIn_app (goodIn_of _ (by decide +kernel)) ggL_law_X3_longer
set_option maxRecDepth 20000 in
theorem ggL_law_X4_longer : GoodIn wsL_law wsX4_longer := goodIn_r _ [489, 101, 102, 5, 103, 490, 491, 492, 493, 494, 78, 144, 145, 146, 178, 179, 180, 181, 61, 62, 63, 495, 496, 497, 498, 499, 77, 500, 501, 502, 503, 504, 505, 506, 507, 508, 509, 510, 511, 512, 513, 514, 515, 516, 517, 629, 630, 631, 632, 633, 634, 635, 636, 637, 638, 639, 640, 641, 642, 643, 644, 645, 646, 647, 648, 649, 650, 651, 652, 653, 654] (by decide +kernel) (by decide +kernel)
set_option maxRecDepth 20000 in
theorem gL_law_X4_longer : GoodIn wsL_law (wsV RL 85 RX4 yX4_longer wsX4_longer) := goodIn_app (goodIn_of _ (by decide +kernel)) ggL_law_X4_longer
set_option maxRecDepth 20000 in
theorem ggL_law_X3_box : GoodIn wsL_law wsX3_box := goodIn_r _ [521, 23, 15, 436, 437, 438, 2, 439, 115, 116, 117, 159, 160, 161, 14, 162, 163, 164, 165, 166, 33, 167, 168, 169, 170, 171, 172, 173, 440, 441, 442, 443, 444, 445, 446, 22, 447, 448, 449, 42, 43, 450, 451, 452, 453, 454, 455, 456, 457, 458, 459, 460, 328, 461, 44, 45, 46, 462, 463, 464, 465, 522, 523, 524, 525, 526, 527, 621, 622, 623, 624, 625, 626, 627, 628, 655, 656, 657, 663, 664, 665, 666, 667, 668, 669] (by decide +kernel) (by decide +kernel)
set_option maxRecDepth 20000 in
theorem gL_law_X3_box : GoodIn wsL_law (wsV RL 86 RX3 yX3_box wsX3_box) := goodIn_app (goodIn_of _ (by decide +kernel)) ggL_law_X3_box
set_option maxRecDepth 20000 in
theorem ggL_law_X4_box : GoodIn wsL_law wsX4_box := goodIn_r _ [531, 504, 505, 506, 499, 77, 101, 102, 5, 103, 490, 491, 492, 493, 494, 78, 144, 145, 146, 178, 179, 180, 181, 61, 62, 63, 495, 496, 497, 498, 500, 501, 502, 503, 629, 630, 631, 632, 633, 634, 635, 636, 637, 638, 639, 640, 641, 642, 643, 644, 645, 646, 647, 648, 649, 650, 651, 652, 653, 654] (by decide +kernel) (by decide +kernel)
set_option maxRecDepth 20000 in
theorem gL_law_X4_box : GoodIn wsL_law (wsV RL 89 RX4 yX4_box wsX4_box) := goodIn_app (goodIn_of _ (by decide +kernel)) ggL_law_X4_box
set_option maxRecDepth 20000 in
theorem ggL_law_X3_best : GoodIn wsL_law wsX3_best := goodIn_r _ [535, 23, 15, 536, 444, 445, 446, 22, 447, 448, 449, 42, 43, 450, 160, 161, 14, 162, 163, 164, 165, 166, 33, 116, 2, 117, 167, 168, 169, 170, 171, 172, 173, 537, 538, 539, 540, 459, 460, 328, 461, 541, 452, 453, 454, 455, 456, 457, 458, 44, 45, 46, 542, 543, 544, 545, 546, 467, 468, 469, 470, 471, 472, 473, 474, 475, 476, 477, 547, 479, 480, 481, 482, 327, 329, 621, 622, 623, 624, 625, 626, 627, 628, 663, 664, 665, 666, 667, 668, 669, 655, 656, 657] (by decide +kernel) (by decide +kernel)
set_option maxRecDepth 20000 in
theorem gL_law_X3_best : GoodIn wsL_law (wsV RL 90 RX3 yX3_best wsX3_best) := goodIn_app (goodIn_of _ (by decide +kernel)) ggL_law_X3_best
set_option maxRecDepth 20000 in
theorem ggL_law_X4_best : GoodIn wsL_law wsX4_best := goodIn_r _ [551, 494, 495, 496, 497, 5, 498, 499, 77, 78, 178, 179, 180, 181, 61, 62, 63, 500, 501, 502, 503, 504, 505, 506, 507, 508, 509, 510, 511, 512, 513, 514, 515, 516, 517, 629, 630, 631, 632, 633, 634, 635, 636, 637, 638, 639, 640, 641, 642, 643, 644, 645, 646, 647, 648, 649, 650, 651, 652, 653, 654] (by decide +kernel) (by decide +kernel)
set_option maxRecDepth 20000 in
theorem gL_law_X4_best : GoodIn wsL_law (wsV RL 93 RX4 yX4_best wsX4_best) := goodIn_app (goodIn_of _ (by decide +kernel)) ggL_law_X4_best
set_option maxRecDepth 20000 in
theorem ggL_law_X3_keep : GoodIn wsL_law wsX3_keep := goodIn_r _ [555, 24, 12, 13, 14, 15, 556, 557, 2, 558, 29, 30, 31, 10, 11, 32, 33, 559, 560, 561, 562, 51, 52, 563, 564, 565, 566, 225, 226, 227, 228, 167, 168, 169, 170, 171, 172, 173, 621, 622, 623, 624, 625, 626, 627, 628, 655, 656, 657] (by decide +kernel) (by decide +kernel)
set_option maxRecDepth 20000 in
theorem gL_law_X3_keep : GoodIn wsL_law (wsV RL 94 RX3 yX3_keep wsX3_keep) := goodIn_app (goodIn_of _ (by decide +kernel)) ggL_law_X3_keep
set_option maxRecDepth 20000 in
theorem ggL_law_X4_keep : GoodIn wsL_law wsX4_keep := goodIn_r _ [570, 70, 71, 61, 72, 62, 73, 63, 571, 572, 5, 573, 101, 102, 103, 574, 575, 576, 577, 178, 179, 180, 181, 629, 630, 631, 632, 633, 634, 635, 636, 637, 638, 639, 640, 641, 642, 643, 644, 645, 646, 647, 648, 649, 650, 651, 652, 653, 654] (by decide +kernel) (by decide +kernel)
set_option maxRecDepth 20000 in
theorem gL_law_X4_keep : GoodIn wsL_law (wsV RL 97 RX4 yX4_keep wsX4_keep) := goodIn_app (goodIn_of _ (by decide +kernel)) ggL_law_X4_keep
set_option maxRecDepth 20000 in
theorem ggL_law_X3_back : GoodIn wsL_law wsX3_back := goodIn_r _ [581, 24, 15, 19, 556, 557, 2, 558, 559, 560, 561, 14, 562, 51, 52, 33, 53, 54, 55, 56, 26, 27, 92, 93, 94, 18, 95, 96, 563, 564, 565, 566, 225, 226, 227, 228, 167, 168, 169, 170, 171, 172, 173, 621, 622, 623, 624, 625, 626, 627, 628, 655, 656, 657, 658, 659, 660, 661, 662] (by decide +kernel) (by decide +kernel)
set_option maxRecDepth 20000 in
theorem gL_law_X3_back : GoodIn wsL_law (wsV RL 98 RX3 yX3_back wsX3_back) := goodIn_app (goodIn_of _ (by decide +kernel)) ggL_law_X3_back
set_option maxRecDepth 20000 in
theorem ggL_law_X4_back : GoodIn wsL_law wsX4_back := goodIn_r _ [585, 70, 71, 61, 72, 62, 63, 73, 571, 572, 5, 573, 101, 102, 103, 83, 84, 85, 86, 64, 65, 87, 574, 575, 576, 577, 178, 179, 180, 181, 629, 630, 631, 632, 633, 634, 635, 636, 637, 638, 639, 640, 641, 642, 643, 644, 645, 646, 647, 648, 649, 650, 651, 652, 653, 654] (by decide +kernel) (by decide +kernel)
set_option maxRecDepth 20000 in
theorem gL_law_X4_back : GoodIn wsL_law (wsV RL 101 RX4 yX4_back wsX4_back) := goodIn_app (goodIn_of _ (by decide +kernel)) ggL_law_X4_back
set_option maxRecDepth 20000 in
theorem ggL_law_X3_moved : GoodIn wsL_law wsX3_moved := goodIn_r _ [589, 24, 556, 557, 2, 558, 590, 591, 592, 14, 593, 51, 52, 594, 595, 596, 597, 33, 167, 168, 169, 170, 171, 172, 173, 621, 622, 623, 624, 625, 626, 627, 628, 655, 656, 657] (by decide +kernel) (by decide +kernel)
set_option maxRecDepth 20000 in
theorem gL_law_X3_moved : GoodIn wsL_law (wsV RL 102 RX3 yX3_moved wsX3_moved) := goodIn_app (goodIn_of _ (by decide +kernel)) ggL_law_X3_moved
set_option maxRecDepth 20000 in
theorem ggL_law_X4_moved : GoodIn wsL_law wsX4_moved := goodIn_r _ [601, 70, 71, 72, 73, 571, 572, 5, 573, 101, 102, 103, 629, 630, 631, 632, 633, 634, 635, 636, 637, 638, 639, 640, 641, 642, 643, 644, 645, 646, 647, 648, 649, 650, 651, 652, 653, 654] (by decide +kernel) (by decide +kernel)
set_option maxRecDepth 20000 in
theorem gL_law_X4_moved : GoodIn wsL_law (wsV RL 105 RX4 yX4_moved wsX4_moved) := goodIn_app (goodIn_of _ (by decide +kernel)) ggL_law_X4_moved
set_option maxRecDepth 20000 in
theorem ggL_law_X3_count : GoodIn wsL_law wsX3_count := goodIn_r _ [605, 15, 606, 607, 19, 397, 608, 440, 441, 442, 14, 443, 33, 621, 622, 623, 624, 625, 626, 627, 628, 655, 656, 657, 658, 659, 660, 661, 662] (by decide +kernel) (by decide +kernel)
set_option maxRecDepth 20000 in
theorem gL_law_X3_count : GoodIn wsL_law (wsV RL 106 RX3 yX3_count wsX3_count) := goodIn_app (goodIn_of _ (by decide +kernel)) ggL_law_X3_count
set_option maxRecDepth 20000 in
theorem ggL_law_X4_count : GoodIn wsL_law wsX4_count := goodIn_r _ [612, 61, 62, 87, 344, 178, 179, 180, 5, 181, 63, 629, 630, 631, 632, 633, 634, 635, 636, 637, 638, 639, 640, 641, 642, 643, 644, 645, 646, 647, 648, 649, 650, 651, 652, 653, 654] (by decide +kernel) (by decide +kernel)
set_option maxRecDepth 20000 in
theorem gL_law_X4_count : GoodIn wsL_law (wsV RL 109 RX4 yX4_count wsX4_count) := goodIn_app (goodIn_of _ (by decide +kernel)) ggL_law_X4_count
set_option maxRecDepth 20000 in
theorem ggL_law_X3_trace : GoodIn wsL_law wsX3_trace := goodIn_r _ [616, 270, 621, 622, 623, 624, 625, 626, 627, 628] (by decide +kernel) (by decide +kernel)
set_option maxRecDepth 20000 in
theorem gL_law_X3_trace : GoodIn wsL_law (wsV RL 110 RX3 yX3_trace wsX3_trace) := goodIn_app (goodIn_of _ (by decide +kernel)) ggL_law_X3_trace
set_option maxRecDepth 20000 in
theorem ggL_law_X4_trace : GoodIn wsL_law wsX4_trace := goodIn_r _ [620, 285, 629, 630, 631, 632, 633, 634, 635, 636, 637, 638, 639, 640, 641, 642, 643, 644, 645, 646, 647, 648, 649, 650, 651, 652, 653, 654] (by decide +kernel) (by decide +kernel)
set_option maxRecDepth 20000 in
theorem gL_law_X4_trace : GoodIn wsL_law (wsV RL 114 RX4 yX4_trace wsX4_trace) := goodIn_app (goodIn_of _ (by decide +kernel)) ggL_law_X4_trace
theorem dL_law_0 : decode cL_law 0 = .ok (.new 7, 3) := by decide +kernel
theorem dL_law_3 : decode cL_law 3 = .ok (.dup, 1) := by decide +kernel
theorem dL_law_4 : decode cL_law 4 = .ok (.invokespecial 9, 3) := by decide +kernel
theorem dL_law_7 : decode cL_law 7 = .ok (.astore_n 1, 1) := by decide +kernel
theorem dL_law_8 : decode cL_law 8 = .ok (.new 10, 3) := by decide +kernel
theorem dL_law_11 : decode cL_law 11 = .ok (.dup, 1) := by decide +kernel
theorem dL_law_12 : decode cL_law 12 = .ok (.invokespecial 12, 3) := by decide +kernel
theorem dL_law_15 : decode cL_law 15 = .ok (.astore_n 2, 1) := by decide +kernel
theorem dL_law_16 : decode cL_law 16 = .ok (.iconst 0, 1) := by decide +kernel
theorem dL_law_17 : decode cL_law 17 = .ok (.istore_n 3, 1) := by decide +kernel
theorem dL_law_18 : decode cL_law 18 = .ok (.iload_n 3, 1) := by decide +kernel
theorem dL_law_19 : decode cL_law 19 = .ok (.aload_n 0, 1) := by decide +kernel
theorem dL_law_20 : decode cL_law 20 = .ok (.arraylength, 1) := by decide +kernel
theorem dL_law_21 : decode cL_law 21 = .ok (.iconst 5, 1) := by decide +kernel
theorem dL_law_22 : decode cL_law 22 = .ok (.isub, 1) := by decide +kernel
theorem dL_law_23 : decode cL_law 23 = .ok (.if_icmp .gt 860, 3) := by decide +kernel
theorem dL_law_26 : decode cL_law 26 = .ok (.aload_n 0, 1) := by decide +kernel
theorem dL_law_27 : decode cL_law 27 = .ok (.iload_n 3, 1) := by decide +kernel
theorem dL_law_28 : decode cL_law 28 = .ok (.iaload, 1) := by decide +kernel
theorem dL_law_29 : decode cL_law 29 = .ok (.bipush 31, 2) := by decide +kernel
theorem dL_law_31 : decode cL_law 31 = .ok (.iand, 1) := by decide +kernel
theorem dL_law_32 : decode cL_law 32 = .ok (.tableswitch 845 0 23 #[112, 145, 188, 221, 244, 267, 300, 353, 386, 419, 462, 505, 538, 551, 574, 597, 630, 673, 716, 729, 752, 775, 808, 831], 112) := by decide +kernel
theorem dL_law_144 : decode cL_law 144 = .ok (.aload_n 1, 1) := by decide +kernel
theorem dL_law_145 : decode cL_law 145 = .ok (.aload_n 0, 1) := by decide +kernel
theorem dL_law_146 : decode cL_law 146 = .ok (.iload_n 3, 1) := by decide +kernel
theorem dL_law_147 : decode cL_law 147 = .ok (.iconst 1, 1) := by decide +kernel
theorem dL_law_148 : decode cL_law 148 = .ok (.iadd, 1) := by decide +kernel
theorem dL_law_149 : decode cL_law 149 = .ok (.iaload, 1) := by decide +kernel
theorem dL_law_150 : decode cL_law 150 = .ok (.aload_n 0, 1) := by decide +kernel
theorem dL_law_151 : decode cL_law 151 = .ok (.iload_n 3, 1) := by decide +kernel
theorem dL_law_152 : decode cL_law 152 = .ok (.iconst 2, 1) := by decide +kernel
theorem dL_law_153 : decode cL_law 153 = .ok (.iadd, 1) := by decide +kernel
theorem dL_law_154 : decode cL_law 154 = .ok (.iaload, 1) := by decide +kernel
theorem dL_law_155 : decode cL_law 155 = .ok (.invokevirtual 13, 3) := by decide +kernel
theorem dL_law_158 : decode cL_law 158 = .ok (.aload_n 2, 1) := by decide +kernel
theorem dL_law_159 : decode cL_law 159 = .ok (.aload_n 0, 1) := by decide +kernel
theorem dL_law_160 : decode cL_law 160 = .ok (.iload_n 3, 1) := by decide +kernel
theorem dL_law_161 : decode cL_law 161 = .ok (.iconst 1, 1) := by decide +kernel
theorem dL_law_162 : decode cL_law 162 = .ok (.iadd, 1) := by decide +kernel
theorem dL_law_163 : decode cL_law 163 = .ok (.iaload, 1) := by decide +kernel
theorem dL_law_164 : decode cL_law 164 = .ok (.aload_n 0, 1) := by decide +kernel
theorem dL_law_165 : decode cL_law 165 = .ok (.iload_n 3, 1) := by decide +kernel
theorem dL_law_166 : decode cL_law 166 = .ok (.iconst 2, 1) := by decide +kernel
theorem dL_law_167 : decode cL_law 167 = .ok (.iadd, 1) := by decide +kernel
theorem dL_law_168 : decode cL_law 168 = .ok (.iaload, 1) := by decide +kernel
theorem dL_law_169 : decode cL_law 169 = .ok (.invokevirtual 17, 3) := by decide +kernel
theorem dL_law_172 : decode cL_law 172 = .ok (.if_icmp .eq 705, 3) := by decide +kernel
theorem dL_law_175 : decode cL_law 175 = .ok (.iconst 0, 1) := by decide +kernel
theorem dL_law_176 : decode cL_law 176 = .ok (.ireturn, 1) := by decide +kernel
theorem dL_law_177 : decode cL_law 177 = .ok (.aload_n 1, 1) := by decide +kernel
theorem dL_law_178 : decode cL_law 178 = .ok (.aload_n 0, 1) := by decide +kernel
theorem dL_law_179 : decode cL_law 179 = .ok (.iload_n 3, 1) := by decide +kernel
theorem dL_law_180 : decode cL_law 180 = .ok (.iconst 1, 1) := by decide +kernel
theorem dL_law_181 : decode cL_law 181 = .ok (.iadd, 1) := by decide +kernel
theorem dL_law_182 : decode cL_law 182 = .ok (.iaload, 1) := by decide +kernel
theorem dL_law_183 : decode cL_law 183 = .ok (.aload_n 0, 1) := by decide +kernel
theorem dL_law_184 : decode cL_law 184 = .ok (.iload_n 3, 1) := by decide +kernel
theorem dL_law_185 : decode cL_law 185 = .ok (.iconst 2, 1) := by decide +kernel
theorem dL_law_186 : decode cL_law 186 = .ok (.iadd, 1) := by decide +kernel
theorem dL_law_187 : decode cL_law 187 = .ok (.iaload, 1) := by decide +kernel
theorem dL_law_188 : decode cL_law 188 = .ok (.aload_n 0, 1) := by decide +kernel
theorem dL_law_189 : decode cL_law 189 = .ok (.iload_n 3, 1) := by decide +kernel
theorem dL_law_190 : decode cL_law 190 = .ok (.iconst 3, 1) := by decide +kernel
theorem dL_law_191 : decode cL_law 191 = .ok (.iadd, 1) := by decide +kernel
theorem dL_law_192 : decode cL_law 192 = .ok (.iaload, 1) := by decide +kernel
theorem dL_law_193 : decode cL_law 193 = .ok (.invokevirtual 18, 3) := by decide +kernel
theorem dL_law_196 : decode cL_law 196 = .ok (.aload_n 2, 1) := by decide +kernel
theorem dL_law_197 : decode cL_law 197 = .ok (.aload_n 0, 1) := by decide +kernel
theorem dL_law_198 : decode cL_law 198 = .ok (.iload_n 3, 1) := by decide +kernel
theorem dL_law_199 : decode cL_law 199 = .ok (.iconst 1, 1) := by decide +kernel
theorem dL_law_200 : decode cL_law 200 = .ok (.iadd, 1) := by decide +kernel
theorem dL_law_201 : decode cL_law 201 = .ok (.iaload, 1) := by decide +kernel
theorem dL_law_202 : decode cL_law 202 = .ok (.aload_n 0, 1) := by decide +kernel
theorem dL_law_203 : decode cL_law 203 = .ok (.iload_n 3, 1) := by decide +kernel
theorem dL_law_204 : decode cL_law 204 = .ok (.iconst 2, 1) := by decide +kernel
theorem dL_law_205 : decode cL_law 205 = .ok (.iadd, 1) := by decide +kernel
theorem dL_law_206 : decode cL_law 206 = .ok (.iaload, 1) := by decide +kernel
theorem dL_law_207 : decode cL_law 207 = .ok (.aload_n 0, 1) := by decide +kernel
theorem dL_law_208 : decode cL_law 208 = .ok (.iload_n 3, 1) := by decide +kernel
theorem dL_law_209 : decode cL_law 209 = .ok (.iconst 3, 1) := by decide +kernel
theorem dL_law_210 : decode cL_law 210 = .ok (.iadd, 1) := by decide +kernel
theorem dL_law_211 : decode cL_law 211 = .ok (.iaload, 1) := by decide +kernel
theorem dL_law_212 : decode cL_law 212 = .ok (.invokevirtual 22, 3) := by decide +kernel
theorem dL_law_215 : decode cL_law 215 = .ok (.if_icmp .eq 662, 3) := by decide +kernel
theorem dL_law_218 : decode cL_law 218 = .ok (.iconst 0, 1) := by decide +kernel
theorem dL_law_219 : decode cL_law 219 = .ok (.ireturn, 1) := by decide +kernel
theorem dL_law_220 : decode cL_law 220 = .ok (.aload_n 1, 1) := by decide +kernel
theorem dL_law_221 : decode cL_law 221 = .ok (.aload_n 0, 1) := by decide +kernel
theorem dL_law_222 : decode cL_law 222 = .ok (.iload_n 3, 1) := by decide +kernel
theorem dL_law_223 : decode cL_law 223 = .ok (.iconst 1, 1) := by decide +kernel
theorem dL_law_224 : decode cL_law 224 = .ok (.iadd, 1) := by decide +kernel
theorem dL_law_225 : decode cL_law 225 = .ok (.iaload, 1) := by decide +kernel
theorem dL_law_226 : decode cL_law 226 = .ok (.aload_n 0, 1) := by decide +kernel
theorem dL_law_227 : decode cL_law 227 = .ok (.iload_n 3, 1) := by decide +kernel
theorem dL_law_228 : decode cL_law 228 = .ok (.iconst 2, 1) := by decide +kernel
theorem dL_law_229 : decode cL_law 229 = .ok (.iadd, 1) := by decide +kernel
theorem dL_law_230 : decode cL_law 230 = .ok (.iaload, 1) := by decide +kernel
theorem dL_law_231 : decode cL_law 231 = .ok (.invokevirtual 23, 3) := by decide +kernel
theorem dL_law_234 : decode cL_law 234 = .ok (.aload_n 2, 1) := by decide +kernel
theorem dL_law_235 : decode cL_law 235 = .ok (.aload_n 0, 1) := by decide +kernel
theorem dL_law_236 : decode cL_law 236 = .ok (.iload_n 3, 1) := by decide +kernel
theorem dL_law_237 : decode cL_law 237 = .ok (.iconst 1, 1) := by decide +kernel
theorem dL_law_238 : decode cL_law 238 = .ok (.iadd, 1) := by decide +kernel
theorem dL_law_239 : decode cL_law 239 = .ok (.iaload, 1) := by decide +kernel
theorem dL_law_240 : decode cL_law 240 = .ok (.aload_n 0, 1) := by decide +kernel
theorem dL_law_241 : decode cL_law 241 = .ok (.iload_n 3, 1) := by decide +kernel
theorem dL_law_242 : decode cL_law 242 = .ok (.iconst 2, 1) := by decide +kernel
theorem dL_law_243 : decode cL_law 243 = .ok (.iadd, 1) := by decide +kernel
theorem dL_law_244 : decode cL_law 244 = .ok (.iaload, 1) := by decide +kernel
theorem dL_law_245 : decode cL_law 245 = .ok (.invokevirtual 26, 3) := by decide +kernel
theorem dL_law_248 : decode cL_law 248 = .ok (.if_icmp .eq 629, 3) := by decide +kernel
theorem dL_law_251 : decode cL_law 251 = .ok (.iconst 0, 1) := by decide +kernel
theorem dL_law_252 : decode cL_law 252 = .ok (.ireturn, 1) := by decide +kernel
theorem dL_law_253 : decode cL_law 253 = .ok (.aload_n 1, 1) := by decide +kernel
theorem dL_law_254 : decode cL_law 254 = .ok (.aload_n 0, 1) := by decide +kernel
theorem dL_law_255 : decode cL_law 255 = .ok (.iload_n 3, 1) := by decide +kernel
theorem dL_law_256 : decode cL_law 256 = .ok (.iconst 1, 1) := by decide +kernel
theorem dL_law_257 : decode cL_law 257 = .ok (.iadd, 1) := by decide +kernel
theorem dL_law_258 : decode cL_law 258 = .ok (.iaload, 1) := by decide +kernel
theorem dL_law_259 : decode cL_law 259 = .ok (.invokevirtual 27, 3) := by decide +kernel
theorem dL_law_262 : decode cL_law 262 = .ok (.aload_n 2, 1) := by decide +kernel
theorem dL_law_263 : decode cL_law 263 = .ok (.aload_n 0, 1) := by decide +kernel
theorem dL_law_264 : decode cL_law 264 = .ok (.iload_n 3, 1) := by decide +kernel
theorem dL_law_265 : decode cL_law 265 = .ok (.iconst 1, 1) := by decide +kernel
theorem dL_law_266 : decode cL_law 266 = .ok (.iadd, 1) := by decide +kernel
theorem dL_law_267 : decode cL_law 267 = .ok (.iaload, 1) := by decide +kernel
theorem dL_law_268 : decode cL_law 268 = .ok (.invokevirtual 31, 3) := by decide +kernel
theorem dL_law_271 : decode cL_law 271 = .ok (.if_icmp .eq 606, 3) := by decide +kernel
theorem dL_law_274 : decode cL_law 274 = .ok (.iconst 0, 1) := by decide +kernel
theorem dL_law_275 : decode cL_law 275 = .ok (.ireturn, 1) := by decide +kernel
theorem dL_law_276 : decode cL_law 276 = .ok (.aload_n 1, 1) := by decide +kernel
theorem dL_law_277 : decode cL_law 277 = .ok (.aload_n 0, 1) := by decide +kernel
theorem dL_law_278 : decode cL_law 278 = .ok (.iload_n 3, 1) := by decide +kernel
theorem dL_law_279 : decode cL_law 279 = .ok (.iconst 1, 1) := by decide +kernel
theorem dL_law_280 : decode cL_law 280 = .ok (.iadd, 1) := by decide +kernel
theorem dL_law_281 : decode cL_law 281 = .ok (.iaload, 1) := by decide +kernel
theorem dL_law_282 : decode cL_law 282 = .ok (.invokevirtual 32, 3) := by decide +kernel
theorem dL_law_285 : decode cL_law 285 = .ok (.aload_n 2, 1) := by decide +kernel
theorem dL_law_286 : decode cL_law 286 = .ok (.aload_n 0, 1) := by decide +kernel
theorem dL_law_287 : decode cL_law 287 = .ok (.iload_n 3, 1) := by decide +kernel
theorem dL_law_288 : decode cL_law 288 = .ok (.iconst 1, 1) := by decide +kernel
theorem dL_law_289 : decode cL_law 289 = .ok (.iadd, 1) := by decide +kernel
theorem dL_law_290 : decode cL_law 290 = .ok (.iaload, 1) := by decide +kernel
theorem dL_law_291 : decode cL_law 291 = .ok (.invokevirtual 35, 3) := by decide +kernel
theorem dL_law_294 : decode cL_law 294 = .ok (.if_icmp .eq 583, 3) := by decide +kernel
theorem dL_law_297 : decode cL_law 297 = .ok (.iconst 0, 1) := by decide +kernel
theorem dL_law_298 : decode cL_law 298 = .ok (.ireturn, 1) := by decide +kernel
theorem dL_law_299 : decode cL_law 299 = .ok (.aload_n 1, 1) := by decide +kernel
theorem dL_law_300 : decode cL_law 300 = .ok (.aload_n 0, 1) := by decide +kernel
theorem dL_law_301 : decode cL_law 301 = .ok (.iload_n 3, 1) := by decide +kernel
theorem dL_law_302 : decode cL_law 302 = .ok (.iconst 1, 1) := by decide +kernel
theorem dL_law_303 : decode cL_law 303 = .ok (.iadd, 1) := by decide +kernel
theorem dL_law_304 : decode cL_law 304 = .ok (.iaload, 1) := by decide +kernel
theorem dL_law_305 : decode cL_law 305 = .ok (.aload_n 0, 1) := by decide +kernel
theorem dL_law_306 : decode cL_law 306 = .ok (.iload_n 3, 1) := by decide +kernel
theorem dL_law_307 : decode cL_law 307 = .ok (.iconst 2, 1) := by decide +kernel
theorem dL_law_308 : decode cL_law 308 = .ok (.iadd, 1) := by decide +kernel
theorem dL_law_309 : decode cL_law 309 = .ok (.iaload, 1) := by decide +kernel
theorem dL_law_310 : decode cL_law 310 = .ok (.invokevirtual 36, 3) := by decide +kernel
theorem dL_law_313 : decode cL_law 313 = .ok (.aload_n 2, 1) := by decide +kernel
theorem dL_law_314 : decode cL_law 314 = .ok (.aload_n 0, 1) := by decide +kernel
theorem dL_law_315 : decode cL_law 315 = .ok (.iload_n 3, 1) := by decide +kernel
theorem dL_law_316 : decode cL_law 316 = .ok (.iconst 1, 1) := by decide +kernel
theorem dL_law_317 : decode cL_law 317 = .ok (.iadd, 1) := by decide +kernel
theorem dL_law_318 : decode cL_law 318 = .ok (.iaload, 1) := by decide +kernel
theorem dL_law_319 : decode cL_law 319 = .ok (.aload_n 0, 1) := by decide +kernel
theorem dL_law_320 : decode cL_law 320 = .ok (.iload_n 3, 1) := by decide +kernel
theorem dL_law_321 : decode cL_law 321 = .ok (.iconst 2, 1) := by decide +kernel
theorem dL_law_322 : decode cL_law 322 = .ok (.iadd, 1) := by decide +kernel
theorem dL_law_323 : decode cL_law 323 = .ok (.iaload, 1) := by decide +kernel
theorem dL_law_324 : decode cL_law 324 = .ok (.invokevirtual 39, 3) := by decide +kernel
theorem dL_law_327 : decode cL_law 327 = .ok (.if_icmp .eq 550, 3) := by decide +kernel
theorem dL_law_330 : decode cL_law 330 = .ok (.iconst 0, 1) := by decide +kernel
theorem dL_law_331 : decode cL_law 331 = .ok (.ireturn, 1) := by decide +kernel
theorem dL_law_332 : decode cL_law 332 = .ok (.aload_n 1, 1) := by decide +kernel
theorem dL_law_333 : decode cL_law 333 = .ok (.aload_n 0, 1) := by decide +kernel
theorem dL_law_334 : decode cL_law 334 = .ok (.iload_n 3, 1) := by decide +kernel
theorem dL_law_335 : decode cL_law 335 = .ok (.iconst 1, 1) := by decide +kernel
theorem dL_law_336 : decode cL_law 336 = .ok (.iadd, 1) := by decide +kernel
theorem dL_law_337 : decode cL_law 337 = .ok (.iaload, 1) := by decide +kernel
theorem dL_law_338 : decode cL_law 338 = .ok (.aload_n 0, 1) := by decide +kernel
theorem dL_law_339 : decode cL_law 339 = .ok (.iload_n 3, 1) := by decide +kernel
theorem dL_law_340 : decode cL_law 340 = .ok (.iconst 2, 1) := by decide +kernel
theorem dL_law_341 : decode cL_law 341 = .ok (.iadd, 1) := by decide +kernel
theorem dL_law_342 : decode cL_law 342 = .ok (.iaload, 1) := by decide +kernel
theorem dL_law_343 : decode cL_law 343 = .ok (.aload_n 0, 1) := by decide +kernel
theorem dL_law_344 : decode cL_law 344 = .ok (.iload_n 3, 1) := by decide +kernel
theorem dL_law_345 : decode cL_law 345 = .ok (.iconst 3, 1) := by decide +kernel
theorem dL_law_346 : decode cL_law 346 = .ok (.iadd, 1) := by decide +kernel
theorem dL_law_347 : decode cL_law 347 = .ok (.iaload, 1) := by decide +kernel
theorem dL_law_348 : decode cL_law 348 = .ok (.aload_n 0, 1) := by decide +kernel
theorem dL_law_349 : decode cL_law 349 = .ok (.iload_n 3, 1) := by decide +kernel
theorem dL_law_350 : decode cL_law 350 = .ok (.iconst 4, 1) := by decide +kernel
theorem dL_law_351 : decode cL_law 351 = .ok (.iadd, 1) := by decide +kernel
theorem dL_law_352 : decode cL_law 352 = .ok (.iaload, 1) := by decide +kernel
theorem dL_law_353 : decode cL_law 353 = .ok (.invokevirtual 40, 3) := by decide +kernel
theorem dL_law_356 : decode cL_law 356 = .ok (.aload_n 2, 1) := by decide +kernel
theorem dL_law_357 : decode cL_law 357 = .ok (.aload_n 0, 1) := by decide +kernel
theorem dL_law_358 : decode cL_law 358 = .ok (.iload_n 3, 1) := by decide +kernel
theorem dL_law_359 : decode cL_law 359 = .ok (.iconst 1, 1) := by decide +kernel
theorem dL_law_360 : decode cL_law 360 = .ok (.iadd, 1) := by decide +kernel
theorem dL_law_361 : decode cL_law 361 = .ok (.iaload, 1) := by decide +kernel
theorem dL_law_362 : decode cL_law 362 = .ok (.aload_n 0, 1) := by decide +kernel
theorem dL_law_363 : decode cL_law 363 = .ok (.iload_n 3, 1) := by decide +kernel
theorem dL_law_364 : decode cL_law 364 = .ok (.iconst 2, 1) := by decide +kernel
theorem dL_law_365 : decode cL_law 365 = .ok (.iadd, 1) := by decide +kernel
theorem dL_law_366 : decode cL_law 366 = .ok (.iaload, 1) := by decide +kernel
theorem dL_law_367 : decode cL_law 367 = .ok (.aload_n 0, 1) := by decide +kernel
theorem dL_law_368 : decode cL_law 368 = .ok (.iload_n 3, 1) := by decide +kernel
theorem dL_law_369 : decode cL_law 369 = .ok (.iconst 3, 1) := by decide +kernel
theorem dL_law_370 : decode cL_law 370 = .ok (.iadd, 1) := by decide +kernel
theorem dL_law_371 : decode cL_law 371 = .ok (.iaload, 1) := by decide +kernel
theorem dL_law_372 : decode cL_law 372 = .ok (.aload_n 0, 1) := by decide +kernel
theorem dL_law_373 : decode cL_law 373 = .ok (.iload_n 3, 1) := by decide +kernel
theorem dL_law_374 : decode cL_law 374 = .ok (.iconst 4, 1) := by decide +kernel
theorem dL_law_375 : decode cL_law 375 = .ok (.iadd, 1) := by decide +kernel
theorem dL_law_376 : decode cL_law 376 = .ok (.iaload, 1) := by decide +kernel
theorem dL_law_377 : decode cL_law 377 = .ok (.invokevirtual 44, 3) := by decide +kernel
theorem dL_law_380 : decode cL_law 380 = .ok (.if_icmp .eq 497, 3) := by decide +kernel
theorem dL_law_383 : decode cL_law 383 = .ok (.iconst 0, 1) := by decide +kernel
theorem dL_law_384 : decode cL_law 384 = .ok (.ireturn, 1) := by decide +kernel
theorem dL_law_385 : decode cL_law 385 = .ok (.aload_n 1, 1) := by decide +kernel
theorem dL_law_386 : decode cL_law 386 = .ok (.aload_n 0, 1) := by decide +kernel
theorem dL_law_387 : decode cL_law 387 = .ok (.iload_n 3, 1) := by decide +kernel
theorem dL_law_388 : decode cL_law 388 = .ok (.iconst 1, 1) := by decide +kernel
theorem dL_law_389 : decode cL_law 389 = .ok (.iadd, 1) := by decide +kernel
theorem dL_law_390 : decode cL_law 390 = .ok (.iaload, 1) := by decide +kernel
theorem dL_law_391 : decode cL_law 391 = .ok (.aload_n 0, 1) := by decide +kernel
theorem dL_law_392 : decode cL_law 392 = .ok (.iload_n 3, 1) := by decide +kernel
theorem dL_law_393 : decode cL_law 393 = .ok (.iconst 2, 1) := by decide +kernel
theorem dL_law_394 : decode cL_law 394 = .ok (.iadd, 1) := by decide +kernel
theorem dL_law_395 : decode cL_law 395 = .ok (.iaload, 1) := by decide +kernel
theorem dL_law_396 : decode cL_law 396 = .ok (.invokevirtual 45, 3) := by decide +kernel
theorem dL_law_399 : decode cL_law 399 = .ok (.aload_n 2, 1) := by decide +kernel
theorem dL_law_400 : decode cL_law 400 = .ok (.aload_n 0, 1) := by decide +kernel
theorem dL_law_401 : decode cL_law 401 = .ok (.iload_n 3, 1) := by decide +kernel
theorem dL_law_402 : decode cL_law 402 = .ok (.iconst 1, 1) := by decide +kernel
theorem dL_law_403 : decode cL_law 403 = .ok (.iadd, 1) := by decide +kernel
theorem dL_law_404 : decode cL_law 404 = .ok (.iaload, 1) := by decide +kernel
theorem dL_law_405 : decode cL_law 405 = .ok (.aload_n 0, 1) := by decide +kernel
theorem dL_law_406 : decode cL_law 406 = .ok (.iload_n 3, 1) := by decide +kernel
theorem dL_law_407 : decode cL_law 407 = .ok (.iconst 2, 1) := by decide +kernel
theorem dL_law_408 : decode cL_law 408 = .ok (.iadd, 1) := by decide +kernel
theorem dL_law_409 : decode cL_law 409 = .ok (.iaload, 1) := by decide +kernel
theorem dL_law_410 : decode cL_law 410 = .ok (.invokevirtual 48, 3) := by decide +kernel
theorem dL_law_413 : decode cL_law 413 = .ok (.if_icmp .eq 464, 3) := by decide +kernel
theorem dL_law_416 : decode cL_law 416 = .ok (.iconst 0, 1) := by decide +kernel
theorem dL_law_417 : decode cL_law 417 = .ok (.ireturn, 1) := by decide +kernel
theorem dL_law_418 : decode cL_law 418 = .ok (.aload_n 1, 1) := by decide +kernel
theorem dL_law_419 : decode cL_law 419 = .ok (.aload_n 0, 1) := by decide +kernel
theorem dL_law_420 : decode cL_law 420 = .ok (.iload_n 3, 1) := by decide +kernel
theorem dL_law_421 : decode cL_law 421 = .ok (.iconst 1, 1) := by decide +kernel
theorem dL_law_422 : decode cL_law 422 = .ok (.iadd, 1) := by decide +kernel
theorem dL_law_423 : decode cL_law 423 = .ok (.iaload, 1) := by decide +kernel
theorem dL_law_424 : decode cL_law 424 = .ok (.aload_n 0, 1) := by decide +kernel
theorem dL_law_425 : decode cL_law 425 = .ok (.iload_n 3, 1) := by decide +kernel
theorem dL_law_426 : decode cL_law 426 = .ok (.iconst 2, 1) := by decide +kernel
theorem dL_law_427 : decode cL_law 427 = .ok (.iadd, 1) := by decide +kernel
theorem dL_law_428 : decode cL_law 428 = .ok (.iaload, 1) := by decide +kernel
theorem dL_law_429 : decode cL_law 429 = .ok (.invokevirtual 49, 3) := by decide +kernel
theorem dL_law_432 : decode cL_law 432 = .ok (.aload_n 2, 1) := by decide +kernel
theorem dL_law_433 : decode cL_law 433 = .ok (.aload_n 0, 1) := by decide +kernel
theorem dL_law_434 : decode cL_law 434 = .ok (.iload_n 3, 1) := by decide +kernel
theorem dL_law_435 : decode cL_law 435 = .ok (.iconst 1, 1) := by decide +kernel
theorem dL_law_436 : decode cL_law 436 = .ok (.iadd, 1) := by decide +kernel
theorem dL_law_437 : decode cL_law 437 = .ok (.iaload, 1) := by decide +kernel
theorem dL_law_438 : decode cL_law 438 = .ok (.aload_n 0, 1) := by decide +kernel
theorem dL_law_439 : decode cL_law 439 = .ok (.iload_n 3, 1) := by decide +kernel
theorem dL_law_440 : decode cL_law 440 = .ok (.iconst 2, 1) := by decide +kernel
theorem dL_law_441 : decode cL_law 441 = .ok (.iadd, 1) := by decide +kernel
theorem dL_law_442 : decode cL_law 442 = .ok (.iaload, 1) := by decide +kernel
theorem dL_law_443 : decode cL_law 443 = .ok (.invokevirtual 52, 3) := by decide +kernel
theorem dL_law_446 : decode cL_law 446 = .ok (.if_icmp .eq 431, 3) := by decide +kernel
theorem dL_law_449 : decode cL_law 449 = .ok (.iconst 0, 1) := by decide +kernel
theorem dL_law_450 : decode cL_law 450 = .ok (.ireturn, 1) := by decide +kernel
theorem dL_law_451 : decode cL_law 451 = .ok (.aload_n 1, 1) := by decide +kernel
theorem dL_law_452 : decode cL_law 452 = .ok (.aload_n 0, 1) := by decide +kernel
theorem dL_law_453 : decode cL_law 453 = .ok (.iload_n 3, 1) := by decide +kernel
theorem dL_law_454 : decode cL_law 454 = .ok (.iconst 1, 1) := by decide +kernel
theorem dL_law_455 : decode cL_law 455 = .ok (.iadd, 1) := by decide +kernel
theorem dL_law_456 : decode cL_law 456 = .ok (.iaload, 1) := by decide +kernel
theorem dL_law_457 : decode cL_law 457 = .ok (.aload_n 0, 1) := by decide +kernel
theorem dL_law_458 : decode cL_law 458 = .ok (.iload_n 3, 1) := by decide +kernel
theorem dL_law_459 : decode cL_law 459 = .ok (.iconst 2, 1) := by decide +kernel
theorem dL_law_460 : decode cL_law 460 = .ok (.iadd, 1) := by decide +kernel
theorem dL_law_461 : decode cL_law 461 = .ok (.iaload, 1) := by decide +kernel
theorem dL_law_462 : decode cL_law 462 = .ok (.aload_n 0, 1) := by decide +kernel
theorem dL_law_463 : decode cL_law 463 = .ok (.iload_n 3, 1) := by decide +kernel
theorem dL_law_464 : decode cL_law 464 = .ok (.iconst 3, 1) := by decide +kernel
theorem dL_law_465 : decode cL_law 465 = .ok (.iadd, 1) := by decide +kernel
theorem dL_law_466 : decode cL_law 466 = .ok (.iaload, 1) := by decide +kernel
theorem dL_law_467 : decode cL_law 467 = .ok (.invokevirtual 53, 3) := by decide +kernel
theorem dL_law_470 : decode cL_law 470 = .ok (.aload_n 2, 1) := by decide +kernel
theorem dL_law_471 : decode cL_law 471 = .ok (.aload_n 0, 1) := by decide +kernel
theorem dL_law_472 : decode cL_law 472 = .ok (.iload_n 3, 1) := by decide +kernel
theorem dL_law_473 : decode cL_law 473 = .ok (.iconst 1, 1) := by decide +kernel
theorem dL_law_474 : decode cL_law 474 = .ok (.iadd, 1) := by decide +kernel
theorem dL_law_475 : decode cL_law 475 = .ok (.iaload, 1) := by decide +kernel
theorem dL_law_476 : decode cL_law 476 = .ok (.aload_n 0, 1) := by decide +kernel
theorem dL_law_477 : decode cL_law 477 = .ok (.iload_n 3, 1) := by decide +kernel
theorem dL_law_478 : decode cL_law 478 = .ok (.iconst 2, 1) := by decide +kernel
theorem dL_law_479 : decode cL_law 479 = .ok (.iadd, 1) := by decide +kernel
theorem dL_law_480 : decode cL_law 480 = .ok (.iaload, 1) := by decide +kernel
theorem dL_law_481 : decode cL_law 481 = .ok (.aload_n 0, 1) := by decide +kernel
theorem dL_law_482 : decode cL_law 482 = .ok (.iload_n 3, 1) := by decide +kernel
theorem dL_law_483 : decode cL_law 483 = .ok (.iconst 3, 1) := by decide +kernel
theorem dL_law_484 : decode cL_law 484 = .ok (.iadd, 1) := by decide +kernel
theorem dL_law_485 : decode cL_law 485 = .ok (.iaload, 1) := by decide +kernel
theorem dL_law_486 : decode cL_law 486 = .ok (.invokevirtual 56, 3) := by decide +kernel
theorem dL_law_489 : decode cL_law 489 = .ok (.if_icmp .eq 388, 3) := by decide +kernel
theorem dL_law_492 : decode cL_law 492 = .ok (.iconst 0, 1) := by decide +kernel
theorem dL_law_493 : decode cL_law 493 = .ok (.ireturn, 1) := by decide +kernel
theorem dL_law_494 : decode cL_law 494 = .ok (.aload_n 1, 1) := by decide +kernel
theorem dL_law_495 : decode cL_law 495 = .ok (.aload_n 0, 1) := by decide +kernel
theorem dL_law_496 : decode cL_law 496 = .ok (.iload_n 3, 1) := by decide +kernel
theorem dL_law_497 : decode cL_law 497 = .ok (.iconst 1, 1) := by decide +kernel
theorem dL_law_498 : decode cL_law 498 = .ok (.iadd, 1) := by decide +kernel
theorem dL_law_499 : decode cL_law 499 = .ok (.iaload, 1) := by decide +kernel
theorem dL_law_500 : decode cL_law 500 = .ok (.aload_n 0, 1) := by decide +kernel
theorem dL_law_501 : decode cL_law 501 = .ok (.iload_n 3, 1) := by decide +kernel
theorem dL_law_502 : decode cL_law 502 = .ok (.iconst 2, 1) := by decide +kernel
theorem dL_law_503 : decode cL_law 503 = .ok (.iadd, 1) := by decide +kernel
theorem dL_law_504 : decode cL_law 504 = .ok (.iaload, 1) := by decide +kernel
theorem dL_law_505 : decode cL_law 505 = .ok (.aload_n 0, 1) := by decide +kernel
theorem dL_law_506 : decode cL_law 506 = .ok (.iload_n 3, 1) := by decide +kernel
theorem dL_law_507 : decode cL_law 507 = .ok (.iconst 3, 1) := by decide +kernel
theorem dL_law_508 : decode cL_law 508 = .ok (.iadd, 1) := by decide +kernel
theorem dL_law_509 : decode cL_law 509 = .ok (.iaload, 1) := by decide +kernel
theorem dL_law_510 : decode cL_law 510 = .ok (.invokevirtual 57, 3) := by decide +kernel
theorem dL_law_513 : decode cL_law 513 = .ok (.aload_n 2, 1) := by decide +kernel
theorem dL_law_514 : decode cL_law 514 = .ok (.aload_n 0, 1) := by decide +kernel
theorem dL_law_515 : decode cL_law 515 = .ok (.iload_n 3, 1) := by decide +kernel
theorem dL_law_516 : decode cL_law 516 = .ok (.iconst 1, 1) := by decide +kernel
theorem dL_law_517 : decode cL_law 517 = .ok (.iadd, 1) := by decide +kernel
theorem dL_law_518 : decode cL_law 518 = .ok (.iaload, 1) := by decide +kernel
theorem dL_law_519 : decode cL_law 519 = .ok (.aload_n 0, 1) := by decide +kernel
theorem dL_law_520 : decode cL_law 520 = .ok (.iload_n 3, 1) := by decide +kernel
theorem dL_law_521 : decode cL_law 521 = .ok (.iconst 2, 1) := by decide +kernel
theorem dL_law_522 : decode cL_law 522 = .ok (.iadd, 1) := by decide +kernel
theorem dL_law_523 : decode cL_law 523 = .ok (.iaload, 1) := by decide +kernel
theorem dL_law_524 : decode cL_law 524 = .ok (.aload_n 0, 1) := by decide +kernel
theorem dL_law_525 : decode cL_law 525 = .ok (.iload_n 3, 1) := by decide +kernel
theorem dL_law_526 : decode cL_law 526 = .ok (.iconst 3, 1) := by decide +kernel
theorem dL_law_527 : decode cL_law 527 = .ok (.iadd, 1) := by decide +kernel
theorem dL_law_528 : decode cL_law 528 = .ok (.iaload, 1) := by decide +kernel
theorem dL_law_529 : decode cL_law 529 = .ok (.invokevirtual 60, 3) := by decide +kernel
theorem dL_law_532 : decode cL_law 532 = .ok (.if_icmp .eq 345, 3) := by decide +kernel
theorem dL_law_535 : decode cL_law 535 = .ok (.iconst 0, 1) := by decide +kernel
theorem dL_law_536 : decode cL_law 536 = .ok (.ireturn, 1) := by decide +kernel
theorem dL_law_537 : decode cL_law 537 = .ok (.aload_n 1, 1) := by decide +kernel
theorem dL_law_538 : decode cL_law 538 = .ok (.aload_n 0, 1) := by decide +kernel
theorem dL_law_539 : decode cL_law 539 = .ok (.iload_n 3, 1) := by decide +kernel
theorem dL_law_540 : decode cL_law 540 = .ok (.iconst 1, 1) := by decide +kernel
theorem dL_law_541 : decode cL_law 541 = .ok (.iadd, 1) := by decide +kernel
theorem dL_law_542 : decode cL_law 542 = .ok (.iaload, 1) := by decide +kernel
theorem dL_law_543 : decode cL_law 543 = .ok (.aload_n 0, 1) := by decide +kernel
theorem dL_law_544 : decode cL_law 544 = .ok (.iload_n 3, 1) := by decide +kernel
theorem dL_law_545 : decode cL_law 545 = .ok (.iconst 2, 1) := by decide +kernel
theorem dL_law_546 : decode cL_law 546 = .ok (.iadd, 1) := by decide +kernel
theorem dL_law_547 : decode cL_law 547 = .ok (.iaload, 1) := by decide +kernel
theorem dL_law_548 : decode cL_law 548 = .ok (.invokevirtual 61, 3) := by decide +kernel
theorem dL_law_551 : decode cL_law 551 = .ok (.aload_n 2, 1) := by decide +kernel
theorem dL_law_552 : decode cL_law 552 = .ok (.aload_n 0, 1) := by decide +kernel
theorem dL_law_553 : decode cL_law 553 = .ok (.iload_n 3, 1) := by decide +kernel
theorem dL_law_554 : decode cL_law 554 = .ok (.iconst 1, 1) := by decide +kernel
theorem dL_law_555 : decode cL_law 555 = .ok (.iadd, 1) := by decide +kernel
theorem dL_law_556 : decode cL_law 556 = .ok (.iaload, 1) := by decide +kernel
theorem dL_law_557 : decode cL_law 557 = .ok (.aload_n 0, 1) := by decide +kernel
theorem dL_law_558 : decode cL_law 558 = .ok (.iload_n 3, 1) := by decide +kernel
theorem dL_law_559 : decode cL_law 559 = .ok (.iconst 2, 1) := by decide +kernel
theorem dL_law_560 : decode cL_law 560 = .ok (.iadd, 1) := by decide +kernel
theorem dL_law_561 : decode cL_law 561 = .ok (.iaload, 1) := by decide +kernel
theorem dL_law_562 : decode cL_law 562 = .ok (.invokevirtual 64, 3) := by decide +kernel
theorem dL_law_565 : decode cL_law 565 = .ok (.if_icmp .eq 312, 3) := by decide +kernel
theorem dL_law_568 : decode cL_law 568 = .ok (.iconst 0, 1) := by decide +kernel
theorem dL_law_569 : decode cL_law 569 = .ok (.ireturn, 1) := by decide +kernel
theorem dL_law_570 : decode cL_law 570 = .ok (.aload_n 1, 1) := by decide +kernel
theorem dL_law_571 : decode cL_law 571 = .ok (.invokevirtual 65, 3) := by decide +kernel
theorem dL_law_574 : decode cL_law 574 = .ok (.aload_n 2, 1) := by decide +kernel
theorem dL_law_575 : decode cL_law 575 = .ok (.invokevirtual 69, 3) := by decide +kernel
theorem dL_law_578 : decode cL_law 578 = .ok (.if_icmp .eq 299, 3) := by decide +kernel
theorem dL_law_581 : decode cL_law 581 = .ok (.iconst 0, 1) := by decide +kernel
theorem dL_law_582 : decode cL_law 582 = .ok (.ireturn, 1) := by decide +kernel
theorem dL_law_583 : decode cL_law 583 = .ok (.aload_n 1, 1) := by decide +kernel
theorem dL_law_584 : decode cL_law 584 = .ok (.aload_n 0, 1) := by decide +kernel
theorem dL_law_585 : decode cL_law 585 = .ok (.iload_n 3, 1) := by decide +kernel
theorem dL_law_586 : decode cL_law 586 = .ok (.iconst 1, 1) := by decide +kernel
theorem dL_law_587 : decode cL_law 587 = .ok (.iadd, 1) := by decide +kernel
theorem dL_law_588 : decode cL_law 588 = .ok (.iaload, 1) := by decide +kernel
theorem dL_law_589 : decode cL_law 589 = .ok (.invokevirtual 70, 3) := by decide +kernel
theorem dL_law_592 : decode cL_law 592 = .ok (.aload_n 2, 1) := by decide +kernel
theorem dL_law_593 : decode cL_law 593 = .ok (.aload_n 0, 1) := by decide +kernel
theorem dL_law_594 : decode cL_law 594 = .ok (.iload_n 3, 1) := by decide +kernel
theorem dL_law_595 : decode cL_law 595 = .ok (.iconst 1, 1) := by decide +kernel
theorem dL_law_596 : decode cL_law 596 = .ok (.iadd, 1) := by decide +kernel
theorem dL_law_597 : decode cL_law 597 = .ok (.iaload, 1) := by decide +kernel
theorem dL_law_598 : decode cL_law 598 = .ok (.invokevirtual 73, 3) := by decide +kernel
theorem dL_law_601 : decode cL_law 601 = .ok (.if_icmp .eq 276, 3) := by decide +kernel
theorem dL_law_604 : decode cL_law 604 = .ok (.iconst 0, 1) := by decide +kernel
theorem dL_law_605 : decode cL_law 605 = .ok (.ireturn, 1) := by decide +kernel
theorem dL_law_606 : decode cL_law 606 = .ok (.aload_n 1, 1) := by decide +kernel
theorem dL_law_607 : decode cL_law 607 = .ok (.aload_n 0, 1) := by decide +kernel
theorem dL_law_608 : decode cL_law 608 = .ok (.iload_n 3, 1) := by decide +kernel
theorem dL_law_609 : decode cL_law 609 = .ok (.iconst 1, 1) := by decide +kernel
theorem dL_law_610 : decode cL_law 610 = .ok (.iadd, 1) := by decide +kernel
theorem dL_law_611 : decode cL_law 611 = .ok (.iaload, 1) := by decide +kernel
theorem dL_law_612 : decode cL_law 612 = .ok (.invokevirtual 74, 3) := by decide +kernel
theorem dL_law_615 : decode cL_law 615 = .ok (.aload_n 2, 1) := by decide +kernel
theorem dL_law_616 : decode cL_law 616 = .ok (.aload_n 0, 1) := by decide +kernel
theorem dL_law_617 : decode cL_law 617 = .ok (.iload_n 3, 1) := by decide +kernel
theorem dL_law_618 : decode cL_law 618 = .ok (.iconst 1, 1) := by decide +kernel
theorem dL_law_619 : decode cL_law 619 = .ok (.iadd, 1) := by decide +kernel
theorem dL_law_620 : decode cL_law 620 = .ok (.iaload, 1) := by decide +kernel
theorem dL_law_621 : decode cL_law 621 = .ok (.invokevirtual 77, 3) := by decide +kernel
theorem dL_law_624 : decode cL_law 624 = .ok (.if_icmp .eq 253, 3) := by decide +kernel
theorem dL_law_627 : decode cL_law 627 = .ok (.iconst 0, 1) := by decide +kernel
theorem dL_law_628 : decode cL_law 628 = .ok (.ireturn, 1) := by decide +kernel
theorem dL_law_629 : decode cL_law 629 = .ok (.aload_n 1, 1) := by decide +kernel
theorem dL_law_630 : decode cL_law 630 = .ok (.aload_n 0, 1) := by decide +kernel
theorem dL_law_631 : decode cL_law 631 = .ok (.iload_n 3, 1) := by decide +kernel
theorem dL_law_632 : decode cL_law 632 = .ok (.iconst 1, 1) := by decide +kernel
theorem dL_law_633 : decode cL_law 633 = .ok (.iadd, 1) := by decide +kernel
theorem dL_law_634 : decode cL_law 634 = .ok (.iaload, 1) := by decide +kernel
theorem dL_law_635 : decode cL_law 635 = .ok (.aload_n 0, 1) := by decide +kernel
theorem dL_law_636 : decode cL_law 636 = .ok (.iload_n 3, 1) := by decide +kernel
theorem dL_law_637 : decode cL_law 637 = .ok (.iconst 2, 1) := by decide +kernel
theorem dL_law_638 : decode cL_law 638 = .ok (.iadd, 1) := by decide +kernel
theorem dL_law_639 : decode cL_law 639 = .ok (.iaload, 1) := by decide +kernel
theorem dL_law_640 : decode cL_law 640 = .ok (.invokevirtual 78, 3) := by decide +kernel
theorem dL_law_643 : decode cL_law 643 = .ok (.aload_n 2, 1) := by decide +kernel
theorem dL_law_644 : decode cL_law 644 = .ok (.aload_n 0, 1) := by decide +kernel
theorem dL_law_645 : decode cL_law 645 = .ok (.iload_n 3, 1) := by decide +kernel
theorem dL_law_646 : decode cL_law 646 = .ok (.iconst 1, 1) := by decide +kernel
theorem dL_law_647 : decode cL_law 647 = .ok (.iadd, 1) := by decide +kernel
theorem dL_law_648 : decode cL_law 648 = .ok (.iaload, 1) := by decide +kernel
theorem dL_law_649 : decode cL_law 649 = .ok (.aload_n 0, 1) := by decide +kernel
theorem dL_law_650 : decode cL_law 650 = .ok (.iload_n 3, 1) := by decide +kernel
theorem dL_law_651 : decode cL_law 651 = .ok (.iconst 2, 1) := by decide +kernel
theorem dL_law_652 : decode cL_law 652 = .ok (.iadd, 1) := by decide +kernel
theorem dL_law_653 : decode cL_law 653 = .ok (.iaload, 1) := by decide +kernel
theorem dL_law_654 : decode cL_law 654 = .ok (.invokevirtual 81, 3) := by decide +kernel
theorem dL_law_657 : decode cL_law 657 = .ok (.if_icmp .eq 220, 3) := by decide +kernel
theorem dL_law_660 : decode cL_law 660 = .ok (.iconst 0, 1) := by decide +kernel
theorem dL_law_661 : decode cL_law 661 = .ok (.ireturn, 1) := by decide +kernel
theorem dL_law_662 : decode cL_law 662 = .ok (.aload_n 1, 1) := by decide +kernel
theorem dL_law_663 : decode cL_law 663 = .ok (.aload_n 0, 1) := by decide +kernel
theorem dL_law_664 : decode cL_law 664 = .ok (.iload_n 3, 1) := by decide +kernel
theorem dL_law_665 : decode cL_law 665 = .ok (.iconst 1, 1) := by decide +kernel
theorem dL_law_666 : decode cL_law 666 = .ok (.iadd, 1) := by decide +kernel
theorem dL_law_667 : decode cL_law 667 = .ok (.iaload, 1) := by decide +kernel
theorem dL_law_668 : decode cL_law 668 = .ok (.aload_n 0, 1) := by decide +kernel
theorem dL_law_669 : decode cL_law 669 = .ok (.iload_n 3, 1) := by decide +kernel
theorem dL_law_670 : decode cL_law 670 = .ok (.iconst 2, 1) := by decide +kernel
theorem dL_law_671 : decode cL_law 671 = .ok (.iadd, 1) := by decide +kernel
theorem dL_law_672 : decode cL_law 672 = .ok (.iaload, 1) := by decide +kernel
theorem dL_law_673 : decode cL_law 673 = .ok (.aload_n 0, 1) := by decide +kernel
theorem dL_law_674 : decode cL_law 674 = .ok (.iload_n 3, 1) := by decide +kernel
theorem dL_law_675 : decode cL_law 675 = .ok (.iconst 3, 1) := by decide +kernel
theorem dL_law_676 : decode cL_law 676 = .ok (.iadd, 1) := by decide +kernel
theorem dL_law_677 : decode cL_law 677 = .ok (.iaload, 1) := by decide +kernel
theorem dL_law_678 : decode cL_law 678 = .ok (.invokevirtual 82, 3) := by decide +kernel
theorem dL_law_681 : decode cL_law 681 = .ok (.aload_n 2, 1) := by decide +kernel
theorem dL_law_682 : decode cL_law 682 = .ok (.aload_n 0, 1) := by decide +kernel
theorem dL_law_683 : decode cL_law 683 = .ok (.iload_n 3, 1) := by decide +kernel
theorem dL_law_684 : decode cL_law 684 = .ok (.iconst 1, 1) := by decide +kernel
theorem dL_law_685 : decode cL_law 685 = .ok (.iadd, 1) := by decide +kernel
theorem dL_law_686 : decode cL_law 686 = .ok (.iaload, 1) := by decide +kernel
theorem dL_law_687 : decode cL_law 687 = .ok (.aload_n 0, 1) := by decide +kernel
theorem dL_law_688 : decode cL_law 688 = .ok (.iload_n 3, 1) := by decide +kernel
theorem dL_law_689 : decode cL_law 689 = .ok (.iconst 2, 1) := by decide +kernel
theorem dL_law_690 : decode cL_law 690 = .ok (.iadd, 1) := by decide +kernel
theorem dL_law_691 : decode cL_law 691 = .ok (.iaload, 1) := by decide +kernel
theorem dL_law_692 : decode cL_law 692 = .ok (.aload_n 0, 1) := by decide +kernel
theorem dL_law_693 : decode cL_law 693 = .ok (.iload_n 3, 1) := by decide +kernel
theorem dL_law_694 : decode cL_law 694 = .ok (.iconst 3, 1) := by decide +kernel
theorem dL_law_695 : decode cL_law 695 = .ok (.iadd, 1) := by decide +kernel
theorem dL_law_696 : decode cL_law 696 = .ok (.iaload, 1) := by decide +kernel
theorem dL_law_697 : decode cL_law 697 = .ok (.invokevirtual 85, 3) := by decide +kernel
theorem dL_law_700 : decode cL_law 700 = .ok (.if_icmp .eq 177, 3) := by decide +kernel
theorem dL_law_703 : decode cL_law 703 = .ok (.iconst 0, 1) := by decide +kernel
theorem dL_law_704 : decode cL_law 704 = .ok (.ireturn, 1) := by decide +kernel
theorem dL_law_705 : decode cL_law 705 = .ok (.aload_n 1, 1) := by decide +kernel
theorem dL_law_706 : decode cL_law 706 = .ok (.aload_n 0, 1) := by decide +kernel
theorem dL_law_707 : decode cL_law 707 = .ok (.iload_n 3, 1) := by decide +kernel
theorem dL_law_708 : decode cL_law 708 = .ok (.iconst 1, 1) := by decide +kernel
theorem dL_law_709 : decode cL_law 709 = .ok (.iadd, 1) := by decide +kernel
theorem dL_law_710 : decode cL_law 710 = .ok (.iaload, 1) := by decide +kernel
theorem dL_law_711 : decode cL_law 711 = .ok (.aload_n 0, 1) := by decide +kernel
theorem dL_law_712 : decode cL_law 712 = .ok (.iload_n 3, 1) := by decide +kernel
theorem dL_law_713 : decode cL_law 713 = .ok (.iconst 2, 1) := by decide +kernel
theorem dL_law_714 : decode cL_law 714 = .ok (.iadd, 1) := by decide +kernel
theorem dL_law_715 : decode cL_law 715 = .ok (.iaload, 1) := by decide +kernel
theorem dL_law_716 : decode cL_law 716 = .ok (.aload_n 0, 1) := by decide +kernel
theorem dL_law_717 : decode cL_law 717 = .ok (.iload_n 3, 1) := by decide +kernel
theorem dL_law_718 : decode cL_law 718 = .ok (.iconst 3, 1) := by decide +kernel
theorem dL_law_719 : decode cL_law 719 = .ok (.iadd, 1) := by decide +kernel
theorem dL_law_720 : decode cL_law 720 = .ok (.iaload, 1) := by decide +kernel
theorem dL_law_721 : decode cL_law 721 = .ok (.invokevirtual 86, 3) := by decide +kernel
theorem dL_law_724 : decode cL_law 724 = .ok (.aload_n 2, 1) := by decide +kernel
theorem dL_law_725 : decode cL_law 725 = .ok (.aload_n 0, 1) := by decide +kernel
theorem dL_law_726 : decode cL_law 726 = .ok (.iload_n 3, 1) := by decide +kernel
theorem dL_law_727 : decode cL_law 727 = .ok (.iconst 1, 1) := by decide +kernel
theorem dL_law_728 : decode cL_law 728 = .ok (.iadd, 1) := by decide +kernel
theorem dL_law_729 : decode cL_law 729 = .ok (.iaload, 1) := by decide +kernel
theorem dL_law_730 : decode cL_law 730 = .ok (.aload_n 0, 1) := by decide +kernel
theorem dL_law_731 : decode cL_law 731 = .ok (.iload_n 3, 1) := by decide +kernel
theorem dL_law_732 : decode cL_law 732 = .ok (.iconst 2, 1) := by decide +kernel
theorem dL_law_733 : decode cL_law 733 = .ok (.iadd, 1) := by decide +kernel
theorem dL_law_734 : decode cL_law 734 = .ok (.iaload, 1) := by decide +kernel
theorem dL_law_735 : decode cL_law 735 = .ok (.aload_n 0, 1) := by decide +kernel
theorem dL_law_736 : decode cL_law 736 = .ok (.iload_n 3, 1) := by decide +kernel
theorem dL_law_737 : decode cL_law 737 = .ok (.iconst 3, 1) := by decide +kernel
theorem dL_law_738 : decode cL_law 738 = .ok (.iadd, 1) := by decide +kernel
theorem dL_law_739 : decode cL_law 739 = .ok (.iaload, 1) := by decide +kernel
theorem dL_law_740 : decode cL_law 740 = .ok (.invokevirtual 89, 3) := by decide +kernel
theorem dL_law_743 : decode cL_law 743 = .ok (.if_icmp .eq 134, 3) := by decide +kernel
theorem dL_law_746 : decode cL_law 746 = .ok (.iconst 0, 1) := by decide +kernel
theorem dL_law_747 : decode cL_law 747 = .ok (.ireturn, 1) := by decide +kernel
theorem dL_law_748 : decode cL_law 748 = .ok (.aload_n 1, 1) := by decide +kernel
theorem dL_law_749 : decode cL_law 749 = .ok (.invokevirtual 90, 3) := by decide +kernel
theorem dL_law_752 : decode cL_law 752 = .ok (.aload_n 2, 1) := by decide +kernel
theorem dL_law_753 : decode cL_law 753 = .ok (.invokevirtual 93, 3) := by decide +kernel
theorem dL_law_756 : decode cL_law 756 = .ok (.if_icmp .eq 121, 3) := by decide +kernel
theorem dL_law_759 : decode cL_law 759 = .ok (.iconst 0, 1) := by decide +kernel
theorem dL_law_760 : decode cL_law 760 = .ok (.ireturn, 1) := by decide +kernel
theorem dL_law_761 : decode cL_law 761 = .ok (.aload_n 1, 1) := by decide +kernel
theorem dL_law_762 : decode cL_law 762 = .ok (.aload_n 0, 1) := by decide +kernel
theorem dL_law_763 : decode cL_law 763 = .ok (.iload_n 3, 1) := by decide +kernel
theorem dL_law_764 : decode cL_law 764 = .ok (.iconst 1, 1) := by decide +kernel
theorem dL_law_765 : decode cL_law 765 = .ok (.iadd, 1) := by decide +kernel
theorem dL_law_766 : decode cL_law 766 = .ok (.iaload, 1) := by decide +kernel
theorem dL_law_767 : decode cL_law 767 = .ok (.invokevirtual 94, 3) := by decide +kernel
theorem dL_law_770 : decode cL_law 770 = .ok (.aload_n 2, 1) := by decide +kernel
theorem dL_law_771 : decode cL_law 771 = .ok (.aload_n 0, 1) := by decide +kernel
theorem dL_law_772 : decode cL_law 772 = .ok (.iload_n 3, 1) := by decide +kernel
theorem dL_law_773 : decode cL_law 773 = .ok (.iconst 1, 1) := by decide +kernel
theorem dL_law_774 : decode cL_law 774 = .ok (.iadd, 1) := by decide +kernel
theorem dL_law_775 : decode cL_law 775 = .ok (.iaload, 1) := by decide +kernel
theorem dL_law_776 : decode cL_law 776 = .ok (.invokevirtual 97, 3) := by decide +kernel
theorem dL_law_779 : decode cL_law 779 = .ok (.if_icmp .eq 98, 3) := by decide +kernel
theorem dL_law_782 : decode cL_law 782 = .ok (.iconst 0, 1) := by decide +kernel
theorem dL_law_783 : decode cL_law 783 = .ok (.ireturn, 1) := by decide +kernel
theorem dL_law_784 : decode cL_law 784 = .ok (.aload_n 1, 1) := by decide +kernel
theorem dL_law_785 : decode cL_law 785 = .ok (.aload_n 0, 1) := by decide +kernel
theorem dL_law_786 : decode cL_law 786 = .ok (.iload_n 3, 1) := by decide +kernel
theorem dL_law_787 : decode cL_law 787 = .ok (.iconst 1, 1) := by decide +kernel
theorem dL_law_788 : decode cL_law 788 = .ok (.iadd, 1) := by decide +kernel
theorem dL_law_789 : decode cL_law 789 = .ok (.iaload, 1) := by decide +kernel
theorem dL_law_790 : decode cL_law 790 = .ok (.invokevirtual 98, 3) := by decide +kernel
theorem dL_law_793 : decode cL_law 793 = .ok (.aload_n 2, 1) := by decide +kernel
theorem dL_law_794 : decode cL_law 794 = .ok (.aload_n 0, 1) := by decide +kernel
theorem dL_law_795 : decode cL_law 795 = .ok (.iload_n 3, 1) := by decide +kernel
theorem dL_law_796 : decode cL_law 796 = .ok (.iconst 1, 1) := by decide +kernel
theorem dL_law_797 : decode cL_law 797 = .ok (.iadd, 1) := by decide +kernel
theorem dL_law_798 : decode cL_law 798 = .ok (.iaload, 1) := by decide +kernel
theorem dL_law_799 : decode cL_law 799 = .ok (.invokevirtual 101, 3) := by decide +kernel
theorem dL_law_802 : decode cL_law 802 = .ok (.if_icmp .eq 75, 3) := by decide +kernel
theorem dL_law_805 : decode cL_law 805 = .ok (.iconst 0, 1) := by decide +kernel
theorem dL_law_806 : decode cL_law 806 = .ok (.ireturn, 1) := by decide +kernel
theorem dL_law_807 : decode cL_law 807 = .ok (.aload_n 1, 1) := by decide +kernel
theorem dL_law_808 : decode cL_law 808 = .ok (.aload_n 0, 1) := by decide +kernel
theorem dL_law_809 : decode cL_law 809 = .ok (.iload_n 3, 1) := by decide +kernel
theorem dL_law_810 : decode cL_law 810 = .ok (.iconst 1, 1) := by decide +kernel
theorem dL_law_811 : decode cL_law 811 = .ok (.iadd, 1) := by decide +kernel
theorem dL_law_812 : decode cL_law 812 = .ok (.iaload, 1) := by decide +kernel
theorem dL_law_813 : decode cL_law 813 = .ok (.aload_n 0, 1) := by decide +kernel
theorem dL_law_814 : decode cL_law 814 = .ok (.iload_n 3, 1) := by decide +kernel
theorem dL_law_815 : decode cL_law 815 = .ok (.iconst 2, 1) := by decide +kernel
theorem dL_law_816 : decode cL_law 816 = .ok (.iadd, 1) := by decide +kernel
theorem dL_law_817 : decode cL_law 817 = .ok (.iaload, 1) := by decide +kernel
theorem dL_law_818 : decode cL_law 818 = .ok (.invokevirtual 102, 3) := by decide +kernel
theorem dL_law_821 : decode cL_law 821 = .ok (.aload_n 2, 1) := by decide +kernel
theorem dL_law_822 : decode cL_law 822 = .ok (.aload_n 0, 1) := by decide +kernel
theorem dL_law_823 : decode cL_law 823 = .ok (.iload_n 3, 1) := by decide +kernel
theorem dL_law_824 : decode cL_law 824 = .ok (.iconst 1, 1) := by decide +kernel
theorem dL_law_825 : decode cL_law 825 = .ok (.iadd, 1) := by decide +kernel
theorem dL_law_826 : decode cL_law 826 = .ok (.iaload, 1) := by decide +kernel
theorem dL_law_827 : decode cL_law 827 = .ok (.aload_n 0, 1) := by decide +kernel
theorem dL_law_828 : decode cL_law 828 = .ok (.iload_n 3, 1) := by decide +kernel
theorem dL_law_829 : decode cL_law 829 = .ok (.iconst 2, 1) := by decide +kernel
theorem dL_law_830 : decode cL_law 830 = .ok (.iadd, 1) := by decide +kernel
theorem dL_law_831 : decode cL_law 831 = .ok (.iaload, 1) := by decide +kernel
theorem dL_law_832 : decode cL_law 832 = .ok (.invokevirtual 105, 3) := by decide +kernel
theorem dL_law_835 : decode cL_law 835 = .ok (.if_icmp .eq 42, 3) := by decide +kernel
theorem dL_law_838 : decode cL_law 838 = .ok (.iconst 0, 1) := by decide +kernel
theorem dL_law_839 : decode cL_law 839 = .ok (.ireturn, 1) := by decide +kernel
theorem dL_law_840 : decode cL_law 840 = .ok (.aload_n 1, 1) := by decide +kernel
theorem dL_law_841 : decode cL_law 841 = .ok (.aload_n 0, 1) := by decide +kernel
theorem dL_law_842 : decode cL_law 842 = .ok (.iload_n 3, 1) := by decide +kernel
theorem dL_law_843 : decode cL_law 843 = .ok (.iconst 1, 1) := by decide +kernel
theorem dL_law_844 : decode cL_law 844 = .ok (.iadd, 1) := by decide +kernel
theorem dL_law_845 : decode cL_law 845 = .ok (.iaload, 1) := by decide +kernel
theorem dL_law_846 : decode cL_law 846 = .ok (.invokevirtual 106, 3) := by decide +kernel
theorem dL_law_849 : decode cL_law 849 = .ok (.aload_n 2, 1) := by decide +kernel
theorem dL_law_850 : decode cL_law 850 = .ok (.aload_n 0, 1) := by decide +kernel
theorem dL_law_851 : decode cL_law 851 = .ok (.iload_n 3, 1) := by decide +kernel
theorem dL_law_852 : decode cL_law 852 = .ok (.iconst 1, 1) := by decide +kernel
theorem dL_law_853 : decode cL_law 853 = .ok (.iadd, 1) := by decide +kernel
theorem dL_law_854 : decode cL_law 854 = .ok (.iaload, 1) := by decide +kernel
theorem dL_law_855 : decode cL_law 855 = .ok (.invokevirtual 109, 3) := by decide +kernel
theorem dL_law_858 : decode cL_law 858 = .ok (.if_icmp .eq 19, 3) := by decide +kernel
theorem dL_law_861 : decode cL_law 861 = .ok (.iconst 0, 1) := by decide +kernel
theorem dL_law_862 : decode cL_law 862 = .ok (.ireturn, 1) := by decide +kernel
theorem dL_law_863 : decode cL_law 863 = .ok (.aload_n 1, 1) := by decide +kernel
theorem dL_law_864 : decode cL_law 864 = .ok (.invokevirtual 110, 3) := by decide +kernel
theorem dL_law_867 : decode cL_law 867 = .ok (.aload_n 2, 1) := by decide +kernel
theorem dL_law_868 : decode cL_law 868 = .ok (.invokevirtual 114, 3) := by decide +kernel
theorem dL_law_871 : decode cL_law 871 = .ok (.lcmp, 1) := by decide +kernel
theorem dL_law_872 : decode cL_law 872 = .ok (.ifCond .eq 5, 3) := by decide +kernel
theorem dL_law_875 : decode cL_law 875 = .ok (.iconst 0, 1) := by decide +kernel
theorem dL_law_876 : decode cL_law 876 = .ok (.ireturn, 1) := by decide +kernel
theorem dL_law_877 : decode cL_law 877 = .ok (.iinc 3 5, 3) := by decide +kernel
theorem dL_law_880 : decode cL_law 880 = .ok (.goto (-862), 3) := by decide +kernel
theorem dL_law_883 : decode cL_law 883 = .ok (.iconst 1, 1) := by decide +kernel
theorem dL_law_884 : decode cL_law 884 = .ok (.ireturn, 1) := by decide +kernel
abbrev vwCl : List vw_C := [(RX0, TX0, 3), (RX1, TX1, 5), (RX2, TX2, 7), (RX3, TX3, 8), (RX4, TX4, 26)]
