theorem dX0_init_0 : decode cX0_init 0 = .ok (.aload_n 0, 1) := by decide +kernel
theorem dX0_init_1 : decode cX0_init 1 = .ok (.invokespecial 3, 3) := by decide +kernel
theorem dX0_init_4 : decode cX0_init 4 = .ok (.aload_n 0, 1) := by decide +kernel
theorem dX0_init_5 : decode cX0_init 5 = .ok (.bipush 96, 2) := by decide +kernel
theorem dX0_init_7 : decode cX0_init 7 = .ok (.newarray .boolean, 2) := by decide +kernel
theorem dX0_init_9 : decode cX0_init 9 = .ok (.putfield 9, 3) := by decide +kernel
theorem dX0_init_12 : decode cX0_init 12 = .ok (.aload_n 0, 1) := by decide +kernel
theorem dX0_init_13 : decode cX0_init 13 = .ok (.bipush 96, 2) := by decide +kernel
theorem dX0_init_15 : decode cX0_init 15 = .ok (.newarray .boolean, 2) := by decide +kernel
theorem dX0_init_17 : decode cX0_init 17 = .ok (.putfield 15, 3) := by decide +kernel
theorem dX0_init_20 : decode cX0_init 20 = .ok (.aload_n 0, 1) := by decide +kernel
theorem dX0_init_21 : decode cX0_init 21 = .ok (.iconst 0, 1) := by decide +kernel
theorem dX0_init_22 : decode cX0_init 22 = .ok (.putfield 18, 3) := by decide +kernel
theorem dX0_init_25 : decode cX0_init 25 = .ok (.return_, 1) := by decide +kernel
set_option maxRecDepth 20000 in
theorem ggX0_setPillar_X7_isCell : GoodIn wsX0_setPillar wsX7_isCell := goodIn_r _ [4] (by decide +kernel) (by decide +kernel)
set_option maxRecDepth 20000 in
theorem gX0_setPillar_X7_isCell_n22 : GoodIn wsX0_setPillar (wsX7_isCell) := ggX0_setPillar_X7_isCell
set_option maxRecDepth 20000 in
theorem ggX0_setPillar_X7_cellAt : GoodIn wsX0_setPillar wsX7_cellAt := goodIn_r _ [6] (by decide +kernel) (by decide +kernel)
set_option maxRecDepth 20000 in
theorem gX0_setPillar_X7_cellAt_n26 : GoodIn wsX0_setPillar (wsX7_cellAt) := ggX0_setPillar_X7_cellAt
theorem dX0_setPillar_0 : decode cX0_setPillar 0 = .ok (.iload_n 1, 1) := by decide +kernel
theorem dX0_setPillar_1 : decode cX0_setPillar 1 = .ok (.iload_n 2, 1) := by decide +kernel
theorem dX0_setPillar_2 : decode cX0_setPillar 2 = .ok (.invokestatic 22, 3) := by decide +kernel
theorem dX0_setPillar_5 : decode cX0_setPillar 5 = .ok (.ifCond .ne 5, 3) := by decide +kernel
theorem dX0_setPillar_8 : decode cX0_setPillar 8 = .ok (.iconst 0, 1) := by decide +kernel
theorem dX0_setPillar_9 : decode cX0_setPillar 9 = .ok (.ireturn, 1) := by decide +kernel
theorem dX0_setPillar_10 : decode cX0_setPillar 10 = .ok (.aload_n 0, 1) := by decide +kernel
theorem dX0_setPillar_11 : decode cX0_setPillar 11 = .ok (.getfield 9, 3) := by decide +kernel
theorem dX0_setPillar_14 : decode cX0_setPillar 14 = .ok (.iload_n 1, 1) := by decide +kernel
theorem dX0_setPillar_15 : decode cX0_setPillar 15 = .ok (.iload_n 2, 1) := by decide +kernel
theorem dX0_setPillar_16 : decode cX0_setPillar 16 = .ok (.invokestatic 26, 3) := by decide +kernel
theorem dX0_setPillar_19 : decode cX0_setPillar 19 = .ok (.baload, 1) := by decide +kernel
theorem dX0_setPillar_20 : decode cX0_setPillar 20 = .ok (.istore 4, 2) := by decide +kernel
theorem dX0_setPillar_22 : decode cX0_setPillar 22 = .ok (.aload_n 0, 1) := by decide +kernel
theorem dX0_setPillar_23 : decode cX0_setPillar 23 = .ok (.getfield 9, 3) := by decide +kernel
theorem dX0_setPillar_26 : decode cX0_setPillar 26 = .ok (.iload_n 1, 1) := by decide +kernel
theorem dX0_setPillar_27 : decode cX0_setPillar 27 = .ok (.iload_n 2, 1) := by decide +kernel
theorem dX0_setPillar_28 : decode cX0_setPillar 28 = .ok (.invokestatic 26, 3) := by decide +kernel
theorem dX0_setPillar_31 : decode cX0_setPillar 31 = .ok (.iload_n 3, 1) := by decide +kernel
theorem dX0_setPillar_32 : decode cX0_setPillar 32 = .ok (.bastore, 1) := by decide +kernel
theorem dX0_setPillar_33 : decode cX0_setPillar 33 = .ok (.iload 4, 2) := by decide +kernel
theorem dX0_setPillar_35 : decode cX0_setPillar 35 = .ok (.ireturn, 1) := by decide +kernel
set_option maxRecDepth 20000 in
theorem ggX0_areAt_X7_isCell : GoodIn wsX0_areAt wsX7_isCell := goodIn_r _ [4] (by decide +kernel) (by decide +kernel)
set_option maxRecDepth 20000 in
theorem gX0_areAt_X7_isCell_n22 : GoodIn wsX0_areAt (wsX7_isCell) := ggX0_areAt_X7_isCell
set_option maxRecDepth 20000 in
theorem ggX0_areAt_X7_cellAt : GoodIn wsX0_areAt wsX7_cellAt := goodIn_r _ [6] (by decide +kernel) (by decide +kernel)
set_option maxRecDepth 20000 in
theorem gX0_areAt_X7_cellAt_n26 : GoodIn wsX0_areAt (wsX7_cellAt) := ggX0_areAt_X7_cellAt
theorem dX0_areAt_0 : decode cX0_areAt 0 = .ok (.iload_n 1, 1) := by decide +kernel
theorem dX0_areAt_1 : decode cX0_areAt 1 = .ok (.iload_n 2, 1) := by decide +kernel
theorem dX0_areAt_2 : decode cX0_areAt 2 = .ok (.invokestatic 22, 3) := by decide +kernel
theorem dX0_areAt_5 : decode cX0_areAt 5 = .ok (.ifCond .eq 20, 3) := by decide +kernel
theorem dX0_areAt_8 : decode cX0_areAt 8 = .ok (.aload_n 0, 1) := by decide +kernel
theorem dX0_areAt_9 : decode cX0_areAt 9 = .ok (.getfield 15, 3) := by decide +kernel
theorem dX0_areAt_12 : decode cX0_areAt 12 = .ok (.iload_n 1, 1) := by decide +kernel
theorem dX0_areAt_13 : decode cX0_areAt 13 = .ok (.iload_n 2, 1) := by decide +kernel
theorem dX0_areAt_14 : decode cX0_areAt 14 = .ok (.invokestatic 26, 3) := by decide +kernel
theorem dX0_areAt_17 : decode cX0_areAt 17 = .ok (.baload, 1) := by decide +kernel
theorem dX0_areAt_18 : decode cX0_areAt 18 = .ok (.ifCond .eq 7, 3) := by decide +kernel
theorem dX0_areAt_21 : decode cX0_areAt 21 = .ok (.iconst 1, 1) := by decide +kernel
theorem dX0_areAt_22 : decode cX0_areAt 22 = .ok (.goto 4, 3) := by decide +kernel
theorem dX0_areAt_25 : decode cX0_areAt 25 = .ok (.iconst 0, 1) := by decide +kernel
theorem dX0_areAt_26 : decode cX0_areAt 26 = .ok (.ireturn, 1) := by decide +kernel
set_option maxRecDepth 20000 in
theorem ggX0_renew_X3_stripOfRow : GoodIn wsX0_renew wsX3_stripOfRow := goodIn_r _ [5, 6, 7, 8, 9, 4, 10, 11, 12, 13, 14, 15, 16, 17, 18, 19, 20, 21, 22, 45, 46, 47, 48] (by decide +kernel) (by decide +kernel)
set_option maxRecDepth 20000 in
theorem gX0_renew_X3_stripOfRow : GoodIn wsX0_renew (wsV RX0 30 RX3 yX3_stripOfRow wsX3_stripOfRow) := goodIn_app (goodIn_of _ (by decide +kernel)) ggX0_renew_X3_stripOfRow
set_option maxRecDepth 20000 in
theorem ggX0_renew_X6_isLaid : GoodIn wsX0_renew wsX6_isLaid := goodIn_r _ [27, 28, 49, 50, 51, 52, 53] (by decide +kernel) (by decide +kernel)
set_option maxRecDepth 20000 in
theorem gX0_renew_X6_isLaid : GoodIn wsX0_renew (wsV RX0 36 RX6 yX6_isLaid wsX6_isLaid) := goodIn_app (goodIn_of _ (by decide +kernel)) ggX0_renew_X6_isLaid
set_option maxRecDepth 20000 in
theorem ggX0_renew_X0_renewRow : GoodIn wsX0_renew wsX0_renewRow := goodIn_r _ [33, 34, 35, 36, 21, 37, 38, 39, 40, 41, 42, 32, 43, 44, 54, 55, 56] (by decide +kernel) (by decide +kernel)
set_option maxRecDepth 20000 in
theorem gX0_renew_X0_renewRow : GoodIn wsX0_renew (wsV RX0 42 RX0 yX0_renewRow wsX0_renewRow) := goodIn_app (goodIn_of _ (by decide +kernel)) ggX0_renew_X0_renewRow
theorem dX0_renew_0 : decode cX0_renew 0 = .ok (.iconst 0, 1) := by decide +kernel
theorem dX0_renew_1 : decode cX0_renew 1 = .ok (.istore_n 3, 1) := by decide +kernel
theorem dX0_renew_2 : decode cX0_renew 2 = .ok (.iload_n 3, 1) := by decide +kernel
theorem dX0_renew_3 : decode cX0_renew 3 = .ok (.bipush 8, 2) := by decide +kernel
theorem dX0_renew_5 : decode cX0_renew 5 = .ok (.if_icmp .ge 26, 3) := by decide +kernel
theorem dX0_renew_8 : decode cX0_renew 8 = .ok (.aload_n 2, 1) := by decide +kernel
theorem dX0_renew_9 : decode cX0_renew 9 = .ok (.aload_n 1, 1) := by decide +kernel
theorem dX0_renew_10 : decode cX0_renew 10 = .ok (.iload_n 3, 1) := by decide +kernel
theorem dX0_renew_11 : decode cX0_renew 11 = .ok (.invokevirtual 30, 3) := by decide +kernel
theorem dX0_renew_14 : decode cX0_renew 14 = .ok (.invokevirtual 36, 3) := by decide +kernel
theorem dX0_renew_17 : decode cX0_renew 17 = .ok (.ifCond .ne 8, 3) := by decide +kernel
theorem dX0_renew_20 : decode cX0_renew 20 = .ok (.aload_n 0, 1) := by decide +kernel
theorem dX0_renew_21 : decode cX0_renew 21 = .ok (.iload_n 3, 1) := by decide +kernel
theorem dX0_renew_22 : decode cX0_renew 22 = .ok (.invokevirtual 42, 3) := by decide +kernel
theorem dX0_renew_25 : decode cX0_renew 25 = .ok (.iinc 3 1, 3) := by decide +kernel
theorem dX0_renew_28 : decode cX0_renew 28 = .ok (.goto (-26), 3) := by decide +kernel
theorem dX0_renew_31 : decode cX0_renew 31 = .ok (.return_, 1) := by decide +kernel
set_option maxRecDepth 20000 in
theorem ggX0_renewRow_X7_isCell : GoodIn wsX0_renewRow wsX7_isCell := goodIn_r _ [5] (by decide +kernel) (by decide +kernel)
set_option maxRecDepth 20000 in
theorem gX0_renewRow_X7_isCell_n22 : GoodIn wsX0_renewRow (wsX7_isCell) := ggX0_renewRow_X7_isCell
set_option maxRecDepth 20000 in
theorem ggX0_renewRow_X7_cellAt : GoodIn wsX0_renewRow wsX7_cellAt := goodIn_r _ [7] (by decide +kernel) (by decide +kernel)
set_option maxRecDepth 20000 in
theorem gX0_renewRow_X7_cellAt_n26 : GoodIn wsX0_renewRow (wsX7_cellAt) := ggX0_renewRow_X7_cellAt
set_option maxRecDepth 20000 in
theorem ggX0_renewRow_X0_isDoor : GoodIn wsX0_renewRow wsX0_isDoor := goodIn_r _ [12, 13, 14, 15, 16] (by decide +kernel) (by decide +kernel)
set_option maxRecDepth 20000 in
theorem gX0_renewRow_X0_isDoor : GoodIn wsX0_renewRow (wsV RX0 46 RX0 yX0_isDoor wsX0_isDoor) := goodIn_app (goodIn_of _ (by decide +kernel)) ggX0_renewRow_X0_isDoor
theorem dX0_renewRow_0 : decode cX0_renewRow 0 = .ok (.iconst 0, 1) := by decide +kernel
theorem dX0_renewRow_1 : decode cX0_renewRow 1 = .ok (.istore_n 2, 1) := by decide +kernel
theorem dX0_renewRow_2 : decode cX0_renewRow 2 = .ok (.iload_n 2, 1) := by decide +kernel
theorem dX0_renewRow_3 : decode cX0_renewRow 3 = .ok (.bipush 12, 2) := by decide +kernel
theorem dX0_renewRow_5 : decode cX0_renewRow 5 = .ok (.if_icmp .ge 52, 3) := by decide +kernel
theorem dX0_renewRow_8 : decode cX0_renewRow 8 = .ok (.iload_n 2, 1) := by decide +kernel
theorem dX0_renewRow_9 : decode cX0_renewRow 9 = .ok (.iload_n 1, 1) := by decide +kernel
theorem dX0_renewRow_10 : decode cX0_renewRow 10 = .ok (.invokestatic 22, 3) := by decide +kernel
theorem dX0_renewRow_13 : decode cX0_renewRow 13 = .ok (.ifCond .eq 38, 3) := by decide +kernel
theorem dX0_renewRow_16 : decode cX0_renewRow 16 = .ok (.iload_n 2, 1) := by decide +kernel
theorem dX0_renewRow_17 : decode cX0_renewRow 17 = .ok (.iload_n 1, 1) := by decide +kernel
theorem dX0_renewRow_18 : decode cX0_renewRow 18 = .ok (.invokestatic 26, 3) := by decide +kernel
theorem dX0_renewRow_21 : decode cX0_renewRow 21 = .ok (.istore_n 3, 1) := by decide +kernel
theorem dX0_renewRow_22 : decode cX0_renewRow 22 = .ok (.aload_n 0, 1) := by decide +kernel
theorem dX0_renewRow_23 : decode cX0_renewRow 23 = .ok (.getfield 15, 3) := by decide +kernel
theorem dX0_renewRow_26 : decode cX0_renewRow 26 = .ok (.iload_n 3, 1) := by decide +kernel
theorem dX0_renewRow_27 : decode cX0_renewRow 27 = .ok (.aload_n 0, 1) := by decide +kernel
theorem dX0_renewRow_28 : decode cX0_renewRow 28 = .ok (.getfield 9, 3) := by decide +kernel
theorem dX0_renewRow_31 : decode cX0_renewRow 31 = .ok (.iload_n 3, 1) := by decide +kernel
theorem dX0_renewRow_32 : decode cX0_renewRow 32 = .ok (.baload, 1) := by decide +kernel
theorem dX0_renewRow_33 : decode cX0_renewRow 33 = .ok (.ifCond .ne 12, 3) := by decide +kernel
theorem dX0_renewRow_36 : decode cX0_renewRow 36 = .ok (.aload_n 0, 1) := by decide +kernel
theorem dX0_renewRow_37 : decode cX0_renewRow 37 = .ok (.iload_n 2, 1) := by decide +kernel
theorem dX0_renewRow_38 : decode cX0_renewRow 38 = .ok (.iload_n 1, 1) := by decide +kernel
theorem dX0_renewRow_39 : decode cX0_renewRow 39 = .ok (.invokevirtual 46, 3) := by decide +kernel
theorem dX0_renewRow_42 : decode cX0_renewRow 42 = .ok (.ifCond .eq 7, 3) := by decide +kernel
theorem dX0_renewRow_45 : decode cX0_renewRow 45 = .ok (.iconst 1, 1) := by decide +kernel
theorem dX0_renewRow_46 : decode cX0_renewRow 46 = .ok (.goto 4, 3) := by decide +kernel
theorem dX0_renewRow_49 : decode cX0_renewRow 49 = .ok (.iconst 0, 1) := by decide +kernel
theorem dX0_renewRow_50 : decode cX0_renewRow 50 = .ok (.bastore, 1) := by decide +kernel
theorem dX0_renewRow_51 : decode cX0_renewRow 51 = .ok (.iinc 2 1, 3) := by decide +kernel
theorem dX0_renewRow_54 : decode cX0_renewRow 54 = .ok (.goto (-52), 3) := by decide +kernel
theorem dX0_renewRow_57 : decode cX0_renewRow 57 = .ok (.return_, 1) := by decide +kernel
theorem dX0_isDoor_0 : decode cX0_isDoor 0 = .ok (.iload_n 2, 1) := by decide +kernel
theorem dX0_isDoor_1 : decode cX0_isDoor 1 = .ok (.ifCond .ne 25, 3) := by decide +kernel
theorem dX0_isDoor_4 : decode cX0_isDoor 4 = .ok (.iload_n 1, 1) := by decide +kernel
theorem dX0_isDoor_5 : decode cX0_isDoor 5 = .ok (.aload_n 0, 1) := by decide +kernel
theorem dX0_isDoor_6 : decode cX0_isDoor 6 = .ok (.getfield 18, 3) := by decide +kernel
theorem dX0_isDoor_9 : decode cX0_isDoor 9 = .ok (.if_icmp .lt 17, 3) := by decide +kernel
theorem dX0_isDoor_12 : decode cX0_isDoor 12 = .ok (.iload_n 1, 1) := by decide +kernel
theorem dX0_isDoor_13 : decode cX0_isDoor 13 = .ok (.aload_n 0, 1) := by decide +kernel
theorem dX0_isDoor_14 : decode cX0_isDoor 14 = .ok (.getfield 18, 3) := by decide +kernel
theorem dX0_isDoor_17 : decode cX0_isDoor 17 = .ok (.iconst 2, 1) := by decide +kernel
theorem dX0_isDoor_18 : decode cX0_isDoor 18 = .ok (.iadd, 1) := by decide +kernel
theorem dX0_isDoor_19 : decode cX0_isDoor 19 = .ok (.if_icmp .ge 7, 3) := by decide +kernel
theorem dX0_isDoor_22 : decode cX0_isDoor 22 = .ok (.iconst 1, 1) := by decide +kernel
theorem dX0_isDoor_23 : decode cX0_isDoor 23 = .ok (.goto 4, 3) := by decide +kernel
theorem dX0_isDoor_26 : decode cX0_isDoor 26 = .ok (.iconst 0, 1) := by decide +kernel
theorem dX0_isDoor_27 : decode cX0_isDoor 27 = .ok (.ireturn, 1) := by decide +kernel
theorem dX1_init_0 : decode cX1_init 0 = .ok (.aload_n 0, 1) := by decide +kernel
theorem dX1_init_1 : decode cX1_init 1 = .ok (.invokespecial 3, 3) := by decide +kernel
theorem dX1_init_4 : decode cX1_init 4 = .ok (.aload_n 0, 1) := by decide +kernel
theorem dX1_init_5 : decode cX1_init 5 = .ok (.iconst 0, 1) := by decide +kernel
theorem dX1_init_6 : decode cX1_init 6 = .ok (.putfield 9, 3) := by decide +kernel
theorem dX1_init_9 : decode cX1_init 9 = .ok (.aload_n 0, 1) := by decide +kernel
theorem dX1_init_10 : decode cX1_init 10 = .ok (.bipush 96, 2) := by decide +kernel
theorem dX1_init_12 : decode cX1_init 12 = .ok (.newarray .int, 2) := by decide +kernel
theorem dX1_init_14 : decode cX1_init 14 = .ok (.putfield 15, 3) := by decide +kernel
theorem dX1_init_17 : decode cX1_init 17 = .ok (.aload_n 0, 1) := by decide +kernel
theorem dX1_init_18 : decode cX1_init 18 = .ok (.iconst 0, 1) := by decide +kernel
theorem dX1_init_19 : decode cX1_init 19 = .ok (.putfield 19, 3) := by decide +kernel
theorem dX1_init_22 : decode cX1_init 22 = .ok (.aload_n 0, 1) := by decide +kernel
theorem dX1_init_23 : decode cX1_init 23 = .ok (.bipush 96, 2) := by decide +kernel
theorem dX1_init_25 : decode cX1_init 25 = .ok (.newarray .int, 2) := by decide +kernel
theorem dX1_init_27 : decode cX1_init 27 = .ok (.putfield 22, 3) := by decide +kernel
theorem dX1_init_30 : decode cX1_init 30 = .ok (.aload_n 0, 1) := by decide +kernel
theorem dX1_init_31 : decode cX1_init 31 = .ok (.bipush 96, 2) := by decide +kernel
theorem dX1_init_33 : decode cX1_init 33 = .ok (.newarray .int, 2) := by decide +kernel
theorem dX1_init_35 : decode cX1_init 35 = .ok (.putfield 25, 3) := by decide +kernel
theorem dX1_init_38 : decode cX1_init 38 = .ok (.aload_n 0, 1) := by decide +kernel
theorem dX1_init_39 : decode cX1_init 39 = .ok (.bipush 96, 2) := by decide +kernel
theorem dX1_init_41 : decode cX1_init 41 = .ok (.newarray .int, 2) := by decide +kernel
theorem dX1_init_43 : decode cX1_init 43 = .ok (.putfield 28, 3) := by decide +kernel
theorem dX1_init_46 : decode cX1_init 46 = .ok (.return_, 1) := by decide +kernel
set_option maxRecDepth 20000 in
theorem ggX1_sizeOfRest_X1_hasRest : GoodIn wsX1_sizeOfRest wsX1_hasRest := goodIn_r _ [7, 8, 9, 10, 11, 12, 13, 14] (by decide +kernel) (by decide +kernel)
set_option maxRecDepth 20000 in
theorem gX1_sizeOfRest_X1_hasRest : GoodIn wsX1_sizeOfRest (wsV RX1 31 RX1 yX1_hasRest wsX1_hasRest) := goodIn_app (goodIn_of _ (by decide +kernel)) ggX1_sizeOfRest_X1_hasRest
theorem dX1_sizeOfRest_0 : decode cX1_sizeOfRest 0 = .ok (.aload_n 0, 1) := by decide +kernel
theorem dX1_sizeOfRest_1 : decode cX1_sizeOfRest 1 = .ok (.iload_n 1, 1) := by decide +kernel
theorem dX1_sizeOfRest_2 : decode cX1_sizeOfRest 2 = .ok (.invokevirtual 31, 3) := by decide +kernel
theorem dX1_sizeOfRest_5 : decode cX1_sizeOfRest 5 = .ok (.ifCond .eq 22, 3) := by decide +kernel
theorem dX1_sizeOfRest_8 : decode cX1_sizeOfRest 8 = .ok (.bipush 10, 2) := by decide +kernel
theorem dX1_sizeOfRest_10 : decode cX1_sizeOfRest 10 = .ok (.aload_n 0, 1) := by decide +kernel
theorem dX1_sizeOfRest_11 : decode cX1_sizeOfRest 11 = .ok (.getfield 22, 3) := by decide +kernel
theorem dX1_sizeOfRest_14 : decode cX1_sizeOfRest 14 = .ok (.iload_n 1, 1) := by decide +kernel
theorem dX1_sizeOfRest_15 : decode cX1_sizeOfRest 15 = .ok (.iaload, 1) := by decide +kernel
theorem dX1_sizeOfRest_16 : decode cX1_sizeOfRest 16 = .ok (.imul, 1) := by decide +kernel
theorem dX1_sizeOfRest_17 : decode cX1_sizeOfRest 17 = .ok (.aload_n 0, 1) := by decide +kernel
theorem dX1_sizeOfRest_18 : decode cX1_sizeOfRest 18 = .ok (.getfield 25, 3) := by decide +kernel
theorem dX1_sizeOfRest_21 : decode cX1_sizeOfRest 21 = .ok (.iload_n 1, 1) := by decide +kernel
theorem dX1_sizeOfRest_22 : decode cX1_sizeOfRest 22 = .ok (.iaload, 1) := by decide +kernel
theorem dX1_sizeOfRest_23 : decode cX1_sizeOfRest 23 = .ok (.iadd, 1) := by decide +kernel
theorem dX1_sizeOfRest_24 : decode cX1_sizeOfRest 24 = .ok (.goto 4, 3) := by decide +kernel
theorem dX1_sizeOfRest_27 : decode cX1_sizeOfRest 27 = .ok (.iconst (-1), 1) := by decide +kernel
theorem dX1_sizeOfRest_28 : decode cX1_sizeOfRest 28 = .ok (.ireturn, 1) := by decide +kernel
set_option maxRecDepth 20000 in
theorem ggX1_cutAll_J7_fill_53178 : GoodIn wsX1_cutAll wsJ7_fill_53178 := goodIn_r _ [10] (by decide +kernel) (by decide +kernel)
set_option maxRecDepth 20000 in
theorem gX1_cutAll_J7_fill_53178 : GoodIn wsX1_cutAll (va_wsS RX1 35 yJ7_fill_53178 wsJ7_fill_53178) := goodIn_app (goodIn_of _ (by decide +kernel)) ggX1_cutAll_J7_fill_53178
set_option maxRecDepth 20000 in
theorem ggX1_cutAll_X4_has : GoodIn wsX1_cutAll wsX4_has := goodIn_r _ [15, 16, 53, 54, 55, 56, 57, 58, 59, 60, 61] (by decide +kernel) (by decide +kernel)
set_option maxRecDepth 20000 in
theorem gX1_cutAll_X4_has : GoodIn wsX1_cutAll (wsV RX1 41 RX4 yX4_has wsX4_has) := goodIn_app (goodIn_of _ (by decide +kernel)) ggX1_cutAll_X4_has
set_option maxRecDepth 20000 in
theorem ggX1_cutAll_X1_cut : GoodIn wsX1_cutAll wsX1_cut := goodIn_r _ [21, 1, 22, 23, 24, 25, 3, 26, 27, 28, 29, 20, 30, 2, 31, 32, 33, 34, 35, 36, 37, 38, 39, 40, 41, 42, 43, 44, 45, 46, 47, 48, 49, 50, 51, 52, 62, 63, 64, 65] (by decide +kernel) (by decide +kernel)
set_option maxRecDepth 20000 in
theorem gX1_cutAll_X1_cut : GoodIn wsX1_cutAll (wsV RX1 55 RX1 yX1_cut wsX1_cut) := goodIn_app (goodIn_of _ (by decide +kernel)) ggX1_cutAll_X1_cut
theorem dX1_cutAll_0 : decode cX1_cutAll 0 = .ok (.aload_n 0, 1) := by decide +kernel
theorem dX1_cutAll_1 : decode cX1_cutAll 1 = .ok (.iconst 0, 1) := by decide +kernel
theorem dX1_cutAll_2 : decode cX1_cutAll 2 = .ok (.putfield 9, 3) := by decide +kernel
theorem dX1_cutAll_5 : decode cX1_cutAll 5 = .ok (.aload_n 0, 1) := by decide +kernel
theorem dX1_cutAll_6 : decode cX1_cutAll 6 = .ok (.iconst 0, 1) := by decide +kernel
theorem dX1_cutAll_7 : decode cX1_cutAll 7 = .ok (.putfield 19, 3) := by decide +kernel
theorem dX1_cutAll_10 : decode cX1_cutAll 10 = .ok (.aload_n 0, 1) := by decide +kernel
theorem dX1_cutAll_11 : decode cX1_cutAll 11 = .ok (.getfield 15, 3) := by decide +kernel
theorem dX1_cutAll_14 : decode cX1_cutAll 14 = .ok (.iconst (-1), 1) := by decide +kernel
theorem dX1_cutAll_15 : decode cX1_cutAll 15 = .ok (.invokestatic 35, 3) := by decide +kernel
theorem dX1_cutAll_18 : decode cX1_cutAll 18 = .ok (.iconst 0, 1) := by decide +kernel
theorem dX1_cutAll_19 : decode cX1_cutAll 19 = .ok (.istore_n 3, 1) := by decide +kernel
theorem dX1_cutAll_20 : decode cX1_cutAll 20 = .ok (.iload_n 3, 1) := by decide +kernel
theorem dX1_cutAll_21 : decode cX1_cutAll 21 = .ok (.bipush 96, 2) := by decide +kernel
theorem dX1_cutAll_23 : decode cX1_cutAll 23 = .ok (.if_icmp .ge 70, 3) := by decide +kernel
theorem dX1_cutAll_26 : decode cX1_cutAll 26 = .ok (.aload_n 2, 1) := by decide +kernel
theorem dX1_cutAll_27 : decode cX1_cutAll 27 = .ok (.iload_n 3, 1) := by decide +kernel
theorem dX1_cutAll_28 : decode cX1_cutAll 28 = .ok (.invokevirtual 41, 3) := by decide +kernel
theorem dX1_cutAll_31 : decode cX1_cutAll 31 = .ok (.ifCond .ne 6, 3) := by decide +kernel
theorem dX1_cutAll_34 : decode cX1_cutAll 34 = .ok (.goto 59, 3) := by decide +kernel
theorem dX1_cutAll_37 : decode cX1_cutAll 37 = .ok (.aload_n 2, 1) := by decide +kernel
theorem dX1_cutAll_38 : decode cX1_cutAll 38 = .ok (.getfield 46, 3) := by decide +kernel
theorem dX1_cutAll_41 : decode cX1_cutAll 41 = .ok (.iload_n 3, 1) := by decide +kernel
theorem dX1_cutAll_42 : decode cX1_cutAll 42 = .ok (.iaload, 1) := by decide +kernel
theorem dX1_cutAll_43 : decode cX1_cutAll 43 = .ok (.ifCond .ne 16, 3) := by decide +kernel
theorem dX1_cutAll_46 : decode cX1_cutAll 46 = .ok (.aload_n 0, 1) := by decide +kernel
theorem dX1_cutAll_47 : decode cX1_cutAll 47 = .ok (.dup, 1) := by decide +kernel
theorem dX1_cutAll_48 : decode cX1_cutAll 48 = .ok (.getfield 9, 3) := by decide +kernel
theorem dX1_cutAll_51 : decode cX1_cutAll 51 = .ok (.iconst 1, 1) := by decide +kernel
theorem dX1_cutAll_52 : decode cX1_cutAll 52 = .ok (.iadd, 1) := by decide +kernel
theorem dX1_cutAll_53 : decode cX1_cutAll 53 = .ok (.putfield 9, 3) := by decide +kernel
theorem dX1_cutAll_56 : decode cX1_cutAll 56 = .ok (.goto 31, 3) := by decide +kernel
theorem dX1_cutAll_59 : decode cX1_cutAll 59 = .ok (.aload_n 2, 1) := by decide +kernel
theorem dX1_cutAll_60 : decode cX1_cutAll 60 = .ok (.getfield 46, 3) := by decide +kernel
theorem dX1_cutAll_63 : decode cX1_cutAll 63 = .ok (.iload_n 3, 1) := by decide +kernel
theorem dX1_cutAll_64 : decode cX1_cutAll 64 = .ok (.iaload, 1) := by decide +kernel
theorem dX1_cutAll_65 : decode cX1_cutAll 65 = .ok (.iconst 1, 1) := by decide +kernel
theorem dX1_cutAll_66 : decode cX1_cutAll 66 = .ok (.if_icmp .ne 21, 3) := by decide +kernel
theorem dX1_cutAll_69 : decode cX1_cutAll 69 = .ok (.aload_n 0, 1) := by decide +kernel
theorem dX1_cutAll_70 : decode cX1_cutAll 70 = .ok (.aload_n 1, 1) := by decide +kernel
theorem dX1_cutAll_71 : decode cX1_cutAll 71 = .ok (.iload_n 3, 1) := by decide +kernel
theorem dX1_cutAll_72 : decode cX1_cutAll 72 = .ok (.aload_n 2, 1) := by decide +kernel
theorem dX1_cutAll_73 : decode cX1_cutAll 73 = .ok (.getfield 49, 3) := by decide +kernel
theorem dX1_cutAll_76 : decode cX1_cutAll 76 = .ok (.iload_n 3, 1) := by decide +kernel
theorem dX1_cutAll_77 : decode cX1_cutAll 77 = .ok (.iaload, 1) := by decide +kernel
theorem dX1_cutAll_78 : decode cX1_cutAll 78 = .ok (.aload_n 2, 1) := by decide +kernel
theorem dX1_cutAll_79 : decode cX1_cutAll 79 = .ok (.getfield 52, 3) := by decide +kernel
theorem dX1_cutAll_82 : decode cX1_cutAll 82 = .ok (.iload_n 3, 1) := by decide +kernel
theorem dX1_cutAll_83 : decode cX1_cutAll 83 = .ok (.iaload, 1) := by decide +kernel
theorem dX1_cutAll_84 : decode cX1_cutAll 84 = .ok (.invokevirtual 55, 3) := by decide +kernel
theorem dX1_cutAll_87 : decode cX1_cutAll 87 = .ok (.iinc 3 1, 3) := by decide +kernel
theorem dX1_cutAll_90 : decode cX1_cutAll 90 = .ok (.goto (-70), 3) := by decide +kernel
theorem dX1_cutAll_93 : decode cX1_cutAll 93 = .ok (.return_, 1) := by decide +kernel
theorem dX1_hasRest_0 : decode cX1_hasRest 0 = .ok (.iload_n 1, 1) := by decide +kernel
theorem dX1_hasRest_1 : decode cX1_hasRest 1 = .ok (.ifCond .lt 21, 3) := by decide +kernel
theorem dX1_hasRest_4 : decode cX1_hasRest 4 = .ok (.iload_n 1, 1) := by decide +kernel
theorem dX1_hasRest_5 : decode cX1_hasRest 5 = .ok (.aload_n 0, 1) := by decide +kernel
theorem dX1_hasRest_6 : decode cX1_hasRest 6 = .ok (.getfield 19, 3) := by decide +kernel
theorem dX1_hasRest_9 : decode cX1_hasRest 9 = .ok (.if_icmp .ge 13, 3) := by decide +kernel
theorem dX1_hasRest_12 : decode cX1_hasRest 12 = .ok (.iload_n 1, 1) := by decide +kernel
theorem dX1_hasRest_13 : decode cX1_hasRest 13 = .ok (.bipush 96, 2) := by decide +kernel
theorem dX1_hasRest_15 : decode cX1_hasRest 15 = .ok (.if_icmp .ge 7, 3) := by decide +kernel
theorem dX1_hasRest_18 : decode cX1_hasRest 18 = .ok (.iconst 1, 1) := by decide +kernel
theorem dX1_hasRest_19 : decode cX1_hasRest 19 = .ok (.goto 4, 3) := by decide +kernel
theorem dX1_hasRest_22 : decode cX1_hasRest 22 = .ok (.iconst 0, 1) := by decide +kernel
theorem dX1_hasRest_23 : decode cX1_hasRest 23 = .ok (.ireturn, 1) := by decide +kernel
set_option maxRecDepth 20000 in
theorem ggX1_cut_X1_bestRestFor : GoodIn wsX1_cut wsX1_bestRestFor := goodIn_r _ [12, 13, 4, 5, 30, 31, 32, 33, 34, 35] (by decide +kernel) (by decide +kernel)
set_option maxRecDepth 20000 in
theorem gX1_cut_X1_bestRestFor : GoodIn wsX1_cut (wsV RX1 59 RX1 yX1_bestRestFor wsX1_bestRestFor) := goodIn_app (goodIn_of _ (by decide +kernel)) ggX1_cut_X1_bestRestFor
set_option maxRecDepth 20000 in
theorem ggX1_cut_X1_hasRest : GoodIn wsX1_cut wsX1_hasRest := goodIn_r _ [17, 13, 30, 31, 32, 33, 34, 35] (by decide +kernel) (by decide +kernel)
set_option maxRecDepth 20000 in
theorem gX1_cut_X1_hasRest : GoodIn wsX1_cut (wsV RX1 31 RX1 yX1_hasRest wsX1_hasRest) := goodIn_app (goodIn_of _ (by decide +kernel)) ggX1_cut_X1_hasRest
set_option maxRecDepth 20000 in
theorem ggX1_cut_X1_leave : GoodIn wsX1_cut wsX1_leave := goodIn_r _ [21, 22, 23, 24, 11, 25, 13, 4, 5, 7, 14, 15, 16, 17, 30, 31, 32, 33, 34, 35] (by decide +kernel) (by decide +kernel)
set_option maxRecDepth 20000 in
theorem gX1_cut_X1_leave : GoodIn wsX1_cut (wsV RX1 71 RX1 yX1_leave wsX1_leave) := goodIn_app (goodIn_of _ (by decide +kernel)) ggX1_cut_X1_leave
set_option maxRecDepth 20000 in
theorem ggX1_cut_X1_removeRest : GoodIn wsX1_cut wsX1_removeRest := goodIn_r _ [29, 13, 4, 5, 7, 14, 15, 16, 11, 17, 30, 31, 32, 33, 34, 35] (by decide +kernel) (by decide +kernel)
set_option maxRecDepth 20000 in
theorem gX1_cut_X1_removeRest : GoodIn wsX1_cut (wsV RX1 75 RX1 yX1_removeRest wsX1_removeRest) := goodIn_app (goodIn_of _ (by decide +kernel)) ggX1_cut_X1_removeRest
theorem dX1_cut_0 : decode cX1_cut 0 = .ok (.aload_n 0, 1) := by decide +kernel
theorem dX1_cut_1 : decode cX1_cut 1 = .ok (.iload_n 3, 1) := by decide +kernel
theorem dX1_cut_2 : decode cX1_cut 2 = .ok (.iload 4, 2) := by decide +kernel
theorem dX1_cut_4 : decode cX1_cut 4 = .ok (.invokevirtual 59, 3) := by decide +kernel
theorem dX1_cut_7 : decode cX1_cut 7 = .ok (.istore 5, 2) := by decide +kernel
theorem dX1_cut_9 : decode cX1_cut 9 = .ok (.aload_n 0, 1) := by decide +kernel
theorem dX1_cut_10 : decode cX1_cut 10 = .ok (.iload 5, 2) := by decide +kernel
theorem dX1_cut_12 : decode cX1_cut 12 = .ok (.invokevirtual 31, 3) := by decide +kernel
theorem dX1_cut_15 : decode cX1_cut 15 = .ok (.ifCond .ne 30, 3) := by decide +kernel
theorem dX1_cut_18 : decode cX1_cut 18 = .ok (.aload_n 0, 1) := by decide +kernel
theorem dX1_cut_19 : decode cX1_cut 19 = .ok (.dup, 1) := by decide +kernel
theorem dX1_cut_20 : decode cX1_cut 20 = .ok (.getfield 9, 3) := by decide +kernel
theorem dX1_cut_23 : decode cX1_cut 23 = .ok (.iconst 1, 1) := by decide +kernel
theorem dX1_cut_24 : decode cX1_cut 24 = .ok (.iadd, 1) := by decide +kernel
theorem dX1_cut_25 : decode cX1_cut 25 = .ok (.putfield 9, 3) := by decide +kernel
theorem dX1_cut_28 : decode cX1_cut 28 = .ok (.aload_n 0, 1) := by decide +kernel
theorem dX1_cut_29 : decode cX1_cut 29 = .ok (.iload_n 2, 1) := by decide +kernel
theorem dX1_cut_30 : decode cX1_cut 30 = .ok (.aload_n 1, 1) := by decide +kernel
theorem dX1_cut_31 : decode cX1_cut 31 = .ok (.getfield 63, 3) := by decide +kernel
theorem dX1_cut_34 : decode cX1_cut 34 = .ok (.aload_n 1, 1) := by decide +kernel
theorem dX1_cut_35 : decode cX1_cut 35 = .ok (.getfield 68, 3) := by decide +kernel
theorem dX1_cut_38 : decode cX1_cut 38 = .ok (.iload_n 3, 1) := by decide +kernel
theorem dX1_cut_39 : decode cX1_cut 39 = .ok (.iload 4, 2) := by decide +kernel
theorem dX1_cut_41 : decode cX1_cut 41 = .ok (.invokevirtual 71, 3) := by decide +kernel
theorem dX1_cut_44 : decode cX1_cut 44 = .ok (.return_, 1) := by decide +kernel
theorem dX1_cut_45 : decode cX1_cut 45 = .ok (.aload_n 0, 1) := by decide +kernel
theorem dX1_cut_46 : decode cX1_cut 46 = .ok (.getfield 22, 3) := by decide +kernel
theorem dX1_cut_49 : decode cX1_cut 49 = .ok (.iload 5, 2) := by decide +kernel
theorem dX1_cut_51 : decode cX1_cut 51 = .ok (.iaload, 1) := by decide +kernel
theorem dX1_cut_52 : decode cX1_cut 52 = .ok (.istore 6, 2) := by decide +kernel
theorem dX1_cut_54 : decode cX1_cut 54 = .ok (.aload_n 0, 1) := by decide +kernel
theorem dX1_cut_55 : decode cX1_cut 55 = .ok (.getfield 25, 3) := by decide +kernel
theorem dX1_cut_58 : decode cX1_cut 58 = .ok (.iload 5, 2) := by decide +kernel
theorem dX1_cut_60 : decode cX1_cut 60 = .ok (.iaload, 1) := by decide +kernel
theorem dX1_cut_61 : decode cX1_cut 61 = .ok (.istore 7, 2) := by decide +kernel
theorem dX1_cut_63 : decode cX1_cut 63 = .ok (.iload_n 2, 1) := by decide +kernel
theorem dX1_cut_64 : decode cX1_cut 64 = .ok (.ifCond .lt 22, 3) := by decide +kernel
theorem dX1_cut_67 : decode cX1_cut 67 = .ok (.iload_n 2, 1) := by decide +kernel
theorem dX1_cut_68 : decode cX1_cut 68 = .ok (.bipush 96, 2) := by decide +kernel
theorem dX1_cut_70 : decode cX1_cut 70 = .ok (.if_icmp .ge 16, 3) := by decide +kernel
theorem dX1_cut_73 : decode cX1_cut 73 = .ok (.aload_n 0, 1) := by decide +kernel
theorem dX1_cut_74 : decode cX1_cut 74 = .ok (.getfield 15, 3) := by decide +kernel
theorem dX1_cut_77 : decode cX1_cut 77 = .ok (.iload_n 2, 1) := by decide +kernel
theorem dX1_cut_78 : decode cX1_cut 78 = .ok (.aload_n 0, 1) := by decide +kernel
theorem dX1_cut_79 : decode cX1_cut 79 = .ok (.getfield 28, 3) := by decide +kernel
theorem dX1_cut_82 : decode cX1_cut 82 = .ok (.iload 5, 2) := by decide +kernel
theorem dX1_cut_84 : decode cX1_cut 84 = .ok (.iaload, 1) := by decide +kernel
theorem dX1_cut_85 : decode cX1_cut 85 = .ok (.iastore, 1) := by decide +kernel
theorem dX1_cut_86 : decode cX1_cut 86 = .ok (.aload_n 0, 1) := by decide +kernel
theorem dX1_cut_87 : decode cX1_cut 87 = .ok (.iload 5, 2) := by decide +kernel
theorem dX1_cut_89 : decode cX1_cut 89 = .ok (.invokevirtual 75, 3) := by decide +kernel
theorem dX1_cut_92 : decode cX1_cut 92 = .ok (.aload_n 0, 1) := by decide +kernel
theorem dX1_cut_93 : decode cX1_cut 93 = .ok (.iload_n 2, 1) := by decide +kernel
theorem dX1_cut_94 : decode cX1_cut 94 = .ok (.iload 6, 2) := by decide +kernel
theorem dX1_cut_96 : decode cX1_cut 96 = .ok (.iload 7, 2) := by decide +kernel
theorem dX1_cut_98 : decode cX1_cut 98 = .ok (.iload_n 3, 1) := by decide +kernel
theorem dX1_cut_99 : decode cX1_cut 99 = .ok (.iload 4, 2) := by decide +kernel
theorem dX1_cut_101 : decode cX1_cut 101 = .ok (.invokevirtual 71, 3) := by decide +kernel
theorem dX1_cut_104 : decode cX1_cut 104 = .ok (.return_, 1) := by decide +kernel
theorem dX1_bestRestFor_0 : decode cX1_bestRestFor 0 = .ok (.iconst (-1), 1) := by decide +kernel
theorem dX1_bestRestFor_1 : decode cX1_bestRestFor 1 = .ok (.istore_n 3, 1) := by decide +kernel
theorem dX1_bestRestFor_2 : decode cX1_bestRestFor 2 = .ok (.iconst 0, 1) := by decide +kernel
theorem dX1_bestRestFor_3 : decode cX1_bestRestFor 3 = .ok (.istore 4, 2) := by decide +kernel
theorem dX1_bestRestFor_5 : decode cX1_bestRestFor 5 = .ok (.iconst 0, 1) := by decide +kernel
theorem dX1_bestRestFor_6 : decode cX1_bestRestFor 6 = .ok (.istore 5, 2) := by decide +kernel
theorem dX1_bestRestFor_8 : decode cX1_bestRestFor 8 = .ok (.iload 5, 2) := by decide +kernel
theorem dX1_bestRestFor_10 : decode cX1_bestRestFor 10 = .ok (.aload_n 0, 1) := by decide +kernel
theorem dX1_bestRestFor_11 : decode cX1_bestRestFor 11 = .ok (.getfield 19, 3) := by decide +kernel
theorem dX1_bestRestFor_14 : decode cX1_bestRestFor 14 = .ok (.if_icmp .ge 86, 3) := by decide +kernel
theorem dX1_bestRestFor_17 : decode cX1_bestRestFor 17 = .ok (.iload 5, 2) := by decide +kernel
theorem dX1_bestRestFor_19 : decode cX1_bestRestFor 19 = .ok (.bipush 96, 2) := by decide +kernel
theorem dX1_bestRestFor_21 : decode cX1_bestRestFor 21 = .ok (.if_icmp .ge 79, 3) := by decide +kernel
theorem dX1_bestRestFor_24 : decode cX1_bestRestFor 24 = .ok (.aload_n 0, 1) := by decide +kernel
theorem dX1_bestRestFor_25 : decode cX1_bestRestFor 25 = .ok (.getfield 22, 3) := by decide +kernel
theorem dX1_bestRestFor_28 : decode cX1_bestRestFor 28 = .ok (.iload 5, 2) := by decide +kernel
theorem dX1_bestRestFor_30 : decode cX1_bestRestFor 30 = .ok (.iaload, 1) := by decide +kernel
theorem dX1_bestRestFor_31 : decode cX1_bestRestFor 31 = .ok (.iload_n 1, 1) := by decide +kernel
theorem dX1_bestRestFor_32 : decode cX1_bestRestFor 32 = .ok (.if_icmp .lt 18, 3) := by decide +kernel
theorem dX1_bestRestFor_35 : decode cX1_bestRestFor 35 = .ok (.aload_n 0, 1) := by decide +kernel
theorem dX1_bestRestFor_36 : decode cX1_bestRestFor 36 = .ok (.getfield 25, 3) := by decide +kernel
theorem dX1_bestRestFor_39 : decode cX1_bestRestFor 39 = .ok (.iload 5, 2) := by decide +kernel
theorem dX1_bestRestFor_41 : decode cX1_bestRestFor 41 = .ok (.iaload, 1) := by decide +kernel
theorem dX1_bestRestFor_42 : decode cX1_bestRestFor 42 = .ok (.iload_n 2, 1) := by decide +kernel
theorem dX1_bestRestFor_43 : decode cX1_bestRestFor 43 = .ok (.if_icmp .lt 7, 3) := by decide +kernel
theorem dX1_bestRestFor_46 : decode cX1_bestRestFor 46 = .ok (.iconst 1, 1) := by decide +kernel
theorem dX1_bestRestFor_47 : decode cX1_bestRestFor 47 = .ok (.goto 4, 3) := by decide +kernel
theorem dX1_bestRestFor_50 : decode cX1_bestRestFor 50 = .ok (.iconst 0, 1) := by decide +kernel
theorem dX1_bestRestFor_51 : decode cX1_bestRestFor 51 = .ok (.istore 6, 2) := by decide +kernel
theorem dX1_bestRestFor_53 : decode cX1_bestRestFor 53 = .ok (.aload_n 0, 1) := by decide +kernel
theorem dX1_bestRestFor_54 : decode cX1_bestRestFor 54 = .ok (.getfield 22, 3) := by decide +kernel
theorem dX1_bestRestFor_57 : decode cX1_bestRestFor 57 = .ok (.iload 5, 2) := by decide +kernel
theorem dX1_bestRestFor_59 : decode cX1_bestRestFor 59 = .ok (.iaload, 1) := by decide +kernel
theorem dX1_bestRestFor_60 : decode cX1_bestRestFor 60 = .ok (.aload_n 0, 1) := by decide +kernel
theorem dX1_bestRestFor_61 : decode cX1_bestRestFor 61 = .ok (.getfield 25, 3) := by decide +kernel
theorem dX1_bestRestFor_64 : decode cX1_bestRestFor 64 = .ok (.iload 5, 2) := by decide +kernel
theorem dX1_bestRestFor_66 : decode cX1_bestRestFor 66 = .ok (.iaload, 1) := by decide +kernel
theorem dX1_bestRestFor_67 : decode cX1_bestRestFor 67 = .ok (.imul, 1) := by decide +kernel
theorem dX1_bestRestFor_68 : decode cX1_bestRestFor 68 = .ok (.istore 7, 2) := by decide +kernel
theorem dX1_bestRestFor_70 : decode cX1_bestRestFor 70 = .ok (.iload 6, 2) := by decide +kernel
theorem dX1_bestRestFor_72 : decode cX1_bestRestFor 72 = .ok (.ifCond .eq 22, 3) := by decide +kernel
theorem dX1_bestRestFor_75 : decode cX1_bestRestFor 75 = .ok (.iload_n 3, 1) := by decide +kernel
theorem dX1_bestRestFor_76 : decode cX1_bestRestFor 76 = .ok (.iconst (-1), 1) := by decide +kernel
theorem dX1_bestRestFor_77 : decode cX1_bestRestFor 77 = .ok (.if_icmp .eq 10, 3) := by decide +kernel
theorem dX1_bestRestFor_80 : decode cX1_bestRestFor 80 = .ok (.iload 7, 2) := by decide +kernel
theorem dX1_bestRestFor_82 : decode cX1_bestRestFor 82 = .ok (.iload 4, 2) := by decide +kernel
theorem dX1_bestRestFor_84 : decode cX1_bestRestFor 84 = .ok (.if_icmp .ge 10, 3) := by decide +kernel
theorem dX1_bestRestFor_87 : decode cX1_bestRestFor 87 = .ok (.iload 5, 2) := by decide +kernel
theorem dX1_bestRestFor_89 : decode cX1_bestRestFor 89 = .ok (.istore_n 3, 1) := by decide +kernel
theorem dX1_bestRestFor_90 : decode cX1_bestRestFor 90 = .ok (.iload 7, 2) := by decide +kernel
theorem dX1_bestRestFor_92 : decode cX1_bestRestFor 92 = .ok (.istore 4, 2) := by decide +kernel
theorem dX1_bestRestFor_94 : decode cX1_bestRestFor 94 = .ok (.iinc 5 1, 3) := by decide +kernel
theorem dX1_bestRestFor_97 : decode cX1_bestRestFor 97 = .ok (.goto (-89), 3) := by decide +kernel
theorem dX1_bestRestFor_100 : decode cX1_bestRestFor 100 = .ok (.iload_n 3, 1) := by decide +kernel
theorem dX1_bestRestFor_101 : decode cX1_bestRestFor 101 = .ok (.ireturn, 1) := by decide +kernel
set_option maxRecDepth 20000 in
theorem ggX1_removeRest_X1_hasRest : GoodIn wsX1_removeRest wsX1_hasRest := goodIn_r _ [9, 1, 10, 11, 12, 13, 14, 15] (by decide +kernel) (by decide +kernel)
set_option maxRecDepth 20000 in
theorem gX1_removeRest_X1_hasRest : GoodIn wsX1_removeRest (wsV RX1 31 RX1 yX1_hasRest wsX1_hasRest) := goodIn_app (goodIn_of _ (by decide +kernel)) ggX1_removeRest_X1_hasRest
theorem dX1_removeRest_0 : decode cX1_removeRest 0 = .ok (.aload_n 0, 1) := by decide +kernel
theorem dX1_removeRest_1 : decode cX1_removeRest 1 = .ok (.iload_n 1, 1) := by decide +kernel
theorem dX1_removeRest_2 : decode cX1_removeRest 2 = .ok (.invokevirtual 31, 3) := by decide +kernel
theorem dX1_removeRest_5 : decode cX1_removeRest 5 = .ok (.ifCond .ne 4, 3) := by decide +kernel
theorem dX1_removeRest_8 : decode cX1_removeRest 8 = .ok (.return_, 1) := by decide +kernel
theorem dX1_removeRest_9 : decode cX1_removeRest 9 = .ok (.iload_n 1, 1) := by decide +kernel
theorem dX1_removeRest_10 : decode cX1_removeRest 10 = .ok (.iconst 1, 1) := by decide +kernel
theorem dX1_removeRest_11 : decode cX1_removeRest 11 = .ok (.iadd, 1) := by decide +kernel
theorem dX1_removeRest_12 : decode cX1_removeRest 12 = .ok (.istore_n 2, 1) := by decide +kernel
theorem dX1_removeRest_13 : decode cX1_removeRest 13 = .ok (.iload_n 2, 1) := by decide +kernel
theorem dX1_removeRest_14 : decode cX1_removeRest 14 = .ok (.aload_n 0, 1) := by decide +kernel
theorem dX1_removeRest_15 : decode cX1_removeRest 15 = .ok (.getfield 19, 3) := by decide +kernel
theorem dX1_removeRest_18 : decode cX1_removeRest 18 = .ok (.if_icmp .ge 57, 3) := by decide +kernel
theorem dX1_removeRest_21 : decode cX1_removeRest 21 = .ok (.iload_n 2, 1) := by decide +kernel
theorem dX1_removeRest_22 : decode cX1_removeRest 22 = .ok (.bipush 96, 2) := by decide +kernel
theorem dX1_removeRest_24 : decode cX1_removeRest 24 = .ok (.if_icmp .ge 51, 3) := by decide +kernel
theorem dX1_removeRest_27 : decode cX1_removeRest 27 = .ok (.aload_n 0, 1) := by decide +kernel
theorem dX1_removeRest_28 : decode cX1_removeRest 28 = .ok (.getfield 22, 3) := by decide +kernel
theorem dX1_removeRest_31 : decode cX1_removeRest 31 = .ok (.iload_n 2, 1) := by decide +kernel
theorem dX1_removeRest_32 : decode cX1_removeRest 32 = .ok (.iconst 1, 1) := by decide +kernel
theorem dX1_removeRest_33 : decode cX1_removeRest 33 = .ok (.isub, 1) := by decide +kernel
theorem dX1_removeRest_34 : decode cX1_removeRest 34 = .ok (.aload_n 0, 1) := by decide +kernel
theorem dX1_removeRest_35 : decode cX1_removeRest 35 = .ok (.getfield 22, 3) := by decide +kernel
theorem dX1_removeRest_38 : decode cX1_removeRest 38 = .ok (.iload_n 2, 1) := by decide +kernel
theorem dX1_removeRest_39 : decode cX1_removeRest 39 = .ok (.iaload, 1) := by decide +kernel
theorem dX1_removeRest_40 : decode cX1_removeRest 40 = .ok (.iastore, 1) := by decide +kernel
theorem dX1_removeRest_41 : decode cX1_removeRest 41 = .ok (.aload_n 0, 1) := by decide +kernel
theorem dX1_removeRest_42 : decode cX1_removeRest 42 = .ok (.getfield 25, 3) := by decide +kernel
theorem dX1_removeRest_45 : decode cX1_removeRest 45 = .ok (.iload_n 2, 1) := by decide +kernel
theorem dX1_removeRest_46 : decode cX1_removeRest 46 = .ok (.iconst 1, 1) := by decide +kernel
theorem dX1_removeRest_47 : decode cX1_removeRest 47 = .ok (.isub, 1) := by decide +kernel
theorem dX1_removeRest_48 : decode cX1_removeRest 48 = .ok (.aload_n 0, 1) := by decide +kernel
theorem dX1_removeRest_49 : decode cX1_removeRest 49 = .ok (.getfield 25, 3) := by decide +kernel
theorem dX1_removeRest_52 : decode cX1_removeRest 52 = .ok (.iload_n 2, 1) := by decide +kernel
theorem dX1_removeRest_53 : decode cX1_removeRest 53 = .ok (.iaload, 1) := by decide +kernel
theorem dX1_removeRest_54 : decode cX1_removeRest 54 = .ok (.iastore, 1) := by decide +kernel
theorem dX1_removeRest_55 : decode cX1_removeRest 55 = .ok (.aload_n 0, 1) := by decide +kernel
theorem dX1_removeRest_56 : decode cX1_removeRest 56 = .ok (.getfield 28, 3) := by decide +kernel
theorem dX1_removeRest_59 : decode cX1_removeRest 59 = .ok (.iload_n 2, 1) := by decide +kernel
theorem dX1_removeRest_60 : decode cX1_removeRest 60 = .ok (.iconst 1, 1) := by decide +kernel
theorem dX1_removeRest_61 : decode cX1_removeRest 61 = .ok (.isub, 1) := by decide +kernel
theorem dX1_removeRest_62 : decode cX1_removeRest 62 = .ok (.aload_n 0, 1) := by decide +kernel
theorem dX1_removeRest_63 : decode cX1_removeRest 63 = .ok (.getfield 28, 3) := by decide +kernel
theorem dX1_removeRest_66 : decode cX1_removeRest 66 = .ok (.iload_n 2, 1) := by decide +kernel
theorem dX1_removeRest_67 : decode cX1_removeRest 67 = .ok (.iaload, 1) := by decide +kernel
theorem dX1_removeRest_68 : decode cX1_removeRest 68 = .ok (.iastore, 1) := by decide +kernel
theorem dX1_removeRest_69 : decode cX1_removeRest 69 = .ok (.iinc 2 1, 3) := by decide +kernel
theorem dX1_removeRest_72 : decode cX1_removeRest 72 = .ok (.goto (-59), 3) := by decide +kernel
theorem dX1_removeRest_75 : decode cX1_removeRest 75 = .ok (.aload_n 0, 1) := by decide +kernel
theorem dX1_removeRest_76 : decode cX1_removeRest 76 = .ok (.dup, 1) := by decide +kernel
theorem dX1_removeRest_77 : decode cX1_removeRest 77 = .ok (.getfield 19, 3) := by decide +kernel
theorem dX1_removeRest_80 : decode cX1_removeRest 80 = .ok (.iconst 1, 1) := by decide +kernel
theorem dX1_removeRest_81 : decode cX1_removeRest 81 = .ok (.isub, 1) := by decide +kernel
theorem dX1_removeRest_82 : decode cX1_removeRest 82 = .ok (.putfield 19, 3) := by decide +kernel
theorem dX1_removeRest_85 : decode cX1_removeRest 85 = .ok (.return_, 1) := by decide +kernel
set_option maxRecDepth 20000 in
theorem ggX1_leave_X1_addRest : GoodIn wsX1_leave wsX1_addRest := goodIn_r _ [5, 6, 7, 8, 9, 10, 11, 12, 4, 13, 14, 15, 16, 17, 18, 19] (by decide +kernel) (by decide +kernel)
set_option maxRecDepth 20000 in
theorem gX1_leave_X1_addRest : GoodIn wsX1_leave (wsV RX1 79 RX1 yX1_addRest wsX1_addRest) := goodIn_app (goodIn_of _ (by decide +kernel)) ggX1_leave_X1_addRest
theorem dX1_leave_0 : decode cX1_leave 0 = .ok (.iload_n 2, 1) := by decide +kernel
theorem dX1_leave_1 : decode cX1_leave 1 = .ok (.iload 4, 2) := by decide +kernel
theorem dX1_leave_3 : decode cX1_leave 3 = .ok (.isub, 1) := by decide +kernel
theorem dX1_leave_4 : decode cX1_leave 4 = .ok (.iload_n 3, 1) := by decide +kernel
theorem dX1_leave_5 : decode cX1_leave 5 = .ok (.imul, 1) := by decide +kernel
theorem dX1_leave_6 : decode cX1_leave 6 = .ok (.istore 6, 2) := by decide +kernel
theorem dX1_leave_8 : decode cX1_leave 8 = .ok (.iload_n 2, 1) := by decide +kernel
theorem dX1_leave_9 : decode cX1_leave 9 = .ok (.iload_n 3, 1) := by decide +kernel
theorem dX1_leave_10 : decode cX1_leave 10 = .ok (.iload 5, 2) := by decide +kernel
theorem dX1_leave_12 : decode cX1_leave 12 = .ok (.isub, 1) := by decide +kernel
theorem dX1_leave_13 : decode cX1_leave 13 = .ok (.imul, 1) := by decide +kernel
theorem dX1_leave_14 : decode cX1_leave 14 = .ok (.istore 7, 2) := by decide +kernel
theorem dX1_leave_16 : decode cX1_leave 16 = .ok (.iload 6, 2) := by decide +kernel
theorem dX1_leave_18 : decode cX1_leave 18 = .ok (.ifCond .ne 9, 3) := by decide +kernel
theorem dX1_leave_21 : decode cX1_leave 21 = .ok (.iload 7, 2) := by decide +kernel
theorem dX1_leave_23 : decode cX1_leave 23 = .ok (.ifCond .ne 4, 3) := by decide +kernel
theorem dX1_leave_26 : decode cX1_leave 26 = .ok (.return_, 1) := by decide +kernel
theorem dX1_leave_27 : decode cX1_leave 27 = .ok (.iload 6, 2) := by decide +kernel
theorem dX1_leave_29 : decode cX1_leave 29 = .ok (.iload 7, 2) := by decide +kernel
theorem dX1_leave_31 : decode cX1_leave 31 = .ok (.if_icmp .lt 16, 3) := by decide +kernel
theorem dX1_leave_34 : decode cX1_leave 34 = .ok (.aload_n 0, 1) := by decide +kernel
theorem dX1_leave_35 : decode cX1_leave 35 = .ok (.iload_n 1, 1) := by decide +kernel
theorem dX1_leave_36 : decode cX1_leave 36 = .ok (.iload_n 2, 1) := by decide +kernel
theorem dX1_leave_37 : decode cX1_leave 37 = .ok (.iload 4, 2) := by decide +kernel
theorem dX1_leave_39 : decode cX1_leave 39 = .ok (.isub, 1) := by decide +kernel
theorem dX1_leave_40 : decode cX1_leave 40 = .ok (.iload_n 3, 1) := by decide +kernel
theorem dX1_leave_41 : decode cX1_leave 41 = .ok (.invokevirtual 79, 3) := by decide +kernel
theorem dX1_leave_44 : decode cX1_leave 44 = .ok (.goto 13, 3) := by decide +kernel
theorem dX1_leave_47 : decode cX1_leave 47 = .ok (.aload_n 0, 1) := by decide +kernel
theorem dX1_leave_48 : decode cX1_leave 48 = .ok (.iload_n 1, 1) := by decide +kernel
theorem dX1_leave_49 : decode cX1_leave 49 = .ok (.iload_n 2, 1) := by decide +kernel
theorem dX1_leave_50 : decode cX1_leave 50 = .ok (.iload_n 3, 1) := by decide +kernel
theorem dX1_leave_51 : decode cX1_leave 51 = .ok (.iload 5, 2) := by decide +kernel
theorem dX1_leave_53 : decode cX1_leave 53 = .ok (.isub, 1) := by decide +kernel
theorem dX1_leave_54 : decode cX1_leave 54 = .ok (.invokevirtual 79, 3) := by decide +kernel
theorem dX1_leave_57 : decode cX1_leave 57 = .ok (.return_, 1) := by decide +kernel
set_option maxRecDepth 20000 in
theorem ggX1_addRest_X1_hasRest : GoodIn wsX1_addRest wsX1_hasRest := goodIn_r _ [9, 1, 10, 11, 12, 13, 14, 15] (by decide +kernel) (by decide +kernel)
set_option maxRecDepth 20000 in
theorem gX1_addRest_X1_hasRest : GoodIn wsX1_addRest (wsV RX1 31 RX1 yX1_hasRest wsX1_hasRest) := goodIn_app (goodIn_of _ (by decide +kernel)) ggX1_addRest_X1_hasRest
theorem dX1_addRest_0 : decode cX1_addRest 0 = .ok (.aload_n 0, 1) := by decide +kernel
theorem dX1_addRest_1 : decode cX1_addRest 1 = .ok (.dup, 1) := by decide +kernel
theorem dX1_addRest_2 : decode cX1_addRest 2 = .ok (.getfield 19, 3) := by decide +kernel
theorem dX1_addRest_5 : decode cX1_addRest 5 = .ok (.dup_x1, 1) := by decide +kernel
theorem dX1_addRest_6 : decode cX1_addRest 6 = .ok (.iconst 1, 1) := by decide +kernel
theorem dX1_addRest_7 : decode cX1_addRest 7 = .ok (.iadd, 1) := by decide +kernel
theorem dX1_addRest_8 : decode cX1_addRest 8 = .ok (.putfield 19, 3) := by decide +kernel
theorem dX1_addRest_11 : decode cX1_addRest 11 = .ok (.istore 4, 2) := by decide +kernel
theorem dX1_addRest_13 : decode cX1_addRest 13 = .ok (.aload_n 0, 1) := by decide +kernel
theorem dX1_addRest_14 : decode cX1_addRest 14 = .ok (.iload 4, 2) := by decide +kernel
theorem dX1_addRest_16 : decode cX1_addRest 16 = .ok (.invokevirtual 31, 3) := by decide +kernel
theorem dX1_addRest_19 : decode cX1_addRest 19 = .ok (.ifCond .eq 27, 3) := by decide +kernel
theorem dX1_addRest_22 : decode cX1_addRest 22 = .ok (.aload_n 0, 1) := by decide +kernel
theorem dX1_addRest_23 : decode cX1_addRest 23 = .ok (.getfield 22, 3) := by decide +kernel
theorem dX1_addRest_26 : decode cX1_addRest 26 = .ok (.iload 4, 2) := by decide +kernel
theorem dX1_addRest_28 : decode cX1_addRest 28 = .ok (.iload_n 2, 1) := by decide +kernel
theorem dX1_addRest_29 : decode cX1_addRest 29 = .ok (.iastore, 1) := by decide +kernel
theorem dX1_addRest_30 : decode cX1_addRest 30 = .ok (.aload_n 0, 1) := by decide +kernel
theorem dX1_addRest_31 : decode cX1_addRest 31 = .ok (.getfield 25, 3) := by decide +kernel
theorem dX1_addRest_34 : decode cX1_addRest 34 = .ok (.iload 4, 2) := by decide +kernel
theorem dX1_addRest_36 : decode cX1_addRest 36 = .ok (.iload_n 3, 1) := by decide +kernel
theorem dX1_addRest_37 : decode cX1_addRest 37 = .ok (.iastore, 1) := by decide +kernel
theorem dX1_addRest_38 : decode cX1_addRest 38 = .ok (.aload_n 0, 1) := by decide +kernel
theorem dX1_addRest_39 : decode cX1_addRest 39 = .ok (.getfield 28, 3) := by decide +kernel
theorem dX1_addRest_42 : decode cX1_addRest 42 = .ok (.iload 4, 2) := by decide +kernel
theorem dX1_addRest_44 : decode cX1_addRest 44 = .ok (.iload_n 1, 1) := by decide +kernel
theorem dX1_addRest_45 : decode cX1_addRest 45 = .ok (.iastore, 1) := by decide +kernel
theorem dX1_addRest_46 : decode cX1_addRest 46 = .ok (.return_, 1) := by decide +kernel
theorem dX2_init_0 : decode cX2_init 0 = .ok (.aload_n 0, 1) := by decide +kernel
theorem dX2_init_1 : decode cX2_init 1 = .ok (.invokespecial 1, 3) := by decide +kernel
theorem dX2_init_4 : decode cX2_init 4 = .ok (.aload_n 0, 1) := by decide +kernel
theorem dX2_init_5 : decode cX2_init 5 = .ok (.iconst 0, 1) := by decide +kernel
theorem dX2_init_6 : decode cX2_init 6 = .ok (.putfield 7, 3) := by decide +kernel
theorem dX2_init_9 : decode cX2_init 9 = .ok (.aload_n 0, 1) := by decide +kernel
theorem dX2_init_10 : decode cX2_init 10 = .ok (.iconst 0, 1) := by decide +kernel
theorem dX2_init_11 : decode cX2_init 11 = .ok (.putfield 13, 3) := by decide +kernel
theorem dX2_init_14 : decode cX2_init 14 = .ok (.aload_n 0, 1) := by decide +kernel
theorem dX2_init_15 : decode cX2_init 15 = .ok (.iconst 0, 1) := by decide +kernel
theorem dX2_init_16 : decode cX2_init 16 = .ok (.putfield 16, 3) := by decide +kernel
theorem dX2_init_19 : decode cX2_init 19 = .ok (.aload_n 0, 1) := by decide +kernel
theorem dX2_init_20 : decode cX2_init 20 = .ok (.iconst 0, 1) := by decide +kernel
theorem dX2_init_21 : decode cX2_init 21 = .ok (.putfield 19, 3) := by decide +kernel
theorem dX2_init_24 : decode cX2_init 24 = .ok (.return_, 1) := by decide +kernel
theorem dX2_set_0 : decode cX2_set 0 = .ok (.aload_n 0, 1) := by decide +kernel
theorem dX2_set_1 : decode cX2_set 1 = .ok (.iload_n 1, 1) := by decide +kernel
theorem dX2_set_2 : decode cX2_set 2 = .ok (.putfield 7, 3) := by decide +kernel
theorem dX2_set_5 : decode cX2_set 5 = .ok (.aload_n 0, 1) := by decide +kernel
theorem dX2_set_6 : decode cX2_set 6 = .ok (.iload_n 2, 1) := by decide +kernel
theorem dX2_set_7 : decode cX2_set 7 = .ok (.putfield 13, 3) := by decide +kernel
theorem dX2_set_10 : decode cX2_set 10 = .ok (.aload_n 0, 1) := by decide +kernel
theorem dX2_set_11 : decode cX2_set 11 = .ok (.iload_n 3, 1) := by decide +kernel
theorem dX2_set_12 : decode cX2_set 12 = .ok (.putfield 16, 3) := by decide +kernel
theorem dX2_set_15 : decode cX2_set 15 = .ok (.aload_n 0, 1) := by decide +kernel
theorem dX2_set_16 : decode cX2_set 16 = .ok (.iload 4, 2) := by decide +kernel
theorem dX2_set_18 : decode cX2_set 18 = .ok (.putfield 19, 3) := by decide +kernel
theorem dX2_set_21 : decode cX2_set 21 = .ok (.return_, 1) := by decide +kernel
theorem dX3_init_0 : decode cX3_init 0 = .ok (.aload_n 0, 1) := by decide +kernel
theorem dX3_init_1 : decode cX3_init 1 = .ok (.invokespecial 3, 3) := by decide +kernel
theorem dX3_init_4 : decode cX3_init 4 = .ok (.aload_n 0, 1) := by decide +kernel
theorem dX3_init_5 : decode cX3_init 5 = .ok (.iconst 2, 1) := by decide +kernel
theorem dX3_init_6 : decode cX3_init 6 = .ok (.putfield 9, 3) := by decide +kernel
theorem dX3_init_9 : decode cX3_init 9 = .ok (.aload_n 0, 1) := by decide +kernel
theorem dX3_init_10 : decode cX3_init 10 = .ok (.iconst 2, 1) := by decide +kernel
theorem dX3_init_11 : decode cX3_init 11 = .ok (.putfield 15, 3) := by decide +kernel
theorem dX3_init_14 : decode cX3_init 14 = .ok (.aload_n 0, 1) := by decide +kernel
theorem dX3_init_15 : decode cX3_init 15 = .ok (.iconst 0, 1) := by decide +kernel
theorem dX3_init_16 : decode cX3_init 16 = .ok (.putfield 18, 3) := by decide +kernel
theorem dX3_init_19 : decode cX3_init 19 = .ok (.aload_n 0, 1) := by decide +kernel
theorem dX3_init_20 : decode cX3_init 20 = .ok (.iconst 0, 1) := by decide +kernel
theorem dX3_init_21 : decode cX3_init 21 = .ok (.putfield 21, 3) := by decide +kernel
theorem dX3_init_24 : decode cX3_init 24 = .ok (.return_, 1) := by decide +kernel
theorem dX3_set_0 : decode cX3_set 0 = .ok (.aload_n 0, 1) := by decide +kernel
theorem dX3_set_1 : decode cX3_set 1 = .ok (.iload_n 1, 1) := by decide +kernel
theorem dX3_set_2 : decode cX3_set 2 = .ok (.putfield 9, 3) := by decide +kernel
theorem dX3_set_5 : decode cX3_set 5 = .ok (.aload_n 0, 1) := by decide +kernel
theorem dX3_set_6 : decode cX3_set 6 = .ok (.iload_n 2, 1) := by decide +kernel
theorem dX3_set_7 : decode cX3_set 7 = .ok (.putfield 15, 3) := by decide +kernel
theorem dX3_set_10 : decode cX3_set 10 = .ok (.aload_n 0, 1) := by decide +kernel
theorem dX3_set_11 : decode cX3_set 11 = .ok (.iload_n 3, 1) := by decide +kernel
theorem dX3_set_12 : decode cX3_set 12 = .ok (.putfield 18, 3) := by decide +kernel
theorem dX3_set_15 : decode cX3_set 15 = .ok (.aload_n 0, 1) := by decide +kernel
theorem dX3_set_16 : decode cX3_set 16 = .ok (.iload 4, 2) := by decide +kernel
theorem dX3_set_18 : decode cX3_set 18 = .ok (.putfield 21, 3) := by decide +kernel
theorem dX3_set_21 : decode cX3_set 21 = .ok (.return_, 1) := by decide +kernel
set_option maxRecDepth 20000 in
theorem ggX3_isBorder_X3_rightBorder : GoodIn wsX3_isBorder wsX3_rightBorder := goodIn_r _ [6, 1, 11, 12, 13, 14] (by decide +kernel) (by decide +kernel)
set_option maxRecDepth 20000 in
theorem gX3_isBorder_X3_rightBorder : GoodIn wsX3_isBorder (wsV RX3 24 RX3 yX3_rightBorder wsX3_rightBorder) := goodIn_app (goodIn_of _ (by decide +kernel)) ggX3_isBorder_X3_rightBorder
set_option maxRecDepth 20000 in
theorem ggX3_isBorder_X3_lowerBorder : GoodIn wsX3_isBorder wsX3_lowerBorder := goodIn_r _ [10, 1, 11, 12, 13, 14] (by decide +kernel) (by decide +kernel)
set_option maxRecDepth 20000 in
theorem gX3_isBorder_X3_lowerBorder : GoodIn wsX3_isBorder (wsV RX3 28 RX3 yX3_lowerBorder wsX3_lowerBorder) := goodIn_app (goodIn_of _ (by decide +kernel)) ggX3_isBorder_X3_lowerBorder
theorem dX3_isBorder_0 : decode cX3_isBorder 0 = .ok (.iload_n 1, 1) := by decide +kernel
theorem dX3_isBorder_1 : decode cX3_isBorder 1 = .ok (.aload_n 0, 1) := by decide +kernel
theorem dX3_isBorder_2 : decode cX3_isBorder 2 = .ok (.getfield 18, 3) := by decide +kernel
theorem dX3_isBorder_5 : decode cX3_isBorder 5 = .ok (.if_icmp .lt 27, 3) := by decide +kernel
theorem dX3_isBorder_8 : decode cX3_isBorder 8 = .ok (.iload_n 1, 1) := by decide +kernel
theorem dX3_isBorder_9 : decode cX3_isBorder 9 = .ok (.aload_n 0, 1) := by decide +kernel
theorem dX3_isBorder_10 : decode cX3_isBorder 10 = .ok (.invokevirtual 24, 3) := by decide +kernel
theorem dX3_isBorder_13 : decode cX3_isBorder 13 = .ok (.if_icmp .ge 19, 3) := by decide +kernel
theorem dX3_isBorder_16 : decode cX3_isBorder 16 = .ok (.iload_n 2, 1) := by decide +kernel
theorem dX3_isBorder_17 : decode cX3_isBorder 17 = .ok (.aload_n 0, 1) := by decide +kernel
theorem dX3_isBorder_18 : decode cX3_isBorder 18 = .ok (.getfield 18, 3) := by decide +kernel
theorem dX3_isBorder_21 : decode cX3_isBorder 21 = .ok (.if_icmp .lt 11, 3) := by decide +kernel
theorem dX3_isBorder_24 : decode cX3_isBorder 24 = .ok (.iload_n 2, 1) := by decide +kernel
theorem dX3_isBorder_25 : decode cX3_isBorder 25 = .ok (.aload_n 0, 1) := by decide +kernel
theorem dX3_isBorder_26 : decode cX3_isBorder 26 = .ok (.invokevirtual 28, 3) := by decide +kernel
theorem dX3_isBorder_29 : decode cX3_isBorder 29 = .ok (.if_icmp .lt 7, 3) := by decide +kernel
theorem dX3_isBorder_32 : decode cX3_isBorder 32 = .ok (.iconst 1, 1) := by decide +kernel
theorem dX3_isBorder_33 : decode cX3_isBorder 33 = .ok (.goto 4, 3) := by decide +kernel
theorem dX3_isBorder_36 : decode cX3_isBorder 36 = .ok (.iconst 0, 1) := by decide +kernel
theorem dX3_isBorder_37 : decode cX3_isBorder 37 = .ok (.ireturn, 1) := by decide +kernel
theorem dX3_rightBorder_0 : decode cX3_rightBorder 0 = .ok (.bipush 12, 2) := by decide +kernel
theorem dX3_rightBorder_2 : decode cX3_rightBorder 2 = .ok (.aload_n 0, 1) := by decide +kernel
theorem dX3_rightBorder_3 : decode cX3_rightBorder 3 = .ok (.getfield 18, 3) := by decide +kernel
theorem dX3_rightBorder_6 : decode cX3_rightBorder 6 = .ok (.isub, 1) := by decide +kernel
theorem dX3_rightBorder_7 : decode cX3_rightBorder 7 = .ok (.ireturn, 1) := by decide +kernel
theorem dX3_lowerBorder_0 : decode cX3_lowerBorder 0 = .ok (.bipush 8, 2) := by decide +kernel
theorem dX3_lowerBorder_2 : decode cX3_lowerBorder 2 = .ok (.aload_n 0, 1) := by decide +kernel
theorem dX3_lowerBorder_3 : decode cX3_lowerBorder 3 = .ok (.getfield 18, 3) := by decide +kernel
theorem dX3_lowerBorder_6 : decode cX3_lowerBorder 6 = .ok (.isub, 1) := by decide +kernel
theorem dX3_lowerBorder_7 : decode cX3_lowerBorder 7 = .ok (.ireturn, 1) := by decide +kernel
set_option maxRecDepth 20000 in
theorem ggX3_courseOfRow_X7_timesIn : GoodIn wsX3_courseOfRow wsX7_timesIn := goodIn_r _ [5] (by decide +kernel) (by decide +kernel)
set_option maxRecDepth 20000 in
theorem gX3_courseOfRow_X7_timesIn_n31 : GoodIn wsX3_courseOfRow (wsX7_timesIn) := ggX3_courseOfRow_X7_timesIn
theorem dX3_courseOfRow_0 : decode cX3_courseOfRow 0 = .ok (.aload_n 0, 1) := by decide +kernel
theorem dX3_courseOfRow_1 : decode cX3_courseOfRow 1 = .ok (.getfield 15, 3) := by decide +kernel
theorem dX3_courseOfRow_4 : decode cX3_courseOfRow 4 = .ok (.iload_n 1, 1) := by decide +kernel
theorem dX3_courseOfRow_5 : decode cX3_courseOfRow 5 = .ok (.aload_n 0, 1) := by decide +kernel
theorem dX3_courseOfRow_6 : decode cX3_courseOfRow 6 = .ok (.getfield 18, 3) := by decide +kernel
theorem dX3_courseOfRow_9 : decode cX3_courseOfRow 9 = .ok (.isub, 1) := by decide +kernel
theorem dX3_courseOfRow_10 : decode cX3_courseOfRow 10 = .ok (.invokestatic 31, 3) := by decide +kernel
theorem dX3_courseOfRow_13 : decode cX3_courseOfRow 13 = .ok (.ireturn, 1) := by decide +kernel
set_option maxRecDepth 20000 in
theorem ggX3_countCourses_X3_lowerBorder : GoodIn wsX3_countCourses wsX3_lowerBorder := goodIn_r _ [5, 6, 15, 16, 17, 18] (by decide +kernel) (by decide +kernel)
set_option maxRecDepth 20000 in
theorem gX3_countCourses_X3_lowerBorder : GoodIn wsX3_countCourses (wsV RX3 28 RX3 yX3_lowerBorder wsX3_lowerBorder) := goodIn_app (goodIn_of _ (by decide +kernel)) ggX3_countCourses_X3_lowerBorder
set_option maxRecDepth 20000 in
theorem ggX3_countCourses_X3_courseOfRow : GoodIn wsX3_countCourses wsX3_courseOfRow := goodIn_r _ [10, 11, 6, 12, 13, 14, 15, 16, 17, 18] (by decide +kernel) (by decide +kernel)
set_option maxRecDepth 20000 in
theorem gX3_countCourses_X3_courseOfRow : GoodIn wsX3_countCourses (wsV RX3 35 RX3 yX3_courseOfRow wsX3_courseOfRow) := goodIn_app (goodIn_of _ (by decide +kernel)) ggX3_countCourses_X3_courseOfRow
theorem dX3_countCourses_0 : decode cX3_countCourses 0 = .ok (.aload_n 0, 1) := by decide +kernel
theorem dX3_countCourses_1 : decode cX3_countCourses 1 = .ok (.aload_n 0, 1) := by decide +kernel
theorem dX3_countCourses_2 : decode cX3_countCourses 2 = .ok (.invokevirtual 28, 3) := by decide +kernel
theorem dX3_countCourses_5 : decode cX3_countCourses 5 = .ok (.iconst 1, 1) := by decide +kernel
theorem dX3_countCourses_6 : decode cX3_countCourses 6 = .ok (.isub, 1) := by decide +kernel
theorem dX3_countCourses_7 : decode cX3_countCourses 7 = .ok (.invokevirtual 35, 3) := by decide +kernel
theorem dX3_countCourses_10 : decode cX3_countCourses 10 = .ok (.iconst 1, 1) := by decide +kernel
theorem dX3_countCourses_11 : decode cX3_countCourses 11 = .ok (.iadd, 1) := by decide +kernel
theorem dX3_countCourses_12 : decode cX3_countCourses 12 = .ok (.ireturn, 1) := by decide +kernel
set_option maxRecDepth 20000 in
theorem ggX3_countStrips_X3_countCourses : GoodIn wsX3_countStrips wsX3_countCourses := goodIn_r _ [6, 7, 8, 9, 5, 10, 1, 11, 12, 13, 14, 15, 16, 17, 18, 19, 20, 21, 22] (by decide +kernel) (by decide +kernel)
set_option maxRecDepth 20000 in
theorem gX3_countStrips_X3_countCourses : GoodIn wsX3_countStrips (wsV RX3 39 RX3 yX3_countCourses wsX3_countCourses) := goodIn_app (goodIn_of _ (by decide +kernel)) ggX3_countStrips_X3_countCourses
theorem dX3_countStrips_0 : decode cX3_countStrips 0 = .ok (.aload_n 0, 1) := by decide +kernel
theorem dX3_countStrips_1 : decode cX3_countStrips 1 = .ok (.getfield 18, 3) := by decide +kernel
theorem dX3_countStrips_4 : decode cX3_countStrips 4 = .ok (.aload_n 0, 1) := by decide +kernel
theorem dX3_countStrips_5 : decode cX3_countStrips 5 = .ok (.invokevirtual 39, 3) := by decide +kernel
theorem dX3_countStrips_8 : decode cX3_countStrips 8 = .ok (.iadd, 1) := by decide +kernel
theorem dX3_countStrips_9 : decode cX3_countStrips 9 = .ok (.aload_n 0, 1) := by decide +kernel
theorem dX3_countStrips_10 : decode cX3_countStrips 10 = .ok (.getfield 18, 3) := by decide +kernel
theorem dX3_countStrips_13 : decode cX3_countStrips 13 = .ok (.iadd, 1) := by decide +kernel
theorem dX3_countStrips_14 : decode cX3_countStrips 14 = .ok (.ireturn, 1) := by decide +kernel
set_option maxRecDepth 20000 in
theorem ggX3_hasStrip_X3_countStrips : GoodIn wsX3_hasStrip wsX3_countStrips := goodIn_r _ [5, 6, 7, 8, 9, 4, 10, 11, 12, 13, 14, 15, 16, 17, 18, 19, 20, 21, 22, 23, 24, 25, 26] (by decide +kernel) (by decide +kernel)
set_option maxRecDepth 20000 in
theorem gX3_hasStrip_X3_countStrips : GoodIn wsX3_hasStrip (wsV RX3 42 RX3 yX3_countStrips wsX3_countStrips) := goodIn_app (goodIn_of _ (by decide +kernel)) ggX3_hasStrip_X3_countStrips
theorem dX3_hasStrip_0 : decode cX3_hasStrip 0 = .ok (.iload_n 1, 1) := by decide +kernel
theorem dX3_hasStrip_1 : decode cX3_hasStrip 1 = .ok (.ifCond .lt 15, 3) := by decide +kernel
theorem dX3_hasStrip_4 : decode cX3_hasStrip 4 = .ok (.iload_n 1, 1) := by decide +kernel
theorem dX3_hasStrip_5 : decode cX3_hasStrip 5 = .ok (.aload_n 0, 1) := by decide +kernel
theorem dX3_hasStrip_6 : decode cX3_hasStrip 6 = .ok (.invokevirtual 42, 3) := by decide +kernel
theorem dX3_hasStrip_9 : decode cX3_hasStrip 9 = .ok (.if_icmp .ge 7, 3) := by decide +kernel
theorem dX3_hasStrip_12 : decode cX3_hasStrip 12 = .ok (.iconst 1, 1) := by decide +kernel
theorem dX3_hasStrip_13 : decode cX3_hasStrip 13 = .ok (.goto 4, 3) := by decide +kernel
theorem dX3_hasStrip_16 : decode cX3_hasStrip 16 = .ok (.iconst 0, 1) := by decide +kernel
theorem dX3_hasStrip_17 : decode cX3_hasStrip 17 = .ok (.ireturn, 1) := by decide +kernel
set_option maxRecDepth 20000 in
theorem ggX3_stripOfRow_X3_lowerBorder : GoodIn wsX3_stripOfRow wsX3_lowerBorder := goodIn_r _ [6, 1, 19, 20, 21, 22] (by decide +kernel) (by decide +kernel)
set_option maxRecDepth 20000 in
theorem gX3_stripOfRow_X3_lowerBorder : GoodIn wsX3_stripOfRow (wsV RX3 28 RX3 yX3_lowerBorder wsX3_lowerBorder) := goodIn_app (goodIn_of _ (by decide +kernel)) ggX3_stripOfRow_X3_lowerBorder
set_option maxRecDepth 20000 in
theorem ggX3_stripOfRow_X3_countCourses : GoodIn wsX3_stripOfRow wsX3_countCourses := goodIn_r _ [10, 2, 3, 4, 5, 6, 1, 11, 12, 13, 14, 15, 16, 17, 18, 19, 20, 21, 22] (by decide +kernel) (by decide +kernel)
set_option maxRecDepth 20000 in
theorem gX3_stripOfRow_X3_countCourses : GoodIn wsX3_stripOfRow (wsV RX3 39 RX3 yX3_countCourses wsX3_countCourses) := goodIn_app (goodIn_of _ (by decide +kernel)) ggX3_stripOfRow_X3_countCourses
set_option maxRecDepth 20000 in
theorem ggX3_stripOfRow_X3_courseOfRow : GoodIn wsX3_stripOfRow wsX3_courseOfRow := goodIn_r _ [14, 15, 1, 16, 17, 18, 19, 20, 21, 22] (by decide +kernel) (by decide +kernel)
set_option maxRecDepth 20000 in
theorem gX3_stripOfRow_X3_courseOfRow : GoodIn wsX3_stripOfRow (wsV RX3 35 RX3 yX3_courseOfRow wsX3_courseOfRow) := goodIn_app (goodIn_of _ (by decide +kernel)) ggX3_stripOfRow_X3_courseOfRow
theorem dX3_stripOfRow_0 : decode cX3_stripOfRow 0 = .ok (.iload_n 1, 1) := by decide +kernel
theorem dX3_stripOfRow_1 : decode cX3_stripOfRow 1 = .ok (.aload_n 0, 1) := by decide +kernel
theorem dX3_stripOfRow_2 : decode cX3_stripOfRow 2 = .ok (.getfield 18, 3) := by decide +kernel
theorem dX3_stripOfRow_5 : decode cX3_stripOfRow 5 = .ok (.if_icmp .ge 5, 3) := by decide +kernel
theorem dX3_stripOfRow_8 : decode cX3_stripOfRow 8 = .ok (.iload_n 1, 1) := by decide +kernel
theorem dX3_stripOfRow_9 : decode cX3_stripOfRow 9 = .ok (.ireturn, 1) := by decide +kernel
theorem dX3_stripOfRow_10 : decode cX3_stripOfRow 10 = .ok (.iload_n 1, 1) := by decide +kernel
theorem dX3_stripOfRow_11 : decode cX3_stripOfRow 11 = .ok (.aload_n 0, 1) := by decide +kernel
theorem dX3_stripOfRow_12 : decode cX3_stripOfRow 12 = .ok (.invokevirtual 28, 3) := by decide +kernel
theorem dX3_stripOfRow_15 : decode cX3_stripOfRow 15 = .ok (.if_icmp .lt 20, 3) := by decide +kernel
theorem dX3_stripOfRow_18 : decode cX3_stripOfRow 18 = .ok (.aload_n 0, 1) := by decide +kernel
theorem dX3_stripOfRow_19 : decode cX3_stripOfRow 19 = .ok (.getfield 18, 3) := by decide +kernel
theorem dX3_stripOfRow_22 : decode cX3_stripOfRow 22 = .ok (.aload_n 0, 1) := by decide +kernel
theorem dX3_stripOfRow_23 : decode cX3_stripOfRow 23 = .ok (.invokevirtual 39, 3) := by decide +kernel
theorem dX3_stripOfRow_26 : decode cX3_stripOfRow 26 = .ok (.iadd, 1) := by decide +kernel
theorem dX3_stripOfRow_27 : decode cX3_stripOfRow 27 = .ok (.iload_n 1, 1) := by decide +kernel
theorem dX3_stripOfRow_28 : decode cX3_stripOfRow 28 = .ok (.iadd, 1) := by decide +kernel
theorem dX3_stripOfRow_29 : decode cX3_stripOfRow 29 = .ok (.aload_n 0, 1) := by decide +kernel
theorem dX3_stripOfRow_30 : decode cX3_stripOfRow 30 = .ok (.invokevirtual 28, 3) := by decide +kernel
theorem dX3_stripOfRow_33 : decode cX3_stripOfRow 33 = .ok (.isub, 1) := by decide +kernel
theorem dX3_stripOfRow_34 : decode cX3_stripOfRow 34 = .ok (.ireturn, 1) := by decide +kernel
theorem dX3_stripOfRow_35 : decode cX3_stripOfRow 35 = .ok (.aload_n 0, 1) := by decide +kernel
theorem dX3_stripOfRow_36 : decode cX3_stripOfRow 36 = .ok (.getfield 18, 3) := by decide +kernel
theorem dX3_stripOfRow_39 : decode cX3_stripOfRow 39 = .ok (.aload_n 0, 1) := by decide +kernel
theorem dX3_stripOfRow_40 : decode cX3_stripOfRow 40 = .ok (.iload_n 1, 1) := by decide +kernel
theorem dX3_stripOfRow_41 : decode cX3_stripOfRow 41 = .ok (.invokevirtual 35, 3) := by decide +kernel
theorem dX3_stripOfRow_44 : decode cX3_stripOfRow 44 = .ok (.iadd, 1) := by decide +kernel
theorem dX3_stripOfRow_45 : decode cX3_stripOfRow 45 = .ok (.ireturn, 1) := by decide +kernel
set_option maxRecDepth 20000 in
theorem ggX3_frame_X3_isBorder : GoodIn wsX3_frame wsX3_isBorder := goodIn_r _ [16, 2, 17, 18, 19, 15, 20, 21, 22, 23, 24, 41, 42, 43, 44] (by decide +kernel) (by decide +kernel)
set_option maxRecDepth 20000 in
theorem gX3_frame_X3_isBorder : GoodIn wsX3_frame (wsV RX3 45 RX3 yX3_isBorder wsX3_isBorder) := goodIn_app (goodIn_of _ (by decide +kernel)) ggX3_frame_X3_isBorder
set_option maxRecDepth 20000 in
theorem ggX3_frame_X2_set : GoodIn wsX3_frame wsX2_set := goodIn_r _ [29, 30, 31, 32, 33, 45, 46, 47, 48] (by decide +kernel) (by decide +kernel)
set_option maxRecDepth 20000 in
theorem gX3_frame_X2_set : GoodIn wsX3_frame (wsV RX3 49 RX2 yX2_set wsX2_set) := goodIn_app (goodIn_of _ (by decide +kernel)) ggX3_frame_X2_set
set_option maxRecDepth 20000 in
theorem ggX3_frame_X3_courseOfRow : GoodIn wsX3_frame wsX3_courseOfRow := goodIn_r _ [37, 4, 2, 38, 39, 40, 41, 42, 43, 44] (by decide +kernel) (by decide +kernel)
set_option maxRecDepth 20000 in
theorem gX3_frame_X3_courseOfRow : GoodIn wsX3_frame (wsV RX3 35 RX3 yX3_courseOfRow wsX3_courseOfRow) := goodIn_app (goodIn_of _ (by decide +kernel)) ggX3_frame_X3_courseOfRow
set_option maxRecDepth 20000 in
theorem ggX3_frame_X7_timesIn : GoodIn wsX3_frame wsX7_timesIn := goodIn_r _ [40] (by decide +kernel) (by decide +kernel)
set_option maxRecDepth 20000 in
theorem gX3_frame_X7_timesIn_n31 : GoodIn wsX3_frame (wsX7_timesIn) := ggX3_frame_X7_timesIn
set_option maxRecDepth 20000 in
theorem ggX3_frame_X3_rightBorder : GoodIn wsX3_frame wsX3_rightBorder := goodIn_r _ [20, 2, 41, 42, 43, 44] (by decide +kernel) (by decide +kernel)
set_option maxRecDepth 20000 in
theorem gX3_frame_X3_rightBorder : GoodIn wsX3_frame (wsV RX3 24 RX3 yX3_rightBorder wsX3_rightBorder) := goodIn_app (goodIn_of _ (by decide +kernel)) ggX3_frame_X3_rightBorder
set_option maxRecDepth 20000 in
theorem ggX3_frame_X3_lowerBorder : GoodIn wsX3_frame wsX3_lowerBorder := goodIn_r _ [24, 2, 41, 42, 43, 44] (by decide +kernel) (by decide +kernel)
set_option maxRecDepth 20000 in
theorem gX3_frame_X3_lowerBorder : GoodIn wsX3_frame (wsV RX3 28 RX3 yX3_lowerBorder wsX3_lowerBorder) := goodIn_app (goodIn_of _ (by decide +kernel)) ggX3_frame_X3_lowerBorder
theorem dX3_frame_0 : decode cX3_frame 0 = .ok (.aload_n 0, 1) := by decide +kernel
theorem dX3_frame_1 : decode cX3_frame 1 = .ok (.iload_n 1, 1) := by decide +kernel
theorem dX3_frame_2 : decode cX3_frame 2 = .ok (.iload_n 2, 1) := by decide +kernel
theorem dX3_frame_3 : decode cX3_frame 3 = .ok (.invokevirtual 45, 3) := by decide +kernel
theorem dX3_frame_6 : decode cX3_frame 6 = .ok (.ifCond .eq 16, 3) := by decide +kernel
theorem dX3_frame_9 : decode cX3_frame 9 = .ok (.aload_n 3, 1) := by decide +kernel
theorem dX3_frame_10 : decode cX3_frame 10 = .ok (.iload_n 1, 1) := by decide +kernel
theorem dX3_frame_11 : decode cX3_frame 11 = .ok (.iload_n 1, 1) := by decide +kernel
theorem dX3_frame_12 : decode cX3_frame 12 = .ok (.iconst 1, 1) := by decide +kernel
theorem dX3_frame_13 : decode cX3_frame 13 = .ok (.iadd, 1) := by decide +kernel
theorem dX3_frame_14 : decode cX3_frame 14 = .ok (.iload_n 2, 1) := by decide +kernel
theorem dX3_frame_15 : decode cX3_frame 15 = .ok (.iload_n 2, 1) := by decide +kernel
theorem dX3_frame_16 : decode cX3_frame 16 = .ok (.iconst 1, 1) := by decide +kernel
theorem dX3_frame_17 : decode cX3_frame 17 = .ok (.iadd, 1) := by decide +kernel
theorem dX3_frame_18 : decode cX3_frame 18 = .ok (.invokevirtual 49, 3) := by decide +kernel
theorem dX3_frame_21 : decode cX3_frame 21 = .ok (.return_, 1) := by decide +kernel
theorem dX3_frame_22 : decode cX3_frame 22 = .ok (.aload_n 0, 1) := by decide +kernel
theorem dX3_frame_23 : decode cX3_frame 23 = .ok (.iload_n 2, 1) := by decide +kernel
theorem dX3_frame_24 : decode cX3_frame 24 = .ok (.invokevirtual 35, 3) := by decide +kernel
theorem dX3_frame_27 : decode cX3_frame 27 = .ok (.istore 4, 2) := by decide +kernel
theorem dX3_frame_29 : decode cX3_frame 29 = .ok (.aload_n 0, 1) := by decide +kernel
theorem dX3_frame_30 : decode cX3_frame 30 = .ok (.getfield 21, 3) := by decide +kernel
theorem dX3_frame_33 : decode cX3_frame 33 = .ok (.iconst 1, 1) := by decide +kernel
theorem dX3_frame_34 : decode cX3_frame 34 = .ok (.if_icmp .ne 15, 3) := by decide +kernel
theorem dX3_frame_37 : decode cX3_frame 37 = .ok (.iload 4, 2) := by decide +kernel
theorem dX3_frame_39 : decode cX3_frame 39 = .ok (.iconst 1, 1) := by decide +kernel
theorem dX3_frame_40 : decode cX3_frame 40 = .ok (.iand, 1) := by decide +kernel
theorem dX3_frame_41 : decode cX3_frame 41 = .ok (.iconst 1, 1) := by decide +kernel
theorem dX3_frame_42 : decode cX3_frame 42 = .ok (.if_icmp .ne 7, 3) := by decide +kernel
theorem dX3_frame_45 : decode cX3_frame 45 = .ok (.iconst 1, 1) := by decide +kernel
theorem dX3_frame_46 : decode cX3_frame 46 = .ok (.goto 4, 3) := by decide +kernel
theorem dX3_frame_49 : decode cX3_frame 49 = .ok (.iconst 0, 1) := by decide +kernel
theorem dX3_frame_50 : decode cX3_frame 50 = .ok (.istore 5, 2) := by decide +kernel
theorem dX3_frame_52 : decode cX3_frame 52 = .ok (.aload_n 0, 1) := by decide +kernel
theorem dX3_frame_53 : decode cX3_frame 53 = .ok (.getfield 18, 3) := by decide +kernel
theorem dX3_frame_56 : decode cX3_frame 56 = .ok (.iload 5, 2) := by decide +kernel
theorem dX3_frame_58 : decode cX3_frame 58 = .ok (.ifCond .eq 12, 3) := by decide +kernel
theorem dX3_frame_61 : decode cX3_frame 61 = .ok (.aload_n 0, 1) := by decide +kernel
theorem dX3_frame_62 : decode cX3_frame 62 = .ok (.getfield 9, 3) := by decide +kernel
theorem dX3_frame_65 : decode cX3_frame 65 = .ok (.iconst 1, 1) := by decide +kernel
theorem dX3_frame_66 : decode cX3_frame 66 = .ok (.ishr, 1) := by decide +kernel
theorem dX3_frame_67 : decode cX3_frame 67 = .ok (.goto 4, 3) := by decide +kernel
theorem dX3_frame_70 : decode cX3_frame 70 = .ok (.iconst 0, 1) := by decide +kernel
theorem dX3_frame_71 : decode cX3_frame 71 = .ok (.isub, 1) := by decide +kernel
theorem dX3_frame_72 : decode cX3_frame 72 = .ok (.istore 6, 2) := by decide +kernel
theorem dX3_frame_74 : decode cX3_frame 74 = .ok (.iload 6, 2) := by decide +kernel
theorem dX3_frame_76 : decode cX3_frame 76 = .ok (.aload_n 0, 1) := by decide +kernel
theorem dX3_frame_77 : decode cX3_frame 77 = .ok (.getfield 9, 3) := by decide +kernel
theorem dX3_frame_80 : decode cX3_frame 80 = .ok (.iload_n 1, 1) := by decide +kernel
theorem dX3_frame_81 : decode cX3_frame 81 = .ok (.iload 6, 2) := by decide +kernel
theorem dX3_frame_83 : decode cX3_frame 83 = .ok (.isub, 1) := by decide +kernel
theorem dX3_frame_84 : decode cX3_frame 84 = .ok (.invokestatic 31, 3) := by decide +kernel
theorem dX3_frame_87 : decode cX3_frame 87 = .ok (.aload_n 0, 1) := by decide +kernel
theorem dX3_frame_88 : decode cX3_frame 88 = .ok (.getfield 9, 3) := by decide +kernel
theorem dX3_frame_91 : decode cX3_frame 91 = .ok (.imul, 1) := by decide +kernel
theorem dX3_frame_92 : decode cX3_frame 92 = .ok (.iadd, 1) := by decide +kernel
theorem dX3_frame_93 : decode cX3_frame 93 = .ok (.istore 7, 2) := by decide +kernel
theorem dX3_frame_95 : decode cX3_frame 95 = .ok (.aload_n 0, 1) := by decide +kernel
theorem dX3_frame_96 : decode cX3_frame 96 = .ok (.getfield 18, 3) := by decide +kernel
theorem dX3_frame_99 : decode cX3_frame 99 = .ok (.iload 4, 2) := by decide +kernel
theorem dX3_frame_101 : decode cX3_frame 101 = .ok (.aload_n 0, 1) := by decide +kernel
theorem dX3_frame_102 : decode cX3_frame 102 = .ok (.getfield 15, 3) := by decide +kernel
theorem dX3_frame_105 : decode cX3_frame 105 = .ok (.imul, 1) := by decide +kernel
theorem dX3_frame_106 : decode cX3_frame 106 = .ok (.iadd, 1) := by decide +kernel
theorem dX3_frame_107 : decode cX3_frame 107 = .ok (.istore 8, 2) := by decide +kernel
theorem dX3_frame_109 : decode cX3_frame 109 = .ok (.aload_n 3, 1) := by decide +kernel
theorem dX3_frame_110 : decode cX3_frame 110 = .ok (.iload 7, 2) := by decide +kernel
theorem dX3_frame_112 : decode cX3_frame 112 = .ok (.aload_n 0, 1) := by decide +kernel
theorem dX3_frame_113 : decode cX3_frame 113 = .ok (.getfield 18, 3) := by decide +kernel
theorem dX3_frame_116 : decode cX3_frame 116 = .ok (.invokestatic 55, 3) := by decide +kernel
theorem dX3_frame_119 : decode cX3_frame 119 = .ok (.iload 7, 2) := by decide +kernel
theorem dX3_frame_121 : decode cX3_frame 121 = .ok (.aload_n 0, 1) := by decide +kernel
theorem dX3_frame_122 : decode cX3_frame 122 = .ok (.getfield 9, 3) := by decide +kernel
theorem dX3_frame_125 : decode cX3_frame 125 = .ok (.iadd, 1) := by decide +kernel
theorem dX3_frame_126 : decode cX3_frame 126 = .ok (.aload_n 0, 1) := by decide +kernel
theorem dX3_frame_127 : decode cX3_frame 127 = .ok (.invokevirtual 24, 3) := by decide +kernel
theorem dX3_frame_130 : decode cX3_frame 130 = .ok (.invokestatic 60, 3) := by decide +kernel
theorem dX3_frame_133 : decode cX3_frame 133 = .ok (.iload 8, 2) := by decide +kernel
theorem dX3_frame_135 : decode cX3_frame 135 = .ok (.iload 8, 2) := by decide +kernel
theorem dX3_frame_137 : decode cX3_frame 137 = .ok (.aload_n 0, 1) := by decide +kernel
theorem dX3_frame_138 : decode cX3_frame 138 = .ok (.getfield 15, 3) := by decide +kernel
theorem dX3_frame_141 : decode cX3_frame 141 = .ok (.iadd, 1) := by decide +kernel
theorem dX3_frame_142 : decode cX3_frame 142 = .ok (.aload_n 0, 1) := by decide +kernel
theorem dX3_frame_143 : decode cX3_frame 143 = .ok (.invokevirtual 28, 3) := by decide +kernel
theorem dX3_frame_146 : decode cX3_frame 146 = .ok (.invokestatic 60, 3) := by decide +kernel
theorem dX3_frame_149 : decode cX3_frame 149 = .ok (.invokevirtual 49, 3) := by decide +kernel
theorem dX3_frame_152 : decode cX3_frame 152 = .ok (.return_, 1) := by decide +kernel
set_option maxRecDepth 20000 in
theorem ggX4_init_X2_init : GoodIn wsX4_init wsX2_init := goodIn_r _ [18, 19, 2, 3, 20, 21, 22, 23, 33, 34, 35, 36] (by decide +kernel) (by decide +kernel)
set_option maxRecDepth 20000 in
theorem gX4_init_X2_init_n39 : GoodIn wsX4_init (wsX2_init) := ggX4_init_X2_init
theorem dX4_init_0 : decode cX4_init 0 = .ok (.aload_n 0, 1) := by decide +kernel
theorem dX4_init_1 : decode cX4_init 1 = .ok (.invokespecial 3, 3) := by decide +kernel
theorem dX4_init_4 : decode cX4_init 4 = .ok (.aload_n 0, 1) := by decide +kernel
theorem dX4_init_5 : decode cX4_init 5 = .ok (.iconst 0, 1) := by decide +kernel
theorem dX4_init_6 : decode cX4_init 6 = .ok (.putfield 9, 3) := by decide +kernel
theorem dX4_init_9 : decode cX4_init 9 = .ok (.aload_n 0, 1) := by decide +kernel
theorem dX4_init_10 : decode cX4_init 10 = .ok (.bipush 96, 2) := by decide +kernel
theorem dX4_init_12 : decode cX4_init 12 = .ok (.newarray .int, 2) := by decide +kernel
theorem dX4_init_14 : decode cX4_init 14 = .ok (.putfield 15, 3) := by decide +kernel
theorem dX4_init_17 : decode cX4_init 17 = .ok (.aload_n 0, 1) := by decide +kernel
theorem dX4_init_18 : decode cX4_init 18 = .ok (.bipush 96, 2) := by decide +kernel
theorem dX4_init_20 : decode cX4_init 20 = .ok (.newarray .int, 2) := by decide +kernel
theorem dX4_init_22 : decode cX4_init 22 = .ok (.putfield 19, 3) := by decide +kernel
theorem dX4_init_25 : decode cX4_init 25 = .ok (.aload_n 0, 1) := by decide +kernel
theorem dX4_init_26 : decode cX4_init 26 = .ok (.bipush 96, 2) := by decide +kernel
theorem dX4_init_28 : decode cX4_init 28 = .ok (.newarray .int, 2) := by decide +kernel
theorem dX4_init_30 : decode cX4_init 30 = .ok (.putfield 22, 3) := by decide +kernel
theorem dX4_init_33 : decode cX4_init 33 = .ok (.aload_n 0, 1) := by decide +kernel
theorem dX4_init_34 : decode cX4_init 34 = .ok (.bipush 96, 2) := by decide +kernel
theorem dX4_init_36 : decode cX4_init 36 = .ok (.newarray .int, 2) := by decide +kernel
theorem dX4_init_38 : decode cX4_init 38 = .ok (.putfield 25, 3) := by decide +kernel
theorem dX4_init_41 : decode cX4_init 41 = .ok (.aload_n 0, 1) := by decide +kernel
theorem dX4_init_42 : decode cX4_init 42 = .ok (.bipush 96, 2) := by decide +kernel
theorem dX4_init_44 : decode cX4_init 44 = .ok (.newarray .int, 2) := by decide +kernel
theorem dX4_init_46 : decode cX4_init 46 = .ok (.putfield 28, 3) := by decide +kernel
theorem dX4_init_49 : decode cX4_init 49 = .ok (.aload_n 0, 1) := by decide +kernel
theorem dX4_init_50 : decode cX4_init 50 = .ok (.bipush 96, 2) := by decide +kernel
theorem dX4_init_52 : decode cX4_init 52 = .ok (.newarray .int, 2) := by decide +kernel
theorem dX4_init_54 : decode cX4_init 54 = .ok (.putfield 31, 3) := by decide +kernel
theorem dX4_init_57 : decode cX4_init 57 = .ok (.aload_n 0, 1) := by decide +kernel
theorem dX4_init_58 : decode cX4_init 58 = .ok (.bipush 96, 2) := by decide +kernel
theorem dX4_init_60 : decode cX4_init 60 = .ok (.newarray .int, 2) := by decide +kernel
theorem dX4_init_62 : decode cX4_init 62 = .ok (.putfield 34, 3) := by decide +kernel
theorem dX4_init_65 : decode cX4_init 65 = .ok (.aload_n 0, 1) := by decide +kernel
theorem dX4_init_66 : decode cX4_init 66 = .ok (.new 37, 3) := by decide +kernel
theorem dX4_init_69 : decode cX4_init 69 = .ok (.dup, 1) := by decide +kernel
theorem dX4_init_70 : decode cX4_init 70 = .ok (.invokespecial 39, 3) := by decide +kernel
theorem dX4_init_73 : decode cX4_init 73 = .ok (.putfield 40, 3) := by decide +kernel
theorem dX4_init_76 : decode cX4_init 76 = .ok (.return_, 1) := by decide +kernel
theorem dX4_has_0 : decode cX4_has 0 = .ok (.iload_n 1, 1) := by decide +kernel
theorem dX4_has_1 : decode cX4_has 1 = .ok (.ifCond .lt 21, 3) := by decide +kernel
theorem dX4_has_4 : decode cX4_has 4 = .ok (.iload_n 1, 1) := by decide +kernel
theorem dX4_has_5 : decode cX4_has 5 = .ok (.aload_n 0, 1) := by decide +kernel
theorem dX4_has_6 : decode cX4_has 6 = .ok (.getfield 9, 3) := by decide +kernel
theorem dX4_has_9 : decode cX4_has 9 = .ok (.if_icmp .ge 13, 3) := by decide +kernel
theorem dX4_has_12 : decode cX4_has 12 = .ok (.iload_n 1, 1) := by decide +kernel
theorem dX4_has_13 : decode cX4_has 13 = .ok (.bipush 96, 2) := by decide +kernel
theorem dX4_has_15 : decode cX4_has 15 = .ok (.if_icmp .ge 7, 3) := by decide +kernel
theorem dX4_has_18 : decode cX4_has 18 = .ok (.iconst 1, 1) := by decide +kernel
theorem dX4_has_19 : decode cX4_has 19 = .ok (.goto 4, 3) := by decide +kernel
theorem dX4_has_22 : decode cX4_has 22 = .ok (.iconst 0, 1) := by decide +kernel
theorem dX4_has_23 : decode cX4_has 23 = .ok (.ireturn, 1) := by decide +kernel
set_option maxRecDepth 20000 in
theorem ggX4_find_J7_fill_53178 : GoodIn wsX4_find wsJ7_fill_53178 := goodIn_r _ [6] (by decide +kernel) (by decide +kernel)
set_option maxRecDepth 20000 in
theorem gX4_find_J7_fill_53178 : GoodIn wsX4_find (va_wsS RX4 44 yJ7_fill_53178 wsJ7_fill_53178) := goodIn_app (goodIn_of _ (by decide +kernel)) ggX4_find_J7_fill_53178
set_option maxRecDepth 20000 in
theorem ggX4_find_X7_cellAt : GoodIn wsX4_find wsX7_cellAt := goodIn_r _ [9] (by decide +kernel) (by decide +kernel)
set_option maxRecDepth 20000 in
theorem gX4_find_X7_cellAt_n50 : GoodIn wsX4_find (wsX7_cellAt) := ggX4_find_X7_cellAt
set_option maxRecDepth 20000 in
theorem ggX4_find_X0_areAt : GoodIn wsX4_find wsX0_areAt := goodIn_r _ [14, 15, 16, 8, 17, 7, 9, 99, 100, 101] (by decide +kernel) (by decide +kernel)
set_option maxRecDepth 20000 in
theorem gX4_find_X0_areAt : GoodIn wsX4_find (wsV RX4 54 RX0 yX0_areAt wsX0_areAt) := goodIn_app (goodIn_of _ (by decide +kernel)) ggX4_find_X0_areAt
set_option maxRecDepth 20000 in
theorem ggX4_find_X4_add : GoodIn wsX4_find wsX4_add := goodIn_r _ [22, 1, 23, 24, 25, 26, 27, 28, 29, 30, 31, 32, 21, 33, 34, 35, 36, 37, 38, 39, 40, 41, 42, 43, 44, 45, 46, 47, 48, 49, 50, 51, 52, 53, 54, 55, 56, 57, 58, 59, 60, 61, 62, 63, 64, 65, 66, 67, 68, 69, 70, 71, 72, 73, 74, 75, 8, 76, 77, 78, 79, 80, 81, 82, 83, 84, 2, 85, 86, 87, 88, 16, 17, 10, 11, 12, 13, 14, 15, 7, 9, 89, 90, 91, 92, 93, 94, 95, 96, 97, 98, 102, 103, 104, 105, 106, 107, 108, 109, 99, 100, 101] (by decide +kernel) (by decide +kernel)
set_option maxRecDepth 20000 in
theorem gX4_find_X4_add : GoodIn wsX4_find (wsV RX4 60 RX4 yX4_add wsX4_add) := goodIn_app (goodIn_of _ (by decide +kernel)) ggX4_find_X4_add
theorem dX4_find_0 : decode cX4_find 0 = .ok (.aload_n 0, 1) := by decide +kernel
theorem dX4_find_1 : decode cX4_find 1 = .ok (.iconst 0, 1) := by decide +kernel
theorem dX4_find_2 : decode cX4_find 2 = .ok (.putfield 9, 3) := by decide +kernel
theorem dX4_find_5 : decode cX4_find 5 = .ok (.aload_n 0, 1) := by decide +kernel
theorem dX4_find_6 : decode cX4_find 6 = .ok (.getfield 15, 3) := by decide +kernel
theorem dX4_find_9 : decode cX4_find 9 = .ok (.iconst (-1), 1) := by decide +kernel
theorem dX4_find_10 : decode cX4_find 10 = .ok (.invokestatic 44, 3) := by decide +kernel
theorem dX4_find_13 : decode cX4_find 13 = .ok (.iconst 0, 1) := by decide +kernel
theorem dX4_find_14 : decode cX4_find 14 = .ok (.istore_n 3, 1) := by decide +kernel
theorem dX4_find_15 : decode cX4_find 15 = .ok (.iload_n 3, 1) := by decide +kernel
theorem dX4_find_16 : decode cX4_find 16 = .ok (.bipush 8, 2) := by decide +kernel
theorem dX4_find_18 : decode cX4_find 18 = .ok (.if_icmp .ge 80, 3) := by decide +kernel
theorem dX4_find_21 : decode cX4_find 21 = .ok (.iconst 0, 1) := by decide +kernel
theorem dX4_find_22 : decode cX4_find 22 = .ok (.istore 4, 2) := by decide +kernel
theorem dX4_find_24 : decode cX4_find 24 = .ok (.iload 4, 2) := by decide +kernel
theorem dX4_find_26 : decode cX4_find 26 = .ok (.bipush 12, 2) := by decide +kernel
theorem dX4_find_28 : decode cX4_find 28 = .ok (.if_icmp .ge 64, 3) := by decide +kernel
theorem dX4_find_31 : decode cX4_find 31 = .ok (.aload_n 0, 1) := by decide +kernel
theorem dX4_find_32 : decode cX4_find 32 = .ok (.getfield 15, 3) := by decide +kernel
theorem dX4_find_35 : decode cX4_find 35 = .ok (.iload 4, 2) := by decide +kernel
theorem dX4_find_37 : decode cX4_find 37 = .ok (.iload_n 3, 1) := by decide +kernel
theorem dX4_find_38 : decode cX4_find 38 = .ok (.invokestatic 50, 3) := by decide +kernel
theorem dX4_find_41 : decode cX4_find 41 = .ok (.iaload, 1) := by decide +kernel
theorem dX4_find_42 : decode cX4_find 42 = .ok (.iconst (-1), 1) := by decide +kernel
theorem dX4_find_43 : decode cX4_find 43 = .ok (.if_icmp .ne 17, 3) := by decide +kernel
theorem dX4_find_46 : decode cX4_find 46 = .ok (.aload_n 2, 1) := by decide +kernel
theorem dX4_find_47 : decode cX4_find 47 = .ok (.iload 4, 2) := by decide +kernel
theorem dX4_find_49 : decode cX4_find 49 = .ok (.iload_n 3, 1) := by decide +kernel
theorem dX4_find_50 : decode cX4_find 50 = .ok (.invokevirtual 54, 3) := by decide +kernel
theorem dX4_find_53 : decode cX4_find 53 = .ok (.ifCond .ne 7, 3) := by decide +kernel
theorem dX4_find_56 : decode cX4_find 56 = .ok (.iconst 1, 1) := by decide +kernel
theorem dX4_find_57 : decode cX4_find 57 = .ok (.goto 4, 3) := by decide +kernel
theorem dX4_find_60 : decode cX4_find 60 = .ok (.iconst 0, 1) := by decide +kernel
theorem dX4_find_61 : decode cX4_find 61 = .ok (.istore 5, 2) := by decide +kernel
theorem dX4_find_63 : decode cX4_find 63 = .ok (.iload 5, 2) := by decide +kernel
theorem dX4_find_65 : decode cX4_find 65 = .ok (.ifCond .eq 21, 3) := by decide +kernel
theorem dX4_find_68 : decode cX4_find 68 = .ok (.aload_n 0, 1) := by decide +kernel
theorem dX4_find_69 : decode cX4_find 69 = .ok (.getfield 9, 3) := by decide +kernel
theorem dX4_find_72 : decode cX4_find 72 = .ok (.bipush 96, 2) := by decide +kernel
theorem dX4_find_74 : decode cX4_find 74 = .ok (.if_icmp .ge 12, 3) := by decide +kernel
theorem dX4_find_77 : decode cX4_find 77 = .ok (.aload_n 0, 1) := by decide +kernel
theorem dX4_find_78 : decode cX4_find 78 = .ok (.aload_n 1, 1) := by decide +kernel
theorem dX4_find_79 : decode cX4_find 79 = .ok (.aload_n 2, 1) := by decide +kernel
theorem dX4_find_80 : decode cX4_find 80 = .ok (.iload 4, 2) := by decide +kernel
theorem dX4_find_82 : decode cX4_find 82 = .ok (.iload_n 3, 1) := by decide +kernel
theorem dX4_find_83 : decode cX4_find 83 = .ok (.invokevirtual 60, 3) := by decide +kernel
theorem dX4_find_86 : decode cX4_find 86 = .ok (.iinc 4 1, 3) := by decide +kernel
theorem dX4_find_89 : decode cX4_find 89 = .ok (.goto (-65), 3) := by decide +kernel
theorem dX4_find_92 : decode cX4_find 92 = .ok (.iinc 3 1, 3) := by decide +kernel
theorem dX4_find_95 : decode cX4_find 95 = .ok (.goto (-80), 3) := by decide +kernel
theorem dX4_find_98 : decode cX4_find 98 = .ok (.return_, 1) := by decide +kernel
set_option maxRecDepth 20000 in
theorem ggX4_add_X4_has : GoodIn wsX4_add wsX4_has := goodIn_r _ [13, 1, 82, 83, 84, 85, 86, 87, 88, 89, 90] (by decide +kernel) (by decide +kernel)
set_option maxRecDepth 20000 in
theorem gX4_add_X4_has : GoodIn wsX4_add (wsV RX4 64 RX4 yX4_has wsX4_has) := goodIn_app (goodIn_of _ (by decide +kernel)) ggX4_add_X4_has
set_option maxRecDepth 20000 in
theorem ggX4_add_X3_frame : GoodIn wsX4_add wsX3_frame := goodIn_r _ [18, 19, 20, 21, 22, 23, 24, 25, 26, 27, 28, 29, 30, 31, 32, 17, 33, 34, 35, 36, 37, 38, 39, 40, 41, 42, 43, 44, 45, 46, 47, 48, 49, 50, 51, 52, 53, 54, 55, 56, 57, 91, 92, 93, 94, 95, 96, 97, 98] (by decide +kernel) (by decide +kernel)
set_option maxRecDepth 20000 in
theorem gX4_add_X3_frame : GoodIn wsX4_add (wsV RX4 68 RX3 yX3_frame wsX3_frame) := goodIn_app (goodIn_of _ (by decide +kernel)) ggX4_add_X3_frame
set_option maxRecDepth 20000 in
theorem ggX4_add_X4_measure : GoodIn wsX4_add wsX4_measure := goodIn_r _ [61, 4, 62, 63, 64, 3, 65, 66, 67, 28, 25, 29, 68, 24, 26, 6, 69, 70, 9, 10, 11, 12, 13, 1, 71, 56, 72, 73, 74, 75, 76, 77, 78, 79, 80, 82, 83, 84, 85, 86, 87, 88, 89, 90, 95, 96, 97, 98, 99, 100, 101] (by decide +kernel) (by decide +kernel)
set_option maxRecDepth 20000 in
theorem gX4_add_X4_measure : GoodIn wsX4_add (wsV RX4 73 RX4 yX4_measure wsX4_measure) := goodIn_app (goodIn_of _ (by decide +kernel)) ggX4_add_X4_measure
set_option maxRecDepth 20000 in
theorem ggX4_add_X3_isBorder : GoodIn wsX4_add wsX3_isBorder := goodIn_r _ [33, 20, 34, 35, 36, 17, 37, 38, 39, 40, 41, 91, 92, 93, 94] (by decide +kernel) (by decide +kernel)
set_option maxRecDepth 20000 in
theorem gX4_add_X3_isBorder : GoodIn wsX4_add (wsV RX4 77 RX3 yX3_isBorder wsX3_isBorder) := goodIn_app (goodIn_of _ (by decide +kernel)) ggX4_add_X3_isBorder
theorem dX4_add_0 : decode cX4_add 0 = .ok (.aload_n 0, 1) := by decide +kernel
theorem dX4_add_1 : decode cX4_add 1 = .ok (.dup, 1) := by decide +kernel
theorem dX4_add_2 : decode cX4_add 2 = .ok (.getfield 9, 3) := by decide +kernel
theorem dX4_add_5 : decode cX4_add 5 = .ok (.dup_x1, 1) := by decide +kernel
theorem dX4_add_6 : decode cX4_add 6 = .ok (.iconst 1, 1) := by decide +kernel
theorem dX4_add_7 : decode cX4_add 7 = .ok (.iadd, 1) := by decide +kernel
theorem dX4_add_8 : decode cX4_add 8 = .ok (.putfield 9, 3) := by decide +kernel
theorem dX4_add_11 : decode cX4_add 11 = .ok (.istore 5, 2) := by decide +kernel
theorem dX4_add_13 : decode cX4_add 13 = .ok (.aload_n 0, 1) := by decide +kernel
theorem dX4_add_14 : decode cX4_add 14 = .ok (.iload 5, 2) := by decide +kernel
theorem dX4_add_16 : decode cX4_add 16 = .ok (.invokevirtual 64, 3) := by decide +kernel
theorem dX4_add_19 : decode cX4_add 19 = .ok (.ifCond .ne 4, 3) := by decide +kernel
theorem dX4_add_22 : decode cX4_add 22 = .ok (.return_, 1) := by decide +kernel
theorem dX4_add_23 : decode cX4_add 23 = .ok (.aload_n 0, 1) := by decide +kernel
theorem dX4_add_24 : decode cX4_add 24 = .ok (.getfield 22, 3) := by decide +kernel
theorem dX4_add_27 : decode cX4_add 27 = .ok (.iload 5, 2) := by decide +kernel
theorem dX4_add_29 : decode cX4_add 29 = .ok (.iload_n 3, 1) := by decide +kernel
theorem dX4_add_30 : decode cX4_add 30 = .ok (.iastore, 1) := by decide +kernel
theorem dX4_add_31 : decode cX4_add 31 = .ok (.aload_n 0, 1) := by decide +kernel
theorem dX4_add_32 : decode cX4_add 32 = .ok (.getfield 25, 3) := by decide +kernel
theorem dX4_add_35 : decode cX4_add 35 = .ok (.iload 5, 2) := by decide +kernel
theorem dX4_add_37 : decode cX4_add 37 = .ok (.iload 4, 2) := by decide +kernel
theorem dX4_add_39 : decode cX4_add 39 = .ok (.iastore, 1) := by decide +kernel
theorem dX4_add_40 : decode cX4_add 40 = .ok (.aload_n 1, 1) := by decide +kernel
theorem dX4_add_41 : decode cX4_add 41 = .ok (.iload_n 3, 1) := by decide +kernel
theorem dX4_add_42 : decode cX4_add 42 = .ok (.iload 4, 2) := by decide +kernel
theorem dX4_add_44 : decode cX4_add 44 = .ok (.aload_n 0, 1) := by decide +kernel
theorem dX4_add_45 : decode cX4_add 45 = .ok (.getfield 40, 3) := by decide +kernel
theorem dX4_add_48 : decode cX4_add 48 = .ok (.invokevirtual 68, 3) := by decide +kernel
theorem dX4_add_51 : decode cX4_add 51 = .ok (.aload_n 0, 1) := by decide +kernel
theorem dX4_add_52 : decode cX4_add 52 = .ok (.aload_n 2, 1) := by decide +kernel
theorem dX4_add_53 : decode cX4_add 53 = .ok (.iload 5, 2) := by decide +kernel
theorem dX4_add_55 : decode cX4_add 55 = .ok (.invokevirtual 73, 3) := by decide +kernel
theorem dX4_add_58 : decode cX4_add 58 = .ok (.aload_n 1, 1) := by decide +kernel
theorem dX4_add_59 : decode cX4_add 59 = .ok (.iload_n 3, 1) := by decide +kernel
theorem dX4_add_60 : decode cX4_add 60 = .ok (.iload 4, 2) := by decide +kernel
theorem dX4_add_62 : decode cX4_add 62 = .ok (.invokevirtual 77, 3) := by decide +kernel
theorem dX4_add_65 : decode cX4_add 65 = .ok (.ifCond .eq 14, 3) := by decide +kernel
theorem dX4_add_68 : decode cX4_add 68 = .ok (.aload_n 0, 1) := by decide +kernel
theorem dX4_add_69 : decode cX4_add 69 = .ok (.getfield 19, 3) := by decide +kernel
theorem dX4_add_72 : decode cX4_add 72 = .ok (.iload 5, 2) := by decide +kernel
theorem dX4_add_74 : decode cX4_add 74 = .ok (.iconst 2, 1) := by decide +kernel
theorem dX4_add_75 : decode cX4_add 75 = .ok (.iastore, 1) := by decide +kernel
theorem dX4_add_76 : decode cX4_add 76 = .ok (.goto 34, 3) := by decide +kernel
theorem dX4_add_79 : decode cX4_add 79 = .ok (.aload_n 0, 1) := by decide +kernel
theorem dX4_add_80 : decode cX4_add 80 = .ok (.getfield 19, 3) := by decide +kernel
theorem dX4_add_83 : decode cX4_add 83 = .ok (.iload 5, 2) := by decide +kernel
theorem dX4_add_85 : decode cX4_add 85 = .ok (.aload_n 0, 1) := by decide +kernel
theorem dX4_add_86 : decode cX4_add 86 = .ok (.getfield 28, 3) := by decide +kernel
theorem dX4_add_89 : decode cX4_add 89 = .ok (.iload 5, 2) := by decide +kernel
theorem dX4_add_91 : decode cX4_add 91 = .ok (.iaload, 1) := by decide +kernel
theorem dX4_add_92 : decode cX4_add 92 = .ok (.aload_n 1, 1) := by decide +kernel
theorem dX4_add_93 : decode cX4_add 93 = .ok (.getfield 80, 3) := by decide +kernel
theorem dX4_add_96 : decode cX4_add 96 = .ok (.aload_n 1, 1) := by decide +kernel
theorem dX4_add_97 : decode cX4_add 97 = .ok (.getfield 83, 3) := by decide +kernel
theorem dX4_add_100 : decode cX4_add 100 = .ok (.imul, 1) := by decide +kernel
theorem dX4_add_101 : decode cX4_add 101 = .ok (.if_icmp .ne 7, 3) := by decide +kernel
theorem dX4_add_104 : decode cX4_add 104 = .ok (.iconst 0, 1) := by decide +kernel
theorem dX4_add_105 : decode cX4_add 105 = .ok (.goto 4, 3) := by decide +kernel
theorem dX4_add_108 : decode cX4_add 108 = .ok (.iconst 1, 1) := by decide +kernel
theorem dX4_add_109 : decode cX4_add 109 = .ok (.iastore, 1) := by decide +kernel
theorem dX4_add_110 : decode cX4_add 110 = .ok (.return_, 1) := by decide +kernel
set_option maxRecDepth 20000 in
theorem ggX4_measure_X4_has : GoodIn wsX4_measure wsX4_has := goodIn_r _ [22, 23, 35, 36, 37, 38, 39, 40, 41, 42, 43] (by decide +kernel) (by decide +kernel)
set_option maxRecDepth 20000 in
theorem gX4_measure_X4_has : GoodIn wsX4_measure (wsV RX4 64 RX4 yX4_has wsX4_has) := goodIn_app (goodIn_of _ (by decide +kernel)) ggX4_measure_X4_has
set_option maxRecDepth 20000 in
theorem ggX4_measure_X7_isCell : GoodIn wsX4_measure wsX7_isCell := goodIn_r _ [26] (by decide +kernel) (by decide +kernel)
set_option maxRecDepth 20000 in
theorem gX4_measure_X7_isCell_n98 : GoodIn wsX4_measure (wsX7_isCell) := ggX4_measure_X7_isCell
set_option maxRecDepth 20000 in
theorem ggX4_measure_X0_areAt : GoodIn wsX4_measure wsX0_areAt := goodIn_r _ [31, 32, 24, 25, 26, 33, 34, 48, 49, 50] (by decide +kernel) (by decide +kernel)
set_option maxRecDepth 20000 in
theorem gX4_measure_X0_areAt : GoodIn wsX4_measure (wsV RX4 54 RX0 yX0_areAt wsX0_areAt) := goodIn_app (goodIn_of _ (by decide +kernel)) ggX4_measure_X0_areAt
set_option maxRecDepth 20000 in
theorem ggX4_measure_X7_cellAt : GoodIn wsX4_measure wsX7_cellAt := goodIn_r _ [34] (by decide +kernel) (by decide +kernel)
set_option maxRecDepth 20000 in
theorem gX4_measure_X7_cellAt_n50 : GoodIn wsX4_measure (wsX7_cellAt) := ggX4_measure_X7_cellAt
theorem dX4_measure_0 : decode cX4_measure 0 = .ok (.aload_n 0, 1) := by decide +kernel
theorem dX4_measure_1 : decode cX4_measure 1 = .ok (.iload_n 2, 1) := by decide +kernel
theorem dX4_measure_2 : decode cX4_measure 2 = .ok (.invokevirtual 64, 3) := by decide +kernel
theorem dX4_measure_5 : decode cX4_measure 5 = .ok (.ifCond .ne 4, 3) := by decide +kernel
theorem dX4_measure_8 : decode cX4_measure 8 = .ok (.return_, 1) := by decide +kernel
theorem dX4_measure_9 : decode cX4_measure 9 = .ok (.iconst 0, 1) := by decide +kernel
theorem dX4_measure_10 : decode cX4_measure 10 = .ok (.istore_n 3, 1) := by decide +kernel
theorem dX4_measure_11 : decode cX4_measure 11 = .ok (.aload_n 0, 1) := by decide +kernel
theorem dX4_measure_12 : decode cX4_measure 12 = .ok (.getfield 40, 3) := by decide +kernel
theorem dX4_measure_15 : decode cX4_measure 15 = .ok (.getfield 86, 3) := by decide +kernel
theorem dX4_measure_18 : decode cX4_measure 18 = .ok (.istore 4, 2) := by decide +kernel
theorem dX4_measure_20 : decode cX4_measure 20 = .ok (.aload_n 0, 1) := by decide +kernel
theorem dX4_measure_21 : decode cX4_measure 21 = .ok (.getfield 40, 3) := by decide +kernel
theorem dX4_measure_24 : decode cX4_measure 24 = .ok (.getfield 89, 3) := by decide +kernel
theorem dX4_measure_27 : decode cX4_measure 27 = .ok (.istore 5, 2) := by decide +kernel
theorem dX4_measure_29 : decode cX4_measure 29 = .ok (.aload_n 0, 1) := by decide +kernel
theorem dX4_measure_30 : decode cX4_measure 30 = .ok (.getfield 40, 3) := by decide +kernel
theorem dX4_measure_33 : decode cX4_measure 33 = .ok (.getfield 92, 3) := by decide +kernel
theorem dX4_measure_36 : decode cX4_measure 36 = .ok (.istore 6, 2) := by decide +kernel
theorem dX4_measure_38 : decode cX4_measure 38 = .ok (.aload_n 0, 1) := by decide +kernel
theorem dX4_measure_39 : decode cX4_measure 39 = .ok (.getfield 25, 3) := by decide +kernel
theorem dX4_measure_42 : decode cX4_measure 42 = .ok (.iload_n 2, 1) := by decide +kernel
theorem dX4_measure_43 : decode cX4_measure 43 = .ok (.iaload, 1) := by decide +kernel
theorem dX4_measure_44 : decode cX4_measure 44 = .ok (.istore 7, 2) := by decide +kernel
theorem dX4_measure_46 : decode cX4_measure 46 = .ok (.iload 7, 2) := by decide +kernel
theorem dX4_measure_48 : decode cX4_measure 48 = .ok (.aload_n 0, 1) := by decide +kernel
theorem dX4_measure_49 : decode cX4_measure 49 = .ok (.getfield 40, 3) := by decide +kernel
theorem dX4_measure_52 : decode cX4_measure 52 = .ok (.getfield 95, 3) := by decide +kernel
theorem dX4_measure_55 : decode cX4_measure 55 = .ok (.if_icmp .ge 95, 3) := by decide +kernel
theorem dX4_measure_58 : decode cX4_measure 58 = .ok (.aload_n 0, 1) := by decide +kernel
theorem dX4_measure_59 : decode cX4_measure 59 = .ok (.getfield 40, 3) := by decide +kernel
theorem dX4_measure_62 : decode cX4_measure 62 = .ok (.getfield 89, 3) := by decide +kernel
theorem dX4_measure_65 : decode cX4_measure 65 = .ok (.istore 8, 2) := by decide +kernel
theorem dX4_measure_67 : decode cX4_measure 67 = .ok (.iload 8, 2) := by decide +kernel
theorem dX4_measure_69 : decode cX4_measure 69 = .ok (.aload_n 0, 1) := by decide +kernel
theorem dX4_measure_70 : decode cX4_measure 70 = .ok (.getfield 40, 3) := by decide +kernel
theorem dX4_measure_73 : decode cX4_measure 73 = .ok (.getfield 86, 3) := by decide +kernel
theorem dX4_measure_76 : decode cX4_measure 76 = .ok (.if_icmp .ge 68, 3) := by decide +kernel
theorem dX4_measure_79 : decode cX4_measure 79 = .ok (.iload 8, 2) := by decide +kernel
theorem dX4_measure_81 : decode cX4_measure 81 = .ok (.iload 7, 2) := by decide +kernel
theorem dX4_measure_83 : decode cX4_measure 83 = .ok (.invokestatic 98, 3) := by decide +kernel
theorem dX4_measure_86 : decode cX4_measure 86 = .ok (.ifCond .eq 52, 3) := by decide +kernel
theorem dX4_measure_89 : decode cX4_measure 89 = .ok (.aload_n 1, 1) := by decide +kernel
theorem dX4_measure_90 : decode cX4_measure 90 = .ok (.iload 8, 2) := by decide +kernel
theorem dX4_measure_92 : decode cX4_measure 92 = .ok (.iload 7, 2) := by decide +kernel
theorem dX4_measure_94 : decode cX4_measure 94 = .ok (.invokevirtual 54, 3) := by decide +kernel
theorem dX4_measure_97 : decode cX4_measure 97 = .ok (.ifCond .ne 41, 3) := by decide +kernel
theorem dX4_measure_100 : decode cX4_measure 100 = .ok (.aload_n 0, 1) := by decide +kernel
theorem dX4_measure_101 : decode cX4_measure 101 = .ok (.getfield 15, 3) := by decide +kernel
theorem dX4_measure_104 : decode cX4_measure 104 = .ok (.iload 8, 2) := by decide +kernel
theorem dX4_measure_106 : decode cX4_measure 106 = .ok (.iload 7, 2) := by decide +kernel
theorem dX4_measure_108 : decode cX4_measure 108 = .ok (.invokestatic 50, 3) := by decide +kernel
theorem dX4_measure_111 : decode cX4_measure 111 = .ok (.iload_n 2, 1) := by decide +kernel
theorem dX4_measure_112 : decode cX4_measure 112 = .ok (.iastore, 1) := by decide +kernel
theorem dX4_measure_113 : decode cX4_measure 113 = .ok (.iinc 3 1, 3) := by decide +kernel
theorem dX4_measure_116 : decode cX4_measure 116 = .ok (.iload 4, 2) := by decide +kernel
theorem dX4_measure_118 : decode cX4_measure 118 = .ok (.iload 8, 2) := by decide +kernel
theorem dX4_measure_120 : decode cX4_measure 120 = .ok (.invokestatic 101, 3) := by decide +kernel
theorem dX4_measure_123 : decode cX4_measure 123 = .ok (.istore 4, 2) := by decide +kernel
theorem dX4_measure_125 : decode cX4_measure 125 = .ok (.iload 5, 2) := by decide +kernel
theorem dX4_measure_127 : decode cX4_measure 127 = .ok (.iload 8, 2) := by decide +kernel
theorem dX4_measure_129 : decode cX4_measure 129 = .ok (.invokestatic 106, 3) := by decide +kernel
theorem dX4_measure_132 : decode cX4_measure 132 = .ok (.istore 5, 2) := by decide +kernel
theorem dX4_measure_134 : decode cX4_measure 134 = .ok (.iload 7, 2) := by decide +kernel
theorem dX4_measure_136 : decode cX4_measure 136 = .ok (.istore 6, 2) := by decide +kernel
theorem dX4_measure_138 : decode cX4_measure 138 = .ok (.iinc 8 1, 3) := by decide +kernel
theorem dX4_measure_141 : decode cX4_measure 141 = .ok (.goto (-74), 3) := by decide +kernel
theorem dX4_measure_144 : decode cX4_measure 144 = .ok (.iinc 7 1, 3) := by decide +kernel
theorem dX4_measure_147 : decode cX4_measure 147 = .ok (.goto (-101), 3) := by decide +kernel
theorem dX4_measure_150 : decode cX4_measure 150 = .ok (.aload_n 0, 1) := by decide +kernel
theorem dX4_measure_151 : decode cX4_measure 151 = .ok (.getfield 28, 3) := by decide +kernel
theorem dX4_measure_154 : decode cX4_measure 154 = .ok (.iload_n 2, 1) := by decide +kernel
theorem dX4_measure_155 : decode cX4_measure 155 = .ok (.iload_n 3, 1) := by decide +kernel
theorem dX4_measure_156 : decode cX4_measure 156 = .ok (.iastore, 1) := by decide +kernel
theorem dX4_measure_157 : decode cX4_measure 157 = .ok (.aload_n 0, 1) := by decide +kernel
theorem dX4_measure_158 : decode cX4_measure 158 = .ok (.getfield 31, 3) := by decide +kernel
theorem dX4_measure_161 : decode cX4_measure 161 = .ok (.iload_n 2, 1) := by decide +kernel
theorem dX4_measure_162 : decode cX4_measure 162 = .ok (.iload 5, 2) := by decide +kernel
theorem dX4_measure_164 : decode cX4_measure 164 = .ok (.iload 4, 2) := by decide +kernel
theorem dX4_measure_166 : decode cX4_measure 166 = .ok (.isub, 1) := by decide +kernel
theorem dX4_measure_167 : decode cX4_measure 167 = .ok (.iconst 1, 1) := by decide +kernel
theorem dX4_measure_168 : decode cX4_measure 168 = .ok (.iadd, 1) := by decide +kernel
theorem dX4_measure_169 : decode cX4_measure 169 = .ok (.iastore, 1) := by decide +kernel
theorem dX4_measure_170 : decode cX4_measure 170 = .ok (.aload_n 0, 1) := by decide +kernel
theorem dX4_measure_171 : decode cX4_measure 171 = .ok (.getfield 34, 3) := by decide +kernel
theorem dX4_measure_174 : decode cX4_measure 174 = .ok (.iload_n 2, 1) := by decide +kernel
theorem dX4_measure_175 : decode cX4_measure 175 = .ok (.iload 6, 2) := by decide +kernel
theorem dX4_measure_177 : decode cX4_measure 177 = .ok (.aload_n 0, 1) := by decide +kernel
theorem dX4_measure_178 : decode cX4_measure 178 = .ok (.getfield 25, 3) := by decide +kernel
theorem dX4_measure_181 : decode cX4_measure 181 = .ok (.iload_n 2, 1) := by decide +kernel
theorem dX4_measure_182 : decode cX4_measure 182 = .ok (.iaload, 1) := by decide +kernel
theorem dX4_measure_183 : decode cX4_measure 183 = .ok (.isub, 1) := by decide +kernel
theorem dX4_measure_184 : decode cX4_measure 184 = .ok (.iconst 1, 1) := by decide +kernel
theorem dX4_measure_185 : decode cX4_measure 185 = .ok (.iadd, 1) := by decide +kernel
theorem dX4_measure_186 : decode cX4_measure 186 = .ok (.iastore, 1) := by decide +kernel
theorem dX4_measure_187 : decode cX4_measure 187 = .ok (.return_, 1) := by decide +kernel
theorem dX5_init_0 : decode cX5_init 0 = .ok (.aload_n 0, 1) := by decide +kernel
theorem dX5_init_1 : decode cX5_init 1 = .ok (.invokespecial 3, 3) := by decide +kernel
theorem dX5_init_4 : decode cX5_init 4 = .ok (.aload_n 0, 1) := by decide +kernel
theorem dX5_init_5 : decode cX5_init 5 = .ok (.iconst 0, 1) := by decide +kernel
theorem dX5_init_6 : decode cX5_init 6 = .ok (.putfield 9, 3) := by decide +kernel
theorem dX5_init_9 : decode cX5_init 9 = .ok (.aload_n 0, 1) := by decide +kernel
theorem dX5_init_10 : decode cX5_init 10 = .ok (.iconst 0, 1) := by decide +kernel
theorem dX5_init_11 : decode cX5_init 11 = .ok (.putfield 15, 3) := by decide +kernel
theorem dX5_init_14 : decode cX5_init 14 = .ok (.aload_n 0, 1) := by decide +kernel
theorem dX5_init_15 : decode cX5_init 15 = .ok (.bipush 20, 2) := by decide +kernel
theorem dX5_init_17 : decode cX5_init 17 = .ok (.newarray .int, 2) := by decide +kernel
theorem dX5_init_19 : decode cX5_init 19 = .ok (.putfield 18, 3) := by decide +kernel
theorem dX5_init_22 : decode cX5_init 22 = .ok (.aload_n 0, 1) := by decide +kernel
theorem dX5_init_23 : decode cX5_init 23 = .ok (.bipush 20, 2) := by decide +kernel
theorem dX5_init_25 : decode cX5_init 25 = .ok (.newarray .int, 2) := by decide +kernel
theorem dX5_init_27 : decode cX5_init 27 = .ok (.putfield 22, 3) := by decide +kernel
theorem dX5_init_30 : decode cX5_init 30 = .ok (.return_, 1) := by decide +kernel
theorem dX5_isFull_0 : decode cX5_isFull 0 = .ok (.aload_n 0, 1) := by decide +kernel
theorem dX5_isFull_1 : decode cX5_isFull 1 = .ok (.getfield 9, 3) := by decide +kernel
theorem dX5_isFull_4 : decode cX5_isFull 4 = .ok (.bipush 20, 2) := by decide +kernel
theorem dX5_isFull_6 : decode cX5_isFull 6 = .ok (.if_icmp .lt 7, 3) := by decide +kernel
theorem dX5_isFull_9 : decode cX5_isFull 9 = .ok (.iconst 1, 1) := by decide +kernel
theorem dX5_isFull_10 : decode cX5_isFull 10 = .ok (.goto 4, 3) := by decide +kernel
theorem dX5_isFull_13 : decode cX5_isFull 13 = .ok (.iconst 0, 1) := by decide +kernel
theorem dX5_isFull_14 : decode cX5_isFull 14 = .ok (.ireturn, 1) := by decide +kernel
theorem dX5_put_0 : decode cX5_put 0 = .ok (.aload_n 0, 1) := by decide +kernel
theorem dX5_put_1 : decode cX5_put 1 = .ok (.getfield 9, 3) := by decide +kernel
theorem dX5_put_4 : decode cX5_put 4 = .ok (.ifCond .lt 42, 3) := by decide +kernel
theorem dX5_put_7 : decode cX5_put 7 = .ok (.aload_n 0, 1) := by decide +kernel
theorem dX5_put_8 : decode cX5_put 8 = .ok (.getfield 9, 3) := by decide +kernel
theorem dX5_put_11 : decode cX5_put 11 = .ok (.bipush 20, 2) := by decide +kernel
theorem dX5_put_13 : decode cX5_put 13 = .ok (.if_icmp .ge 33, 3) := by decide +kernel
theorem dX5_put_16 : decode cX5_put 16 = .ok (.aload_n 0, 1) := by decide +kernel
theorem dX5_put_17 : decode cX5_put 17 = .ok (.getfield 18, 3) := by decide +kernel
theorem dX5_put_20 : decode cX5_put 20 = .ok (.aload_n 0, 1) := by decide +kernel
theorem dX5_put_21 : decode cX5_put 21 = .ok (.getfield 9, 3) := by decide +kernel
theorem dX5_put_24 : decode cX5_put 24 = .ok (.iload_n 1, 1) := by decide +kernel
theorem dX5_put_25 : decode cX5_put 25 = .ok (.iastore, 1) := by decide +kernel
theorem dX5_put_26 : decode cX5_put 26 = .ok (.aload_n 0, 1) := by decide +kernel
theorem dX5_put_27 : decode cX5_put 27 = .ok (.getfield 22, 3) := by decide +kernel
theorem dX5_put_30 : decode cX5_put 30 = .ok (.aload_n 0, 1) := by decide +kernel
theorem dX5_put_31 : decode cX5_put 31 = .ok (.getfield 9, 3) := by decide +kernel
theorem dX5_put_34 : decode cX5_put 34 = .ok (.iload_n 2, 1) := by decide +kernel
theorem dX5_put_35 : decode cX5_put 35 = .ok (.iastore, 1) := by decide +kernel
theorem dX5_put_36 : decode cX5_put 36 = .ok (.aload_n 0, 1) := by decide +kernel
theorem dX5_put_37 : decode cX5_put 37 = .ok (.dup, 1) := by decide +kernel
theorem dX5_put_38 : decode cX5_put 38 = .ok (.getfield 9, 3) := by decide +kernel
theorem dX5_put_41 : decode cX5_put 41 = .ok (.iconst 1, 1) := by decide +kernel
theorem dX5_put_42 : decode cX5_put 42 = .ok (.iadd, 1) := by decide +kernel
theorem dX5_put_43 : decode cX5_put 43 = .ok (.putfield 9, 3) := by decide +kernel
theorem dX5_put_46 : decode cX5_put 46 = .ok (.return_, 1) := by decide +kernel
set_option maxRecDepth 20000 in
theorem ggX5_takeTopmostFor_X5_has : GoodIn wsX5_takeTopmostFor wsX5_has := goodIn_r _ [8, 1, 14, 15, 16, 17] (by decide +kernel) (by decide +kernel)
set_option maxRecDepth 20000 in
theorem gX5_takeTopmostFor_X5_has : GoodIn wsX5_takeTopmostFor (wsV RX5 25 RX5 yX5_has wsX5_has) := goodIn_app (goodIn_of _ (by decide +kernel)) ggX5_takeTopmostFor_X5_has
set_option maxRecDepth 20000 in
theorem ggX5_takeTopmostFor_X5_remove : GoodIn wsX5_takeTopmostFor wsX5_remove := goodIn_r _ [12, 1, 2, 3, 13, 4, 5, 6, 7, 8, 14, 15, 16, 17] (by decide +kernel) (by decide +kernel)
set_option maxRecDepth 20000 in
theorem gX5_takeTopmostFor_X5_remove : GoodIn wsX5_takeTopmostFor (wsV RX5 29 RX5 yX5_remove wsX5_remove) := goodIn_app (goodIn_of _ (by decide +kernel)) ggX5_takeTopmostFor_X5_remove
theorem dX5_takeTopmostFor_0 : decode cX5_takeTopmostFor 0 = .ok (.aload_n 0, 1) := by decide +kernel
theorem dX5_takeTopmostFor_1 : decode cX5_takeTopmostFor 1 = .ok (.getfield 9, 3) := by decide +kernel
theorem dX5_takeTopmostFor_4 : decode cX5_takeTopmostFor 4 = .ok (.iconst 1, 1) := by decide +kernel
theorem dX5_takeTopmostFor_5 : decode cX5_takeTopmostFor 5 = .ok (.isub, 1) := by decide +kernel
theorem dX5_takeTopmostFor_6 : decode cX5_takeTopmostFor 6 = .ok (.istore_n 2, 1) := by decide +kernel
theorem dX5_takeTopmostFor_7 : decode cX5_takeTopmostFor 7 = .ok (.iload_n 2, 1) := by decide +kernel
theorem dX5_takeTopmostFor_8 : decode cX5_takeTopmostFor 8 = .ok (.ifCond .lt 41, 3) := by decide +kernel
theorem dX5_takeTopmostFor_11 : decode cX5_takeTopmostFor 11 = .ok (.aload_n 0, 1) := by decide +kernel
theorem dX5_takeTopmostFor_12 : decode cX5_takeTopmostFor 12 = .ok (.iload_n 2, 1) := by decide +kernel
theorem dX5_takeTopmostFor_13 : decode cX5_takeTopmostFor 13 = .ok (.invokevirtual 25, 3) := by decide +kernel
theorem dX5_takeTopmostFor_16 : decode cX5_takeTopmostFor 16 = .ok (.ifCond .eq 27, 3) := by decide +kernel
theorem dX5_takeTopmostFor_19 : decode cX5_takeTopmostFor 19 = .ok (.aload_n 0, 1) := by decide +kernel
theorem dX5_takeTopmostFor_20 : decode cX5_takeTopmostFor 20 = .ok (.getfield 18, 3) := by decide +kernel
theorem dX5_takeTopmostFor_23 : decode cX5_takeTopmostFor 23 = .ok (.iload_n 2, 1) := by decide +kernel
theorem dX5_takeTopmostFor_24 : decode cX5_takeTopmostFor 24 = .ok (.iaload, 1) := by decide +kernel
theorem dX5_takeTopmostFor_25 : decode cX5_takeTopmostFor 25 = .ok (.iload_n 1, 1) := by decide +kernel
theorem dX5_takeTopmostFor_26 : decode cX5_takeTopmostFor 26 = .ok (.if_icmp .ne 17, 3) := by decide +kernel
theorem dX5_takeTopmostFor_29 : decode cX5_takeTopmostFor 29 = .ok (.aload_n 0, 1) := by decide +kernel
theorem dX5_takeTopmostFor_30 : decode cX5_takeTopmostFor 30 = .ok (.getfield 22, 3) := by decide +kernel
theorem dX5_takeTopmostFor_33 : decode cX5_takeTopmostFor 33 = .ok (.iload_n 2, 1) := by decide +kernel
theorem dX5_takeTopmostFor_34 : decode cX5_takeTopmostFor 34 = .ok (.iaload, 1) := by decide +kernel
theorem dX5_takeTopmostFor_35 : decode cX5_takeTopmostFor 35 = .ok (.istore_n 3, 1) := by decide +kernel
theorem dX5_takeTopmostFor_36 : decode cX5_takeTopmostFor 36 = .ok (.aload_n 0, 1) := by decide +kernel
theorem dX5_takeTopmostFor_37 : decode cX5_takeTopmostFor 37 = .ok (.iload_n 2, 1) := by decide +kernel
theorem dX5_takeTopmostFor_38 : decode cX5_takeTopmostFor 38 = .ok (.invokevirtual 29, 3) := by decide +kernel
theorem dX5_takeTopmostFor_41 : decode cX5_takeTopmostFor 41 = .ok (.iload_n 3, 1) := by decide +kernel
theorem dX5_takeTopmostFor_42 : decode cX5_takeTopmostFor 42 = .ok (.ireturn, 1) := by decide +kernel
theorem dX5_takeTopmostFor_43 : decode cX5_takeTopmostFor 43 = .ok (.iinc 2 (-1), 3) := by decide +kernel
theorem dX5_takeTopmostFor_46 : decode cX5_takeTopmostFor 46 = .ok (.goto (-39), 3) := by decide +kernel
theorem dX5_takeTopmostFor_49 : decode cX5_takeTopmostFor 49 = .ok (.iconst (-1), 1) := by decide +kernel
theorem dX5_takeTopmostFor_50 : decode cX5_takeTopmostFor 50 = .ok (.ireturn, 1) := by decide +kernel
theorem dX5_has_0 : decode cX5_has 0 = .ok (.iload_n 1, 1) := by decide +kernel
theorem dX5_has_1 : decode cX5_has 1 = .ok (.ifCond .lt 21, 3) := by decide +kernel
theorem dX5_has_4 : decode cX5_has 4 = .ok (.iload_n 1, 1) := by decide +kernel
theorem dX5_has_5 : decode cX5_has 5 = .ok (.aload_n 0, 1) := by decide +kernel
theorem dX5_has_6 : decode cX5_has 6 = .ok (.getfield 9, 3) := by decide +kernel
theorem dX5_has_9 : decode cX5_has 9 = .ok (.if_icmp .ge 13, 3) := by decide +kernel
theorem dX5_has_12 : decode cX5_has 12 = .ok (.iload_n 1, 1) := by decide +kernel
theorem dX5_has_13 : decode cX5_has 13 = .ok (.bipush 20, 2) := by decide +kernel
theorem dX5_has_15 : decode cX5_has 15 = .ok (.if_icmp .ge 7, 3) := by decide +kernel
theorem dX5_has_18 : decode cX5_has 18 = .ok (.iconst 1, 1) := by decide +kernel
theorem dX5_has_19 : decode cX5_has 19 = .ok (.goto 4, 3) := by decide +kernel
theorem dX5_has_22 : decode cX5_has 22 = .ok (.iconst 0, 1) := by decide +kernel
theorem dX5_has_23 : decode cX5_has 23 = .ok (.ireturn, 1) := by decide +kernel
set_option maxRecDepth 20000 in
theorem ggX5_remove_X5_has : GoodIn wsX5_remove wsX5_has := goodIn_r _ [9, 1, 10, 11, 12, 13] (by decide +kernel) (by decide +kernel)
set_option maxRecDepth 20000 in
theorem gX5_remove_X5_has : GoodIn wsX5_remove (wsV RX5 25 RX5 yX5_has wsX5_has) := goodIn_app (goodIn_of _ (by decide +kernel)) ggX5_remove_X5_has
theorem dX5_remove_0 : decode cX5_remove 0 = .ok (.aload_n 0, 1) := by decide +kernel
theorem dX5_remove_1 : decode cX5_remove 1 = .ok (.iload_n 1, 1) := by decide +kernel
theorem dX5_remove_2 : decode cX5_remove 2 = .ok (.invokevirtual 25, 3) := by decide +kernel
theorem dX5_remove_5 : decode cX5_remove 5 = .ok (.ifCond .ne 4, 3) := by decide +kernel
theorem dX5_remove_8 : decode cX5_remove 8 = .ok (.return_, 1) := by decide +kernel
theorem dX5_remove_9 : decode cX5_remove 9 = .ok (.iload_n 1, 1) := by decide +kernel
theorem dX5_remove_10 : decode cX5_remove 10 = .ok (.iconst 1, 1) := by decide +kernel
theorem dX5_remove_11 : decode cX5_remove 11 = .ok (.iadd, 1) := by decide +kernel
theorem dX5_remove_12 : decode cX5_remove 12 = .ok (.istore_n 2, 1) := by decide +kernel
theorem dX5_remove_13 : decode cX5_remove 13 = .ok (.iload_n 2, 1) := by decide +kernel
theorem dX5_remove_14 : decode cX5_remove 14 = .ok (.aload_n 0, 1) := by decide +kernel
theorem dX5_remove_15 : decode cX5_remove 15 = .ok (.getfield 9, 3) := by decide +kernel
theorem dX5_remove_18 : decode cX5_remove 18 = .ok (.if_icmp .ge 53, 3) := by decide +kernel
theorem dX5_remove_21 : decode cX5_remove 21 = .ok (.iload_n 2, 1) := by decide +kernel
theorem dX5_remove_22 : decode cX5_remove 22 = .ok (.bipush 20, 2) := by decide +kernel
theorem dX5_remove_24 : decode cX5_remove 24 = .ok (.if_icmp .ge 47, 3) := by decide +kernel
theorem dX5_remove_27 : decode cX5_remove 27 = .ok (.aload_n 0, 1) := by decide +kernel
theorem dX5_remove_28 : decode cX5_remove 28 = .ok (.getfield 18, 3) := by decide +kernel
theorem dX5_remove_31 : decode cX5_remove 31 = .ok (.iload_n 2, 1) := by decide +kernel
theorem dX5_remove_32 : decode cX5_remove 32 = .ok (.iconst 1, 1) := by decide +kernel
theorem dX5_remove_33 : decode cX5_remove 33 = .ok (.isub, 1) := by decide +kernel
theorem dX5_remove_34 : decode cX5_remove 34 = .ok (.aload_n 0, 1) := by decide +kernel
theorem dX5_remove_35 : decode cX5_remove 35 = .ok (.getfield 18, 3) := by decide +kernel
theorem dX5_remove_38 : decode cX5_remove 38 = .ok (.iload_n 2, 1) := by decide +kernel
theorem dX5_remove_39 : decode cX5_remove 39 = .ok (.iaload, 1) := by decide +kernel
theorem dX5_remove_40 : decode cX5_remove 40 = .ok (.iastore, 1) := by decide +kernel
theorem dX5_remove_41 : decode cX5_remove 41 = .ok (.aload_n 0, 1) := by decide +kernel
theorem dX5_remove_42 : decode cX5_remove 42 = .ok (.getfield 22, 3) := by decide +kernel
theorem dX5_remove_45 : decode cX5_remove 45 = .ok (.iload_n 2, 1) := by decide +kernel
theorem dX5_remove_46 : decode cX5_remove 46 = .ok (.iconst 1, 1) := by decide +kernel
theorem dX5_remove_47 : decode cX5_remove 47 = .ok (.isub, 1) := by decide +kernel
theorem dX5_remove_48 : decode cX5_remove 48 = .ok (.aload_n 0, 1) := by decide +kernel
theorem dX5_remove_49 : decode cX5_remove 49 = .ok (.getfield 22, 3) := by decide +kernel
theorem dX5_remove_52 : decode cX5_remove 52 = .ok (.iload_n 2, 1) := by decide +kernel
theorem dX5_remove_53 : decode cX5_remove 53 = .ok (.iaload, 1) := by decide +kernel
theorem dX5_remove_54 : decode cX5_remove 54 = .ok (.iastore, 1) := by decide +kernel
theorem dX5_remove_55 : decode cX5_remove 55 = .ok (.aload_n 0, 1) := by decide +kernel
theorem dX5_remove_56 : decode cX5_remove 56 = .ok (.dup, 1) := by decide +kernel
theorem dX5_remove_57 : decode cX5_remove 57 = .ok (.getfield 15, 3) := by decide +kernel
theorem dX5_remove_60 : decode cX5_remove 60 = .ok (.iconst 2, 1) := by decide +kernel
theorem dX5_remove_61 : decode cX5_remove 61 = .ok (.iadd, 1) := by decide +kernel
theorem dX5_remove_62 : decode cX5_remove 62 = .ok (.putfield 15, 3) := by decide +kernel
theorem dX5_remove_65 : decode cX5_remove 65 = .ok (.iinc 2 1, 3) := by decide +kernel
theorem dX5_remove_68 : decode cX5_remove 68 = .ok (.goto (-55), 3) := by decide +kernel
theorem dX5_remove_71 : decode cX5_remove 71 = .ok (.aload_n 0, 1) := by decide +kernel
theorem dX5_remove_72 : decode cX5_remove 72 = .ok (.dup, 1) := by decide +kernel
theorem dX5_remove_73 : decode cX5_remove 73 = .ok (.getfield 9, 3) := by decide +kernel
theorem dX5_remove_76 : decode cX5_remove 76 = .ok (.iconst 1, 1) := by decide +kernel
theorem dX5_remove_77 : decode cX5_remove 77 = .ok (.isub, 1) := by decide +kernel
theorem dX5_remove_78 : decode cX5_remove 78 = .ok (.putfield 9, 3) := by decide +kernel
theorem dX5_remove_81 : decode cX5_remove 81 = .ok (.return_, 1) := by decide +kernel
theorem dX6_init_0 : decode cX6_init 0 = .ok (.aload_n 0, 1) := by decide +kernel
theorem dX6_init_1 : decode cX6_init 1 = .ok (.invokespecial 3, 3) := by decide +kernel
theorem dX6_init_4 : decode cX6_init 4 = .ok (.aload_n 0, 1) := by decide +kernel
theorem dX6_init_5 : decode cX6_init 5 = .ok (.iconst 0, 1) := by decide +kernel
theorem dX6_init_6 : decode cX6_init 6 = .ok (.putfield 9, 3) := by decide +kernel
theorem dX6_init_9 : decode cX6_init 9 = .ok (.aload_n 0, 1) := by decide +kernel
theorem dX6_init_10 : decode cX6_init 10 = .ok (.bipush 6, 2) := by decide +kernel
theorem dX6_init_12 : decode cX6_init 12 = .ok (.putfield 15, 3) := by decide +kernel
theorem dX6_init_15 : decode cX6_init 15 = .ok (.aload_n 0, 1) := by decide +kernel
theorem dX6_init_16 : decode cX6_init 16 = .ok (.iconst 0, 1) := by decide +kernel
theorem dX6_init_17 : decode cX6_init 17 = .ok (.putfield 18, 3) := by decide +kernel
theorem dX6_init_20 : decode cX6_init 20 = .ok (.aload_n 0, 1) := by decide +kernel
theorem dX6_init_21 : decode cX6_init 21 = .ok (.bipush 8, 2) := by decide +kernel
theorem dX6_init_23 : decode cX6_init 23 = .ok (.newarray .boolean, 2) := by decide +kernel
theorem dX6_init_25 : decode cX6_init 25 = .ok (.putfield 22, 3) := by decide +kernel
theorem dX6_init_28 : decode cX6_init 28 = .ok (.aload_n 0, 1) := by decide +kernel
theorem dX6_init_29 : decode cX6_init 29 = .ok (.bipush 8, 2) := by decide +kernel
theorem dX6_init_31 : decode cX6_init 31 = .ok (.newarray .int, 2) := by decide +kernel
theorem dX6_init_33 : decode cX6_init 33 = .ok (.putfield 26, 3) := by decide +kernel
theorem dX6_init_36 : decode cX6_init 36 = .ok (.return_, 1) := by decide +kernel
theorem dX6_isLaid_0 : decode cX6_isLaid 0 = .ok (.iload_n 1, 1) := by decide +kernel
theorem dX6_isLaid_1 : decode cX6_isLaid 1 = .ok (.ifCond .lt 22, 3) := by decide +kernel
theorem dX6_isLaid_4 : decode cX6_isLaid 4 = .ok (.iload_n 1, 1) := by decide +kernel
theorem dX6_isLaid_5 : decode cX6_isLaid 5 = .ok (.bipush 8, 2) := by decide +kernel
theorem dX6_isLaid_7 : decode cX6_isLaid 7 = .ok (.if_icmp .ge 16, 3) := by decide +kernel
theorem dX6_isLaid_10 : decode cX6_isLaid 10 = .ok (.aload_n 0, 1) := by decide +kernel
theorem dX6_isLaid_11 : decode cX6_isLaid 11 = .ok (.getfield 22, 3) := by decide +kernel
theorem dX6_isLaid_14 : decode cX6_isLaid 14 = .ok (.iload_n 1, 1) := by decide +kernel
theorem dX6_isLaid_15 : decode cX6_isLaid 15 = .ok (.baload, 1) := by decide +kernel
theorem dX6_isLaid_16 : decode cX6_isLaid 16 = .ok (.ifCond .eq 7, 3) := by decide +kernel
theorem dX6_isLaid_19 : decode cX6_isLaid 19 = .ok (.iconst 1, 1) := by decide +kernel
theorem dX6_isLaid_20 : decode cX6_isLaid 20 = .ok (.goto 4, 3) := by decide +kernel
theorem dX6_isLaid_23 : decode cX6_isLaid 23 = .ok (.iconst 0, 1) := by decide +kernel
theorem dX6_isLaid_24 : decode cX6_isLaid 24 = .ok (.ireturn, 1) := by decide +kernel
set_option maxRecDepth 20000 in
theorem ggX6_dryHourOf_X6_isLaid : GoodIn wsX6_dryHourOf wsX6_isLaid := goodIn_r _ [6, 7, 8, 9, 10, 11, 12] (by decide +kernel) (by decide +kernel)
set_option maxRecDepth 20000 in
theorem gX6_dryHourOf_X6_isLaid : GoodIn wsX6_dryHourOf (wsV RX6 30 RX6 yX6_isLaid wsX6_isLaid) := goodIn_app (goodIn_of _ (by decide +kernel)) ggX6_dryHourOf_X6_isLaid
theorem dX6_dryHourOf_0 : decode cX6_dryHourOf 0 = .ok (.aload_n 0, 1) := by decide +kernel
theorem dX6_dryHourOf_1 : decode cX6_dryHourOf 1 = .ok (.iload_n 1, 1) := by decide +kernel
theorem dX6_dryHourOf_2 : decode cX6_dryHourOf 2 = .ok (.invokevirtual 30, 3) := by decide +kernel
theorem dX6_dryHourOf_5 : decode cX6_dryHourOf 5 = .ok (.ifCond .eq 12, 3) := by decide +kernel
theorem dX6_dryHourOf_8 : decode cX6_dryHourOf 8 = .ok (.aload_n 0, 1) := by decide +kernel
theorem dX6_dryHourOf_9 : decode cX6_dryHourOf 9 = .ok (.getfield 26, 3) := by decide +kernel
theorem dX6_dryHourOf_12 : decode cX6_dryHourOf 12 = .ok (.iload_n 1, 1) := by decide +kernel
theorem dX6_dryHourOf_13 : decode cX6_dryHourOf 13 = .ok (.iaload, 1) := by decide +kernel
theorem dX6_dryHourOf_14 : decode cX6_dryHourOf 14 = .ok (.goto 4, 3) := by decide +kernel
theorem dX6_dryHourOf_17 : decode cX6_dryHourOf 17 = .ok (.iconst (-1), 1) := by decide +kernel
theorem dX6_dryHourOf_18 : decode cX6_dryHourOf 18 = .ok (.ireturn, 1) := by decide +kernel
set_option maxRecDepth 20000 in
theorem ggX6_canStart_X6_isLaid : GoodIn wsX6_canStart wsX6_isLaid := goodIn_r _ [8, 1, 9, 10, 11, 12, 13] (by decide +kernel) (by decide +kernel)
set_option maxRecDepth 20000 in
theorem gX6_canStart_X6_isLaid : GoodIn wsX6_canStart (wsV RX6 30 RX6 yX6_isLaid wsX6_isLaid) := goodIn_app (goodIn_of _ (by decide +kernel)) ggX6_canStart_X6_isLaid
theorem dX6_canStart_0 : decode cX6_canStart 0 = .ok (.aload_n 0, 1) := by decide +kernel
theorem dX6_canStart_1 : decode cX6_canStart 1 = .ok (.iload_n 1, 1) := by decide +kernel
theorem dX6_canStart_2 : decode cX6_canStart 2 = .ok (.invokevirtual 30, 3) := by decide +kernel
theorem dX6_canStart_5 : decode cX6_canStart 5 = .ok (.ifCond .eq 5, 3) := by decide +kernel
theorem dX6_canStart_8 : decode cX6_canStart 8 = .ok (.iconst 0, 1) := by decide +kernel
theorem dX6_canStart_9 : decode cX6_canStart 9 = .ok (.ireturn, 1) := by decide +kernel
theorem dX6_canStart_10 : decode cX6_canStart 10 = .ok (.iconst 0, 1) := by decide +kernel
theorem dX6_canStart_11 : decode cX6_canStart 11 = .ok (.istore_n 2, 1) := by decide +kernel
theorem dX6_canStart_12 : decode cX6_canStart 12 = .ok (.iload_n 2, 1) := by decide +kernel
theorem dX6_canStart_13 : decode cX6_canStart 13 = .ok (.iload_n 1, 1) := by decide +kernel
theorem dX6_canStart_14 : decode cX6_canStart 14 = .ok (.if_icmp .ge 39, 3) := by decide +kernel
theorem dX6_canStart_17 : decode cX6_canStart 17 = .ok (.iload_n 2, 1) := by decide +kernel
theorem dX6_canStart_18 : decode cX6_canStart 18 = .ok (.bipush 8, 2) := by decide +kernel
theorem dX6_canStart_20 : decode cX6_canStart 20 = .ok (.if_icmp .ge 33, 3) := by decide +kernel
theorem dX6_canStart_23 : decode cX6_canStart 23 = .ok (.aload_n 0, 1) := by decide +kernel
theorem dX6_canStart_24 : decode cX6_canStart 24 = .ok (.getfield 22, 3) := by decide +kernel
theorem dX6_canStart_27 : decode cX6_canStart 27 = .ok (.iload_n 2, 1) := by decide +kernel
theorem dX6_canStart_28 : decode cX6_canStart 28 = .ok (.baload, 1) := by decide +kernel
theorem dX6_canStart_29 : decode cX6_canStart 29 = .ok (.ifCond .eq 18, 3) := by decide +kernel
theorem dX6_canStart_32 : decode cX6_canStart 32 = .ok (.aload_n 0, 1) := by decide +kernel
theorem dX6_canStart_33 : decode cX6_canStart 33 = .ok (.getfield 9, 3) := by decide +kernel
theorem dX6_canStart_36 : decode cX6_canStart 36 = .ok (.aload_n 0, 1) := by decide +kernel
theorem dX6_canStart_37 : decode cX6_canStart 37 = .ok (.getfield 26, 3) := by decide +kernel
theorem dX6_canStart_40 : decode cX6_canStart 40 = .ok (.iload_n 2, 1) := by decide +kernel
theorem dX6_canStart_41 : decode cX6_canStart 41 = .ok (.iaload, 1) := by decide +kernel
theorem dX6_canStart_42 : decode cX6_canStart 42 = .ok (.if_icmp .ge 5, 3) := by decide +kernel
theorem dX6_canStart_45 : decode cX6_canStart 45 = .ok (.iconst 0, 1) := by decide +kernel
theorem dX6_canStart_46 : decode cX6_canStart 46 = .ok (.ireturn, 1) := by decide +kernel
theorem dX6_canStart_47 : decode cX6_canStart 47 = .ok (.iinc 2 1, 3) := by decide +kernel
theorem dX6_canStart_50 : decode cX6_canStart 50 = .ok (.goto (-38), 3) := by decide +kernel
theorem dX6_canStart_53 : decode cX6_canStart 53 = .ok (.iconst 1, 1) := by decide +kernel
theorem dX6_canStart_54 : decode cX6_canStart 54 = .ok (.ireturn, 1) := by decide +kernel
set_option maxRecDepth 20000 in
theorem ggX6_finish_X7_timesIn : GoodIn wsX6_finish wsX7_timesIn := goodIn_r _ [8] (by decide +kernel) (by decide +kernel)
set_option maxRecDepth 20000 in
theorem gX6_finish_X7_timesIn_n34 : GoodIn wsX6_finish (wsX7_timesIn) := ggX6_finish_X7_timesIn
theorem dX6_finish_0 : decode cX6_finish 0 = .ok (.iload_n 1, 1) := by decide +kernel
theorem dX6_finish_1 : decode cX6_finish 1 = .ok (.ifCond .lt 9, 3) := by decide +kernel
theorem dX6_finish_4 : decode cX6_finish 4 = .ok (.iload_n 1, 1) := by decide +kernel
theorem dX6_finish_5 : decode cX6_finish 5 = .ok (.bipush 8, 2) := by decide +kernel
theorem dX6_finish_7 : decode cX6_finish 7 = .ok (.if_icmp .lt 4, 3) := by decide +kernel
theorem dX6_finish_10 : decode cX6_finish 10 = .ok (.return_, 1) := by decide +kernel
theorem dX6_finish_11 : decode cX6_finish 11 = .ok (.aload_n 0, 1) := by decide +kernel
theorem dX6_finish_12 : decode cX6_finish 12 = .ok (.dup, 1) := by decide +kernel
theorem dX6_finish_13 : decode cX6_finish 13 = .ok (.getfield 9, 3) := by decide +kernel
theorem dX6_finish_16 : decode cX6_finish 16 = .ok (.iconst 4, 1) := by decide +kernel
theorem dX6_finish_17 : decode cX6_finish 17 = .ok (.iload_n 2, 1) := by decide +kernel
theorem dX6_finish_18 : decode cX6_finish 18 = .ok (.iconst 4, 1) := by decide +kernel
theorem dX6_finish_19 : decode cX6_finish 19 = .ok (.iadd, 1) := by decide +kernel
theorem dX6_finish_20 : decode cX6_finish 20 = .ok (.iconst 1, 1) := by decide +kernel
theorem dX6_finish_21 : decode cX6_finish 21 = .ok (.isub, 1) := by decide +kernel
theorem dX6_finish_22 : decode cX6_finish 22 = .ok (.invokestatic 34, 3) := by decide +kernel
theorem dX6_finish_25 : decode cX6_finish 25 = .ok (.iadd, 1) := by decide +kernel
theorem dX6_finish_26 : decode cX6_finish 26 = .ok (.putfield 9, 3) := by decide +kernel
theorem dX6_finish_29 : decode cX6_finish 29 = .ok (.aload_n 0, 1) := by decide +kernel
theorem dX6_finish_30 : decode cX6_finish 30 = .ok (.getfield 22, 3) := by decide +kernel
theorem dX6_finish_33 : decode cX6_finish 33 = .ok (.iload_n 1, 1) := by decide +kernel
theorem dX6_finish_34 : decode cX6_finish 34 = .ok (.iconst 1, 1) := by decide +kernel
theorem dX6_finish_35 : decode cX6_finish 35 = .ok (.bastore, 1) := by decide +kernel
theorem dX6_finish_36 : decode cX6_finish 36 = .ok (.aload_n 0, 1) := by decide +kernel
theorem dX6_finish_37 : decode cX6_finish 37 = .ok (.getfield 26, 3) := by decide +kernel
theorem dX6_finish_40 : decode cX6_finish 40 = .ok (.iload_n 1, 1) := by decide +kernel
theorem dX6_finish_41 : decode cX6_finish 41 = .ok (.aload_n 0, 1) := by decide +kernel
theorem dX6_finish_42 : decode cX6_finish 42 = .ok (.getfield 9, 3) := by decide +kernel
theorem dX6_finish_45 : decode cX6_finish 45 = .ok (.aload_n 0, 1) := by decide +kernel
theorem dX6_finish_46 : decode cX6_finish 46 = .ok (.getfield 15, 3) := by decide +kernel
theorem dX6_finish_49 : decode cX6_finish 49 = .ok (.iadd, 1) := by decide +kernel
theorem dX6_finish_50 : decode cX6_finish 50 = .ok (.iastore, 1) := by decide +kernel
theorem dX6_finish_51 : decode cX6_finish 51 = .ok (.aload_n 0, 1) := by decide +kernel
theorem dX6_finish_52 : decode cX6_finish 52 = .ok (.iconst 1, 1) := by decide +kernel
theorem dX6_finish_53 : decode cX6_finish 53 = .ok (.putfield 18, 3) := by decide +kernel
theorem dX6_finish_56 : decode cX6_finish 56 = .ok (.return_, 1) := by decide +kernel
set_option maxRecDepth 20000 in
theorem ggX7_init_X3_init : GoodIn wsX7_init wsX3_init := goodIn_r _ [33, 34, 2, 3, 35, 36, 37, 38, 225, 226, 227, 228] (by decide +kernel) (by decide +kernel)
set_option maxRecDepth 20000 in
theorem gX7_init_X3_init_n11 : GoodIn wsX7_init (wsX3_init) := ggX7_init_X3_init
set_option maxRecDepth 20000 in
theorem ggX7_init_X0_init : GoodIn wsX7_init wsX0_init := goodIn_r _ [40, 41, 2, 3, 42, 43, 44, 45, 236, 237, 238] (by decide +kernel) (by decide +kernel)
set_option maxRecDepth 20000 in
theorem gX7_init_X0_init_n18 : GoodIn wsX7_init (wsX0_init) := ggX7_init_X0_init
set_option maxRecDepth 20000 in
theorem ggX7_init_X4_init : GoodIn wsX7_init wsX4_init := goodIn_r _ [47, 48, 2, 3, 49, 50, 51, 52, 53, 54, 55, 56, 57, 58, 29, 30, 59, 60, 61, 62, 63, 64, 65, 66, 239, 240, 241, 242, 243, 244, 245, 246, 247, 263, 264, 265, 266] (by decide +kernel) (by decide +kernel)
set_option maxRecDepth 20000 in
theorem gX7_init_X4_init_n25 : GoodIn wsX7_init (wsX4_init) := ggX7_init_X4_init
set_option maxRecDepth 20000 in
theorem ggX7_init_X1_init : GoodIn wsX7_init wsX1_init := goodIn_r _ [68, 69, 2, 3, 70, 50, 71, 72, 73, 74, 75, 248, 249, 250, 251, 252, 253] (by decide +kernel) (by decide +kernel)
set_option maxRecDepth 20000 in
theorem gX7_init_X1_init_n32 : GoodIn wsX7_init (wsX1_init) := ggX7_init_X1_init
set_option maxRecDepth 20000 in
theorem ggX7_init_X5_init : GoodIn wsX7_init wsX5_init := goodIn_r _ [77, 78, 2, 3, 79, 80, 50, 81, 82, 254, 255, 256, 257] (by decide +kernel) (by decide +kernel)
set_option maxRecDepth 20000 in
theorem gX7_init_X5_init_n39 : GoodIn wsX7_init (wsX5_init) := ggX7_init_X5_init
set_option maxRecDepth 20000 in
theorem ggX7_init_X6_init : GoodIn wsX7_init wsX6_init := goodIn_r _ [84, 85, 2, 3, 86, 87, 88, 42, 89, 50, 90, 258, 259, 260, 261, 262] (by decide +kernel) (by decide +kernel)
set_option maxRecDepth 20000 in
theorem gX7_init_X6_init_n46 : GoodIn wsX7_init (wsX6_init) := ggX7_init_X6_init
set_option maxRecDepth 20000 in
theorem ggX7_init_X2_init : GoodIn wsX7_init wsX2_init := goodIn_r _ [61, 62, 2, 3, 63, 64, 65, 66, 263, 264, 265, 266] (by decide +kernel) (by decide +kernel)
set_option maxRecDepth 20000 in
theorem gX7_init_X2_init_n53 : GoodIn wsX7_init (wsX2_init) := ggX7_init_X2_init
set_option maxRecDepth 20000 in
theorem ggX7_init_X7_renew : GoodIn wsX7_init wsX7_renew := goodIn_r _ [95, 11, 7, 27, 15, 19, 96, 97, 98, 10, 99, 100, 101, 102, 6, 103, 37, 104, 105, 106, 107, 108, 109, 110, 111, 112, 113, 114, 115, 36, 116, 94, 117, 118, 119, 120, 26, 121, 89, 122, 123, 124, 125, 44, 43, 126, 127, 128, 129, 130, 131, 132, 133, 45, 134, 135, 136, 14, 137, 49, 51, 138, 139, 140, 141, 142, 143, 144, 145, 146, 147, 148, 149, 53, 54, 59, 52, 55, 150, 151, 152, 153, 154, 155, 156, 157, 158, 159, 38, 35, 160, 161, 162, 163, 164, 165, 166, 167, 168, 169, 170, 171, 172, 173, 174, 175, 176, 177, 30, 178, 63, 64, 65, 66, 179, 180, 181, 182, 183, 184, 185, 186, 187, 188, 56, 57, 189, 190, 191, 192, 18, 193, 70, 72, 71, 194, 195, 196, 197, 198, 199, 200, 201, 202, 203, 204, 73, 74, 75, 205, 206, 207, 208, 209, 210, 211, 212, 213, 214, 215, 216, 217, 218, 219, 220, 221, 222, 223, 224, 229, 230, 231, 232, 233, 234, 235, 225, 226, 227, 228, 258, 259, 260, 261, 262, 236, 237, 238, 239, 240, 241, 242, 243, 244, 245, 246, 247, 263, 264, 265, 266, 248, 249, 250, 251, 252, 253] (by decide +kernel) (by decide +kernel)
set_option maxRecDepth 20000 in
theorem gX7_init_X7_renew : GoodIn wsX7_init (wsV RX7 58 RX7 yX7_renew wsX7_renew) := goodIn_app (goodIn_of _ (by decide +kernel)) ggX7_init_X7_renew
theorem dX7_init_0 : decode cX7_init 0 = .ok (.aload_n 0, 1) := by decide +kernel
theorem dX7_init_1 : decode cX7_init 1 = .ok (.invokespecial 3, 3) := by decide +kernel
theorem dX7_init_4 : decode cX7_init 4 = .ok (.aload_n 0, 1) := by decide +kernel
theorem dX7_init_5 : decode cX7_init 5 = .ok (.new 9, 3) := by decide +kernel
theorem dX7_init_8 : decode cX7_init 8 = .ok (.dup, 1) := by decide +kernel
theorem dX7_init_9 : decode cX7_init 9 = .ok (.invokespecial 11, 3) := by decide +kernel
theorem dX7_init_12 : decode cX7_init 12 = .ok (.putfield 12, 3) := by decide +kernel
theorem dX7_init_15 : decode cX7_init 15 = .ok (.aload_n 0, 1) := by decide +kernel
theorem dX7_init_16 : decode cX7_init 16 = .ok (.new 16, 3) := by decide +kernel
theorem dX7_init_19 : decode cX7_init 19 = .ok (.dup, 1) := by decide +kernel
theorem dX7_init_20 : decode cX7_init 20 = .ok (.invokespecial 18, 3) := by decide +kernel
theorem dX7_init_23 : decode cX7_init 23 = .ok (.putfield 19, 3) := by decide +kernel
theorem dX7_init_26 : decode cX7_init 26 = .ok (.aload_n 0, 1) := by decide +kernel
theorem dX7_init_27 : decode cX7_init 27 = .ok (.new 23, 3) := by decide +kernel
theorem dX7_init_30 : decode cX7_init 30 = .ok (.dup, 1) := by decide +kernel
theorem dX7_init_31 : decode cX7_init 31 = .ok (.invokespecial 25, 3) := by decide +kernel
theorem dX7_init_34 : decode cX7_init 34 = .ok (.putfield 26, 3) := by decide +kernel
theorem dX7_init_37 : decode cX7_init 37 = .ok (.aload_n 0, 1) := by decide +kernel
theorem dX7_init_38 : decode cX7_init 38 = .ok (.new 30, 3) := by decide +kernel
theorem dX7_init_41 : decode cX7_init 41 = .ok (.dup, 1) := by decide +kernel
theorem dX7_init_42 : decode cX7_init 42 = .ok (.invokespecial 32, 3) := by decide +kernel
theorem dX7_init_45 : decode cX7_init 45 = .ok (.putfield 33, 3) := by decide +kernel
theorem dX7_init_48 : decode cX7_init 48 = .ok (.aload_n 0, 1) := by decide +kernel
theorem dX7_init_49 : decode cX7_init 49 = .ok (.new 37, 3) := by decide +kernel
theorem dX7_init_52 : decode cX7_init 52 = .ok (.dup, 1) := by decide +kernel
theorem dX7_init_53 : decode cX7_init 53 = .ok (.invokespecial 39, 3) := by decide +kernel
theorem dX7_init_56 : decode cX7_init 56 = .ok (.putfield 40, 3) := by decide +kernel
theorem dX7_init_59 : decode cX7_init 59 = .ok (.aload_n 0, 1) := by decide +kernel
theorem dX7_init_60 : decode cX7_init 60 = .ok (.new 44, 3) := by decide +kernel
theorem dX7_init_63 : decode cX7_init 63 = .ok (.dup, 1) := by decide +kernel
theorem dX7_init_64 : decode cX7_init 64 = .ok (.invokespecial 46, 3) := by decide +kernel
theorem dX7_init_67 : decode cX7_init 67 = .ok (.putfield 47, 3) := by decide +kernel
theorem dX7_init_70 : decode cX7_init 70 = .ok (.aload_n 0, 1) := by decide +kernel
theorem dX7_init_71 : decode cX7_init 71 = .ok (.new 51, 3) := by decide +kernel
theorem dX7_init_74 : decode cX7_init 74 = .ok (.dup, 1) := by decide +kernel
theorem dX7_init_75 : decode cX7_init 75 = .ok (.invokespecial 53, 3) := by decide +kernel
theorem dX7_init_78 : decode cX7_init 78 = .ok (.putfield 54, 3) := by decide +kernel
theorem dX7_init_81 : decode cX7_init 81 = .ok (.aload_n 0, 1) := by decide +kernel
theorem dX7_init_82 : decode cX7_init 82 = .ok (.invokevirtual 58, 3) := by decide +kernel
theorem dX7_init_85 : decode cX7_init 85 = .ok (.return_, 1) := by decide +kernel
set_option maxRecDepth 20000 in
theorem ggX7_plan_X7_isWithin : GoodIn wsX7_plan wsX7_isWithin := goodIn_r _ [13] (by decide +kernel) (by decide +kernel)
set_option maxRecDepth 20000 in
theorem gX7_plan_X7_isWithin : GoodIn wsX7_plan (va_wsS RX7 61 yX7_isWithin wsX7_isWithin) := goodIn_app (goodIn_of _ (by decide +kernel)) ggX7_plan_X7_isWithin
set_option maxRecDepth 20000 in
theorem ggX7_plan_X3_set : GoodIn wsX7_plan wsX3_set := goodIn_r _ [18, 19, 20, 21, 22, 207, 208, 209, 210] (by decide +kernel) (by decide +kernel)
set_option maxRecDepth 20000 in
theorem gX7_plan_X3_set : GoodIn wsX7_plan (wsV RX7 85 RX3 yX3_set wsX3_set) := goodIn_app (goodIn_of _ (by decide +kernel)) ggX7_plan_X3_set
set_option maxRecDepth 20000 in
theorem ggX7_plan_X7_renew : GoodIn wsX7_plan wsX7_renew := goodIn_r _ [26, 27, 7, 5, 8, 28, 29, 30, 31, 32, 33, 34, 35, 36, 17, 37, 21, 38, 39, 40, 41, 42, 43, 44, 45, 46, 47, 48, 49, 20, 50, 12, 51, 52, 53, 54, 55, 56, 57, 58, 59, 60, 61, 62, 63, 64, 65, 66, 67, 68, 69, 70, 71, 72, 73, 74, 75, 76, 77, 78, 79, 80, 81, 82, 83, 84, 85, 86, 87, 88, 89, 90, 91, 92, 93, 94, 95, 96, 97, 98, 99, 100, 101, 102, 103, 104, 105, 106, 22, 19, 107, 108, 109, 110, 111, 112, 113, 114, 115, 116, 117, 118, 119, 120, 121, 122, 123, 124, 125, 126, 127, 128, 129, 130, 131, 132, 133, 134, 135, 136, 137, 138, 139, 140, 141, 142, 143, 144, 145, 146, 147, 148, 149, 150, 151, 152, 153, 154, 155, 156, 157, 158, 159, 160, 161, 162, 163, 164, 165, 166, 167, 168, 169, 170, 171, 172, 173, 174, 175, 176, 177, 178, 179, 180, 181, 182, 183, 184, 185, 186, 187, 188, 189, 190, 191, 192, 207, 208, 209, 210, 193, 194, 195, 196, 197, 211, 212, 213, 198, 199, 200, 201, 202, 203, 204, 205, 206, 214, 215, 216, 217, 218, 219, 220, 221, 222, 223] (by decide +kernel) (by decide +kernel)
set_option maxRecDepth 20000 in
theorem gX7_plan_X7_renew : GoodIn wsX7_plan (wsV RX7 58 RX7 yX7_renew wsX7_renew) := goodIn_app (goodIn_of _ (by decide +kernel)) ggX7_plan_X7_renew
theorem dX7_plan_0 : decode cX7_plan 0 = .ok (.iload_n 1, 1) := by decide +kernel
theorem dX7_plan_1 : decode cX7_plan 1 = .ok (.iconst 1, 1) := by decide +kernel
theorem dX7_plan_2 : decode cX7_plan 2 = .ok (.iconst 4, 1) := by decide +kernel
theorem dX7_plan_3 : decode cX7_plan 3 = .ok (.invokestatic 61, 3) := by decide +kernel
theorem dX7_plan_6 : decode cX7_plan 6 = .ok (.ifCond .eq 12, 3) := by decide +kernel
theorem dX7_plan_9 : decode cX7_plan 9 = .ok (.iload_n 2, 1) := by decide +kernel
theorem dX7_plan_10 : decode cX7_plan 10 = .ok (.iconst 1, 1) := by decide +kernel
theorem dX7_plan_11 : decode cX7_plan 11 = .ok (.iconst 4, 1) := by decide +kernel
theorem dX7_plan_12 : decode cX7_plan 12 = .ok (.invokestatic 61, 3) := by decide +kernel
theorem dX7_plan_15 : decode cX7_plan 15 = .ok (.ifCond .ne 13, 3) := by decide +kernel
theorem dX7_plan_18 : decode cX7_plan 18 = .ok (.new 65, 3) := by decide +kernel
theorem dX7_plan_21 : decode cX7_plan 21 = .ok (.dup, 1) := by decide +kernel
theorem dX7_plan_22 : decode cX7_plan 22 = .ok (.ldc 67, 2) := by decide +kernel
theorem dX7_plan_24 : decode cX7_plan 24 = .ok (.invokespecial 69, 3) := by decide +kernel
theorem dX7_plan_27 : decode cX7_plan 27 = .ok (.athrow, 1) := by decide +kernel
theorem dX7_plan_28 : decode cX7_plan 28 = .ok (.iload_n 3, 1) := by decide +kernel
theorem dX7_plan_29 : decode cX7_plan 29 = .ok (.iconst 0, 1) := by decide +kernel
theorem dX7_plan_30 : decode cX7_plan 30 = .ok (.iconst 2, 1) := by decide +kernel
theorem dX7_plan_31 : decode cX7_plan 31 = .ok (.invokestatic 61, 3) := by decide +kernel
theorem dX7_plan_34 : decode cX7_plan 34 = .ok (.ifCond .ne 13, 3) := by decide +kernel
theorem dX7_plan_37 : decode cX7_plan 37 = .ok (.new 65, 3) := by decide +kernel
theorem dX7_plan_40 : decode cX7_plan 40 = .ok (.dup, 1) := by decide +kernel
theorem dX7_plan_41 : decode cX7_plan 41 = .ok (.ldc 72, 2) := by decide +kernel
theorem dX7_plan_43 : decode cX7_plan 43 = .ok (.invokespecial 69, 3) := by decide +kernel
theorem dX7_plan_46 : decode cX7_plan 46 = .ok (.athrow, 1) := by decide +kernel
theorem dX7_plan_47 : decode cX7_plan 47 = .ok (.iload 4, 2) := by decide +kernel
theorem dX7_plan_49 : decode cX7_plan 49 = .ok (.ifCond .eq 19, 3) := by decide +kernel
theorem dX7_plan_52 : decode cX7_plan 52 = .ok (.iload 4, 2) := by decide +kernel
theorem dX7_plan_54 : decode cX7_plan 54 = .ok (.iconst 1, 1) := by decide +kernel
theorem dX7_plan_55 : decode cX7_plan 55 = .ok (.if_icmp .eq 13, 3) := by decide +kernel
theorem dX7_plan_58 : decode cX7_plan 58 = .ok (.new 65, 3) := by decide +kernel
theorem dX7_plan_61 : decode cX7_plan 61 = .ok (.dup, 1) := by decide +kernel
theorem dX7_plan_62 : decode cX7_plan 62 = .ok (.ldc 74, 2) := by decide +kernel
theorem dX7_plan_64 : decode cX7_plan 64 = .ok (.invokespecial 69, 3) := by decide +kernel
theorem dX7_plan_67 : decode cX7_plan 67 = .ok (.athrow, 1) := by decide +kernel
theorem dX7_plan_68 : decode cX7_plan 68 = .ok (.aload_n 0, 1) := by decide +kernel
theorem dX7_plan_69 : decode cX7_plan 69 = .ok (.getfield 47, 3) := by decide +kernel
theorem dX7_plan_72 : decode cX7_plan 72 = .ok (.getfield 76, 3) := by decide +kernel
theorem dX7_plan_75 : decode cX7_plan 75 = .ok (.ifCond .eq 13, 3) := by decide +kernel
theorem dX7_plan_78 : decode cX7_plan 78 = .ok (.new 80, 3) := by decide +kernel
theorem dX7_plan_81 : decode cX7_plan 81 = .ok (.dup, 1) := by decide +kernel
theorem dX7_plan_82 : decode cX7_plan 82 = .ok (.ldc 82, 2) := by decide +kernel
theorem dX7_plan_84 : decode cX7_plan 84 = .ok (.invokespecial 84, 3) := by decide +kernel
theorem dX7_plan_87 : decode cX7_plan 87 = .ok (.athrow, 1) := by decide +kernel
theorem dX7_plan_88 : decode cX7_plan 88 = .ok (.aload_n 0, 1) := by decide +kernel
theorem dX7_plan_89 : decode cX7_plan 89 = .ok (.getfield 12, 3) := by decide +kernel
theorem dX7_plan_92 : decode cX7_plan 92 = .ok (.iload_n 1, 1) := by decide +kernel
theorem dX7_plan_93 : decode cX7_plan 93 = .ok (.iload_n 2, 1) := by decide +kernel
theorem dX7_plan_94 : decode cX7_plan 94 = .ok (.iload_n 3, 1) := by decide +kernel
theorem dX7_plan_95 : decode cX7_plan 95 = .ok (.iload 4, 2) := by decide +kernel
theorem dX7_plan_97 : decode cX7_plan 97 = .ok (.invokevirtual 85, 3) := by decide +kernel
theorem dX7_plan_100 : decode cX7_plan 100 = .ok (.aload_n 0, 1) := by decide +kernel
theorem dX7_plan_101 : decode cX7_plan 101 = .ok (.invokevirtual 58, 3) := by decide +kernel
theorem dX7_plan_104 : decode cX7_plan 104 = .ok (.aload_n 0, 1) := by decide +kernel
theorem dX7_plan_105 : decode cX7_plan 105 = .ok (.getfield 26, 3) := by decide +kernel
theorem dX7_plan_108 : decode cX7_plan 108 = .ok (.getfield 89, 3) := by decide +kernel
theorem dX7_plan_111 : decode cX7_plan 111 = .ok (.ireturn, 1) := by decide +kernel
set_option maxRecDepth 20000 in
theorem ggX7_pillar_X7_isCell : GoodIn wsX7_pillar wsX7_isCell := goodIn_r _ [11] (by decide +kernel) (by decide +kernel)
set_option maxRecDepth 20000 in
theorem gX7_pillar_X7_isCell : GoodIn wsX7_pillar (va_wsS RX7 93 yX7_isCell wsX7_isCell) := goodIn_app (goodIn_of _ (by decide +kernel)) ggX7_pillar_X7_isCell
set_option maxRecDepth 20000 in
theorem ggX7_pillar_X0_setPillar : GoodIn wsX7_pillar wsX0_setPillar := goodIn_r _ [16, 17, 9, 10, 11, 18, 19, 195, 196, 197] (by decide +kernel) (by decide +kernel)
set_option maxRecDepth 20000 in
theorem gX7_pillar_X0_setPillar : GoodIn wsX7_pillar (wsV RX7 102 RX0 yX0_setPillar wsX0_setPillar) := goodIn_app (goodIn_of _ (by decide +kernel)) ggX7_pillar_X0_setPillar
set_option maxRecDepth 20000 in
theorem ggX7_pillar_X7_renew : GoodIn wsX7_pillar wsX7_renew := goodIn_r _ [23, 7, 24, 5, 25, 26, 27, 28, 29, 15, 30, 31, 32, 33, 34, 35, 36, 37, 38, 39, 40, 41, 42, 43, 44, 45, 46, 47, 48, 49, 50, 10, 51, 52, 53, 54, 55, 56, 57, 58, 59, 60, 61, 62, 17, 9, 11, 18, 19, 63, 64, 65, 66, 67, 68, 69, 70, 71, 72, 73, 74, 75, 76, 77, 78, 79, 80, 81, 82, 83, 84, 85, 86, 87, 88, 89, 90, 91, 92, 93, 94, 95, 96, 97, 98, 99, 100, 101, 102, 103, 104, 105, 106, 107, 108, 109, 110, 111, 112, 113, 114, 115, 116, 117, 118, 119, 120, 121, 122, 123, 124, 125, 126, 127, 128, 129, 130, 131, 132, 133, 134, 135, 136, 137, 138, 139, 140, 141, 142, 143, 144, 145, 146, 147, 148, 149, 150, 151, 152, 153, 154, 155, 156, 157, 158, 159, 160, 161, 162, 163, 164, 165, 166, 167, 168, 169, 170, 171, 172, 173, 174, 175, 176, 177, 178, 179, 180, 181, 182, 183, 184, 185, 186, 187, 188, 189, 198, 199, 200, 201, 190, 191, 192, 193, 194, 195, 196, 197, 202, 203, 204, 205, 206, 207, 208, 209, 210, 211, 212, 213, 214, 215, 216, 217, 218, 219, 220] (by decide +kernel) (by decide +kernel)
set_option maxRecDepth 20000 in
theorem gX7_pillar_X7_renew : GoodIn wsX7_pillar (wsV RX7 58 RX7 yX7_renew wsX7_renew) := goodIn_app (goodIn_of _ (by decide +kernel)) ggX7_pillar_X7_renew
theorem dX7_pillar_0 : decode cX7_pillar 0 = .ok (.iload_n 1, 1) := by decide +kernel
theorem dX7_pillar_1 : decode cX7_pillar 1 = .ok (.iload_n 2, 1) := by decide +kernel
theorem dX7_pillar_2 : decode cX7_pillar 2 = .ok (.invokestatic 93, 3) := by decide +kernel
theorem dX7_pillar_5 : decode cX7_pillar 5 = .ok (.ifCond .ne 13, 3) := by decide +kernel
theorem dX7_pillar_8 : decode cX7_pillar 8 = .ok (.new 97, 3) := by decide +kernel
theorem dX7_pillar_11 : decode cX7_pillar 11 = .ok (.dup, 1) := by decide +kernel
theorem dX7_pillar_12 : decode cX7_pillar 12 = .ok (.ldc 99, 2) := by decide +kernel
theorem dX7_pillar_14 : decode cX7_pillar 14 = .ok (.invokespecial 101, 3) := by decide +kernel
theorem dX7_pillar_17 : decode cX7_pillar 17 = .ok (.athrow, 1) := by decide +kernel
theorem dX7_pillar_18 : decode cX7_pillar 18 = .ok (.aload_n 0, 1) := by decide +kernel
theorem dX7_pillar_19 : decode cX7_pillar 19 = .ok (.getfield 47, 3) := by decide +kernel
theorem dX7_pillar_22 : decode cX7_pillar 22 = .ok (.getfield 76, 3) := by decide +kernel
theorem dX7_pillar_25 : decode cX7_pillar 25 = .ok (.ifCond .eq 13, 3) := by decide +kernel
theorem dX7_pillar_28 : decode cX7_pillar 28 = .ok (.new 80, 3) := by decide +kernel
theorem dX7_pillar_31 : decode cX7_pillar 31 = .ok (.dup, 1) := by decide +kernel
theorem dX7_pillar_32 : decode cX7_pillar 32 = .ok (.ldc 82, 2) := by decide +kernel
theorem dX7_pillar_34 : decode cX7_pillar 34 = .ok (.invokespecial 84, 3) := by decide +kernel
theorem dX7_pillar_37 : decode cX7_pillar 37 = .ok (.athrow, 1) := by decide +kernel
theorem dX7_pillar_38 : decode cX7_pillar 38 = .ok (.aload_n 0, 1) := by decide +kernel
theorem dX7_pillar_39 : decode cX7_pillar 39 = .ok (.getfield 19, 3) := by decide +kernel
theorem dX7_pillar_42 : decode cX7_pillar 42 = .ok (.iload_n 1, 1) := by decide +kernel
theorem dX7_pillar_43 : decode cX7_pillar 43 = .ok (.iload_n 2, 1) := by decide +kernel
theorem dX7_pillar_44 : decode cX7_pillar 44 = .ok (.iload_n 3, 1) := by decide +kernel
theorem dX7_pillar_45 : decode cX7_pillar 45 = .ok (.invokevirtual 102, 3) := by decide +kernel
theorem dX7_pillar_48 : decode cX7_pillar 48 = .ok (.istore 4, 2) := by decide +kernel
theorem dX7_pillar_50 : decode cX7_pillar 50 = .ok (.aload_n 0, 1) := by decide +kernel
theorem dX7_pillar_51 : decode cX7_pillar 51 = .ok (.invokevirtual 58, 3) := by decide +kernel
theorem dX7_pillar_54 : decode cX7_pillar 54 = .ok (.iload 4, 2) := by decide +kernel
theorem dX7_pillar_56 : decode cX7_pillar 56 = .ok (.ireturn, 1) := by decide +kernel
set_option maxRecDepth 20000 in
theorem ggX7_door_X7_isWithin : GoodIn wsX7_door wsX7_isWithin := goodIn_r _ [10] (by decide +kernel) (by decide +kernel)
set_option maxRecDepth 20000 in
theorem gX7_door_X7_isWithin : GoodIn wsX7_door (va_wsS RX7 61 yX7_isWithin wsX7_isWithin) := goodIn_app (goodIn_of _ (by decide +kernel)) ggX7_door_X7_isWithin
set_option maxRecDepth 20000 in
theorem ggX7_door_X7_renew : GoodIn wsX7_door wsX7_renew := goodIn_r _ [14, 3, 15, 16, 5, 17, 18, 19, 20, 21, 22, 23, 24, 25, 26, 27, 28, 29, 30, 31, 32, 33, 34, 35, 36, 37, 38, 39, 40, 41, 42, 9, 43, 44, 45, 46, 47, 48, 49, 50, 51, 52, 53, 54, 55, 56, 57, 58, 59, 60, 61, 62, 63, 64, 65, 66, 67, 68, 69, 70, 71, 72, 73, 74, 75, 76, 77, 78, 79, 80, 81, 82, 83, 84, 85, 86, 87, 88, 89, 90, 91, 92, 93, 94, 95, 96, 97, 98, 99, 100, 101, 102, 103, 104, 105, 106, 107, 108, 109, 110, 111, 112, 113, 114, 115, 116, 117, 118, 119, 120, 121, 122, 123, 124, 125, 126, 127, 128, 129, 130, 131, 132, 133, 134, 135, 136, 137, 138, 139, 140, 141, 142, 143, 144, 145, 146, 147, 148, 149, 150, 151, 152, 153, 154, 155, 156, 157, 158, 159, 160, 161, 162, 163, 164, 165, 166, 167, 168, 169, 170, 171, 172, 173, 174, 175, 176, 177, 178, 179, 180, 181, 182, 183, 184, 185, 186, 199, 200, 201, 202, 203, 204, 205, 206, 207, 187, 188, 189, 190, 191, 192, 193, 194, 195, 196, 197, 198, 208, 209, 210, 211, 212, 213, 214, 215, 216, 217] (by decide +kernel) (by decide +kernel)
set_option maxRecDepth 20000 in
theorem gX7_door_X7_renew : GoodIn wsX7_door (wsV RX7 58 RX7 yX7_renew wsX7_renew) := goodIn_app (goodIn_of _ (by decide +kernel)) ggX7_door_X7_renew
theorem dX7_door_0 : decode cX7_door 0 = .ok (.iload_n 1, 1) := by decide +kernel
theorem dX7_door_1 : decode cX7_door 1 = .ok (.iconst 0, 1) := by decide +kernel
theorem dX7_door_2 : decode cX7_door 2 = .ok (.bipush 10, 2) := by decide +kernel
theorem dX7_door_4 : decode cX7_door 4 = .ok (.invokestatic 61, 3) := by decide +kernel
theorem dX7_door_7 : decode cX7_door 7 = .ok (.ifCond .ne 13, 3) := by decide +kernel
theorem dX7_door_10 : decode cX7_door 10 = .ok (.new 97, 3) := by decide +kernel
theorem dX7_door_13 : decode cX7_door 13 = .ok (.dup, 1) := by decide +kernel
theorem dX7_door_14 : decode cX7_door 14 = .ok (.ldc 106, 2) := by decide +kernel
theorem dX7_door_16 : decode cX7_door 16 = .ok (.invokespecial 101, 3) := by decide +kernel
theorem dX7_door_19 : decode cX7_door 19 = .ok (.athrow, 1) := by decide +kernel
theorem dX7_door_20 : decode cX7_door 20 = .ok (.aload_n 0, 1) := by decide +kernel
theorem dX7_door_21 : decode cX7_door 21 = .ok (.getfield 19, 3) := by decide +kernel
theorem dX7_door_24 : decode cX7_door 24 = .ok (.iload_n 1, 1) := by decide +kernel
theorem dX7_door_25 : decode cX7_door 25 = .ok (.putfield 108, 3) := by decide +kernel
theorem dX7_door_28 : decode cX7_door 28 = .ok (.aload_n 0, 1) := by decide +kernel
theorem dX7_door_29 : decode cX7_door 29 = .ok (.invokevirtual 58, 3) := by decide +kernel
theorem dX7_door_32 : decode cX7_door 32 = .ok (.aload_n 0, 1) := by decide +kernel
theorem dX7_door_33 : decode cX7_door 33 = .ok (.getfield 26, 3) := by decide +kernel
theorem dX7_door_36 : decode cX7_door 36 = .ok (.getfield 89, 3) := by decide +kernel
theorem dX7_door_39 : decode cX7_door 39 = .ok (.ireturn, 1) := by decide +kernel
set_option maxRecDepth 20000 in
theorem ggX7_ofPiece_X4_has : GoodIn wsX7_ofPiece wsX4_has := goodIn_r _ [17, 18, 51, 52, 53, 54, 55, 56, 57, 58, 59] (by decide +kernel) (by decide +kernel)
set_option maxRecDepth 20000 in
theorem gX7_ofPiece_X4_has : GoodIn wsX7_ofPiece (wsV RX7 111 RX4 yX4_has wsX4_has) := goodIn_app (goodIn_of _ (by decide +kernel)) ggX7_ofPiece_X4_has
set_option maxRecDepth 20000 in
theorem ggX7_ofPiece_X7_isWithin : GoodIn wsX7_ofPiece wsX7_isWithin := goodIn_r _ [22] (by decide +kernel) (by decide +kernel)
set_option maxRecDepth 20000 in
theorem gX7_ofPiece_X7_isWithin : GoodIn wsX7_ofPiece (va_wsS RX7 61 yX7_isWithin wsX7_isWithin) := goodIn_app (goodIn_of _ (by decide +kernel)) ggX7_ofPiece_X7_isWithin
set_option maxRecDepth 20000 in
theorem ggX7_ofPiece_X3_stripOfRow : GoodIn wsX7_ofPiece wsX3_stripOfRow := goodIn_r _ [27, 28, 29, 30, 31, 26, 32, 33, 34, 35, 36, 37, 38, 39, 40, 41, 42, 21, 43, 66, 67, 68, 69] (by decide +kernel) (by decide +kernel)
set_option maxRecDepth 20000 in
theorem gX7_ofPiece_X3_stripOfRow : GoodIn wsX7_ofPiece (wsV RX7 132 RX3 yX3_stripOfRow wsX3_stripOfRow) := goodIn_app (goodIn_of _ (by decide +kernel)) ggX7_ofPiece_X3_stripOfRow
theorem dX7_ofPiece_0 : decode cX7_ofPiece 0 = .ok (.aload_n 0, 1) := by decide +kernel
theorem dX7_ofPiece_1 : decode cX7_ofPiece 1 = .ok (.getfield 26, 3) := by decide +kernel
theorem dX7_ofPiece_4 : decode cX7_ofPiece 4 = .ok (.iload_n 1, 1) := by decide +kernel
theorem dX7_ofPiece_5 : decode cX7_ofPiece 5 = .ok (.invokevirtual 111, 3) := by decide +kernel
theorem dX7_ofPiece_8 : decode cX7_ofPiece 8 = .ok (.ifCond .ne 13, 3) := by decide +kernel
theorem dX7_ofPiece_11 : decode cX7_ofPiece 11 = .ok (.new 97, 3) := by decide +kernel
theorem dX7_ofPiece_14 : decode cX7_ofPiece 14 = .ok (.dup, 1) := by decide +kernel
theorem dX7_ofPiece_15 : decode cX7_ofPiece 15 = .ok (.ldc 115, 2) := by decide +kernel
theorem dX7_ofPiece_17 : decode cX7_ofPiece 17 = .ok (.invokespecial 101, 3) := by decide +kernel
theorem dX7_ofPiece_20 : decode cX7_ofPiece 20 = .ok (.athrow, 1) := by decide +kernel
theorem dX7_ofPiece_21 : decode cX7_ofPiece 21 = .ok (.iload_n 2, 1) := by decide +kernel
theorem dX7_ofPiece_22 : decode cX7_ofPiece 22 = .ok (.iconst 0, 1) := by decide +kernel
theorem dX7_ofPiece_23 : decode cX7_ofPiece 23 = .ok (.iconst 5, 1) := by decide +kernel
theorem dX7_ofPiece_24 : decode cX7_ofPiece 24 = .ok (.invokestatic 61, 3) := by decide +kernel
theorem dX7_ofPiece_27 : decode cX7_ofPiece 27 = .ok (.ifCond .ne 13, 3) := by decide +kernel
theorem dX7_ofPiece_30 : decode cX7_ofPiece 30 = .ok (.new 65, 3) := by decide +kernel
theorem dX7_ofPiece_33 : decode cX7_ofPiece 33 = .ok (.dup, 1) := by decide +kernel
theorem dX7_ofPiece_34 : decode cX7_ofPiece 34 = .ok (.ldc 117, 2) := by decide +kernel
theorem dX7_ofPiece_36 : decode cX7_ofPiece 36 = .ok (.invokespecial 69, 3) := by decide +kernel
theorem dX7_ofPiece_39 : decode cX7_ofPiece 39 = .ok (.athrow, 1) := by decide +kernel
theorem dX7_ofPiece_40 : decode cX7_ofPiece 40 = .ok (.iload_n 2, 1) := by decide +kernel
theorem dX7_ofPiece_41 : decode cX7_ofPiece 41 = .ok (.tableswitch 92 0 4 #[35, 45, 55, 65, 75], 35) := by decide +kernel
theorem dX7_ofPiece_76 : decode cX7_ofPiece 76 = .ok (.aload_n 0, 1) := by decide +kernel
theorem dX7_ofPiece_77 : decode cX7_ofPiece 77 = .ok (.getfield 26, 3) := by decide +kernel
theorem dX7_ofPiece_80 : decode cX7_ofPiece 80 = .ok (.getfield 119, 3) := by decide +kernel
theorem dX7_ofPiece_83 : decode cX7_ofPiece 83 = .ok (.iload_n 1, 1) := by decide +kernel
theorem dX7_ofPiece_84 : decode cX7_ofPiece 84 = .ok (.iaload, 1) := by decide +kernel
theorem dX7_ofPiece_85 : decode cX7_ofPiece 85 = .ok (.ireturn, 1) := by decide +kernel
theorem dX7_ofPiece_86 : decode cX7_ofPiece 86 = .ok (.aload_n 0, 1) := by decide +kernel
theorem dX7_ofPiece_87 : decode cX7_ofPiece 87 = .ok (.getfield 26, 3) := by decide +kernel
theorem dX7_ofPiece_90 : decode cX7_ofPiece 90 = .ok (.getfield 123, 3) := by decide +kernel
theorem dX7_ofPiece_93 : decode cX7_ofPiece 93 = .ok (.iload_n 1, 1) := by decide +kernel
theorem dX7_ofPiece_94 : decode cX7_ofPiece 94 = .ok (.iaload, 1) := by decide +kernel
theorem dX7_ofPiece_95 : decode cX7_ofPiece 95 = .ok (.ireturn, 1) := by decide +kernel
theorem dX7_ofPiece_96 : decode cX7_ofPiece 96 = .ok (.aload_n 0, 1) := by decide +kernel
theorem dX7_ofPiece_97 : decode cX7_ofPiece 97 = .ok (.getfield 26, 3) := by decide +kernel
theorem dX7_ofPiece_100 : decode cX7_ofPiece 100 = .ok (.getfield 126, 3) := by decide +kernel
theorem dX7_ofPiece_103 : decode cX7_ofPiece 103 = .ok (.iload_n 1, 1) := by decide +kernel
theorem dX7_ofPiece_104 : decode cX7_ofPiece 104 = .ok (.iaload, 1) := by decide +kernel
theorem dX7_ofPiece_105 : decode cX7_ofPiece 105 = .ok (.ireturn, 1) := by decide +kernel
theorem dX7_ofPiece_106 : decode cX7_ofPiece 106 = .ok (.aload_n 0, 1) := by decide +kernel
theorem dX7_ofPiece_107 : decode cX7_ofPiece 107 = .ok (.getfield 26, 3) := by decide +kernel
theorem dX7_ofPiece_110 : decode cX7_ofPiece 110 = .ok (.getfield 129, 3) := by decide +kernel
theorem dX7_ofPiece_113 : decode cX7_ofPiece 113 = .ok (.iload_n 1, 1) := by decide +kernel
theorem dX7_ofPiece_114 : decode cX7_ofPiece 114 = .ok (.iaload, 1) := by decide +kernel
theorem dX7_ofPiece_115 : decode cX7_ofPiece 115 = .ok (.ireturn, 1) := by decide +kernel
theorem dX7_ofPiece_116 : decode cX7_ofPiece 116 = .ok (.aload_n 0, 1) := by decide +kernel
theorem dX7_ofPiece_117 : decode cX7_ofPiece 117 = .ok (.getfield 12, 3) := by decide +kernel
theorem dX7_ofPiece_120 : decode cX7_ofPiece 120 = .ok (.aload_n 0, 1) := by decide +kernel
theorem dX7_ofPiece_121 : decode cX7_ofPiece 121 = .ok (.getfield 26, 3) := by decide +kernel
theorem dX7_ofPiece_124 : decode cX7_ofPiece 124 = .ok (.getfield 126, 3) := by decide +kernel
theorem dX7_ofPiece_127 : decode cX7_ofPiece 127 = .ok (.iload_n 1, 1) := by decide +kernel
theorem dX7_ofPiece_128 : decode cX7_ofPiece 128 = .ok (.iaload, 1) := by decide +kernel
theorem dX7_ofPiece_129 : decode cX7_ofPiece 129 = .ok (.invokevirtual 132, 3) := by decide +kernel
theorem dX7_ofPiece_132 : decode cX7_ofPiece 132 = .ok (.ireturn, 1) := by decide +kernel
theorem dX7_ofPiece_133 : decode cX7_ofPiece 133 = .ok (.aload_n 0, 1) := by decide +kernel
theorem dX7_ofPiece_134 : decode cX7_ofPiece 134 = .ok (.getfield 33, 3) := by decide +kernel
theorem dX7_ofPiece_137 : decode cX7_ofPiece 137 = .ok (.getfield 136, 3) := by decide +kernel
theorem dX7_ofPiece_140 : decode cX7_ofPiece 140 = .ok (.iload_n 1, 1) := by decide +kernel
theorem dX7_ofPiece_141 : decode cX7_ofPiece 141 = .ok (.iaload, 1) := by decide +kernel
theorem dX7_ofPiece_142 : decode cX7_ofPiece 142 = .ok (.ireturn, 1) := by decide +kernel
set_option maxRecDepth 20000 in
theorem ggX7_pieceAt_X7_isCell : GoodIn wsX7_pieceAt wsX7_isCell := goodIn_r _ [8] (by decide +kernel) (by decide +kernel)
set_option maxRecDepth 20000 in
theorem gX7_pieceAt_X7_isCell : GoodIn wsX7_pieceAt (va_wsS RX7 93 yX7_isCell wsX7_isCell) := goodIn_app (goodIn_of _ (by decide +kernel)) ggX7_pieceAt_X7_isCell
set_option maxRecDepth 20000 in
theorem ggX7_pieceAt_X7_cellAt : GoodIn wsX7_pieceAt wsX7_cellAt := goodIn_r _ [11] (by decide +kernel) (by decide +kernel)
set_option maxRecDepth 20000 in
theorem gX7_pieceAt_X7_cellAt : GoodIn wsX7_pieceAt (va_wsS RX7 142 yX7_cellAt wsX7_cellAt) := goodIn_app (goodIn_of _ (by decide +kernel)) ggX7_pieceAt_X7_cellAt
theorem dX7_pieceAt_0 : decode cX7_pieceAt 0 = .ok (.iload_n 1, 1) := by decide +kernel
theorem dX7_pieceAt_1 : decode cX7_pieceAt 1 = .ok (.iload_n 2, 1) := by decide +kernel
theorem dX7_pieceAt_2 : decode cX7_pieceAt 2 = .ok (.invokestatic 93, 3) := by decide +kernel
theorem dX7_pieceAt_5 : decode cX7_pieceAt 5 = .ok (.ifCond .ne 13, 3) := by decide +kernel
theorem dX7_pieceAt_8 : decode cX7_pieceAt 8 = .ok (.new 97, 3) := by decide +kernel
theorem dX7_pieceAt_11 : decode cX7_pieceAt 11 = .ok (.dup, 1) := by decide +kernel
theorem dX7_pieceAt_12 : decode cX7_pieceAt 12 = .ok (.ldc 99, 2) := by decide +kernel
theorem dX7_pieceAt_14 : decode cX7_pieceAt 14 = .ok (.invokespecial 101, 3) := by decide +kernel
theorem dX7_pieceAt_17 : decode cX7_pieceAt 17 = .ok (.athrow, 1) := by decide +kernel
theorem dX7_pieceAt_18 : decode cX7_pieceAt 18 = .ok (.aload_n 0, 1) := by decide +kernel
theorem dX7_pieceAt_19 : decode cX7_pieceAt 19 = .ok (.getfield 26, 3) := by decide +kernel
theorem dX7_pieceAt_22 : decode cX7_pieceAt 22 = .ok (.getfield 139, 3) := by decide +kernel
theorem dX7_pieceAt_25 : decode cX7_pieceAt 25 = .ok (.iload_n 1, 1) := by decide +kernel
theorem dX7_pieceAt_26 : decode cX7_pieceAt 26 = .ok (.iload_n 2, 1) := by decide +kernel
theorem dX7_pieceAt_27 : decode cX7_pieceAt 27 = .ok (.invokestatic 142, 3) := by decide +kernel
theorem dX7_pieceAt_30 : decode cX7_pieceAt 30 = .ok (.iaload, 1) := by decide +kernel
theorem dX7_pieceAt_31 : decode cX7_pieceAt 31 = .ok (.ireturn, 1) := by decide +kernel
set_option maxRecDepth 20000 in
theorem ggX7_piecesAnew_X7_isFirstOfItsPiece : GoodIn wsX7_piecesAnew wsX7_isFirstOfItsPiece := goodIn_r _ [5, 6, 7, 8, 9, 10, 11, 12, 13, 14, 15, 16, 17, 18, 4, 19, 20, 21, 22, 23, 24, 25, 26, 27, 28, 29, 30, 31, 32, 33, 34, 35, 36, 37, 38, 39, 40, 41, 42, 43, 44, 45, 46, 47, 48, 49, 50, 51, 52, 53, 54, 55, 56, 57, 58, 59, 60, 61, 62, 63, 64, 65, 66, 67, 68, 69, 70, 71, 72, 73, 74, 75, 76, 77, 78, 79, 80, 81, 82] (by decide +kernel) (by decide +kernel)
set_option maxRecDepth 20000 in
theorem gX7_piecesAnew_X7_isFirstOfItsPiece : GoodIn wsX7_piecesAnew (wsV RX7 146 RX7 yX7_isFirstOfItsPiece wsX7_isFirstOfItsPiece) := goodIn_app (goodIn_of _ (by decide +kernel)) ggX7_piecesAnew_X7_isFirstOfItsPiece
theorem dX7_piecesAnew_0 : decode cX7_piecesAnew 0 = .ok (.iconst 0, 1) := by decide +kernel
theorem dX7_piecesAnew_1 : decode cX7_piecesAnew 1 = .ok (.istore_n 1, 1) := by decide +kernel
theorem dX7_piecesAnew_2 : decode cX7_piecesAnew 2 = .ok (.iconst 0, 1) := by decide +kernel
theorem dX7_piecesAnew_3 : decode cX7_piecesAnew 3 = .ok (.istore_n 2, 1) := by decide +kernel
theorem dX7_piecesAnew_4 : decode cX7_piecesAnew 4 = .ok (.iload_n 2, 1) := by decide +kernel
theorem dX7_piecesAnew_5 : decode cX7_piecesAnew 5 = .ok (.bipush 8, 2) := by decide +kernel
theorem dX7_piecesAnew_7 : decode cX7_piecesAnew 7 = .ok (.if_icmp .ge 35, 3) := by decide +kernel
theorem dX7_piecesAnew_10 : decode cX7_piecesAnew 10 = .ok (.iconst 0, 1) := by decide +kernel
theorem dX7_piecesAnew_11 : decode cX7_piecesAnew 11 = .ok (.istore_n 3, 1) := by decide +kernel
theorem dX7_piecesAnew_12 : decode cX7_piecesAnew 12 = .ok (.iload_n 3, 1) := by decide +kernel
theorem dX7_piecesAnew_13 : decode cX7_piecesAnew 13 = .ok (.bipush 12, 2) := by decide +kernel
theorem dX7_piecesAnew_15 : decode cX7_piecesAnew 15 = .ok (.if_icmp .ge 21, 3) := by decide +kernel
theorem dX7_piecesAnew_18 : decode cX7_piecesAnew 18 = .ok (.aload_n 0, 1) := by decide +kernel
theorem dX7_piecesAnew_19 : decode cX7_piecesAnew 19 = .ok (.iload_n 3, 1) := by decide +kernel
theorem dX7_piecesAnew_20 : decode cX7_piecesAnew 20 = .ok (.iload_n 2, 1) := by decide +kernel
theorem dX7_piecesAnew_21 : decode cX7_piecesAnew 21 = .ok (.invokevirtual 146, 3) := by decide +kernel
theorem dX7_piecesAnew_24 : decode cX7_piecesAnew 24 = .ok (.ifCond .eq 6, 3) := by decide +kernel
theorem dX7_piecesAnew_27 : decode cX7_piecesAnew 27 = .ok (.iinc 1 1, 3) := by decide +kernel
theorem dX7_piecesAnew_30 : decode cX7_piecesAnew 30 = .ok (.iinc 3 1, 3) := by decide +kernel
theorem dX7_piecesAnew_33 : decode cX7_piecesAnew 33 = .ok (.goto (-21), 3) := by decide +kernel
theorem dX7_piecesAnew_36 : decode cX7_piecesAnew 36 = .ok (.iinc 2 1, 3) := by decide +kernel
theorem dX7_piecesAnew_39 : decode cX7_piecesAnew 39 = .ok (.goto (-35), 3) := by decide +kernel
theorem dX7_piecesAnew_42 : decode cX7_piecesAnew 42 = .ok (.iload_n 1, 1) := by decide +kernel
theorem dX7_piecesAnew_43 : decode cX7_piecesAnew 43 = .ok (.ireturn, 1) := by decide +kernel
theorem dX7_tiles_0 : decode cX7_tiles 0 = .ok (.aload_n 0, 1) := by decide +kernel
theorem dX7_tiles_1 : decode cX7_tiles 1 = .ok (.getfield 33, 3) := by decide +kernel
theorem dX7_tiles_4 : decode cX7_tiles 4 = .ok (.getfield 149, 3) := by decide +kernel
theorem dX7_tiles_7 : decode cX7_tiles 7 = .ok (.ireturn, 1) := by decide +kernel
set_option maxRecDepth 20000 in
theorem ggX7_rest_X1_sizeOfRest : GoodIn wsX7_rest wsX1_sizeOfRest := goodIn_r _ [8, 9, 10, 11, 12, 13, 7, 14, 15, 23, 24, 25, 26, 27, 28] (by decide +kernel) (by decide +kernel)
set_option maxRecDepth 20000 in
theorem gX7_rest_X1_sizeOfRest : GoodIn wsX7_rest (wsV RX7 154 RX1 yX1_sizeOfRest wsX1_sizeOfRest) := goodIn_app (goodIn_of _ (by decide +kernel)) ggX7_rest_X1_sizeOfRest
theorem dX7_rest_0 : decode cX7_rest 0 = .ok (.iload_n 1, 1) := by decide +kernel
theorem dX7_rest_1 : decode cX7_rest 1 = .ok (.ifCond .ge 13, 3) := by decide +kernel
theorem dX7_rest_4 : decode cX7_rest 4 = .ok (.new 97, 3) := by decide +kernel
theorem dX7_rest_7 : decode cX7_rest 7 = .ok (.dup, 1) := by decide +kernel
theorem dX7_rest_8 : decode cX7_rest 8 = .ok (.ldc 152, 2) := by decide +kernel
theorem dX7_rest_10 : decode cX7_rest 10 = .ok (.invokespecial 101, 3) := by decide +kernel
theorem dX7_rest_13 : decode cX7_rest 13 = .ok (.athrow, 1) := by decide +kernel
theorem dX7_rest_14 : decode cX7_rest 14 = .ok (.aload_n 0, 1) := by decide +kernel
theorem dX7_rest_15 : decode cX7_rest 15 = .ok (.getfield 33, 3) := by decide +kernel
theorem dX7_rest_18 : decode cX7_rest 18 = .ok (.iload_n 1, 1) := by decide +kernel
theorem dX7_rest_19 : decode cX7_rest 19 = .ok (.invokevirtual 154, 3) := by decide +kernel
theorem dX7_rest_22 : decode cX7_rest 22 = .ok (.ireturn, 1) := by decide +kernel
set_option maxRecDepth 20000 in
theorem ggX7_crate_X7_isFloor : GoodIn wsX7_crate wsX7_isFloor := goodIn_r _ [10, 11, 12, 9, 13] (by decide +kernel) (by decide +kernel)
set_option maxRecDepth 20000 in
theorem gX7_crate_X7_isFloor : GoodIn wsX7_crate (va_wsS RX7 157 yX7_isFloor wsX7_isFloor) := goodIn_app (goodIn_of _ (by decide +kernel)) ggX7_crate_X7_isFloor
set_option maxRecDepth 20000 in
theorem ggX7_crate_X7_isWithin : GoodIn wsX7_crate wsX7_isWithin := goodIn_r _ [13] (by decide +kernel) (by decide +kernel)
set_option maxRecDepth 20000 in
theorem gX7_crate_X7_isWithin : GoodIn wsX7_crate (va_wsS RX7 61 yX7_isWithin wsX7_isWithin) := goodIn_app (goodIn_of _ (by decide +kernel)) ggX7_crate_X7_isWithin
set_option maxRecDepth 20000 in
theorem ggX7_crate_X5_isFull : GoodIn wsX7_crate wsX5_isFull := goodIn_r _ [18, 19, 33, 34, 35, 36] (by decide +kernel) (by decide +kernel)
set_option maxRecDepth 20000 in
theorem gX7_crate_X5_isFull : GoodIn wsX7_crate (wsV RX7 164 RX5 yX5_isFull wsX5_isFull) := goodIn_app (goodIn_of _ (by decide +kernel)) ggX7_crate_X5_isFull
set_option maxRecDepth 20000 in
theorem ggX7_crate_X5_put : GoodIn wsX7_crate wsX5_put := goodIn_r _ [23, 19, 24, 25, 33, 34, 35, 36] (by decide +kernel) (by decide +kernel)
set_option maxRecDepth 20000 in
theorem gX7_crate_X5_put : GoodIn wsX7_crate (wsV RX7 170 RX5 yX5_put wsX5_put) := goodIn_app (goodIn_of _ (by decide +kernel)) ggX7_crate_X5_put
theorem dX7_crate_0 : decode cX7_crate 0 = .ok (.iload_n 1, 1) := by decide +kernel
theorem dX7_crate_1 : decode cX7_crate 1 = .ok (.invokestatic 157, 3) := by decide +kernel
theorem dX7_crate_4 : decode cX7_crate 4 = .ok (.ifCond .ne 13, 3) := by decide +kernel
theorem dX7_crate_7 : decode cX7_crate 7 = .ok (.new 65, 3) := by decide +kernel
theorem dX7_crate_10 : decode cX7_crate 10 = .ok (.dup, 1) := by decide +kernel
theorem dX7_crate_11 : decode cX7_crate 11 = .ok (.ldc 160, 2) := by decide +kernel
theorem dX7_crate_13 : decode cX7_crate 13 = .ok (.invokespecial 69, 3) := by decide +kernel
theorem dX7_crate_16 : decode cX7_crate 16 = .ok (.athrow, 1) := by decide +kernel
theorem dX7_crate_17 : decode cX7_crate 17 = .ok (.iload_n 2, 1) := by decide +kernel
theorem dX7_crate_18 : decode cX7_crate 18 = .ok (.iconst 1, 1) := by decide +kernel
theorem dX7_crate_19 : decode cX7_crate 19 = .ok (.bipush 100, 2) := by decide +kernel
theorem dX7_crate_21 : decode cX7_crate 21 = .ok (.invokestatic 61, 3) := by decide +kernel
theorem dX7_crate_24 : decode cX7_crate 24 = .ok (.ifCond .ne 13, 3) := by decide +kernel
theorem dX7_crate_27 : decode cX7_crate 27 = .ok (.new 65, 3) := by decide +kernel
theorem dX7_crate_30 : decode cX7_crate 30 = .ok (.dup, 1) := by decide +kernel
theorem dX7_crate_31 : decode cX7_crate 31 = .ok (.ldc 162, 2) := by decide +kernel
theorem dX7_crate_33 : decode cX7_crate 33 = .ok (.invokespecial 69, 3) := by decide +kernel
theorem dX7_crate_36 : decode cX7_crate 36 = .ok (.athrow, 1) := by decide +kernel
theorem dX7_crate_37 : decode cX7_crate 37 = .ok (.aload_n 0, 1) := by decide +kernel
theorem dX7_crate_38 : decode cX7_crate 38 = .ok (.getfield 40, 3) := by decide +kernel
theorem dX7_crate_41 : decode cX7_crate 41 = .ok (.invokevirtual 164, 3) := by decide +kernel
theorem dX7_crate_44 : decode cX7_crate 44 = .ok (.ifCond .eq 13, 3) := by decide +kernel
theorem dX7_crate_47 : decode cX7_crate 47 = .ok (.new 80, 3) := by decide +kernel
theorem dX7_crate_50 : decode cX7_crate 50 = .ok (.dup, 1) := by decide +kernel
theorem dX7_crate_51 : decode cX7_crate 51 = .ok (.ldc 168, 2) := by decide +kernel
theorem dX7_crate_53 : decode cX7_crate 53 = .ok (.invokespecial 84, 3) := by decide +kernel
theorem dX7_crate_56 : decode cX7_crate 56 = .ok (.athrow, 1) := by decide +kernel
theorem dX7_crate_57 : decode cX7_crate 57 = .ok (.aload_n 0, 1) := by decide +kernel
theorem dX7_crate_58 : decode cX7_crate 58 = .ok (.getfield 40, 3) := by decide +kernel
theorem dX7_crate_61 : decode cX7_crate 61 = .ok (.iload_n 1, 1) := by decide +kernel
theorem dX7_crate_62 : decode cX7_crate 62 = .ok (.iload_n 2, 1) := by decide +kernel
theorem dX7_crate_63 : decode cX7_crate 63 = .ok (.invokevirtual 170, 3) := by decide +kernel
theorem dX7_crate_66 : decode cX7_crate 66 = .ok (.aload_n 0, 1) := by decide +kernel
theorem dX7_crate_67 : decode cX7_crate 67 = .ok (.getfield 40, 3) := by decide +kernel
theorem dX7_crate_70 : decode cX7_crate 70 = .ok (.getfield 174, 3) := by decide +kernel
theorem dX7_crate_73 : decode cX7_crate 73 = .ok (.ireturn, 1) := by decide +kernel
set_option maxRecDepth 20000 in
theorem ggX7_fetch_X7_isFloor : GoodIn wsX7_fetch wsX7_isFloor := goodIn_r _ [7, 8, 9, 6, 10] (by decide +kernel) (by decide +kernel)
set_option maxRecDepth 20000 in
theorem gX7_fetch_X7_isFloor : GoodIn wsX7_fetch (va_wsS RX7 157 yX7_isFloor wsX7_isFloor) := goodIn_app (goodIn_of _ (by decide +kernel)) ggX7_fetch_X7_isFloor
set_option maxRecDepth 20000 in
theorem ggX7_fetch_X5_takeTopmostFor : GoodIn wsX7_fetch wsX5_takeTopmostFor := goodIn_r _ [15, 16, 17, 18, 19, 20, 21, 14, 22, 23, 24, 25, 26, 27, 35, 36, 37, 38] (by decide +kernel) (by decide +kernel)
set_option maxRecDepth 20000 in
theorem gX7_fetch_X5_takeTopmostFor : GoodIn wsX7_fetch (wsV RX7 175 RX5 yX5_takeTopmostFor wsX5_takeTopmostFor) := goodIn_app (goodIn_of _ (by decide +kernel)) ggX7_fetch_X5_takeTopmostFor
theorem dX7_fetch_0 : decode cX7_fetch 0 = .ok (.iload_n 1, 1) := by decide +kernel
theorem dX7_fetch_1 : decode cX7_fetch 1 = .ok (.invokestatic 157, 3) := by decide +kernel
theorem dX7_fetch_4 : decode cX7_fetch 4 = .ok (.ifCond .ne 13, 3) := by decide +kernel
theorem dX7_fetch_7 : decode cX7_fetch 7 = .ok (.new 65, 3) := by decide +kernel
theorem dX7_fetch_10 : decode cX7_fetch 10 = .ok (.dup, 1) := by decide +kernel
theorem dX7_fetch_11 : decode cX7_fetch 11 = .ok (.ldc 160, 2) := by decide +kernel
theorem dX7_fetch_13 : decode cX7_fetch 13 = .ok (.invokespecial 69, 3) := by decide +kernel
theorem dX7_fetch_16 : decode cX7_fetch 16 = .ok (.athrow, 1) := by decide +kernel
theorem dX7_fetch_17 : decode cX7_fetch 17 = .ok (.aload_n 0, 1) := by decide +kernel
theorem dX7_fetch_18 : decode cX7_fetch 18 = .ok (.getfield 40, 3) := by decide +kernel
theorem dX7_fetch_21 : decode cX7_fetch 21 = .ok (.iload_n 1, 1) := by decide +kernel
theorem dX7_fetch_22 : decode cX7_fetch 22 = .ok (.invokevirtual 175, 3) := by decide +kernel
theorem dX7_fetch_25 : decode cX7_fetch 25 = .ok (.ireturn, 1) := by decide +kernel
theorem dX7_moves_0 : decode cX7_moves 0 = .ok (.aload_n 0, 1) := by decide +kernel
theorem dX7_moves_1 : decode cX7_moves 1 = .ok (.getfield 40, 3) := by decide +kernel
theorem dX7_moves_4 : decode cX7_moves 4 = .ok (.getfield 178, 3) := by decide +kernel
theorem dX7_moves_7 : decode cX7_moves 7 = .ok (.ireturn, 1) := by decide +kernel
set_option maxRecDepth 20000 in
theorem ggX7_grout_X7_isWithin : GoodIn wsX7_grout wsX7_isWithin := goodIn_r _ [8] (by decide +kernel) (by decide +kernel)
set_option maxRecDepth 20000 in
theorem gX7_grout_X7_isWithin : GoodIn wsX7_grout (va_wsS RX7 61 yX7_isWithin wsX7_isWithin) := goodIn_app (goodIn_of _ (by decide +kernel)) ggX7_grout_X7_isWithin
theorem dX7_grout_0 : decode cX7_grout 0 = .ok (.iload_n 1, 1) := by decide +kernel
theorem dX7_grout_1 : decode cX7_grout 1 = .ok (.iconst 0, 1) := by decide +kernel
theorem dX7_grout_2 : decode cX7_grout 2 = .ok (.bipush 48, 2) := by decide +kernel
theorem dX7_grout_4 : decode cX7_grout 4 = .ok (.invokestatic 61, 3) := by decide +kernel
theorem dX7_grout_7 : decode cX7_grout 7 = .ok (.ifCond .ne 13, 3) := by decide +kernel
theorem dX7_grout_10 : decode cX7_grout 10 = .ok (.new 65, 3) := by decide +kernel
theorem dX7_grout_13 : decode cX7_grout 13 = .ok (.dup, 1) := by decide +kernel
theorem dX7_grout_14 : decode cX7_grout 14 = .ok (.ldc 181, 2) := by decide +kernel
theorem dX7_grout_16 : decode cX7_grout 16 = .ok (.invokespecial 69, 3) := by decide +kernel
theorem dX7_grout_19 : decode cX7_grout 19 = .ok (.athrow, 1) := by decide +kernel
theorem dX7_grout_20 : decode cX7_grout 20 = .ok (.aload_n 0, 1) := by decide +kernel
theorem dX7_grout_21 : decode cX7_grout 21 = .ok (.getfield 47, 3) := by decide +kernel
theorem dX7_grout_24 : decode cX7_grout 24 = .ok (.getfield 183, 3) := by decide +kernel
theorem dX7_grout_27 : decode cX7_grout 27 = .ok (.istore_n 2, 1) := by decide +kernel
theorem dX7_grout_28 : decode cX7_grout 28 = .ok (.aload_n 0, 1) := by decide +kernel
theorem dX7_grout_29 : decode cX7_grout 29 = .ok (.getfield 47, 3) := by decide +kernel
theorem dX7_grout_32 : decode cX7_grout 32 = .ok (.iload_n 1, 1) := by decide +kernel
theorem dX7_grout_33 : decode cX7_grout 33 = .ok (.putfield 183, 3) := by decide +kernel
theorem dX7_grout_36 : decode cX7_grout 36 = .ok (.iload_n 2, 1) := by decide +kernel
theorem dX7_grout_37 : decode cX7_grout 37 = .ok (.ireturn, 1) := by decide +kernel
set_option maxRecDepth 20000 in
theorem ggX7_lay_X3_hasStrip : GoodIn wsX7_lay wsX3_hasStrip := goodIn_r _ [12, 13, 14, 15, 11, 16, 17, 18, 19, 20, 21, 22, 23, 24, 25, 26, 27, 28, 29, 30, 31, 32, 33, 80, 81, 82, 83] (by decide +kernel) (by decide +kernel)
set_option maxRecDepth 20000 in
theorem gX7_lay_X3_hasStrip : GoodIn wsX7_lay (wsV RX7 186 RX3 yX3_hasStrip wsX3_hasStrip) := goodIn_app (goodIn_of _ (by decide +kernel)) ggX7_lay_X3_hasStrip
set_option maxRecDepth 20000 in
theorem ggX7_lay_X6_canStart : GoodIn wsX7_lay wsX6_canStart := goodIn_r _ [38, 39, 40, 41, 42, 43, 44, 37, 45, 75, 76, 77, 78, 79] (by decide +kernel) (by decide +kernel)
set_option maxRecDepth 20000 in
theorem gX7_lay_X6_canStart : GoodIn wsX7_lay (wsV RX7 191 RX6 yX6_canStart wsX6_canStart) := goodIn_app (goodIn_of _ (by decide +kernel)) ggX7_lay_X6_canStart
set_option maxRecDepth 20000 in
theorem ggX7_lay_X7_piecesOfStrip : GoodIn wsX7_lay wsX7_piecesOfStrip := goodIn_r _ [49, 50, 5, 51, 52, 53, 54, 55, 56, 57, 58, 59, 60, 11, 61, 17, 22, 23, 24, 25, 18, 19, 20, 21, 26, 27, 28, 29, 30, 31, 32, 33, 68, 69, 70, 71, 72, 73, 74, 84, 85, 86, 87, 88, 89, 90, 91, 92, 80, 81, 82, 83] (by decide +kernel) (by decide +kernel)
set_option maxRecDepth 20000 in
theorem gX7_lay_X7_piecesOfStrip : GoodIn wsX7_lay (wsV RX7 196 RX7 yX7_piecesOfStrip wsX7_piecesOfStrip) := goodIn_app (goodIn_of _ (by decide +kernel)) ggX7_lay_X7_piecesOfStrip
set_option maxRecDepth 20000 in
theorem ggX7_lay_X6_finish : GoodIn wsX7_lay wsX6_finish := goodIn_r _ [65, 40, 39, 41, 66, 67, 31, 32, 33, 75, 76, 77, 78, 79] (by decide +kernel) (by decide +kernel)
set_option maxRecDepth 20000 in
theorem gX7_lay_X6_finish : GoodIn wsX7_lay (wsV RX7 199 RX6 yX6_finish wsX6_finish) := goodIn_app (goodIn_of _ (by decide +kernel)) ggX7_lay_X6_finish
theorem dX7_lay_0 : decode cX7_lay 0 = .ok (.aload_n 0, 1) := by decide +kernel
theorem dX7_lay_1 : decode cX7_lay 1 = .ok (.getfield 12, 3) := by decide +kernel
theorem dX7_lay_4 : decode cX7_lay 4 = .ok (.iload_n 1, 1) := by decide +kernel
theorem dX7_lay_5 : decode cX7_lay 5 = .ok (.invokevirtual 186, 3) := by decide +kernel
theorem dX7_lay_8 : decode cX7_lay 8 = .ok (.ifCond .ne 13, 3) := by decide +kernel
theorem dX7_lay_11 : decode cX7_lay 11 = .ok (.new 97, 3) := by decide +kernel
theorem dX7_lay_14 : decode cX7_lay 14 = .ok (.dup, 1) := by decide +kernel
theorem dX7_lay_15 : decode cX7_lay 15 = .ok (.ldc 189, 2) := by decide +kernel
theorem dX7_lay_17 : decode cX7_lay 17 = .ok (.invokespecial 101, 3) := by decide +kernel
theorem dX7_lay_20 : decode cX7_lay 20 = .ok (.athrow, 1) := by decide +kernel
theorem dX7_lay_21 : decode cX7_lay 21 = .ok (.aload_n 0, 1) := by decide +kernel
theorem dX7_lay_22 : decode cX7_lay 22 = .ok (.getfield 47, 3) := by decide +kernel
theorem dX7_lay_25 : decode cX7_lay 25 = .ok (.iload_n 1, 1) := by decide +kernel
theorem dX7_lay_26 : decode cX7_lay 26 = .ok (.invokevirtual 191, 3) := by decide +kernel
theorem dX7_lay_29 : decode cX7_lay 29 = .ok (.ifCond .ne 13, 3) := by decide +kernel
theorem dX7_lay_32 : decode cX7_lay 32 = .ok (.new 80, 3) := by decide +kernel
theorem dX7_lay_35 : decode cX7_lay 35 = .ok (.dup, 1) := by decide +kernel
theorem dX7_lay_36 : decode cX7_lay 36 = .ok (.ldc 194, 2) := by decide +kernel
theorem dX7_lay_38 : decode cX7_lay 38 = .ok (.invokespecial 84, 3) := by decide +kernel
theorem dX7_lay_41 : decode cX7_lay 41 = .ok (.athrow, 1) := by decide +kernel
theorem dX7_lay_42 : decode cX7_lay 42 = .ok (.aload_n 0, 1) := by decide +kernel
theorem dX7_lay_43 : decode cX7_lay 43 = .ok (.getfield 47, 3) := by decide +kernel
theorem dX7_lay_46 : decode cX7_lay 46 = .ok (.iload_n 1, 1) := by decide +kernel
theorem dX7_lay_47 : decode cX7_lay 47 = .ok (.aload_n 0, 1) := by decide +kernel
theorem dX7_lay_48 : decode cX7_lay 48 = .ok (.iload_n 1, 1) := by decide +kernel
theorem dX7_lay_49 : decode cX7_lay 49 = .ok (.invokevirtual 196, 3) := by decide +kernel
theorem dX7_lay_52 : decode cX7_lay 52 = .ok (.invokevirtual 199, 3) := by decide +kernel
theorem dX7_lay_55 : decode cX7_lay 55 = .ok (.aload_n 0, 1) := by decide +kernel
theorem dX7_lay_56 : decode cX7_lay 56 = .ok (.getfield 47, 3) := by decide +kernel
theorem dX7_lay_59 : decode cX7_lay 59 = .ok (.getfield 202, 3) := by decide +kernel
theorem dX7_lay_62 : decode cX7_lay 62 = .ok (.ireturn, 1) := by decide +kernel
set_option maxRecDepth 20000 in
theorem ggX7_dry_X3_hasStrip : GoodIn wsX7_dry wsX3_hasStrip := goodIn_r _ [9, 10, 11, 12, 8, 13, 14, 15, 16, 17, 18, 19, 20, 21, 22, 23, 24, 25, 26, 27, 28, 29, 30, 49, 50, 51, 52] (by decide +kernel) (by decide +kernel)
set_option maxRecDepth 20000 in
theorem gX7_dry_X3_hasStrip : GoodIn wsX7_dry (wsV RX7 186 RX3 yX3_hasStrip wsX3_hasStrip) := goodIn_app (goodIn_of _ (by decide +kernel)) ggX7_dry_X3_hasStrip
set_option maxRecDepth 20000 in
theorem ggX7_dry_X6_dryHourOf : GoodIn wsX7_dry wsX6_dryHourOf := goodIn_r _ [35, 36, 37, 38, 39, 34, 40, 41, 53, 54, 55, 56, 57] (by decide +kernel) (by decide +kernel)
set_option maxRecDepth 20000 in
theorem gX7_dry_X6_dryHourOf : GoodIn wsX7_dry (wsV RX7 205 RX6 yX6_dryHourOf wsX6_dryHourOf) := goodIn_app (goodIn_of _ (by decide +kernel)) ggX7_dry_X6_dryHourOf
theorem dX7_dry_0 : decode cX7_dry 0 = .ok (.aload_n 0, 1) := by decide +kernel
theorem dX7_dry_1 : decode cX7_dry 1 = .ok (.getfield 12, 3) := by decide +kernel
theorem dX7_dry_4 : decode cX7_dry 4 = .ok (.iload_n 1, 1) := by decide +kernel
theorem dX7_dry_5 : decode cX7_dry 5 = .ok (.invokevirtual 186, 3) := by decide +kernel
theorem dX7_dry_8 : decode cX7_dry 8 = .ok (.ifCond .ne 13, 3) := by decide +kernel
theorem dX7_dry_11 : decode cX7_dry 11 = .ok (.new 97, 3) := by decide +kernel
theorem dX7_dry_14 : decode cX7_dry 14 = .ok (.dup, 1) := by decide +kernel
theorem dX7_dry_15 : decode cX7_dry 15 = .ok (.ldc 189, 2) := by decide +kernel
theorem dX7_dry_17 : decode cX7_dry 17 = .ok (.invokespecial 101, 3) := by decide +kernel
theorem dX7_dry_20 : decode cX7_dry 20 = .ok (.athrow, 1) := by decide +kernel
theorem dX7_dry_21 : decode cX7_dry 21 = .ok (.aload_n 0, 1) := by decide +kernel
theorem dX7_dry_22 : decode cX7_dry 22 = .ok (.getfield 47, 3) := by decide +kernel
theorem dX7_dry_25 : decode cX7_dry 25 = .ok (.iload_n 1, 1) := by decide +kernel
theorem dX7_dry_26 : decode cX7_dry 26 = .ok (.invokevirtual 205, 3) := by decide +kernel
theorem dX7_dry_29 : decode cX7_dry 29 = .ok (.ireturn, 1) := by decide +kernel
set_option maxRecDepth 20000 in
theorem ggX7_strips_X3_countStrips : GoodIn wsX7_strips wsX3_countStrips := goodIn_r _ [6, 7, 8, 9, 10, 5, 11, 12, 13, 14, 15, 16, 17, 18, 19, 20, 21, 22, 23, 31, 32, 33, 34] (by decide +kernel) (by decide +kernel)
set_option maxRecDepth 20000 in
theorem gX7_strips_X3_countStrips : GoodIn wsX7_strips (wsV RX7 208 RX3 yX3_countStrips wsX3_countStrips) := goodIn_app (goodIn_of _ (by decide +kernel)) ggX7_strips_X3_countStrips
theorem dX7_strips_0 : decode cX7_strips 0 = .ok (.aload_n 0, 1) := by decide +kernel
theorem dX7_strips_1 : decode cX7_strips 1 = .ok (.getfield 12, 3) := by decide +kernel
theorem dX7_strips_4 : decode cX7_strips 4 = .ok (.invokevirtual 208, 3) := by decide +kernel
theorem dX7_strips_7 : decode cX7_strips 7 = .ok (.ireturn, 1) := by decide +kernel
set_option maxRecDepth 20000 in
theorem ggX7_pass_X7_isWithin : GoodIn wsX7_pass wsX7_isWithin := goodIn_r _ [8] (by decide +kernel) (by decide +kernel)
set_option maxRecDepth 20000 in
theorem gX7_pass_X7_isWithin : GoodIn wsX7_pass (va_wsS RX7 61 yX7_isWithin wsX7_isWithin) := goodIn_app (goodIn_of _ (by decide +kernel)) ggX7_pass_X7_isWithin
theorem dX7_pass_0 : decode cX7_pass 0 = .ok (.iload_n 1, 1) := by decide +kernel
theorem dX7_pass_1 : decode cX7_pass 1 = .ok (.iconst 1, 1) := by decide +kernel
theorem dX7_pass_2 : decode cX7_pass 2 = .ok (.bipush 100, 2) := by decide +kernel
theorem dX7_pass_4 : decode cX7_pass 4 = .ok (.invokestatic 61, 3) := by decide +kernel
theorem dX7_pass_7 : decode cX7_pass 7 = .ok (.ifCond .ne 13, 3) := by decide +kernel
theorem dX7_pass_10 : decode cX7_pass 10 = .ok (.new 65, 3) := by decide +kernel
theorem dX7_pass_13 : decode cX7_pass 13 = .ok (.dup, 1) := by decide +kernel
theorem dX7_pass_14 : decode cX7_pass 14 = .ok (.ldc 212, 2) := by decide +kernel
theorem dX7_pass_16 : decode cX7_pass 16 = .ok (.invokespecial 69, 3) := by decide +kernel
theorem dX7_pass_19 : decode cX7_pass 19 = .ok (.athrow, 1) := by decide +kernel
theorem dX7_pass_20 : decode cX7_pass 20 = .ok (.aload_n 0, 1) := by decide +kernel
theorem dX7_pass_21 : decode cX7_pass 21 = .ok (.getfield 47, 3) := by decide +kernel
theorem dX7_pass_24 : decode cX7_pass 24 = .ok (.dup, 1) := by decide +kernel
theorem dX7_pass_25 : decode cX7_pass 25 = .ok (.getfield 202, 3) := by decide +kernel
theorem dX7_pass_28 : decode cX7_pass 28 = .ok (.iload_n 1, 1) := by decide +kernel
theorem dX7_pass_29 : decode cX7_pass 29 = .ok (.iadd, 1) := by decide +kernel
theorem dX7_pass_30 : decode cX7_pass 30 = .ok (.putfield 202, 3) := by decide +kernel
theorem dX7_pass_33 : decode cX7_pass 33 = .ok (.aload_n 0, 1) := by decide +kernel
theorem dX7_pass_34 : decode cX7_pass 34 = .ok (.getfield 47, 3) := by decide +kernel
theorem dX7_pass_37 : decode cX7_pass 37 = .ok (.getfield 202, 3) := by decide +kernel
theorem dX7_pass_40 : decode cX7_pass 40 = .ok (.ireturn, 1) := by decide +kernel
set_option maxRecDepth 20000 in
theorem ggX7_renew_X0_renew : GoodIn wsX7_renew wsX0_renew := goodIn_r _ [10, 11, 12, 13, 14, 15, 16, 17, 18, 19, 20, 21, 22, 23, 24, 25, 26, 27, 28, 29, 30, 31, 32, 33, 34, 35, 36, 37, 38, 39, 40, 41, 9, 42, 43, 44, 45, 46, 47, 48, 49, 50, 51, 52, 53, 176, 177, 178, 179, 180, 181, 182, 183, 184, 185, 186, 187] (by decide +kernel) (by decide +kernel)
set_option maxRecDepth 20000 in
theorem gX7_renew_X0_renew : GoodIn wsX7_renew (wsV RX7 214 RX0 yX0_renew wsX0_renew) := goodIn_app (goodIn_of _ (by decide +kernel)) ggX7_renew_X0_renew
set_option maxRecDepth 20000 in
theorem ggX7_renew_X4_find : GoodIn wsX7_renew wsX4_find := goodIn_r _ [58, 59, 60, 61, 62, 63, 64, 47, 31, 48, 65, 66, 67, 9, 68, 43, 45, 46, 69, 70, 71, 57, 72, 73, 74, 75, 76, 77, 78, 79, 80, 81, 82, 83, 84, 85, 86, 14, 87, 88, 16, 89, 29, 90, 91, 92, 93, 94, 95, 96, 97, 98, 99, 100, 101, 102, 103, 104, 17, 18, 19, 20, 105, 106, 107, 108, 109, 110, 111, 112, 113, 25, 26, 27, 28, 30, 32, 114, 115, 116, 117, 118, 119, 120, 121, 122, 123, 124, 125, 126, 188, 189, 190, 191, 192, 193, 194, 195, 196, 185, 186, 187, 176, 177, 178, 179, 197, 198, 199, 200] (by decide +kernel) (by decide +kernel)
set_option maxRecDepth 20000 in
theorem gX7_renew_X4_find : GoodIn wsX7_renew (wsV RX7 217 RX4 yX4_find wsX4_find) := goodIn_app (goodIn_of _ (by decide +kernel)) ggX7_renew_X4_find
set_option maxRecDepth 20000 in
theorem ggX7_renew_X1_cutAll : GoodIn wsX7_renew wsX1_cutAll := goodIn_r _ [131, 132, 133, 134, 135, 136, 137, 138, 62, 63, 64, 139, 81, 82, 57, 83, 59, 140, 141, 142, 130, 143, 144, 145, 146, 147, 148, 149, 150, 151, 152, 153, 154, 155, 156, 157, 158, 159, 160, 161, 162, 163, 164, 165, 166, 167, 168, 201, 202, 203, 204, 205, 206, 188, 189, 190, 191, 192, 193, 194, 195, 196, 176, 177, 178, 179] (by decide +kernel) (by decide +kernel)
set_option maxRecDepth 20000 in
theorem gX7_renew_X1_cutAll : GoodIn wsX7_renew (wsV RX7 221 RX1 yX1_cutAll wsX1_cutAll) := goodIn_app (goodIn_of _ (by decide +kernel)) ggX7_renew_X1_cutAll
theorem dX7_renew_0 : decode cX7_renew 0 = .ok (.aload_n 0, 1) := by decide +kernel
theorem dX7_renew_1 : decode cX7_renew 1 = .ok (.getfield 19, 3) := by decide +kernel
theorem dX7_renew_4 : decode cX7_renew 4 = .ok (.aload_n 0, 1) := by decide +kernel
theorem dX7_renew_5 : decode cX7_renew 5 = .ok (.getfield 12, 3) := by decide +kernel
theorem dX7_renew_8 : decode cX7_renew 8 = .ok (.aload_n 0, 1) := by decide +kernel
theorem dX7_renew_9 : decode cX7_renew 9 = .ok (.getfield 47, 3) := by decide +kernel
theorem dX7_renew_12 : decode cX7_renew 12 = .ok (.invokevirtual 214, 3) := by decide +kernel
theorem dX7_renew_15 : decode cX7_renew 15 = .ok (.aload_n 0, 1) := by decide +kernel
theorem dX7_renew_16 : decode cX7_renew 16 = .ok (.getfield 26, 3) := by decide +kernel
theorem dX7_renew_19 : decode cX7_renew 19 = .ok (.aload_n 0, 1) := by decide +kernel
theorem dX7_renew_20 : decode cX7_renew 20 = .ok (.getfield 12, 3) := by decide +kernel
theorem dX7_renew_23 : decode cX7_renew 23 = .ok (.aload_n 0, 1) := by decide +kernel
theorem dX7_renew_24 : decode cX7_renew 24 = .ok (.getfield 19, 3) := by decide +kernel
theorem dX7_renew_27 : decode cX7_renew 27 = .ok (.invokevirtual 217, 3) := by decide +kernel
theorem dX7_renew_30 : decode cX7_renew 30 = .ok (.aload_n 0, 1) := by decide +kernel
theorem dX7_renew_31 : decode cX7_renew 31 = .ok (.getfield 33, 3) := by decide +kernel
theorem dX7_renew_34 : decode cX7_renew 34 = .ok (.aload_n 0, 1) := by decide +kernel
theorem dX7_renew_35 : decode cX7_renew 35 = .ok (.getfield 12, 3) := by decide +kernel
theorem dX7_renew_38 : decode cX7_renew 38 = .ok (.aload_n 0, 1) := by decide +kernel
theorem dX7_renew_39 : decode cX7_renew 39 = .ok (.getfield 26, 3) := by decide +kernel
theorem dX7_renew_42 : decode cX7_renew 42 = .ok (.invokevirtual 221, 3) := by decide +kernel
theorem dX7_renew_45 : decode cX7_renew 45 = .ok (.return_, 1) := by decide +kernel
set_option maxRecDepth 20000 in
theorem ggX7_piecesOfStrip_X4_has : GoodIn wsX7_piecesOfStrip wsX4_has := goodIn_r _ [8, 9, 39, 40, 41, 42, 43, 44, 45, 46, 47] (by decide +kernel) (by decide +kernel)
set_option maxRecDepth 20000 in
theorem gX7_piecesOfStrip_X4_has : GoodIn wsX7_piecesOfStrip (wsV RX7 111 RX4 yX4_has wsX4_has) := goodIn_app (goodIn_of _ (by decide +kernel)) ggX7_piecesOfStrip_X4_has
set_option maxRecDepth 20000 in
theorem ggX7_piecesOfStrip_X3_stripOfRow : GoodIn wsX7_piecesOfStrip wsX3_stripOfRow := goodIn_r _ [14, 15, 16, 17, 18, 13, 19, 20, 21, 22, 23, 24, 25, 26, 27, 28, 29, 30, 31, 48, 49, 50, 51] (by decide +kernel) (by decide +kernel)
set_option maxRecDepth 20000 in
theorem gX7_piecesOfStrip_X3_stripOfRow : GoodIn wsX7_piecesOfStrip (wsV RX7 132 RX3 yX3_stripOfRow wsX3_stripOfRow) := goodIn_app (goodIn_of _ (by decide +kernel)) ggX7_piecesOfStrip_X3_stripOfRow
theorem dX7_piecesOfStrip_0 : decode cX7_piecesOfStrip 0 = .ok (.iconst 0, 1) := by decide +kernel
theorem dX7_piecesOfStrip_1 : decode cX7_piecesOfStrip 1 = .ok (.istore_n 2, 1) := by decide +kernel
theorem dX7_piecesOfStrip_2 : decode cX7_piecesOfStrip 2 = .ok (.iconst 0, 1) := by decide +kernel
theorem dX7_piecesOfStrip_3 : decode cX7_piecesOfStrip 3 = .ok (.istore_n 3, 1) := by decide +kernel
theorem dX7_piecesOfStrip_4 : decode cX7_piecesOfStrip 4 = .ok (.iload_n 3, 1) := by decide +kernel
theorem dX7_piecesOfStrip_5 : decode cX7_piecesOfStrip 5 = .ok (.bipush 96, 2) := by decide +kernel
theorem dX7_piecesOfStrip_7 : decode cX7_piecesOfStrip 7 = .ok (.if_icmp .ge 43, 3) := by decide +kernel
theorem dX7_piecesOfStrip_10 : decode cX7_piecesOfStrip 10 = .ok (.aload_n 0, 1) := by decide +kernel
theorem dX7_piecesOfStrip_11 : decode cX7_piecesOfStrip 11 = .ok (.getfield 26, 3) := by decide +kernel
theorem dX7_piecesOfStrip_14 : decode cX7_piecesOfStrip 14 = .ok (.iload_n 3, 1) := by decide +kernel
theorem dX7_piecesOfStrip_15 : decode cX7_piecesOfStrip 15 = .ok (.invokevirtual 111, 3) := by decide +kernel
theorem dX7_piecesOfStrip_18 : decode cX7_piecesOfStrip 18 = .ok (.ifCond .eq 26, 3) := by decide +kernel
theorem dX7_piecesOfStrip_21 : decode cX7_piecesOfStrip 21 = .ok (.aload_n 0, 1) := by decide +kernel
theorem dX7_piecesOfStrip_22 : decode cX7_piecesOfStrip 22 = .ok (.getfield 12, 3) := by decide +kernel
theorem dX7_piecesOfStrip_25 : decode cX7_piecesOfStrip 25 = .ok (.aload_n 0, 1) := by decide +kernel
theorem dX7_piecesOfStrip_26 : decode cX7_piecesOfStrip 26 = .ok (.getfield 26, 3) := by decide +kernel
theorem dX7_piecesOfStrip_29 : decode cX7_piecesOfStrip 29 = .ok (.getfield 126, 3) := by decide +kernel
theorem dX7_piecesOfStrip_32 : decode cX7_piecesOfStrip 32 = .ok (.iload_n 3, 1) := by decide +kernel
theorem dX7_piecesOfStrip_33 : decode cX7_piecesOfStrip 33 = .ok (.iaload, 1) := by decide +kernel
theorem dX7_piecesOfStrip_34 : decode cX7_piecesOfStrip 34 = .ok (.invokevirtual 132, 3) := by decide +kernel
theorem dX7_piecesOfStrip_37 : decode cX7_piecesOfStrip 37 = .ok (.iload_n 1, 1) := by decide +kernel
theorem dX7_piecesOfStrip_38 : decode cX7_piecesOfStrip 38 = .ok (.if_icmp .ne 6, 3) := by decide +kernel
theorem dX7_piecesOfStrip_41 : decode cX7_piecesOfStrip 41 = .ok (.iinc 2 1, 3) := by decide +kernel
theorem dX7_piecesOfStrip_44 : decode cX7_piecesOfStrip 44 = .ok (.iinc 3 1, 3) := by decide +kernel
theorem dX7_piecesOfStrip_47 : decode cX7_piecesOfStrip 47 = .ok (.goto (-43), 3) := by decide +kernel
theorem dX7_piecesOfStrip_50 : decode cX7_piecesOfStrip 50 = .ok (.iload_n 2, 1) := by decide +kernel
theorem dX7_piecesOfStrip_51 : decode cX7_piecesOfStrip 51 = .ok (.ireturn, 1) := by decide +kernel
set_option maxRecDepth 20000 in
theorem ggX7_isFirstOfItsPiece_X0_areAt : GoodIn wsX7_isFirstOfItsPiece wsX0_areAt := goodIn_r _ [11, 12, 13, 14, 15, 16, 17, 72, 73, 74] (by decide +kernel) (by decide +kernel)
set_option maxRecDepth 20000 in
theorem gX7_isFirstOfItsPiece_X0_areAt : GoodIn wsX7_isFirstOfItsPiece (wsV RX7 225 RX0 yX0_areAt wsX0_areAt) := goodIn_app (goodIn_of _ (by decide +kernel)) ggX7_isFirstOfItsPiece_X0_areAt
set_option maxRecDepth 20000 in
theorem ggX7_isFirstOfItsPiece_X3_frame : GoodIn wsX7_isFirstOfItsPiece wsX3_frame := goodIn_r _ [22, 23, 24, 25, 26, 27, 28, 29, 30, 31, 32, 33, 34, 35, 36, 21, 37, 38, 39, 40, 41, 42, 43, 44, 45, 46, 47, 48, 49, 50, 51, 52, 53, 54, 55, 56, 57, 58, 59, 14, 60, 75, 76, 77, 78, 68, 69, 70, 71] (by decide +kernel) (by decide +kernel)
set_option maxRecDepth 20000 in
theorem gX7_isFirstOfItsPiece_X3_frame : GoodIn wsX7_isFirstOfItsPiece (wsV RX7 228 RX3 yX3_frame wsX3_frame) := goodIn_app (goodIn_of _ (by decide +kernel)) ggX7_isFirstOfItsPiece_X3_frame
theorem dX7_isFirstOfItsPiece_0 : decode cX7_isFirstOfItsPiece 0 = .ok (.aload_n 0, 1) := by decide +kernel
theorem dX7_isFirstOfItsPiece_1 : decode cX7_isFirstOfItsPiece 1 = .ok (.getfield 19, 3) := by decide +kernel
theorem dX7_isFirstOfItsPiece_4 : decode cX7_isFirstOfItsPiece 4 = .ok (.iload_n 1, 1) := by decide +kernel
theorem dX7_isFirstOfItsPiece_5 : decode cX7_isFirstOfItsPiece 5 = .ok (.iload_n 2, 1) := by decide +kernel
theorem dX7_isFirstOfItsPiece_6 : decode cX7_isFirstOfItsPiece 6 = .ok (.invokevirtual 225, 3) := by decide +kernel
theorem dX7_isFirstOfItsPiece_9 : decode cX7_isFirstOfItsPiece 9 = .ok (.ifCond .eq 5, 3) := by decide +kernel
theorem dX7_isFirstOfItsPiece_12 : decode cX7_isFirstOfItsPiece 12 = .ok (.iconst 0, 1) := by decide +kernel
theorem dX7_isFirstOfItsPiece_13 : decode cX7_isFirstOfItsPiece 13 = .ok (.ireturn, 1) := by decide +kernel
theorem dX7_isFirstOfItsPiece_14 : decode cX7_isFirstOfItsPiece 14 = .ok (.aload_n 0, 1) := by decide +kernel
theorem dX7_isFirstOfItsPiece_15 : decode cX7_isFirstOfItsPiece 15 = .ok (.getfield 12, 3) := by decide +kernel
theorem dX7_isFirstOfItsPiece_18 : decode cX7_isFirstOfItsPiece 18 = .ok (.iload_n 1, 1) := by decide +kernel
theorem dX7_isFirstOfItsPiece_19 : decode cX7_isFirstOfItsPiece 19 = .ok (.iload_n 2, 1) := by decide +kernel
theorem dX7_isFirstOfItsPiece_20 : decode cX7_isFirstOfItsPiece 20 = .ok (.aload_n 0, 1) := by decide +kernel
theorem dX7_isFirstOfItsPiece_21 : decode cX7_isFirstOfItsPiece 21 = .ok (.getfield 54, 3) := by decide +kernel
theorem dX7_isFirstOfItsPiece_24 : decode cX7_isFirstOfItsPiece 24 = .ok (.invokevirtual 228, 3) := by decide +kernel
theorem dX7_isFirstOfItsPiece_27 : decode cX7_isFirstOfItsPiece 27 = .ok (.aload_n 0, 1) := by decide +kernel
theorem dX7_isFirstOfItsPiece_28 : decode cX7_isFirstOfItsPiece 28 = .ok (.getfield 54, 3) := by decide +kernel
theorem dX7_isFirstOfItsPiece_31 : decode cX7_isFirstOfItsPiece 31 = .ok (.getfield 231, 3) := by decide +kernel
theorem dX7_isFirstOfItsPiece_34 : decode cX7_isFirstOfItsPiece 34 = .ok (.istore_n 3, 1) := by decide +kernel
theorem dX7_isFirstOfItsPiece_35 : decode cX7_isFirstOfItsPiece 35 = .ok (.iload_n 3, 1) := by decide +kernel
theorem dX7_isFirstOfItsPiece_36 : decode cX7_isFirstOfItsPiece 36 = .ok (.iload_n 2, 1) := by decide +kernel
theorem dX7_isFirstOfItsPiece_37 : decode cX7_isFirstOfItsPiece 37 = .ok (.if_icmp .gt 74, 3) := by decide +kernel
theorem dX7_isFirstOfItsPiece_40 : decode cX7_isFirstOfItsPiece 40 = .ok (.aload_n 0, 1) := by decide +kernel
theorem dX7_isFirstOfItsPiece_41 : decode cX7_isFirstOfItsPiece 41 = .ok (.getfield 54, 3) := by decide +kernel
theorem dX7_isFirstOfItsPiece_44 : decode cX7_isFirstOfItsPiece 44 = .ok (.getfield 234, 3) := by decide +kernel
theorem dX7_isFirstOfItsPiece_47 : decode cX7_isFirstOfItsPiece 47 = .ok (.istore 4, 2) := by decide +kernel
theorem dX7_isFirstOfItsPiece_49 : decode cX7_isFirstOfItsPiece 49 = .ok (.iload 4, 2) := by decide +kernel
theorem dX7_isFirstOfItsPiece_51 : decode cX7_isFirstOfItsPiece 51 = .ok (.aload_n 0, 1) := by decide +kernel
theorem dX7_isFirstOfItsPiece_52 : decode cX7_isFirstOfItsPiece 52 = .ok (.getfield 54, 3) := by decide +kernel
theorem dX7_isFirstOfItsPiece_55 : decode cX7_isFirstOfItsPiece 55 = .ok (.getfield 237, 3) := by decide +kernel
theorem dX7_isFirstOfItsPiece_58 : decode cX7_isFirstOfItsPiece 58 = .ok (.if_icmp .ge 47, 3) := by decide +kernel
theorem dX7_isFirstOfItsPiece_61 : decode cX7_isFirstOfItsPiece 61 = .ok (.iload_n 3, 1) := by decide +kernel
theorem dX7_isFirstOfItsPiece_62 : decode cX7_isFirstOfItsPiece 62 = .ok (.iload_n 2, 1) := by decide +kernel
theorem dX7_isFirstOfItsPiece_63 : decode cX7_isFirstOfItsPiece 63 = .ok (.if_icmp .lt 9, 3) := by decide +kernel
theorem dX7_isFirstOfItsPiece_66 : decode cX7_isFirstOfItsPiece 66 = .ok (.iload 4, 2) := by decide +kernel
theorem dX7_isFirstOfItsPiece_68 : decode cX7_isFirstOfItsPiece 68 = .ok (.iload_n 1, 1) := by decide +kernel
theorem dX7_isFirstOfItsPiece_69 : decode cX7_isFirstOfItsPiece 69 = .ok (.if_icmp .ge 7, 3) := by decide +kernel
theorem dX7_isFirstOfItsPiece_72 : decode cX7_isFirstOfItsPiece 72 = .ok (.iconst 1, 1) := by decide +kernel
theorem dX7_isFirstOfItsPiece_73 : decode cX7_isFirstOfItsPiece 73 = .ok (.goto 4, 3) := by decide +kernel
theorem dX7_isFirstOfItsPiece_76 : decode cX7_isFirstOfItsPiece 76 = .ok (.iconst 0, 1) := by decide +kernel
theorem dX7_isFirstOfItsPiece_77 : decode cX7_isFirstOfItsPiece 77 = .ok (.istore 5, 2) := by decide +kernel
theorem dX7_isFirstOfItsPiece_79 : decode cX7_isFirstOfItsPiece 79 = .ok (.iload 5, 2) := by decide +kernel
theorem dX7_isFirstOfItsPiece_81 : decode cX7_isFirstOfItsPiece 81 = .ok (.ifCond .eq 18, 3) := by decide +kernel
theorem dX7_isFirstOfItsPiece_84 : decode cX7_isFirstOfItsPiece 84 = .ok (.aload_n 0, 1) := by decide +kernel
theorem dX7_isFirstOfItsPiece_85 : decode cX7_isFirstOfItsPiece 85 = .ok (.getfield 19, 3) := by decide +kernel
theorem dX7_isFirstOfItsPiece_88 : decode cX7_isFirstOfItsPiece 88 = .ok (.iload 4, 2) := by decide +kernel
theorem dX7_isFirstOfItsPiece_90 : decode cX7_isFirstOfItsPiece 90 = .ok (.iload_n 3, 1) := by decide +kernel
theorem dX7_isFirstOfItsPiece_91 : decode cX7_isFirstOfItsPiece 91 = .ok (.invokevirtual 225, 3) := by decide +kernel
theorem dX7_isFirstOfItsPiece_94 : decode cX7_isFirstOfItsPiece 94 = .ok (.ifCond .ne 5, 3) := by decide +kernel
theorem dX7_isFirstOfItsPiece_97 : decode cX7_isFirstOfItsPiece 97 = .ok (.iconst 0, 1) := by decide +kernel
theorem dX7_isFirstOfItsPiece_98 : decode cX7_isFirstOfItsPiece 98 = .ok (.ireturn, 1) := by decide +kernel
theorem dX7_isFirstOfItsPiece_99 : decode cX7_isFirstOfItsPiece 99 = .ok (.iinc 4 1, 3) := by decide +kernel
theorem dX7_isFirstOfItsPiece_102 : decode cX7_isFirstOfItsPiece 102 = .ok (.goto (-53), 3) := by decide +kernel
theorem dX7_isFirstOfItsPiece_105 : decode cX7_isFirstOfItsPiece 105 = .ok (.iinc 3 1, 3) := by decide +kernel
theorem dX7_isFirstOfItsPiece_108 : decode cX7_isFirstOfItsPiece 108 = .ok (.goto (-73), 3) := by decide +kernel
theorem dX7_isFirstOfItsPiece_111 : decode cX7_isFirstOfItsPiece 111 = .ok (.iconst 1, 1) := by decide +kernel
theorem dX7_isFirstOfItsPiece_112 : decode cX7_isFirstOfItsPiece 112 = .ok (.ireturn, 1) := by decide +kernel
theorem dX7_isWithin_0 : decode cX7_isWithin 0 = .ok (.iload_n 0, 1) := by decide +kernel
theorem dX7_isWithin_1 : decode cX7_isWithin 1 = .ok (.iload_n 1, 1) := by decide +kernel
theorem dX7_isWithin_2 : decode cX7_isWithin 2 = .ok (.if_icmp .lt 12, 3) := by decide +kernel
theorem dX7_isWithin_5 : decode cX7_isWithin 5 = .ok (.iload_n 0, 1) := by decide +kernel
theorem dX7_isWithin_6 : decode cX7_isWithin 6 = .ok (.iload_n 2, 1) := by decide +kernel
theorem dX7_isWithin_7 : decode cX7_isWithin 7 = .ok (.if_icmp .gt 7, 3) := by decide +kernel
theorem dX7_isWithin_10 : decode cX7_isWithin 10 = .ok (.iconst 1, 1) := by decide +kernel
theorem dX7_isWithin_11 : decode cX7_isWithin 11 = .ok (.goto 4, 3) := by decide +kernel
theorem dX7_isWithin_14 : decode cX7_isWithin 14 = .ok (.iconst 0, 1) := by decide +kernel
theorem dX7_isWithin_15 : decode cX7_isWithin 15 = .ok (.ireturn, 1) := by decide +kernel
theorem dX7_isCell_0 : decode cX7_isCell 0 = .ok (.iload_n 0, 1) := by decide +kernel
theorem dX7_isCell_1 : decode cX7_isCell 1 = .ok (.ifCond .lt 23, 3) := by decide +kernel
theorem dX7_isCell_4 : decode cX7_isCell 4 = .ok (.iload_n 0, 1) := by decide +kernel
theorem dX7_isCell_5 : decode cX7_isCell 5 = .ok (.bipush 12, 2) := by decide +kernel
theorem dX7_isCell_7 : decode cX7_isCell 7 = .ok (.if_icmp .ge 17, 3) := by decide +kernel
theorem dX7_isCell_10 : decode cX7_isCell 10 = .ok (.iload_n 1, 1) := by decide +kernel
theorem dX7_isCell_11 : decode cX7_isCell 11 = .ok (.ifCond .lt 13, 3) := by decide +kernel
theorem dX7_isCell_14 : decode cX7_isCell 14 = .ok (.iload_n 1, 1) := by decide +kernel
theorem dX7_isCell_15 : decode cX7_isCell 15 = .ok (.bipush 8, 2) := by decide +kernel
theorem dX7_isCell_17 : decode cX7_isCell 17 = .ok (.if_icmp .ge 7, 3) := by decide +kernel
theorem dX7_isCell_20 : decode cX7_isCell 20 = .ok (.iconst 1, 1) := by decide +kernel
theorem dX7_isCell_21 : decode cX7_isCell 21 = .ok (.goto 4, 3) := by decide +kernel
theorem dX7_isCell_24 : decode cX7_isCell 24 = .ok (.iconst 0, 1) := by decide +kernel
theorem dX7_isCell_25 : decode cX7_isCell 25 = .ok (.ireturn, 1) := by decide +kernel
set_option maxRecDepth 20000 in
theorem ggX7_isFloor_X7_isWithin : GoodIn wsX7_isFloor wsX7_isWithin := goodIn_r _ [4] (by decide +kernel) (by decide +kernel)
set_option maxRecDepth 20000 in
theorem gX7_isFloor_X7_isWithin : GoodIn wsX7_isFloor (va_wsS RX7 61 yX7_isWithin wsX7_isWithin) := goodIn_app (goodIn_of _ (by decide +kernel)) ggX7_isFloor_X7_isWithin
theorem dX7_isFloor_0 : decode cX7_isFloor 0 = .ok (.iload_n 0, 1) := by decide +kernel
theorem dX7_isFloor_1 : decode cX7_isFloor 1 = .ok (.iconst 0, 1) := by decide +kernel
theorem dX7_isFloor_2 : decode cX7_isFloor 2 = .ok (.bipush 9, 2) := by decide +kernel
theorem dX7_isFloor_4 : decode cX7_isFloor 4 = .ok (.invokestatic 61, 3) := by decide +kernel
theorem dX7_isFloor_7 : decode cX7_isFloor 7 = .ok (.ireturn, 1) := by decide +kernel
theorem dX7_cellAt_0 : decode cX7_cellAt 0 = .ok (.iload_n 1, 1) := by decide +kernel
theorem dX7_cellAt_1 : decode cX7_cellAt 1 = .ok (.bipush 12, 2) := by decide +kernel
theorem dX7_cellAt_3 : decode cX7_cellAt 3 = .ok (.imul, 1) := by decide +kernel
theorem dX7_cellAt_4 : decode cX7_cellAt 4 = .ok (.iload_n 0, 1) := by decide +kernel
theorem dX7_cellAt_5 : decode cX7_cellAt 5 = .ok (.iadd, 1) := by decide +kernel
theorem dX7_cellAt_6 : decode cX7_cellAt 6 = .ok (.ireturn, 1) := by decide +kernel
theorem dX7_timesIn_0 : decode cX7_timesIn 0 = .ok (.iload_n 0, 1) := by decide +kernel
theorem dX7_timesIn_1 : decode cX7_timesIn 1 = .ok (.iconst 1, 1) := by decide +kernel
theorem dX7_timesIn_2 : decode cX7_timesIn 2 = .ok (.if_icmp .ge 7, 3) := by decide +kernel
theorem dX7_timesIn_5 : decode cX7_timesIn 5 = .ok (.iconst 0, 1) := by decide +kernel
theorem dX7_timesIn_6 : decode cX7_timesIn 6 = .ok (.goto 6, 3) := by decide +kernel
theorem dX7_timesIn_9 : decode cX7_timesIn 9 = .ok (.iload_n 1, 1) := by decide +kernel
theorem dX7_timesIn_10 : decode cX7_timesIn 10 = .ok (.iload_n 0, 1) := by decide +kernel
theorem dX7_timesIn_11 : decode cX7_timesIn 11 = .ok (.idiv, 1) := by decide +kernel
theorem dX7_timesIn_12 : decode cX7_timesIn 12 = .ok (.ireturn, 1) := by decide +kernel
set_option maxRecDepth 20000 in
theorem ggX8_init_X8_unlay : GoodIn wsX8_init wsX8_unlay := goodIn_r _ [29, 23, 67, 68, 69, 70, 71, 72, 73, 74, 75, 76, 77, 78, 79, 80, 81, 82, 83, 84, 85, 86, 87, 88, 89, 90, 91, 92, 93, 94, 95, 96, 97] (by decide +kernel) (by decide +kernel)
set_option maxRecDepth 20000 in
theorem gX8_init_X8_unlay : GoodIn wsX8_init (wsV RX8 71 RX8 yX8_unlay wsX8_unlay) := goodIn_app (goodIn_of _ (by decide +kernel)) ggX8_init_X8_unlay
set_option maxRecDepth 20000 in
theorem ggX8_init_X8_plans : GoodIn wsX8_init wsX8_plans := goodIn_r _ [33, 34, 17, 10, 11, 13, 14, 15, 16, 9, 4, 5, 35, 36, 37, 28, 38, 7, 8, 39, 40, 41, 42, 43, 44, 45, 46, 47, 48, 49, 50, 51, 52, 53, 54, 55, 56, 57, 58, 12, 20, 18, 19, 59, 60, 61, 62, 63, 64, 65, 66, 67, 68, 69, 70, 71, 72, 73, 74, 75, 76, 77, 78, 79, 80, 81, 82, 83, 84, 85, 86, 87, 88, 89, 90, 91, 92, 93, 94, 95, 96, 97] (by decide +kernel) (by decide +kernel)
set_option maxRecDepth 20000 in
theorem gX8_init_X8_plans : GoodIn wsX8_init (wsV RX8 74 RX8 yX8_plans wsX8_plans) := goodIn_app (goodIn_of _ (by decide +kernel)) ggX8_init_X8_plans
