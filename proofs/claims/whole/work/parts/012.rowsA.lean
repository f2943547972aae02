set_option maxRecDepth 20000 in
theorem ggX0_canBe_X11_isWithin : GoodIn wsX0_canBe wsX11_isWithin := goodIn_r _ [5] (by decide +kernel) (by decide +kernel)
set_option maxRecDepth 20000 in
theorem gX0_canBe_X11_isWithin_n12 : GoodIn wsX0_canBe (wsX11_isWithin) := ggX0_canBe_X11_isWithin
set_option maxRecDepth 20000 in
theorem ggX0_canBe_X0_count : GoodIn wsX0_canBe wsX0_count := goodIn_r _ [9, 10] (by decide +kernel) (by decide +kernel)
set_option maxRecDepth 20000 in
theorem gX0_canBe_X0_count : GoodIn wsX0_canBe (va_wsS RX0 16 yX0_count wsX0_count) := goodIn_app (goodIn_of _ (by decide +kernel)) ggX0_canBe_X0_count
set_option maxRecDepth 20000 in
theorem ggX0_canBe_X0_hasWhatItNeeds : GoodIn wsX0_canBe wsX0_hasWhatItNeeds := goodIn_r _ [13, 14, 6, 7, 8, 9, 10] (by decide +kernel) (by decide +kernel)
set_option maxRecDepth 20000 in
theorem gX0_canBe_X0_hasWhatItNeeds : GoodIn wsX0_canBe (va_wsS RX0 24 yX0_hasWhatItNeeds wsX0_hasWhatItNeeds) := goodIn_app (goodIn_of _ (by decide +kernel)) ggX0_canBe_X0_hasWhatItNeeds
theorem dX0_canBe_0 : decode cX0_canBe 0 = .ok (.iload_n 0, 1) := by decide +kernel
theorem dX0_canBe_1 : decode cX0_canBe 1 = .ok (.iconst 0, 1) := by decide +kernel
theorem dX0_canBe_2 : decode cX0_canBe 2 = .ok (.ldc 11, 2) := by decide +kernel
theorem dX0_canBe_4 : decode cX0_canBe 4 = .ok (.invokestatic 12, 3) := by decide +kernel
theorem dX0_canBe_7 : decode cX0_canBe 7 = .ok (.ifCond .ne 5, 3) := by decide +kernel
theorem dX0_canBe_10 : decode cX0_canBe 10 = .ok (.iconst 0, 1) := by decide +kernel
theorem dX0_canBe_11 : decode cX0_canBe 11 = .ok (.ireturn, 1) := by decide +kernel
theorem dX0_canBe_12 : decode cX0_canBe 12 = .ok (.iconst 1, 1) := by decide +kernel
theorem dX0_canBe_13 : decode cX0_canBe 13 = .ok (.istore_n 1, 1) := by decide +kernel
theorem dX0_canBe_14 : decode cX0_canBe 14 = .ok (.iload_n 1, 1) := by decide +kernel
theorem dX0_canBe_15 : decode cX0_canBe 15 = .ok (.bipush 6, 2) := by decide +kernel
theorem dX0_canBe_17 : decode cX0_canBe 17 = .ok (.if_icmp .gt 38, 3) := by decide +kernel
theorem dX0_canBe_20 : decode cX0_canBe 20 = .ok (.iload_n 0, 1) := by decide +kernel
theorem dX0_canBe_21 : decode cX0_canBe 21 = .ok (.iload_n 1, 1) := by decide +kernel
theorem dX0_canBe_22 : decode cX0_canBe 22 = .ok (.invokestatic 16, 3) := by decide +kernel
theorem dX0_canBe_25 : decode cX0_canBe 25 = .ok (.istore_n 2, 1) := by decide +kernel
theorem dX0_canBe_26 : decode cX0_canBe 26 = .ok (.iload_n 2, 1) := by decide +kernel
theorem dX0_canBe_27 : decode cX0_canBe 27 = .ok (.getstatic 20, 3) := by decide +kernel
theorem dX0_canBe_30 : decode cX0_canBe 30 = .ok (.iload_n 1, 1) := by decide +kernel
theorem dX0_canBe_31 : decode cX0_canBe 31 = .ok (.iaload, 1) := by decide +kernel
theorem dX0_canBe_32 : decode cX0_canBe 32 = .ok (.if_icmp .gt 15, 3) := by decide +kernel
theorem dX0_canBe_35 : decode cX0_canBe 35 = .ok (.iload_n 2, 1) := by decide +kernel
theorem dX0_canBe_36 : decode cX0_canBe 36 = .ok (.ifCond .le 13, 3) := by decide +kernel
theorem dX0_canBe_39 : decode cX0_canBe 39 = .ok (.iload_n 0, 1) := by decide +kernel
theorem dX0_canBe_40 : decode cX0_canBe 40 = .ok (.iload_n 1, 1) := by decide +kernel
theorem dX0_canBe_41 : decode cX0_canBe 41 = .ok (.invokestatic 24, 3) := by decide +kernel
theorem dX0_canBe_44 : decode cX0_canBe 44 = .ok (.ifCond .ne 5, 3) := by decide +kernel
theorem dX0_canBe_47 : decode cX0_canBe 47 = .ok (.iconst 0, 1) := by decide +kernel
theorem dX0_canBe_48 : decode cX0_canBe 48 = .ok (.ireturn, 1) := by decide +kernel
theorem dX0_canBe_49 : decode cX0_canBe 49 = .ok (.iinc 1 1, 3) := by decide +kernel
theorem dX0_canBe_52 : decode cX0_canBe 52 = .ok (.goto (-38), 3) := by decide +kernel
theorem dX0_canBe_55 : decode cX0_canBe 55 = .ok (.iconst 1, 1) := by decide +kernel
theorem dX0_canBe_56 : decode cX0_canBe 56 = .ok (.ireturn, 1) := by decide +kernel
set_option maxRecDepth 20000 in
theorem ggX0_draw_X11_isWithin : GoodIn wsX0_draw wsX11_isWithin := goodIn_r _ [5] (by decide +kernel) (by decide +kernel)
set_option maxRecDepth 20000 in
theorem gX0_draw_X11_isWithin_n12 : GoodIn wsX0_draw (wsX11_isWithin) := ggX0_draw_X11_isWithin
set_option maxRecDepth 20000 in
theorem ggX0_draw_X0_count : GoodIn wsX0_draw wsX0_count := goodIn_r _ [9, 2] (by decide +kernel) (by decide +kernel)
set_option maxRecDepth 20000 in
theorem gX0_draw_X0_count : GoodIn wsX0_draw (va_wsS RX0 16 yX0_count wsX0_count) := goodIn_app (goodIn_of _ (by decide +kernel)) ggX0_draw_X0_count
set_option maxRecDepth 20000 in
theorem ggX0_draw_X0_hasWhatItNeeds : GoodIn wsX0_draw wsX0_hasWhatItNeeds := goodIn_r _ [12, 13, 6, 7, 8, 9, 2] (by decide +kernel) (by decide +kernel)
set_option maxRecDepth 20000 in
theorem gX0_draw_X0_hasWhatItNeeds : GoodIn wsX0_draw (va_wsS RX0 24 yX0_hasWhatItNeeds wsX0_hasWhatItNeeds) := goodIn_app (goodIn_of _ (by decide +kernel)) ggX0_draw_X0_hasWhatItNeeds
theorem dX0_draw_0 : decode cX0_draw 0 = .ok (.iload_n 1, 1) := by decide +kernel
theorem dX0_draw_1 : decode cX0_draw 1 = .ok (.iconst 1, 1) := by decide +kernel
theorem dX0_draw_2 : decode cX0_draw 2 = .ok (.bipush 6, 2) := by decide +kernel
theorem dX0_draw_4 : decode cX0_draw 4 = .ok (.invokestatic 12, 3) := by decide +kernel
theorem dX0_draw_7 : decode cX0_draw 7 = .ok (.ifCond .eq 16, 3) := by decide +kernel
theorem dX0_draw_10 : decode cX0_draw 10 = .ok (.iload_n 0, 1) := by decide +kernel
theorem dX0_draw_11 : decode cX0_draw 11 = .ok (.iload_n 1, 1) := by decide +kernel
theorem dX0_draw_12 : decode cX0_draw 12 = .ok (.invokestatic 16, 3) := by decide +kernel
theorem dX0_draw_15 : decode cX0_draw 15 = .ok (.getstatic 20, 3) := by decide +kernel
theorem dX0_draw_18 : decode cX0_draw 18 = .ok (.iload_n 1, 1) := by decide +kernel
theorem dX0_draw_19 : decode cX0_draw 19 = .ok (.iaload, 1) := by decide +kernel
theorem dX0_draw_20 : decode cX0_draw 20 = .ok (.if_icmp .lt 5, 3) := by decide +kernel
theorem dX0_draw_23 : decode cX0_draw 23 = .ok (.iload_n 0, 1) := by decide +kernel
theorem dX0_draw_24 : decode cX0_draw 24 = .ok (.ireturn, 1) := by decide +kernel
theorem dX0_draw_25 : decode cX0_draw 25 = .ok (.iload_n 0, 1) := by decide +kernel
theorem dX0_draw_26 : decode cX0_draw 26 = .ok (.iload_n 1, 1) := by decide +kernel
theorem dX0_draw_27 : decode cX0_draw 27 = .ok (.invokestatic 24, 3) := by decide +kernel
theorem dX0_draw_30 : decode cX0_draw 30 = .ok (.ifCond .eq 13, 3) := by decide +kernel
theorem dX0_draw_33 : decode cX0_draw 33 = .ok (.iload_n 0, 1) := by decide +kernel
theorem dX0_draw_34 : decode cX0_draw 34 = .ok (.getstatic 28, 3) := by decide +kernel
theorem dX0_draw_37 : decode cX0_draw 37 = .ok (.iload_n 1, 1) := by decide +kernel
theorem dX0_draw_38 : decode cX0_draw 38 = .ok (.iaload, 1) := by decide +kernel
theorem dX0_draw_39 : decode cX0_draw 39 = .ok (.iadd, 1) := by decide +kernel
theorem dX0_draw_40 : decode cX0_draw 40 = .ok (.goto 4, 3) := by decide +kernel
theorem dX0_draw_43 : decode cX0_draw 43 = .ok (.iload_n 0, 1) := by decide +kernel
theorem dX0_draw_44 : decode cX0_draw 44 = .ok (.ireturn, 1) := by decide +kernel
set_option maxRecDepth 20000 in
theorem ggX0_parts_X0_count : GoodIn wsX0_parts wsX0_count := goodIn_r _ [4, 5] (by decide +kernel) (by decide +kernel)
set_option maxRecDepth 20000 in
theorem gX0_parts_X0_count : GoodIn wsX0_parts (va_wsS RX0 16 yX0_count wsX0_count) := goodIn_app (goodIn_of _ (by decide +kernel)) ggX0_parts_X0_count
theorem dX0_parts_0 : decode cX0_parts 0 = .ok (.iconst 0, 1) := by decide +kernel
theorem dX0_parts_1 : decode cX0_parts 1 = .ok (.istore_n 1, 1) := by decide +kernel
theorem dX0_parts_2 : decode cX0_parts 2 = .ok (.iconst 1, 1) := by decide +kernel
theorem dX0_parts_3 : decode cX0_parts 3 = .ok (.istore_n 2, 1) := by decide +kernel
theorem dX0_parts_4 : decode cX0_parts 4 = .ok (.iload_n 2, 1) := by decide +kernel
theorem dX0_parts_5 : decode cX0_parts 5 = .ok (.bipush 6, 2) := by decide +kernel
theorem dX0_parts_7 : decode cX0_parts 7 = .ok (.if_icmp .gt 17, 3) := by decide +kernel
theorem dX0_parts_10 : decode cX0_parts 10 = .ok (.iload_n 1, 1) := by decide +kernel
theorem dX0_parts_11 : decode cX0_parts 11 = .ok (.iload_n 0, 1) := by decide +kernel
theorem dX0_parts_12 : decode cX0_parts 12 = .ok (.iload_n 2, 1) := by decide +kernel
theorem dX0_parts_13 : decode cX0_parts 13 = .ok (.invokestatic 16, 3) := by decide +kernel
theorem dX0_parts_16 : decode cX0_parts 16 = .ok (.iadd, 1) := by decide +kernel
theorem dX0_parts_17 : decode cX0_parts 17 = .ok (.istore_n 1, 1) := by decide +kernel
theorem dX0_parts_18 : decode cX0_parts 18 = .ok (.iinc 2 1, 3) := by decide +kernel
theorem dX0_parts_21 : decode cX0_parts 21 = .ok (.goto (-17), 3) := by decide +kernel
theorem dX0_parts_24 : decode cX0_parts 24 = .ok (.iload_n 1, 1) := by decide +kernel
theorem dX0_parts_25 : decode cX0_parts 25 = .ok (.ireturn, 1) := by decide +kernel
theorem dX0_count_0 : decode cX0_count 0 = .ok (.iload_n 0, 1) := by decide +kernel
theorem dX0_count_1 : decode cX0_count 1 = .ok (.getstatic 28, 3) := by decide +kernel
theorem dX0_count_4 : decode cX0_count 4 = .ok (.iload_n 1, 1) := by decide +kernel
theorem dX0_count_5 : decode cX0_count 5 = .ok (.iaload, 1) := by decide +kernel
theorem dX0_count_6 : decode cX0_count 6 = .ok (.idiv, 1) := by decide +kernel
theorem dX0_count_7 : decode cX0_count 7 = .ok (.bipush 10, 2) := by decide +kernel
theorem dX0_count_9 : decode cX0_count 9 = .ok (.irem, 1) := by decide +kernel
theorem dX0_count_10 : decode cX0_count 10 = .ok (.ireturn, 1) := by decide +kernel
set_option maxRecDepth 20000 in
theorem ggX0_hasWhatItNeeds_X0_count : GoodIn wsX0_hasWhatItNeeds wsX0_count := goodIn_r _ [5, 6] (by decide +kernel) (by decide +kernel)
set_option maxRecDepth 20000 in
theorem gX0_hasWhatItNeeds_X0_count : GoodIn wsX0_hasWhatItNeeds (va_wsS RX0 16 yX0_count wsX0_count) := goodIn_app (goodIn_of _ (by decide +kernel)) ggX0_hasWhatItNeeds_X0_count
theorem dX0_hasWhatItNeeds_0 : decode cX0_hasWhatItNeeds 0 = .ok (.getstatic 31, 3) := by decide +kernel
theorem dX0_hasWhatItNeeds_3 : decode cX0_hasWhatItNeeds 3 = .ok (.iload_n 1, 1) := by decide +kernel
theorem dX0_hasWhatItNeeds_4 : decode cX0_hasWhatItNeeds 4 = .ok (.iaload, 1) := by decide +kernel
theorem dX0_hasWhatItNeeds_5 : decode cX0_hasWhatItNeeds 5 = .ok (.istore_n 2, 1) := by decide +kernel
theorem dX0_hasWhatItNeeds_6 : decode cX0_hasWhatItNeeds 6 = .ok (.iload_n 2, 1) := by decide +kernel
theorem dX0_hasWhatItNeeds_7 : decode cX0_hasWhatItNeeds 7 = .ok (.ifCond .eq 11, 3) := by decide +kernel
theorem dX0_hasWhatItNeeds_10 : decode cX0_hasWhatItNeeds 10 = .ok (.iload_n 0, 1) := by decide +kernel
theorem dX0_hasWhatItNeeds_11 : decode cX0_hasWhatItNeeds 11 = .ok (.iload_n 2, 1) := by decide +kernel
theorem dX0_hasWhatItNeeds_12 : decode cX0_hasWhatItNeeds 12 = .ok (.invokestatic 16, 3) := by decide +kernel
theorem dX0_hasWhatItNeeds_15 : decode cX0_hasWhatItNeeds 15 = .ok (.ifCond .le 7, 3) := by decide +kernel
theorem dX0_hasWhatItNeeds_18 : decode cX0_hasWhatItNeeds 18 = .ok (.iconst 1, 1) := by decide +kernel
theorem dX0_hasWhatItNeeds_19 : decode cX0_hasWhatItNeeds 19 = .ok (.goto 4, 3) := by decide +kernel
theorem dX0_hasWhatItNeeds_22 : decode cX0_hasWhatItNeeds 22 = .ok (.iconst 0, 1) := by decide +kernel
theorem dX0_hasWhatItNeeds_23 : decode cX0_hasWhatItNeeds 23 = .ok (.ireturn, 1) := by decide +kernel
set_option maxRecDepth 20000 in
theorem ggX1_canLie_X11_isWithin : GoodIn wsX1_canLie wsX11_isWithin := goodIn_r _ [3] (by decide +kernel) (by decide +kernel)
set_option maxRecDepth 20000 in
theorem gX1_canLie_X11_isWithin_n9 : GoodIn wsX1_canLie (wsX11_isWithin) := ggX1_canLie_X11_isWithin
theorem dX1_canLie_0 : decode cX1_canLie 0 = .ok (.iload_n 0, 1) := by decide +kernel
theorem dX1_canLie_1 : decode cX1_canLie 1 = .ok (.bipush 10, 2) := by decide +kernel
theorem dX1_canLie_3 : decode cX1_canLie 3 = .ok (.idiv, 1) := by decide +kernel
theorem dX1_canLie_4 : decode cX1_canLie 4 = .ok (.istore_n 1, 1) := by decide +kernel
theorem dX1_canLie_5 : decode cX1_canLie 5 = .ok (.iload_n 0, 1) := by decide +kernel
theorem dX1_canLie_6 : decode cX1_canLie 6 = .ok (.bipush 10, 2) := by decide +kernel
theorem dX1_canLie_8 : decode cX1_canLie 8 = .ok (.irem, 1) := by decide +kernel
theorem dX1_canLie_9 : decode cX1_canLie 9 = .ok (.istore_n 2, 1) := by decide +kernel
theorem dX1_canLie_10 : decode cX1_canLie 10 = .ok (.iload_n 1, 1) := by decide +kernel
theorem dX1_canLie_11 : decode cX1_canLie 11 = .ok (.iconst 1, 1) := by decide +kernel
theorem dX1_canLie_12 : decode cX1_canLie 12 = .ok (.bipush 6, 2) := by decide +kernel
theorem dX1_canLie_14 : decode cX1_canLie 14 = .ok (.invokestatic 9, 3) := by decide +kernel
theorem dX1_canLie_17 : decode cX1_canLie 17 = .ok (.ifCond .eq 30, 3) := by decide +kernel
theorem dX1_canLie_20 : decode cX1_canLie 20 = .ok (.iload_n 2, 1) := by decide +kernel
theorem dX1_canLie_21 : decode cX1_canLie 21 = .ok (.iconst 1, 1) := by decide +kernel
theorem dX1_canLie_22 : decode cX1_canLie 22 = .ok (.bipush 6, 2) := by decide +kernel
theorem dX1_canLie_24 : decode cX1_canLie 24 = .ok (.invokestatic 9, 3) := by decide +kernel
theorem dX1_canLie_27 : decode cX1_canLie 27 = .ok (.ifCond .eq 20, 3) := by decide +kernel
theorem dX1_canLie_30 : decode cX1_canLie 30 = .ok (.iload_n 2, 1) := by decide +kernel
theorem dX1_canLie_31 : decode cX1_canLie 31 = .ok (.iload_n 1, 1) := by decide +kernel
theorem dX1_canLie_32 : decode cX1_canLie 32 = .ok (.if_icmp .eq 15, 3) := by decide +kernel
theorem dX1_canLie_35 : decode cX1_canLie 35 = .ok (.iload_n 2, 1) := by decide +kernel
theorem dX1_canLie_36 : decode cX1_canLie 36 = .ok (.bipush 7, 2) := by decide +kernel
theorem dX1_canLie_38 : decode cX1_canLie 38 = .ok (.iload_n 1, 1) := by decide +kernel
theorem dX1_canLie_39 : decode cX1_canLie 39 = .ok (.isub, 1) := by decide +kernel
theorem dX1_canLie_40 : decode cX1_canLie 40 = .ok (.if_icmp .eq 7, 3) := by decide +kernel
theorem dX1_canLie_43 : decode cX1_canLie 43 = .ok (.iconst 1, 1) := by decide +kernel
theorem dX1_canLie_44 : decode cX1_canLie 44 = .ok (.goto 4, 3) := by decide +kernel
theorem dX1_canLie_47 : decode cX1_canLie 47 = .ok (.iconst 0, 1) := by decide +kernel
theorem dX1_canLie_48 : decode cX1_canLie 48 = .ok (.ireturn, 1) := by decide +kernel
set_option maxRecDepth 20000 in
theorem ggX1_isRow_X11_isWithin : GoodIn wsX1_isRow wsX11_isWithin := goodIn_r _ [4] (by decide +kernel) (by decide +kernel)
set_option maxRecDepth 20000 in
theorem gX1_isRow_X11_isWithin_n9 : GoodIn wsX1_isRow (wsX11_isWithin) := ggX1_isRow_X11_isWithin
theorem dX1_isRow_0 : decode cX1_isRow 0 = .ok (.iload_n 0, 1) := by decide +kernel
theorem dX1_isRow_1 : decode cX1_isRow 1 = .ok (.iconst 1, 1) := by decide +kernel
theorem dX1_isRow_2 : decode cX1_isRow 2 = .ok (.ldc 15, 2) := by decide +kernel
theorem dX1_isRow_4 : decode cX1_isRow 4 = .ok (.invokestatic 9, 3) := by decide +kernel
theorem dX1_isRow_7 : decode cX1_isRow 7 = .ok (.ifCond .ne 5, 3) := by decide +kernel
theorem dX1_isRow_10 : decode cX1_isRow 10 = .ok (.iconst 0, 1) := by decide +kernel
theorem dX1_isRow_11 : decode cX1_isRow 11 = .ok (.ireturn, 1) := by decide +kernel
theorem dX1_isRow_12 : decode cX1_isRow 12 = .ok (.iload_n 0, 1) := by decide +kernel
theorem dX1_isRow_13 : decode cX1_isRow 13 = .ok (.istore_n 1, 1) := by decide +kernel
theorem dX1_isRow_14 : decode cX1_isRow 14 = .ok (.iconst 0, 1) := by decide +kernel
theorem dX1_isRow_15 : decode cX1_isRow 15 = .ok (.istore_n 2, 1) := by decide +kernel
theorem dX1_isRow_16 : decode cX1_isRow 16 = .ok (.iload_n 2, 1) := by decide +kernel
theorem dX1_isRow_17 : decode cX1_isRow 17 = .ok (.bipush 6, 2) := by decide +kernel
theorem dX1_isRow_19 : decode cX1_isRow 19 = .ok (.if_icmp .ge 30, 3) := by decide +kernel
theorem dX1_isRow_22 : decode cX1_isRow 22 = .ok (.iload_n 1, 1) := by decide +kernel
theorem dX1_isRow_23 : decode cX1_isRow 23 = .ok (.bipush 10, 2) := by decide +kernel
theorem dX1_isRow_25 : decode cX1_isRow 25 = .ok (.if_icmp .lt 24, 3) := by decide +kernel
theorem dX1_isRow_28 : decode cX1_isRow 28 = .ok (.iload_n 1, 1) := by decide +kernel
theorem dX1_isRow_29 : decode cX1_isRow 29 = .ok (.bipush 10, 2) := by decide +kernel
theorem dX1_isRow_31 : decode cX1_isRow 31 = .ok (.irem, 1) := by decide +kernel
theorem dX1_isRow_32 : decode cX1_isRow 32 = .ok (.iconst 3, 1) := by decide +kernel
theorem dX1_isRow_33 : decode cX1_isRow 33 = .ok (.if_icmp .le 5, 3) := by decide +kernel
theorem dX1_isRow_36 : decode cX1_isRow 36 = .ok (.iconst 0, 1) := by decide +kernel
theorem dX1_isRow_37 : decode cX1_isRow 37 = .ok (.ireturn, 1) := by decide +kernel
theorem dX1_isRow_38 : decode cX1_isRow 38 = .ok (.iload_n 1, 1) := by decide +kernel
theorem dX1_isRow_39 : decode cX1_isRow 39 = .ok (.bipush 10, 2) := by decide +kernel
theorem dX1_isRow_41 : decode cX1_isRow 41 = .ok (.idiv, 1) := by decide +kernel
theorem dX1_isRow_42 : decode cX1_isRow 42 = .ok (.istore_n 1, 1) := by decide +kernel
theorem dX1_isRow_43 : decode cX1_isRow 43 = .ok (.iinc 2 1, 3) := by decide +kernel
theorem dX1_isRow_46 : decode cX1_isRow 46 = .ok (.goto (-30), 3) := by decide +kernel
theorem dX1_isRow_49 : decode cX1_isRow 49 = .ok (.iload_n 1, 1) := by decide +kernel
theorem dX1_isRow_50 : decode cX1_isRow 50 = .ok (.iconst 1, 1) := by decide +kernel
theorem dX1_isRow_51 : decode cX1_isRow 51 = .ok (.if_icmp .ne 7, 3) := by decide +kernel
theorem dX1_isRow_54 : decode cX1_isRow 54 = .ok (.iconst 1, 1) := by decide +kernel
theorem dX1_isRow_55 : decode cX1_isRow 55 = .ok (.goto 4, 3) := by decide +kernel
theorem dX1_isRow_58 : decode cX1_isRow 58 = .ok (.iconst 0, 1) := by decide +kernel
theorem dX1_isRow_59 : decode cX1_isRow 59 = .ok (.ireturn, 1) := by decide +kernel
set_option maxRecDepth 20000 in
theorem ggX1_topAfter_X1_rolled : GoodIn wsX1_topAfter wsX1_rolled := goodIn_r _ [5, 6, 7, 4, 8, 9, 10, 11, 12] (by decide +kernel) (by decide +kernel)
set_option maxRecDepth 20000 in
theorem gX1_topAfter_X1_rolled : GoodIn wsX1_topAfter (va_wsS RX1 17 yX1_rolled wsX1_rolled) := goodIn_app (goodIn_of _ (by decide +kernel)) ggX1_topAfter_X1_rolled
theorem dX1_topAfter_0 : decode cX1_topAfter 0 = .ok (.iload_n 0, 1) := by decide +kernel
theorem dX1_topAfter_1 : decode cX1_topAfter 1 = .ok (.istore_n 2, 1) := by decide +kernel
theorem dX1_topAfter_2 : decode cX1_topAfter 2 = .ok (.ldc 16, 2) := by decide +kernel
theorem dX1_topAfter_4 : decode cX1_topAfter 4 = .ok (.istore_n 3, 1) := by decide +kernel
theorem dX1_topAfter_5 : decode cX1_topAfter 5 = .ok (.iconst 0, 1) := by decide +kernel
theorem dX1_topAfter_6 : decode cX1_topAfter 6 = .ok (.istore 4, 2) := by decide +kernel
theorem dX1_topAfter_8 : decode cX1_topAfter 8 = .ok (.iload 4, 2) := by decide +kernel
theorem dX1_topAfter_10 : decode cX1_topAfter 10 = .ok (.bipush 6, 2) := by decide +kernel
theorem dX1_topAfter_12 : decode cX1_topAfter 12 = .ok (.if_icmp .ge 37, 3) := by decide +kernel
theorem dX1_topAfter_15 : decode cX1_topAfter 15 = .ok (.iload_n 3, 1) := by decide +kernel
theorem dX1_topAfter_16 : decode cX1_topAfter 16 = .ok (.ifCond .le 33, 3) := by decide +kernel
theorem dX1_topAfter_19 : decode cX1_topAfter 19 = .ok (.iload_n 1, 1) := by decide +kernel
theorem dX1_topAfter_20 : decode cX1_topAfter 20 = .ok (.iload_n 3, 1) := by decide +kernel
theorem dX1_topAfter_21 : decode cX1_topAfter 21 = .ok (.idiv, 1) := by decide +kernel
theorem dX1_topAfter_22 : decode cX1_topAfter 22 = .ok (.bipush 10, 2) := by decide +kernel
theorem dX1_topAfter_24 : decode cX1_topAfter 24 = .ok (.if_icmp .lt 14, 3) := by decide +kernel
theorem dX1_topAfter_27 : decode cX1_topAfter 27 = .ok (.iload_n 2, 1) := by decide +kernel
theorem dX1_topAfter_28 : decode cX1_topAfter 28 = .ok (.iload_n 1, 1) := by decide +kernel
theorem dX1_topAfter_29 : decode cX1_topAfter 29 = .ok (.iload_n 3, 1) := by decide +kernel
theorem dX1_topAfter_30 : decode cX1_topAfter 30 = .ok (.idiv, 1) := by decide +kernel
theorem dX1_topAfter_31 : decode cX1_topAfter 31 = .ok (.bipush 10, 2) := by decide +kernel
theorem dX1_topAfter_33 : decode cX1_topAfter 33 = .ok (.irem, 1) := by decide +kernel
theorem dX1_topAfter_34 : decode cX1_topAfter 34 = .ok (.invokestatic 17, 3) := by decide +kernel
theorem dX1_topAfter_37 : decode cX1_topAfter 37 = .ok (.istore_n 2, 1) := by decide +kernel
theorem dX1_topAfter_38 : decode cX1_topAfter 38 = .ok (.iload_n 3, 1) := by decide +kernel
theorem dX1_topAfter_39 : decode cX1_topAfter 39 = .ok (.bipush 10, 2) := by decide +kernel
theorem dX1_topAfter_41 : decode cX1_topAfter 41 = .ok (.idiv, 1) := by decide +kernel
theorem dX1_topAfter_42 : decode cX1_topAfter 42 = .ok (.istore_n 3, 1) := by decide +kernel
theorem dX1_topAfter_43 : decode cX1_topAfter 43 = .ok (.iinc 4 1, 3) := by decide +kernel
theorem dX1_topAfter_46 : decode cX1_topAfter 46 = .ok (.goto (-38), 3) := by decide +kernel
theorem dX1_topAfter_49 : decode cX1_topAfter 49 = .ok (.iload_n 2, 1) := by decide +kernel
theorem dX1_topAfter_50 : decode cX1_topAfter 50 = .ok (.bipush 10, 2) := by decide +kernel
theorem dX1_topAfter_52 : decode cX1_topAfter 52 = .ok (.idiv, 1) := by decide +kernel
theorem dX1_topAfter_53 : decode cX1_topAfter 53 = .ok (.ireturn, 1) := by decide +kernel
set_option maxRecDepth 20000 in
theorem ggX1_rolled_X1_rightOf : GoodIn wsX1_rolled wsX1_rightOf := goodIn_r _ [4, 5, 6, 7, 8] (by decide +kernel) (by decide +kernel)
set_option maxRecDepth 20000 in
theorem gX1_rolled_X1_rightOf : GoodIn wsX1_rolled (va_wsS RX1 21 yX1_rightOf wsX1_rightOf) := goodIn_app (goodIn_of _ (by decide +kernel)) ggX1_rolled_X1_rightOf
theorem dX1_rolled_0 : decode cX1_rolled 0 = .ok (.iload_n 0, 1) := by decide +kernel
theorem dX1_rolled_1 : decode cX1_rolled 1 = .ok (.bipush 10, 2) := by decide +kernel
theorem dX1_rolled_3 : decode cX1_rolled 3 = .ok (.idiv, 1) := by decide +kernel
theorem dX1_rolled_4 : decode cX1_rolled 4 = .ok (.istore_n 2, 1) := by decide +kernel
theorem dX1_rolled_5 : decode cX1_rolled 5 = .ok (.iload_n 0, 1) := by decide +kernel
theorem dX1_rolled_6 : decode cX1_rolled 6 = .ok (.bipush 10, 2) := by decide +kernel
theorem dX1_rolled_8 : decode cX1_rolled 8 = .ok (.irem, 1) := by decide +kernel
theorem dX1_rolled_9 : decode cX1_rolled 9 = .ok (.istore_n 3, 1) := by decide +kernel
theorem dX1_rolled_10 : decode cX1_rolled 10 = .ok (.iload_n 1, 1) := by decide +kernel
theorem dX1_rolled_11 : decode cX1_rolled 11 = .ok (.tableswitch 59 0 2 #[25, 35, 49], 25) := by decide +kernel
theorem dX1_rolled_36 : decode cX1_rolled 36 = .ok (.bipush 7, 2) := by decide +kernel
theorem dX1_rolled_38 : decode cX1_rolled 38 = .ok (.iload_n 3, 1) := by decide +kernel
theorem dX1_rolled_39 : decode cX1_rolled 39 = .ok (.isub, 1) := by decide +kernel
theorem dX1_rolled_40 : decode cX1_rolled 40 = .ok (.bipush 10, 2) := by decide +kernel
theorem dX1_rolled_42 : decode cX1_rolled 42 = .ok (.imul, 1) := by decide +kernel
theorem dX1_rolled_43 : decode cX1_rolled 43 = .ok (.iload_n 2, 1) := by decide +kernel
theorem dX1_rolled_44 : decode cX1_rolled 44 = .ok (.iadd, 1) := by decide +kernel
theorem dX1_rolled_45 : decode cX1_rolled 45 = .ok (.ireturn, 1) := by decide +kernel
theorem dX1_rolled_46 : decode cX1_rolled 46 = .ok (.bipush 7, 2) := by decide +kernel
theorem dX1_rolled_48 : decode cX1_rolled 48 = .ok (.iload_n 2, 1) := by decide +kernel
theorem dX1_rolled_49 : decode cX1_rolled 49 = .ok (.iload_n 3, 1) := by decide +kernel
theorem dX1_rolled_50 : decode cX1_rolled 50 = .ok (.invokestatic 21, 3) := by decide +kernel
theorem dX1_rolled_53 : decode cX1_rolled 53 = .ok (.isub, 1) := by decide +kernel
theorem dX1_rolled_54 : decode cX1_rolled 54 = .ok (.bipush 10, 2) := by decide +kernel
theorem dX1_rolled_56 : decode cX1_rolled 56 = .ok (.imul, 1) := by decide +kernel
theorem dX1_rolled_57 : decode cX1_rolled 57 = .ok (.iload_n 3, 1) := by decide +kernel
theorem dX1_rolled_58 : decode cX1_rolled 58 = .ok (.iadd, 1) := by decide +kernel
theorem dX1_rolled_59 : decode cX1_rolled 59 = .ok (.ireturn, 1) := by decide +kernel
theorem dX1_rolled_60 : decode cX1_rolled 60 = .ok (.iload_n 3, 1) := by decide +kernel
theorem dX1_rolled_61 : decode cX1_rolled 61 = .ok (.bipush 10, 2) := by decide +kernel
theorem dX1_rolled_63 : decode cX1_rolled 63 = .ok (.imul, 1) := by decide +kernel
theorem dX1_rolled_64 : decode cX1_rolled 64 = .ok (.bipush 7, 2) := by decide +kernel
theorem dX1_rolled_66 : decode cX1_rolled 66 = .ok (.iadd, 1) := by decide +kernel
theorem dX1_rolled_67 : decode cX1_rolled 67 = .ok (.iload_n 2, 1) := by decide +kernel
theorem dX1_rolled_68 : decode cX1_rolled 68 = .ok (.isub, 1) := by decide +kernel
theorem dX1_rolled_69 : decode cX1_rolled 69 = .ok (.ireturn, 1) := by decide +kernel
theorem dX1_rolled_70 : decode cX1_rolled 70 = .ok (.iload_n 2, 1) := by decide +kernel
theorem dX1_rolled_71 : decode cX1_rolled 71 = .ok (.iload_n 3, 1) := by decide +kernel
theorem dX1_rolled_72 : decode cX1_rolled 72 = .ok (.invokestatic 21, 3) := by decide +kernel
theorem dX1_rolled_75 : decode cX1_rolled 75 = .ok (.bipush 10, 2) := by decide +kernel
theorem dX1_rolled_77 : decode cX1_rolled 77 = .ok (.imul, 1) := by decide +kernel
theorem dX1_rolled_78 : decode cX1_rolled 78 = .ok (.iload_n 3, 1) := by decide +kernel
theorem dX1_rolled_79 : decode cX1_rolled 79 = .ok (.iadd, 1) := by decide +kernel
theorem dX1_rolled_80 : decode cX1_rolled 80 = .ok (.ireturn, 1) := by decide +kernel
theorem dX1_rightOf_0 : decode cX1_rightOf 0 = .ok (.iload_n 0, 1) := by decide +kernel
theorem dX1_rightOf_1 : decode cX1_rightOf 1 = .ok (.bipush 7, 2) := by decide +kernel
theorem dX1_rightOf_3 : decode cX1_rightOf 3 = .ok (.iload_n 0, 1) := by decide +kernel
theorem dX1_rightOf_4 : decode cX1_rightOf 4 = .ok (.isub, 1) := by decide +kernel
theorem dX1_rightOf_5 : decode cX1_rightOf 5 = .ok (.invokestatic 24, 3) := by decide +kernel
theorem dX1_rightOf_8 : decode cX1_rightOf 8 = .ok (.istore_n 2, 1) := by decide +kernel
theorem dX1_rightOf_9 : decode cX1_rightOf 9 = .ok (.iload_n 1, 1) := by decide +kernel
theorem dX1_rightOf_10 : decode cX1_rightOf 10 = .ok (.bipush 7, 2) := by decide +kernel
theorem dX1_rightOf_12 : decode cX1_rightOf 12 = .ok (.iload_n 1, 1) := by decide +kernel
theorem dX1_rightOf_13 : decode cX1_rightOf 13 = .ok (.isub, 1) := by decide +kernel
theorem dX1_rightOf_14 : decode cX1_rightOf 14 = .ok (.invokestatic 24, 3) := by decide +kernel
theorem dX1_rightOf_17 : decode cX1_rightOf 17 = .ok (.istore_n 3, 1) := by decide +kernel
theorem dX1_rightOf_18 : decode cX1_rightOf 18 = .ok (.bipush 6, 2) := by decide +kernel
theorem dX1_rightOf_20 : decode cX1_rightOf 20 = .ok (.iload_n 2, 1) := by decide +kernel
theorem dX1_rightOf_21 : decode cX1_rightOf 21 = .ok (.isub, 1) := by decide +kernel
theorem dX1_rightOf_22 : decode cX1_rightOf 22 = .ok (.iload_n 3, 1) := by decide +kernel
theorem dX1_rightOf_23 : decode cX1_rightOf 23 = .ok (.isub, 1) := by decide +kernel
theorem dX1_rightOf_24 : decode cX1_rightOf 24 = .ok (.istore 4, 2) := by decide +kernel
theorem dX1_rightOf_26 : decode cX1_rightOf 26 = .ok (.iload_n 3, 1) := by decide +kernel
theorem dX1_rightOf_27 : decode cX1_rightOf 27 = .ok (.iload_n 2, 1) := by decide +kernel
theorem dX1_rightOf_28 : decode cX1_rightOf 28 = .ok (.isub, 1) := by decide +kernel
theorem dX1_rightOf_29 : decode cX1_rightOf 29 = .ok (.iconst 3, 1) := by decide +kernel
theorem dX1_rightOf_30 : decode cX1_rightOf 30 = .ok (.iadd, 1) := by decide +kernel
theorem dX1_rightOf_31 : decode cX1_rightOf 31 = .ok (.iconst 3, 1) := by decide +kernel
theorem dX1_rightOf_32 : decode cX1_rightOf 32 = .ok (.irem, 1) := by decide +kernel
theorem dX1_rightOf_33 : decode cX1_rightOf 33 = .ok (.iconst 1, 1) := by decide +kernel
theorem dX1_rightOf_34 : decode cX1_rightOf 34 = .ok (.if_icmp .ne 7, 3) := by decide +kernel
theorem dX1_rightOf_37 : decode cX1_rightOf 37 = .ok (.iconst 1, 1) := by decide +kernel
theorem dX1_rightOf_38 : decode cX1_rightOf 38 = .ok (.goto 4, 3) := by decide +kernel
theorem dX1_rightOf_41 : decode cX1_rightOf 41 = .ok (.iconst 0, 1) := by decide +kernel
theorem dX1_rightOf_42 : decode cX1_rightOf 42 = .ok (.istore 5, 2) := by decide +kernel
theorem dX1_rightOf_44 : decode cX1_rightOf 44 = .ok (.iload_n 0, 1) := by decide +kernel
theorem dX1_rightOf_45 : decode cX1_rightOf 45 = .ok (.iconst 3, 1) := by decide +kernel
theorem dX1_rightOf_46 : decode cX1_rightOf 46 = .ok (.if_icmp .le 7, 3) := by decide +kernel
theorem dX1_rightOf_49 : decode cX1_rightOf 49 = .ok (.iconst 1, 1) := by decide +kernel
theorem dX1_rightOf_50 : decode cX1_rightOf 50 = .ok (.goto 4, 3) := by decide +kernel
theorem dX1_rightOf_53 : decode cX1_rightOf 53 = .ok (.iconst 0, 1) := by decide +kernel
theorem dX1_rightOf_54 : decode cX1_rightOf 54 = .ok (.iload_n 1, 1) := by decide +kernel
theorem dX1_rightOf_55 : decode cX1_rightOf 55 = .ok (.iconst 3, 1) := by decide +kernel
theorem dX1_rightOf_56 : decode cX1_rightOf 56 = .ok (.if_icmp .le 7, 3) := by decide +kernel
theorem dX1_rightOf_59 : decode cX1_rightOf 59 = .ok (.iconst 1, 1) := by decide +kernel
theorem dX1_rightOf_60 : decode cX1_rightOf 60 = .ok (.goto 4, 3) := by decide +kernel
theorem dX1_rightOf_63 : decode cX1_rightOf 63 = .ok (.iconst 0, 1) := by decide +kernel
theorem dX1_rightOf_64 : decode cX1_rightOf 64 = .ok (.if_icmp .ne 7, 3) := by decide +kernel
theorem dX1_rightOf_67 : decode cX1_rightOf 67 = .ok (.iconst 1, 1) := by decide +kernel
theorem dX1_rightOf_68 : decode cX1_rightOf 68 = .ok (.goto 4, 3) := by decide +kernel
theorem dX1_rightOf_71 : decode cX1_rightOf 71 = .ok (.iconst 0, 1) := by decide +kernel
theorem dX1_rightOf_72 : decode cX1_rightOf 72 = .ok (.istore 6, 2) := by decide +kernel
theorem dX1_rightOf_74 : decode cX1_rightOf 74 = .ok (.iload 5, 2) := by decide +kernel
theorem dX1_rightOf_76 : decode cX1_rightOf 76 = .ok (.iload 6, 2) := by decide +kernel
theorem dX1_rightOf_78 : decode cX1_rightOf 78 = .ok (.if_icmp .ne 8, 3) := by decide +kernel
theorem dX1_rightOf_81 : decode cX1_rightOf 81 = .ok (.iload 4, 2) := by decide +kernel
theorem dX1_rightOf_83 : decode cX1_rightOf 83 = .ok (.goto 8, 3) := by decide +kernel
theorem dX1_rightOf_86 : decode cX1_rightOf 86 = .ok (.bipush 7, 2) := by decide +kernel
theorem dX1_rightOf_88 : decode cX1_rightOf 88 = .ok (.iload 4, 2) := by decide +kernel
theorem dX1_rightOf_90 : decode cX1_rightOf 90 = .ok (.isub, 1) := by decide +kernel
theorem dX1_rightOf_91 : decode cX1_rightOf 91 = .ok (.ireturn, 1) := by decide +kernel
theorem dX2_init_0 : decode cX2_init 0 = .ok (.aload_n 0, 1) := by decide +kernel
theorem dX2_init_1 : decode cX2_init 1 = .ok (.invokespecial 3, 3) := by decide +kernel
theorem dX2_init_4 : decode cX2_init 4 = .ok (.aload_n 0, 1) := by decide +kernel
theorem dX2_init_5 : decode cX2_init 5 = .ok (.bipush 24, 2) := by decide +kernel
theorem dX2_init_7 : decode cX2_init 7 = .ok (.newarray .int, 2) := by decide +kernel
theorem dX2_init_9 : decode cX2_init 9 = .ok (.putfield 11, 3) := by decide +kernel
theorem dX2_init_12 : decode cX2_init 12 = .ok (.aload_n 0, 1) := by decide +kernel
theorem dX2_init_13 : decode cX2_init 13 = .ok (.bipush 7, 2) := by decide +kernel
theorem dX2_init_15 : decode cX2_init 15 = .ok (.newarray .int, 2) := by decide +kernel
theorem dX2_init_17 : decode cX2_init 17 = .ok (.putfield 15, 3) := by decide +kernel
theorem dX2_init_20 : decode cX2_init 20 = .ok (.return_, 1) := by decide +kernel
set_option maxRecDepth 20000 in
theorem ggX2_search_X1_canLie : GoodIn wsX2_search wsX1_canLie := goodIn_r _ [6, 7, 8, 9] (by decide +kernel) (by decide +kernel)
set_option maxRecDepth 20000 in
theorem gX2_search_X1_canLie : GoodIn wsX2_search (va_wsS RX2 22 yX1_canLie wsX1_canLie) := goodIn_app (goodIn_of _ (by decide +kernel)) ggX2_search_X1_canLie
set_option maxRecDepth 20000 in
theorem ggX2_search_X7_fit : GoodIn wsX2_search wsX7_fit := goodIn_r _ [14, 15, 16, 17, 18, 19, 5, 20, 21, 22, 23, 24, 25, 26, 27, 28, 29, 30, 31, 35, 36, 37] (by decide +kernel) (by decide +kernel)
set_option maxRecDepth 20000 in
theorem gX2_search_X7_fit : GoodIn wsX2_search (wsV RX2 28 RX7 yX7_fit wsX7_fit) := goodIn_app (goodIn_of _ (by decide +kernel)) ggX2_search_X7_fit
theorem dX2_search_0 : decode cX2_search 0 = .ok (.aload_n 0, 1) := by decide +kernel
theorem dX2_search_1 : decode cX2_search 1 = .ok (.iconst 0, 1) := by decide +kernel
theorem dX2_search_2 : decode cX2_search 2 = .ok (.putfield 18, 3) := by decide +kernel
theorem dX2_search_5 : decode cX2_search 5 = .ok (.bipush 12, 2) := by decide +kernel
theorem dX2_search_7 : decode cX2_search 7 = .ok (.istore_n 2, 1) := by decide +kernel
theorem dX2_search_8 : decode cX2_search 8 = .ok (.iload_n 2, 1) := by decide +kernel
theorem dX2_search_9 : decode cX2_search 9 = .ok (.bipush 65, 2) := by decide +kernel
theorem dX2_search_11 : decode cX2_search 11 = .ok (.if_icmp .gt 53, 3) := by decide +kernel
theorem dX2_search_14 : decode cX2_search 14 = .ok (.aload_n 0, 1) := by decide +kernel
theorem dX2_search_15 : decode cX2_search 15 = .ok (.getfield 18, 3) := by decide +kernel
theorem dX2_search_18 : decode cX2_search 18 = .ok (.bipush 24, 2) := by decide +kernel
theorem dX2_search_20 : decode cX2_search 20 = .ok (.if_icmp .ge 44, 3) := by decide +kernel
theorem dX2_search_23 : decode cX2_search 23 = .ok (.iload_n 2, 1) := by decide +kernel
theorem dX2_search_24 : decode cX2_search 24 = .ok (.invokestatic 22, 3) := by decide +kernel
theorem dX2_search_27 : decode cX2_search 27 = .ok (.ifCond .eq 31, 3) := by decide +kernel
theorem dX2_search_30 : decode cX2_search 30 = .ok (.aload_n 1, 1) := by decide +kernel
theorem dX2_search_31 : decode cX2_search 31 = .ok (.iload_n 2, 1) := by decide +kernel
theorem dX2_search_32 : decode cX2_search 32 = .ok (.invokevirtual 28, 3) := by decide +kernel
theorem dX2_search_35 : decode cX2_search 35 = .ok (.ifCond .eq 23, 3) := by decide +kernel
theorem dX2_search_38 : decode cX2_search 38 = .ok (.aload_n 0, 1) := by decide +kernel
theorem dX2_search_39 : decode cX2_search 39 = .ok (.getfield 11, 3) := by decide +kernel
theorem dX2_search_42 : decode cX2_search 42 = .ok (.aload_n 0, 1) := by decide +kernel
theorem dX2_search_43 : decode cX2_search 43 = .ok (.getfield 18, 3) := by decide +kernel
theorem dX2_search_46 : decode cX2_search 46 = .ok (.iload_n 2, 1) := by decide +kernel
theorem dX2_search_47 : decode cX2_search 47 = .ok (.iastore, 1) := by decide +kernel
theorem dX2_search_48 : decode cX2_search 48 = .ok (.aload_n 0, 1) := by decide +kernel
theorem dX2_search_49 : decode cX2_search 49 = .ok (.dup, 1) := by decide +kernel
theorem dX2_search_50 : decode cX2_search 50 = .ok (.getfield 18, 3) := by decide +kernel
theorem dX2_search_53 : decode cX2_search 53 = .ok (.iconst 1, 1) := by decide +kernel
theorem dX2_search_54 : decode cX2_search 54 = .ok (.iadd, 1) := by decide +kernel
theorem dX2_search_55 : decode cX2_search 55 = .ok (.putfield 18, 3) := by decide +kernel
theorem dX2_search_58 : decode cX2_search 58 = .ok (.iinc 2 1, 3) := by decide +kernel
theorem dX2_search_61 : decode cX2_search 61 = .ok (.goto (-53), 3) := by decide +kernel
theorem dX2_search_64 : decode cX2_search 64 = .ok (.return_, 1) := by decide +kernel
set_option maxRecDepth 20000 in
theorem ggX2_bestRow_X2_mostLeft : GoodIn wsX2_bestRow wsX2_mostLeft := goodIn_r _ [5, 6, 7, 8, 9, 10, 11, 12, 13, 14, 15, 16, 17, 18, 19, 20, 21, 22, 23, 24, 25, 26, 27, 28, 29, 34, 35, 36] (by decide +kernel) (by decide +kernel)
set_option maxRecDepth 20000 in
theorem gX2_bestRow_X2_mostLeft : GoodIn wsX2_bestRow (wsV RX2 33 RX2 yX2_mostLeft wsX2_mostLeft) := goodIn_app (goodIn_of _ (by decide +kernel)) ggX2_bestRow_X2_mostLeft
set_option maxRecDepth 20000 in
theorem ggX2_bestRow_X1_isRow : GoodIn wsX2_bestRow wsX1_isRow := goodIn_r _ [32, 33, 27, 28, 29] (by decide +kernel) (by decide +kernel)
set_option maxRecDepth 20000 in
theorem gX2_bestRow_X1_isRow : GoodIn wsX2_bestRow (va_wsS RX2 37 yX1_isRow wsX1_isRow) := goodIn_app (goodIn_of _ (by decide +kernel)) ggX2_bestRow_X1_isRow
theorem dX2_bestRow_0 : decode cX2_bestRow 0 = .ok (.iconst 1, 1) := by decide +kernel
theorem dX2_bestRow_1 : decode cX2_bestRow 1 = .ok (.istore_n 1, 1) := by decide +kernel
theorem dX2_bestRow_2 : decode cX2_bestRow 2 = .ok (.aload_n 0, 1) := by decide +kernel
theorem dX2_bestRow_3 : decode cX2_bestRow 3 = .ok (.iload_n 1, 1) := by decide +kernel
theorem dX2_bestRow_4 : decode cX2_bestRow 4 = .ok (.invokevirtual 33, 3) := by decide +kernel
theorem dX2_bestRow_7 : decode cX2_bestRow 7 = .ok (.istore_n 2, 1) := by decide +kernel
theorem dX2_bestRow_8 : decode cX2_bestRow 8 = .ok (.iconst 2, 1) := by decide +kernel
theorem dX2_bestRow_9 : decode cX2_bestRow 9 = .ok (.istore_n 3, 1) := by decide +kernel
theorem dX2_bestRow_10 : decode cX2_bestRow 10 = .ok (.iload_n 3, 1) := by decide +kernel
theorem dX2_bestRow_11 : decode cX2_bestRow 11 = .ok (.sipush 133, 3) := by decide +kernel
theorem dX2_bestRow_14 : decode cX2_bestRow 14 = .ok (.if_icmp .gt 37, 3) := by decide +kernel
theorem dX2_bestRow_17 : decode cX2_bestRow 17 = .ok (.iload_n 3, 1) := by decide +kernel
theorem dX2_bestRow_18 : decode cX2_bestRow 18 = .ok (.invokestatic 37, 3) := by decide +kernel
theorem dX2_bestRow_21 : decode cX2_bestRow 21 = .ok (.ifCond .ne 6, 3) := by decide +kernel
theorem dX2_bestRow_24 : decode cX2_bestRow 24 = .ok (.goto 21, 3) := by decide +kernel
theorem dX2_bestRow_27 : decode cX2_bestRow 27 = .ok (.aload_n 0, 1) := by decide +kernel
theorem dX2_bestRow_28 : decode cX2_bestRow 28 = .ok (.iload_n 3, 1) := by decide +kernel
theorem dX2_bestRow_29 : decode cX2_bestRow 29 = .ok (.invokevirtual 33, 3) := by decide +kernel
theorem dX2_bestRow_32 : decode cX2_bestRow 32 = .ok (.istore 4, 2) := by decide +kernel
theorem dX2_bestRow_34 : decode cX2_bestRow 34 = .ok (.iload 4, 2) := by decide +kernel
theorem dX2_bestRow_36 : decode cX2_bestRow 36 = .ok (.iload_n 2, 1) := by decide +kernel
theorem dX2_bestRow_37 : decode cX2_bestRow 37 = .ok (.if_icmp .ge 8, 3) := by decide +kernel
theorem dX2_bestRow_40 : decode cX2_bestRow 40 = .ok (.iload_n 3, 1) := by decide +kernel
theorem dX2_bestRow_41 : decode cX2_bestRow 41 = .ok (.istore_n 1, 1) := by decide +kernel
theorem dX2_bestRow_42 : decode cX2_bestRow 42 = .ok (.iload 4, 2) := by decide +kernel
theorem dX2_bestRow_44 : decode cX2_bestRow 44 = .ok (.istore_n 2, 1) := by decide +kernel
theorem dX2_bestRow_45 : decode cX2_bestRow 45 = .ok (.iinc 3 1, 3) := by decide +kernel
theorem dX2_bestRow_48 : decode cX2_bestRow 48 = .ok (.goto (-38), 3) := by decide +kernel
theorem dX2_bestRow_51 : decode cX2_bestRow 51 = .ok (.iload_n 1, 1) := by decide +kernel
theorem dX2_bestRow_52 : decode cX2_bestRow 52 = .ok (.ireturn, 1) := by decide +kernel
set_option maxRecDepth 20000 in
theorem ggX2_mostLeft_X1_topAfter : GoodIn wsX2_mostLeft wsX1_topAfter := goodIn_r _ [11, 12, 13, 14, 10, 15, 16, 17, 18, 19, 20, 6, 21] (by decide +kernel) (by decide +kernel)
set_option maxRecDepth 20000 in
theorem gX2_mostLeft_X1_topAfter : GoodIn wsX2_mostLeft (va_wsS RX2 40 yX1_topAfter wsX1_topAfter) := goodIn_app (goodIn_of _ (by decide +kernel)) ggX2_mostLeft_X1_topAfter
set_option maxRecDepth 20000 in
theorem ggX2_mostLeft_X11_isWithin : GoodIn wsX2_mostLeft wsX11_isWithin := goodIn_r _ [24] (by decide +kernel) (by decide +kernel)
set_option maxRecDepth 20000 in
theorem gX2_mostLeft_X11_isWithin_n44 : GoodIn wsX2_mostLeft (wsX11_isWithin) := ggX2_mostLeft_X11_isWithin
theorem dX2_mostLeft_0 : decode cX2_mostLeft 0 = .ok (.iconst 0, 1) := by decide +kernel
theorem dX2_mostLeft_1 : decode cX2_mostLeft 1 = .ok (.istore_n 2, 1) := by decide +kernel
theorem dX2_mostLeft_2 : decode cX2_mostLeft 2 = .ok (.iload_n 2, 1) := by decide +kernel
theorem dX2_mostLeft_3 : decode cX2_mostLeft 3 = .ok (.bipush 6, 2) := by decide +kernel
theorem dX2_mostLeft_5 : decode cX2_mostLeft 5 = .ok (.if_icmp .gt 16, 3) := by decide +kernel
theorem dX2_mostLeft_8 : decode cX2_mostLeft 8 = .ok (.aload_n 0, 1) := by decide +kernel
theorem dX2_mostLeft_9 : decode cX2_mostLeft 9 = .ok (.getfield 15, 3) := by decide +kernel
theorem dX2_mostLeft_12 : decode cX2_mostLeft 12 = .ok (.iload_n 2, 1) := by decide +kernel
theorem dX2_mostLeft_13 : decode cX2_mostLeft 13 = .ok (.iconst 0, 1) := by decide +kernel
theorem dX2_mostLeft_14 : decode cX2_mostLeft 14 = .ok (.iastore, 1) := by decide +kernel
theorem dX2_mostLeft_15 : decode cX2_mostLeft 15 = .ok (.iinc 2 1, 3) := by decide +kernel
theorem dX2_mostLeft_18 : decode cX2_mostLeft 18 = .ok (.goto (-16), 3) := by decide +kernel
theorem dX2_mostLeft_21 : decode cX2_mostLeft 21 = .ok (.iconst 0, 1) := by decide +kernel
theorem dX2_mostLeft_22 : decode cX2_mostLeft 22 = .ok (.istore_n 2, 1) := by decide +kernel
theorem dX2_mostLeft_23 : decode cX2_mostLeft 23 = .ok (.iconst 0, 1) := by decide +kernel
theorem dX2_mostLeft_24 : decode cX2_mostLeft 24 = .ok (.istore_n 3, 1) := by decide +kernel
theorem dX2_mostLeft_25 : decode cX2_mostLeft 25 = .ok (.iload_n 3, 1) := by decide +kernel
theorem dX2_mostLeft_26 : decode cX2_mostLeft 26 = .ok (.aload_n 0, 1) := by decide +kernel
theorem dX2_mostLeft_27 : decode cX2_mostLeft 27 = .ok (.getfield 18, 3) := by decide +kernel
theorem dX2_mostLeft_30 : decode cX2_mostLeft 30 = .ok (.if_icmp .ge 55, 3) := by decide +kernel
theorem dX2_mostLeft_33 : decode cX2_mostLeft 33 = .ok (.aload_n 0, 1) := by decide +kernel
theorem dX2_mostLeft_34 : decode cX2_mostLeft 34 = .ok (.getfield 11, 3) := by decide +kernel
theorem dX2_mostLeft_37 : decode cX2_mostLeft 37 = .ok (.iload_n 3, 1) := by decide +kernel
theorem dX2_mostLeft_38 : decode cX2_mostLeft 38 = .ok (.iaload, 1) := by decide +kernel
theorem dX2_mostLeft_39 : decode cX2_mostLeft 39 = .ok (.iload_n 1, 1) := by decide +kernel
theorem dX2_mostLeft_40 : decode cX2_mostLeft 40 = .ok (.invokestatic 40, 3) := by decide +kernel
theorem dX2_mostLeft_43 : decode cX2_mostLeft 43 = .ok (.istore 4, 2) := by decide +kernel
theorem dX2_mostLeft_45 : decode cX2_mostLeft 45 = .ok (.iload 4, 2) := by decide +kernel
theorem dX2_mostLeft_47 : decode cX2_mostLeft 47 = .ok (.iconst 1, 1) := by decide +kernel
theorem dX2_mostLeft_48 : decode cX2_mostLeft 48 = .ok (.bipush 6, 2) := by decide +kernel
theorem dX2_mostLeft_50 : decode cX2_mostLeft 50 = .ok (.invokestatic 44, 3) := by decide +kernel
theorem dX2_mostLeft_53 : decode cX2_mostLeft 53 = .ok (.ifCond .eq 26, 3) := by decide +kernel
theorem dX2_mostLeft_56 : decode cX2_mostLeft 56 = .ok (.aload_n 0, 1) := by decide +kernel
theorem dX2_mostLeft_57 : decode cX2_mostLeft 57 = .ok (.getfield 15, 3) := by decide +kernel
theorem dX2_mostLeft_60 : decode cX2_mostLeft 60 = .ok (.iload 4, 2) := by decide +kernel
theorem dX2_mostLeft_62 : decode cX2_mostLeft 62 = .ok (.dup2, 1) := by decide +kernel
theorem dX2_mostLeft_63 : decode cX2_mostLeft 63 = .ok (.iaload, 1) := by decide +kernel
theorem dX2_mostLeft_64 : decode cX2_mostLeft 64 = .ok (.iconst 1, 1) := by decide +kernel
theorem dX2_mostLeft_65 : decode cX2_mostLeft 65 = .ok (.iadd, 1) := by decide +kernel
theorem dX2_mostLeft_66 : decode cX2_mostLeft 66 = .ok (.iastore, 1) := by decide +kernel
theorem dX2_mostLeft_67 : decode cX2_mostLeft 67 = .ok (.iload_n 2, 1) := by decide +kernel
theorem dX2_mostLeft_68 : decode cX2_mostLeft 68 = .ok (.aload_n 0, 1) := by decide +kernel
theorem dX2_mostLeft_69 : decode cX2_mostLeft 69 = .ok (.getfield 15, 3) := by decide +kernel
theorem dX2_mostLeft_72 : decode cX2_mostLeft 72 = .ok (.iload 4, 2) := by decide +kernel
theorem dX2_mostLeft_74 : decode cX2_mostLeft 74 = .ok (.iaload, 1) := by decide +kernel
theorem dX2_mostLeft_75 : decode cX2_mostLeft 75 = .ok (.invokestatic 48, 3) := by decide +kernel
theorem dX2_mostLeft_78 : decode cX2_mostLeft 78 = .ok (.istore_n 2, 1) := by decide +kernel
theorem dX2_mostLeft_79 : decode cX2_mostLeft 79 = .ok (.iinc 3 1, 3) := by decide +kernel
theorem dX2_mostLeft_82 : decode cX2_mostLeft 82 = .ok (.goto (-57), 3) := by decide +kernel
theorem dX2_mostLeft_85 : decode cX2_mostLeft 85 = .ok (.iload_n 2, 1) := by decide +kernel
theorem dX2_mostLeft_86 : decode cX2_mostLeft 86 = .ok (.ireturn, 1) := by decide +kernel
set_option maxRecDepth 20000 in
theorem ggX3_init_X9_init : GoodIn wsX3_init wsX9_init := goodIn_r _ [13, 14, 2, 3, 15, 16, 17, 18, 24, 25, 26, 27, 28] (by decide +kernel) (by decide +kernel)
set_option maxRecDepth 20000 in
theorem gX3_init_X9_init_n9 : GoodIn wsX3_init (wsX9_init) := ggX3_init_X9_init
set_option maxRecDepth 20000 in
theorem ggX3_init_X7_init : GoodIn wsX3_init wsX7_init := goodIn_r _ [20, 21, 2, 3, 15, 22, 23, 32, 33, 34] (by decide +kernel) (by decide +kernel)
set_option maxRecDepth 20000 in
theorem gX3_init_X7_init_n18 : GoodIn wsX3_init (wsX7_init) := ggX3_init_X7_init
theorem dX3_init_0 : decode cX3_init 0 = .ok (.aload_n 0, 1) := by decide +kernel
theorem dX3_init_1 : decode cX3_init 1 = .ok (.invokespecial 1, 3) := by decide +kernel
theorem dX3_init_4 : decode cX3_init 4 = .ok (.aload_n 0, 1) := by decide +kernel
theorem dX3_init_5 : decode cX3_init 5 = .ok (.new 7, 3) := by decide +kernel
theorem dX3_init_8 : decode cX3_init 8 = .ok (.dup, 1) := by decide +kernel
theorem dX3_init_9 : decode cX3_init 9 = .ok (.invokespecial 9, 3) := by decide +kernel
theorem dX3_init_12 : decode cX3_init 12 = .ok (.putfield 10, 3) := by decide +kernel
theorem dX3_init_15 : decode cX3_init 15 = .ok (.aload_n 0, 1) := by decide +kernel
theorem dX3_init_16 : decode cX3_init 16 = .ok (.new 16, 3) := by decide +kernel
theorem dX3_init_19 : decode cX3_init 19 = .ok (.dup, 1) := by decide +kernel
theorem dX3_init_20 : decode cX3_init 20 = .ok (.invokespecial 18, 3) := by decide +kernel
theorem dX3_init_23 : decode cX3_init 23 = .ok (.putfield 19, 3) := by decide +kernel
theorem dX3_init_26 : decode cX3_init 26 = .ok (.return_, 1) := by decide +kernel
set_option maxRecDepth 20000 in
theorem ggX3_keep_X9_copyFrom : GoodIn wsX3_keep wsX9_copyFrom := goodIn_r _ [8, 9, 10, 11, 12, 13, 25, 26, 27, 28, 29] (by decide +kernel) (by decide +kernel)
set_option maxRecDepth 20000 in
theorem gX3_keep_X9_copyFrom : GoodIn wsX3_keep (wsV RX3 23 RX9 yX9_copyFrom wsX9_copyFrom) := goodIn_app (goodIn_of _ (by decide +kernel)) ggX3_keep_X9_copyFrom
set_option maxRecDepth 20000 in
theorem ggX3_keep_X7_copyFrom : GoodIn wsX3_keep wsX7_copyFrom := goodIn_r _ [18, 19, 20, 21, 30, 31, 32] (by decide +kernel) (by decide +kernel)
set_option maxRecDepth 20000 in
theorem gX3_keep_X7_copyFrom : GoodIn wsX3_keep (wsV RX3 27 RX7 yX7_copyFrom wsX7_copyFrom) := goodIn_app (goodIn_of _ (by decide +kernel)) ggX3_keep_X7_copyFrom
theorem dX3_keep_0 : decode cX3_keep 0 = .ok (.aload_n 0, 1) := by decide +kernel
theorem dX3_keep_1 : decode cX3_keep 1 = .ok (.getfield 10, 3) := by decide +kernel
theorem dX3_keep_4 : decode cX3_keep 4 = .ok (.aload_n 1, 1) := by decide +kernel
theorem dX3_keep_5 : decode cX3_keep 5 = .ok (.invokevirtual 23, 3) := by decide +kernel
theorem dX3_keep_8 : decode cX3_keep 8 = .ok (.aload_n 0, 1) := by decide +kernel
theorem dX3_keep_9 : decode cX3_keep 9 = .ok (.getfield 19, 3) := by decide +kernel
theorem dX3_keep_12 : decode cX3_keep 12 = .ok (.aload_n 2, 1) := by decide +kernel
theorem dX3_keep_13 : decode cX3_keep 13 = .ok (.invokevirtual 27, 3) := by decide +kernel
theorem dX3_keep_16 : decode cX3_keep 16 = .ok (.aload_n 0, 1) := by decide +kernel
theorem dX3_keep_17 : decode cX3_keep 17 = .ok (.iconst 1, 1) := by decide +kernel
theorem dX3_keep_18 : decode cX3_keep 18 = .ok (.putfield 30, 3) := by decide +kernel
theorem dX3_keep_21 : decode cX3_keep 21 = .ok (.return_, 1) := by decide +kernel
set_option maxRecDepth 20000 in
theorem ggX4_init_X9_init : GoodIn wsX4_init wsX9_init := goodIn_r _ [9, 10, 2, 3, 11, 12, 13, 14, 15, 16, 17, 18, 19] (by decide +kernel) (by decide +kernel)
set_option maxRecDepth 20000 in
theorem gX4_init_X9_init_n11 : GoodIn wsX4_init (wsX9_init) := ggX4_init_X9_init
theorem dX4_init_0 : decode cX4_init 0 = .ok (.aload_n 0, 1) := by decide +kernel
theorem dX4_init_1 : decode cX4_init 1 = .ok (.invokespecial 3, 3) := by decide +kernel
theorem dX4_init_4 : decode cX4_init 4 = .ok (.aload_n 0, 1) := by decide +kernel
theorem dX4_init_5 : decode cX4_init 5 = .ok (.new 9, 3) := by decide +kernel
theorem dX4_init_8 : decode cX4_init 8 = .ok (.dup, 1) := by decide +kernel
theorem dX4_init_9 : decode cX4_init 9 = .ok (.invokespecial 11, 3) := by decide +kernel
theorem dX4_init_12 : decode cX4_init 12 = .ok (.putfield 12, 3) := by decide +kernel
theorem dX4_init_15 : decode cX4_init 15 = .ok (.return_, 1) := by decide +kernel
set_option maxRecDepth 20000 in
theorem ggX4_playText_X4_begin : GoodIn wsX4_playText wsX4_begin := goodIn_r _ [6, 7, 8, 1, 9, 10, 11, 12, 13, 14, 15, 16, 17, 18, 19, 20, 21, 108, 109, 110, 111, 112, 113, 114, 115, 116, 117, 118] (by decide +kernel) (by decide +kernel)
set_option maxRecDepth 20000 in
theorem gX4_playText_X4_begin : GoodIn wsX4_playText (wsV RX4 18 RX4 yX4_begin wsX4_begin) := goodIn_app (goodIn_of _ (by decide +kernel)) ggX4_playText_X4_begin
set_option maxRecDepth 20000 in
theorem ggX4_playText_X5_firstFault : GoodIn wsX4_playText wsX5_firstFault := goodIn_r _ [26, 27, 28, 29, 30, 25, 31, 32, 33, 15, 34, 35, 36, 37, 38, 39, 40, 106, 107] (by decide +kernel) (by decide +kernel)
set_option maxRecDepth 20000 in
theorem gX4_playText_X5_firstFault : GoodIn wsX4_playText (wsV RX4 22 RX5 yX5_firstFault wsX5_firstFault) := goodIn_app (goodIn_of _ (by decide +kernel)) ggX4_playText_X5_firstFault
set_option maxRecDepth 20000 in
theorem ggX4_playText_X5_isLetter : GoodIn wsX4_playText wsX5_isLetter := goodIn_r _ [40, 35, 36, 37] (by decide +kernel) (by decide +kernel)
set_option maxRecDepth 20000 in
theorem gX4_playText_X5_isLetter : GoodIn wsX4_playText (va_wsS RX4 39 yX5_isLetter wsX5_isLetter) := goodIn_app (goodIn_of _ (by decide +kernel)) ggX4_playText_X5_isLetter
set_option maxRecDepth 20000 in
theorem ggX4_playText_X4_play : GoodIn wsX4_playText wsX4_play := goodIn_r _ [45, 7, 1, 8, 46, 47, 48, 15, 49, 20, 19, 21, 50, 33, 34, 35, 36, 37, 51, 52, 53, 54, 17, 55, 56, 57, 58, 59, 60, 61, 62, 63, 18, 64, 65, 66, 67, 68, 69, 70, 71, 72, 73, 74, 75, 76, 77, 78, 79, 80, 81, 82, 83, 84, 85, 86, 87, 88, 89, 90, 91, 92, 93, 94, 95, 96, 97, 98, 99, 100, 101, 102, 103, 5, 104, 9, 10, 11, 105, 108, 109, 110, 111, 112, 113, 114, 115, 116, 117, 118] (by decide +kernel) (by decide +kernel)
set_option maxRecDepth 20000 in
theorem gX4_playText_X4_play : GoodIn wsX4_playText (wsV RX4 43 RX4 yX4_play wsX4_play) := goodIn_app (goodIn_of _ (by decide +kernel)) ggX4_playText_X4_play
theorem dX4_playText_0 : decode cX4_playText 0 = .ok (.aload_n 0, 1) := by decide +kernel
theorem dX4_playText_1 : decode cX4_playText 1 = .ok (.aload_n 2, 1) := by decide +kernel
theorem dX4_playText_2 : decode cX4_playText 2 = .ok (.invokevirtual 18, 3) := by decide +kernel
theorem dX4_playText_5 : decode cX4_playText 5 = .ok (.aload_n 1, 1) := by decide +kernel
theorem dX4_playText_6 : decode cX4_playText 6 = .ok (.invokevirtual 22, 3) := by decide +kernel
theorem dX4_playText_9 : decode cX4_playText 9 = .ok (.bipush (-6), 2) := by decide +kernel
theorem dX4_playText_11 : decode cX4_playText 11 = .ok (.if_icmp .eq 6, 3) := by decide +kernel
theorem dX4_playText_14 : decode cX4_playText 14 = .ok (.bipush (-5), 2) := by decide +kernel
theorem dX4_playText_16 : decode cX4_playText 16 = .ok (.ireturn, 1) := by decide +kernel
theorem dX4_playText_17 : decode cX4_playText 17 = .ok (.iconst 0, 1) := by decide +kernel
theorem dX4_playText_18 : decode cX4_playText 18 = .ok (.istore_n 3, 1) := by decide +kernel
theorem dX4_playText_19 : decode cX4_playText 19 = .ok (.iconst 0, 1) := by decide +kernel
theorem dX4_playText_20 : decode cX4_playText 20 = .ok (.istore 4, 2) := by decide +kernel
theorem dX4_playText_22 : decode cX4_playText 22 = .ok (.iload 4, 2) := by decide +kernel
theorem dX4_playText_24 : decode cX4_playText 24 = .ok (.aload_n 1, 1) := by decide +kernel
theorem dX4_playText_25 : decode cX4_playText 25 = .ok (.getfield 28, 3) := by decide +kernel
theorem dX4_playText_28 : decode cX4_playText 28 = .ok (.if_icmp .ge 49, 3) := by decide +kernel
theorem dX4_playText_31 : decode cX4_playText 31 = .ok (.aload_n 0, 1) := by decide +kernel
theorem dX4_playText_32 : decode cX4_playText 32 = .ok (.getfield 32, 3) := by decide +kernel
theorem dX4_playText_35 : decode cX4_playText 35 = .ok (.ifCond .ne 42, 3) := by decide +kernel
theorem dX4_playText_38 : decode cX4_playText 38 = .ok (.aload_n 1, 1) := by decide +kernel
theorem dX4_playText_39 : decode cX4_playText 39 = .ok (.getfield 35, 3) := by decide +kernel
theorem dX4_playText_42 : decode cX4_playText 42 = .ok (.iload 4, 2) := by decide +kernel
theorem dX4_playText_44 : decode cX4_playText 44 = .ok (.iaload, 1) := by decide +kernel
theorem dX4_playText_45 : decode cX4_playText 45 = .ok (.istore 5, 2) := by decide +kernel
theorem dX4_playText_47 : decode cX4_playText 47 = .ok (.iload 5, 2) := by decide +kernel
theorem dX4_playText_49 : decode cX4_playText 49 = .ok (.invokestatic 39, 3) := by decide +kernel
theorem dX4_playText_52 : decode cX4_playText 52 = .ok (.ifCond .eq 12, 3) := by decide +kernel
theorem dX4_playText_55 : decode cX4_playText 55 = .ok (.iload 5, 2) := by decide +kernel
theorem dX4_playText_57 : decode cX4_playText 57 = .ok (.bipush 65, 2) := by decide +kernel
theorem dX4_playText_59 : decode cX4_playText 59 = .ok (.isub, 1) := by decide +kernel
theorem dX4_playText_60 : decode cX4_playText 60 = .ok (.istore_n 3, 1) := by decide +kernel
theorem dX4_playText_61 : decode cX4_playText 61 = .ok (.goto 10, 3) := by decide +kernel
theorem dX4_playText_64 : decode cX4_playText 64 = .ok (.aload_n 0, 1) := by decide +kernel
theorem dX4_playText_65 : decode cX4_playText 65 = .ok (.iload 5, 2) := by decide +kernel
theorem dX4_playText_67 : decode cX4_playText 67 = .ok (.iload_n 3, 1) := by decide +kernel
theorem dX4_playText_68 : decode cX4_playText 68 = .ok (.invokevirtual 43, 3) := by decide +kernel
theorem dX4_playText_71 : decode cX4_playText 71 = .ok (.iinc 4 1, 3) := by decide +kernel
theorem dX4_playText_74 : decode cX4_playText 74 = .ok (.goto (-52), 3) := by decide +kernel
theorem dX4_playText_77 : decode cX4_playText 77 = .ok (.aload_n 0, 1) := by decide +kernel
theorem dX4_playText_78 : decode cX4_playText 78 = .ok (.getfield 32, 3) := by decide +kernel
theorem dX4_playText_81 : decode cX4_playText 81 = .ok (.ifCond .ne 7, 3) := by decide +kernel
theorem dX4_playText_84 : decode cX4_playText 84 = .ok (.iconst 0, 1) := by decide +kernel
theorem dX4_playText_85 : decode cX4_playText 85 = .ok (.goto 5, 3) := by decide +kernel
theorem dX4_playText_88 : decode cX4_playText 88 = .ok (.bipush (-3), 2) := by decide +kernel
theorem dX4_playText_90 : decode cX4_playText 90 = .ok (.ireturn, 1) := by decide +kernel
set_option maxRecDepth 20000 in
theorem ggX4_playYear_X4_begin : GoodIn wsX4_playYear wsX4_begin := goodIn_r _ [6, 7, 8, 9, 10, 11, 12, 13, 14, 15, 16, 17, 18, 19, 20, 21, 22, 95, 96, 97, 98, 99, 100, 101, 102, 103, 104, 105] (by decide +kernel) (by decide +kernel)
set_option maxRecDepth 20000 in
theorem gX4_playYear_X4_begin : GoodIn wsX4_playYear (wsV RX4 18 RX4 yX4_begin wsX4_begin) := goodIn_app (goodIn_of _ (by decide +kernel)) ggX4_playYear_X4_begin
set_option maxRecDepth 20000 in
theorem ggX4_playYear_X4_markOfYear : GoodIn wsX4_playYear wsX4_markOfYear := goodIn_r _ [25] (by decide +kernel) (by decide +kernel)
set_option maxRecDepth 20000 in
theorem gX4_playYear_X4_markOfYear : GoodIn wsX4_playYear (va_wsS RX4 48 yX4_markOfYear wsX4_markOfYear) := goodIn_app (goodIn_of _ (by decide +kernel)) ggX4_playYear_X4_markOfYear
set_option maxRecDepth 20000 in
theorem ggX4_playYear_X4_play : GoodIn wsX4_playYear wsX4_play := goodIn_r _ [29, 7, 9, 8, 30, 31, 32, 16, 33, 21, 20, 22, 34, 35, 36, 37, 38, 39, 40, 41, 42, 43, 18, 44, 45, 46, 47, 48, 49, 50, 51, 52, 19, 53, 54, 55, 56, 57, 58, 59, 60, 61, 62, 63, 64, 65, 66, 67, 68, 69, 70, 71, 72, 73, 74, 75, 76, 77, 78, 79, 80, 81, 82, 83, 84, 85, 86, 87, 88, 89, 90, 91, 92, 5, 93, 10, 11, 12, 94, 95, 96, 97, 98, 99, 100, 101, 102, 103, 104, 105] (by decide +kernel) (by decide +kernel)
set_option maxRecDepth 20000 in
theorem gX4_playYear_X4_play : GoodIn wsX4_playYear (wsV RX4 43 RX4 yX4_play wsX4_play) := goodIn_app (goodIn_of _ (by decide +kernel)) ggX4_playYear_X4_play
theorem dX4_playYear_0 : decode cX4_playYear 0 = .ok (.aload_n 0, 1) := by decide +kernel
theorem dX4_playYear_1 : decode cX4_playYear 1 = .ok (.aload_n 3, 1) := by decide +kernel
theorem dX4_playYear_2 : decode cX4_playYear 2 = .ok (.invokevirtual 18, 3) := by decide +kernel
theorem dX4_playYear_5 : decode cX4_playYear 5 = .ok (.iload_n 1, 1) := by decide +kernel
theorem dX4_playYear_6 : decode cX4_playYear 6 = .ok (.istore 4, 2) := by decide +kernel
theorem dX4_playYear_8 : decode cX4_playYear 8 = .ok (.iconst 0, 1) := by decide +kernel
theorem dX4_playYear_9 : decode cX4_playYear 9 = .ok (.istore 5, 2) := by decide +kernel
theorem dX4_playYear_11 : decode cX4_playYear 11 = .ok (.iload 5, 2) := by decide +kernel
theorem dX4_playYear_13 : decode cX4_playYear 13 = .ok (.iload_n 2, 1) := by decide +kernel
theorem dX4_playYear_14 : decode cX4_playYear 14 = .ok (.if_icmp .ge 48, 3) := by decide +kernel
theorem dX4_playYear_17 : decode cX4_playYear 17 = .ok (.bipush 75, 2) := by decide +kernel
theorem dX4_playYear_19 : decode cX4_playYear 19 = .ok (.iload 4, 2) := by decide +kernel
theorem dX4_playYear_21 : decode cX4_playYear 21 = .ok (.imul, 1) := by decide +kernel
theorem dX4_playYear_22 : decode cX4_playYear 22 = .ok (.bipush 74, 2) := by decide +kernel
theorem dX4_playYear_24 : decode cX4_playYear 24 = .ok (.iadd, 1) := by decide +kernel
theorem dX4_playYear_25 : decode cX4_playYear 25 = .ok (.ldc 47, 2) := by decide +kernel
theorem dX4_playYear_27 : decode cX4_playYear 27 = .ok (.irem, 1) := by decide +kernel
theorem dX4_playYear_28 : decode cX4_playYear 28 = .ok (.istore 4, 2) := by decide +kernel
theorem dX4_playYear_30 : decode cX4_playYear 30 = .ok (.iload 4, 2) := by decide +kernel
theorem dX4_playYear_32 : decode cX4_playYear 32 = .ok (.bipush 8, 2) := by decide +kernel
theorem dX4_playYear_34 : decode cX4_playYear 34 = .ok (.idiv, 1) := by decide +kernel
theorem dX4_playYear_35 : decode cX4_playYear 35 = .ok (.istore 6, 2) := by decide +kernel
theorem dX4_playYear_37 : decode cX4_playYear 37 = .ok (.aload_n 0, 1) := by decide +kernel
theorem dX4_playYear_38 : decode cX4_playYear 38 = .ok (.iload 4, 2) := by decide +kernel
theorem dX4_playYear_40 : decode cX4_playYear 40 = .ok (.bipush 8, 2) := by decide +kernel
theorem dX4_playYear_42 : decode cX4_playYear 42 = .ok (.irem, 1) := by decide +kernel
theorem dX4_playYear_43 : decode cX4_playYear 43 = .ok (.iload 6, 2) := by decide +kernel
theorem dX4_playYear_45 : decode cX4_playYear 45 = .ok (.invokestatic 48, 3) := by decide +kernel
theorem dX4_playYear_48 : decode cX4_playYear 48 = .ok (.iload 6, 2) := by decide +kernel
theorem dX4_playYear_50 : decode cX4_playYear 50 = .ok (.bipush 6, 2) := by decide +kernel
theorem dX4_playYear_52 : decode cX4_playYear 52 = .ok (.irem, 1) := by decide +kernel
theorem dX4_playYear_53 : decode cX4_playYear 53 = .ok (.invokevirtual 43, 3) := by decide +kernel
theorem dX4_playYear_56 : decode cX4_playYear 56 = .ok (.iinc 5 1, 3) := by decide +kernel
theorem dX4_playYear_59 : decode cX4_playYear 59 = .ok (.goto (-48), 3) := by decide +kernel
theorem dX4_playYear_62 : decode cX4_playYear 62 = .ok (.return_, 1) := by decide +kernel
theorem dX4_markOfYear_0 : decode cX4_markOfYear 0 = .ok (.iload_n 0, 1) := by decide +kernel
theorem dX4_markOfYear_1 : decode cX4_markOfYear 1 = .ok (.iconst 5, 1) := by decide +kernel
theorem dX4_markOfYear_2 : decode cX4_markOfYear 2 = .ok (.if_icmp .gt 11, 3) := by decide +kernel
theorem dX4_markOfYear_5 : decode cX4_markOfYear 5 = .ok (.bipush 49, 2) := by decide +kernel
theorem dX4_markOfYear_7 : decode cX4_markOfYear 7 = .ok (.iload_n 1, 1) := by decide +kernel
theorem dX4_markOfYear_8 : decode cX4_markOfYear 8 = .ok (.bipush 6, 2) := by decide +kernel
theorem dX4_markOfYear_10 : decode cX4_markOfYear 10 = .ok (.irem, 1) := by decide +kernel
theorem dX4_markOfYear_11 : decode cX4_markOfYear 11 = .ok (.iadd, 1) := by decide +kernel
theorem dX4_markOfYear_12 : decode cX4_markOfYear 12 = .ok (.ireturn, 1) := by decide +kernel
theorem dX4_markOfYear_13 : decode cX4_markOfYear 13 = .ok (.iload_n 0, 1) := by decide +kernel
theorem dX4_markOfYear_14 : decode cX4_markOfYear 14 = .ok (.bipush 7, 2) := by decide +kernel
theorem dX4_markOfYear_16 : decode cX4_markOfYear 16 = .ok (.if_icmp .ne 6, 3) := by decide +kernel
theorem dX4_markOfYear_19 : decode cX4_markOfYear 19 = .ok (.bipush 33, 2) := by decide +kernel
theorem dX4_markOfYear_21 : decode cX4_markOfYear 21 = .ok (.ireturn, 1) := by decide +kernel
theorem dX4_markOfYear_22 : decode cX4_markOfYear 22 = .ok (.iload_n 1, 1) := by decide +kernel
theorem dX4_markOfYear_23 : decode cX4_markOfYear 23 = .ok (.bipush 6, 2) := by decide +kernel
theorem dX4_markOfYear_25 : decode cX4_markOfYear 25 = .ok (.idiv, 1) := by decide +kernel
theorem dX4_markOfYear_26 : decode cX4_markOfYear 26 = .ok (.iconst 4, 1) := by decide +kernel
theorem dX4_markOfYear_27 : decode cX4_markOfYear 27 = .ok (.irem, 1) := by decide +kernel
theorem dX4_markOfYear_28 : decode cX4_markOfYear 28 = .ok (.ifCond .ne 8, 3) := by decide +kernel
theorem dX4_markOfYear_31 : decode cX4_markOfYear 31 = .ok (.bipush 35, 2) := by decide +kernel
theorem dX4_markOfYear_33 : decode cX4_markOfYear 33 = .ok (.goto 5, 3) := by decide +kernel
theorem dX4_markOfYear_36 : decode cX4_markOfYear 36 = .ok (.bipush 46, 2) := by decide +kernel
theorem dX4_markOfYear_38 : decode cX4_markOfYear 38 = .ok (.ireturn, 1) := by decide +kernel
set_option maxRecDepth 20000 in
theorem ggX4_begin_X9_copyFrom : GoodIn wsX4_begin wsX9_copyFrom := goodIn_r _ [11, 12, 13, 14, 15, 16, 23, 24, 25, 26, 27] (by decide +kernel) (by decide +kernel)
set_option maxRecDepth 20000 in
theorem gX4_begin_X9_copyFrom : GoodIn wsX4_begin (wsV RX4 52 RX9 yX9_copyFrom wsX9_copyFrom) := goodIn_app (goodIn_of _ (by decide +kernel)) ggX4_begin_X9_copyFrom
theorem dX4_begin_0 : decode cX4_begin 0 = .ok (.aload_n 0, 1) := by decide +kernel
theorem dX4_begin_1 : decode cX4_begin 1 = .ok (.getfield 12, 3) := by decide +kernel
theorem dX4_begin_4 : decode cX4_begin 4 = .ok (.aload_n 1, 1) := by decide +kernel
theorem dX4_begin_5 : decode cX4_begin 5 = .ok (.invokevirtual 52, 3) := by decide +kernel
theorem dX4_begin_8 : decode cX4_begin 8 = .ok (.aload_n 0, 1) := by decide +kernel
theorem dX4_begin_9 : decode cX4_begin 9 = .ok (.iconst 0, 1) := by decide +kernel
theorem dX4_begin_10 : decode cX4_begin 10 = .ok (.putfield 55, 3) := by decide +kernel
theorem dX4_begin_13 : decode cX4_begin 13 = .ok (.aload_n 0, 1) := by decide +kernel
theorem dX4_begin_14 : decode cX4_begin 14 = .ok (.iconst 0, 1) := by decide +kernel
theorem dX4_begin_15 : decode cX4_begin 15 = .ok (.putfield 32, 3) := by decide +kernel
theorem dX4_begin_18 : decode cX4_begin 18 = .ok (.aload_n 0, 1) := by decide +kernel
theorem dX4_begin_19 : decode cX4_begin 19 = .ok (.iconst 0, 1) := by decide +kernel
theorem dX4_begin_20 : decode cX4_begin 20 = .ok (.putfield 58, 3) := by decide +kernel
theorem dX4_begin_23 : decode cX4_begin 23 = .ok (.aload_n 0, 1) := by decide +kernel
theorem dX4_begin_24 : decode cX4_begin 24 = .ok (.bipush (-6), 2) := by decide +kernel
theorem dX4_begin_26 : decode cX4_begin 26 = .ok (.putfield 61, 3) := by decide +kernel
theorem dX4_begin_29 : decode cX4_begin 29 = .ok (.aload_n 0, 1) := by decide +kernel
theorem dX4_begin_30 : decode cX4_begin 30 = .ok (.bipush (-6), 2) := by decide +kernel
theorem dX4_begin_32 : decode cX4_begin 32 = .ok (.putfield 64, 3) := by decide +kernel
theorem dX4_begin_35 : decode cX4_begin 35 = .ok (.return_, 1) := by decide +kernel
set_option maxRecDepth 20000 in
theorem ggX4_play_X9_whyNot : GoodIn wsX4_play wsX9_whyNot := goodIn_r _ [8, 9, 10, 11, 12, 13, 7, 14, 15, 16, 17, 18, 19, 20, 21, 22, 23, 24, 25, 26, 27, 85, 86, 87, 88, 89] (by decide +kernel) (by decide +kernel)
set_option maxRecDepth 20000 in
theorem gX4_play_X9_whyNot : GoodIn wsX4_play (wsV RX4 67 RX9 yX9_whyNot wsX9_whyNot) := goodIn_app (goodIn_of _ (by decide +kernel)) ggX4_play_X9_whyNot
set_option maxRecDepth 20000 in
theorem ggX4_play_X9_countUp : GoodIn wsX4_play wsX9_countUp := goodIn_r _ [31, 32, 33, 34, 35, 36, 22, 9, 11, 37, 38, 39, 7, 40, 41, 42, 43, 44, 45, 46, 47, 48, 85, 86, 87, 88, 89] (by decide +kernel) (by decide +kernel)
set_option maxRecDepth 20000 in
theorem gX4_play_X9_countUp : GoodIn wsX4_play (wsV RX4 70 RX9 yX9_countUp wsX9_countUp) := goodIn_app (goodIn_of _ (by decide +kernel)) ggX4_play_X9_countUp
set_option maxRecDepth 20000 in
theorem ggX4_play_X9_goOrCome : GoodIn wsX4_play wsX9_goOrCome := goodIn_r _ [52, 10, 9, 53, 54, 55, 7, 56, 24, 25, 26, 27, 85, 86, 87, 88, 89] (by decide +kernel) (by decide +kernel)
set_option maxRecDepth 20000 in
theorem gX4_play_X9_goOrCome : GoodIn wsX4_play (wsV RX4 74 RX9 yX9_goOrCome wsX9_goOrCome) := goodIn_app (goodIn_of _ (by decide +kernel)) ggX4_play_X9_goOrCome
set_option maxRecDepth 20000 in
theorem ggX4_play_X9_passOn : GoodIn wsX4_play wsX9_passOn := goodIn_r _ [56, 9, 24, 25, 26, 7, 27, 10, 85, 86, 87, 88, 89] (by decide +kernel) (by decide +kernel)
set_option maxRecDepth 20000 in
theorem gX4_play_X9_passOn : GoodIn wsX4_play (wsV RX4 77 RX9 yX9_passOn wsX9_passOn) := goodIn_app (goodIn_of _ (by decide +kernel)) ggX4_play_X9_passOn
set_option maxRecDepth 20000 in
theorem ggX4_play_X9_drawBy : GoodIn wsX4_play wsX9_drawBy := goodIn_r _ [61, 22, 9, 62, 63, 43, 64, 65, 48, 15, 16, 17, 45, 46, 47, 66, 67, 68, 69, 53, 54, 55, 7, 56, 24, 25, 26, 27, 10, 85, 86, 87, 88, 89] (by decide +kernel) (by decide +kernel)
set_option maxRecDepth 20000 in
theorem gX4_play_X9_drawBy : GoodIn wsX4_play (wsV RX4 80 RX9 yX9_drawBy wsX9_drawBy) := goodIn_app (goodIn_of _ (by decide +kernel)) ggX4_play_X9_drawBy
set_option maxRecDepth 20000 in
theorem ggX4_play_X4_noteThrow : GoodIn wsX4_play wsX4_noteThrow := goodIn_r _ [74, 75, 76, 1, 3, 77, 78, 19, 20, 7, 21, 22, 23, 79, 80, 81, 82, 83, 84, 85, 86, 87, 88, 89] (by decide +kernel) (by decide +kernel)
set_option maxRecDepth 20000 in
theorem gX4_play_X4_noteThrow : GoodIn wsX4_play (wsV RX4 83 RX4 yX4_noteThrow wsX4_noteThrow) := goodIn_app (goodIn_of _ (by decide +kernel)) ggX4_play_X4_noteThrow
theorem dX4_play_0 : decode cX4_play 0 = .ok (.aload_n 0, 1) := by decide +kernel
theorem dX4_play_1 : decode cX4_play 1 = .ok (.aload_n 0, 1) := by decide +kernel
theorem dX4_play_2 : decode cX4_play 2 = .ok (.getfield 12, 3) := by decide +kernel
theorem dX4_play_5 : decode cX4_play 5 = .ok (.iload_n 1, 1) := by decide +kernel
theorem dX4_play_6 : decode cX4_play 6 = .ok (.iload_n 2, 1) := by decide +kernel
theorem dX4_play_7 : decode cX4_play 7 = .ok (.invokevirtual 67, 3) := by decide +kernel
theorem dX4_play_10 : decode cX4_play 10 = .ok (.putfield 32, 3) := by decide +kernel
theorem dX4_play_13 : decode cX4_play 13 = .ok (.aload_n 0, 1) := by decide +kernel
theorem dX4_play_14 : decode cX4_play 14 = .ok (.getfield 32, 3) := by decide +kernel
theorem dX4_play_17 : decode cX4_play 17 = .ok (.ifCond .eq 4, 3) := by decide +kernel
theorem dX4_play_20 : decode cX4_play 20 = .ok (.return_, 1) := by decide +kernel
theorem dX4_play_21 : decode cX4_play 21 = .ok (.iload_n 1, 1) := by decide +kernel
theorem dX4_play_22 : decode cX4_play 22 = .ok (.bipush 33, 2) := by decide +kernel
theorem dX4_play_24 : decode cX4_play 24 = .ok (.if_icmp .ne 14, 3) := by decide +kernel
theorem dX4_play_27 : decode cX4_play 27 = .ok (.aload_n 0, 1) := by decide +kernel
theorem dX4_play_28 : decode cX4_play 28 = .ok (.getfield 12, 3) := by decide +kernel
theorem dX4_play_31 : decode cX4_play 31 = .ok (.iload_n 2, 1) := by decide +kernel
theorem dX4_play_32 : decode cX4_play 32 = .ok (.invokevirtual 70, 3) := by decide +kernel
theorem dX4_play_35 : decode cX4_play 35 = .ok (.goto 53, 3) := by decide +kernel
theorem dX4_play_38 : decode cX4_play 38 = .ok (.iload_n 1, 1) := by decide +kernel
theorem dX4_play_39 : decode cX4_play 39 = .ok (.bipush 35, 2) := by decide +kernel
theorem dX4_play_41 : decode cX4_play 41 = .ok (.if_icmp .ne 14, 3) := by decide +kernel
theorem dX4_play_44 : decode cX4_play 44 = .ok (.aload_n 0, 1) := by decide +kernel
theorem dX4_play_45 : decode cX4_play 45 = .ok (.getfield 12, 3) := by decide +kernel
theorem dX4_play_48 : decode cX4_play 48 = .ok (.iload_n 2, 1) := by decide +kernel
theorem dX4_play_49 : decode cX4_play 49 = .ok (.invokevirtual 74, 3) := by decide +kernel
theorem dX4_play_52 : decode cX4_play 52 = .ok (.goto 36, 3) := by decide +kernel
theorem dX4_play_55 : decode cX4_play 55 = .ok (.iload_n 1, 1) := by decide +kernel
theorem dX4_play_56 : decode cX4_play 56 = .ok (.bipush 46, 2) := by decide +kernel
theorem dX4_play_58 : decode cX4_play 58 = .ok (.if_icmp .ne 13, 3) := by decide +kernel
theorem dX4_play_61 : decode cX4_play 61 = .ok (.aload_n 0, 1) := by decide +kernel
theorem dX4_play_62 : decode cX4_play 62 = .ok (.getfield 12, 3) := by decide +kernel
theorem dX4_play_65 : decode cX4_play 65 = .ok (.invokevirtual 77, 3) := by decide +kernel
theorem dX4_play_68 : decode cX4_play 68 = .ok (.goto 20, 3) := by decide +kernel
theorem dX4_play_71 : decode cX4_play 71 = .ok (.aload_n 0, 1) := by decide +kernel
theorem dX4_play_72 : decode cX4_play 72 = .ok (.aload_n 0, 1) := by decide +kernel
theorem dX4_play_73 : decode cX4_play 73 = .ok (.getfield 12, 3) := by decide +kernel
theorem dX4_play_76 : decode cX4_play 76 = .ok (.iload_n 1, 1) := by decide +kernel
theorem dX4_play_77 : decode cX4_play 77 = .ok (.bipush 49, 2) := by decide +kernel
theorem dX4_play_79 : decode cX4_play 79 = .ok (.isub, 1) := by decide +kernel
theorem dX4_play_80 : decode cX4_play 80 = .ok (.iconst 1, 1) := by decide +kernel
theorem dX4_play_81 : decode cX4_play 81 = .ok (.iadd, 1) := by decide +kernel
theorem dX4_play_82 : decode cX4_play 82 = .ok (.invokevirtual 80, 3) := by decide +kernel
theorem dX4_play_85 : decode cX4_play 85 = .ok (.invokevirtual 83, 3) := by decide +kernel
theorem dX4_play_88 : decode cX4_play 88 = .ok (.aload_n 0, 1) := by decide +kernel
theorem dX4_play_89 : decode cX4_play 89 = .ok (.dup, 1) := by decide +kernel
theorem dX4_play_90 : decode cX4_play 90 = .ok (.getfield 55, 3) := by decide +kernel
theorem dX4_play_93 : decode cX4_play 93 = .ok (.iconst 1, 1) := by decide +kernel
theorem dX4_play_94 : decode cX4_play 94 = .ok (.iadd, 1) := by decide +kernel
theorem dX4_play_95 : decode cX4_play 95 = .ok (.putfield 55, 3) := by decide +kernel
theorem dX4_play_98 : decode cX4_play 98 = .ok (.return_, 1) := by decide +kernel
set_option maxRecDepth 20000 in
theorem ggX4_noteThrow_X9_isWhole : GoodIn wsX4_noteThrow wsX9_isWhole := goodIn_r _ [10, 11, 12, 19, 20, 21, 22, 23] (by decide +kernel) (by decide +kernel)
set_option maxRecDepth 20000 in
theorem gX4_noteThrow_X9_isWhole : GoodIn wsX4_noteThrow (wsV RX4 90 RX9 yX9_isWhole wsX9_isWhole) := goodIn_app (goodIn_of _ (by decide +kernel)) ggX4_noteThrow_X9_isWhole
theorem dX4_noteThrow_0 : decode cX4_noteThrow 0 = .ok (.iload_n 1, 1) := by decide +kernel
theorem dX4_noteThrow_1 : decode cX4_noteThrow 1 = .ok (.ifCond .ne 16, 3) := by decide +kernel
theorem dX4_noteThrow_4 : decode cX4_noteThrow 4 = .ok (.aload_n 0, 1) := by decide +kernel
theorem dX4_noteThrow_5 : decode cX4_noteThrow 5 = .ok (.dup, 1) := by decide +kernel
theorem dX4_noteThrow_6 : decode cX4_noteThrow 6 = .ok (.getfield 58, 3) := by decide +kernel
theorem dX4_noteThrow_9 : decode cX4_noteThrow 9 = .ok (.iconst 1, 1) := by decide +kernel
theorem dX4_noteThrow_10 : decode cX4_noteThrow 10 = .ok (.iadd, 1) := by decide +kernel
theorem dX4_noteThrow_11 : decode cX4_noteThrow 11 = .ok (.putfield 58, 3) := by decide +kernel
theorem dX4_noteThrow_14 : decode cX4_noteThrow 14 = .ok (.goto 48, 3) := by decide +kernel
theorem dX4_noteThrow_17 : decode cX4_noteThrow 17 = .ok (.aload_n 0, 1) := by decide +kernel
theorem dX4_noteThrow_18 : decode cX4_noteThrow 18 = .ok (.getfield 61, 3) := by decide +kernel
theorem dX4_noteThrow_21 : decode cX4_noteThrow 21 = .ok (.bipush (-6), 2) := by decide +kernel
theorem dX4_noteThrow_23 : decode cX4_noteThrow 23 = .ok (.if_icmp .ne 39, 3) := by decide +kernel
theorem dX4_noteThrow_26 : decode cX4_noteThrow 26 = .ok (.aload_n 0, 1) := by decide +kernel
theorem dX4_noteThrow_27 : decode cX4_noteThrow 27 = .ok (.getfield 12, 3) := by decide +kernel
theorem dX4_noteThrow_30 : decode cX4_noteThrow 30 = .ok (.aload_n 0, 1) := by decide +kernel
theorem dX4_noteThrow_31 : decode cX4_noteThrow 31 = .ok (.getfield 12, 3) := by decide +kernel
theorem dX4_noteThrow_34 : decode cX4_noteThrow 34 = .ok (.getfield 87, 3) := by decide +kernel
theorem dX4_noteThrow_37 : decode cX4_noteThrow 37 = .ok (.invokevirtual 90, 3) := by decide +kernel
theorem dX4_noteThrow_40 : decode cX4_noteThrow 40 = .ok (.ifCond .eq 22, 3) := by decide +kernel
theorem dX4_noteThrow_43 : decode cX4_noteThrow 43 = .ok (.aload_n 0, 1) := by decide +kernel
theorem dX4_noteThrow_44 : decode cX4_noteThrow 44 = .ok (.aload_n 0, 1) := by decide +kernel
theorem dX4_noteThrow_45 : decode cX4_noteThrow 45 = .ok (.getfield 55, 3) := by decide +kernel
theorem dX4_noteThrow_48 : decode cX4_noteThrow 48 = .ok (.putfield 61, 3) := by decide +kernel
theorem dX4_noteThrow_51 : decode cX4_noteThrow 51 = .ok (.aload_n 0, 1) := by decide +kernel
theorem dX4_noteThrow_52 : decode cX4_noteThrow 52 = .ok (.aload_n 0, 1) := by decide +kernel
theorem dX4_noteThrow_53 : decode cX4_noteThrow 53 = .ok (.getfield 12, 3) := by decide +kernel
theorem dX4_noteThrow_56 : decode cX4_noteThrow 56 = .ok (.getfield 87, 3) := by decide +kernel
theorem dX4_noteThrow_59 : decode cX4_noteThrow 59 = .ok (.putfield 64, 3) := by decide +kernel
theorem dX4_noteThrow_62 : decode cX4_noteThrow 62 = .ok (.return_, 1) := by decide +kernel
theorem dX5_init_0 : decode cX5_init 0 = .ok (.aload_n 0, 1) := by decide +kernel
theorem dX5_init_1 : decode cX5_init 1 = .ok (.invokespecial 3, 3) := by decide +kernel
theorem dX5_init_4 : decode cX5_init 4 = .ok (.aload_n 0, 1) := by decide +kernel
theorem dX5_init_5 : decode cX5_init 5 = .ok (.bipush 60, 2) := by decide +kernel
theorem dX5_init_7 : decode cX5_init 7 = .ok (.newarray .int, 2) := by decide +kernel
theorem dX5_init_9 : decode cX5_init 9 = .ok (.putfield 11, 3) := by decide +kernel
theorem dX5_init_12 : decode cX5_init 12 = .ok (.return_, 1) := by decide +kernel
theorem dX5_add_0 : decode cX5_add 0 = .ok (.aload_n 0, 1) := by decide +kernel
theorem dX5_add_1 : decode cX5_add 1 = .ok (.getfield 15, 3) := by decide +kernel
theorem dX5_add_4 : decode cX5_add 4 = .ok (.bipush 60, 2) := by decide +kernel
theorem dX5_add_6 : decode cX5_add 6 = .ok (.if_icmp .lt 5, 3) := by decide +kernel
theorem dX5_add_9 : decode cX5_add 9 = .ok (.iconst 0, 1) := by decide +kernel
theorem dX5_add_10 : decode cX5_add 10 = .ok (.ireturn, 1) := by decide +kernel
theorem dX5_add_11 : decode cX5_add 11 = .ok (.aload_n 0, 1) := by decide +kernel
theorem dX5_add_12 : decode cX5_add 12 = .ok (.getfield 11, 3) := by decide +kernel
theorem dX5_add_15 : decode cX5_add 15 = .ok (.aload_n 0, 1) := by decide +kernel
theorem dX5_add_16 : decode cX5_add 16 = .ok (.getfield 15, 3) := by decide +kernel
theorem dX5_add_19 : decode cX5_add 19 = .ok (.iload_n 1, 1) := by decide +kernel
theorem dX5_add_20 : decode cX5_add 20 = .ok (.iastore, 1) := by decide +kernel
theorem dX5_add_21 : decode cX5_add 21 = .ok (.aload_n 0, 1) := by decide +kernel
theorem dX5_add_22 : decode cX5_add 22 = .ok (.dup, 1) := by decide +kernel
theorem dX5_add_23 : decode cX5_add 23 = .ok (.getfield 15, 3) := by decide +kernel
theorem dX5_add_26 : decode cX5_add 26 = .ok (.iconst 1, 1) := by decide +kernel
theorem dX5_add_27 : decode cX5_add 27 = .ok (.iadd, 1) := by decide +kernel
theorem dX5_add_28 : decode cX5_add 28 = .ok (.putfield 15, 3) := by decide +kernel
theorem dX5_add_31 : decode cX5_add 31 = .ok (.iconst 1, 1) := by decide +kernel
theorem dX5_add_32 : decode cX5_add 32 = .ok (.ireturn, 1) := by decide +kernel
theorem dX5_clear_0 : decode cX5_clear 0 = .ok (.aload_n 0, 1) := by decide +kernel
theorem dX5_clear_1 : decode cX5_clear 1 = .ok (.getfield 15, 3) := by decide +kernel
theorem dX5_clear_4 : decode cX5_clear 4 = .ok (.istore_n 1, 1) := by decide +kernel
theorem dX5_clear_5 : decode cX5_clear 5 = .ok (.aload_n 0, 1) := by decide +kernel
theorem dX5_clear_6 : decode cX5_clear 6 = .ok (.iconst 0, 1) := by decide +kernel
theorem dX5_clear_7 : decode cX5_clear 7 = .ok (.putfield 15, 3) := by decide +kernel
theorem dX5_clear_10 : decode cX5_clear 10 = .ok (.iload_n 1, 1) := by decide +kernel
theorem dX5_clear_11 : decode cX5_clear 11 = .ok (.ireturn, 1) := by decide +kernel
set_option maxRecDepth 20000 in
theorem ggX5_firstFault_X5_canStand : GoodIn wsX5_firstFault wsX5_canStand := goodIn_r _ [6, 7, 8, 9, 10, 11, 12, 13, 14, 15, 5, 16] (by decide +kernel) (by decide +kernel)
set_option maxRecDepth 20000 in
theorem gX5_firstFault_X5_canStand : GoodIn wsX5_firstFault (va_wsS RX5 19 yX5_canStand wsX5_canStand) := goodIn_app (goodIn_of _ (by decide +kernel)) ggX5_firstFault_X5_canStand
set_option maxRecDepth 20000 in
theorem ggX5_firstFault_X5_isLetter : GoodIn wsX5_firstFault wsX5_isLetter := goodIn_r _ [16, 11, 12, 13] (by decide +kernel) (by decide +kernel)
set_option maxRecDepth 20000 in
theorem gX5_firstFault_X5_isLetter : GoodIn wsX5_firstFault (va_wsS RX5 23 yX5_isLetter wsX5_isLetter) := goodIn_app (goodIn_of _ (by decide +kernel)) ggX5_firstFault_X5_isLetter
theorem dX5_firstFault_0 : decode cX5_firstFault 0 = .ok (.iconst 0, 1) := by decide +kernel
theorem dX5_firstFault_1 : decode cX5_firstFault 1 = .ok (.istore_n 1, 1) := by decide +kernel
theorem dX5_firstFault_2 : decode cX5_firstFault 2 = .ok (.iconst 0, 1) := by decide +kernel
theorem dX5_firstFault_3 : decode cX5_firstFault 3 = .ok (.istore_n 2, 1) := by decide +kernel
theorem dX5_firstFault_4 : decode cX5_firstFault 4 = .ok (.iload_n 2, 1) := by decide +kernel
theorem dX5_firstFault_5 : decode cX5_firstFault 5 = .ok (.aload_n 0, 1) := by decide +kernel
theorem dX5_firstFault_6 : decode cX5_firstFault 6 = .ok (.getfield 15, 3) := by decide +kernel
theorem dX5_firstFault_9 : decode cX5_firstFault 9 = .ok (.if_icmp .ge 34, 3) := by decide +kernel
theorem dX5_firstFault_12 : decode cX5_firstFault 12 = .ok (.aload_n 0, 1) := by decide +kernel
theorem dX5_firstFault_13 : decode cX5_firstFault 13 = .ok (.getfield 11, 3) := by decide +kernel
theorem dX5_firstFault_16 : decode cX5_firstFault 16 = .ok (.iload_n 2, 1) := by decide +kernel
theorem dX5_firstFault_17 : decode cX5_firstFault 17 = .ok (.iaload, 1) := by decide +kernel
theorem dX5_firstFault_18 : decode cX5_firstFault 18 = .ok (.iload_n 1, 1) := by decide +kernel
theorem dX5_firstFault_19 : decode cX5_firstFault 19 = .ok (.invokestatic 19, 3) := by decide +kernel
theorem dX5_firstFault_22 : decode cX5_firstFault 22 = .ok (.ifCond .ne 5, 3) := by decide +kernel
theorem dX5_firstFault_25 : decode cX5_firstFault 25 = .ok (.iload_n 2, 1) := by decide +kernel
theorem dX5_firstFault_26 : decode cX5_firstFault 26 = .ok (.ireturn, 1) := by decide +kernel
theorem dX5_firstFault_27 : decode cX5_firstFault 27 = .ok (.aload_n 0, 1) := by decide +kernel
theorem dX5_firstFault_28 : decode cX5_firstFault 28 = .ok (.getfield 11, 3) := by decide +kernel
theorem dX5_firstFault_31 : decode cX5_firstFault 31 = .ok (.iload_n 2, 1) := by decide +kernel
theorem dX5_firstFault_32 : decode cX5_firstFault 32 = .ok (.iaload, 1) := by decide +kernel
theorem dX5_firstFault_33 : decode cX5_firstFault 33 = .ok (.invokestatic 23, 3) := by decide +kernel
theorem dX5_firstFault_36 : decode cX5_firstFault 36 = .ok (.istore_n 1, 1) := by decide +kernel
theorem dX5_firstFault_37 : decode cX5_firstFault 37 = .ok (.iinc 2 1, 3) := by decide +kernel
theorem dX5_firstFault_40 : decode cX5_firstFault 40 = .ok (.goto (-36), 3) := by decide +kernel
theorem dX5_firstFault_43 : decode cX5_firstFault 43 = .ok (.iload_n 1, 1) := by decide +kernel
theorem dX5_firstFault_44 : decode cX5_firstFault 44 = .ok (.ifCond .eq 10, 3) := by decide +kernel
theorem dX5_firstFault_47 : decode cX5_firstFault 47 = .ok (.aload_n 0, 1) := by decide +kernel
theorem dX5_firstFault_48 : decode cX5_firstFault 48 = .ok (.getfield 15, 3) := by decide +kernel
theorem dX5_firstFault_51 : decode cX5_firstFault 51 = .ok (.goto 5, 3) := by decide +kernel
theorem dX5_firstFault_54 : decode cX5_firstFault 54 = .ok (.bipush (-6), 2) := by decide +kernel
theorem dX5_firstFault_56 : decode cX5_firstFault 56 = .ok (.ireturn, 1) := by decide +kernel
set_option maxRecDepth 20000 in
theorem ggX5_isLetter_X11_isWithin : GoodIn wsX5_isLetter wsX11_isWithin := goodIn_r _ [3] (by decide +kernel) (by decide +kernel)
set_option maxRecDepth 20000 in
theorem gX5_isLetter_X11_isWithin_n27 : GoodIn wsX5_isLetter (wsX11_isWithin) := ggX5_isLetter_X11_isWithin
theorem dX5_isLetter_0 : decode cX5_isLetter 0 = .ok (.iload_n 0, 1) := by decide +kernel
theorem dX5_isLetter_1 : decode cX5_isLetter 1 = .ok (.bipush 65, 2) := by decide +kernel
theorem dX5_isLetter_3 : decode cX5_isLetter 3 = .ok (.bipush 70, 2) := by decide +kernel
theorem dX5_isLetter_5 : decode cX5_isLetter 5 = .ok (.invokestatic 27, 3) := by decide +kernel
theorem dX5_isLetter_8 : decode cX5_isLetter 8 = .ok (.ireturn, 1) := by decide +kernel
set_option maxRecDepth 20000 in
theorem ggX5_canStand_X9_isThrow : GoodIn wsX5_canStand wsX9_isThrow := goodIn_r _ [4, 5, 6, 7] (by decide +kernel) (by decide +kernel)
set_option maxRecDepth 20000 in
theorem gX5_canStand_X9_isThrow : GoodIn wsX5_canStand (va_wsS RX5 31 yX9_isThrow wsX9_isThrow) := goodIn_app (goodIn_of _ (by decide +kernel)) ggX5_canStand_X9_isThrow
set_option maxRecDepth 20000 in
theorem ggX5_canStand_X5_isLetter : GoodIn wsX5_canStand wsX5_isLetter := goodIn_r _ [11, 5, 6, 7] (by decide +kernel) (by decide +kernel)
set_option maxRecDepth 20000 in
theorem gX5_canStand_X5_isLetter : GoodIn wsX5_canStand (va_wsS RX5 23 yX5_isLetter wsX5_isLetter) := goodIn_app (goodIn_of _ (by decide +kernel)) ggX5_canStand_X5_isLetter
theorem dX5_canStand_0 : decode cX5_canStand 0 = .ok (.iload_n 1, 1) := by decide +kernel
theorem dX5_canStand_1 : decode cX5_canStand 1 = .ok (.ifCond .eq 21, 3) := by decide +kernel
theorem dX5_canStand_4 : decode cX5_canStand 4 = .ok (.iload_n 0, 1) := by decide +kernel
theorem dX5_canStand_5 : decode cX5_canStand 5 = .ok (.bipush 33, 2) := by decide +kernel
theorem dX5_canStand_7 : decode cX5_canStand 7 = .ok (.if_icmp .eq 9, 3) := by decide +kernel
theorem dX5_canStand_10 : decode cX5_canStand 10 = .ok (.iload_n 0, 1) := by decide +kernel
theorem dX5_canStand_11 : decode cX5_canStand 11 = .ok (.bipush 35, 2) := by decide +kernel
theorem dX5_canStand_13 : decode cX5_canStand 13 = .ok (.if_icmp .ne 7, 3) := by decide +kernel
theorem dX5_canStand_16 : decode cX5_canStand 16 = .ok (.iconst 1, 1) := by decide +kernel
theorem dX5_canStand_17 : decode cX5_canStand 17 = .ok (.goto 4, 3) := by decide +kernel
theorem dX5_canStand_20 : decode cX5_canStand 20 = .ok (.iconst 0, 1) := by decide +kernel
theorem dX5_canStand_21 : decode cX5_canStand 21 = .ok (.ireturn, 1) := by decide +kernel
theorem dX5_canStand_22 : decode cX5_canStand 22 = .ok (.iload_n 0, 1) := by decide +kernel
theorem dX5_canStand_23 : decode cX5_canStand 23 = .ok (.bipush 46, 2) := by decide +kernel
theorem dX5_canStand_25 : decode cX5_canStand 25 = .ok (.if_icmp .eq 17, 3) := by decide +kernel
theorem dX5_canStand_28 : decode cX5_canStand 28 = .ok (.iload_n 0, 1) := by decide +kernel
theorem dX5_canStand_29 : decode cX5_canStand 29 = .ok (.invokestatic 31, 3) := by decide +kernel
theorem dX5_canStand_32 : decode cX5_canStand 32 = .ok (.ifCond .ne 10, 3) := by decide +kernel
theorem dX5_canStand_35 : decode cX5_canStand 35 = .ok (.iload_n 0, 1) := by decide +kernel
theorem dX5_canStand_36 : decode cX5_canStand 36 = .ok (.invokestatic 23, 3) := by decide +kernel
theorem dX5_canStand_39 : decode cX5_canStand 39 = .ok (.ifCond .eq 7, 3) := by decide +kernel
theorem dX5_canStand_42 : decode cX5_canStand 42 = .ok (.iconst 1, 1) := by decide +kernel
theorem dX5_canStand_43 : decode cX5_canStand 43 = .ok (.goto 4, 3) := by decide +kernel
theorem dX5_canStand_46 : decode cX5_canStand 46 = .ok (.iconst 0, 1) := by decide +kernel
theorem dX5_canStand_47 : decode cX5_canStand 47 = .ok (.ireturn, 1) := by decide +kernel
set_option maxRecDepth 20000 in
theorem ggX6_init_X6_listBeetles : GoodIn wsX6_init wsX6_listBeetles := goodIn_r _ [14, 5, 15, 16, 13, 17, 18, 19, 20, 21, 22, 23, 24, 25, 26, 27, 28, 29, 30, 31, 32, 33, 34, 35, 48, 49, 50, 51] (by decide +kernel) (by decide +kernel)
set_option maxRecDepth 20000 in
theorem gX6_init_X6_listBeetles : GoodIn wsX6_init (wsV RX6 25 RX6 yX6_listBeetles wsX6_listBeetles) := goodIn_app (goodIn_of _ (by decide +kernel)) ggX6_init_X6_listBeetles
set_option maxRecDepth 20000 in
theorem ggX6_init_X6_linkAndCount : GoodIn wsX6_init wsX6_linkAndCount := goodIn_r _ [39, 5, 6, 7, 40, 41, 42, 21, 43, 24, 31, 25, 26, 27, 28, 29, 30, 32, 33, 34, 35, 44, 45, 46, 13, 47, 48, 49, 50, 51] (by decide +kernel) (by decide +kernel)
set_option maxRecDepth 20000 in
theorem gX6_init_X6_linkAndCount : GoodIn wsX6_init (wsV RX6 28 RX6 yX6_linkAndCount wsX6_linkAndCount) := goodIn_app (goodIn_of _ (by decide +kernel)) ggX6_init_X6_linkAndCount
theorem dX6_init_0 : decode cX6_init 0 = .ok (.aload_n 0, 1) := by decide +kernel
theorem dX6_init_1 : decode cX6_init 1 = .ok (.invokespecial 3, 3) := by decide +kernel
theorem dX6_init_4 : decode cX6_init 4 = .ok (.aload_n 0, 1) := by decide +kernel
theorem dX6_init_5 : decode cX6_init 5 = .ok (.sipush 141, 3) := by decide +kernel
theorem dX6_init_8 : decode cX6_init 8 = .ok (.newarray .int, 2) := by decide +kernel
theorem dX6_init_10 : decode cX6_init 10 = .ok (.putfield 11, 3) := by decide +kernel
theorem dX6_init_13 : decode cX6_init 13 = .ok (.aload_n 0, 1) := by decide +kernel
theorem dX6_init_14 : decode cX6_init 14 = .ok (.sipush 846, 3) := by decide +kernel
theorem dX6_init_17 : decode cX6_init 17 = .ok (.newarray .int, 2) := by decide +kernel
theorem dX6_init_19 : decode cX6_init 19 = .ok (.putfield 15, 3) := by decide +kernel
theorem dX6_init_22 : decode cX6_init 22 = .ok (.aload_n 0, 1) := by decide +kernel
theorem dX6_init_23 : decode cX6_init 23 = .ok (.sipush 141, 3) := by decide +kernel
theorem dX6_init_26 : decode cX6_init 26 = .ok (.newarray .int, 2) := by decide +kernel
theorem dX6_init_28 : decode cX6_init 28 = .ok (.putfield 18, 3) := by decide +kernel
theorem dX6_init_31 : decode cX6_init 31 = .ok (.aload_n 0, 1) := by decide +kernel
theorem dX6_init_32 : decode cX6_init 32 = .ok (.sipush 141, 3) := by decide +kernel
theorem dX6_init_35 : decode cX6_init 35 = .ok (.newarray .long, 2) := by decide +kernel
theorem dX6_init_37 : decode cX6_init 37 = .ok (.putfield 21, 3) := by decide +kernel
theorem dX6_init_40 : decode cX6_init 40 = .ok (.aload_n 0, 1) := by decide +kernel
theorem dX6_init_41 : decode cX6_init 41 = .ok (.invokevirtual 25, 3) := by decide +kernel
theorem dX6_init_44 : decode cX6_init 44 = .ok (.sipush 140, 3) := by decide +kernel
theorem dX6_init_47 : decode cX6_init 47 = .ok (.istore_n 1, 1) := by decide +kernel
theorem dX6_init_48 : decode cX6_init 48 = .ok (.iload_n 1, 1) := by decide +kernel
theorem dX6_init_49 : decode cX6_init 49 = .ok (.ifCond .lt 14, 3) := by decide +kernel
theorem dX6_init_52 : decode cX6_init 52 = .ok (.aload_n 0, 1) := by decide +kernel
theorem dX6_init_53 : decode cX6_init 53 = .ok (.iload_n 1, 1) := by decide +kernel
theorem dX6_init_54 : decode cX6_init 54 = .ok (.invokevirtual 28, 3) := by decide +kernel
theorem dX6_init_57 : decode cX6_init 57 = .ok (.iinc 1 (-1), 3) := by decide +kernel
theorem dX6_init_60 : decode cX6_init 60 = .ok (.goto (-12), 3) := by decide +kernel
theorem dX6_init_63 : decode cX6_init 63 = .ok (.return_, 1) := by decide +kernel
theorem dX6_find_0 : decode cX6_find 0 = .ok (.iconst 0, 1) := by decide +kernel
theorem dX6_find_1 : decode cX6_find 1 = .ok (.istore_n 2, 1) := by decide +kernel
theorem dX6_find_2 : decode cX6_find 2 = .ok (.sipush 140, 3) := by decide +kernel
theorem dX6_find_5 : decode cX6_find 5 = .ok (.istore_n 3, 1) := by decide +kernel
theorem dX6_find_6 : decode cX6_find 6 = .ok (.iconst 0, 1) := by decide +kernel
theorem dX6_find_7 : decode cX6_find 7 = .ok (.istore 4, 2) := by decide +kernel
theorem dX6_find_9 : decode cX6_find 9 = .ok (.iload 4, 2) := by decide +kernel
theorem dX6_find_11 : decode cX6_find 11 = .ok (.sipush 141, 3) := by decide +kernel
theorem dX6_find_14 : decode cX6_find 14 = .ok (.if_icmp .ge 43, 3) := by decide +kernel
theorem dX6_find_17 : decode cX6_find 17 = .ok (.iload_n 2, 1) := by decide +kernel
theorem dX6_find_18 : decode cX6_find 18 = .ok (.iload_n 3, 1) := by decide +kernel
theorem dX6_find_19 : decode cX6_find 19 = .ok (.if_icmp .ge 38, 3) := by decide +kernel
theorem dX6_find_22 : decode cX6_find 22 = .ok (.iload_n 2, 1) := by decide +kernel
theorem dX6_find_23 : decode cX6_find 23 = .ok (.iload_n 3, 1) := by decide +kernel
theorem dX6_find_24 : decode cX6_find 24 = .ok (.iadd, 1) := by decide +kernel
theorem dX6_find_25 : decode cX6_find 25 = .ok (.iconst 2, 1) := by decide +kernel
theorem dX6_find_26 : decode cX6_find 26 = .ok (.idiv, 1) := by decide +kernel
theorem dX6_find_27 : decode cX6_find 27 = .ok (.istore 5, 2) := by decide +kernel
theorem dX6_find_29 : decode cX6_find 29 = .ok (.aload_n 0, 1) := by decide +kernel
theorem dX6_find_30 : decode cX6_find 30 = .ok (.getfield 11, 3) := by decide +kernel
theorem dX6_find_33 : decode cX6_find 33 = .ok (.iload 5, 2) := by decide +kernel
theorem dX6_find_35 : decode cX6_find 35 = .ok (.iaload, 1) := by decide +kernel
theorem dX6_find_36 : decode cX6_find 36 = .ok (.iload_n 1, 1) := by decide +kernel
theorem dX6_find_37 : decode cX6_find 37 = .ok (.if_icmp .ge 11, 3) := by decide +kernel
theorem dX6_find_40 : decode cX6_find 40 = .ok (.iload 5, 2) := by decide +kernel
theorem dX6_find_42 : decode cX6_find 42 = .ok (.iconst 1, 1) := by decide +kernel
theorem dX6_find_43 : decode cX6_find 43 = .ok (.iadd, 1) := by decide +kernel
theorem dX6_find_44 : decode cX6_find 44 = .ok (.istore_n 2, 1) := by decide +kernel
theorem dX6_find_45 : decode cX6_find 45 = .ok (.goto 6, 3) := by decide +kernel
theorem dX6_find_48 : decode cX6_find 48 = .ok (.iload 5, 2) := by decide +kernel
theorem dX6_find_50 : decode cX6_find 50 = .ok (.istore_n 3, 1) := by decide +kernel
theorem dX6_find_51 : decode cX6_find 51 = .ok (.iinc 4 1, 3) := by decide +kernel
theorem dX6_find_54 : decode cX6_find 54 = .ok (.goto (-45), 3) := by decide +kernel
theorem dX6_find_57 : decode cX6_find 57 = .ok (.aload_n 0, 1) := by decide +kernel
theorem dX6_find_58 : decode cX6_find 58 = .ok (.getfield 11, 3) := by decide +kernel
theorem dX6_find_61 : decode cX6_find 61 = .ok (.iload_n 2, 1) := by decide +kernel
theorem dX6_find_62 : decode cX6_find 62 = .ok (.iaload, 1) := by decide +kernel
theorem dX6_find_63 : decode cX6_find 63 = .ok (.iload_n 1, 1) := by decide +kernel
theorem dX6_find_64 : decode cX6_find 64 = .ok (.if_icmp .ne 7, 3) := by decide +kernel
theorem dX6_find_67 : decode cX6_find 67 = .ok (.iload_n 2, 1) := by decide +kernel
theorem dX6_find_68 : decode cX6_find 68 = .ok (.goto 5, 3) := by decide +kernel
theorem dX6_find_71 : decode cX6_find 71 = .ok (.bipush (-6), 2) := by decide +kernel
theorem dX6_find_73 : decode cX6_find 73 = .ok (.ireturn, 1) := by decide +kernel
set_option maxRecDepth 20000 in
theorem ggX6_leastThrow_X6_after : GoodIn wsX6_leastThrow wsX6_after := goodIn_r _ [5, 6, 7, 8, 9, 10] (by decide +kernel) (by decide +kernel)
set_option maxRecDepth 20000 in
theorem gX6_leastThrow_X6_after : GoodIn wsX6_leastThrow (wsV RX6 32 RX6 yX6_after wsX6_after) := goodIn_app (goodIn_of _ (by decide +kernel)) ggX6_leastThrow_X6_after
theorem dX6_leastThrow_0 : decode cX6_leastThrow 0 = .ok (.iconst 1, 1) := by decide +kernel
theorem dX6_leastThrow_1 : decode cX6_leastThrow 1 = .ok (.istore_n 2, 1) := by decide +kernel
theorem dX6_leastThrow_2 : decode cX6_leastThrow 2 = .ok (.iload_n 2, 1) := by decide +kernel
theorem dX6_leastThrow_3 : decode cX6_leastThrow 3 = .ok (.bipush 6, 2) := by decide +kernel
theorem dX6_leastThrow_5 : decode cX6_leastThrow 5 = .ok (.if_icmp .gt 21, 3) := by decide +kernel
theorem dX6_leastThrow_8 : decode cX6_leastThrow 8 = .ok (.aload_n 0, 1) := by decide +kernel
theorem dX6_leastThrow_9 : decode cX6_leastThrow 9 = .ok (.iload_n 1, 1) := by decide +kernel
theorem dX6_leastThrow_10 : decode cX6_leastThrow 10 = .ok (.iload_n 2, 1) := by decide +kernel
theorem dX6_leastThrow_11 : decode cX6_leastThrow 11 = .ok (.invokevirtual 32, 3) := by decide +kernel
theorem dX6_leastThrow_14 : decode cX6_leastThrow 14 = .ok (.iload_n 1, 1) := by decide +kernel
theorem dX6_leastThrow_15 : decode cX6_leastThrow 15 = .ok (.if_icmp .eq 5, 3) := by decide +kernel
theorem dX6_leastThrow_18 : decode cX6_leastThrow 18 = .ok (.iload_n 2, 1) := by decide +kernel
theorem dX6_leastThrow_19 : decode cX6_leastThrow 19 = .ok (.ireturn, 1) := by decide +kernel
theorem dX6_leastThrow_20 : decode cX6_leastThrow 20 = .ok (.iinc 2 1, 3) := by decide +kernel
theorem dX6_leastThrow_23 : decode cX6_leastThrow 23 = .ok (.goto (-21), 3) := by decide +kernel
theorem dX6_leastThrow_26 : decode cX6_leastThrow 26 = .ok (.bipush (-6), 2) := by decide +kernel
theorem dX6_leastThrow_28 : decode cX6_leastThrow 28 = .ok (.ireturn, 1) := by decide +kernel
set_option maxRecDepth 20000 in
theorem ggX6_waysToWhole_X6_spread : GoodIn wsX6_waysToWhole wsX6_spread := goodIn_r _ [6, 1, 7, 8, 9, 5, 10, 11, 12, 13, 14, 15] (by decide +kernel) (by decide +kernel)
set_option maxRecDepth 20000 in
theorem gX6_waysToWhole_X6_spread : GoodIn wsX6_waysToWhole (wsV RX6 36 RX6 yX6_spread wsX6_spread) := goodIn_app (goodIn_of _ (by decide +kernel)) ggX6_waysToWhole_X6_spread
theorem dX6_waysToWhole_0 : decode cX6_waysToWhole 0 = .ok (.iconst 0, 1) := by decide +kernel
theorem dX6_waysToWhole_1 : decode cX6_waysToWhole 1 = .ok (.istore_n 3, 1) := by decide +kernel
theorem dX6_waysToWhole_2 : decode cX6_waysToWhole 2 = .ok (.iload_n 3, 1) := by decide +kernel
theorem dX6_waysToWhole_3 : decode cX6_waysToWhole 3 = .ok (.sipush 141, 3) := by decide +kernel
theorem dX6_waysToWhole_6 : decode cX6_waysToWhole 6 = .ok (.if_icmp .ge 25, 3) := by decide +kernel
theorem dX6_waysToWhole_9 : decode cX6_waysToWhole 9 = .ok (.aload_n 0, 1) := by decide +kernel
theorem dX6_waysToWhole_10 : decode cX6_waysToWhole 10 = .ok (.getfield 21, 3) := by decide +kernel
theorem dX6_waysToWhole_13 : decode cX6_waysToWhole 13 = .ok (.iload_n 3, 1) := by decide +kernel
theorem dX6_waysToWhole_14 : decode cX6_waysToWhole 14 = .ok (.iload_n 3, 1) := by decide +kernel
theorem dX6_waysToWhole_15 : decode cX6_waysToWhole 15 = .ok (.iload_n 1, 1) := by decide +kernel
theorem dX6_waysToWhole_16 : decode cX6_waysToWhole 16 = .ok (.if_icmp .ne 7, 3) := by decide +kernel
theorem dX6_waysToWhole_19 : decode cX6_waysToWhole 19 = .ok (.lconst 1, 1) := by decide +kernel
theorem dX6_waysToWhole_20 : decode cX6_waysToWhole 20 = .ok (.goto 4, 3) := by decide +kernel
theorem dX6_waysToWhole_23 : decode cX6_waysToWhole 23 = .ok (.lconst 0, 1) := by decide +kernel
theorem dX6_waysToWhole_24 : decode cX6_waysToWhole 24 = .ok (.lastore, 1) := by decide +kernel
theorem dX6_waysToWhole_25 : decode cX6_waysToWhole 25 = .ok (.iinc 3 1, 3) := by decide +kernel
theorem dX6_waysToWhole_28 : decode cX6_waysToWhole 28 = .ok (.goto (-26), 3) := by decide +kernel
theorem dX6_waysToWhole_31 : decode cX6_waysToWhole 31 = .ok (.iconst 0, 1) := by decide +kernel
theorem dX6_waysToWhole_32 : decode cX6_waysToWhole 32 = .ok (.istore_n 3, 1) := by decide +kernel
theorem dX6_waysToWhole_33 : decode cX6_waysToWhole 33 = .ok (.iload_n 3, 1) := by decide +kernel
theorem dX6_waysToWhole_34 : decode cX6_waysToWhole 34 = .ok (.iload_n 2, 1) := by decide +kernel
theorem dX6_waysToWhole_35 : decode cX6_waysToWhole 35 = .ok (.if_icmp .ge 32, 3) := by decide +kernel
theorem dX6_waysToWhole_38 : decode cX6_waysToWhole 38 = .ok (.sipush 140, 3) := by decide +kernel
theorem dX6_waysToWhole_41 : decode cX6_waysToWhole 41 = .ok (.istore 4, 2) := by decide +kernel
theorem dX6_waysToWhole_43 : decode cX6_waysToWhole 43 = .ok (.iload 4, 2) := by decide +kernel
theorem dX6_waysToWhole_45 : decode cX6_waysToWhole 45 = .ok (.iload_n 1, 1) := by decide +kernel
theorem dX6_waysToWhole_46 : decode cX6_waysToWhole 46 = .ok (.if_icmp .lt 15, 3) := by decide +kernel
theorem dX6_waysToWhole_49 : decode cX6_waysToWhole 49 = .ok (.aload_n 0, 1) := by decide +kernel
theorem dX6_waysToWhole_50 : decode cX6_waysToWhole 50 = .ok (.iload 4, 2) := by decide +kernel
theorem dX6_waysToWhole_52 : decode cX6_waysToWhole 52 = .ok (.invokevirtual 36, 3) := by decide +kernel
theorem dX6_waysToWhole_55 : decode cX6_waysToWhole 55 = .ok (.iinc 4 (-1), 3) := by decide +kernel
theorem dX6_waysToWhole_58 : decode cX6_waysToWhole 58 = .ok (.goto (-15), 3) := by decide +kernel
theorem dX6_waysToWhole_61 : decode cX6_waysToWhole 61 = .ok (.iinc 3 1, 3) := by decide +kernel
theorem dX6_waysToWhole_64 : decode cX6_waysToWhole 64 = .ok (.goto (-31), 3) := by decide +kernel
theorem dX6_waysToWhole_67 : decode cX6_waysToWhole 67 = .ok (.aload_n 0, 1) := by decide +kernel
theorem dX6_waysToWhole_68 : decode cX6_waysToWhole 68 = .ok (.getfield 21, 3) := by decide +kernel
theorem dX6_waysToWhole_71 : decode cX6_waysToWhole 71 = .ok (.sipush 140, 3) := by decide +kernel
theorem dX6_waysToWhole_74 : decode cX6_waysToWhole 74 = .ok (.laload, 1) := by decide +kernel
theorem dX6_waysToWhole_75 : decode cX6_waysToWhole 75 = .ok (.lreturn, 1) := by decide +kernel
set_option maxRecDepth 20000 in
theorem ggX6_spread_X6_after : GoodIn wsX6_spread wsX6_after := goodIn_r _ [6, 7, 8, 9, 10, 11] (by decide +kernel) (by decide +kernel)
set_option maxRecDepth 20000 in
theorem gX6_spread_X6_after : GoodIn wsX6_spread (wsV RX6 32 RX6 yX6_after wsX6_after) := goodIn_app (goodIn_of _ (by decide +kernel)) ggX6_spread_X6_after
theorem dX6_spread_0 : decode cX6_spread 0 = .ok (.aload_n 0, 1) := by decide +kernel
theorem dX6_spread_1 : decode cX6_spread 1 = .ok (.getfield 21, 3) := by decide +kernel
theorem dX6_spread_4 : decode cX6_spread 4 = .ok (.iload_n 1, 1) := by decide +kernel
theorem dX6_spread_5 : decode cX6_spread 5 = .ok (.laload, 1) := by decide +kernel
theorem dX6_spread_6 : decode cX6_spread 6 = .ok (.lstore_n 2, 1) := by decide +kernel
theorem dX6_spread_7 : decode cX6_spread 7 = .ok (.lload_n 2, 1) := by decide +kernel
theorem dX6_spread_8 : decode cX6_spread 8 = .ok (.lconst 0, 1) := by decide +kernel
theorem dX6_spread_9 : decode cX6_spread 9 = .ok (.lcmp, 1) := by decide +kernel
theorem dX6_spread_10 : decode cX6_spread 10 = .ok (.ifCond .ne 4, 3) := by decide +kernel
theorem dX6_spread_13 : decode cX6_spread 13 = .ok (.return_, 1) := by decide +kernel
theorem dX6_spread_14 : decode cX6_spread 14 = .ok (.aload_n 0, 1) := by decide +kernel
theorem dX6_spread_15 : decode cX6_spread 15 = .ok (.getfield 21, 3) := by decide +kernel
theorem dX6_spread_18 : decode cX6_spread 18 = .ok (.iload_n 1, 1) := by decide +kernel
theorem dX6_spread_19 : decode cX6_spread 19 = .ok (.lconst 0, 1) := by decide +kernel
theorem dX6_spread_20 : decode cX6_spread 20 = .ok (.lastore, 1) := by decide +kernel
theorem dX6_spread_21 : decode cX6_spread 21 = .ok (.iconst 1, 1) := by decide +kernel
theorem dX6_spread_22 : decode cX6_spread 22 = .ok (.istore 4, 2) := by decide +kernel
theorem dX6_spread_24 : decode cX6_spread 24 = .ok (.iload 4, 2) := by decide +kernel
theorem dX6_spread_26 : decode cX6_spread 26 = .ok (.bipush 6, 2) := by decide +kernel
theorem dX6_spread_28 : decode cX6_spread 28 = .ok (.if_icmp .gt 25, 3) := by decide +kernel
theorem dX6_spread_31 : decode cX6_spread 31 = .ok (.aload_n 0, 1) := by decide +kernel
theorem dX6_spread_32 : decode cX6_spread 32 = .ok (.getfield 21, 3) := by decide +kernel
theorem dX6_spread_35 : decode cX6_spread 35 = .ok (.aload_n 0, 1) := by decide +kernel
theorem dX6_spread_36 : decode cX6_spread 36 = .ok (.iload_n 1, 1) := by decide +kernel
theorem dX6_spread_37 : decode cX6_spread 37 = .ok (.iload 4, 2) := by decide +kernel
theorem dX6_spread_39 : decode cX6_spread 39 = .ok (.invokevirtual 32, 3) := by decide +kernel
theorem dX6_spread_42 : decode cX6_spread 42 = .ok (.dup2, 1) := by decide +kernel
theorem dX6_spread_43 : decode cX6_spread 43 = .ok (.laload, 1) := by decide +kernel
theorem dX6_spread_44 : decode cX6_spread 44 = .ok (.lload_n 2, 1) := by decide +kernel
theorem dX6_spread_45 : decode cX6_spread 45 = .ok (.ladd, 1) := by decide +kernel
theorem dX6_spread_46 : decode cX6_spread 46 = .ok (.lastore, 1) := by decide +kernel
theorem dX6_spread_47 : decode cX6_spread 47 = .ok (.iinc 4 1, 3) := by decide +kernel
theorem dX6_spread_50 : decode cX6_spread 50 = .ok (.goto (-26), 3) := by decide +kernel
theorem dX6_spread_53 : decode cX6_spread 53 = .ok (.return_, 1) := by decide +kernel
theorem dX6_after_0 : decode cX6_after 0 = .ok (.aload_n 0, 1) := by decide +kernel
theorem dX6_after_1 : decode cX6_after 1 = .ok (.getfield 15, 3) := by decide +kernel
theorem dX6_after_4 : decode cX6_after 4 = .ok (.iload_n 1, 1) := by decide +kernel
theorem dX6_after_5 : decode cX6_after 5 = .ok (.bipush 6, 2) := by decide +kernel
theorem dX6_after_7 : decode cX6_after 7 = .ok (.imul, 1) := by decide +kernel
theorem dX6_after_8 : decode cX6_after 8 = .ok (.iload_n 2, 1) := by decide +kernel
theorem dX6_after_9 : decode cX6_after 9 = .ok (.iadd, 1) := by decide +kernel
theorem dX6_after_10 : decode cX6_after 10 = .ok (.iconst 1, 1) := by decide +kernel
theorem dX6_after_11 : decode cX6_after 11 = .ok (.isub, 1) := by decide +kernel
theorem dX6_after_12 : decode cX6_after 12 = .ok (.iaload, 1) := by decide +kernel
theorem dX6_after_13 : decode cX6_after 13 = .ok (.ireturn, 1) := by decide +kernel
set_option maxRecDepth 20000 in
theorem ggX6_listBeetles_X6_figuresAt : GoodIn wsX6_listBeetles wsX6_figuresAt := goodIn_r _ [5, 6] (by decide +kernel) (by decide +kernel)
set_option maxRecDepth 20000 in
theorem gX6_listBeetles_X6_figuresAt : GoodIn wsX6_listBeetles (va_wsS RX6 39 yX6_figuresAt wsX6_figuresAt) := goodIn_app (goodIn_of _ (by decide +kernel)) ggX6_listBeetles_X6_figuresAt
set_option maxRecDepth 20000 in
theorem ggX6_listBeetles_X0_canBe : GoodIn wsX6_listBeetles wsX0_canBe := goodIn_r _ [10, 11, 12, 13, 14, 15, 16, 17, 9, 18, 19, 20, 21, 22, 23] (by decide +kernel) (by decide +kernel)
set_option maxRecDepth 20000 in
theorem gX6_listBeetles_X0_canBe : GoodIn wsX6_listBeetles (va_wsS RX6 43 yX0_canBe wsX0_canBe) := goodIn_app (goodIn_of _ (by decide +kernel)) ggX6_listBeetles_X0_canBe
theorem dX6_listBeetles_0 : decode cX6_listBeetles 0 = .ok (.iconst 0, 1) := by decide +kernel
theorem dX6_listBeetles_1 : decode cX6_listBeetles 1 = .ok (.istore_n 1, 1) := by decide +kernel
theorem dX6_listBeetles_2 : decode cX6_listBeetles 2 = .ok (.iconst 0, 1) := by decide +kernel
theorem dX6_listBeetles_3 : decode cX6_listBeetles 3 = .ok (.istore_n 2, 1) := by decide +kernel
theorem dX6_listBeetles_4 : decode cX6_listBeetles 4 = .ok (.iload_n 2, 1) := by decide +kernel
theorem dX6_listBeetles_5 : decode cX6_listBeetles 5 = .ok (.sipush 504, 3) := by decide +kernel
theorem dX6_listBeetles_8 : decode cX6_listBeetles 8 = .ok (.if_icmp .ge 38, 3) := by decide +kernel
theorem dX6_listBeetles_11 : decode cX6_listBeetles 11 = .ok (.iload_n 1, 1) := by decide +kernel
theorem dX6_listBeetles_12 : decode cX6_listBeetles 12 = .ok (.sipush 141, 3) := by decide +kernel
theorem dX6_listBeetles_15 : decode cX6_listBeetles 15 = .ok (.if_icmp .ge 31, 3) := by decide +kernel
theorem dX6_listBeetles_18 : decode cX6_listBeetles 18 = .ok (.iload_n 2, 1) := by decide +kernel
theorem dX6_listBeetles_19 : decode cX6_listBeetles 19 = .ok (.invokestatic 39, 3) := by decide +kernel
theorem dX6_listBeetles_22 : decode cX6_listBeetles 22 = .ok (.istore_n 3, 1) := by decide +kernel
theorem dX6_listBeetles_23 : decode cX6_listBeetles 23 = .ok (.iload_n 3, 1) := by decide +kernel
theorem dX6_listBeetles_24 : decode cX6_listBeetles 24 = .ok (.invokestatic 43, 3) := by decide +kernel
theorem dX6_listBeetles_27 : decode cX6_listBeetles 27 = .ok (.ifCond .eq 13, 3) := by decide +kernel
theorem dX6_listBeetles_30 : decode cX6_listBeetles 30 = .ok (.aload_n 0, 1) := by decide +kernel
theorem dX6_listBeetles_31 : decode cX6_listBeetles 31 = .ok (.getfield 11, 3) := by decide +kernel
theorem dX6_listBeetles_34 : decode cX6_listBeetles 34 = .ok (.iload_n 1, 1) := by decide +kernel
theorem dX6_listBeetles_35 : decode cX6_listBeetles 35 = .ok (.iload_n 3, 1) := by decide +kernel
theorem dX6_listBeetles_36 : decode cX6_listBeetles 36 = .ok (.iastore, 1) := by decide +kernel
theorem dX6_listBeetles_37 : decode cX6_listBeetles 37 = .ok (.iinc 1 1, 3) := by decide +kernel
theorem dX6_listBeetles_40 : decode cX6_listBeetles 40 = .ok (.iinc 2 1, 3) := by decide +kernel
theorem dX6_listBeetles_43 : decode cX6_listBeetles 43 = .ok (.goto (-39), 3) := by decide +kernel
theorem dX6_listBeetles_46 : decode cX6_listBeetles 46 = .ok (.return_, 1) := by decide +kernel
theorem dX6_figuresAt_0 : decode cX6_figuresAt 0 = .ok (.iload_n 0, 1) := by decide +kernel
theorem dX6_figuresAt_1 : decode cX6_figuresAt 1 = .ok (.bipush 9, 2) := by decide +kernel
theorem dX6_figuresAt_3 : decode cX6_figuresAt 3 = .ok (.idiv, 1) := by decide +kernel
theorem dX6_figuresAt_4 : decode cX6_figuresAt 4 = .ok (.bipush 7, 2) := by decide +kernel
theorem dX6_figuresAt_6 : decode cX6_figuresAt 6 = .ok (.irem, 1) := by decide +kernel
theorem dX6_figuresAt_7 : decode cX6_figuresAt 7 = .ok (.bipush 100, 2) := by decide +kernel
theorem dX6_figuresAt_9 : decode cX6_figuresAt 9 = .ok (.imul, 1) := by decide +kernel
theorem dX6_figuresAt_10 : decode cX6_figuresAt 10 = .ok (.iload_n 0, 1) := by decide +kernel
theorem dX6_figuresAt_11 : decode cX6_figuresAt 11 = .ok (.iconst 3, 1) := by decide +kernel
theorem dX6_figuresAt_12 : decode cX6_figuresAt 12 = .ok (.idiv, 1) := by decide +kernel
theorem dX6_figuresAt_13 : decode cX6_figuresAt 13 = .ok (.iconst 3, 1) := by decide +kernel
theorem dX6_figuresAt_14 : decode cX6_figuresAt 14 = .ok (.irem, 1) := by decide +kernel
theorem dX6_figuresAt_15 : decode cX6_figuresAt 15 = .ok (.bipush 10, 2) := by decide +kernel
theorem dX6_figuresAt_17 : decode cX6_figuresAt 17 = .ok (.imul, 1) := by decide +kernel
theorem dX6_figuresAt_18 : decode cX6_figuresAt 18 = .ok (.iadd, 1) := by decide +kernel
theorem dX6_figuresAt_19 : decode cX6_figuresAt 19 = .ok (.iload_n 0, 1) := by decide +kernel
theorem dX6_figuresAt_20 : decode cX6_figuresAt 20 = .ok (.iconst 3, 1) := by decide +kernel
theorem dX6_figuresAt_21 : decode cX6_figuresAt 21 = .ok (.irem, 1) := by decide +kernel
theorem dX6_figuresAt_22 : decode cX6_figuresAt 22 = .ok (.iadd, 1) := by decide +kernel
theorem dX6_figuresAt_23 : decode cX6_figuresAt 23 = .ok (.istore_n 1, 1) := by decide +kernel
theorem dX6_figuresAt_24 : decode cX6_figuresAt 24 = .ok (.iload_n 0, 1) := by decide +kernel
theorem dX6_figuresAt_25 : decode cX6_figuresAt 25 = .ok (.sipush 252, 3) := by decide +kernel
theorem dX6_figuresAt_28 : decode cX6_figuresAt 28 = .ok (.idiv, 1) := by decide +kernel
theorem dX6_figuresAt_29 : decode cX6_figuresAt 29 = .ok (.ldc 49, 2) := by decide +kernel
theorem dX6_figuresAt_31 : decode cX6_figuresAt 31 = .ok (.imul, 1) := by decide +kernel
theorem dX6_figuresAt_32 : decode cX6_figuresAt 32 = .ok (.iload_n 0, 1) := by decide +kernel
theorem dX6_figuresAt_33 : decode cX6_figuresAt 33 = .ok (.bipush 126, 2) := by decide +kernel
theorem dX6_figuresAt_35 : decode cX6_figuresAt 35 = .ok (.idiv, 1) := by decide +kernel
theorem dX6_figuresAt_36 : decode cX6_figuresAt 36 = .ok (.iconst 2, 1) := by decide +kernel
theorem dX6_figuresAt_37 : decode cX6_figuresAt 37 = .ok (.irem, 1) := by decide +kernel
theorem dX6_figuresAt_38 : decode cX6_figuresAt 38 = .ok (.sipush 10000, 3) := by decide +kernel
theorem dX6_figuresAt_41 : decode cX6_figuresAt 41 = .ok (.imul, 1) := by decide +kernel
theorem dX6_figuresAt_42 : decode cX6_figuresAt 42 = .ok (.iadd, 1) := by decide +kernel
theorem dX6_figuresAt_43 : decode cX6_figuresAt 43 = .ok (.iload_n 0, 1) := by decide +kernel
theorem dX6_figuresAt_44 : decode cX6_figuresAt 44 = .ok (.bipush 63, 2) := by decide +kernel
theorem dX6_figuresAt_46 : decode cX6_figuresAt 46 = .ok (.idiv, 1) := by decide +kernel
theorem dX6_figuresAt_47 : decode cX6_figuresAt 47 = .ok (.iconst 2, 1) := by decide +kernel
theorem dX6_figuresAt_48 : decode cX6_figuresAt 48 = .ok (.irem, 1) := by decide +kernel
theorem dX6_figuresAt_49 : decode cX6_figuresAt 49 = .ok (.sipush 1000, 3) := by decide +kernel
theorem dX6_figuresAt_52 : decode cX6_figuresAt 52 = .ok (.imul, 1) := by decide +kernel
theorem dX6_figuresAt_53 : decode cX6_figuresAt 53 = .ok (.iadd, 1) := by decide +kernel
theorem dX6_figuresAt_54 : decode cX6_figuresAt 54 = .ok (.iload_n 1, 1) := by decide +kernel
theorem dX6_figuresAt_55 : decode cX6_figuresAt 55 = .ok (.iadd, 1) := by decide +kernel
theorem dX6_figuresAt_56 : decode cX6_figuresAt 56 = .ok (.ireturn, 1) := by decide +kernel
set_option maxRecDepth 20000 in
theorem ggX6_linkAndCount_X0_draw : GoodIn wsX6_linkAndCount wsX0_draw := goodIn_r _ [8, 9, 10, 11, 12, 13, 14, 15, 7, 16, 17, 18, 19, 20] (by decide +kernel) (by decide +kernel)
set_option maxRecDepth 20000 in
theorem gX6_linkAndCount_X0_draw : GoodIn wsX6_linkAndCount (va_wsS RX6 50 yX0_draw wsX0_draw) := goodIn_app (goodIn_of _ (by decide +kernel)) ggX6_linkAndCount_X0_draw
set_option maxRecDepth 20000 in
theorem ggX6_linkAndCount_X6_find : GoodIn wsX6_linkAndCount wsX6_find := goodIn_r _ [25, 1, 26, 27, 28, 29] (by decide +kernel) (by decide +kernel)
set_option maxRecDepth 20000 in
theorem gX6_linkAndCount_X6_find : GoodIn wsX6_linkAndCount (wsV RX6 53 RX6 yX6_find wsX6_find) := goodIn_app (goodIn_of _ (by decide +kernel)) ggX6_linkAndCount_X6_find
theorem dX6_linkAndCount_0 : decode cX6_linkAndCount 0 = .ok (.iconst 0, 1) := by decide +kernel
theorem dX6_linkAndCount_1 : decode cX6_linkAndCount 1 = .ok (.istore_n 2, 1) := by decide +kernel
theorem dX6_linkAndCount_2 : decode cX6_linkAndCount 2 = .ok (.iconst 1, 1) := by decide +kernel
theorem dX6_linkAndCount_3 : decode cX6_linkAndCount 3 = .ok (.istore_n 3, 1) := by decide +kernel
theorem dX6_linkAndCount_4 : decode cX6_linkAndCount 4 = .ok (.iload_n 3, 1) := by decide +kernel
theorem dX6_linkAndCount_5 : decode cX6_linkAndCount 5 = .ok (.bipush 6, 2) := by decide +kernel
theorem dX6_linkAndCount_7 : decode cX6_linkAndCount 7 = .ok (.if_icmp .gt 75, 3) := by decide +kernel
theorem dX6_linkAndCount_10 : decode cX6_linkAndCount 10 = .ok (.aload_n 0, 1) := by decide +kernel
theorem dX6_linkAndCount_11 : decode cX6_linkAndCount 11 = .ok (.aload_n 0, 1) := by decide +kernel
theorem dX6_linkAndCount_12 : decode cX6_linkAndCount 12 = .ok (.getfield 11, 3) := by decide +kernel
theorem dX6_linkAndCount_15 : decode cX6_linkAndCount 15 = .ok (.iload_n 1, 1) := by decide +kernel
theorem dX6_linkAndCount_16 : decode cX6_linkAndCount 16 = .ok (.iaload, 1) := by decide +kernel
theorem dX6_linkAndCount_17 : decode cX6_linkAndCount 17 = .ok (.iload_n 3, 1) := by decide +kernel
theorem dX6_linkAndCount_18 : decode cX6_linkAndCount 18 = .ok (.invokestatic 50, 3) := by decide +kernel
theorem dX6_linkAndCount_21 : decode cX6_linkAndCount 21 = .ok (.invokevirtual 53, 3) := by decide +kernel
theorem dX6_linkAndCount_24 : decode cX6_linkAndCount 24 = .ok (.istore 4, 2) := by decide +kernel
theorem dX6_linkAndCount_26 : decode cX6_linkAndCount 26 = .ok (.iload 4, 2) := by decide +kernel
theorem dX6_linkAndCount_28 : decode cX6_linkAndCount 28 = .ok (.bipush (-6), 2) := by decide +kernel
theorem dX6_linkAndCount_30 : decode cX6_linkAndCount 30 = .ok (.if_icmp .ne 7, 3) := by decide +kernel
theorem dX6_linkAndCount_33 : decode cX6_linkAndCount 33 = .ok (.iload_n 1, 1) := by decide +kernel
theorem dX6_linkAndCount_34 : decode cX6_linkAndCount 34 = .ok (.goto 5, 3) := by decide +kernel
theorem dX6_linkAndCount_37 : decode cX6_linkAndCount 37 = .ok (.iload 4, 2) := by decide +kernel
theorem dX6_linkAndCount_39 : decode cX6_linkAndCount 39 = .ok (.istore 5, 2) := by decide +kernel
theorem dX6_linkAndCount_41 : decode cX6_linkAndCount 41 = .ok (.aload_n 0, 1) := by decide +kernel
theorem dX6_linkAndCount_42 : decode cX6_linkAndCount 42 = .ok (.getfield 15, 3) := by decide +kernel
theorem dX6_linkAndCount_45 : decode cX6_linkAndCount 45 = .ok (.iload_n 1, 1) := by decide +kernel
theorem dX6_linkAndCount_46 : decode cX6_linkAndCount 46 = .ok (.bipush 6, 2) := by decide +kernel
theorem dX6_linkAndCount_48 : decode cX6_linkAndCount 48 = .ok (.imul, 1) := by decide +kernel
theorem dX6_linkAndCount_49 : decode cX6_linkAndCount 49 = .ok (.iload_n 3, 1) := by decide +kernel
theorem dX6_linkAndCount_50 : decode cX6_linkAndCount 50 = .ok (.iadd, 1) := by decide +kernel
theorem dX6_linkAndCount_51 : decode cX6_linkAndCount 51 = .ok (.iconst 1, 1) := by decide +kernel
theorem dX6_linkAndCount_52 : decode cX6_linkAndCount 52 = .ok (.isub, 1) := by decide +kernel
theorem dX6_linkAndCount_53 : decode cX6_linkAndCount 53 = .ok (.iload 5, 2) := by decide +kernel
theorem dX6_linkAndCount_55 : decode cX6_linkAndCount 55 = .ok (.iastore, 1) := by decide +kernel
theorem dX6_linkAndCount_56 : decode cX6_linkAndCount 56 = .ok (.iload_n 2, 1) := by decide +kernel
theorem dX6_linkAndCount_57 : decode cX6_linkAndCount 57 = .ok (.iload 5, 2) := by decide +kernel
theorem dX6_linkAndCount_59 : decode cX6_linkAndCount 59 = .ok (.iload_n 1, 1) := by decide +kernel
theorem dX6_linkAndCount_60 : decode cX6_linkAndCount 60 = .ok (.if_icmp .ne 7, 3) := by decide +kernel
theorem dX6_linkAndCount_63 : decode cX6_linkAndCount 63 = .ok (.iconst 0, 1) := by decide +kernel
theorem dX6_linkAndCount_64 : decode cX6_linkAndCount 64 = .ok (.goto 10, 3) := by decide +kernel
theorem dX6_linkAndCount_67 : decode cX6_linkAndCount 67 = .ok (.aload_n 0, 1) := by decide +kernel
theorem dX6_linkAndCount_68 : decode cX6_linkAndCount 68 = .ok (.getfield 18, 3) := by decide +kernel
theorem dX6_linkAndCount_71 : decode cX6_linkAndCount 71 = .ok (.iload 5, 2) := by decide +kernel
theorem dX6_linkAndCount_73 : decode cX6_linkAndCount 73 = .ok (.iaload, 1) := by decide +kernel
theorem dX6_linkAndCount_74 : decode cX6_linkAndCount 74 = .ok (.iadd, 1) := by decide +kernel
theorem dX6_linkAndCount_75 : decode cX6_linkAndCount 75 = .ok (.istore_n 2, 1) := by decide +kernel
theorem dX6_linkAndCount_76 : decode cX6_linkAndCount 76 = .ok (.iinc 3 1, 3) := by decide +kernel
theorem dX6_linkAndCount_79 : decode cX6_linkAndCount 79 = .ok (.goto (-75), 3) := by decide +kernel
theorem dX6_linkAndCount_82 : decode cX6_linkAndCount 82 = .ok (.aload_n 0, 1) := by decide +kernel
theorem dX6_linkAndCount_83 : decode cX6_linkAndCount 83 = .ok (.getfield 18, 3) := by decide +kernel
theorem dX6_linkAndCount_86 : decode cX6_linkAndCount 86 = .ok (.iload_n 1, 1) := by decide +kernel
theorem dX6_linkAndCount_87 : decode cX6_linkAndCount 87 = .ok (.aload_n 0, 1) := by decide +kernel
theorem dX6_linkAndCount_88 : decode cX6_linkAndCount 88 = .ok (.getfield 11, 3) := by decide +kernel
theorem dX6_linkAndCount_91 : decode cX6_linkAndCount 91 = .ok (.iload_n 1, 1) := by decide +kernel
theorem dX6_linkAndCount_92 : decode cX6_linkAndCount 92 = .ok (.iaload, 1) := by decide +kernel
theorem dX6_linkAndCount_93 : decode cX6_linkAndCount 93 = .ok (.ldc 56, 2) := by decide +kernel
theorem dX6_linkAndCount_95 : decode cX6_linkAndCount 95 = .ok (.if_icmp .ne 7, 3) := by decide +kernel
theorem dX6_linkAndCount_98 : decode cX6_linkAndCount 98 = .ok (.iconst 1, 1) := by decide +kernel
theorem dX6_linkAndCount_99 : decode cX6_linkAndCount 99 = .ok (.goto 4, 3) := by decide +kernel
theorem dX6_linkAndCount_102 : decode cX6_linkAndCount 102 = .ok (.iload_n 2, 1) := by decide +kernel
theorem dX6_linkAndCount_103 : decode cX6_linkAndCount 103 = .ok (.iastore, 1) := by decide +kernel
theorem dX6_linkAndCount_104 : decode cX6_linkAndCount 104 = .ok (.return_, 1) := by decide +kernel
theorem dX7_init_0 : decode cX7_init 0 = .ok (.aload_n 0, 1) := by decide +kernel
theorem dX7_init_1 : decode cX7_init 1 = .ok (.invokespecial 1, 3) := by decide +kernel
theorem dX7_init_4 : decode cX7_init 4 = .ok (.aload_n 0, 1) := by decide +kernel
theorem dX7_init_5 : decode cX7_init 5 = .ok (.bipush 8, 2) := by decide +kernel
theorem dX7_init_7 : decode cX7_init 7 = .ok (.newarray .int, 2) := by decide +kernel
theorem dX7_init_9 : decode cX7_init 9 = .ok (.putfield 9, 3) := by decide +kernel
theorem dX7_init_12 : decode cX7_init 12 = .ok (.aload_n 0, 1) := by decide +kernel
theorem dX7_init_13 : decode cX7_init 13 = .ok (.bipush 8, 2) := by decide +kernel
theorem dX7_init_15 : decode cX7_init 15 = .ok (.newarray .int, 2) := by decide +kernel
theorem dX7_init_17 : decode cX7_init 17 = .ok (.putfield 13, 3) := by decide +kernel
theorem dX7_init_20 : decode cX7_init 20 = .ok (.return_, 1) := by decide +kernel
theorem dX7_copyFrom_0 : decode cX7_copyFrom 0 = .ok (.iconst 0, 1) := by decide +kernel
theorem dX7_copyFrom_1 : decode cX7_copyFrom 1 = .ok (.istore_n 2, 1) := by decide +kernel
theorem dX7_copyFrom_2 : decode cX7_copyFrom 2 = .ok (.iload_n 2, 1) := by decide +kernel
theorem dX7_copyFrom_3 : decode cX7_copyFrom 3 = .ok (.bipush 8, 2) := by decide +kernel
theorem dX7_copyFrom_5 : decode cX7_copyFrom 5 = .ok (.if_icmp .ge 33, 3) := by decide +kernel
theorem dX7_copyFrom_8 : decode cX7_copyFrom 8 = .ok (.aload_n 0, 1) := by decide +kernel
theorem dX7_copyFrom_9 : decode cX7_copyFrom 9 = .ok (.getfield 9, 3) := by decide +kernel
theorem dX7_copyFrom_12 : decode cX7_copyFrom 12 = .ok (.iload_n 2, 1) := by decide +kernel
theorem dX7_copyFrom_13 : decode cX7_copyFrom 13 = .ok (.aload_n 1, 1) := by decide +kernel
theorem dX7_copyFrom_14 : decode cX7_copyFrom 14 = .ok (.getfield 9, 3) := by decide +kernel
theorem dX7_copyFrom_17 : decode cX7_copyFrom 17 = .ok (.iload_n 2, 1) := by decide +kernel
theorem dX7_copyFrom_18 : decode cX7_copyFrom 18 = .ok (.iaload, 1) := by decide +kernel
theorem dX7_copyFrom_19 : decode cX7_copyFrom 19 = .ok (.iastore, 1) := by decide +kernel
theorem dX7_copyFrom_20 : decode cX7_copyFrom 20 = .ok (.aload_n 0, 1) := by decide +kernel
theorem dX7_copyFrom_21 : decode cX7_copyFrom 21 = .ok (.getfield 13, 3) := by decide +kernel
theorem dX7_copyFrom_24 : decode cX7_copyFrom 24 = .ok (.iload_n 2, 1) := by decide +kernel
theorem dX7_copyFrom_25 : decode cX7_copyFrom 25 = .ok (.aload_n 1, 1) := by decide +kernel
theorem dX7_copyFrom_26 : decode cX7_copyFrom 26 = .ok (.getfield 13, 3) := by decide +kernel
theorem dX7_copyFrom_29 : decode cX7_copyFrom 29 = .ok (.iload_n 2, 1) := by decide +kernel
theorem dX7_copyFrom_30 : decode cX7_copyFrom 30 = .ok (.iaload, 1) := by decide +kernel
theorem dX7_copyFrom_31 : decode cX7_copyFrom 31 = .ok (.iastore, 1) := by decide +kernel
theorem dX7_copyFrom_32 : decode cX7_copyFrom 32 = .ok (.iinc 2 1, 3) := by decide +kernel
theorem dX7_copyFrom_35 : decode cX7_copyFrom 35 = .ok (.goto (-33), 3) := by decide +kernel
theorem dX7_copyFrom_38 : decode cX7_copyFrom 38 = .ok (.aload_n 0, 1) := by decide +kernel
theorem dX7_copyFrom_39 : decode cX7_copyFrom 39 = .ok (.aload_n 1, 1) := by decide +kernel
theorem dX7_copyFrom_40 : decode cX7_copyFrom 40 = .ok (.getfield 16, 3) := by decide +kernel
theorem dX7_copyFrom_43 : decode cX7_copyFrom 43 = .ok (.putfield 16, 3) := by decide +kernel
theorem dX7_copyFrom_46 : decode cX7_copyFrom 46 = .ok (.return_, 1) := by decide +kernel
theorem dX7_add_0 : decode cX7_add 0 = .ok (.aload_n 0, 1) := by decide +kernel
theorem dX7_add_1 : decode cX7_add 1 = .ok (.getfield 16, 3) := by decide +kernel
theorem dX7_add_4 : decode cX7_add 4 = .ok (.bipush 8, 2) := by decide +kernel
theorem dX7_add_6 : decode cX7_add 6 = .ok (.if_icmp .lt 5, 3) := by decide +kernel
theorem dX7_add_9 : decode cX7_add 9 = .ok (.iconst 0, 1) := by decide +kernel
theorem dX7_add_10 : decode cX7_add 10 = .ok (.ireturn, 1) := by decide +kernel
theorem dX7_add_11 : decode cX7_add 11 = .ok (.aload_n 0, 1) := by decide +kernel
theorem dX7_add_12 : decode cX7_add 12 = .ok (.getfield 9, 3) := by decide +kernel
theorem dX7_add_15 : decode cX7_add 15 = .ok (.aload_n 0, 1) := by decide +kernel
theorem dX7_add_16 : decode cX7_add 16 = .ok (.getfield 16, 3) := by decide +kernel
theorem dX7_add_19 : decode cX7_add 19 = .ok (.iload_n 1, 1) := by decide +kernel
theorem dX7_add_20 : decode cX7_add 20 = .ok (.iastore, 1) := by decide +kernel
theorem dX7_add_21 : decode cX7_add 21 = .ok (.aload_n 0, 1) := by decide +kernel
theorem dX7_add_22 : decode cX7_add 22 = .ok (.getfield 13, 3) := by decide +kernel
theorem dX7_add_25 : decode cX7_add 25 = .ok (.aload_n 0, 1) := by decide +kernel
theorem dX7_add_26 : decode cX7_add 26 = .ok (.getfield 16, 3) := by decide +kernel
theorem dX7_add_29 : decode cX7_add 29 = .ok (.iload_n 2, 1) := by decide +kernel
theorem dX7_add_30 : decode cX7_add 30 = .ok (.iastore, 1) := by decide +kernel
theorem dX7_add_31 : decode cX7_add 31 = .ok (.aload_n 0, 1) := by decide +kernel
theorem dX7_add_32 : decode cX7_add 32 = .ok (.dup, 1) := by decide +kernel
theorem dX7_add_33 : decode cX7_add 33 = .ok (.getfield 16, 3) := by decide +kernel
theorem dX7_add_36 : decode cX7_add 36 = .ok (.iconst 1, 1) := by decide +kernel
theorem dX7_add_37 : decode cX7_add 37 = .ok (.iadd, 1) := by decide +kernel
theorem dX7_add_38 : decode cX7_add 38 = .ok (.putfield 16, 3) := by decide +kernel
theorem dX7_add_41 : decode cX7_add 41 = .ok (.iconst 1, 1) := by decide +kernel
theorem dX7_add_42 : decode cX7_add 42 = .ok (.ireturn, 1) := by decide +kernel
theorem dX7_clear_0 : decode cX7_clear 0 = .ok (.aload_n 0, 1) := by decide +kernel
theorem dX7_clear_1 : decode cX7_clear 1 = .ok (.getfield 16, 3) := by decide +kernel
theorem dX7_clear_4 : decode cX7_clear 4 = .ok (.istore_n 1, 1) := by decide +kernel
theorem dX7_clear_5 : decode cX7_clear 5 = .ok (.aload_n 0, 1) := by decide +kernel
theorem dX7_clear_6 : decode cX7_clear 6 = .ok (.iconst 0, 1) := by decide +kernel
theorem dX7_clear_7 : decode cX7_clear 7 = .ok (.putfield 16, 3) := by decide +kernel
theorem dX7_clear_10 : decode cX7_clear 10 = .ok (.iload_n 1, 1) := by decide +kernel
theorem dX7_clear_11 : decode cX7_clear 11 = .ok (.ireturn, 1) := by decide +kernel
set_option maxRecDepth 20000 in
theorem ggX7_fit_X1_topAfter : GoodIn wsX7_fit wsX1_topAfter := goodIn_r _ [7, 8, 9, 10, 6, 11, 12, 13, 14, 15, 16, 17, 18] (by decide +kernel) (by decide +kernel)
set_option maxRecDepth 20000 in
theorem gX7_fit_X1_topAfter : GoodIn wsX7_fit (va_wsS RX7 20 yX1_topAfter wsX1_topAfter) := goodIn_app (goodIn_of _ (by decide +kernel)) ggX7_fit_X1_topAfter
theorem dX7_fit_0 : decode cX7_fit 0 = .ok (.iconst 0, 1) := by decide +kernel
theorem dX7_fit_1 : decode cX7_fit 1 = .ok (.istore_n 2, 1) := by decide +kernel
theorem dX7_fit_2 : decode cX7_fit 2 = .ok (.iload_n 2, 1) := by decide +kernel
theorem dX7_fit_3 : decode cX7_fit 3 = .ok (.aload_n 0, 1) := by decide +kernel
theorem dX7_fit_4 : decode cX7_fit 4 = .ok (.getfield 16, 3) := by decide +kernel
theorem dX7_fit_7 : decode cX7_fit 7 = .ok (.if_icmp .ge 30, 3) := by decide +kernel
theorem dX7_fit_10 : decode cX7_fit 10 = .ok (.iload_n 1, 1) := by decide +kernel
theorem dX7_fit_11 : decode cX7_fit 11 = .ok (.aload_n 0, 1) := by decide +kernel
theorem dX7_fit_12 : decode cX7_fit 12 = .ok (.getfield 9, 3) := by decide +kernel
theorem dX7_fit_15 : decode cX7_fit 15 = .ok (.iload_n 2, 1) := by decide +kernel
theorem dX7_fit_16 : decode cX7_fit 16 = .ok (.iaload, 1) := by decide +kernel
theorem dX7_fit_17 : decode cX7_fit 17 = .ok (.invokestatic 20, 3) := by decide +kernel
theorem dX7_fit_20 : decode cX7_fit 20 = .ok (.aload_n 0, 1) := by decide +kernel
theorem dX7_fit_21 : decode cX7_fit 21 = .ok (.getfield 13, 3) := by decide +kernel
theorem dX7_fit_24 : decode cX7_fit 24 = .ok (.iload_n 2, 1) := by decide +kernel
theorem dX7_fit_25 : decode cX7_fit 25 = .ok (.iaload, 1) := by decide +kernel
theorem dX7_fit_26 : decode cX7_fit 26 = .ok (.if_icmp .eq 5, 3) := by decide +kernel
theorem dX7_fit_29 : decode cX7_fit 29 = .ok (.iconst 0, 1) := by decide +kernel
theorem dX7_fit_30 : decode cX7_fit 30 = .ok (.ireturn, 1) := by decide +kernel
theorem dX7_fit_31 : decode cX7_fit 31 = .ok (.iinc 2 1, 3) := by decide +kernel
theorem dX7_fit_34 : decode cX7_fit 34 = .ok (.goto (-32), 3) := by decide +kernel
theorem dX7_fit_37 : decode cX7_fit 37 = .ok (.iconst 1, 1) := by decide +kernel
theorem dX7_fit_38 : decode cX7_fit 38 = .ok (.ireturn, 1) := by decide +kernel
theorem dX8_init_0 : decode cX8_init 0 = .ok (.aload_n 0, 1) := by decide +kernel
theorem dX8_init_1 : decode cX8_init 1 = .ok (.invokespecial 3, 3) := by decide +kernel
theorem dX8_init_4 : decode cX8_init 4 = .ok (.aload_n 0, 1) := by decide +kernel
theorem dX8_init_5 : decode cX8_init 5 = .ok (.bipush 100, 2) := by decide +kernel
theorem dX8_init_7 : decode cX8_init 7 = .ok (.newarray .long, 2) := by decide +kernel
theorem dX8_init_9 : decode cX8_init 9 = .ok (.putfield 11, 3) := by decide +kernel
theorem dX8_init_12 : decode cX8_init 12 = .ok (.return_, 1) := by decide +kernel
set_option maxRecDepth 20000 in
theorem ggX8_ways_X8_addDie : GoodIn wsX8_ways wsX8_addDie := goodIn_r _ [6, 1, 7] (by decide +kernel) (by decide +kernel)
set_option maxRecDepth 20000 in
theorem gX8_ways_X8_addDie : GoodIn wsX8_ways (wsV RX8 15 RX8 yX8_addDie wsX8_addDie) := goodIn_app (goodIn_of _ (by decide +kernel)) ggX8_ways_X8_addDie
theorem dX8_ways_0 : decode cX8_ways 0 = .ok (.iconst 0, 1) := by decide +kernel
theorem dX8_ways_1 : decode cX8_ways 1 = .ok (.istore_n 3, 1) := by decide +kernel
theorem dX8_ways_2 : decode cX8_ways 2 = .ok (.iload_n 3, 1) := by decide +kernel
theorem dX8_ways_3 : decode cX8_ways 3 = .ok (.iload_n 2, 1) := by decide +kernel
theorem dX8_ways_4 : decode cX8_ways 4 = .ok (.if_icmp .gt 24, 3) := by decide +kernel
theorem dX8_ways_7 : decode cX8_ways 7 = .ok (.aload_n 0, 1) := by decide +kernel
theorem dX8_ways_8 : decode cX8_ways 8 = .ok (.getfield 11, 3) := by decide +kernel
theorem dX8_ways_11 : decode cX8_ways 11 = .ok (.iload_n 3, 1) := by decide +kernel
theorem dX8_ways_12 : decode cX8_ways 12 = .ok (.iload_n 3, 1) := by decide +kernel
theorem dX8_ways_13 : decode cX8_ways 13 = .ok (.ifCond .ne 7, 3) := by decide +kernel
theorem dX8_ways_16 : decode cX8_ways 16 = .ok (.lconst 1, 1) := by decide +kernel
theorem dX8_ways_17 : decode cX8_ways 17 = .ok (.goto 4, 3) := by decide +kernel
theorem dX8_ways_20 : decode cX8_ways 20 = .ok (.lconst 0, 1) := by decide +kernel
theorem dX8_ways_21 : decode cX8_ways 21 = .ok (.lastore, 1) := by decide +kernel
theorem dX8_ways_22 : decode cX8_ways 22 = .ok (.iinc 3 1, 3) := by decide +kernel
theorem dX8_ways_25 : decode cX8_ways 25 = .ok (.goto (-23), 3) := by decide +kernel
theorem dX8_ways_28 : decode cX8_ways 28 = .ok (.iconst 0, 1) := by decide +kernel
theorem dX8_ways_29 : decode cX8_ways 29 = .ok (.istore_n 3, 1) := by decide +kernel
theorem dX8_ways_30 : decode cX8_ways 30 = .ok (.iload_n 3, 1) := by decide +kernel
theorem dX8_ways_31 : decode cX8_ways 31 = .ok (.iload_n 1, 1) := by decide +kernel
theorem dX8_ways_32 : decode cX8_ways 32 = .ok (.if_icmp .ge 14, 3) := by decide +kernel
theorem dX8_ways_35 : decode cX8_ways 35 = .ok (.aload_n 0, 1) := by decide +kernel
theorem dX8_ways_36 : decode cX8_ways 36 = .ok (.iload_n 2, 1) := by decide +kernel
theorem dX8_ways_37 : decode cX8_ways 37 = .ok (.invokevirtual 15, 3) := by decide +kernel
theorem dX8_ways_40 : decode cX8_ways 40 = .ok (.iinc 3 1, 3) := by decide +kernel
theorem dX8_ways_43 : decode cX8_ways 43 = .ok (.goto (-13), 3) := by decide +kernel
theorem dX8_ways_46 : decode cX8_ways 46 = .ok (.aload_n 0, 1) := by decide +kernel
theorem dX8_ways_47 : decode cX8_ways 47 = .ok (.getfield 11, 3) := by decide +kernel
theorem dX8_ways_50 : decode cX8_ways 50 = .ok (.iload_n 2, 1) := by decide +kernel
theorem dX8_ways_51 : decode cX8_ways 51 = .ok (.laload, 1) := by decide +kernel
theorem dX8_ways_52 : decode cX8_ways 52 = .ok (.lreturn, 1) := by decide +kernel
theorem dX8_addDie_0 : decode cX8_addDie 0 = .ok (.iload_n 1, 1) := by decide +kernel
theorem dX8_addDie_1 : decode cX8_addDie 1 = .ok (.istore_n 2, 1) := by decide +kernel
theorem dX8_addDie_2 : decode cX8_addDie 2 = .ok (.iload_n 2, 1) := by decide +kernel
theorem dX8_addDie_3 : decode cX8_addDie 3 = .ok (.ifCond .lt 52, 3) := by decide +kernel
theorem dX8_addDie_6 : decode cX8_addDie 6 = .ok (.lconst 0, 1) := by decide +kernel
theorem dX8_addDie_7 : decode cX8_addDie 7 = .ok (.lstore_n 3, 1) := by decide +kernel
theorem dX8_addDie_8 : decode cX8_addDie 8 = .ok (.iconst 1, 1) := by decide +kernel
theorem dX8_addDie_9 : decode cX8_addDie 9 = .ok (.istore 5, 2) := by decide +kernel
theorem dX8_addDie_11 : decode cX8_addDie 11 = .ok (.iload 5, 2) := by decide +kernel
theorem dX8_addDie_13 : decode cX8_addDie 13 = .ok (.bipush 6, 2) := by decide +kernel
theorem dX8_addDie_15 : decode cX8_addDie 15 = .ok (.if_icmp .gt 27, 3) := by decide +kernel
theorem dX8_addDie_18 : decode cX8_addDie 18 = .ok (.iload 5, 2) := by decide +kernel
theorem dX8_addDie_20 : decode cX8_addDie 20 = .ok (.iload_n 2, 1) := by decide +kernel
theorem dX8_addDie_21 : decode cX8_addDie 21 = .ok (.if_icmp .gt 21, 3) := by decide +kernel
theorem dX8_addDie_24 : decode cX8_addDie 24 = .ok (.lload_n 3, 1) := by decide +kernel
theorem dX8_addDie_25 : decode cX8_addDie 25 = .ok (.aload_n 0, 1) := by decide +kernel
theorem dX8_addDie_26 : decode cX8_addDie 26 = .ok (.getfield 11, 3) := by decide +kernel
theorem dX8_addDie_29 : decode cX8_addDie 29 = .ok (.iload_n 2, 1) := by decide +kernel
theorem dX8_addDie_30 : decode cX8_addDie 30 = .ok (.iload 5, 2) := by decide +kernel
theorem dX8_addDie_32 : decode cX8_addDie 32 = .ok (.isub, 1) := by decide +kernel
theorem dX8_addDie_33 : decode cX8_addDie 33 = .ok (.laload, 1) := by decide +kernel
theorem dX8_addDie_34 : decode cX8_addDie 34 = .ok (.ladd, 1) := by decide +kernel
theorem dX8_addDie_35 : decode cX8_addDie 35 = .ok (.lstore_n 3, 1) := by decide +kernel
theorem dX8_addDie_36 : decode cX8_addDie 36 = .ok (.iinc 5 1, 3) := by decide +kernel
theorem dX8_addDie_39 : decode cX8_addDie 39 = .ok (.goto (-28), 3) := by decide +kernel
theorem dX8_addDie_42 : decode cX8_addDie 42 = .ok (.aload_n 0, 1) := by decide +kernel
theorem dX8_addDie_43 : decode cX8_addDie 43 = .ok (.getfield 11, 3) := by decide +kernel
theorem dX8_addDie_46 : decode cX8_addDie 46 = .ok (.iload_n 2, 1) := by decide +kernel
theorem dX8_addDie_47 : decode cX8_addDie 47 = .ok (.lload_n 3, 1) := by decide +kernel
theorem dX8_addDie_48 : decode cX8_addDie 48 = .ok (.lastore, 1) := by decide +kernel
theorem dX8_addDie_49 : decode cX8_addDie 49 = .ok (.iinc 2 (-1), 3) := by decide +kernel
theorem dX8_addDie_52 : decode cX8_addDie 52 = .ok (.goto (-50), 3) := by decide +kernel
theorem dX8_addDie_55 : decode cX8_addDie 55 = .ok (.return_, 1) := by decide +kernel
theorem dX9_init_0 : decode cX9_init 0 = .ok (.aload_n 0, 1) := by decide +kernel
theorem dX9_init_1 : decode cX9_init 1 = .ok (.invokespecial 3, 3) := by decide +kernel
theorem dX9_init_4 : decode cX9_init 4 = .ok (.aload_n 0, 1) := by decide +kernel
theorem dX9_init_5 : decode cX9_init 5 = .ok (.bipush 6, 2) := by decide +kernel
theorem dX9_init_7 : decode cX9_init 7 = .ok (.newarray .int, 2) := by decide +kernel
theorem dX9_init_9 : decode cX9_init 9 = .ok (.putfield 9, 3) := by decide +kernel
theorem dX9_init_12 : decode cX9_init 12 = .ok (.aload_n 0, 1) := by decide +kernel
theorem dX9_init_13 : decode cX9_init 13 = .ok (.bipush 6, 2) := by decide +kernel
theorem dX9_init_15 : decode cX9_init 15 = .ok (.newarray .int, 2) := by decide +kernel
theorem dX9_init_17 : decode cX9_init 17 = .ok (.putfield 15, 3) := by decide +kernel
theorem dX9_init_20 : decode cX9_init 20 = .ok (.aload_n 0, 1) := by decide +kernel
theorem dX9_init_21 : decode cX9_init 21 = .ok (.bipush 63, 2) := by decide +kernel
theorem dX9_init_23 : decode cX9_init 23 = .ok (.putfield 18, 3) := by decide +kernel
theorem dX9_init_26 : decode cX9_init 26 = .ok (.return_, 1) := by decide +kernel
theorem dX9_copyFrom_0 : decode cX9_copyFrom 0 = .ok (.iconst 0, 1) := by decide +kernel
theorem dX9_copyFrom_1 : decode cX9_copyFrom 1 = .ok (.istore_n 2, 1) := by decide +kernel
theorem dX9_copyFrom_2 : decode cX9_copyFrom 2 = .ok (.iload_n 2, 1) := by decide +kernel
theorem dX9_copyFrom_3 : decode cX9_copyFrom 3 = .ok (.bipush 6, 2) := by decide +kernel
theorem dX9_copyFrom_5 : decode cX9_copyFrom 5 = .ok (.if_icmp .ge 33, 3) := by decide +kernel
theorem dX9_copyFrom_8 : decode cX9_copyFrom 8 = .ok (.aload_n 0, 1) := by decide +kernel
theorem dX9_copyFrom_9 : decode cX9_copyFrom 9 = .ok (.getfield 9, 3) := by decide +kernel
theorem dX9_copyFrom_12 : decode cX9_copyFrom 12 = .ok (.iload_n 2, 1) := by decide +kernel
theorem dX9_copyFrom_13 : decode cX9_copyFrom 13 = .ok (.aload_n 1, 1) := by decide +kernel
theorem dX9_copyFrom_14 : decode cX9_copyFrom 14 = .ok (.getfield 9, 3) := by decide +kernel
theorem dX9_copyFrom_17 : decode cX9_copyFrom 17 = .ok (.iload_n 2, 1) := by decide +kernel
theorem dX9_copyFrom_18 : decode cX9_copyFrom 18 = .ok (.iaload, 1) := by decide +kernel
theorem dX9_copyFrom_19 : decode cX9_copyFrom 19 = .ok (.iastore, 1) := by decide +kernel
theorem dX9_copyFrom_20 : decode cX9_copyFrom 20 = .ok (.aload_n 0, 1) := by decide +kernel
theorem dX9_copyFrom_21 : decode cX9_copyFrom 21 = .ok (.getfield 15, 3) := by decide +kernel
theorem dX9_copyFrom_24 : decode cX9_copyFrom 24 = .ok (.iload_n 2, 1) := by decide +kernel
theorem dX9_copyFrom_25 : decode cX9_copyFrom 25 = .ok (.aload_n 1, 1) := by decide +kernel
theorem dX9_copyFrom_26 : decode cX9_copyFrom 26 = .ok (.getfield 15, 3) := by decide +kernel
theorem dX9_copyFrom_29 : decode cX9_copyFrom 29 = .ok (.iload_n 2, 1) := by decide +kernel
theorem dX9_copyFrom_30 : decode cX9_copyFrom 30 = .ok (.iaload, 1) := by decide +kernel
theorem dX9_copyFrom_31 : decode cX9_copyFrom 31 = .ok (.iastore, 1) := by decide +kernel
theorem dX9_copyFrom_32 : decode cX9_copyFrom 32 = .ok (.iinc 2 1, 3) := by decide +kernel
theorem dX9_copyFrom_35 : decode cX9_copyFrom 35 = .ok (.goto (-33), 3) := by decide +kernel
theorem dX9_copyFrom_38 : decode cX9_copyFrom 38 = .ok (.aload_n 0, 1) := by decide +kernel
theorem dX9_copyFrom_39 : decode cX9_copyFrom 39 = .ok (.aload_n 1, 1) := by decide +kernel
theorem dX9_copyFrom_40 : decode cX9_copyFrom 40 = .ok (.getfield 18, 3) := by decide +kernel
theorem dX9_copyFrom_43 : decode cX9_copyFrom 43 = .ok (.putfield 18, 3) := by decide +kernel
theorem dX9_copyFrom_46 : decode cX9_copyFrom 46 = .ok (.aload_n 0, 1) := by decide +kernel
theorem dX9_copyFrom_47 : decode cX9_copyFrom 47 = .ok (.aload_n 1, 1) := by decide +kernel
theorem dX9_copyFrom_48 : decode cX9_copyFrom 48 = .ok (.getfield 22, 3) := by decide +kernel
theorem dX9_copyFrom_51 : decode cX9_copyFrom 51 = .ok (.putfield 22, 3) := by decide +kernel
theorem dX9_copyFrom_54 : decode cX9_copyFrom 54 = .ok (.aload_n 0, 1) := by decide +kernel
theorem dX9_copyFrom_55 : decode cX9_copyFrom 55 = .ok (.aload_n 1, 1) := by decide +kernel
theorem dX9_copyFrom_56 : decode cX9_copyFrom 56 = .ok (.getfield 25, 3) := by decide +kernel
theorem dX9_copyFrom_59 : decode cX9_copyFrom 59 = .ok (.putfield 25, 3) := by decide +kernel
theorem dX9_copyFrom_62 : decode cX9_copyFrom 62 = .ok (.return_, 1) := by decide +kernel
theorem dX9_isIn_0 : decode cX9_isIn 0 = .ok (.aload_n 0, 1) := by decide +kernel
theorem dX9_isIn_1 : decode cX9_isIn 1 = .ok (.getfield 18, 3) := by decide +kernel
theorem dX9_isIn_4 : decode cX9_isIn 4 = .ok (.iconst 1, 1) := by decide +kernel
theorem dX9_isIn_5 : decode cX9_isIn 5 = .ok (.iload_n 1, 1) := by decide +kernel
theorem dX9_isIn_6 : decode cX9_isIn 6 = .ok (.ishl, 1) := by decide +kernel
theorem dX9_isIn_7 : decode cX9_isIn 7 = .ok (.iand, 1) := by decide +kernel
theorem dX9_isIn_8 : decode cX9_isIn 8 = .ok (.ifCond .eq 7, 3) := by decide +kernel
theorem dX9_isIn_11 : decode cX9_isIn 11 = .ok (.iconst 1, 1) := by decide +kernel
theorem dX9_isIn_12 : decode cX9_isIn 12 = .ok (.goto 4, 3) := by decide +kernel
theorem dX9_isIn_15 : decode cX9_isIn 15 = .ok (.iconst 0, 1) := by decide +kernel
theorem dX9_isIn_16 : decode cX9_isIn 16 = .ok (.ireturn, 1) := by decide +kernel
theorem dX9_isWhole_0 : decode cX9_isWhole 0 = .ok (.aload_n 0, 1) := by decide +kernel
theorem dX9_isWhole_1 : decode cX9_isWhole 1 = .ok (.getfield 9, 3) := by decide +kernel
theorem dX9_isWhole_4 : decode cX9_isWhole 4 = .ok (.iload_n 1, 1) := by decide +kernel
theorem dX9_isWhole_5 : decode cX9_isWhole 5 = .ok (.iaload, 1) := by decide +kernel
theorem dX9_isWhole_6 : decode cX9_isWhole 6 = .ok (.ldc 30, 2) := by decide +kernel
theorem dX9_isWhole_8 : decode cX9_isWhole 8 = .ok (.if_icmp .ne 7, 3) := by decide +kernel
theorem dX9_isWhole_11 : decode cX9_isWhole 11 = .ok (.iconst 1, 1) := by decide +kernel
theorem dX9_isWhole_12 : decode cX9_isWhole 12 = .ok (.goto 4, 3) := by decide +kernel
theorem dX9_isWhole_15 : decode cX9_isWhole 15 = .ok (.iconst 0, 1) := by decide +kernel
theorem dX9_isWhole_16 : decode cX9_isWhole 16 = .ok (.ireturn, 1) := by decide +kernel
set_option maxRecDepth 20000 in
theorem ggX9_whyNot_X9_isThrow : GoodIn wsX9_whyNot wsX9_isThrow := goodIn_r _ [7, 8, 9, 10] (by decide +kernel) (by decide +kernel)
set_option maxRecDepth 20000 in
theorem gX9_whyNot_X9_isThrow : GoodIn wsX9_whyNot (va_wsS RX9 31 yX9_isThrow wsX9_isThrow) := goodIn_app (goodIn_of _ (by decide +kernel)) ggX9_whyNot_X9_isThrow
set_option maxRecDepth 20000 in
theorem ggX9_whyNot_X9_isWhole : GoodIn wsX9_whyNot wsX9_isWhole := goodIn_r _ [14, 15, 16, 21, 22, 23, 24, 25] (by decide +kernel) (by decide +kernel)
set_option maxRecDepth 20000 in
theorem gX9_whyNot_X9_isWhole : GoodIn wsX9_whyNot (wsV RX9 35 RX9 yX9_isWhole wsX9_isWhole) := goodIn_app (goodIn_of _ (by decide +kernel)) ggX9_whyNot_X9_isWhole
set_option maxRecDepth 20000 in
theorem ggX9_whyNot_X9_isIn : GoodIn wsX9_whyNot wsX9_isIn := goodIn_r _ [20, 2, 21, 22, 23, 24, 25] (by decide +kernel) (by decide +kernel)
set_option maxRecDepth 20000 in
theorem gX9_whyNot_X9_isIn : GoodIn wsX9_whyNot (wsV RX9 38 RX9 yX9_isIn wsX9_isIn) := goodIn_app (goodIn_of _ (by decide +kernel)) ggX9_whyNot_X9_isIn
theorem dX9_whyNot_0 : decode cX9_whyNot 0 = .ok (.iload_n 1, 1) := by decide +kernel
theorem dX9_whyNot_1 : decode cX9_whyNot 1 = .ok (.invokestatic 31, 3) := by decide +kernel
theorem dX9_whyNot_4 : decode cX9_whyNot 4 = .ok (.ifCond .eq 20, 3) := by decide +kernel
theorem dX9_whyNot_7 : decode cX9_whyNot 7 = .ok (.aload_n 0, 1) := by decide +kernel
theorem dX9_whyNot_8 : decode cX9_whyNot 8 = .ok (.aload_n 0, 1) := by decide +kernel
theorem dX9_whyNot_9 : decode cX9_whyNot 9 = .ok (.getfield 22, 3) := by decide +kernel
theorem dX9_whyNot_12 : decode cX9_whyNot 12 = .ok (.invokevirtual 35, 3) := by decide +kernel
theorem dX9_whyNot_15 : decode cX9_whyNot 15 = .ok (.ifCond .eq 7, 3) := by decide +kernel
theorem dX9_whyNot_18 : decode cX9_whyNot 18 = .ok (.iconst 1, 1) := by decide +kernel
theorem dX9_whyNot_19 : decode cX9_whyNot 19 = .ok (.goto 4, 3) := by decide +kernel
theorem dX9_whyNot_22 : decode cX9_whyNot 22 = .ok (.iconst 0, 1) := by decide +kernel
theorem dX9_whyNot_23 : decode cX9_whyNot 23 = .ok (.ireturn, 1) := by decide +kernel
theorem dX9_whyNot_24 : decode cX9_whyNot 24 = .ok (.iload_n 1, 1) := by decide +kernel
theorem dX9_whyNot_25 : decode cX9_whyNot 25 = .ok (.bipush 35, 2) := by decide +kernel
theorem dX9_whyNot_27 : decode cX9_whyNot 27 = .ok (.if_icmp .ne 19, 3) := by decide +kernel
theorem dX9_whyNot_30 : decode cX9_whyNot 30 = .ok (.aload_n 0, 1) := by decide +kernel
theorem dX9_whyNot_31 : decode cX9_whyNot 31 = .ok (.getfield 18, 3) := by decide +kernel
theorem dX9_whyNot_34 : decode cX9_whyNot 34 = .ok (.iconst 1, 1) := by decide +kernel
theorem dX9_whyNot_35 : decode cX9_whyNot 35 = .ok (.iload_n 2, 1) := by decide +kernel
theorem dX9_whyNot_36 : decode cX9_whyNot 36 = .ok (.ishl, 1) := by decide +kernel
theorem dX9_whyNot_37 : decode cX9_whyNot 37 = .ok (.if_icmp .ne 7, 3) := by decide +kernel
theorem dX9_whyNot_40 : decode cX9_whyNot 40 = .ok (.iconst 3, 1) := by decide +kernel
theorem dX9_whyNot_41 : decode cX9_whyNot 41 = .ok (.goto 4, 3) := by decide +kernel
theorem dX9_whyNot_44 : decode cX9_whyNot 44 = .ok (.iconst 0, 1) := by decide +kernel
theorem dX9_whyNot_45 : decode cX9_whyNot 45 = .ok (.ireturn, 1) := by decide +kernel
theorem dX9_whyNot_46 : decode cX9_whyNot 46 = .ok (.iload_n 1, 1) := by decide +kernel
theorem dX9_whyNot_47 : decode cX9_whyNot 47 = .ok (.bipush 33, 2) := by decide +kernel
theorem dX9_whyNot_49 : decode cX9_whyNot 49 = .ok (.if_icmp .eq 5, 3) := by decide +kernel
theorem dX9_whyNot_52 : decode cX9_whyNot 52 = .ok (.iconst 0, 1) := by decide +kernel
theorem dX9_whyNot_53 : decode cX9_whyNot 53 = .ok (.ireturn, 1) := by decide +kernel
theorem dX9_whyNot_54 : decode cX9_whyNot 54 = .ok (.aload_n 0, 1) := by decide +kernel
theorem dX9_whyNot_55 : decode cX9_whyNot 55 = .ok (.iload_n 2, 1) := by decide +kernel
theorem dX9_whyNot_56 : decode cX9_whyNot 56 = .ok (.invokevirtual 35, 3) := by decide +kernel
theorem dX9_whyNot_59 : decode cX9_whyNot 59 = .ok (.ifCond .eq 11, 3) := by decide +kernel
theorem dX9_whyNot_62 : decode cX9_whyNot 62 = .ok (.aload_n 0, 1) := by decide +kernel
theorem dX9_whyNot_63 : decode cX9_whyNot 63 = .ok (.iload_n 2, 1) := by decide +kernel
theorem dX9_whyNot_64 : decode cX9_whyNot 64 = .ok (.invokevirtual 38, 3) := by decide +kernel
theorem dX9_whyNot_67 : decode cX9_whyNot 67 = .ok (.ifCond .ne 5, 3) := by decide +kernel
theorem dX9_whyNot_70 : decode cX9_whyNot 70 = .ok (.iconst 2, 1) := by decide +kernel
theorem dX9_whyNot_71 : decode cX9_whyNot 71 = .ok (.ireturn, 1) := by decide +kernel
theorem dX9_whyNot_72 : decode cX9_whyNot 72 = .ok (.aload_n 0, 1) := by decide +kernel
theorem dX9_whyNot_73 : decode cX9_whyNot 73 = .ok (.getfield 25, 3) := by decide +kernel
theorem dX9_whyNot_76 : decode cX9_whyNot 76 = .ok (.bipush 99, 2) := by decide +kernel
theorem dX9_whyNot_78 : decode cX9_whyNot 78 = .ok (.if_icmp .lt 7, 3) := by decide +kernel
theorem dX9_whyNot_81 : decode cX9_whyNot 81 = .ok (.iconst 4, 1) := by decide +kernel
theorem dX9_whyNot_82 : decode cX9_whyNot 82 = .ok (.goto 4, 3) := by decide +kernel
theorem dX9_whyNot_85 : decode cX9_whyNot 85 = .ok (.iconst 0, 1) := by decide +kernel
theorem dX9_whyNot_86 : decode cX9_whyNot 86 = .ok (.ireturn, 1) := by decide +kernel
set_option maxRecDepth 20000 in
theorem ggX9_drawBy_X0_draw : GoodIn wsX9_drawBy wsX0_draw := goodIn_r _ [6, 7, 8, 9, 10, 11, 12, 13, 5, 14, 15, 16, 17, 18] (by decide +kernel) (by decide +kernel)
set_option maxRecDepth 20000 in
theorem gX9_drawBy_X0_draw : GoodIn wsX9_drawBy (va_wsS RX9 41 yX0_draw wsX0_draw) := goodIn_app (goodIn_of _ (by decide +kernel)) ggX9_drawBy_X0_draw
set_option maxRecDepth 20000 in
theorem ggX9_drawBy_X9_passOn : GoodIn wsX9_drawBy wsX9_passOn := goodIn_r _ [23, 2, 24, 25, 26, 22, 27, 28, 29, 30, 31, 32, 33] (by decide +kernel) (by decide +kernel)
set_option maxRecDepth 20000 in
theorem gX9_drawBy_X9_passOn : GoodIn wsX9_drawBy (wsV RX9 45 RX9 yX9_passOn wsX9_passOn) := goodIn_app (goodIn_of _ (by decide +kernel)) ggX9_drawBy_X9_passOn
theorem dX9_drawBy_0 : decode cX9_drawBy 0 = .ok (.aload_n 0, 1) := by decide +kernel
theorem dX9_drawBy_1 : decode cX9_drawBy 1 = .ok (.getfield 9, 3) := by decide +kernel
theorem dX9_drawBy_4 : decode cX9_drawBy 4 = .ok (.aload_n 0, 1) := by decide +kernel
theorem dX9_drawBy_5 : decode cX9_drawBy 5 = .ok (.getfield 22, 3) := by decide +kernel
theorem dX9_drawBy_8 : decode cX9_drawBy 8 = .ok (.iaload, 1) := by decide +kernel
theorem dX9_drawBy_9 : decode cX9_drawBy 9 = .ok (.istore_n 2, 1) := by decide +kernel
theorem dX9_drawBy_10 : decode cX9_drawBy 10 = .ok (.iload_n 2, 1) := by decide +kernel
theorem dX9_drawBy_11 : decode cX9_drawBy 11 = .ok (.iload_n 1, 1) := by decide +kernel
theorem dX9_drawBy_12 : decode cX9_drawBy 12 = .ok (.invokestatic 41, 3) := by decide +kernel
theorem dX9_drawBy_15 : decode cX9_drawBy 15 = .ok (.istore_n 3, 1) := by decide +kernel
theorem dX9_drawBy_16 : decode cX9_drawBy 16 = .ok (.iload_n 3, 1) := by decide +kernel
theorem dX9_drawBy_17 : decode cX9_drawBy 17 = .ok (.iload_n 2, 1) := by decide +kernel
theorem dX9_drawBy_18 : decode cX9_drawBy 18 = .ok (.if_icmp .ne 9, 3) := by decide +kernel
theorem dX9_drawBy_21 : decode cX9_drawBy 21 = .ok (.aload_n 0, 1) := by decide +kernel
theorem dX9_drawBy_22 : decode cX9_drawBy 22 = .ok (.invokevirtual 45, 3) := by decide +kernel
theorem dX9_drawBy_25 : decode cX9_drawBy 25 = .ok (.iconst 0, 1) := by decide +kernel
theorem dX9_drawBy_26 : decode cX9_drawBy 26 = .ok (.ireturn, 1) := by decide +kernel
theorem dX9_drawBy_27 : decode cX9_drawBy 27 = .ok (.aload_n 0, 1) := by decide +kernel
theorem dX9_drawBy_28 : decode cX9_drawBy 28 = .ok (.getfield 9, 3) := by decide +kernel
theorem dX9_drawBy_31 : decode cX9_drawBy 31 = .ok (.aload_n 0, 1) := by decide +kernel
theorem dX9_drawBy_32 : decode cX9_drawBy 32 = .ok (.getfield 22, 3) := by decide +kernel
theorem dX9_drawBy_35 : decode cX9_drawBy 35 = .ok (.iload_n 3, 1) := by decide +kernel
theorem dX9_drawBy_36 : decode cX9_drawBy 36 = .ok (.iastore, 1) := by decide +kernel
theorem dX9_drawBy_37 : decode cX9_drawBy 37 = .ok (.iconst 1, 1) := by decide +kernel
theorem dX9_drawBy_38 : decode cX9_drawBy 38 = .ok (.ireturn, 1) := by decide +kernel
set_option maxRecDepth 20000 in
theorem ggX9_countUp_X9_worth : GoodIn wsX9_countUp wsX9_worth := goodIn_r _ [13, 1, 6, 14, 15, 16, 17, 18, 19, 20, 21, 22, 23, 24, 25, 26] (by decide +kernel) (by decide +kernel)
set_option maxRecDepth 20000 in
theorem gX9_countUp_X9_worth : GoodIn wsX9_countUp (wsV RX9 48 RX9 yX9_worth wsX9_worth) := goodIn_app (goodIn_of _ (by decide +kernel)) ggX9_countUp_X9_worth
theorem dX9_countUp_0 : decode cX9_countUp 0 = .ok (.iconst 0, 1) := by decide +kernel
theorem dX9_countUp_1 : decode cX9_countUp 1 = .ok (.istore_n 2, 1) := by decide +kernel
theorem dX9_countUp_2 : decode cX9_countUp 2 = .ok (.iload_n 2, 1) := by decide +kernel
theorem dX9_countUp_3 : decode cX9_countUp 3 = .ok (.bipush 6, 2) := by decide +kernel
theorem dX9_countUp_5 : decode cX9_countUp 5 = .ok (.if_icmp .ge 33, 3) := by decide +kernel
theorem dX9_countUp_8 : decode cX9_countUp 8 = .ok (.aload_n 0, 1) := by decide +kernel
theorem dX9_countUp_9 : decode cX9_countUp 9 = .ok (.getfield 15, 3) := by decide +kernel
theorem dX9_countUp_12 : decode cX9_countUp 12 = .ok (.iload_n 2, 1) := by decide +kernel
theorem dX9_countUp_13 : decode cX9_countUp 13 = .ok (.sipush 999, 3) := by decide +kernel
theorem dX9_countUp_16 : decode cX9_countUp 16 = .ok (.aload_n 0, 1) := by decide +kernel
theorem dX9_countUp_17 : decode cX9_countUp 17 = .ok (.iload_n 2, 1) := by decide +kernel
theorem dX9_countUp_18 : decode cX9_countUp 18 = .ok (.invokevirtual 48, 3) := by decide +kernel
theorem dX9_countUp_21 : decode cX9_countUp 21 = .ok (.invokestatic 52, 3) := by decide +kernel
theorem dX9_countUp_24 : decode cX9_countUp 24 = .ok (.iastore, 1) := by decide +kernel
theorem dX9_countUp_25 : decode cX9_countUp 25 = .ok (.aload_n 0, 1) := by decide +kernel
theorem dX9_countUp_26 : decode cX9_countUp 26 = .ok (.getfield 9, 3) := by decide +kernel
theorem dX9_countUp_29 : decode cX9_countUp 29 = .ok (.iload_n 2, 1) := by decide +kernel
theorem dX9_countUp_30 : decode cX9_countUp 30 = .ok (.iconst 0, 1) := by decide +kernel
theorem dX9_countUp_31 : decode cX9_countUp 31 = .ok (.iastore, 1) := by decide +kernel
theorem dX9_countUp_32 : decode cX9_countUp 32 = .ok (.iinc 2 1, 3) := by decide +kernel
theorem dX9_countUp_35 : decode cX9_countUp 35 = .ok (.goto (-33), 3) := by decide +kernel
theorem dX9_countUp_38 : decode cX9_countUp 38 = .ok (.aload_n 0, 1) := by decide +kernel
theorem dX9_countUp_39 : decode cX9_countUp 39 = .ok (.iload_n 1, 1) := by decide +kernel
theorem dX9_countUp_40 : decode cX9_countUp 40 = .ok (.putfield 22, 3) := by decide +kernel
theorem dX9_countUp_43 : decode cX9_countUp 43 = .ok (.aload_n 0, 1) := by decide +kernel
theorem dX9_countUp_44 : decode cX9_countUp 44 = .ok (.dup, 1) := by decide +kernel
theorem dX9_countUp_45 : decode cX9_countUp 45 = .ok (.getfield 25, 3) := by decide +kernel
theorem dX9_countUp_48 : decode cX9_countUp 48 = .ok (.iconst 1, 1) := by decide +kernel
theorem dX9_countUp_49 : decode cX9_countUp 49 = .ok (.iadd, 1) := by decide +kernel
theorem dX9_countUp_50 : decode cX9_countUp 50 = .ok (.putfield 25, 3) := by decide +kernel
theorem dX9_countUp_53 : decode cX9_countUp 53 = .ok (.return_, 1) := by decide +kernel
set_option maxRecDepth 20000 in
theorem ggX9_goOrCome_X9_passOn : GoodIn wsX9_goOrCome wsX9_passOn := goodIn_r _ [7, 2, 8, 9, 10, 6, 11, 1, 12, 13, 14, 15, 16] (by decide +kernel) (by decide +kernel)
set_option maxRecDepth 20000 in
theorem gX9_goOrCome_X9_passOn : GoodIn wsX9_goOrCome (wsV RX9 45 RX9 yX9_passOn wsX9_passOn) := goodIn_app (goodIn_of _ (by decide +kernel)) ggX9_goOrCome_X9_passOn
theorem dX9_goOrCome_0 : decode cX9_goOrCome 0 = .ok (.aload_n 0, 1) := by decide +kernel
theorem dX9_goOrCome_1 : decode cX9_goOrCome 1 = .ok (.dup, 1) := by decide +kernel
theorem dX9_goOrCome_2 : decode cX9_goOrCome 2 = .ok (.getfield 18, 3) := by decide +kernel
theorem dX9_goOrCome_5 : decode cX9_goOrCome 5 = .ok (.iconst 1, 1) := by decide +kernel
theorem dX9_goOrCome_6 : decode cX9_goOrCome 6 = .ok (.iload_n 1, 1) := by decide +kernel
theorem dX9_goOrCome_7 : decode cX9_goOrCome 7 = .ok (.ishl, 1) := by decide +kernel
theorem dX9_goOrCome_8 : decode cX9_goOrCome 8 = .ok (.ixor, 1) := by decide +kernel
theorem dX9_goOrCome_9 : decode cX9_goOrCome 9 = .ok (.putfield 18, 3) := by decide +kernel
theorem dX9_goOrCome_12 : decode cX9_goOrCome 12 = .ok (.iload_n 1, 1) := by decide +kernel
theorem dX9_goOrCome_13 : decode cX9_goOrCome 13 = .ok (.aload_n 0, 1) := by decide +kernel
theorem dX9_goOrCome_14 : decode cX9_goOrCome 14 = .ok (.getfield 22, 3) := by decide +kernel
theorem dX9_goOrCome_17 : decode cX9_goOrCome 17 = .ok (.if_icmp .ne 7, 3) := by decide +kernel
theorem dX9_goOrCome_20 : decode cX9_goOrCome 20 = .ok (.aload_n 0, 1) := by decide +kernel
theorem dX9_goOrCome_21 : decode cX9_goOrCome 21 = .ok (.invokevirtual 45, 3) := by decide +kernel
theorem dX9_goOrCome_24 : decode cX9_goOrCome 24 = .ok (.return_, 1) := by decide +kernel
set_option maxRecDepth 20000 in
theorem ggX9_passOn_X9_isIn : GoodIn wsX9_passOn wsX9_isIn := goodIn_r _ [6, 7, 8, 9, 10, 11, 12] (by decide +kernel) (by decide +kernel)
set_option maxRecDepth 20000 in
theorem gX9_passOn_X9_isIn : GoodIn wsX9_passOn (wsV RX9 38 RX9 yX9_isIn wsX9_isIn) := goodIn_app (goodIn_of _ (by decide +kernel)) ggX9_passOn_X9_isIn
theorem dX9_passOn_0 : decode cX9_passOn 0 = .ok (.iconst 1, 1) := by decide +kernel
theorem dX9_passOn_1 : decode cX9_passOn 1 = .ok (.istore_n 1, 1) := by decide +kernel
theorem dX9_passOn_2 : decode cX9_passOn 2 = .ok (.iload_n 1, 1) := by decide +kernel
theorem dX9_passOn_3 : decode cX9_passOn 3 = .ok (.bipush 6, 2) := by decide +kernel
theorem dX9_passOn_5 : decode cX9_passOn 5 = .ok (.if_icmp .gt 33, 3) := by decide +kernel
theorem dX9_passOn_8 : decode cX9_passOn 8 = .ok (.aload_n 0, 1) := by decide +kernel
theorem dX9_passOn_9 : decode cX9_passOn 9 = .ok (.getfield 22, 3) := by decide +kernel
theorem dX9_passOn_12 : decode cX9_passOn 12 = .ok (.iload_n 1, 1) := by decide +kernel
theorem dX9_passOn_13 : decode cX9_passOn 13 = .ok (.iadd, 1) := by decide +kernel
theorem dX9_passOn_14 : decode cX9_passOn 14 = .ok (.bipush 6, 2) := by decide +kernel
theorem dX9_passOn_16 : decode cX9_passOn 16 = .ok (.irem, 1) := by decide +kernel
theorem dX9_passOn_17 : decode cX9_passOn 17 = .ok (.istore_n 2, 1) := by decide +kernel
theorem dX9_passOn_18 : decode cX9_passOn 18 = .ok (.aload_n 0, 1) := by decide +kernel
theorem dX9_passOn_19 : decode cX9_passOn 19 = .ok (.iload_n 2, 1) := by decide +kernel
theorem dX9_passOn_20 : decode cX9_passOn 20 = .ok (.invokevirtual 38, 3) := by decide +kernel
theorem dX9_passOn_23 : decode cX9_passOn 23 = .ok (.ifCond .eq 9, 3) := by decide +kernel
theorem dX9_passOn_26 : decode cX9_passOn 26 = .ok (.aload_n 0, 1) := by decide +kernel
theorem dX9_passOn_27 : decode cX9_passOn 27 = .ok (.iload_n 2, 1) := by decide +kernel
theorem dX9_passOn_28 : decode cX9_passOn 28 = .ok (.putfield 22, 3) := by decide +kernel
theorem dX9_passOn_31 : decode cX9_passOn 31 = .ok (.return_, 1) := by decide +kernel
theorem dX9_passOn_32 : decode cX9_passOn 32 = .ok (.iinc 1 1, 3) := by decide +kernel
theorem dX9_passOn_35 : decode cX9_passOn 35 = .ok (.goto (-33), 3) := by decide +kernel
theorem dX9_passOn_38 : decode cX9_passOn 38 = .ok (.return_, 1) := by decide +kernel
set_option maxRecDepth 20000 in
theorem ggX9_wholeOnes_X9_isWhole : GoodIn wsX9_wholeOnes wsX9_isWhole := goodIn_r _ [5, 6, 7, 8, 9, 10, 11, 12] (by decide +kernel) (by decide +kernel)
set_option maxRecDepth 20000 in
theorem gX9_wholeOnes_X9_isWhole : GoodIn wsX9_wholeOnes (wsV RX9 35 RX9 yX9_isWhole wsX9_isWhole) := goodIn_app (goodIn_of _ (by decide +kernel)) ggX9_wholeOnes_X9_isWhole
theorem dX9_wholeOnes_0 : decode cX9_wholeOnes 0 = .ok (.iconst 0, 1) := by decide +kernel
theorem dX9_wholeOnes_1 : decode cX9_wholeOnes 1 = .ok (.istore_n 1, 1) := by decide +kernel
theorem dX9_wholeOnes_2 : decode cX9_wholeOnes 2 = .ok (.iconst 0, 1) := by decide +kernel
theorem dX9_wholeOnes_3 : decode cX9_wholeOnes 3 = .ok (.istore_n 2, 1) := by decide +kernel
theorem dX9_wholeOnes_4 : decode cX9_wholeOnes 4 = .ok (.iload_n 2, 1) := by decide +kernel
theorem dX9_wholeOnes_5 : decode cX9_wholeOnes 5 = .ok (.bipush 6, 2) := by decide +kernel
theorem dX9_wholeOnes_7 : decode cX9_wholeOnes 7 = .ok (.if_icmp .ge 23, 3) := by decide +kernel
theorem dX9_wholeOnes_10 : decode cX9_wholeOnes 10 = .ok (.aload_n 0, 1) := by decide +kernel
theorem dX9_wholeOnes_11 : decode cX9_wholeOnes 11 = .ok (.iload_n 2, 1) := by decide +kernel
theorem dX9_wholeOnes_12 : decode cX9_wholeOnes 12 = .ok (.invokevirtual 35, 3) := by decide +kernel
theorem dX9_wholeOnes_15 : decode cX9_wholeOnes 15 = .ok (.ifCond .eq 9, 3) := by decide +kernel
theorem dX9_wholeOnes_18 : decode cX9_wholeOnes 18 = .ok (.iload_n 1, 1) := by decide +kernel
theorem dX9_wholeOnes_19 : decode cX9_wholeOnes 19 = .ok (.iconst 1, 1) := by decide +kernel
theorem dX9_wholeOnes_20 : decode cX9_wholeOnes 20 = .ok (.iload_n 2, 1) := by decide +kernel
theorem dX9_wholeOnes_21 : decode cX9_wholeOnes 21 = .ok (.ishl, 1) := by decide +kernel
theorem dX9_wholeOnes_22 : decode cX9_wholeOnes 22 = .ok (.ior, 1) := by decide +kernel
theorem dX9_wholeOnes_23 : decode cX9_wholeOnes 23 = .ok (.istore_n 1, 1) := by decide +kernel
theorem dX9_wholeOnes_24 : decode cX9_wholeOnes 24 = .ok (.iinc 2 1, 3) := by decide +kernel
theorem dX9_wholeOnes_27 : decode cX9_wholeOnes 27 = .ok (.goto (-23), 3) := by decide +kernel
theorem dX9_wholeOnes_30 : decode cX9_wholeOnes 30 = .ok (.iload_n 1, 1) := by decide +kernel
theorem dX9_wholeOnes_31 : decode cX9_wholeOnes 31 = .ok (.ireturn, 1) := by decide +kernel
set_option maxRecDepth 20000 in
theorem ggX9_leader_X9_worth : GoodIn wsX9_leader wsX9_worth := goodIn_r _ [5, 6, 7, 8, 9, 10, 11, 12, 13, 14, 15, 16, 17, 18, 19, 20] (by decide +kernel) (by decide +kernel)
set_option maxRecDepth 20000 in
theorem gX9_leader_X9_worth : GoodIn wsX9_leader (wsV RX9 48 RX9 yX9_worth wsX9_worth) := goodIn_app (goodIn_of _ (by decide +kernel)) ggX9_leader_X9_worth
theorem dX9_leader_0 : decode cX9_leader 0 = .ok (.iconst 0, 1) := by decide +kernel
theorem dX9_leader_1 : decode cX9_leader 1 = .ok (.istore_n 1, 1) := by decide +kernel
theorem dX9_leader_2 : decode cX9_leader 2 = .ok (.iconst 1, 1) := by decide +kernel
theorem dX9_leader_3 : decode cX9_leader 3 = .ok (.istore_n 2, 1) := by decide +kernel
theorem dX9_leader_4 : decode cX9_leader 4 = .ok (.iload_n 2, 1) := by decide +kernel
theorem dX9_leader_5 : decode cX9_leader 5 = .ok (.bipush 6, 2) := by decide +kernel
theorem dX9_leader_7 : decode cX9_leader 7 = .ok (.if_icmp .ge 24, 3) := by decide +kernel
theorem dX9_leader_10 : decode cX9_leader 10 = .ok (.aload_n 0, 1) := by decide +kernel
theorem dX9_leader_11 : decode cX9_leader 11 = .ok (.iload_n 2, 1) := by decide +kernel
theorem dX9_leader_12 : decode cX9_leader 12 = .ok (.invokevirtual 48, 3) := by decide +kernel
theorem dX9_leader_15 : decode cX9_leader 15 = .ok (.aload_n 0, 1) := by decide +kernel
theorem dX9_leader_16 : decode cX9_leader 16 = .ok (.iload_n 1, 1) := by decide +kernel
theorem dX9_leader_17 : decode cX9_leader 17 = .ok (.invokevirtual 48, 3) := by decide +kernel
theorem dX9_leader_20 : decode cX9_leader 20 = .ok (.if_icmp .le 5, 3) := by decide +kernel
theorem dX9_leader_23 : decode cX9_leader 23 = .ok (.iload_n 2, 1) := by decide +kernel
theorem dX9_leader_24 : decode cX9_leader 24 = .ok (.istore_n 1, 1) := by decide +kernel
theorem dX9_leader_25 : decode cX9_leader 25 = .ok (.iinc 2 1, 3) := by decide +kernel
theorem dX9_leader_28 : decode cX9_leader 28 = .ok (.goto (-24), 3) := by decide +kernel
theorem dX9_leader_31 : decode cX9_leader 31 = .ok (.iload_n 1, 1) := by decide +kernel
theorem dX9_leader_32 : decode cX9_leader 32 = .ok (.ireturn, 1) := by decide +kernel
set_option maxRecDepth 20000 in
theorem ggX9_allParts_X0_parts : GoodIn wsX9_allParts wsX0_parts := goodIn_r _ [5, 6, 7, 4, 8, 9] (by decide +kernel) (by decide +kernel)
set_option maxRecDepth 20000 in
theorem gX9_allParts_X0_parts : GoodIn wsX9_allParts (va_wsS RX9 57 yX0_parts wsX0_parts) := goodIn_app (goodIn_of _ (by decide +kernel)) ggX9_allParts_X0_parts
theorem dX9_allParts_0 : decode cX9_allParts 0 = .ok (.iconst 0, 1) := by decide +kernel
theorem dX9_allParts_1 : decode cX9_allParts 1 = .ok (.istore_n 1, 1) := by decide +kernel
theorem dX9_allParts_2 : decode cX9_allParts 2 = .ok (.iconst 0, 1) := by decide +kernel
theorem dX9_allParts_3 : decode cX9_allParts 3 = .ok (.istore_n 2, 1) := by decide +kernel
theorem dX9_allParts_4 : decode cX9_allParts 4 = .ok (.iload_n 2, 1) := by decide +kernel
theorem dX9_allParts_5 : decode cX9_allParts 5 = .ok (.bipush 6, 2) := by decide +kernel
theorem dX9_allParts_7 : decode cX9_allParts 7 = .ok (.if_icmp .ge 21, 3) := by decide +kernel
theorem dX9_allParts_10 : decode cX9_allParts 10 = .ok (.iload_n 1, 1) := by decide +kernel
theorem dX9_allParts_11 : decode cX9_allParts 11 = .ok (.aload_n 0, 1) := by decide +kernel
theorem dX9_allParts_12 : decode cX9_allParts 12 = .ok (.getfield 9, 3) := by decide +kernel
theorem dX9_allParts_15 : decode cX9_allParts 15 = .ok (.iload_n 2, 1) := by decide +kernel
theorem dX9_allParts_16 : decode cX9_allParts 16 = .ok (.iaload, 1) := by decide +kernel
theorem dX9_allParts_17 : decode cX9_allParts 17 = .ok (.invokestatic 57, 3) := by decide +kernel
theorem dX9_allParts_20 : decode cX9_allParts 20 = .ok (.iadd, 1) := by decide +kernel
theorem dX9_allParts_21 : decode cX9_allParts 21 = .ok (.istore_n 1, 1) := by decide +kernel
theorem dX9_allParts_22 : decode cX9_allParts 22 = .ok (.iinc 2 1, 3) := by decide +kernel
theorem dX9_allParts_25 : decode cX9_allParts 25 = .ok (.goto (-21), 3) := by decide +kernel
theorem dX9_allParts_28 : decode cX9_allParts 28 = .ok (.iload_n 1, 1) := by decide +kernel
theorem dX9_allParts_29 : decode cX9_allParts 29 = .ok (.ireturn, 1) := by decide +kernel
set_option maxRecDepth 20000 in
theorem ggX9_isThrow_X11_isWithin : GoodIn wsX9_isThrow wsX11_isWithin := goodIn_r _ [3] (by decide +kernel) (by decide +kernel)
set_option maxRecDepth 20000 in
theorem gX9_isThrow_X11_isWithin_n60 : GoodIn wsX9_isThrow (wsX11_isWithin) := ggX9_isThrow_X11_isWithin
theorem dX9_isThrow_0 : decode cX9_isThrow 0 = .ok (.iload_n 0, 1) := by decide +kernel
theorem dX9_isThrow_1 : decode cX9_isThrow 1 = .ok (.bipush 49, 2) := by decide +kernel
theorem dX9_isThrow_3 : decode cX9_isThrow 3 = .ok (.bipush 54, 2) := by decide +kernel
theorem dX9_isThrow_5 : decode cX9_isThrow 5 = .ok (.invokestatic 60, 3) := by decide +kernel
theorem dX9_isThrow_8 : decode cX9_isThrow 8 = .ok (.ireturn, 1) := by decide +kernel
set_option maxRecDepth 20000 in
theorem ggX9_worth_X0_parts : GoodIn wsX9_worth wsX0_parts := goodIn_r _ [6, 7, 8, 5, 9, 10] (by decide +kernel) (by decide +kernel)
set_option maxRecDepth 20000 in
theorem gX9_worth_X0_parts : GoodIn wsX9_worth (va_wsS RX9 57 yX0_parts wsX0_parts) := goodIn_app (goodIn_of _ (by decide +kernel)) ggX9_worth_X0_parts
theorem dX9_worth_0 : decode cX9_worth 0 = .ok (.aload_n 0, 1) := by decide +kernel
theorem dX9_worth_1 : decode cX9_worth 1 = .ok (.getfield 15, 3) := by decide +kernel
theorem dX9_worth_4 : decode cX9_worth 4 = .ok (.iload_n 1, 1) := by decide +kernel
theorem dX9_worth_5 : decode cX9_worth 5 = .ok (.iaload, 1) := by decide +kernel
theorem dX9_worth_6 : decode cX9_worth 6 = .ok (.aload_n 0, 1) := by decide +kernel
theorem dX9_worth_7 : decode cX9_worth 7 = .ok (.getfield 9, 3) := by decide +kernel
theorem dX9_worth_10 : decode cX9_worth 10 = .ok (.iload_n 1, 1) := by decide +kernel
theorem dX9_worth_11 : decode cX9_worth 11 = .ok (.iaload, 1) := by decide +kernel
theorem dX9_worth_12 : decode cX9_worth 12 = .ok (.invokestatic 57, 3) := by decide +kernel
theorem dX9_worth_15 : decode cX9_worth 15 = .ok (.iadd, 1) := by decide +kernel
theorem dX9_worth_16 : decode cX9_worth 16 = .ok (.ireturn, 1) := by decide +kernel
set_option maxRecDepth 20000 in
theorem ggX10_init_X10_winningTurn : GoodIn wsX10_init wsX10_winningTurn := goodIn_r _ [10, 5, 11] (by decide +kernel) (by decide +kernel)
set_option maxRecDepth 20000 in
theorem gX10_init_X10_winningTurn : GoodIn wsX10_init (wsV RX10 15 RX10 yX10_winningTurn wsX10_winningTurn) := goodIn_app (goodIn_of _ (by decide +kernel)) ggX10_init_X10_winningTurn
theorem dX10_init_0 : decode cX10_init 0 = .ok (.aload_n 0, 1) := by decide +kernel
theorem dX10_init_1 : decode cX10_init 1 = .ok (.invokespecial 3, 3) := by decide +kernel
theorem dX10_init_4 : decode cX10_init 4 = .ok (.aload_n 0, 1) := by decide +kernel
theorem dX10_init_5 : decode cX10_init 5 = .ok (.bipush 100, 2) := by decide +kernel
theorem dX10_init_7 : decode cX10_init 7 = .ok (.newarray .int, 2) := by decide +kernel
theorem dX10_init_9 : decode cX10_init 9 = .ok (.putfield 11, 3) := by decide +kernel
theorem dX10_init_12 : decode cX10_init 12 = .ok (.iconst 0, 1) := by decide +kernel
theorem dX10_init_13 : decode cX10_init 13 = .ok (.istore_n 1, 1) := by decide +kernel
theorem dX10_init_14 : decode cX10_init 14 = .ok (.iload_n 1, 1) := by decide +kernel
theorem dX10_init_15 : decode cX10_init 15 = .ok (.bipush 99, 2) := by decide +kernel
theorem dX10_init_17 : decode cX10_init 17 = .ok (.if_icmp .gt 49, 3) := by decide +kernel
theorem dX10_init_20 : decode cX10_init 20 = .ok (.iconst 0, 1) := by decide +kernel
theorem dX10_init_21 : decode cX10_init 21 = .ok (.istore_n 2, 1) := by decide +kernel
theorem dX10_init_22 : decode cX10_init 22 = .ok (.iconst 1, 1) := by decide +kernel
theorem dX10_init_23 : decode cX10_init 23 = .ok (.istore_n 3, 1) := by decide +kernel
theorem dX10_init_24 : decode cX10_init 24 = .ok (.iload_n 3, 1) := by decide +kernel
theorem dX10_init_25 : decode cX10_init 25 = .ok (.bipush 6, 2) := by decide +kernel
theorem dX10_init_27 : decode cX10_init 27 = .ok (.if_icmp .gt 26, 3) := by decide +kernel
theorem dX10_init_30 : decode cX10_init 30 = .ok (.aload_n 0, 1) := by decide +kernel
theorem dX10_init_31 : decode cX10_init 31 = .ok (.iload_n 1, 1) := by decide +kernel
theorem dX10_init_32 : decode cX10_init 32 = .ok (.iload_n 3, 1) := by decide +kernel
theorem dX10_init_33 : decode cX10_init 33 = .ok (.invokevirtual 15, 3) := by decide +kernel
theorem dX10_init_36 : decode cX10_init 36 = .ok (.bipush (-6), 2) := by decide +kernel
theorem dX10_init_38 : decode cX10_init 38 = .ok (.if_icmp .eq 9, 3) := by decide +kernel
theorem dX10_init_41 : decode cX10_init 41 = .ok (.iload_n 2, 1) := by decide +kernel
theorem dX10_init_42 : decode cX10_init 42 = .ok (.iconst 1, 1) := by decide +kernel
theorem dX10_init_43 : decode cX10_init 43 = .ok (.iload_n 3, 1) := by decide +kernel
theorem dX10_init_44 : decode cX10_init 44 = .ok (.ishl, 1) := by decide +kernel
theorem dX10_init_45 : decode cX10_init 45 = .ok (.ior, 1) := by decide +kernel
theorem dX10_init_46 : decode cX10_init 46 = .ok (.istore_n 2, 1) := by decide +kernel
theorem dX10_init_47 : decode cX10_init 47 = .ok (.iinc 3 1, 3) := by decide +kernel
theorem dX10_init_50 : decode cX10_init 50 = .ok (.goto (-26), 3) := by decide +kernel
theorem dX10_init_53 : decode cX10_init 53 = .ok (.aload_n 0, 1) := by decide +kernel
theorem dX10_init_54 : decode cX10_init 54 = .ok (.getfield 11, 3) := by decide +kernel
theorem dX10_init_57 : decode cX10_init 57 = .ok (.iload_n 1, 1) := by decide +kernel
theorem dX10_init_58 : decode cX10_init 58 = .ok (.iload_n 2, 1) := by decide +kernel
theorem dX10_init_59 : decode cX10_init 59 = .ok (.iastore, 1) := by decide +kernel
theorem dX10_init_60 : decode cX10_init 60 = .ok (.iinc 1 1, 3) := by decide +kernel
theorem dX10_init_63 : decode cX10_init 63 = .ok (.goto (-49), 3) := by decide +kernel
theorem dX10_init_66 : decode cX10_init 66 = .ok (.return_, 1) := by decide +kernel
theorem dX10_winningTurn_0 : decode cX10_winningTurn 0 = .ok (.iconst 1, 1) := by decide +kernel
theorem dX10_winningTurn_1 : decode cX10_winningTurn 1 = .ok (.istore_n 3, 1) := by decide +kernel
theorem dX10_winningTurn_2 : decode cX10_winningTurn 2 = .ok (.iload_n 3, 1) := by decide +kernel
theorem dX10_winningTurn_3 : decode cX10_winningTurn 3 = .ok (.bipush 6, 2) := by decide +kernel
theorem dX10_winningTurn_5 : decode cX10_winningTurn 5 = .ok (.if_icmp .gt 56, 3) := by decide +kernel
theorem dX10_winningTurn_8 : decode cX10_winningTurn 8 = .ok (.iload_n 3, 1) := by decide +kernel
theorem dX10_winningTurn_9 : decode cX10_winningTurn 9 = .ok (.iload_n 1, 1) := by decide +kernel
theorem dX10_winningTurn_10 : decode cX10_winningTurn 10 = .ok (.if_icmp .gt 51, 3) := by decide +kernel
theorem dX10_winningTurn_13 : decode cX10_winningTurn 13 = .ok (.iload_n 3, 1) := by decide +kernel
theorem dX10_winningTurn_14 : decode cX10_winningTurn 14 = .ok (.iload_n 2, 1) := by decide +kernel
theorem dX10_winningTurn_15 : decode cX10_winningTurn 15 = .ok (.if_icmp .eq 15, 3) := by decide +kernel
theorem dX10_winningTurn_18 : decode cX10_winningTurn 18 = .ok (.iload_n 3, 1) := by decide +kernel
theorem dX10_winningTurn_19 : decode cX10_winningTurn 19 = .ok (.bipush 7, 2) := by decide +kernel
theorem dX10_winningTurn_21 : decode cX10_winningTurn 21 = .ok (.iload_n 2, 1) := by decide +kernel
theorem dX10_winningTurn_22 : decode cX10_winningTurn 22 = .ok (.isub, 1) := by decide +kernel
theorem dX10_winningTurn_23 : decode cX10_winningTurn 23 = .ok (.if_icmp .eq 7, 3) := by decide +kernel
theorem dX10_winningTurn_26 : decode cX10_winningTurn 26 = .ok (.iconst 1, 1) := by decide +kernel
theorem dX10_winningTurn_27 : decode cX10_winningTurn 27 = .ok (.goto 4, 3) := by decide +kernel
theorem dX10_winningTurn_30 : decode cX10_winningTurn 30 = .ok (.iconst 0, 1) := by decide +kernel
theorem dX10_winningTurn_31 : decode cX10_winningTurn 31 = .ok (.istore 4, 2) := by decide +kernel
theorem dX10_winningTurn_33 : decode cX10_winningTurn 33 = .ok (.iload 4, 2) := by decide +kernel
theorem dX10_winningTurn_35 : decode cX10_winningTurn 35 = .ok (.ifCond .eq 20, 3) := by decide +kernel
theorem dX10_winningTurn_38 : decode cX10_winningTurn 38 = .ok (.aload_n 0, 1) := by decide +kernel
theorem dX10_winningTurn_39 : decode cX10_winningTurn 39 = .ok (.getfield 11, 3) := by decide +kernel
theorem dX10_winningTurn_42 : decode cX10_winningTurn 42 = .ok (.iload_n 1, 1) := by decide +kernel
theorem dX10_winningTurn_43 : decode cX10_winningTurn 43 = .ok (.iload_n 3, 1) := by decide +kernel
theorem dX10_winningTurn_44 : decode cX10_winningTurn 44 = .ok (.isub, 1) := by decide +kernel
theorem dX10_winningTurn_45 : decode cX10_winningTurn 45 = .ok (.iaload, 1) := by decide +kernel
theorem dX10_winningTurn_46 : decode cX10_winningTurn 46 = .ok (.iconst 1, 1) := by decide +kernel
theorem dX10_winningTurn_47 : decode cX10_winningTurn 47 = .ok (.iload_n 3, 1) := by decide +kernel
theorem dX10_winningTurn_48 : decode cX10_winningTurn 48 = .ok (.ishl, 1) := by decide +kernel
theorem dX10_winningTurn_49 : decode cX10_winningTurn 49 = .ok (.iand, 1) := by decide +kernel
theorem dX10_winningTurn_50 : decode cX10_winningTurn 50 = .ok (.ifCond .ne 5, 3) := by decide +kernel
theorem dX10_winningTurn_53 : decode cX10_winningTurn 53 = .ok (.iload_n 3, 1) := by decide +kernel
theorem dX10_winningTurn_54 : decode cX10_winningTurn 54 = .ok (.ireturn, 1) := by decide +kernel
theorem dX10_winningTurn_55 : decode cX10_winningTurn 55 = .ok (.iinc 3 1, 3) := by decide +kernel
theorem dX10_winningTurn_58 : decode cX10_winningTurn 58 = .ok (.goto (-56), 3) := by decide +kernel
theorem dX10_winningTurn_61 : decode cX10_winningTurn 61 = .ok (.bipush (-6), 2) := by decide +kernel
theorem dX10_winningTurn_63 : decode cX10_winningTurn 63 = .ok (.ireturn, 1) := by decide +kernel
set_option maxRecDepth 20000 in
theorem ggX11_init_X9_init : GoodIn wsX11_init wsX9_init := goodIn_r _ [42, 43, 2, 3, 44, 45, 46, 47, 133, 134, 135, 136, 137] (by decide +kernel) (by decide +kernel)
set_option maxRecDepth 20000 in
theorem gX11_init_X9_init_n9 : GoodIn wsX11_init (wsX9_init) := ggX11_init_X9_init
set_option maxRecDepth 20000 in
theorem ggX11_init_X5_init : GoodIn wsX11_init wsX5_init := goodIn_r _ [49, 50, 2, 3, 44, 51, 148, 149] (by decide +kernel) (by decide +kernel)
set_option maxRecDepth 20000 in
theorem gX11_init_X5_init_n18 : GoodIn wsX11_init (wsX5_init) := ggX11_init_X5_init
set_option maxRecDepth 20000 in
theorem ggX11_init_X4_init : GoodIn wsX11_init wsX4_init := goodIn_r _ [53, 54, 2, 3, 55, 5, 6, 56, 41, 42, 43, 44, 45, 46, 47, 133, 134, 135, 136, 137, 150, 151, 152, 153, 154, 155] (by decide +kernel) (by decide +kernel)
set_option maxRecDepth 20000 in
theorem gX11_init_X4_init_n25 : GoodIn wsX11_init (wsX4_init) := ggX11_init_X4_init
set_option maxRecDepth 20000 in
theorem ggX11_init_X6_init : GoodIn wsX11_init wsX6_init := goodIn_r _ [59, 60, 2, 3, 44, 61, 62, 63, 64, 65, 66, 67, 68, 18, 69, 70, 71, 72, 73, 74, 75, 76, 77, 78, 79, 80, 81, 82, 83, 84, 85, 86, 87, 88, 89, 90, 91, 92, 93, 94, 95, 96, 97, 98, 99, 100, 101, 102, 156, 157, 158, 159] (by decide +kernel) (by decide +kernel)
set_option maxRecDepth 20000 in
theorem gX11_init_X6_init : GoodIn wsX11_init (wsX6_init) := ggX11_init_X6_init
set_option maxRecDepth 20000 in
theorem ggX11_init_X8_init : GoodIn wsX11_init wsX8_init := goodIn_r _ [104, 105, 2, 3, 64, 106, 160] (by decide +kernel) (by decide +kernel)
set_option maxRecDepth 20000 in
theorem gX11_init_X8_init_n39 : GoodIn wsX11_init (wsX8_init) := ggX11_init_X8_init
set_option maxRecDepth 20000 in
theorem ggX11_init_X7_init : GoodIn wsX11_init wsX7_init := goodIn_r _ [108, 109, 2, 3, 44, 110, 111, 161, 162, 163] (by decide +kernel) (by decide +kernel)
set_option maxRecDepth 20000 in
theorem gX11_init_X7_init_n46 : GoodIn wsX11_init (wsX7_init) := ggX11_init_X7_init
set_option maxRecDepth 20000 in
theorem ggX11_init_X2_init : GoodIn wsX11_init wsX2_init := goodIn_r _ [113, 114, 2, 3, 44, 115, 116, 164, 165, 166] (by decide +kernel) (by decide +kernel)
set_option maxRecDepth 20000 in
theorem gX11_init_X2_init_n53 : GoodIn wsX11_init (wsX2_init) := ggX11_init_X2_init
set_option maxRecDepth 20000 in
theorem ggX11_init_X10_init : GoodIn wsX11_init wsX10_init := goodIn_r _ [119, 120, 2, 3, 44, 121, 122, 123, 124, 34, 125, 167] (by decide +kernel) (by decide +kernel)
set_option maxRecDepth 20000 in
theorem gX11_init_X10_init : GoodIn wsX11_init (wsX10_init) := ggX11_init_X10_init
set_option maxRecDepth 20000 in
theorem ggX11_init_X3_init : GoodIn wsX11_init wsX3_init := goodIn_r _ [127, 128, 2, 3, 129, 5, 6, 130, 131, 25, 26, 132, 41, 42, 43, 44, 45, 46, 47, 107, 108, 109, 110, 111, 133, 134, 135, 136, 137, 168, 169, 170, 161, 162, 163] (by decide +kernel) (by decide +kernel)
set_option maxRecDepth 20000 in
theorem gX11_init_X3_init_n67 : GoodIn wsX11_init (wsX3_init) := ggX11_init_X3_init
theorem dX11_init_0 : decode cX11_init 0 = .ok (.aload_n 0, 1) := by decide +kernel
theorem dX11_init_1 : decode cX11_init 1 = .ok (.invokespecial 1, 3) := by decide +kernel
theorem dX11_init_4 : decode cX11_init 4 = .ok (.aload_n 0, 1) := by decide +kernel
theorem dX11_init_5 : decode cX11_init 5 = .ok (.new 7, 3) := by decide +kernel
theorem dX11_init_8 : decode cX11_init 8 = .ok (.dup, 1) := by decide +kernel
theorem dX11_init_9 : decode cX11_init 9 = .ok (.invokespecial 9, 3) := by decide +kernel
theorem dX11_init_12 : decode cX11_init 12 = .ok (.putfield 10, 3) := by decide +kernel
theorem dX11_init_15 : decode cX11_init 15 = .ok (.aload_n 0, 1) := by decide +kernel
theorem dX11_init_16 : decode cX11_init 16 = .ok (.new 16, 3) := by decide +kernel
theorem dX11_init_19 : decode cX11_init 19 = .ok (.dup, 1) := by decide +kernel
theorem dX11_init_20 : decode cX11_init 20 = .ok (.invokespecial 18, 3) := by decide +kernel
theorem dX11_init_23 : decode cX11_init 23 = .ok (.putfield 19, 3) := by decide +kernel
theorem dX11_init_26 : decode cX11_init 26 = .ok (.aload_n 0, 1) := by decide +kernel
theorem dX11_init_27 : decode cX11_init 27 = .ok (.new 23, 3) := by decide +kernel
theorem dX11_init_30 : decode cX11_init 30 = .ok (.dup, 1) := by decide +kernel
theorem dX11_init_31 : decode cX11_init 31 = .ok (.invokespecial 25, 3) := by decide +kernel
theorem dX11_init_34 : decode cX11_init 34 = .ok (.putfield 26, 3) := by decide +kernel
theorem dX11_init_37 : decode cX11_init 37 = .ok (.aload_n 0, 1) := by decide +kernel
theorem dX11_init_38 : decode cX11_init 38 = .ok (.new 30, 3) := by decide +kernel
theorem dX11_init_41 : decode cX11_init 41 = .ok (.dup, 1) := by decide +kernel
theorem dX11_init_42 : decode cX11_init 42 = .ok (.invokespecial 32, 3) := by decide +kernel
theorem dX11_init_45 : decode cX11_init 45 = .ok (.putfield 33, 3) := by decide +kernel
theorem dX11_init_48 : decode cX11_init 48 = .ok (.aload_n 0, 1) := by decide +kernel
theorem dX11_init_49 : decode cX11_init 49 = .ok (.new 37, 3) := by decide +kernel
theorem dX11_init_52 : decode cX11_init 52 = .ok (.dup, 1) := by decide +kernel
theorem dX11_init_53 : decode cX11_init 53 = .ok (.invokespecial 39, 3) := by decide +kernel
theorem dX11_init_56 : decode cX11_init 56 = .ok (.putfield 40, 3) := by decide +kernel
theorem dX11_init_59 : decode cX11_init 59 = .ok (.aload_n 0, 1) := by decide +kernel
theorem dX11_init_60 : decode cX11_init 60 = .ok (.new 44, 3) := by decide +kernel
theorem dX11_init_63 : decode cX11_init 63 = .ok (.dup, 1) := by decide +kernel
theorem dX11_init_64 : decode cX11_init 64 = .ok (.invokespecial 46, 3) := by decide +kernel
theorem dX11_init_67 : decode cX11_init 67 = .ok (.putfield 47, 3) := by decide +kernel
theorem dX11_init_70 : decode cX11_init 70 = .ok (.aload_n 0, 1) := by decide +kernel
theorem dX11_init_71 : decode cX11_init 71 = .ok (.new 51, 3) := by decide +kernel
theorem dX11_init_74 : decode cX11_init 74 = .ok (.dup, 1) := by decide +kernel
theorem dX11_init_75 : decode cX11_init 75 = .ok (.invokespecial 53, 3) := by decide +kernel
theorem dX11_init_78 : decode cX11_init 78 = .ok (.putfield 54, 3) := by decide +kernel
theorem dX11_init_81 : decode cX11_init 81 = .ok (.aload_n 0, 1) := by decide +kernel
theorem dX11_init_82 : decode cX11_init 82 = .ok (.new 58, 3) := by decide +kernel
theorem dX11_init_85 : decode cX11_init 85 = .ok (.dup, 1) := by decide +kernel
theorem dX11_init_86 : decode cX11_init 86 = .ok (.invokespecial 60, 3) := by decide +kernel
theorem dX11_init_89 : decode cX11_init 89 = .ok (.putfield 61, 3) := by decide +kernel
theorem dX11_init_92 : decode cX11_init 92 = .ok (.aload_n 0, 1) := by decide +kernel
theorem dX11_init_93 : decode cX11_init 93 = .ok (.new 65, 3) := by decide +kernel
theorem dX11_init_96 : decode cX11_init 96 = .ok (.dup, 1) := by decide +kernel
theorem dX11_init_97 : decode cX11_init 97 = .ok (.invokespecial 67, 3) := by decide +kernel
theorem dX11_init_100 : decode cX11_init 100 = .ok (.putfield 68, 3) := by decide +kernel
theorem dX11_init_103 : decode cX11_init 103 = .ok (.aload_n 0, 1) := by decide +kernel
theorem dX11_init_104 : decode cX11_init 104 = .ok (.new 65, 3) := by decide +kernel
theorem dX11_init_107 : decode cX11_init 107 = .ok (.dup, 1) := by decide +kernel
theorem dX11_init_108 : decode cX11_init 108 = .ok (.invokespecial 67, 3) := by decide +kernel
theorem dX11_init_111 : decode cX11_init 111 = .ok (.putfield 72, 3) := by decide +kernel
theorem dX11_init_114 : decode cX11_init 114 = .ok (.return_, 1) := by decide +kernel
set_option maxRecDepth 20000 in
theorem ggX11_player_X11_isPlayer : GoodIn wsX11_player wsX11_isPlayer := goodIn_r _ [5, 6, 7, 4, 8] (by decide +kernel) (by decide +kernel)
set_option maxRecDepth 20000 in
theorem gX11_player_X11_isPlayer : GoodIn wsX11_player (va_wsS RX11 75 yX11_isPlayer wsX11_isPlayer) := goodIn_app (goodIn_of _ (by decide +kernel)) ggX11_player_X11_isPlayer
set_option maxRecDepth 20000 in
theorem ggX11_player_X0_canBe : GoodIn wsX11_player wsX0_canBe := goodIn_r _ [12, 13, 14, 7, 4, 8, 15, 16, 11, 17, 18, 19, 20, 21, 22] (by decide +kernel) (by decide +kernel)
set_option maxRecDepth 20000 in
theorem gX11_player_X0_canBe : GoodIn wsX11_player (va_wsS RX11 79 yX0_canBe wsX0_canBe) := goodIn_app (goodIn_of _ (by decide +kernel)) ggX11_player_X0_canBe
set_option maxRecDepth 20000 in
theorem ggX11_player_X11_isWithin : GoodIn wsX11_player wsX11_isWithin := goodIn_r _ [8] (by decide +kernel) (by decide +kernel)
set_option maxRecDepth 20000 in
theorem gX11_player_X11_isWithin : GoodIn wsX11_player (va_wsS RX11 84 yX11_isWithin wsX11_isWithin) := goodIn_app (goodIn_of _ (by decide +kernel)) ggX11_player_X11_isWithin
theorem dX11_player_0 : decode cX11_player 0 = .ok (.iload_n 1, 1) := by decide +kernel
theorem dX11_player_1 : decode cX11_player 1 = .ok (.invokestatic 75, 3) := by decide +kernel
theorem dX11_player_4 : decode cX11_player 4 = .ok (.ifCond .ne 5, 3) := by decide +kernel
theorem dX11_player_7 : decode cX11_player 7 = .ok (.iconst (-1), 1) := by decide +kernel
theorem dX11_player_8 : decode cX11_player 8 = .ok (.ireturn, 1) := by decide +kernel
theorem dX11_player_9 : decode cX11_player 9 = .ok (.iload_n 2, 1) := by decide +kernel
theorem dX11_player_10 : decode cX11_player 10 = .ok (.invokestatic 79, 3) := by decide +kernel
theorem dX11_player_13 : decode cX11_player 13 = .ok (.ifCond .eq 14, 3) := by decide +kernel
theorem dX11_player_16 : decode cX11_player 16 = .ok (.iload_n 3, 1) := by decide +kernel
theorem dX11_player_17 : decode cX11_player 17 = .ok (.iconst 0, 1) := by decide +kernel
theorem dX11_player_18 : decode cX11_player 18 = .ok (.sipush 999, 3) := by decide +kernel
theorem dX11_player_21 : decode cX11_player 21 = .ok (.invokestatic 84, 3) := by decide +kernel
theorem dX11_player_24 : decode cX11_player 24 = .ok (.ifCond .ne 6, 3) := by decide +kernel
theorem dX11_player_27 : decode cX11_player 27 = .ok (.bipush (-2), 2) := by decide +kernel
theorem dX11_player_29 : decode cX11_player 29 = .ok (.ireturn, 1) := by decide +kernel
theorem dX11_player_30 : decode cX11_player 30 = .ok (.aload_n 0, 1) := by decide +kernel
theorem dX11_player_31 : decode cX11_player 31 = .ok (.getfield 10, 3) := by decide +kernel
theorem dX11_player_34 : decode cX11_player 34 = .ok (.getfield 88, 3) := by decide +kernel
theorem dX11_player_37 : decode cX11_player 37 = .ok (.iload_n 1, 1) := by decide +kernel
theorem dX11_player_38 : decode cX11_player 38 = .ok (.iaload, 1) := by decide +kernel
theorem dX11_player_39 : decode cX11_player 39 = .ok (.istore 4, 2) := by decide +kernel
theorem dX11_player_41 : decode cX11_player 41 = .ok (.aload_n 0, 1) := by decide +kernel
theorem dX11_player_42 : decode cX11_player 42 = .ok (.getfield 10, 3) := by decide +kernel
theorem dX11_player_45 : decode cX11_player 45 = .ok (.getfield 92, 3) := by decide +kernel
theorem dX11_player_48 : decode cX11_player 48 = .ok (.iload_n 1, 1) := by decide +kernel
theorem dX11_player_49 : decode cX11_player 49 = .ok (.iload_n 2, 1) := by decide +kernel
theorem dX11_player_50 : decode cX11_player 50 = .ok (.iastore, 1) := by decide +kernel
theorem dX11_player_51 : decode cX11_player 51 = .ok (.aload_n 0, 1) := by decide +kernel
theorem dX11_player_52 : decode cX11_player 52 = .ok (.getfield 10, 3) := by decide +kernel
theorem dX11_player_55 : decode cX11_player 55 = .ok (.getfield 88, 3) := by decide +kernel
theorem dX11_player_58 : decode cX11_player 58 = .ok (.iload_n 1, 1) := by decide +kernel
theorem dX11_player_59 : decode cX11_player 59 = .ok (.iload_n 3, 1) := by decide +kernel
theorem dX11_player_60 : decode cX11_player 60 = .ok (.iastore, 1) := by decide +kernel
theorem dX11_player_61 : decode cX11_player 61 = .ok (.iload 4, 2) := by decide +kernel
theorem dX11_player_63 : decode cX11_player 63 = .ok (.ireturn, 1) := by decide +kernel
set_option maxRecDepth 20000 in
theorem ggX11_die_X11_isPlayer : GoodIn wsX11_die wsX11_isPlayer := goodIn_r _ [5, 6, 7, 4, 8] (by decide +kernel) (by decide +kernel)
set_option maxRecDepth 20000 in
theorem gX11_die_X11_isPlayer : GoodIn wsX11_die (va_wsS RX11 75 yX11_isPlayer wsX11_isPlayer) := goodIn_app (goodIn_of _ (by decide +kernel)) ggX11_die_X11_isPlayer
set_option maxRecDepth 20000 in
theorem ggX11_die_X9_isIn : GoodIn wsX11_die wsX9_isIn := goodIn_r _ [13, 14, 25, 26, 27, 28, 29] (by decide +kernel) (by decide +kernel)
set_option maxRecDepth 20000 in
theorem gX11_die_X9_isIn : GoodIn wsX11_die (wsV RX11 95 RX9 yX9_isIn wsX9_isIn) := goodIn_app (goodIn_of _ (by decide +kernel)) ggX11_die_X9_isIn
theorem dX11_die_0 : decode cX11_die 0 = .ok (.iload_n 1, 1) := by decide +kernel
theorem dX11_die_1 : decode cX11_die 1 = .ok (.invokestatic 75, 3) := by decide +kernel
theorem dX11_die_4 : decode cX11_die 4 = .ok (.ifCond .ne 5, 3) := by decide +kernel
theorem dX11_die_7 : decode cX11_die 7 = .ok (.iconst (-1), 1) := by decide +kernel
theorem dX11_die_8 : decode cX11_die 8 = .ok (.ireturn, 1) := by decide +kernel
theorem dX11_die_9 : decode cX11_die 9 = .ok (.aload_n 0, 1) := by decide +kernel
theorem dX11_die_10 : decode cX11_die 10 = .ok (.getfield 10, 3) := by decide +kernel
theorem dX11_die_13 : decode cX11_die 13 = .ok (.iload_n 1, 1) := by decide +kernel
theorem dX11_die_14 : decode cX11_die 14 = .ok (.invokevirtual 95, 3) := by decide +kernel
theorem dX11_die_17 : decode cX11_die 17 = .ok (.ifCond .ne 6, 3) := by decide +kernel
theorem dX11_die_20 : decode cX11_die 20 = .ok (.bipush (-3), 2) := by decide +kernel
theorem dX11_die_22 : decode cX11_die 22 = .ok (.ireturn, 1) := by decide +kernel
theorem dX11_die_23 : decode cX11_die 23 = .ok (.aload_n 0, 1) := by decide +kernel
theorem dX11_die_24 : decode cX11_die 24 = .ok (.getfield 10, 3) := by decide +kernel
theorem dX11_die_27 : decode cX11_die 27 = .ok (.getfield 98, 3) := by decide +kernel
theorem dX11_die_30 : decode cX11_die 30 = .ok (.istore_n 2, 1) := by decide +kernel
theorem dX11_die_31 : decode cX11_die 31 = .ok (.aload_n 0, 1) := by decide +kernel
theorem dX11_die_32 : decode cX11_die 32 = .ok (.getfield 10, 3) := by decide +kernel
theorem dX11_die_35 : decode cX11_die 35 = .ok (.iload_n 1, 1) := by decide +kernel
theorem dX11_die_36 : decode cX11_die 36 = .ok (.putfield 98, 3) := by decide +kernel
theorem dX11_die_39 : decode cX11_die 39 = .ok (.iload_n 2, 1) := by decide +kernel
theorem dX11_die_40 : decode cX11_die 40 = .ok (.ireturn, 1) := by decide +kernel
set_option maxRecDepth 20000 in
theorem ggX11_say_X11_isWithin : GoodIn wsX11_say wsX11_isWithin := goodIn_r _ [5] (by decide +kernel) (by decide +kernel)
set_option maxRecDepth 20000 in
theorem gX11_say_X11_isWithin : GoodIn wsX11_say (va_wsS RX11 84 yX11_isWithin wsX11_isWithin) := goodIn_app (goodIn_of _ (by decide +kernel)) ggX11_say_X11_isWithin
set_option maxRecDepth 20000 in
theorem ggX11_say_X5_add : GoodIn wsX11_say wsX5_add := goodIn_r _ [10, 11, 12, 23, 24] (by decide +kernel) (by decide +kernel)
set_option maxRecDepth 20000 in
theorem gX11_say_X5_add : GoodIn wsX11_say (wsV RX11 102 RX5 yX5_add wsX5_add) := goodIn_app (goodIn_of _ (by decide +kernel)) ggX11_say_X5_add
theorem dX11_say_0 : decode cX11_say 0 = .ok (.iload_n 1, 1) := by decide +kernel
theorem dX11_say_1 : decode cX11_say 1 = .ok (.bipush 33, 2) := by decide +kernel
theorem dX11_say_3 : decode cX11_say 3 = .ok (.bipush 126, 2) := by decide +kernel
theorem dX11_say_5 : decode cX11_say 5 = .ok (.invokestatic 84, 3) := by decide +kernel
theorem dX11_say_8 : decode cX11_say 8 = .ok (.ifCond .ne 6, 3) := by decide +kernel
theorem dX11_say_11 : decode cX11_say 11 = .ok (.bipush (-2), 2) := by decide +kernel
theorem dX11_say_13 : decode cX11_say 13 = .ok (.ireturn, 1) := by decide +kernel
theorem dX11_say_14 : decode cX11_say 14 = .ok (.aload_n 0, 1) := by decide +kernel
theorem dX11_say_15 : decode cX11_say 15 = .ok (.getfield 19, 3) := by decide +kernel
theorem dX11_say_18 : decode cX11_say 18 = .ok (.iload_n 1, 1) := by decide +kernel
theorem dX11_say_19 : decode cX11_say 19 = .ok (.invokevirtual 102, 3) := by decide +kernel
theorem dX11_say_22 : decode cX11_say 22 = .ok (.ifCond .eq 13, 3) := by decide +kernel
theorem dX11_say_25 : decode cX11_say 25 = .ok (.aload_n 0, 1) := by decide +kernel
theorem dX11_say_26 : decode cX11_say 26 = .ok (.getfield 19, 3) := by decide +kernel
theorem dX11_say_29 : decode cX11_say 29 = .ok (.getfield 105, 3) := by decide +kernel
theorem dX11_say_32 : decode cX11_say 32 = .ok (.goto 5, 3) := by decide +kernel
theorem dX11_say_35 : decode cX11_say 35 = .ok (.bipush (-4), 2) := by decide +kernel
theorem dX11_say_37 : decode cX11_say 37 = .ok (.ireturn, 1) := by decide +kernel
set_option maxRecDepth 20000 in
theorem ggX11_wipe_X5_clear : GoodIn wsX11_wipe wsX5_clear := goodIn_r _ [6, 7, 18, 19] (by decide +kernel) (by decide +kernel)
set_option maxRecDepth 20000 in
theorem gX11_wipe_X5_clear : GoodIn wsX11_wipe (wsV RX11 108 RX5 yX5_clear wsX5_clear) := goodIn_app (goodIn_of _ (by decide +kernel)) ggX11_wipe_X5_clear
theorem dX11_wipe_0 : decode cX11_wipe 0 = .ok (.aload_n 0, 1) := by decide +kernel
theorem dX11_wipe_1 : decode cX11_wipe 1 = .ok (.getfield 19, 3) := by decide +kernel
theorem dX11_wipe_4 : decode cX11_wipe 4 = .ok (.invokevirtual 108, 3) := by decide +kernel
theorem dX11_wipe_7 : decode cX11_wipe 7 = .ok (.ireturn, 1) := by decide +kernel
set_option maxRecDepth 20000 in
theorem ggX11_fault_X5_firstFault : GoodIn wsX11_fault wsX5_firstFault := goodIn_r _ [6, 7, 8, 9, 10, 5, 11, 12, 13, 14, 15, 16, 17, 18, 19, 20, 21, 32, 33] (by decide +kernel) (by decide +kernel)
set_option maxRecDepth 20000 in
theorem gX11_fault_X5_firstFault : GoodIn wsX11_fault (wsV RX11 112 RX5 yX5_firstFault wsX5_firstFault) := goodIn_app (goodIn_of _ (by decide +kernel)) ggX11_fault_X5_firstFault
theorem dX11_fault_0 : decode cX11_fault 0 = .ok (.aload_n 0, 1) := by decide +kernel
theorem dX11_fault_1 : decode cX11_fault 1 = .ok (.getfield 19, 3) := by decide +kernel
theorem dX11_fault_4 : decode cX11_fault 4 = .ok (.invokevirtual 112, 3) := by decide +kernel
theorem dX11_fault_7 : decode cX11_fault 7 = .ok (.ireturn, 1) := by decide +kernel
set_option maxRecDepth 20000 in
theorem ggX11_judge_X11_isWithin : GoodIn wsX11_judge wsX11_isWithin := goodIn_r _ [7] (by decide +kernel) (by decide +kernel)
set_option maxRecDepth 20000 in
theorem gX11_judge_X11_isWithin : GoodIn wsX11_judge (va_wsS RX11 84 yX11_isWithin wsX11_isWithin) := goodIn_app (goodIn_of _ (by decide +kernel)) ggX11_judge_X11_isWithin
set_option maxRecDepth 20000 in
theorem ggX11_judge_X4_playText : GoodIn wsX11_judge wsX4_playText := goodIn_r _ [12, 13, 14, 15, 16, 11, 17, 18, 19, 20, 21, 22, 23, 24, 25, 26, 27, 28, 29, 30, 31, 32, 33, 34, 35, 36, 37, 38, 39, 40, 41, 42, 43, 44, 45, 5, 6, 7, 46, 47, 48, 49, 50, 51, 52, 53, 54, 55, 56, 57, 58, 59, 60, 61, 62, 63, 64, 65, 66, 67, 68, 69, 70, 71, 72, 73, 74, 75, 76, 77, 78, 79, 80, 81, 82, 83, 84, 85, 86, 87, 88, 89, 90, 91, 92, 93, 94, 95, 96, 97, 98, 99, 100, 101, 102, 103, 104, 105, 106, 107, 108, 109, 110, 111, 112, 113, 130, 131, 124, 125, 126, 127, 128, 129, 132, 133, 134, 135, 136] (by decide +kernel) (by decide +kernel)
set_option maxRecDepth 20000 in
theorem gX11_judge_X4_playText : GoodIn wsX11_judge (wsV RX11 115 RX4 yX4_playText wsX4_playText) := goodIn_app (goodIn_of _ (by decide +kernel)) ggX11_judge_X4_playText
theorem dX11_judge_0 : decode cX11_judge 0 = .ok (.iload_n 1, 1) := by decide +kernel
theorem dX11_judge_1 : decode cX11_judge 1 = .ok (.iconst 0, 1) := by decide +kernel
theorem dX11_judge_2 : decode cX11_judge 2 = .ok (.iconst 2, 1) := by decide +kernel
theorem dX11_judge_3 : decode cX11_judge 3 = .ok (.invokestatic 84, 3) := by decide +kernel
theorem dX11_judge_6 : decode cX11_judge 6 = .ok (.ifCond .ne 6, 3) := by decide +kernel
theorem dX11_judge_9 : decode cX11_judge 9 = .ok (.bipush (-2), 2) := by decide +kernel
theorem dX11_judge_11 : decode cX11_judge 11 = .ok (.ireturn, 1) := by decide +kernel
theorem dX11_judge_12 : decode cX11_judge 12 = .ok (.aload_n 0, 1) := by decide +kernel
theorem dX11_judge_13 : decode cX11_judge 13 = .ok (.getfield 26, 3) := by decide +kernel
theorem dX11_judge_16 : decode cX11_judge 16 = .ok (.aload_n 0, 1) := by decide +kernel
theorem dX11_judge_17 : decode cX11_judge 17 = .ok (.getfield 19, 3) := by decide +kernel
theorem dX11_judge_20 : decode cX11_judge 20 = .ok (.aload_n 0, 1) := by decide +kernel
theorem dX11_judge_21 : decode cX11_judge 21 = .ok (.getfield 10, 3) := by decide +kernel
theorem dX11_judge_24 : decode cX11_judge 24 = .ok (.invokevirtual 115, 3) := by decide +kernel
theorem dX11_judge_27 : decode cX11_judge 27 = .ok (.istore_n 2, 1) := by decide +kernel
theorem dX11_judge_28 : decode cX11_judge 28 = .ok (.iload_n 2, 1) := by decide +kernel
theorem dX11_judge_29 : decode cX11_judge 29 = .ok (.bipush (-5), 2) := by decide +kernel
theorem dX11_judge_31 : decode cX11_judge 31 = .ok (.if_icmp .ne 6, 3) := by decide +kernel
theorem dX11_judge_34 : decode cX11_judge 34 = .ok (.bipush (-5), 2) := by decide +kernel
theorem dX11_judge_36 : decode cX11_judge 36 = .ok (.ireturn, 1) := by decide +kernel
theorem dX11_judge_37 : decode cX11_judge 37 = .ok (.iload_n 1, 1) := by decide +kernel
theorem dX11_judge_38 : decode cX11_judge 38 = .ok (.iconst 2, 1) := by decide +kernel
theorem dX11_judge_39 : decode cX11_judge 39 = .ok (.if_icmp .ne 19, 3) := by decide +kernel
theorem dX11_judge_42 : decode cX11_judge 42 = .ok (.iload_n 2, 1) := by decide +kernel
theorem dX11_judge_43 : decode cX11_judge 43 = .ok (.ifCond .ne 13, 3) := by decide +kernel
theorem dX11_judge_46 : decode cX11_judge 46 = .ok (.aload_n 0, 1) := by decide +kernel
theorem dX11_judge_47 : decode cX11_judge 47 = .ok (.getfield 26, 3) := by decide +kernel
theorem dX11_judge_50 : decode cX11_judge 50 = .ok (.getfield 119, 3) := by decide +kernel
theorem dX11_judge_53 : decode cX11_judge 53 = .ok (.goto 4, 3) := by decide +kernel
theorem dX11_judge_56 : decode cX11_judge 56 = .ok (.iload_n 2, 1) := by decide +kernel
theorem dX11_judge_57 : decode cX11_judge 57 = .ok (.ireturn, 1) := by decide +kernel
theorem dX11_judge_58 : decode cX11_judge 58 = .ok (.iload_n 2, 1) := by decide +kernel
theorem dX11_judge_59 : decode cX11_judge 59 = .ok (.ifCond .ne 6, 3) := by decide +kernel
theorem dX11_judge_62 : decode cX11_judge 62 = .ok (.bipush (-6), 2) := by decide +kernel
theorem dX11_judge_64 : decode cX11_judge 64 = .ok (.ireturn, 1) := by decide +kernel
theorem dX11_judge_65 : decode cX11_judge 65 = .ok (.iload_n 1, 1) := by decide +kernel
theorem dX11_judge_66 : decode cX11_judge 66 = .ok (.ifCond .ne 13, 3) := by decide +kernel
theorem dX11_judge_69 : decode cX11_judge 69 = .ok (.aload_n 0, 1) := by decide +kernel
theorem dX11_judge_70 : decode cX11_judge 70 = .ok (.getfield 26, 3) := by decide +kernel
theorem dX11_judge_73 : decode cX11_judge 73 = .ok (.getfield 122, 3) := by decide +kernel
theorem dX11_judge_76 : decode cX11_judge 76 = .ok (.goto 10, 3) := by decide +kernel
theorem dX11_judge_79 : decode cX11_judge 79 = .ok (.aload_n 0, 1) := by decide +kernel
theorem dX11_judge_80 : decode cX11_judge 80 = .ok (.getfield 26, 3) := by decide +kernel
theorem dX11_judge_83 : decode cX11_judge 83 = .ok (.getfield 125, 3) := by decide +kernel
theorem dX11_judge_86 : decode cX11_judge 86 = .ok (.ireturn, 1) := by decide +kernel
set_option maxRecDepth 20000 in
theorem ggX11_behind_X11_isPlayer : GoodIn wsX11_behind wsX11_isPlayer := goodIn_r _ [7, 8, 9, 6, 10] (by decide +kernel) (by decide +kernel)
set_option maxRecDepth 20000 in
theorem gX11_behind_X11_isPlayer : GoodIn wsX11_behind (va_wsS RX11 75 yX11_isPlayer wsX11_isPlayer) := goodIn_app (goodIn_of _ (by decide +kernel)) ggX11_behind_X11_isPlayer
set_option maxRecDepth 20000 in
theorem ggX11_behind_X11_isWithin : GoodIn wsX11_behind wsX11_isWithin := goodIn_r _ [10] (by decide +kernel) (by decide +kernel)
set_option maxRecDepth 20000 in
theorem gX11_behind_X11_isWithin : GoodIn wsX11_behind (va_wsS RX11 84 yX11_isWithin wsX11_isWithin) := goodIn_app (goodIn_of _ (by decide +kernel)) ggX11_behind_X11_isWithin
set_option maxRecDepth 20000 in
theorem ggX11_behind_X4_playText : GoodIn wsX11_behind wsX4_playText := goodIn_r _ [15, 16, 17, 18, 19, 14, 20, 21, 22, 23, 24, 25, 26, 27, 28, 29, 30, 31, 32, 33, 34, 35, 36, 37, 38, 39, 40, 41, 42, 43, 44, 45, 46, 47, 48, 9, 6, 10, 49, 50, 51, 52, 53, 54, 55, 56, 57, 58, 59, 60, 61, 62, 63, 64, 65, 66, 67, 68, 69, 70, 71, 72, 73, 74, 75, 76, 77, 78, 79, 80, 81, 82, 83, 84, 85, 86, 87, 88, 89, 90, 91, 92, 93, 94, 95, 96, 97, 98, 99, 100, 101, 102, 103, 104, 105, 106, 107, 108, 109, 110, 111, 112, 113, 114, 115, 116, 140, 141, 129, 130, 131, 132, 133, 134, 135, 136, 137, 138, 139] (by decide +kernel) (by decide +kernel)
set_option maxRecDepth 20000 in
theorem gX11_behind_X4_playText : GoodIn wsX11_behind (wsV RX11 115 RX4 yX4_playText wsX4_playText) := goodIn_app (goodIn_of _ (by decide +kernel)) ggX11_behind_X4_playText
set_option maxRecDepth 20000 in
theorem ggX11_behind_X0_parts : GoodIn wsX11_behind wsX0_parts := goodIn_r _ [86, 87, 88, 85, 89, 90] (by decide +kernel) (by decide +kernel)
set_option maxRecDepth 20000 in
theorem gX11_behind_X0_parts : GoodIn wsX11_behind (va_wsS RX11 131 yX0_parts wsX0_parts) := goodIn_app (goodIn_of _ (by decide +kernel)) ggX11_behind_X0_parts
set_option maxRecDepth 20000 in
theorem ggX11_behind_X9_isIn : GoodIn wsX11_behind wsX9_isIn := goodIn_r _ [70, 33, 135, 136, 137, 138, 139] (by decide +kernel) (by decide +kernel)
set_option maxRecDepth 20000 in
theorem gX11_behind_X9_isIn : GoodIn wsX11_behind (wsV RX11 95 RX9 yX9_isIn wsX9_isIn) := goodIn_app (goodIn_of _ (by decide +kernel)) ggX11_behind_X9_isIn
theorem dX11_behind_0 : decode cX11_behind 0 = .ok (.iload_n 1, 1) := by decide +kernel
theorem dX11_behind_1 : decode cX11_behind 1 = .ok (.invokestatic 75, 3) := by decide +kernel
theorem dX11_behind_4 : decode cX11_behind 4 = .ok (.ifCond .ne 5, 3) := by decide +kernel
theorem dX11_behind_7 : decode cX11_behind 7 = .ok (.iconst (-1), 1) := by decide +kernel
theorem dX11_behind_8 : decode cX11_behind 8 = .ok (.ireturn, 1) := by decide +kernel
theorem dX11_behind_9 : decode cX11_behind 9 = .ok (.iload_n 2, 1) := by decide +kernel
theorem dX11_behind_10 : decode cX11_behind 10 = .ok (.iconst 0, 1) := by decide +kernel
theorem dX11_behind_11 : decode cX11_behind 11 = .ok (.iconst 3, 1) := by decide +kernel
theorem dX11_behind_12 : decode cX11_behind 12 = .ok (.invokestatic 84, 3) := by decide +kernel
theorem dX11_behind_15 : decode cX11_behind 15 = .ok (.ifCond .ne 6, 3) := by decide +kernel
theorem dX11_behind_18 : decode cX11_behind 18 = .ok (.bipush (-2), 2) := by decide +kernel
theorem dX11_behind_20 : decode cX11_behind 20 = .ok (.ireturn, 1) := by decide +kernel
theorem dX11_behind_21 : decode cX11_behind 21 = .ok (.aload_n 0, 1) := by decide +kernel
theorem dX11_behind_22 : decode cX11_behind 22 = .ok (.getfield 26, 3) := by decide +kernel
theorem dX11_behind_25 : decode cX11_behind 25 = .ok (.aload_n 0, 1) := by decide +kernel
theorem dX11_behind_26 : decode cX11_behind 26 = .ok (.getfield 19, 3) := by decide +kernel
theorem dX11_behind_29 : decode cX11_behind 29 = .ok (.aload_n 0, 1) := by decide +kernel
theorem dX11_behind_30 : decode cX11_behind 30 = .ok (.getfield 10, 3) := by decide +kernel
theorem dX11_behind_33 : decode cX11_behind 33 = .ok (.invokevirtual 115, 3) := by decide +kernel
theorem dX11_behind_36 : decode cX11_behind 36 = .ok (.istore_n 3, 1) := by decide +kernel
theorem dX11_behind_37 : decode cX11_behind 37 = .ok (.iload_n 3, 1) := by decide +kernel
theorem dX11_behind_38 : decode cX11_behind 38 = .ok (.ifCond .eq 5, 3) := by decide +kernel
theorem dX11_behind_41 : decode cX11_behind 41 = .ok (.iload_n 3, 1) := by decide +kernel
theorem dX11_behind_42 : decode cX11_behind 42 = .ok (.ireturn, 1) := by decide +kernel
theorem dX11_behind_43 : decode cX11_behind 43 = .ok (.iload_n 2, 1) := by decide +kernel
theorem dX11_behind_44 : decode cX11_behind 44 = .ok (.tableswitch 77 0 2 #[28, 44, 57], 28) := by decide +kernel
theorem dX11_behind_72 : decode cX11_behind 72 = .ok (.aload_n 0, 1) := by decide +kernel
theorem dX11_behind_73 : decode cX11_behind 73 = .ok (.getfield 26, 3) := by decide +kernel
theorem dX11_behind_76 : decode cX11_behind 76 = .ok (.getfield 128, 3) := by decide +kernel
theorem dX11_behind_79 : decode cX11_behind 79 = .ok (.getfield 92, 3) := by decide +kernel
theorem dX11_behind_82 : decode cX11_behind 82 = .ok (.iload_n 1, 1) := by decide +kernel
theorem dX11_behind_83 : decode cX11_behind 83 = .ok (.iaload, 1) := by decide +kernel
theorem dX11_behind_84 : decode cX11_behind 84 = .ok (.invokestatic 131, 3) := by decide +kernel
theorem dX11_behind_87 : decode cX11_behind 87 = .ok (.ireturn, 1) := by decide +kernel
theorem dX11_behind_88 : decode cX11_behind 88 = .ok (.aload_n 0, 1) := by decide +kernel
theorem dX11_behind_89 : decode cX11_behind 89 = .ok (.getfield 26, 3) := by decide +kernel
theorem dX11_behind_92 : decode cX11_behind 92 = .ok (.getfield 128, 3) := by decide +kernel
theorem dX11_behind_95 : decode cX11_behind 95 = .ok (.getfield 88, 3) := by decide +kernel
theorem dX11_behind_98 : decode cX11_behind 98 = .ok (.iload_n 1, 1) := by decide +kernel
theorem dX11_behind_99 : decode cX11_behind 99 = .ok (.iaload, 1) := by decide +kernel
theorem dX11_behind_100 : decode cX11_behind 100 = .ok (.ireturn, 1) := by decide +kernel
theorem dX11_behind_101 : decode cX11_behind 101 = .ok (.aload_n 0, 1) := by decide +kernel
theorem dX11_behind_102 : decode cX11_behind 102 = .ok (.getfield 26, 3) := by decide +kernel
theorem dX11_behind_105 : decode cX11_behind 105 = .ok (.getfield 128, 3) := by decide +kernel
theorem dX11_behind_108 : decode cX11_behind 108 = .ok (.iload_n 1, 1) := by decide +kernel
theorem dX11_behind_109 : decode cX11_behind 109 = .ok (.invokevirtual 95, 3) := by decide +kernel
theorem dX11_behind_112 : decode cX11_behind 112 = .ok (.ifCond .eq 7, 3) := by decide +kernel
theorem dX11_behind_115 : decode cX11_behind 115 = .ok (.iconst 1, 1) := by decide +kernel
theorem dX11_behind_116 : decode cX11_behind 116 = .ok (.goto 4, 3) := by decide +kernel
theorem dX11_behind_119 : decode cX11_behind 119 = .ok (.iconst 0, 1) := by decide +kernel
theorem dX11_behind_120 : decode cX11_behind 120 = .ok (.ireturn, 1) := by decide +kernel
theorem dX11_behind_121 : decode cX11_behind 121 = .ok (.aload_n 0, 1) := by decide +kernel
theorem dX11_behind_122 : decode cX11_behind 122 = .ok (.getfield 26, 3) := by decide +kernel
theorem dX11_behind_125 : decode cX11_behind 125 = .ok (.getfield 128, 3) := by decide +kernel
theorem dX11_behind_128 : decode cX11_behind 128 = .ok (.getfield 92, 3) := by decide +kernel
theorem dX11_behind_131 : decode cX11_behind 131 = .ok (.iload_n 1, 1) := by decide +kernel
theorem dX11_behind_132 : decode cX11_behind 132 = .ok (.iaload, 1) := by decide +kernel
theorem dX11_behind_133 : decode cX11_behind 133 = .ok (.ireturn, 1) := by decide +kernel
set_option maxRecDepth 20000 in
theorem ggX11_table_X11_isWithin : GoodIn wsX11_table wsX11_isWithin := goodIn_r _ [7] (by decide +kernel) (by decide +kernel)
set_option maxRecDepth 20000 in
theorem gX11_table_X11_isWithin : GoodIn wsX11_table (va_wsS RX11 84 yX11_isWithin wsX11_isWithin) := goodIn_app (goodIn_of _ (by decide +kernel)) ggX11_table_X11_isWithin
set_option maxRecDepth 20000 in
theorem ggX11_table_X4_playText : GoodIn wsX11_table wsX4_playText := goodIn_r _ [12, 13, 14, 15, 16, 11, 17, 18, 19, 20, 21, 22, 23, 24, 25, 26, 27, 28, 29, 30, 31, 32, 33, 34, 35, 36, 37, 38, 39, 40, 41, 42, 43, 44, 45, 5, 6, 7, 46, 47, 48, 49, 50, 51, 52, 53, 54, 55, 56, 57, 58, 59, 60, 61, 62, 63, 64, 65, 66, 67, 68, 69, 70, 71, 72, 73, 74, 75, 76, 77, 78, 79, 80, 81, 82, 83, 84, 85, 86, 87, 88, 89, 90, 91, 92, 93, 94, 95, 96, 97, 98, 99, 100, 101, 102, 103, 104, 105, 106, 107, 108, 109, 110, 111, 112, 113, 143, 144, 132, 133, 134, 135, 136, 137, 138, 139, 140, 141, 142] (by decide +kernel) (by decide +kernel)
set_option maxRecDepth 20000 in
theorem gX11_table_X4_playText : GoodIn wsX11_table (wsV RX11 115 RX4 yX4_playText wsX4_playText) := goodIn_app (goodIn_of _ (by decide +kernel)) ggX11_table_X4_playText
set_option maxRecDepth 20000 in
theorem ggX11_table_X9_wholeOnes : GoodIn wsX11_table wsX9_wholeOnes := goodIn_r _ [117, 59, 60, 61, 26, 62, 28, 63, 138, 139, 140, 141, 142] (by decide +kernel) (by decide +kernel)
set_option maxRecDepth 20000 in
theorem gX11_table_X9_wholeOnes : GoodIn wsX11_table (wsV RX11 138 RX9 yX9_wholeOnes wsX9_wholeOnes) := goodIn_app (goodIn_of _ (by decide +kernel)) ggX11_table_X9_wholeOnes
set_option maxRecDepth 20000 in
theorem ggX11_table_X9_leader : GoodIn wsX11_table wsX9_leader := goodIn_r _ [121, 76, 77, 78, 26, 79, 29, 28, 80, 81, 82, 83, 84, 85, 86, 87, 138, 139, 140, 141, 142] (by decide +kernel) (by decide +kernel)
set_option maxRecDepth 20000 in
theorem gX11_table_X9_leader : GoodIn wsX11_table (wsV RX11 141 RX9 yX9_leader wsX9_leader) := goodIn_app (goodIn_of _ (by decide +kernel)) ggX11_table_X9_leader
theorem dX11_table_0 : decode cX11_table 0 = .ok (.iload_n 1, 1) := by decide +kernel
theorem dX11_table_1 : decode cX11_table 1 = .ok (.iconst 0, 1) := by decide +kernel
theorem dX11_table_2 : decode cX11_table 2 = .ok (.iconst 3, 1) := by decide +kernel
theorem dX11_table_3 : decode cX11_table 3 = .ok (.invokestatic 84, 3) := by decide +kernel
theorem dX11_table_6 : decode cX11_table 6 = .ok (.ifCond .ne 6, 3) := by decide +kernel
theorem dX11_table_9 : decode cX11_table 9 = .ok (.bipush (-2), 2) := by decide +kernel
theorem dX11_table_11 : decode cX11_table 11 = .ok (.ireturn, 1) := by decide +kernel
theorem dX11_table_12 : decode cX11_table 12 = .ok (.aload_n 0, 1) := by decide +kernel
theorem dX11_table_13 : decode cX11_table 13 = .ok (.getfield 26, 3) := by decide +kernel
theorem dX11_table_16 : decode cX11_table 16 = .ok (.aload_n 0, 1) := by decide +kernel
theorem dX11_table_17 : decode cX11_table 17 = .ok (.getfield 19, 3) := by decide +kernel
theorem dX11_table_20 : decode cX11_table 20 = .ok (.aload_n 0, 1) := by decide +kernel
theorem dX11_table_21 : decode cX11_table 21 = .ok (.getfield 10, 3) := by decide +kernel
theorem dX11_table_24 : decode cX11_table 24 = .ok (.invokevirtual 115, 3) := by decide +kernel
theorem dX11_table_27 : decode cX11_table 27 = .ok (.istore_n 2, 1) := by decide +kernel
theorem dX11_table_28 : decode cX11_table 28 = .ok (.iload_n 2, 1) := by decide +kernel
theorem dX11_table_29 : decode cX11_table 29 = .ok (.ifCond .eq 5, 3) := by decide +kernel
theorem dX11_table_32 : decode cX11_table 32 = .ok (.iload_n 2, 1) := by decide +kernel
theorem dX11_table_33 : decode cX11_table 33 = .ok (.ireturn, 1) := by decide +kernel
theorem dX11_table_34 : decode cX11_table 34 = .ok (.iload_n 1, 1) := by decide +kernel
theorem dX11_table_35 : decode cX11_table 35 = .ok (.tableswitch 58 0 2 #[25, 36, 47], 25) := by decide +kernel
theorem dX11_table_60 : decode cX11_table 60 = .ok (.aload_n 0, 1) := by decide +kernel
theorem dX11_table_61 : decode cX11_table 61 = .ok (.getfield 26, 3) := by decide +kernel
theorem dX11_table_64 : decode cX11_table 64 = .ok (.getfield 128, 3) := by decide +kernel
theorem dX11_table_67 : decode cX11_table 67 = .ok (.getfield 98, 3) := by decide +kernel
theorem dX11_table_70 : decode cX11_table 70 = .ok (.ireturn, 1) := by decide +kernel
theorem dX11_table_71 : decode cX11_table 71 = .ok (.aload_n 0, 1) := by decide +kernel
theorem dX11_table_72 : decode cX11_table 72 = .ok (.getfield 26, 3) := by decide +kernel
theorem dX11_table_75 : decode cX11_table 75 = .ok (.getfield 128, 3) := by decide +kernel
theorem dX11_table_78 : decode cX11_table 78 = .ok (.getfield 135, 3) := by decide +kernel
theorem dX11_table_81 : decode cX11_table 81 = .ok (.ireturn, 1) := by decide +kernel
theorem dX11_table_82 : decode cX11_table 82 = .ok (.aload_n 0, 1) := by decide +kernel
theorem dX11_table_83 : decode cX11_table 83 = .ok (.getfield 26, 3) := by decide +kernel
theorem dX11_table_86 : decode cX11_table 86 = .ok (.getfield 128, 3) := by decide +kernel
theorem dX11_table_89 : decode cX11_table 89 = .ok (.invokevirtual 138, 3) := by decide +kernel
theorem dX11_table_92 : decode cX11_table 92 = .ok (.ireturn, 1) := by decide +kernel
theorem dX11_table_93 : decode cX11_table 93 = .ok (.aload_n 0, 1) := by decide +kernel
theorem dX11_table_94 : decode cX11_table 94 = .ok (.getfield 26, 3) := by decide +kernel
theorem dX11_table_97 : decode cX11_table 97 = .ok (.getfield 128, 3) := by decide +kernel
theorem dX11_table_100 : decode cX11_table 100 = .ok (.invokevirtual 141, 3) := by decide +kernel
theorem dX11_table_103 : decode cX11_table 103 = .ok (.ireturn, 1) := by decide +kernel
set_option maxRecDepth 20000 in
theorem ggX11_first_X11_isWithin : GoodIn wsX11_first wsX11_isWithin := goodIn_r _ [7] (by decide +kernel) (by decide +kernel)
set_option maxRecDepth 20000 in
theorem gX11_first_X11_isWithin : GoodIn wsX11_first (va_wsS RX11 84 yX11_isWithin wsX11_isWithin) := goodIn_app (goodIn_of _ (by decide +kernel)) ggX11_first_X11_isWithin
set_option maxRecDepth 20000 in
theorem ggX11_first_X4_playText : GoodIn wsX11_first wsX4_playText := goodIn_r _ [12, 13, 14, 15, 16, 11, 17, 18, 19, 20, 21, 22, 23, 24, 25, 26, 27, 28, 29, 30, 31, 32, 33, 34, 35, 36, 37, 38, 39, 40, 41, 42, 43, 44, 45, 5, 6, 7, 46, 47, 48, 49, 50, 51, 52, 53, 54, 55, 56, 57, 58, 59, 60, 61, 62, 63, 64, 65, 66, 67, 68, 69, 70, 71, 72, 73, 74, 75, 76, 77, 78, 79, 80, 81, 82, 83, 84, 85, 86, 87, 88, 89, 90, 91, 92, 93, 94, 95, 96, 97, 98, 99, 100, 101, 102, 103, 104, 105, 106, 107, 108, 109, 110, 111, 112, 113, 130, 131, 124, 125, 126, 127, 128, 129, 132, 133, 134, 135, 136] (by decide +kernel) (by decide +kernel)
set_option maxRecDepth 20000 in
theorem gX11_first_X4_playText : GoodIn wsX11_first (wsV RX11 115 RX4 yX4_playText wsX4_playText) := goodIn_app (goodIn_of _ (by decide +kernel)) ggX11_first_X4_playText
theorem dX11_first_0 : decode cX11_first 0 = .ok (.iload_n 1, 1) := by decide +kernel
theorem dX11_first_1 : decode cX11_first 1 = .ok (.iconst 0, 1) := by decide +kernel
theorem dX11_first_2 : decode cX11_first 2 = .ok (.iconst 1, 1) := by decide +kernel
theorem dX11_first_3 : decode cX11_first 3 = .ok (.invokestatic 84, 3) := by decide +kernel
theorem dX11_first_6 : decode cX11_first 6 = .ok (.ifCond .ne 6, 3) := by decide +kernel
theorem dX11_first_9 : decode cX11_first 9 = .ok (.bipush (-2), 2) := by decide +kernel
theorem dX11_first_11 : decode cX11_first 11 = .ok (.ireturn, 1) := by decide +kernel
theorem dX11_first_12 : decode cX11_first 12 = .ok (.aload_n 0, 1) := by decide +kernel
theorem dX11_first_13 : decode cX11_first 13 = .ok (.getfield 26, 3) := by decide +kernel
theorem dX11_first_16 : decode cX11_first 16 = .ok (.aload_n 0, 1) := by decide +kernel
theorem dX11_first_17 : decode cX11_first 17 = .ok (.getfield 19, 3) := by decide +kernel
theorem dX11_first_20 : decode cX11_first 20 = .ok (.aload_n 0, 1) := by decide +kernel
theorem dX11_first_21 : decode cX11_first 21 = .ok (.getfield 10, 3) := by decide +kernel
theorem dX11_first_24 : decode cX11_first 24 = .ok (.invokevirtual 115, 3) := by decide +kernel
theorem dX11_first_27 : decode cX11_first 27 = .ok (.istore_n 2, 1) := by decide +kernel
theorem dX11_first_28 : decode cX11_first 28 = .ok (.iload_n 2, 1) := by decide +kernel
theorem dX11_first_29 : decode cX11_first 29 = .ok (.ifCond .eq 5, 3) := by decide +kernel
theorem dX11_first_32 : decode cX11_first 32 = .ok (.iload_n 2, 1) := by decide +kernel
theorem dX11_first_33 : decode cX11_first 33 = .ok (.ireturn, 1) := by decide +kernel
theorem dX11_first_34 : decode cX11_first 34 = .ok (.iload_n 1, 1) := by decide +kernel
theorem dX11_first_35 : decode cX11_first 35 = .ok (.ifCond .ne 13, 3) := by decide +kernel
theorem dX11_first_38 : decode cX11_first 38 = .ok (.aload_n 0, 1) := by decide +kernel
theorem dX11_first_39 : decode cX11_first 39 = .ok (.getfield 26, 3) := by decide +kernel
theorem dX11_first_42 : decode cX11_first 42 = .ok (.getfield 144, 3) := by decide +kernel
theorem dX11_first_45 : decode cX11_first 45 = .ok (.goto 10, 3) := by decide +kernel
theorem dX11_first_48 : decode cX11_first 48 = .ok (.aload_n 0, 1) := by decide +kernel
theorem dX11_first_49 : decode cX11_first 49 = .ok (.getfield 26, 3) := by decide +kernel
theorem dX11_first_52 : decode cX11_first 52 = .ok (.getfield 147, 3) := by decide +kernel
theorem dX11_first_55 : decode cX11_first 55 = .ok (.ireturn, 1) := by decide +kernel
set_option maxRecDepth 20000 in
theorem ggX11_done_X4_playText : GoodIn wsX11_done wsX4_playText := goodIn_r _ [8, 9, 10, 11, 12, 7, 13, 14, 15, 16, 17, 18, 19, 20, 21, 22, 23, 24, 25, 26, 27, 28, 29, 30, 31, 32, 33, 34, 35, 36, 37, 38, 39, 40, 41, 42, 43, 44, 45, 46, 47, 48, 49, 50, 51, 52, 53, 54, 55, 56, 57, 58, 59, 60, 61, 62, 63, 64, 65, 66, 67, 68, 69, 70, 71, 72, 73, 74, 75, 76, 77, 78, 79, 80, 81, 82, 83, 84, 85, 86, 87, 88, 89, 90, 91, 92, 93, 94, 95, 96, 97, 98, 99, 100, 101, 102, 103, 104, 105, 106, 107, 108, 109, 110, 111, 112, 134, 135, 128, 129, 130, 131, 132, 133, 136, 137, 138, 139, 140] (by decide +kernel) (by decide +kernel)
set_option maxRecDepth 20000 in
theorem gX11_done_X4_playText : GoodIn wsX11_done (wsV RX11 115 RX4 yX4_playText wsX4_playText) := goodIn_app (goodIn_of _ (by decide +kernel)) ggX11_done_X4_playText
set_option maxRecDepth 20000 in
theorem ggX11_done_X9_copyFrom : GoodIn wsX11_done wsX9_copyFrom := goodIn_r _ [23, 24, 25, 26, 27, 28, 136, 137, 138, 139, 140] (by decide +kernel) (by decide +kernel)
set_option maxRecDepth 20000 in
theorem gX11_done_X9_copyFrom : GoodIn wsX11_done (wsV RX11 150 RX9 yX9_copyFrom wsX9_copyFrom) := goodIn_app (goodIn_of _ (by decide +kernel)) ggX11_done_X9_copyFrom
set_option maxRecDepth 20000 in
theorem ggX11_done_X5_clear : GoodIn wsX11_done wsX5_clear := goodIn_r _ [117, 34, 134, 135] (by decide +kernel) (by decide +kernel)
set_option maxRecDepth 20000 in
theorem gX11_done_X5_clear : GoodIn wsX11_done (wsV RX11 108 RX5 yX5_clear wsX5_clear) := goodIn_app (goodIn_of _ (by decide +kernel)) ggX11_done_X5_clear
theorem dX11_done_0 : decode cX11_done 0 = .ok (.aload_n 0, 1) := by decide +kernel
theorem dX11_done_1 : decode cX11_done 1 = .ok (.getfield 26, 3) := by decide +kernel
theorem dX11_done_4 : decode cX11_done 4 = .ok (.aload_n 0, 1) := by decide +kernel
theorem dX11_done_5 : decode cX11_done 5 = .ok (.getfield 19, 3) := by decide +kernel
theorem dX11_done_8 : decode cX11_done 8 = .ok (.aload_n 0, 1) := by decide +kernel
theorem dX11_done_9 : decode cX11_done 9 = .ok (.getfield 10, 3) := by decide +kernel
theorem dX11_done_12 : decode cX11_done 12 = .ok (.invokevirtual 115, 3) := by decide +kernel
theorem dX11_done_15 : decode cX11_done 15 = .ok (.istore_n 1, 1) := by decide +kernel
theorem dX11_done_16 : decode cX11_done 16 = .ok (.iload_n 1, 1) := by decide +kernel
theorem dX11_done_17 : decode cX11_done 17 = .ok (.ifCond .eq 5, 3) := by decide +kernel
theorem dX11_done_20 : decode cX11_done 20 = .ok (.iload_n 1, 1) := by decide +kernel
theorem dX11_done_21 : decode cX11_done 21 = .ok (.ireturn, 1) := by decide +kernel
theorem dX11_done_22 : decode cX11_done 22 = .ok (.aload_n 0, 1) := by decide +kernel
theorem dX11_done_23 : decode cX11_done 23 = .ok (.getfield 10, 3) := by decide +kernel
theorem dX11_done_26 : decode cX11_done 26 = .ok (.aload_n 0, 1) := by decide +kernel
theorem dX11_done_27 : decode cX11_done 27 = .ok (.getfield 26, 3) := by decide +kernel
theorem dX11_done_30 : decode cX11_done 30 = .ok (.getfield 128, 3) := by decide +kernel
theorem dX11_done_33 : decode cX11_done 33 = .ok (.invokevirtual 150, 3) := by decide +kernel
theorem dX11_done_36 : decode cX11_done 36 = .ok (.aload_n 0, 1) := by decide +kernel
theorem dX11_done_37 : decode cX11_done 37 = .ok (.getfield 19, 3) := by decide +kernel
theorem dX11_done_40 : decode cX11_done 40 = .ok (.invokevirtual 108, 3) := by decide +kernel
theorem dX11_done_43 : decode cX11_done 43 = .ok (.pop, 1) := by decide +kernel
theorem dX11_done_44 : decode cX11_done 44 = .ok (.aload_n 0, 1) := by decide +kernel
theorem dX11_done_45 : decode cX11_done 45 = .ok (.getfield 26, 3) := by decide +kernel
theorem dX11_done_48 : decode cX11_done 48 = .ok (.getfield 122, 3) := by decide +kernel
theorem dX11_done_51 : decode cX11_done 51 = .ok (.ireturn, 1) := by decide +kernel
set_option maxRecDepth 20000 in
theorem ggX11_orders_X6_find : GoodIn wsX11_orders wsX6_find := goodIn_r _ [6, 7, 31, 32, 33, 34] (by decide +kernel) (by decide +kernel)
set_option maxRecDepth 20000 in
theorem gX11_orders_X6_find : GoodIn wsX11_orders (wsV RX11 154 RX6 yX6_find wsX6_find) := goodIn_app (goodIn_of _ (by decide +kernel)) ggX11_orders_X6_find
set_option maxRecDepth 20000 in
theorem ggX11_orders_X11_isWithin : GoodIn wsX11_orders wsX11_isWithin := goodIn_r _ [11] (by decide +kernel) (by decide +kernel)
set_option maxRecDepth 20000 in
theorem gX11_orders_X11_isWithin : GoodIn wsX11_orders (va_wsS RX11 84 yX11_isWithin wsX11_isWithin) := goodIn_app (goodIn_of _ (by decide +kernel)) ggX11_orders_X11_isWithin
set_option maxRecDepth 20000 in
theorem ggX11_orders_X6_leastThrow : GoodIn wsX11_orders wsX6_leastThrow := goodIn_r _ [15, 16, 17, 18, 5, 19, 20, 31, 32, 33, 34] (by decide +kernel) (by decide +kernel)
set_option maxRecDepth 20000 in
theorem gX11_orders_X6_leastThrow : GoodIn wsX11_orders (wsV RX11 160 RX6 yX6_leastThrow wsX6_leastThrow) := goodIn_app (goodIn_of _ (by decide +kernel)) ggX11_orders_X6_leastThrow
theorem dX11_orders_0 : decode cX11_orders 0 = .ok (.aload_n 0, 1) := by decide +kernel
theorem dX11_orders_1 : decode cX11_orders 1 = .ok (.getfield 33, 3) := by decide +kernel
theorem dX11_orders_4 : decode cX11_orders 4 = .ok (.iload_n 1, 1) := by decide +kernel
theorem dX11_orders_5 : decode cX11_orders 5 = .ok (.invokevirtual 154, 3) := by decide +kernel
theorem dX11_orders_8 : decode cX11_orders 8 = .ok (.istore_n 3, 1) := by decide +kernel
theorem dX11_orders_9 : decode cX11_orders 9 = .ok (.iload_n 3, 1) := by decide +kernel
theorem dX11_orders_10 : decode cX11_orders 10 = .ok (.bipush (-6), 2) := by decide +kernel
theorem dX11_orders_12 : decode cX11_orders 12 = .ok (.if_icmp .eq 12, 3) := by decide +kernel
theorem dX11_orders_15 : decode cX11_orders 15 = .ok (.iload_n 2, 1) := by decide +kernel
theorem dX11_orders_16 : decode cX11_orders 16 = .ok (.iconst 0, 1) := by decide +kernel
theorem dX11_orders_17 : decode cX11_orders 17 = .ok (.iconst 1, 1) := by decide +kernel
theorem dX11_orders_18 : decode cX11_orders 18 = .ok (.invokestatic 84, 3) := by decide +kernel
theorem dX11_orders_21 : decode cX11_orders 21 = .ok (.ifCond .ne 6, 3) := by decide +kernel
theorem dX11_orders_24 : decode cX11_orders 24 = .ok (.bipush (-2), 2) := by decide +kernel
theorem dX11_orders_26 : decode cX11_orders 26 = .ok (.ireturn, 1) := by decide +kernel
theorem dX11_orders_27 : decode cX11_orders 27 = .ok (.iload_n 2, 1) := by decide +kernel
theorem dX11_orders_28 : decode cX11_orders 28 = .ok (.ifCond .ne 15, 3) := by decide +kernel
theorem dX11_orders_31 : decode cX11_orders 31 = .ok (.aload_n 0, 1) := by decide +kernel
theorem dX11_orders_32 : decode cX11_orders 32 = .ok (.getfield 33, 3) := by decide +kernel
theorem dX11_orders_35 : decode cX11_orders 35 = .ok (.getfield 157, 3) := by decide +kernel
theorem dX11_orders_38 : decode cX11_orders 38 = .ok (.iload_n 3, 1) := by decide +kernel
theorem dX11_orders_39 : decode cX11_orders 39 = .ok (.iaload, 1) := by decide +kernel
theorem dX11_orders_40 : decode cX11_orders 40 = .ok (.goto 11, 3) := by decide +kernel
theorem dX11_orders_43 : decode cX11_orders 43 = .ok (.aload_n 0, 1) := by decide +kernel
theorem dX11_orders_44 : decode cX11_orders 44 = .ok (.getfield 33, 3) := by decide +kernel
theorem dX11_orders_47 : decode cX11_orders 47 = .ok (.iload_n 3, 1) := by decide +kernel
theorem dX11_orders_48 : decode cX11_orders 48 = .ok (.invokevirtual 160, 3) := by decide +kernel
theorem dX11_orders_51 : decode cX11_orders 51 = .ok (.ireturn, 1) := by decide +kernel
set_option maxRecDepth 20000 in
theorem ggX11_whole_X6_find : GoodIn wsX11_whole wsX6_find := goodIn_r _ [7, 8, 43, 44, 45, 46] (by decide +kernel) (by decide +kernel)
set_option maxRecDepth 20000 in
theorem gX11_whole_X6_find : GoodIn wsX11_whole (wsV RX11 154 RX6 yX6_find wsX6_find) := goodIn_app (goodIn_of _ (by decide +kernel)) ggX11_whole_X6_find
set_option maxRecDepth 20000 in
theorem ggX11_whole_X11_isWithin : GoodIn wsX11_whole wsX11_isWithin := goodIn_r _ [12] (by decide +kernel) (by decide +kernel)
set_option maxRecDepth 20000 in
theorem gX11_whole_X11_isWithin : GoodIn wsX11_whole (va_wsS RX11 84 yX11_isWithin wsX11_isWithin) := goodIn_app (goodIn_of _ (by decide +kernel)) ggX11_whole_X11_isWithin
set_option maxRecDepth 20000 in
theorem ggX11_whole_X6_waysToWhole : GoodIn wsX11_whole wsX6_waysToWhole := goodIn_r _ [16, 17, 18, 19, 20, 6, 21, 22, 23, 24, 25, 26, 43, 44, 45, 46] (by decide +kernel) (by decide +kernel)
set_option maxRecDepth 20000 in
theorem gX11_whole_X6_waysToWhole : GoodIn wsX11_whole (wsV RX11 165 RX6 yX6_waysToWhole wsX6_waysToWhole) := goodIn_app (goodIn_of _ (by decide +kernel)) ggX11_whole_X6_waysToWhole
set_option maxRecDepth 20000 in
theorem ggX11_whole_X11_lowestTerms : GoodIn wsX11_whole wsX11_lowestTerms := goodIn_r _ [29, 30, 31, 32] (by decide +kernel) (by decide +kernel)
set_option maxRecDepth 20000 in
theorem gX11_whole_X11_lowestTerms : GoodIn wsX11_whole (va_wsS RX11 169 yX11_lowestTerms wsX11_lowestTerms) := goodIn_app (goodIn_of _ (by decide +kernel)) ggX11_whole_X11_lowestTerms
theorem dX11_whole_0 : decode cX11_whole 0 = .ok (.aload_n 0, 1) := by decide +kernel
theorem dX11_whole_1 : decode cX11_whole 1 = .ok (.getfield 33, 3) := by decide +kernel
theorem dX11_whole_4 : decode cX11_whole 4 = .ok (.iload_n 1, 1) := by decide +kernel
theorem dX11_whole_5 : decode cX11_whole 5 = .ok (.invokevirtual 154, 3) := by decide +kernel
theorem dX11_whole_8 : decode cX11_whole 8 = .ok (.istore 4, 2) := by decide +kernel
theorem dX11_whole_10 : decode cX11_whole 10 = .ok (.iload 4, 2) := by decide +kernel
theorem dX11_whole_12 : decode cX11_whole 12 = .ok (.bipush (-6), 2) := by decide +kernel
theorem dX11_whole_14 : decode cX11_whole 14 = .ok (.if_icmp .eq 22, 3) := by decide +kernel
theorem dX11_whole_17 : decode cX11_whole 17 = .ok (.iload_n 2, 1) := by decide +kernel
theorem dX11_whole_18 : decode cX11_whole 18 = .ok (.iconst 0, 1) := by decide +kernel
theorem dX11_whole_19 : decode cX11_whole 19 = .ok (.bipush 24, 2) := by decide +kernel
theorem dX11_whole_21 : decode cX11_whole 21 = .ok (.invokestatic 84, 3) := by decide +kernel
theorem dX11_whole_24 : decode cX11_whole 24 = .ok (.ifCond .eq 12, 3) := by decide +kernel
theorem dX11_whole_27 : decode cX11_whole 27 = .ok (.iload_n 3, 1) := by decide +kernel
theorem dX11_whole_28 : decode cX11_whole 28 = .ok (.iconst 0, 1) := by decide +kernel
theorem dX11_whole_29 : decode cX11_whole 29 = .ok (.iconst 1, 1) := by decide +kernel
theorem dX11_whole_30 : decode cX11_whole 30 = .ok (.invokestatic 84, 3) := by decide +kernel
theorem dX11_whole_33 : decode cX11_whole 33 = .ok (.ifCond .ne 7, 3) := by decide +kernel
theorem dX11_whole_36 : decode cX11_whole 36 = .ok (.ldc2_w 163, 3) := by decide +kernel
theorem dX11_whole_39 : decode cX11_whole 39 = .ok (.lreturn, 1) := by decide +kernel
theorem dX11_whole_40 : decode cX11_whole 40 = .ok (.aload_n 0, 1) := by decide +kernel
theorem dX11_whole_41 : decode cX11_whole 41 = .ok (.getfield 33, 3) := by decide +kernel
theorem dX11_whole_44 : decode cX11_whole 44 = .ok (.iload 4, 2) := by decide +kernel
theorem dX11_whole_46 : decode cX11_whole 46 = .ok (.iload_n 2, 1) := by decide +kernel
theorem dX11_whole_47 : decode cX11_whole 47 = .ok (.invokevirtual 165, 3) := by decide +kernel
theorem dX11_whole_50 : decode cX11_whole 50 = .ok (.iload_n 2, 1) := by decide +kernel
theorem dX11_whole_51 : decode cX11_whole 51 = .ok (.iload_n 3, 1) := by decide +kernel
theorem dX11_whole_52 : decode cX11_whole 52 = .ok (.invokestatic 169, 3) := by decide +kernel
theorem dX11_whole_55 : decode cX11_whole 55 = .ok (.lreturn, 1) := by decide +kernel
set_option maxRecDepth 20000 in
theorem ggX11_sums_X11_isWithin : GoodIn wsX11_sums wsX11_isWithin := goodIn_r _ [6] (by decide +kernel) (by decide +kernel)
set_option maxRecDepth 20000 in
theorem gX11_sums_X11_isWithin : GoodIn wsX11_sums (va_wsS RX11 84 yX11_isWithin wsX11_isWithin) := goodIn_app (goodIn_of _ (by decide +kernel)) ggX11_sums_X11_isWithin
set_option maxRecDepth 20000 in
theorem ggX11_sums_X8_ways : GoodIn wsX11_sums wsX8_ways := goodIn_r _ [11, 12, 13, 14, 15, 10, 16, 27] (by decide +kernel) (by decide +kernel)
set_option maxRecDepth 20000 in
theorem gX11_sums_X8_ways : GoodIn wsX11_sums (wsV RX11 175 RX8 yX8_ways wsX8_ways) := goodIn_app (goodIn_of _ (by decide +kernel)) ggX11_sums_X8_ways
theorem dX11_sums_0 : decode cX11_sums 0 = .ok (.iload_n 1, 1) := by decide +kernel
theorem dX11_sums_1 : decode cX11_sums 1 = .ok (.iconst 1, 1) := by decide +kernel
theorem dX11_sums_2 : decode cX11_sums 2 = .ok (.bipush 12, 2) := by decide +kernel
theorem dX11_sums_4 : decode cX11_sums 4 = .ok (.invokestatic 84, 3) := by decide +kernel
theorem dX11_sums_7 : decode cX11_sums 7 = .ok (.ifCond .eq 13, 3) := by decide +kernel
theorem dX11_sums_10 : decode cX11_sums 10 = .ok (.iload_n 2, 1) := by decide +kernel
theorem dX11_sums_11 : decode cX11_sums 11 = .ok (.iconst 0, 1) := by decide +kernel
theorem dX11_sums_12 : decode cX11_sums 12 = .ok (.bipush 99, 2) := by decide +kernel
theorem dX11_sums_14 : decode cX11_sums 14 = .ok (.invokestatic 84, 3) := by decide +kernel
theorem dX11_sums_17 : decode cX11_sums 17 = .ok (.ifCond .ne 7, 3) := by decide +kernel
theorem dX11_sums_20 : decode cX11_sums 20 = .ok (.ldc2_w 173, 3) := by decide +kernel
theorem dX11_sums_23 : decode cX11_sums 23 = .ok (.lreturn, 1) := by decide +kernel
theorem dX11_sums_24 : decode cX11_sums 24 = .ok (.aload_n 0, 1) := by decide +kernel
theorem dX11_sums_25 : decode cX11_sums 25 = .ok (.getfield 40, 3) := by decide +kernel
theorem dX11_sums_28 : decode cX11_sums 28 = .ok (.iload_n 1, 1) := by decide +kernel
theorem dX11_sums_29 : decode cX11_sums 29 = .ok (.iload_n 2, 1) := by decide +kernel
theorem dX11_sums_30 : decode cX11_sums 30 = .ok (.invokevirtual 175, 3) := by decide +kernel
theorem dX11_sums_33 : decode cX11_sums 33 = .ok (.lreturn, 1) := by decide +kernel
set_option maxRecDepth 20000 in
theorem ggX11_roll_X1_canLie : GoodIn wsX11_roll wsX1_canLie := goodIn_r _ [4, 5, 6, 7] (by decide +kernel) (by decide +kernel)
set_option maxRecDepth 20000 in
theorem gX11_roll_X1_canLie : GoodIn wsX11_roll (va_wsS RX11 178 yX1_canLie wsX1_canLie) := goodIn_app (goodIn_of _ (by decide +kernel)) ggX11_roll_X1_canLie
set_option maxRecDepth 20000 in
theorem ggX11_roll_X1_isRow : GoodIn wsX11_roll wsX1_isRow := goodIn_r _ [10, 11, 5, 6, 7] (by decide +kernel) (by decide +kernel)
set_option maxRecDepth 20000 in
theorem gX11_roll_X1_isRow : GoodIn wsX11_roll (va_wsS RX11 183 yX1_isRow wsX1_isRow) := goodIn_app (goodIn_of _ (by decide +kernel)) ggX11_roll_X1_isRow
set_option maxRecDepth 20000 in
theorem ggX11_roll_X1_topAfter : GoodIn wsX11_roll wsX1_topAfter := goodIn_r _ [14, 15, 16, 17, 3, 18, 19, 20, 21, 22, 23, 24, 25] (by decide +kernel) (by decide +kernel)
set_option maxRecDepth 20000 in
theorem gX11_roll_X1_topAfter : GoodIn wsX11_roll (va_wsS RX11 186 yX1_topAfter wsX1_topAfter) := goodIn_app (goodIn_of _ (by decide +kernel)) ggX11_roll_X1_topAfter
theorem dX11_roll_0 : decode cX11_roll 0 = .ok (.iload_n 1, 1) := by decide +kernel
theorem dX11_roll_1 : decode cX11_roll 1 = .ok (.invokestatic 178, 3) := by decide +kernel
theorem dX11_roll_4 : decode cX11_roll 4 = .ok (.ifCond .eq 10, 3) := by decide +kernel
theorem dX11_roll_7 : decode cX11_roll 7 = .ok (.iload_n 2, 1) := by decide +kernel
theorem dX11_roll_8 : decode cX11_roll 8 = .ok (.invokestatic 183, 3) := by decide +kernel
theorem dX11_roll_11 : decode cX11_roll 11 = .ok (.ifCond .ne 6, 3) := by decide +kernel
theorem dX11_roll_14 : decode cX11_roll 14 = .ok (.bipush (-2), 2) := by decide +kernel
theorem dX11_roll_16 : decode cX11_roll 16 = .ok (.ireturn, 1) := by decide +kernel
theorem dX11_roll_17 : decode cX11_roll 17 = .ok (.iload_n 1, 1) := by decide +kernel
theorem dX11_roll_18 : decode cX11_roll 18 = .ok (.iload_n 2, 1) := by decide +kernel
theorem dX11_roll_19 : decode cX11_roll 19 = .ok (.invokestatic 186, 3) := by decide +kernel
theorem dX11_roll_22 : decode cX11_roll 22 = .ok (.ireturn, 1) := by decide +kernel
set_option maxRecDepth 20000 in
theorem ggX11_shown_X1_isRow : GoodIn wsX11_shown wsX1_isRow := goodIn_r _ [5, 6, 7, 8, 9] (by decide +kernel) (by decide +kernel)
set_option maxRecDepth 20000 in
theorem gX11_shown_X1_isRow : GoodIn wsX11_shown (va_wsS RX11 183 yX1_isRow wsX1_isRow) := goodIn_app (goodIn_of _ (by decide +kernel)) ggX11_shown_X1_isRow
set_option maxRecDepth 20000 in
theorem ggX11_shown_X11_isWithin : GoodIn wsX11_shown wsX11_isWithin := goodIn_r _ [9] (by decide +kernel) (by decide +kernel)
set_option maxRecDepth 20000 in
theorem gX11_shown_X11_isWithin : GoodIn wsX11_shown (va_wsS RX11 84 yX11_isWithin wsX11_isWithin) := goodIn_app (goodIn_of _ (by decide +kernel)) ggX11_shown_X11_isWithin
set_option maxRecDepth 20000 in
theorem ggX11_shown_X7_add : GoodIn wsX11_shown wsX7_add := goodIn_r _ [15, 16, 17, 18, 29, 30, 31] (by decide +kernel) (by decide +kernel)
set_option maxRecDepth 20000 in
theorem gX11_shown_X7_add : GoodIn wsX11_shown (wsV RX11 190 RX7 yX7_add wsX7_add) := goodIn_app (goodIn_of _ (by decide +kernel)) ggX11_shown_X7_add
theorem dX11_shown_0 : decode cX11_shown 0 = .ok (.iload_n 1, 1) := by decide +kernel
theorem dX11_shown_1 : decode cX11_shown 1 = .ok (.invokestatic 183, 3) := by decide +kernel
theorem dX11_shown_4 : decode cX11_shown 4 = .ok (.ifCond .eq 13, 3) := by decide +kernel
theorem dX11_shown_7 : decode cX11_shown 7 = .ok (.iload_n 2, 1) := by decide +kernel
theorem dX11_shown_8 : decode cX11_shown 8 = .ok (.iconst 1, 1) := by decide +kernel
theorem dX11_shown_9 : decode cX11_shown 9 = .ok (.bipush 6, 2) := by decide +kernel
theorem dX11_shown_11 : decode cX11_shown 11 = .ok (.invokestatic 84, 3) := by decide +kernel
theorem dX11_shown_14 : decode cX11_shown 14 = .ok (.ifCond .ne 6, 3) := by decide +kernel
theorem dX11_shown_17 : decode cX11_shown 17 = .ok (.bipush (-2), 2) := by decide +kernel
theorem dX11_shown_19 : decode cX11_shown 19 = .ok (.ireturn, 1) := by decide +kernel
theorem dX11_shown_20 : decode cX11_shown 20 = .ok (.aload_n 0, 1) := by decide +kernel
theorem dX11_shown_21 : decode cX11_shown 21 = .ok (.getfield 47, 3) := by decide +kernel
theorem dX11_shown_24 : decode cX11_shown 24 = .ok (.iload_n 1, 1) := by decide +kernel
theorem dX11_shown_25 : decode cX11_shown 25 = .ok (.iload_n 2, 1) := by decide +kernel
theorem dX11_shown_26 : decode cX11_shown 26 = .ok (.invokevirtual 190, 3) := by decide +kernel
theorem dX11_shown_29 : decode cX11_shown 29 = .ok (.ifCond .eq 13, 3) := by decide +kernel
theorem dX11_shown_32 : decode cX11_shown 32 = .ok (.aload_n 0, 1) := by decide +kernel
theorem dX11_shown_33 : decode cX11_shown 33 = .ok (.getfield 47, 3) := by decide +kernel
theorem dX11_shown_36 : decode cX11_shown 36 = .ok (.getfield 193, 3) := by decide +kernel
theorem dX11_shown_39 : decode cX11_shown 39 = .ok (.goto 5, 3) := by decide +kernel
theorem dX11_shown_42 : decode cX11_shown 42 = .ok (.bipush (-4), 2) := by decide +kernel
theorem dX11_shown_44 : decode cX11_shown 44 = .ok (.ireturn, 1) := by decide +kernel
set_option maxRecDepth 20000 in
theorem ggX11_forget_X7_clear : GoodIn wsX11_forget wsX7_clear := goodIn_r _ [6, 7, 18, 19, 20] (by decide +kernel) (by decide +kernel)
set_option maxRecDepth 20000 in
theorem gX11_forget_X7_clear : GoodIn wsX11_forget (wsV RX11 194 RX7 yX7_clear wsX7_clear) := goodIn_app (goodIn_of _ (by decide +kernel)) ggX11_forget_X7_clear
theorem dX11_forget_0 : decode cX11_forget 0 = .ok (.aload_n 0, 1) := by decide +kernel
theorem dX11_forget_1 : decode cX11_forget 1 = .ok (.getfield 47, 3) := by decide +kernel
theorem dX11_forget_4 : decode cX11_forget 4 = .ok (.invokevirtual 194, 3) := by decide +kernel
theorem dX11_forget_7 : decode cX11_forget 7 = .ok (.ireturn, 1) := by decide +kernel
set_option maxRecDepth 20000 in
theorem ggX11_lies_X2_search : GoodIn wsX11_lies wsX2_search := goodIn_r _ [7, 8, 9, 10, 11, 12, 13, 14, 15, 16, 17, 18, 19, 20, 21, 22, 23, 24, 25, 26, 27, 28, 29, 30, 31, 32, 33, 34, 35, 36, 37, 38, 50, 51, 52, 53, 54, 55] (by decide +kernel) (by decide +kernel)
set_option maxRecDepth 20000 in
theorem gX11_lies_X2_search : GoodIn wsX11_lies (wsV RX11 195 RX2 yX2_search wsX2_search) := goodIn_app (goodIn_of _ (by decide +kernel)) ggX11_lies_X2_search
set_option maxRecDepth 20000 in
theorem ggX11_lies_X11_isWithin : GoodIn wsX11_lies wsX11_isWithin := goodIn_r _ [16] (by decide +kernel) (by decide +kernel)
set_option maxRecDepth 20000 in
theorem gX11_lies_X11_isWithin : GoodIn wsX11_lies (va_wsS RX11 84 yX11_isWithin wsX11_isWithin) := goodIn_app (goodIn_of _ (by decide +kernel)) ggX11_lies_X11_isWithin
theorem dX11_lies_0 : decode cX11_lies 0 = .ok (.aload_n 0, 1) := by decide +kernel
theorem dX11_lies_1 : decode cX11_lies 1 = .ok (.getfield 54, 3) := by decide +kernel
theorem dX11_lies_4 : decode cX11_lies 4 = .ok (.aload_n 0, 1) := by decide +kernel
theorem dX11_lies_5 : decode cX11_lies 5 = .ok (.getfield 47, 3) := by decide +kernel
theorem dX11_lies_8 : decode cX11_lies 8 = .ok (.invokevirtual 195, 3) := by decide +kernel
theorem dX11_lies_11 : decode cX11_lies 11 = .ok (.iload_n 1, 1) := by decide +kernel
theorem dX11_lies_12 : decode cX11_lies 12 = .ok (.iconst (-1), 1) := by decide +kernel
theorem dX11_lies_13 : decode cX11_lies 13 = .ok (.if_icmp .ne 11, 3) := by decide +kernel
theorem dX11_lies_16 : decode cX11_lies 16 = .ok (.aload_n 0, 1) := by decide +kernel
theorem dX11_lies_17 : decode cX11_lies 17 = .ok (.getfield 54, 3) := by decide +kernel
theorem dX11_lies_20 : decode cX11_lies 20 = .ok (.getfield 199, 3) := by decide +kernel
theorem dX11_lies_23 : decode cX11_lies 23 = .ok (.ireturn, 1) := by decide +kernel
theorem dX11_lies_24 : decode cX11_lies 24 = .ok (.iload_n 1, 1) := by decide +kernel
theorem dX11_lies_25 : decode cX11_lies 25 = .ok (.iconst 0, 1) := by decide +kernel
theorem dX11_lies_26 : decode cX11_lies 26 = .ok (.aload_n 0, 1) := by decide +kernel
theorem dX11_lies_27 : decode cX11_lies 27 = .ok (.getfield 54, 3) := by decide +kernel
theorem dX11_lies_30 : decode cX11_lies 30 = .ok (.getfield 199, 3) := by decide +kernel
theorem dX11_lies_33 : decode cX11_lies 33 = .ok (.iconst 1, 1) := by decide +kernel
theorem dX11_lies_34 : decode cX11_lies 34 = .ok (.isub, 1) := by decide +kernel
theorem dX11_lies_35 : decode cX11_lies 35 = .ok (.invokestatic 84, 3) := by decide +kernel
theorem dX11_lies_38 : decode cX11_lies 38 = .ok (.ifCond .eq 15, 3) := by decide +kernel
theorem dX11_lies_41 : decode cX11_lies 41 = .ok (.aload_n 0, 1) := by decide +kernel
theorem dX11_lies_42 : decode cX11_lies 42 = .ok (.getfield 54, 3) := by decide +kernel
theorem dX11_lies_45 : decode cX11_lies 45 = .ok (.getfield 200, 3) := by decide +kernel
theorem dX11_lies_48 : decode cX11_lies 48 = .ok (.iload_n 1, 1) := by decide +kernel
theorem dX11_lies_49 : decode cX11_lies 49 = .ok (.iaload, 1) := by decide +kernel
theorem dX11_lies_50 : decode cX11_lies 50 = .ok (.goto 5, 3) := by decide +kernel
theorem dX11_lies_53 : decode cX11_lies 53 = .ok (.bipush (-6), 2) := by decide +kernel
theorem dX11_lies_55 : decode cX11_lies 55 = .ok (.ireturn, 1) := by decide +kernel
set_option maxRecDepth 20000 in
theorem ggX11_ask_X11_isWithin : GoodIn wsX11_ask wsX11_isWithin := goodIn_r _ [6] (by decide +kernel) (by decide +kernel)
set_option maxRecDepth 20000 in
theorem gX11_ask_X11_isWithin : GoodIn wsX11_ask (va_wsS RX11 84 yX11_isWithin wsX11_isWithin) := goodIn_app (goodIn_of _ (by decide +kernel)) ggX11_ask_X11_isWithin
set_option maxRecDepth 20000 in
theorem ggX11_ask_X2_search : GoodIn wsX11_ask wsX2_search := goodIn_r _ [11, 12, 13, 14, 15, 16, 17, 4, 5, 6, 18, 19, 20, 21, 22, 23, 24, 25, 26, 27, 28, 29, 30, 31, 32, 33, 34, 35, 36, 37, 38, 39, 68, 69, 70, 71, 72, 73] (by decide +kernel) (by decide +kernel)
set_option maxRecDepth 20000 in
theorem gX11_ask_X2_search : GoodIn wsX11_ask (wsV RX11 195 RX2 yX2_search wsX2_search) := goodIn_app (goodIn_of _ (by decide +kernel)) ggX11_ask_X2_search
set_option maxRecDepth 20000 in
theorem ggX11_ask_X2_bestRow : GoodIn wsX11_ask wsX2_bestRow := goodIn_r _ [43, 44, 45, 46, 10, 47, 48, 12, 13, 49, 50, 38, 51, 52, 27, 16, 28, 29, 30, 31, 32, 33, 34, 35, 36, 37, 39, 4, 5, 6, 53, 54, 55, 56, 68, 69, 70] (by decide +kernel) (by decide +kernel)
set_option maxRecDepth 20000 in
theorem gX11_ask_X2_bestRow : GoodIn wsX11_ask (wsV RX11 203 RX2 yX2_bestRow wsX2_bestRow) := goodIn_app (goodIn_of _ (by decide +kernel)) ggX11_ask_X2_bestRow
set_option maxRecDepth 20000 in
theorem ggX11_ask_X2_mostLeft : GoodIn wsX11_ask wsX2_mostLeft := goodIn_r _ [47, 48, 12, 13, 49, 50, 38, 51, 52, 27, 16, 28, 29, 30, 31, 32, 33, 34, 35, 36, 37, 39, 4, 5, 6, 68, 69, 70] (by decide +kernel) (by decide +kernel)
set_option maxRecDepth 20000 in
theorem gX11_ask_X2_mostLeft : GoodIn wsX11_ask (wsV RX11 206 RX2 yX2_mostLeft wsX2_mostLeft) := goodIn_app (goodIn_of _ (by decide +kernel)) ggX11_ask_X2_mostLeft
theorem dX11_ask_0 : decode cX11_ask 0 = .ok (.iload_n 1, 1) := by decide +kernel
theorem dX11_ask_1 : decode cX11_ask 1 = .ok (.iconst 0, 1) := by decide +kernel
theorem dX11_ask_2 : decode cX11_ask 2 = .ok (.iconst 1, 1) := by decide +kernel
theorem dX11_ask_3 : decode cX11_ask 3 = .ok (.invokestatic 84, 3) := by decide +kernel
theorem dX11_ask_6 : decode cX11_ask 6 = .ok (.ifCond .ne 6, 3) := by decide +kernel
theorem dX11_ask_9 : decode cX11_ask 9 = .ok (.bipush (-2), 2) := by decide +kernel
theorem dX11_ask_11 : decode cX11_ask 11 = .ok (.ireturn, 1) := by decide +kernel
theorem dX11_ask_12 : decode cX11_ask 12 = .ok (.aload_n 0, 1) := by decide +kernel
theorem dX11_ask_13 : decode cX11_ask 13 = .ok (.getfield 54, 3) := by decide +kernel
theorem dX11_ask_16 : decode cX11_ask 16 = .ok (.aload_n 0, 1) := by decide +kernel
theorem dX11_ask_17 : decode cX11_ask 17 = .ok (.getfield 47, 3) := by decide +kernel
theorem dX11_ask_20 : decode cX11_ask 20 = .ok (.invokevirtual 195, 3) := by decide +kernel
theorem dX11_ask_23 : decode cX11_ask 23 = .ok (.aload_n 0, 1) := by decide +kernel
theorem dX11_ask_24 : decode cX11_ask 24 = .ok (.getfield 54, 3) := by decide +kernel
theorem dX11_ask_27 : decode cX11_ask 27 = .ok (.getfield 199, 3) := by decide +kernel
theorem dX11_ask_30 : decode cX11_ask 30 = .ok (.ifCond .ne 6, 3) := by decide +kernel
theorem dX11_ask_33 : decode cX11_ask 33 = .ok (.bipush (-6), 2) := by decide +kernel
theorem dX11_ask_35 : decode cX11_ask 35 = .ok (.ireturn, 1) := by decide +kernel
theorem dX11_ask_36 : decode cX11_ask 36 = .ok (.aload_n 0, 1) := by decide +kernel
theorem dX11_ask_37 : decode cX11_ask 37 = .ok (.getfield 54, 3) := by decide +kernel
theorem dX11_ask_40 : decode cX11_ask 40 = .ok (.invokevirtual 203, 3) := by decide +kernel
theorem dX11_ask_43 : decode cX11_ask 43 = .ok (.istore_n 2, 1) := by decide +kernel
theorem dX11_ask_44 : decode cX11_ask 44 = .ok (.iload_n 1, 1) := by decide +kernel
theorem dX11_ask_45 : decode cX11_ask 45 = .ok (.ifCond .ne 7, 3) := by decide +kernel
theorem dX11_ask_48 : decode cX11_ask 48 = .ok (.iload_n 2, 1) := by decide +kernel
theorem dX11_ask_49 : decode cX11_ask 49 = .ok (.goto 11, 3) := by decide +kernel
theorem dX11_ask_52 : decode cX11_ask 52 = .ok (.aload_n 0, 1) := by decide +kernel
theorem dX11_ask_53 : decode cX11_ask 53 = .ok (.getfield 54, 3) := by decide +kernel
theorem dX11_ask_56 : decode cX11_ask 56 = .ok (.iload_n 2, 1) := by decide +kernel
theorem dX11_ask_57 : decode cX11_ask 57 = .ok (.invokevirtual 206, 3) := by decide +kernel
theorem dX11_ask_60 : decode cX11_ask 60 = .ok (.ireturn, 1) := by decide +kernel
set_option maxRecDepth 20000 in
theorem ggX11_turn_X11_isWithin : GoodIn wsX11_turn wsX11_isWithin := goodIn_r _ [5] (by decide +kernel) (by decide +kernel)
set_option maxRecDepth 20000 in
theorem gX11_turn_X11_isWithin : GoodIn wsX11_turn (va_wsS RX11 84 yX11_isWithin wsX11_isWithin) := goodIn_app (goodIn_of _ (by decide +kernel)) ggX11_turn_X11_isWithin
set_option maxRecDepth 20000 in
theorem ggX11_turn_X10_winningTurn : GoodIn wsX11_turn wsX10_winningTurn := goodIn_r _ [10, 11, 22] (by decide +kernel) (by decide +kernel)
set_option maxRecDepth 20000 in
theorem gX11_turn_X10_winningTurn : GoodIn wsX11_turn (wsV RX11 209 RX10 yX10_winningTurn wsX10_winningTurn) := goodIn_app (goodIn_of _ (by decide +kernel)) ggX11_turn_X10_winningTurn
theorem dX11_turn_0 : decode cX11_turn 0 = .ok (.iload_n 1, 1) := by decide +kernel
theorem dX11_turn_1 : decode cX11_turn 1 = .ok (.iconst 0, 1) := by decide +kernel
theorem dX11_turn_2 : decode cX11_turn 2 = .ok (.bipush 99, 2) := by decide +kernel
theorem dX11_turn_4 : decode cX11_turn 4 = .ok (.invokestatic 84, 3) := by decide +kernel
theorem dX11_turn_7 : decode cX11_turn 7 = .ok (.ifCond .eq 22, 3) := by decide +kernel
theorem dX11_turn_10 : decode cX11_turn 10 = .ok (.iload_n 2, 1) := by decide +kernel
theorem dX11_turn_11 : decode cX11_turn 11 = .ok (.iconst 1, 1) := by decide +kernel
theorem dX11_turn_12 : decode cX11_turn 12 = .ok (.bipush 6, 2) := by decide +kernel
theorem dX11_turn_14 : decode cX11_turn 14 = .ok (.invokestatic 84, 3) := by decide +kernel
theorem dX11_turn_17 : decode cX11_turn 17 = .ok (.ifCond .eq 12, 3) := by decide +kernel
theorem dX11_turn_20 : decode cX11_turn 20 = .ok (.iload_n 3, 1) := by decide +kernel
theorem dX11_turn_21 : decode cX11_turn 21 = .ok (.iconst 0, 1) := by decide +kernel
theorem dX11_turn_22 : decode cX11_turn 22 = .ok (.iconst 1, 1) := by decide +kernel
theorem dX11_turn_23 : decode cX11_turn 23 = .ok (.invokestatic 84, 3) := by decide +kernel
theorem dX11_turn_26 : decode cX11_turn 26 = .ok (.ifCond .ne 6, 3) := by decide +kernel
theorem dX11_turn_29 : decode cX11_turn 29 = .ok (.bipush (-2), 2) := by decide +kernel
theorem dX11_turn_31 : decode cX11_turn 31 = .ok (.ireturn, 1) := by decide +kernel
theorem dX11_turn_32 : decode cX11_turn 32 = .ok (.aload_n 0, 1) := by decide +kernel
theorem dX11_turn_33 : decode cX11_turn 33 = .ok (.getfield 61, 3) := by decide +kernel
theorem dX11_turn_36 : decode cX11_turn 36 = .ok (.iload_n 1, 1) := by decide +kernel
theorem dX11_turn_37 : decode cX11_turn 37 = .ok (.iload_n 2, 1) := by decide +kernel
theorem dX11_turn_38 : decode cX11_turn 38 = .ok (.invokevirtual 209, 3) := by decide +kernel
theorem dX11_turn_41 : decode cX11_turn 41 = .ok (.istore 4, 2) := by decide +kernel
theorem dX11_turn_43 : decode cX11_turn 43 = .ok (.iload_n 3, 1) := by decide +kernel
theorem dX11_turn_44 : decode cX11_turn 44 = .ok (.iconst 1, 1) := by decide +kernel
theorem dX11_turn_45 : decode cX11_turn 45 = .ok (.if_icmp .ne 6, 3) := by decide +kernel
theorem dX11_turn_48 : decode cX11_turn 48 = .ok (.iload 4, 2) := by decide +kernel
theorem dX11_turn_50 : decode cX11_turn 50 = .ok (.ireturn, 1) := by decide +kernel
theorem dX11_turn_51 : decode cX11_turn 51 = .ok (.iload 4, 2) := by decide +kernel
theorem dX11_turn_53 : decode cX11_turn 53 = .ok (.bipush (-6), 2) := by decide +kernel
theorem dX11_turn_55 : decode cX11_turn 55 = .ok (.if_icmp .ne 7, 3) := by decide +kernel
theorem dX11_turn_58 : decode cX11_turn 58 = .ok (.iconst 0, 1) := by decide +kernel
theorem dX11_turn_59 : decode cX11_turn 59 = .ok (.goto 4, 3) := by decide +kernel
theorem dX11_turn_62 : decode cX11_turn 62 = .ok (.iconst 1, 1) := by decide +kernel
theorem dX11_turn_63 : decode cX11_turn 63 = .ok (.ireturn, 1) := by decide +kernel
set_option maxRecDepth 20000 in
theorem ggX11_year_X11_isWithin : GoodIn wsX11_year wsX11_isWithin := goodIn_r _ [6] (by decide +kernel) (by decide +kernel)
set_option maxRecDepth 20000 in
theorem gX11_year_X11_isWithin : GoodIn wsX11_year (va_wsS RX11 84 yX11_isWithin wsX11_isWithin) := goodIn_app (goodIn_of _ (by decide +kernel)) ggX11_year_X11_isWithin
set_option maxRecDepth 20000 in
theorem ggX11_year_X4_playYear : GoodIn wsX11_year wsX4_playYear := goodIn_r _ [11, 12, 13, 14, 15, 10, 16, 17, 18, 19, 20, 21, 22, 23, 24, 25, 26, 27, 28, 29, 30, 31, 32, 33, 34, 35, 36, 37, 38, 39, 40, 41, 42, 43, 44, 45, 46, 4, 5, 6, 47, 48, 49, 50, 51, 52, 53, 54, 55, 56, 57, 58, 59, 60, 61, 62, 63, 64, 65, 66, 67, 68, 69, 70, 71, 72, 73, 74, 75, 76, 77, 78, 79, 80, 81, 82, 83, 84, 85, 86, 87, 88, 89, 90, 91, 92, 93, 94, 95, 96, 97, 98, 99, 100, 101, 116, 117, 118, 119, 120, 121, 122, 123, 124, 125, 126] (by decide +kernel) (by decide +kernel)
set_option maxRecDepth 20000 in
theorem gX11_year_X4_playYear : GoodIn wsX11_year (wsV RX11 212 RX4 yX4_playYear wsX4_playYear) := goodIn_app (goodIn_of _ (by decide +kernel)) ggX11_year_X4_playYear
set_option maxRecDepth 20000 in
theorem ggX11_year_X9_allParts : GoodIn wsX11_year wsX9_allParts := goodIn_r _ [105, 28, 68, 69, 70, 71, 72, 73, 74, 75, 122, 123, 124, 125, 126] (by decide +kernel) (by decide +kernel)
set_option maxRecDepth 20000 in
theorem gX11_year_X9_allParts : GoodIn wsX11_year (wsV RX11 216 RX9 yX9_allParts wsX9_allParts) := goodIn_app (goodIn_of _ (by decide +kernel)) ggX11_year_X9_allParts
theorem dX11_year_0 : decode cX11_year 0 = .ok (.iload_n 1, 1) := by decide +kernel
theorem dX11_year_1 : decode cX11_year 1 = .ok (.iconst 0, 1) := by decide +kernel
theorem dX11_year_2 : decode cX11_year 2 = .ok (.sipush 9999, 3) := by decide +kernel
theorem dX11_year_5 : decode cX11_year 5 = .ok (.invokestatic 84, 3) := by decide +kernel
theorem dX11_year_8 : decode cX11_year 8 = .ok (.ifCond .eq 22, 3) := by decide +kernel
theorem dX11_year_11 : decode cX11_year 11 = .ok (.iload_n 2, 1) := by decide +kernel
theorem dX11_year_12 : decode cX11_year 12 = .ok (.iconst 1, 1) := by decide +kernel
theorem dX11_year_13 : decode cX11_year 13 = .ok (.bipush 99, 2) := by decide +kernel
theorem dX11_year_15 : decode cX11_year 15 = .ok (.invokestatic 84, 3) := by decide +kernel
theorem dX11_year_18 : decode cX11_year 18 = .ok (.ifCond .eq 12, 3) := by decide +kernel
theorem dX11_year_21 : decode cX11_year 21 = .ok (.iload_n 3, 1) := by decide +kernel
theorem dX11_year_22 : decode cX11_year 22 = .ok (.iconst 0, 1) := by decide +kernel
theorem dX11_year_23 : decode cX11_year 23 = .ok (.iconst 2, 1) := by decide +kernel
theorem dX11_year_24 : decode cX11_year 24 = .ok (.invokestatic 84, 3) := by decide +kernel
theorem dX11_year_27 : decode cX11_year 27 = .ok (.ifCond .ne 6, 3) := by decide +kernel
theorem dX11_year_30 : decode cX11_year 30 = .ok (.bipush (-2), 2) := by decide +kernel
theorem dX11_year_32 : decode cX11_year 32 = .ok (.ireturn, 1) := by decide +kernel
theorem dX11_year_33 : decode cX11_year 33 = .ok (.aload_n 0, 1) := by decide +kernel
theorem dX11_year_34 : decode cX11_year 34 = .ok (.getfield 26, 3) := by decide +kernel
theorem dX11_year_37 : decode cX11_year 37 = .ok (.iload_n 1, 1) := by decide +kernel
theorem dX11_year_38 : decode cX11_year 38 = .ok (.iload_n 2, 1) := by decide +kernel
theorem dX11_year_39 : decode cX11_year 39 = .ok (.aload_n 0, 1) := by decide +kernel
theorem dX11_year_40 : decode cX11_year 40 = .ok (.getfield 10, 3) := by decide +kernel
theorem dX11_year_43 : decode cX11_year 43 = .ok (.invokevirtual 212, 3) := by decide +kernel
theorem dX11_year_46 : decode cX11_year 46 = .ok (.iload_n 3, 1) := by decide +kernel
theorem dX11_year_47 : decode cX11_year 47 = .ok (.lookupswitch 47 #[(0, 25), (1, 36)], 25) := by decide +kernel
theorem dX11_year_72 : decode cX11_year 72 = .ok (.aload_n 0, 1) := by decide +kernel
theorem dX11_year_73 : decode cX11_year 73 = .ok (.getfield 26, 3) := by decide +kernel
theorem dX11_year_76 : decode cX11_year 76 = .ok (.getfield 128, 3) := by decide +kernel
theorem dX11_year_79 : decode cX11_year 79 = .ok (.getfield 98, 3) := by decide +kernel
theorem dX11_year_82 : decode cX11_year 82 = .ok (.ireturn, 1) := by decide +kernel
theorem dX11_year_83 : decode cX11_year 83 = .ok (.aload_n 0, 1) := by decide +kernel
theorem dX11_year_84 : decode cX11_year 84 = .ok (.getfield 26, 3) := by decide +kernel
theorem dX11_year_87 : decode cX11_year 87 = .ok (.getfield 128, 3) := by decide +kernel
theorem dX11_year_90 : decode cX11_year 90 = .ok (.invokevirtual 216, 3) := by decide +kernel
theorem dX11_year_93 : decode cX11_year 93 = .ok (.ireturn, 1) := by decide +kernel
theorem dX11_year_94 : decode cX11_year 94 = .ok (.aload_n 0, 1) := by decide +kernel
theorem dX11_year_95 : decode cX11_year 95 = .ok (.getfield 26, 3) := by decide +kernel
theorem dX11_year_98 : decode cX11_year 98 = .ok (.getfield 128, 3) := by decide +kernel
theorem dX11_year_101 : decode cX11_year 101 = .ok (.getfield 88, 3) := by decide +kernel
theorem dX11_year_104 : decode cX11_year 104 = .ok (.iconst 0, 1) := by decide +kernel
theorem dX11_year_105 : decode cX11_year 105 = .ok (.iaload, 1) := by decide +kernel
theorem dX11_year_106 : decode cX11_year 106 = .ok (.ireturn, 1) := by decide +kernel
set_option maxRecDepth 20000 in
theorem ggX11_image_X11_isWithin : GoodIn wsX11_image wsX11_isWithin := goodIn_r _ [6] (by decide +kernel) (by decide +kernel)
set_option maxRecDepth 20000 in
theorem gX11_image_X11_isWithin : GoodIn wsX11_image (va_wsS RX11 84 yX11_isWithin wsX11_isWithin) := goodIn_app (goodIn_of _ (by decide +kernel)) ggX11_image_X11_isWithin
set_option maxRecDepth 20000 in
theorem ggX11_image_X11_imageAt : GoodIn wsX11_image wsX11_imageAt := goodIn_r _ [10, 11, 12, 39, 40, 41, 42, 43, 44, 45, 46, 47, 48] (by decide +kernel) (by decide +kernel)
set_option maxRecDepth 20000 in
theorem gX11_image_X11_imageAt : GoodIn wsX11_image (wsV RX11 219 RX11 yX11_imageAt wsX11_imageAt) := goodIn_app (goodIn_of _ (by decide +kernel)) ggX11_image_X11_imageAt
set_option maxRecDepth 20000 in
theorem ggX11_image_X3_keep : GoodIn wsX11_image wsX3_keep := goodIn_r _ [17, 18, 19, 20, 21, 22, 23, 24, 25, 26, 27, 28, 29, 30, 31, 32, 33, 34, 35, 36, 37, 38, 49, 50, 51, 52, 53, 54, 55, 56, 57, 58, 59] (by decide +kernel) (by decide +kernel)
set_option maxRecDepth 20000 in
theorem gX11_image_X3_keep : GoodIn wsX11_image (wsV RX11 223 RX3 yX3_keep wsX3_keep) := goodIn_app (goodIn_of _ (by decide +kernel)) ggX11_image_X3_keep
theorem dX11_image_0 : decode cX11_image 0 = .ok (.iload_n 1, 1) := by decide +kernel
theorem dX11_image_1 : decode cX11_image 1 = .ok (.iconst 0, 1) := by decide +kernel
theorem dX11_image_2 : decode cX11_image 2 = .ok (.iconst 1, 1) := by decide +kernel
theorem dX11_image_3 : decode cX11_image 3 = .ok (.invokestatic 84, 3) := by decide +kernel
theorem dX11_image_6 : decode cX11_image 6 = .ok (.ifCond .ne 6, 3) := by decide +kernel
theorem dX11_image_9 : decode cX11_image 9 = .ok (.bipush (-2), 2) := by decide +kernel
theorem dX11_image_11 : decode cX11_image 11 = .ok (.ireturn, 1) := by decide +kernel
theorem dX11_image_12 : decode cX11_image 12 = .ok (.aload_n 0, 1) := by decide +kernel
theorem dX11_image_13 : decode cX11_image 13 = .ok (.iload_n 1, 1) := by decide +kernel
theorem dX11_image_14 : decode cX11_image 14 = .ok (.invokevirtual 219, 3) := by decide +kernel
theorem dX11_image_17 : decode cX11_image 17 = .ok (.aload_n 0, 1) := by decide +kernel
theorem dX11_image_18 : decode cX11_image 18 = .ok (.getfield 10, 3) := by decide +kernel
theorem dX11_image_21 : decode cX11_image 21 = .ok (.aload_n 0, 1) := by decide +kernel
theorem dX11_image_22 : decode cX11_image 22 = .ok (.getfield 47, 3) := by decide +kernel
theorem dX11_image_25 : decode cX11_image 25 = .ok (.invokevirtual 223, 3) := by decide +kernel
theorem dX11_image_28 : decode cX11_image 28 = .ok (.iconst 1, 1) := by decide +kernel
theorem dX11_image_29 : decode cX11_image 29 = .ok (.ireturn, 1) := by decide +kernel
set_option maxRecDepth 20000 in
theorem ggX11_restore_X11_isWithin : GoodIn wsX11_restore wsX11_isWithin := goodIn_r _ [6] (by decide +kernel) (by decide +kernel)
set_option maxRecDepth 20000 in
theorem gX11_restore_X11_isWithin : GoodIn wsX11_restore (va_wsS RX11 84 yX11_isWithin wsX11_isWithin) := goodIn_app (goodIn_of _ (by decide +kernel)) ggX11_restore_X11_isWithin
set_option maxRecDepth 20000 in
theorem ggX11_restore_X11_imageAt : GoodIn wsX11_restore wsX11_imageAt := goodIn_r _ [10, 11, 12, 34, 35, 36, 37, 38, 39, 40, 41, 42, 43] (by decide +kernel) (by decide +kernel)
set_option maxRecDepth 20000 in
theorem gX11_restore_X11_imageAt : GoodIn wsX11_restore (wsV RX11 219 RX11 yX11_imageAt wsX11_imageAt) := goodIn_app (goodIn_of _ (by decide +kernel)) ggX11_restore_X11_imageAt
set_option maxRecDepth 20000 in
theorem ggX11_restore_X9_copyFrom : GoodIn wsX11_restore wsX9_copyFrom := goodIn_r _ [17, 18, 19, 20, 21, 22, 44, 45, 46, 47, 48] (by decide +kernel) (by decide +kernel)
set_option maxRecDepth 20000 in
theorem gX11_restore_X9_copyFrom : GoodIn wsX11_restore (wsV RX11 150 RX9 yX9_copyFrom wsX9_copyFrom) := goodIn_app (goodIn_of _ (by decide +kernel)) ggX11_restore_X9_copyFrom
set_option maxRecDepth 20000 in
theorem ggX11_restore_X7_copyFrom : GoodIn wsX11_restore wsX7_copyFrom := goodIn_r _ [27, 28, 29, 30, 49, 50, 51] (by decide +kernel) (by decide +kernel)
set_option maxRecDepth 20000 in
theorem gX11_restore_X7_copyFrom : GoodIn wsX11_restore (wsV RX11 233 RX7 yX7_copyFrom wsX7_copyFrom) := goodIn_app (goodIn_of _ (by decide +kernel)) ggX11_restore_X7_copyFrom
theorem dX11_restore_0 : decode cX11_restore 0 = .ok (.iload_n 1, 1) := by decide +kernel
theorem dX11_restore_1 : decode cX11_restore 1 = .ok (.iconst 0, 1) := by decide +kernel
theorem dX11_restore_2 : decode cX11_restore 2 = .ok (.iconst 1, 1) := by decide +kernel
theorem dX11_restore_3 : decode cX11_restore 3 = .ok (.invokestatic 84, 3) := by decide +kernel
theorem dX11_restore_6 : decode cX11_restore 6 = .ok (.ifCond .ne 6, 3) := by decide +kernel
theorem dX11_restore_9 : decode cX11_restore 9 = .ok (.bipush (-2), 2) := by decide +kernel
theorem dX11_restore_11 : decode cX11_restore 11 = .ok (.ireturn, 1) := by decide +kernel
theorem dX11_restore_12 : decode cX11_restore 12 = .ok (.aload_n 0, 1) := by decide +kernel
theorem dX11_restore_13 : decode cX11_restore 13 = .ok (.iload_n 1, 1) := by decide +kernel
theorem dX11_restore_14 : decode cX11_restore 14 = .ok (.invokevirtual 219, 3) := by decide +kernel
theorem dX11_restore_17 : decode cX11_restore 17 = .ok (.astore_n 2, 1) := by decide +kernel
theorem dX11_restore_18 : decode cX11_restore 18 = .ok (.aload_n 2, 1) := by decide +kernel
theorem dX11_restore_19 : decode cX11_restore 19 = .ok (.getfield 227, 3) := by decide +kernel
theorem dX11_restore_22 : decode cX11_restore 22 = .ok (.ifCond .ne 6, 3) := by decide +kernel
theorem dX11_restore_25 : decode cX11_restore 25 = .ok (.bipush (-3), 2) := by decide +kernel
theorem dX11_restore_27 : decode cX11_restore 27 = .ok (.ireturn, 1) := by decide +kernel
theorem dX11_restore_28 : decode cX11_restore 28 = .ok (.aload_n 0, 1) := by decide +kernel
theorem dX11_restore_29 : decode cX11_restore 29 = .ok (.getfield 10, 3) := by decide +kernel
theorem dX11_restore_32 : decode cX11_restore 32 = .ok (.aload_n 2, 1) := by decide +kernel
theorem dX11_restore_33 : decode cX11_restore 33 = .ok (.getfield 231, 3) := by decide +kernel
theorem dX11_restore_36 : decode cX11_restore 36 = .ok (.invokevirtual 150, 3) := by decide +kernel
theorem dX11_restore_39 : decode cX11_restore 39 = .ok (.aload_n 0, 1) := by decide +kernel
theorem dX11_restore_40 : decode cX11_restore 40 = .ok (.getfield 47, 3) := by decide +kernel
theorem dX11_restore_43 : decode cX11_restore 43 = .ok (.aload_n 2, 1) := by decide +kernel
theorem dX11_restore_44 : decode cX11_restore 44 = .ok (.getfield 232, 3) := by decide +kernel
theorem dX11_restore_47 : decode cX11_restore 47 = .ok (.invokevirtual 233, 3) := by decide +kernel
theorem dX11_restore_50 : decode cX11_restore 50 = .ok (.iconst 1, 1) := by decide +kernel
theorem dX11_restore_51 : decode cX11_restore 51 = .ok (.ireturn, 1) := by decide +kernel
set_option maxRecDepth 20000 in
theorem ggX11_told_X11_toldOfAll : GoodIn wsX11_told wsX11_toldOfAll := goodIn_r _ [5, 6, 7, 8, 25, 26, 27, 28, 29, 30, 31, 32, 33, 34, 35, 36, 37, 38, 39, 40, 41, 42, 43, 44] (by decide +kernel) (by decide +kernel)
set_option maxRecDepth 20000 in
theorem gX11_told_X11_toldOfAll : GoodIn wsX11_told (wsV RX11 235 RX11 yX11_toldOfAll wsX11_toldOfAll) := goodIn_app (goodIn_of _ (by decide +kernel)) ggX11_told_X11_toldOfAll
set_option maxRecDepth 20000 in
theorem ggX11_told_X11_toldOfPlayer : GoodIn wsX11_told wsX11_toldOfPlayer := goodIn_r _ [12, 7, 13, 14, 4, 15, 16, 17, 18, 19, 20, 21, 22, 23, 24, 25, 26, 27, 28, 29, 30, 31, 32, 33, 34, 37, 38, 39, 40, 41] (by decide +kernel) (by decide +kernel)
set_option maxRecDepth 20000 in
theorem gX11_told_X11_toldOfPlayer : GoodIn wsX11_told (wsV RX11 238 RX11 yX11_toldOfPlayer wsX11_toldOfPlayer) := goodIn_app (goodIn_of _ (by decide +kernel)) ggX11_told_X11_toldOfPlayer
theorem dX11_told_0 : decode cX11_told 0 = .ok (.iload_n 1, 1) := by decide +kernel
theorem dX11_told_1 : decode cX11_told 1 = .ok (.ifCond .ge 6, 3) := by decide +kernel
theorem dX11_told_4 : decode cX11_told 4 = .ok (.bipush (-2), 2) := by decide +kernel
theorem dX11_told_6 : decode cX11_told 6 = .ok (.ireturn, 1) := by decide +kernel
theorem dX11_told_7 : decode cX11_told 7 = .ok (.iload_n 1, 1) := by decide +kernel
theorem dX11_told_8 : decode cX11_told 8 = .ok (.bipush 10, 2) := by decide +kernel
theorem dX11_told_10 : decode cX11_told 10 = .ok (.if_icmp .ge 11, 3) := by decide +kernel
theorem dX11_told_13 : decode cX11_told 13 = .ok (.aload_n 0, 1) := by decide +kernel
theorem dX11_told_14 : decode cX11_told 14 = .ok (.iload_n 1, 1) := by decide +kernel
theorem dX11_told_15 : decode cX11_told 15 = .ok (.invokevirtual 235, 3) := by decide +kernel
theorem dX11_told_18 : decode cX11_told 18 = .ok (.goto 15, 3) := by decide +kernel
theorem dX11_told_21 : decode cX11_told 21 = .ok (.aload_n 0, 1) := by decide +kernel
theorem dX11_told_22 : decode cX11_told 22 = .ok (.iload_n 1, 1) := by decide +kernel
theorem dX11_told_23 : decode cX11_told 23 = .ok (.bipush 10, 2) := by decide +kernel
theorem dX11_told_25 : decode cX11_told 25 = .ok (.idiv, 1) := by decide +kernel
theorem dX11_told_26 : decode cX11_told 26 = .ok (.iload_n 1, 1) := by decide +kernel
theorem dX11_told_27 : decode cX11_told 27 = .ok (.bipush 10, 2) := by decide +kernel
theorem dX11_told_29 : decode cX11_told 29 = .ok (.irem, 1) := by decide +kernel
theorem dX11_told_30 : decode cX11_told 30 = .ok (.invokevirtual 238, 3) := by decide +kernel
theorem dX11_told_33 : decode cX11_told 33 = .ok (.ireturn, 1) := by decide +kernel
theorem dX11_toldOfAll_0 : decode cX11_toldOfAll 0 = .ok (.iload_n 1, 1) := by decide +kernel
theorem dX11_toldOfAll_1 : decode cX11_toldOfAll 1 = .ok (.tableswitch 63 0 3 #[31, 39, 47, 55], 31) := by decide +kernel
theorem dX11_toldOfAll_32 : decode cX11_toldOfAll 32 = .ok (.aload_n 0, 1) := by decide +kernel
theorem dX11_toldOfAll_33 : decode cX11_toldOfAll 33 = .ok (.getfield 19, 3) := by decide +kernel
theorem dX11_toldOfAll_36 : decode cX11_toldOfAll 36 = .ok (.getfield 105, 3) := by decide +kernel
theorem dX11_toldOfAll_39 : decode cX11_toldOfAll 39 = .ok (.ireturn, 1) := by decide +kernel
theorem dX11_toldOfAll_40 : decode cX11_toldOfAll 40 = .ok (.aload_n 0, 1) := by decide +kernel
theorem dX11_toldOfAll_41 : decode cX11_toldOfAll 41 = .ok (.getfield 10, 3) := by decide +kernel
theorem dX11_toldOfAll_44 : decode cX11_toldOfAll 44 = .ok (.getfield 98, 3) := by decide +kernel
theorem dX11_toldOfAll_47 : decode cX11_toldOfAll 47 = .ok (.ireturn, 1) := by decide +kernel
theorem dX11_toldOfAll_48 : decode cX11_toldOfAll 48 = .ok (.aload_n 0, 1) := by decide +kernel
theorem dX11_toldOfAll_49 : decode cX11_toldOfAll 49 = .ok (.getfield 10, 3) := by decide +kernel
theorem dX11_toldOfAll_52 : decode cX11_toldOfAll 52 = .ok (.getfield 135, 3) := by decide +kernel
theorem dX11_toldOfAll_55 : decode cX11_toldOfAll 55 = .ok (.ireturn, 1) := by decide +kernel
theorem dX11_toldOfAll_56 : decode cX11_toldOfAll 56 = .ok (.aload_n 0, 1) := by decide +kernel
theorem dX11_toldOfAll_57 : decode cX11_toldOfAll 57 = .ok (.getfield 47, 3) := by decide +kernel
theorem dX11_toldOfAll_60 : decode cX11_toldOfAll 60 = .ok (.getfield 193, 3) := by decide +kernel
theorem dX11_toldOfAll_63 : decode cX11_toldOfAll 63 = .ok (.ireturn, 1) := by decide +kernel
theorem dX11_toldOfAll_64 : decode cX11_toldOfAll 64 = .ok (.bipush (-2), 2) := by decide +kernel
theorem dX11_toldOfAll_66 : decode cX11_toldOfAll 66 = .ok (.ireturn, 1) := by decide +kernel
set_option maxRecDepth 20000 in
theorem ggX11_toldOfPlayer_X11_isPlayer : GoodIn wsX11_toldOfPlayer wsX11_isPlayer := goodIn_r _ [5, 6, 7, 4, 8] (by decide +kernel) (by decide +kernel)
set_option maxRecDepth 20000 in
theorem gX11_toldOfPlayer_X11_isPlayer : GoodIn wsX11_toldOfPlayer (va_wsS RX11 75 yX11_isPlayer wsX11_isPlayer) := goodIn_app (goodIn_of _ (by decide +kernel)) ggX11_toldOfPlayer_X11_isPlayer
set_option maxRecDepth 20000 in
theorem ggX11_toldOfPlayer_X9_isIn : GoodIn wsX11_toldOfPlayer wsX9_isIn := goodIn_r _ [13, 14, 25, 26, 27, 28, 29] (by decide +kernel) (by decide +kernel)
set_option maxRecDepth 20000 in
theorem gX11_toldOfPlayer_X9_isIn : GoodIn wsX11_toldOfPlayer (wsV RX11 95 RX9 yX9_isIn wsX9_isIn) := goodIn_app (goodIn_of _ (by decide +kernel)) ggX11_toldOfPlayer_X9_isIn
theorem dX11_toldOfPlayer_0 : decode cX11_toldOfPlayer 0 = .ok (.iload_n 2, 1) := by decide +kernel
theorem dX11_toldOfPlayer_1 : decode cX11_toldOfPlayer 1 = .ok (.invokestatic 75, 3) := by decide +kernel
theorem dX11_toldOfPlayer_4 : decode cX11_toldOfPlayer 4 = .ok (.ifCond .ne 6, 3) := by decide +kernel
theorem dX11_toldOfPlayer_7 : decode cX11_toldOfPlayer 7 = .ok (.bipush (-2), 2) := by decide +kernel
theorem dX11_toldOfPlayer_9 : decode cX11_toldOfPlayer 9 = .ok (.ireturn, 1) := by decide +kernel
theorem dX11_toldOfPlayer_10 : decode cX11_toldOfPlayer 10 = .ok (.iload_n 1, 1) := by decide +kernel
theorem dX11_toldOfPlayer_11 : decode cX11_toldOfPlayer 11 = .ok (.tableswitch 62 1 3 #[25, 35, 45], 25) := by decide +kernel
theorem dX11_toldOfPlayer_36 : decode cX11_toldOfPlayer 36 = .ok (.aload_n 0, 1) := by decide +kernel
theorem dX11_toldOfPlayer_37 : decode cX11_toldOfPlayer 37 = .ok (.getfield 10, 3) := by decide +kernel
theorem dX11_toldOfPlayer_40 : decode cX11_toldOfPlayer 40 = .ok (.getfield 92, 3) := by decide +kernel
theorem dX11_toldOfPlayer_43 : decode cX11_toldOfPlayer 43 = .ok (.iload_n 2, 1) := by decide +kernel
theorem dX11_toldOfPlayer_44 : decode cX11_toldOfPlayer 44 = .ok (.iaload, 1) := by decide +kernel
theorem dX11_toldOfPlayer_45 : decode cX11_toldOfPlayer 45 = .ok (.ireturn, 1) := by decide +kernel
theorem dX11_toldOfPlayer_46 : decode cX11_toldOfPlayer 46 = .ok (.aload_n 0, 1) := by decide +kernel
theorem dX11_toldOfPlayer_47 : decode cX11_toldOfPlayer 47 = .ok (.getfield 10, 3) := by decide +kernel
theorem dX11_toldOfPlayer_50 : decode cX11_toldOfPlayer 50 = .ok (.getfield 88, 3) := by decide +kernel
theorem dX11_toldOfPlayer_53 : decode cX11_toldOfPlayer 53 = .ok (.iload_n 2, 1) := by decide +kernel
theorem dX11_toldOfPlayer_54 : decode cX11_toldOfPlayer 54 = .ok (.iaload, 1) := by decide +kernel
theorem dX11_toldOfPlayer_55 : decode cX11_toldOfPlayer 55 = .ok (.ireturn, 1) := by decide +kernel
theorem dX11_toldOfPlayer_56 : decode cX11_toldOfPlayer 56 = .ok (.aload_n 0, 1) := by decide +kernel
theorem dX11_toldOfPlayer_57 : decode cX11_toldOfPlayer 57 = .ok (.getfield 10, 3) := by decide +kernel
theorem dX11_toldOfPlayer_60 : decode cX11_toldOfPlayer 60 = .ok (.iload_n 2, 1) := by decide +kernel
theorem dX11_toldOfPlayer_61 : decode cX11_toldOfPlayer 61 = .ok (.invokevirtual 95, 3) := by decide +kernel
theorem dX11_toldOfPlayer_64 : decode cX11_toldOfPlayer 64 = .ok (.ifCond .eq 7, 3) := by decide +kernel
theorem dX11_toldOfPlayer_67 : decode cX11_toldOfPlayer 67 = .ok (.iconst 1, 1) := by decide +kernel
theorem dX11_toldOfPlayer_68 : decode cX11_toldOfPlayer 68 = .ok (.goto 4, 3) := by decide +kernel
theorem dX11_toldOfPlayer_71 : decode cX11_toldOfPlayer 71 = .ok (.iconst 0, 1) := by decide +kernel
theorem dX11_toldOfPlayer_72 : decode cX11_toldOfPlayer 72 = .ok (.ireturn, 1) := by decide +kernel
theorem dX11_toldOfPlayer_73 : decode cX11_toldOfPlayer 73 = .ok (.bipush (-2), 2) := by decide +kernel
theorem dX11_toldOfPlayer_75 : decode cX11_toldOfPlayer 75 = .ok (.ireturn, 1) := by decide +kernel
theorem dX11_imageAt_0 : decode cX11_imageAt 0 = .ok (.iload_n 1, 1) := by decide +kernel
theorem dX11_imageAt_1 : decode cX11_imageAt 1 = .ok (.ifCond .ne 10, 3) := by decide +kernel
theorem dX11_imageAt_4 : decode cX11_imageAt 4 = .ok (.aload_n 0, 1) := by decide +kernel
theorem dX11_imageAt_5 : decode cX11_imageAt 5 = .ok (.getfield 68, 3) := by decide +kernel
theorem dX11_imageAt_8 : decode cX11_imageAt 8 = .ok (.goto 7, 3) := by decide +kernel
theorem dX11_imageAt_11 : decode cX11_imageAt 11 = .ok (.aload_n 0, 1) := by decide +kernel
theorem dX11_imageAt_12 : decode cX11_imageAt 12 = .ok (.getfield 72, 3) := by decide +kernel
theorem dX11_imageAt_15 : decode cX11_imageAt 15 = .ok (.areturn, 1) := by decide +kernel
theorem dX11_lowestTerms_0 : decode cX11_lowestTerms 0 = .ok (.lload_n 0, 1) := by decide +kernel
theorem dX11_lowestTerms_1 : decode cX11_lowestTerms 1 = .ok (.lstore 4, 2) := by decide +kernel
theorem dX11_lowestTerms_3 : decode cX11_lowestTerms 3 = .ok (.lconst 1, 1) := by decide +kernel
theorem dX11_lowestTerms_4 : decode cX11_lowestTerms 4 = .ok (.lstore 6, 2) := by decide +kernel
theorem dX11_lowestTerms_6 : decode cX11_lowestTerms 6 = .ok (.iconst 0, 1) := by decide +kernel
theorem dX11_lowestTerms_7 : decode cX11_lowestTerms 7 = .ok (.istore 8, 2) := by decide +kernel
theorem dX11_lowestTerms_9 : decode cX11_lowestTerms 9 = .ok (.iload 8, 2) := by decide +kernel
theorem dX11_lowestTerms_11 : decode cX11_lowestTerms 11 = .ok (.iload_n 2, 1) := by decide +kernel
theorem dX11_lowestTerms_12 : decode cX11_lowestTerms 12 = .ok (.if_icmp .ge 17, 3) := by decide +kernel
theorem dX11_lowestTerms_15 : decode cX11_lowestTerms 15 = .ok (.lload 6, 2) := by decide +kernel
theorem dX11_lowestTerms_17 : decode cX11_lowestTerms 17 = .ok (.ldc2_w 241, 3) := by decide +kernel
theorem dX11_lowestTerms_20 : decode cX11_lowestTerms 20 = .ok (.lmul, 1) := by decide +kernel
theorem dX11_lowestTerms_21 : decode cX11_lowestTerms 21 = .ok (.lstore 6, 2) := by decide +kernel
theorem dX11_lowestTerms_23 : decode cX11_lowestTerms 23 = .ok (.iinc 8 1, 3) := by decide +kernel
theorem dX11_lowestTerms_26 : decode cX11_lowestTerms 26 = .ok (.goto (-17), 3) := by decide +kernel
theorem dX11_lowestTerms_29 : decode cX11_lowestTerms 29 = .ok (.iconst 0, 1) := by decide +kernel
theorem dX11_lowestTerms_30 : decode cX11_lowestTerms 30 = .ok (.istore 8, 2) := by decide +kernel
theorem dX11_lowestTerms_32 : decode cX11_lowestTerms 32 = .ok (.iload 8, 2) := by decide +kernel
theorem dX11_lowestTerms_34 : decode cX11_lowestTerms 34 = .ok (.iload_n 2, 1) := by decide +kernel
theorem dX11_lowestTerms_35 : decode cX11_lowestTerms 35 = .ok (.if_icmp .ge 36, 3) := by decide +kernel
theorem dX11_lowestTerms_38 : decode cX11_lowestTerms 38 = .ok (.lload 4, 2) := by decide +kernel
theorem dX11_lowestTerms_40 : decode cX11_lowestTerms 40 = .ok (.ldc2_w 243, 3) := by decide +kernel
theorem dX11_lowestTerms_43 : decode cX11_lowestTerms 43 = .ok (.lrem, 1) := by decide +kernel
theorem dX11_lowestTerms_44 : decode cX11_lowestTerms 44 = .ok (.lconst 0, 1) := by decide +kernel
theorem dX11_lowestTerms_45 : decode cX11_lowestTerms 45 = .ok (.lcmp, 1) := by decide +kernel
theorem dX11_lowestTerms_46 : decode cX11_lowestTerms 46 = .ok (.ifCond .ne 25, 3) := by decide +kernel
theorem dX11_lowestTerms_49 : decode cX11_lowestTerms 49 = .ok (.lload 4, 2) := by decide +kernel
theorem dX11_lowestTerms_51 : decode cX11_lowestTerms 51 = .ok (.ldc2_w 243, 3) := by decide +kernel
theorem dX11_lowestTerms_54 : decode cX11_lowestTerms 54 = .ok (.ldiv, 1) := by decide +kernel
theorem dX11_lowestTerms_55 : decode cX11_lowestTerms 55 = .ok (.lstore 4, 2) := by decide +kernel
theorem dX11_lowestTerms_57 : decode cX11_lowestTerms 57 = .ok (.lload 6, 2) := by decide +kernel
theorem dX11_lowestTerms_59 : decode cX11_lowestTerms 59 = .ok (.ldc2_w 243, 3) := by decide +kernel
theorem dX11_lowestTerms_62 : decode cX11_lowestTerms 62 = .ok (.ldiv, 1) := by decide +kernel
theorem dX11_lowestTerms_63 : decode cX11_lowestTerms 63 = .ok (.lstore 6, 2) := by decide +kernel
theorem dX11_lowestTerms_65 : decode cX11_lowestTerms 65 = .ok (.iinc 8 1, 3) := by decide +kernel
theorem dX11_lowestTerms_68 : decode cX11_lowestTerms 68 = .ok (.goto (-36), 3) := by decide +kernel
theorem dX11_lowestTerms_71 : decode cX11_lowestTerms 71 = .ok (.iconst 0, 1) := by decide +kernel
theorem dX11_lowestTerms_72 : decode cX11_lowestTerms 72 = .ok (.istore 8, 2) := by decide +kernel
theorem dX11_lowestTerms_74 : decode cX11_lowestTerms 74 = .ok (.iload 8, 2) := by decide +kernel
theorem dX11_lowestTerms_76 : decode cX11_lowestTerms 76 = .ok (.iload_n 2, 1) := by decide +kernel
theorem dX11_lowestTerms_77 : decode cX11_lowestTerms 77 = .ok (.if_icmp .ge 36, 3) := by decide +kernel
theorem dX11_lowestTerms_80 : decode cX11_lowestTerms 80 = .ok (.lload 4, 2) := by decide +kernel
theorem dX11_lowestTerms_82 : decode cX11_lowestTerms 82 = .ok (.ldc2_w 245, 3) := by decide +kernel
theorem dX11_lowestTerms_85 : decode cX11_lowestTerms 85 = .ok (.lrem, 1) := by decide +kernel
theorem dX11_lowestTerms_86 : decode cX11_lowestTerms 86 = .ok (.lconst 0, 1) := by decide +kernel
theorem dX11_lowestTerms_87 : decode cX11_lowestTerms 87 = .ok (.lcmp, 1) := by decide +kernel
theorem dX11_lowestTerms_88 : decode cX11_lowestTerms 88 = .ok (.ifCond .ne 25, 3) := by decide +kernel
theorem dX11_lowestTerms_91 : decode cX11_lowestTerms 91 = .ok (.lload 4, 2) := by decide +kernel
theorem dX11_lowestTerms_93 : decode cX11_lowestTerms 93 = .ok (.ldc2_w 245, 3) := by decide +kernel
theorem dX11_lowestTerms_96 : decode cX11_lowestTerms 96 = .ok (.ldiv, 1) := by decide +kernel
theorem dX11_lowestTerms_97 : decode cX11_lowestTerms 97 = .ok (.lstore 4, 2) := by decide +kernel
theorem dX11_lowestTerms_99 : decode cX11_lowestTerms 99 = .ok (.lload 6, 2) := by decide +kernel
theorem dX11_lowestTerms_101 : decode cX11_lowestTerms 101 = .ok (.ldc2_w 245, 3) := by decide +kernel
theorem dX11_lowestTerms_104 : decode cX11_lowestTerms 104 = .ok (.ldiv, 1) := by decide +kernel
theorem dX11_lowestTerms_105 : decode cX11_lowestTerms 105 = .ok (.lstore 6, 2) := by decide +kernel
theorem dX11_lowestTerms_107 : decode cX11_lowestTerms 107 = .ok (.iinc 8 1, 3) := by decide +kernel
theorem dX11_lowestTerms_110 : decode cX11_lowestTerms 110 = .ok (.goto (-36), 3) := by decide +kernel
theorem dX11_lowestTerms_113 : decode cX11_lowestTerms 113 = .ok (.iload_n 3, 1) := by decide +kernel
theorem dX11_lowestTerms_114 : decode cX11_lowestTerms 114 = .ok (.ifCond .ne 8, 3) := by decide +kernel
theorem dX11_lowestTerms_117 : decode cX11_lowestTerms 117 = .ok (.lload 4, 2) := by decide +kernel
theorem dX11_lowestTerms_119 : decode cX11_lowestTerms 119 = .ok (.goto 5, 3) := by decide +kernel
theorem dX11_lowestTerms_122 : decode cX11_lowestTerms 122 = .ok (.lload 6, 2) := by decide +kernel
theorem dX11_lowestTerms_124 : decode cX11_lowestTerms 124 = .ok (.lreturn, 1) := by decide +kernel
theorem dX11_isWithin_0 : decode cX11_isWithin 0 = .ok (.iload_n 0, 1) := by decide +kernel
theorem dX11_isWithin_1 : decode cX11_isWithin 1 = .ok (.iload_n 1, 1) := by decide +kernel
theorem dX11_isWithin_2 : decode cX11_isWithin 2 = .ok (.if_icmp .lt 12, 3) := by decide +kernel
theorem dX11_isWithin_5 : decode cX11_isWithin 5 = .ok (.iload_n 0, 1) := by decide +kernel
theorem dX11_isWithin_6 : decode cX11_isWithin 6 = .ok (.iload_n 2, 1) := by decide +kernel
theorem dX11_isWithin_7 : decode cX11_isWithin 7 = .ok (.if_icmp .gt 7, 3) := by decide +kernel
theorem dX11_isWithin_10 : decode cX11_isWithin 10 = .ok (.iconst 1, 1) := by decide +kernel
theorem dX11_isWithin_11 : decode cX11_isWithin 11 = .ok (.goto 4, 3) := by decide +kernel
theorem dX11_isWithin_14 : decode cX11_isWithin 14 = .ok (.iconst 0, 1) := by decide +kernel
theorem dX11_isWithin_15 : decode cX11_isWithin 15 = .ok (.ireturn, 1) := by decide +kernel
set_option maxRecDepth 20000 in
theorem ggX11_isPlayer_X11_isWithin : GoodIn wsX11_isPlayer wsX11_isWithin := goodIn_r _ [4] (by decide +kernel) (by decide +kernel)
set_option maxRecDepth 20000 in
theorem gX11_isPlayer_X11_isWithin : GoodIn wsX11_isPlayer (va_wsS RX11 84 yX11_isWithin wsX11_isWithin) := goodIn_app (goodIn_of _ (by decide +kernel)) ggX11_isPlayer_X11_isWithin
theorem dX11_isPlayer_0 : decode cX11_isPlayer 0 = .ok (.iload_n 0, 1) := by decide +kernel
theorem dX11_isPlayer_1 : decode cX11_isPlayer 1 = .ok (.iconst 0, 1) := by decide +kernel
theorem dX11_isPlayer_2 : decode cX11_isPlayer 2 = .ok (.iconst 5, 1) := by decide +kernel
theorem dX11_isPlayer_3 : decode cX11_isPlayer 3 = .ok (.invokestatic 84, 3) := by decide +kernel
theorem dX11_isPlayer_6 : decode cX11_isPlayer 6 = .ok (.ireturn, 1) := by decide +kernel
