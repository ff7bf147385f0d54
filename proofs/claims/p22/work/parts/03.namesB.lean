set_option maxRecDepth 100000 in
theorem ggX3_init_X0_init : GoodIn wsX3_init wsX0_init := goodIn_sub (mc (List.mem_of_getElem? (i := 23) rfl) (mem_two (mem_two (mc (List.mem_of_getElem? (i := 24) rfl) (mc (List.mem_of_getElem? (i := 2) rfl) (mc (List.mem_of_getElem? (i := 3) rfl) (mc (List.mem_of_getElem? (i := 16) rfl) (mc (List.mem_of_getElem? (i := 25) rfl) (mc (List.mem_of_getElem? (i := 26) rfl) (mc (List.mem_of_getElem? (i := 27) rfl) (mc (List.mem_of_getElem? (i := 28) rfl) (mc (List.mem_of_getElem? (i := 29) rfl) (mc (List.mem_of_getElem? (i := 30) rfl) (mc (List.mem_of_getElem? (i := 31) rfl) (mc (List.mem_of_getElem? (i := 32) rfl) (mc (List.mem_of_getElem? (i := 33) rfl) (mc (List.mem_of_getElem? (i := 34) rfl) (mc (List.mem_of_getElem? (i := 35) rfl) (mc (List.mem_of_getElem? (i := 6) rfl) (mc (List.mem_of_getElem? (i := 36) rfl) (mc (List.mem_of_getElem? (i := 37) rfl) (mc (List.mem_of_getElem? (i := 38) rfl) (mc (List.mem_of_getElem? (i := 39) rfl) (mc (List.mem_of_getElem? (i := 40) rfl) (mc (List.mem_of_getElem? (i := 41) rfl) (mc (List.mem_of_getElem? (i := 42) rfl) (mc (List.mem_of_getElem? (i := 43) rfl) mn)))))))))))))))))))))))) (mc (List.mem_of_getElem? (i := 44) rfl) (mc (List.mem_of_getElem? (i := 45) rfl) (mc (List.mem_of_getElem? (i := 46) rfl) (mc (List.mem_of_getElem? (i := 47) rfl) (mc (List.mem_of_getElem? (i := 48) rfl) mn)))))) (fun w h => (List.mem_cons_of_mem _ (List.mem_append_left _ (List.mem_append_left _ (List.mem_append_left _ (List.mem_append_right _ h)))))))) (by decide +kernel)
set_option maxRecDepth 20000 in
theorem gX3_init_X0_init_n13 : GoodIn wsX3_init (wsX0_init) := ggX3_init_X0_init
set_option maxRecDepth 100000 in
theorem ggX3_init_X1_init : GoodIn wsX3_init wsX1_init := goodIn_sub (mc (List.mem_of_getElem? (i := 50) rfl) (mem_two (mc (List.mem_of_getElem? (i := 51) rfl) (mc (List.mem_of_getElem? (i := 2) rfl) (mc (List.mem_of_getElem? (i := 3) rfl) (mc (List.mem_of_getElem? (i := 16) rfl) (mc (List.mem_of_getElem? (i := 52) rfl) (mc (List.mem_of_getElem? (i := 53) rfl) (mc (List.mem_of_getElem? (i := 54) rfl) (mc (List.mem_of_getElem? (i := 55) rfl) (mc (List.mem_of_getElem? (i := 56) rfl) (mc (List.mem_of_getElem? (i := 57) rfl) (mc (List.mem_of_getElem? (i := 58) rfl) (mc (List.mem_of_getElem? (i := 59) rfl) (mc (List.mem_of_getElem? (i := 60) rfl) (mc (List.mem_of_getElem? (i := 61) rfl) mn)))))))))))))) (fun w h => (List.mem_cons_of_mem _ (List.mem_append_left _ (List.mem_append_right _ h)))))) (by decide +kernel)
set_option maxRecDepth 20000 in
theorem gX3_init_X1_init_n20 : GoodIn wsX3_init (wsX1_init) := ggX3_init_X1_init
set_option maxRecDepth 100000 in
theorem ggX3_init_X2_init : GoodIn wsX3_init wsX2_init := goodIn_sub (mc (List.mem_of_getElem? (i := 63) rfl) (mem_two (mc (List.mem_of_getElem? (i := 64) rfl) (mc (List.mem_of_getElem? (i := 2) rfl) (mc (List.mem_of_getElem? (i := 3) rfl) (mc (List.mem_of_getElem? (i := 16) rfl) (mc (List.mem_of_getElem? (i := 65) rfl) (mc (List.mem_of_getElem? (i := 66) rfl) mn)))))) (fun w h => (List.mem_cons_of_mem _ (List.mem_append_right _ h))))) (by decide +kernel)
set_option maxRecDepth 20000 in
theorem gX3_init_X2_init_n27 : GoodIn wsX3_init (wsX2_init) := ggX3_init_X2_init
theorem dX3_init_0 : decode cX3_init 0 = .ok (.aload_n 0, 1) := by decide +kernel
theorem dX3_init_1 : decode cX3_init 1 = .ok (.invokespecial 5, 3) := by decide +kernel
theorem dX3_init_4 : decode cX3_init 4 = .ok (.aload_n 0, 1) := by decide +kernel
theorem dX3_init_5 : decode cX3_init 5 = .ok (.new 11, 3) := by decide +kernel
theorem dX3_init_8 : decode cX3_init 8 = .ok (.dup, 1) := by decide +kernel
theorem dX3_init_9 : decode cX3_init 9 = .ok (.invokespecial 13, 3) := by decide +kernel
theorem dX3_init_12 : decode cX3_init 12 = .ok (.putfield 14, 3) := by decide +kernel
theorem dX3_init_15 : decode cX3_init 15 = .ok (.aload_n 0, 1) := by decide +kernel
theorem dX3_init_16 : decode cX3_init 16 = .ok (.new 18, 3) := by decide +kernel
theorem dX3_init_19 : decode cX3_init 19 = .ok (.dup, 1) := by decide +kernel
theorem dX3_init_20 : decode cX3_init 20 = .ok (.invokespecial 20, 3) := by decide +kernel
theorem dX3_init_23 : decode cX3_init 23 = .ok (.putfield 21, 3) := by decide +kernel
theorem dX3_init_26 : decode cX3_init 26 = .ok (.aload_n 0, 1) := by decide +kernel
theorem dX3_init_27 : decode cX3_init 27 = .ok (.new 25, 3) := by decide +kernel
theorem dX3_init_30 : decode cX3_init 30 = .ok (.dup, 1) := by decide +kernel
theorem dX3_init_31 : decode cX3_init 31 = .ok (.invokespecial 27, 3) := by decide +kernel
theorem dX3_init_34 : decode cX3_init 34 = .ok (.putfield 28, 3) := by decide +kernel
theorem dX3_init_37 : decode cX3_init 37 = .ok (.aload_n 0, 1) := by decide +kernel
theorem dX3_init_38 : decode cX3_init 38 = .ok (.iconst 3, 1) := by decide +kernel
theorem dX3_init_39 : decode cX3_init 39 = .ok (.newarray .int, 2) := by decide +kernel
theorem dX3_init_41 : decode cX3_init 41 = .ok (.dup, 1) := by decide +kernel
theorem dX3_init_42 : decode cX3_init 42 = .ok (.iconst 0, 1) := by decide +kernel
theorem dX3_init_43 : decode cX3_init 43 = .ok (.bipush 10, 2) := by decide +kernel
theorem dX3_init_45 : decode cX3_init 45 = .ok (.iastore, 1) := by decide +kernel
theorem dX3_init_46 : decode cX3_init 46 = .ok (.dup, 1) := by decide +kernel
theorem dX3_init_47 : decode cX3_init 47 = .ok (.iconst 1, 1) := by decide +kernel
theorem dX3_init_48 : decode cX3_init 48 = .ok (.bipush 10, 2) := by decide +kernel
theorem dX3_init_50 : decode cX3_init 50 = .ok (.iastore, 1) := by decide +kernel
theorem dX3_init_51 : decode cX3_init 51 = .ok (.dup, 1) := by decide +kernel
theorem dX3_init_52 : decode cX3_init 52 = .ok (.iconst 2, 1) := by decide +kernel
theorem dX3_init_53 : decode cX3_init 53 = .ok (.bipush 10, 2) := by decide +kernel
theorem dX3_init_55 : decode cX3_init 55 = .ok (.iastore, 1) := by decide +kernel
theorem dX3_init_56 : decode cX3_init 56 = .ok (.putfield 32, 3) := by decide +kernel
theorem dX3_init_59 : decode cX3_init 59 = .ok (.aload_n 0, 1) := by decide +kernel
theorem dX3_init_60 : decode cX3_init 60 = .ok (.iconst 5, 1) := by decide +kernel
theorem dX3_init_61 : decode cX3_init 61 = .ok (.newarray .int, 2) := by decide +kernel
theorem dX3_init_63 : decode cX3_init 63 = .ok (.putfield 36, 3) := by decide +kernel
theorem dX3_init_66 : decode cX3_init 66 = .ok (.aload_n 0, 1) := by decide +kernel
theorem dX3_init_67 : decode cX3_init 67 = .ok (.bipush 100, 2) := by decide +kernel
theorem dX3_init_69 : decode cX3_init 69 = .ok (.putfield 39, 3) := by decide +kernel
theorem dX3_init_72 : decode cX3_init 72 = .ok (.aload_n 0, 1) := by decide +kernel
theorem dX3_init_73 : decode cX3_init 73 = .ok (.iconst 0, 1) := by decide +kernel
theorem dX3_init_74 : decode cX3_init 74 = .ok (.putfield 43, 3) := by decide +kernel
theorem dX3_init_77 : decode cX3_init 77 = .ok (.aload_n 0, 1) := by decide +kernel
theorem dX3_init_78 : decode cX3_init 78 = .ok (.iconst 0, 1) := by decide +kernel
theorem dX3_init_79 : decode cX3_init 79 = .ok (.putfield 46, 3) := by decide +kernel
theorem dX3_init_82 : decode cX3_init 82 = .ok (.return_, 1) := by decide +kernel
set_option maxRecDepth 100000 in
theorem ggX3_piece_X3_isIn : GoodIn wsX3_piece wsX3_isIn := goodIn_sub (mc (List.mem_of_getElem? (i := 6) rfl) mn) (by decide +kernel)
set_option maxRecDepth 20000 in
theorem gX3_piece_X3_isIn : GoodIn wsX3_piece (va_wsS RX3 49 yX3_isIn wsX3_isIn) := goodIn_app (goodIn_of _ (by decide +kernel)) ggX3_piece_X3_isIn
set_option maxRecDepth 100000 in
theorem ggX3_piece_X2_append : GoodIn wsX3_piece wsX2_append := goodIn_sub (mc (List.mem_of_getElem? (i := 10) rfl) (mem_two (mc (List.mem_of_getElem? (i := 11) rfl) (mc (List.mem_of_getElem? (i := 12) rfl) mn)) (fun w h => (List.mem_cons_of_mem _ (List.mem_append_right _ h))))) (by decide +kernel)
set_option maxRecDepth 20000 in
theorem gX3_piece_X2_append_n56 : GoodIn wsX3_piece (wsX2_append) := ggX3_piece_X2_append
set_option maxRecDepth 100000 in
theorem ggX3_piece_X1_add : GoodIn wsX3_piece wsX1_add := goodIn_sub (mc (List.mem_of_getElem? (i := 16) rfl) (mem_two (mc (List.mem_of_getElem? (i := 17) rfl) (mc (List.mem_of_getElem? (i := 18) rfl) (mc (List.mem_of_getElem? (i := 19) rfl) (mc (List.mem_of_getElem? (i := 20) rfl) (mc (List.mem_of_getElem? (i := 21) rfl) (mc (List.mem_of_getElem? (i := 22) rfl) mn)))))) (fun w h => (List.mem_cons_of_mem _ (List.mem_append_left _ (List.mem_append_right _ h)))))) (by decide +kernel)
set_option maxRecDepth 20000 in
theorem gX3_piece_X1_add_n60 : GoodIn wsX3_piece (wsX1_add) := ggX3_piece_X1_add
theorem dX3_piece_0 : decode cX3_piece 0 = .ok (.iload_n 1, 1) := by decide +kernel
theorem dX3_piece_1 : decode cX3_piece 1 = .ok (.iconst 0, 1) := by decide +kernel
theorem dX3_piece_2 : decode cX3_piece 2 = .ok (.iconst 3, 1) := by decide +kernel
theorem dX3_piece_3 : decode cX3_piece 3 = .ok (.invokestatic 49, 3) := by decide +kernel
theorem dX3_piece_6 : decode cX3_piece 6 = .ok (.ifCond .eq 22, 3) := by decide +kernel
theorem dX3_piece_9 : decode cX3_piece 9 = .ok (.iload_n 2, 1) := by decide +kernel
theorem dX3_piece_10 : decode cX3_piece 10 = .ok (.iconst 0, 1) := by decide +kernel
theorem dX3_piece_11 : decode cX3_piece 11 = .ok (.iconst 5, 1) := by decide +kernel
theorem dX3_piece_12 : decode cX3_piece 12 = .ok (.invokestatic 49, 3) := by decide +kernel
theorem dX3_piece_15 : decode cX3_piece 15 = .ok (.ifCond .eq 13, 3) := by decide +kernel
theorem dX3_piece_18 : decode cX3_piece 18 = .ok (.iload 4, 2) := by decide +kernel
theorem dX3_piece_20 : decode cX3_piece 20 = .ok (.iconst 0, 1) := by decide +kernel
theorem dX3_piece_21 : decode cX3_piece 21 = .ok (.iconst 2, 1) := by decide +kernel
theorem dX3_piece_22 : decode cX3_piece 22 = .ok (.invokestatic 49, 3) := by decide +kernel
theorem dX3_piece_25 : decode cX3_piece 25 = .ok (.ifCond .ne 5, 3) := by decide +kernel
theorem dX3_piece_28 : decode cX3_piece 28 = .ok (.iconst (-1), 1) := by decide +kernel
theorem dX3_piece_29 : decode cX3_piece 29 = .ok (.ireturn, 1) := by decide +kernel
theorem dX3_piece_30 : decode cX3_piece 30 = .ok (.iload_n 3, 1) := by decide +kernel
theorem dX3_piece_31 : decode cX3_piece 31 = .ok (.iconst 1, 1) := by decide +kernel
theorem dX3_piece_32 : decode cX3_piece 32 = .ok (.sipush 200, 3) := by decide +kernel
theorem dX3_piece_35 : decode cX3_piece 35 = .ok (.invokestatic 49, 3) := by decide +kernel
theorem dX3_piece_38 : decode cX3_piece 38 = .ok (.ifCond .eq 14, 3) := by decide +kernel
theorem dX3_piece_41 : decode cX3_piece 41 = .ok (.iload 5, 2) := by decide +kernel
theorem dX3_piece_43 : decode cX3_piece 43 = .ok (.iconst 1, 1) := by decide +kernel
theorem dX3_piece_44 : decode cX3_piece 44 = .ok (.bipush 9, 2) := by decide +kernel
theorem dX3_piece_46 : decode cX3_piece 46 = .ok (.invokestatic 49, 3) := by decide +kernel
theorem dX3_piece_49 : decode cX3_piece 49 = .ok (.ifCond .ne 6, 3) := by decide +kernel
theorem dX3_piece_52 : decode cX3_piece 52 = .ok (.bipush (-2), 2) := by decide +kernel
theorem dX3_piece_54 : decode cX3_piece 54 = .ok (.ireturn, 1) := by decide +kernel
theorem dX3_piece_55 : decode cX3_piece 55 = .ok (.aload_n 0, 1) := by decide +kernel
theorem dX3_piece_56 : decode cX3_piece 56 = .ok (.getfield 21, 3) := by decide +kernel
theorem dX3_piece_59 : decode cX3_piece 59 = .ok (.getfield 53, 3) := by decide +kernel
theorem dX3_piece_62 : decode cX3_piece 62 = .ok (.bipush 10, 2) := by decide +kernel
theorem dX3_piece_64 : decode cX3_piece 64 = .ok (.if_icmp .lt 6, 3) := by decide +kernel
theorem dX3_piece_67 : decode cX3_piece 67 = .ok (.bipush (-4), 2) := by decide +kernel
theorem dX3_piece_69 : decode cX3_piece 69 = .ok (.ireturn, 1) := by decide +kernel
theorem dX3_piece_70 : decode cX3_piece 70 = .ok (.aload_n 0, 1) := by decide +kernel
theorem dX3_piece_71 : decode cX3_piece 71 = .ok (.getfield 28, 3) := by decide +kernel
theorem dX3_piece_74 : decode cX3_piece 74 = .ok (.aload_n 0, 1) := by decide +kernel
theorem dX3_piece_75 : decode cX3_piece 75 = .ok (.getfield 21, 3) := by decide +kernel
theorem dX3_piece_78 : decode cX3_piece 78 = .ok (.getfield 53, 3) := by decide +kernel
theorem dX3_piece_81 : decode cX3_piece 81 = .ok (.invokevirtual 56, 3) := by decide +kernel
theorem dX3_piece_84 : decode cX3_piece 84 = .ok (.aload_n 0, 1) := by decide +kernel
theorem dX3_piece_85 : decode cX3_piece 85 = .ok (.getfield 21, 3) := by decide +kernel
theorem dX3_piece_88 : decode cX3_piece 88 = .ok (.iload_n 1, 1) := by decide +kernel
theorem dX3_piece_89 : decode cX3_piece 89 = .ok (.iload_n 2, 1) := by decide +kernel
theorem dX3_piece_90 : decode cX3_piece 90 = .ok (.iload_n 3, 1) := by decide +kernel
theorem dX3_piece_91 : decode cX3_piece 91 = .ok (.iload 4, 2) := by decide +kernel
theorem dX3_piece_93 : decode cX3_piece 93 = .ok (.iload 5, 2) := by decide +kernel
theorem dX3_piece_95 : decode cX3_piece 95 = .ok (.invokevirtual 60, 3) := by decide +kernel
theorem dX3_piece_98 : decode cX3_piece 98 = .ok (.ireturn, 1) := by decide +kernel
set_option maxRecDepth 100000 in
theorem ggX3_ahead_X1_has : GoodIn wsX3_ahead wsX1_has := goodIn_sub (mc (List.mem_of_getElem? (i := 5) rfl) (mem_two (mc (List.mem_of_getElem? (i := 6) rfl) mn) (fun w h => (List.mem_cons_of_mem _ (List.mem_append_right _ h))))) (by decide +kernel)
set_option maxRecDepth 20000 in
theorem gX3_ahead_X1_has_n64 : GoodIn wsX3_ahead (wsX1_has) := ggX3_ahead_X1_has
set_option maxRecDepth 100000 in
theorem ggX3_ahead_X3_isIn : GoodIn wsX3_ahead wsX3_isIn := goodIn_sub (mc (List.mem_of_getElem? (i := 10) rfl) mn) (by decide +kernel)
set_option maxRecDepth 20000 in
theorem gX3_ahead_X3_isIn : GoodIn wsX3_ahead (va_wsS RX3 49 yX3_isIn wsX3_isIn) := goodIn_app (goodIn_of _ (by decide +kernel)) ggX3_ahead_X3_isIn
set_option maxRecDepth 100000 in
theorem ggX3_ahead_X1_mustLead : GoodIn wsX3_ahead wsX1_mustLead := goodIn_sub (mc (List.mem_of_getElem? (i := 13) rfl) (mem_two (mc (List.mem_of_getElem? (i := 6) rfl) (mc (List.mem_of_getElem? (i := 14) rfl) (mc (List.mem_of_getElem? (i := 15) rfl) (mc (List.mem_of_getElem? (i := 16) rfl) (mc (List.mem_of_getElem? (i := 17) rfl) (mc (List.mem_of_getElem? (i := 3) rfl) (mc (List.mem_of_getElem? (i := 18) rfl) (mc (List.mem_of_getElem? (i := 19) rfl) (mc (List.mem_of_getElem? (i := 20) rfl) (mc (List.mem_of_getElem? (i := 21) rfl) (mc (List.mem_of_getElem? (i := 22) rfl) (mc (List.mem_of_getElem? (i := 23) rfl) mn)))))))))))) (fun w h => (List.mem_cons_of_mem _ (List.mem_append_right _ h))))) (by decide +kernel)
set_option maxRecDepth 20000 in
theorem gX3_ahead_X1_mustLead_n68 : GoodIn wsX3_ahead (wsX1_mustLead) := ggX3_ahead_X1_mustLead
theorem dX3_ahead_0 : decode cX3_ahead 0 = .ok (.aload_n 0, 1) := by decide +kernel
theorem dX3_ahead_1 : decode cX3_ahead 1 = .ok (.getfield 21, 3) := by decide +kernel
theorem dX3_ahead_4 : decode cX3_ahead 4 = .ok (.iload_n 1, 1) := by decide +kernel
theorem dX3_ahead_5 : decode cX3_ahead 5 = .ok (.invokevirtual 64, 3) := by decide +kernel
theorem dX3_ahead_8 : decode cX3_ahead 8 = .ok (.ifCond .eq 14, 3) := by decide +kernel
theorem dX3_ahead_11 : decode cX3_ahead 11 = .ok (.aload_n 0, 1) := by decide +kernel
theorem dX3_ahead_12 : decode cX3_ahead 12 = .ok (.getfield 21, 3) := by decide +kernel
theorem dX3_ahead_15 : decode cX3_ahead 15 = .ok (.iload_n 2, 1) := by decide +kernel
theorem dX3_ahead_16 : decode cX3_ahead 16 = .ok (.invokevirtual 64, 3) := by decide +kernel
theorem dX3_ahead_19 : decode cX3_ahead 19 = .ok (.ifCond .ne 5, 3) := by decide +kernel
theorem dX3_ahead_22 : decode cX3_ahead 22 = .ok (.iconst (-1), 1) := by decide +kernel
theorem dX3_ahead_23 : decode cX3_ahead 23 = .ok (.ireturn, 1) := by decide +kernel
theorem dX3_ahead_24 : decode cX3_ahead 24 = .ok (.iload_n 3, 1) := by decide +kernel
theorem dX3_ahead_25 : decode cX3_ahead 25 = .ok (.iconst 0, 1) := by decide +kernel
theorem dX3_ahead_26 : decode cX3_ahead 26 = .ok (.bipush 9, 2) := by decide +kernel
theorem dX3_ahead_28 : decode cX3_ahead 28 = .ok (.invokestatic 49, 3) := by decide +kernel
theorem dX3_ahead_31 : decode cX3_ahead 31 = .ok (.ifCond .eq 20, 3) := by decide +kernel
theorem dX3_ahead_34 : decode cX3_ahead 34 = .ok (.iload_n 1, 1) := by decide +kernel
theorem dX3_ahead_35 : decode cX3_ahead 35 = .ok (.iload_n 2, 1) := by decide +kernel
theorem dX3_ahead_36 : decode cX3_ahead 36 = .ok (.if_icmp .eq 15, 3) := by decide +kernel
theorem dX3_ahead_39 : decode cX3_ahead 39 = .ok (.aload_n 0, 1) := by decide +kernel
theorem dX3_ahead_40 : decode cX3_ahead 40 = .ok (.getfield 21, 3) := by decide +kernel
theorem dX3_ahead_43 : decode cX3_ahead 43 = .ok (.iload_n 2, 1) := by decide +kernel
theorem dX3_ahead_44 : decode cX3_ahead 44 = .ok (.iload_n 1, 1) := by decide +kernel
theorem dX3_ahead_45 : decode cX3_ahead 45 = .ok (.invokevirtual 68, 3) := by decide +kernel
theorem dX3_ahead_48 : decode cX3_ahead 48 = .ok (.ifCond .eq 6, 3) := by decide +kernel
theorem dX3_ahead_51 : decode cX3_ahead 51 = .ok (.bipush (-2), 2) := by decide +kernel
theorem dX3_ahead_53 : decode cX3_ahead 53 = .ok (.ireturn, 1) := by decide +kernel
theorem dX3_ahead_54 : decode cX3_ahead 54 = .ok (.aload_n 0, 1) := by decide +kernel
theorem dX3_ahead_55 : decode cX3_ahead 55 = .ok (.getfield 21, 3) := by decide +kernel
theorem dX3_ahead_58 : decode cX3_ahead 58 = .ok (.getfield 72, 3) := by decide +kernel
theorem dX3_ahead_61 : decode cX3_ahead 61 = .ok (.iload_n 1, 1) := by decide +kernel
theorem dX3_ahead_62 : decode cX3_ahead 62 = .ok (.aaload, 1) := by decide +kernel
theorem dX3_ahead_63 : decode cX3_ahead 63 = .ok (.iload_n 2, 1) := by decide +kernel
theorem dX3_ahead_64 : decode cX3_ahead 64 = .ok (.iaload, 1) := by decide +kernel
theorem dX3_ahead_65 : decode cX3_ahead 65 = .ok (.istore 4, 2) := by decide +kernel
theorem dX3_ahead_67 : decode cX3_ahead 67 = .ok (.aload_n 0, 1) := by decide +kernel
theorem dX3_ahead_68 : decode cX3_ahead 68 = .ok (.getfield 21, 3) := by decide +kernel
theorem dX3_ahead_71 : decode cX3_ahead 71 = .ok (.getfield 72, 3) := by decide +kernel
theorem dX3_ahead_74 : decode cX3_ahead 74 = .ok (.iload_n 1, 1) := by decide +kernel
theorem dX3_ahead_75 : decode cX3_ahead 75 = .ok (.aaload, 1) := by decide +kernel
theorem dX3_ahead_76 : decode cX3_ahead 76 = .ok (.iload_n 2, 1) := by decide +kernel
theorem dX3_ahead_77 : decode cX3_ahead 77 = .ok (.iload_n 3, 1) := by decide +kernel
theorem dX3_ahead_78 : decode cX3_ahead 78 = .ok (.iastore, 1) := by decide +kernel
theorem dX3_ahead_79 : decode cX3_ahead 79 = .ok (.iload 4, 2) := by decide +kernel
theorem dX3_ahead_81 : decode cX3_ahead 81 = .ok (.ireturn, 1) := by decide +kernel
set_option maxRecDepth 100000 in
theorem ggX3_form_X3_isIn : GoodIn wsX3_form wsX3_isIn := goodIn_sub (mc (List.mem_of_getElem? (i := 5) rfl) mn) (by decide +kernel)
set_option maxRecDepth 20000 in
theorem gX3_form_X3_isIn : GoodIn wsX3_form (va_wsS RX3 49 yX3_isIn wsX3_isIn) := goodIn_app (goodIn_of _ (by decide +kernel)) ggX3_form_X3_isIn
theorem dX3_form_0 : decode cX3_form 0 = .ok (.iload_n 1, 1) := by decide +kernel
theorem dX3_form_1 : decode cX3_form 1 = .ok (.iconst 0, 1) := by decide +kernel
theorem dX3_form_2 : decode cX3_form 2 = .ok (.iconst 2, 1) := by decide +kernel
theorem dX3_form_3 : decode cX3_form 3 = .ok (.invokestatic 49, 3) := by decide +kernel
theorem dX3_form_6 : decode cX3_form 6 = .ok (.ifCond .ne 5, 3) := by decide +kernel
theorem dX3_form_9 : decode cX3_form 9 = .ok (.iconst (-1), 1) := by decide +kernel
theorem dX3_form_10 : decode cX3_form 10 = .ok (.ireturn, 1) := by decide +kernel
theorem dX3_form_11 : decode cX3_form 11 = .ok (.iload_n 2, 1) := by decide +kernel
theorem dX3_form_12 : decode cX3_form 12 = .ok (.iconst 0, 1) := by decide +kernel
theorem dX3_form_13 : decode cX3_form 13 = .ok (.bipush 50, 2) := by decide +kernel
theorem dX3_form_15 : decode cX3_form 15 = .ok (.invokestatic 49, 3) := by decide +kernel
theorem dX3_form_18 : decode cX3_form 18 = .ok (.ifCond .ne 6, 3) := by decide +kernel
theorem dX3_form_21 : decode cX3_form 21 = .ok (.bipush (-2), 2) := by decide +kernel
theorem dX3_form_23 : decode cX3_form 23 = .ok (.ireturn, 1) := by decide +kernel
theorem dX3_form_24 : decode cX3_form 24 = .ok (.aload_n 0, 1) := by decide +kernel
theorem dX3_form_25 : decode cX3_form 25 = .ok (.getfield 32, 3) := by decide +kernel
theorem dX3_form_28 : decode cX3_form 28 = .ok (.iload_n 1, 1) := by decide +kernel
theorem dX3_form_29 : decode cX3_form 29 = .ok (.iaload, 1) := by decide +kernel
theorem dX3_form_30 : decode cX3_form 30 = .ok (.istore_n 3, 1) := by decide +kernel
theorem dX3_form_31 : decode cX3_form 31 = .ok (.aload_n 0, 1) := by decide +kernel
theorem dX3_form_32 : decode cX3_form 32 = .ok (.getfield 32, 3) := by decide +kernel
theorem dX3_form_35 : decode cX3_form 35 = .ok (.iload_n 1, 1) := by decide +kernel
theorem dX3_form_36 : decode cX3_form 36 = .ok (.iload_n 2, 1) := by decide +kernel
theorem dX3_form_37 : decode cX3_form 37 = .ok (.iastore, 1) := by decide +kernel
theorem dX3_form_38 : decode cX3_form 38 = .ok (.iload_n 3, 1) := by decide +kernel
theorem dX3_form_39 : decode cX3_form 39 = .ok (.ireturn, 1) := by decide +kernel
set_option maxRecDepth 100000 in
theorem ggX3_gang_X3_isIn : GoodIn wsX3_gang wsX3_isIn := goodIn_sub (mc (List.mem_of_getElem? (i := 5) rfl) mn) (by decide +kernel)
set_option maxRecDepth 20000 in
theorem gX3_gang_X3_isIn : GoodIn wsX3_gang (va_wsS RX3 49 yX3_isIn wsX3_isIn) := goodIn_app (goodIn_of _ (by decide +kernel)) ggX3_gang_X3_isIn
theorem dX3_gang_0 : decode cX3_gang 0 = .ok (.iload_n 1, 1) := by decide +kernel
theorem dX3_gang_1 : decode cX3_gang 1 = .ok (.iconst 1, 1) := by decide +kernel
theorem dX3_gang_2 : decode cX3_gang 2 = .ok (.sipush 1000, 3) := by decide +kernel
theorem dX3_gang_5 : decode cX3_gang 5 = .ok (.invokestatic 49, 3) := by decide +kernel
theorem dX3_gang_8 : decode cX3_gang 8 = .ok (.ifCond .ne 6, 3) := by decide +kernel
theorem dX3_gang_11 : decode cX3_gang 11 = .ok (.bipush (-2), 2) := by decide +kernel
theorem dX3_gang_13 : decode cX3_gang 13 = .ok (.ireturn, 1) := by decide +kernel
theorem dX3_gang_14 : decode cX3_gang 14 = .ok (.aload_n 0, 1) := by decide +kernel
theorem dX3_gang_15 : decode cX3_gang 15 = .ok (.getfield 39, 3) := by decide +kernel
theorem dX3_gang_18 : decode cX3_gang 18 = .ok (.istore_n 2, 1) := by decide +kernel
theorem dX3_gang_19 : decode cX3_gang 19 = .ok (.aload_n 0, 1) := by decide +kernel
theorem dX3_gang_20 : decode cX3_gang 20 = .ok (.iload_n 1, 1) := by decide +kernel
theorem dX3_gang_21 : decode cX3_gang 21 = .ok (.putfield 39, 3) := by decide +kernel
theorem dX3_gang_24 : decode cX3_gang 24 = .ok (.iload_n 2, 1) := by decide +kernel
theorem dX3_gang_25 : decode cX3_gang 25 = .ok (.ireturn, 1) := by decide +kernel
set_option maxRecDepth 100000 in
theorem ggX3_level_X3_isIn : GoodIn wsX3_level wsX3_isIn := goodIn_sub (mc (List.mem_of_getElem? (i := 5) rfl) mn) (by decide +kernel)
set_option maxRecDepth 20000 in
theorem gX3_level_X3_isIn : GoodIn wsX3_level (va_wsS RX3 49 yX3_isIn wsX3_isIn) := goodIn_app (goodIn_of _ (by decide +kernel)) ggX3_level_X3_isIn
set_option maxRecDepth 100000 in
theorem ggX3_level_X0_renew : GoodIn wsX3_level wsX0_renew := goodIn_sub (mc (List.mem_of_getElem? (i := 9) rfl) (mem_two (mc (List.mem_of_getElem? (i := 10) rfl) (mc (List.mem_of_getElem? (i := 11) rfl) (mc (List.mem_of_getElem? (i := 12) rfl) (mc (List.mem_of_getElem? (i := 13) rfl) (mc (List.mem_of_getElem? (i := 14) rfl) (mc (List.mem_of_getElem? (i := 15) rfl) (mc (List.mem_of_getElem? (i := 16) rfl) (mc (List.mem_of_getElem? (i := 17) rfl) (mc (List.mem_of_getElem? (i := 18) rfl) (mc (List.mem_of_getElem? (i := 19) rfl) (mc (List.mem_of_getElem? (i := 20) rfl) (mc (List.mem_of_getElem? (i := 21) rfl) (mc (List.mem_of_getElem? (i := 7) rfl) (mc (List.mem_of_getElem? (i := 22) rfl) (mc (List.mem_of_getElem? (i := 23) rfl) (mc (List.mem_of_getElem? (i := 24) rfl) (mc (List.mem_of_getElem? (i := 25) rfl) (mc (List.mem_of_getElem? (i := 26) rfl) (mc (List.mem_of_getElem? (i := 27) rfl) (mc (List.mem_of_getElem? (i := 28) rfl) (mc (List.mem_of_getElem? (i := 29) rfl) mn))))))))))))))))))))) (fun w h => (List.mem_cons_of_mem _ (List.mem_append_right _ h))))) (by decide +kernel)
set_option maxRecDepth 20000 in
theorem gX3_level_X0_renew_n79 : GoodIn wsX3_level (wsX0_renew) := ggX3_level_X0_renew
theorem dX3_level_0 : decode cX3_level 0 = .ok (.iload_n 1, 1) := by decide +kernel
theorem dX3_level_1 : decode cX3_level 1 = .ok (.iconst 0, 1) := by decide +kernel
theorem dX3_level_2 : decode cX3_level 2 = .ok (.iconst 1, 1) := by decide +kernel
theorem dX3_level_3 : decode cX3_level 3 = .ok (.invokestatic 49, 3) := by decide +kernel
theorem dX3_level_6 : decode cX3_level 6 = .ok (.ifCond .ne 5, 3) := by decide +kernel
theorem dX3_level_9 : decode cX3_level 9 = .ok (.iconst (-1), 1) := by decide +kernel
theorem dX3_level_10 : decode cX3_level 10 = .ok (.ireturn, 1) := by decide +kernel
theorem dX3_level_11 : decode cX3_level 11 = .ok (.iload_n 2, 1) := by decide +kernel
theorem dX3_level_12 : decode cX3_level 12 = .ok (.iconst 0, 1) := by decide +kernel
theorem dX3_level_13 : decode cX3_level 13 = .ok (.sipush 1000, 3) := by decide +kernel
theorem dX3_level_16 : decode cX3_level 16 = .ok (.invokestatic 49, 3) := by decide +kernel
theorem dX3_level_19 : decode cX3_level 19 = .ok (.ifCond .ne 6, 3) := by decide +kernel
theorem dX3_level_22 : decode cX3_level 22 = .ok (.bipush (-2), 2) := by decide +kernel
theorem dX3_level_24 : decode cX3_level 24 = .ok (.ireturn, 1) := by decide +kernel
theorem dX3_level_25 : decode cX3_level 25 = .ok (.aload_n 0, 1) := by decide +kernel
theorem dX3_level_26 : decode cX3_level 26 = .ok (.getfield 14, 3) := by decide +kernel
theorem dX3_level_29 : decode cX3_level 29 = .ok (.getfield 76, 3) := by decide +kernel
theorem dX3_level_32 : decode cX3_level 32 = .ok (.iload_n 1, 1) := by decide +kernel
theorem dX3_level_33 : decode cX3_level 33 = .ok (.iaload, 1) := by decide +kernel
theorem dX3_level_34 : decode cX3_level 34 = .ok (.istore_n 3, 1) := by decide +kernel
theorem dX3_level_35 : decode cX3_level 35 = .ok (.aload_n 0, 1) := by decide +kernel
theorem dX3_level_36 : decode cX3_level 36 = .ok (.getfield 14, 3) := by decide +kernel
theorem dX3_level_39 : decode cX3_level 39 = .ok (.getfield 76, 3) := by decide +kernel
theorem dX3_level_42 : decode cX3_level 42 = .ok (.iload_n 1, 1) := by decide +kernel
theorem dX3_level_43 : decode cX3_level 43 = .ok (.iload_n 2, 1) := by decide +kernel
theorem dX3_level_44 : decode cX3_level 44 = .ok (.iastore, 1) := by decide +kernel
theorem dX3_level_45 : decode cX3_level 45 = .ok (.aload_n 0, 1) := by decide +kernel
theorem dX3_level_46 : decode cX3_level 46 = .ok (.getfield 14, 3) := by decide +kernel
theorem dX3_level_49 : decode cX3_level 49 = .ok (.invokevirtual 79, 3) := by decide +kernel
theorem dX3_level_52 : decode cX3_level 52 = .ok (.iload_n 3, 1) := by decide +kernel
theorem dX3_level_53 : decode cX3_level 53 = .ok (.ireturn, 1) := by decide +kernel
set_option maxRecDepth 100000 in
theorem ggX3_warm_X3_isDay : GoodIn wsX3_warm wsX3_isDay := goodIn_sub (mc (List.mem_of_getElem? (i := 7) rfl) (mc (List.mem_of_getElem? (i := 8) rfl) (mc (List.mem_of_getElem? (i := 9) rfl) (mc (List.mem_of_getElem? (i := 6) rfl) (mc (List.mem_of_getElem? (i := 10) rfl) mn))))) (by decide +kernel)
set_option maxRecDepth 20000 in
theorem gX3_warm_X3_isDay : GoodIn wsX3_warm (va_wsS RX3 82 yX3_isDay wsX3_isDay) := goodIn_app (goodIn_of _ (by decide +kernel)) ggX3_warm_X3_isDay
set_option maxRecDepth 100000 in
theorem ggX3_warm_X3_isIn : GoodIn wsX3_warm wsX3_isIn := goodIn_sub (mc (List.mem_of_getElem? (i := 10) rfl) mn) (by decide +kernel)
set_option maxRecDepth 20000 in
theorem gX3_warm_X3_isIn : GoodIn wsX3_warm (va_wsS RX3 49 yX3_isIn wsX3_isIn) := goodIn_app (goodIn_of _ (by decide +kernel)) ggX3_warm_X3_isIn
set_option maxRecDepth 100000 in
theorem ggX3_warm_X0_renew : GoodIn wsX3_warm wsX0_renew := goodIn_sub (mc (List.mem_of_getElem? (i := 14) rfl) (mem_two (mc (List.mem_of_getElem? (i := 15) rfl) (mc (List.mem_of_getElem? (i := 16) rfl) (mc (List.mem_of_getElem? (i := 17) rfl) (mc (List.mem_of_getElem? (i := 18) rfl) (mc (List.mem_of_getElem? (i := 19) rfl) (mc (List.mem_of_getElem? (i := 20) rfl) (mc (List.mem_of_getElem? (i := 21) rfl) (mc (List.mem_of_getElem? (i := 22) rfl) (mc (List.mem_of_getElem? (i := 23) rfl) (mc (List.mem_of_getElem? (i := 24) rfl) (mc (List.mem_of_getElem? (i := 25) rfl) (mc (List.mem_of_getElem? (i := 26) rfl) (mc (List.mem_of_getElem? (i := 12) rfl) (mc (List.mem_of_getElem? (i := 27) rfl) (mc (List.mem_of_getElem? (i := 28) rfl) (mc (List.mem_of_getElem? (i := 29) rfl) (mc (List.mem_of_getElem? (i := 30) rfl) (mc (List.mem_of_getElem? (i := 31) rfl) (mc (List.mem_of_getElem? (i := 32) rfl) (mc (List.mem_of_getElem? (i := 33) rfl) (mc (List.mem_of_getElem? (i := 34) rfl) mn))))))))))))))))))))) (fun w h => (List.mem_cons_of_mem _ (List.mem_append_right _ h))))) (by decide +kernel)
set_option maxRecDepth 20000 in
theorem gX3_warm_X0_renew_n79 : GoodIn wsX3_warm (wsX0_renew) := ggX3_warm_X0_renew
theorem dX3_warm_0 : decode cX3_warm 0 = .ok (.iload_n 1, 1) := by decide +kernel
theorem dX3_warm_1 : decode cX3_warm 1 = .ok (.invokestatic 82, 3) := by decide +kernel
theorem dX3_warm_4 : decode cX3_warm 4 = .ok (.ifCond .ne 6, 3) := by decide +kernel
theorem dX3_warm_7 : decode cX3_warm 7 = .ok (.ldc 87, 2) := by decide +kernel
theorem dX3_warm_9 : decode cX3_warm 9 = .ok (.ireturn, 1) := by decide +kernel
theorem dX3_warm_10 : decode cX3_warm 10 = .ok (.iload_n 2, 1) := by decide +kernel
theorem dX3_warm_11 : decode cX3_warm 11 = .ok (.bipush (-30), 2) := by decide +kernel
theorem dX3_warm_13 : decode cX3_warm 13 = .ok (.bipush 50, 2) := by decide +kernel
theorem dX3_warm_15 : decode cX3_warm 15 = .ok (.invokestatic 49, 3) := by decide +kernel
theorem dX3_warm_18 : decode cX3_warm 18 = .ok (.ifCond .ne 6, 3) := by decide +kernel
theorem dX3_warm_21 : decode cX3_warm 21 = .ok (.ldc 88, 2) := by decide +kernel
theorem dX3_warm_23 : decode cX3_warm 23 = .ok (.ireturn, 1) := by decide +kernel
theorem dX3_warm_24 : decode cX3_warm 24 = .ok (.aload_n 0, 1) := by decide +kernel
theorem dX3_warm_25 : decode cX3_warm 25 = .ok (.getfield 14, 3) := by decide +kernel
theorem dX3_warm_28 : decode cX3_warm 28 = .ok (.getfield 89, 3) := by decide +kernel
theorem dX3_warm_31 : decode cX3_warm 31 = .ok (.iload_n 1, 1) := by decide +kernel
theorem dX3_warm_32 : decode cX3_warm 32 = .ok (.iaload, 1) := by decide +kernel
theorem dX3_warm_33 : decode cX3_warm 33 = .ok (.istore_n 3, 1) := by decide +kernel
theorem dX3_warm_34 : decode cX3_warm 34 = .ok (.aload_n 0, 1) := by decide +kernel
theorem dX3_warm_35 : decode cX3_warm 35 = .ok (.getfield 14, 3) := by decide +kernel
theorem dX3_warm_38 : decode cX3_warm 38 = .ok (.getfield 89, 3) := by decide +kernel
theorem dX3_warm_41 : decode cX3_warm 41 = .ok (.iload_n 1, 1) := by decide +kernel
theorem dX3_warm_42 : decode cX3_warm 42 = .ok (.iload_n 2, 1) := by decide +kernel
theorem dX3_warm_43 : decode cX3_warm 43 = .ok (.iastore, 1) := by decide +kernel
theorem dX3_warm_44 : decode cX3_warm 44 = .ok (.aload_n 0, 1) := by decide +kernel
theorem dX3_warm_45 : decode cX3_warm 45 = .ok (.getfield 14, 3) := by decide +kernel
theorem dX3_warm_48 : decode cX3_warm 48 = .ok (.invokevirtual 79, 3) := by decide +kernel
theorem dX3_warm_51 : decode cX3_warm 51 = .ok (.iload_n 3, 1) := by decide +kernel
theorem dX3_warm_52 : decode cX3_warm 52 = .ok (.ireturn, 1) := by decide +kernel
set_option maxRecDepth 100000 in
theorem ggX3_base_X3_isIn : GoodIn wsX3_base wsX3_isIn := goodIn_sub (mc (List.mem_of_getElem? (i := 5) rfl) mn) (by decide +kernel)
set_option maxRecDepth 20000 in
theorem gX3_base_X3_isIn : GoodIn wsX3_base (va_wsS RX3 49 yX3_isIn wsX3_isIn) := goodIn_app (goodIn_of _ (by decide +kernel)) ggX3_base_X3_isIn
set_option maxRecDepth 100000 in
theorem ggX3_base_X0_renew : GoodIn wsX3_base wsX0_renew := goodIn_sub (mc (List.mem_of_getElem? (i := 9) rfl) (mem_two (mc (List.mem_of_getElem? (i := 10) rfl) (mc (List.mem_of_getElem? (i := 11) rfl) (mc (List.mem_of_getElem? (i := 12) rfl) (mc (List.mem_of_getElem? (i := 13) rfl) (mc (List.mem_of_getElem? (i := 14) rfl) (mc (List.mem_of_getElem? (i := 15) rfl) (mc (List.mem_of_getElem? (i := 16) rfl) (mc (List.mem_of_getElem? (i := 17) rfl) (mc (List.mem_of_getElem? (i := 18) rfl) (mc (List.mem_of_getElem? (i := 19) rfl) (mc (List.mem_of_getElem? (i := 20) rfl) (mc (List.mem_of_getElem? (i := 21) rfl) (mc (List.mem_of_getElem? (i := 7) rfl) (mc (List.mem_of_getElem? (i := 22) rfl) (mc (List.mem_of_getElem? (i := 23) rfl) (mc (List.mem_of_getElem? (i := 24) rfl) (mc (List.mem_of_getElem? (i := 25) rfl) (mc (List.mem_of_getElem? (i := 26) rfl) (mc (List.mem_of_getElem? (i := 27) rfl) (mc (List.mem_of_getElem? (i := 28) rfl) (mc (List.mem_of_getElem? (i := 29) rfl) mn))))))))))))))))))))) (fun w h => (List.mem_cons_of_mem _ (List.mem_append_right _ h))))) (by decide +kernel)
set_option maxRecDepth 20000 in
theorem gX3_base_X0_renew_n79 : GoodIn wsX3_base (wsX0_renew) := ggX3_base_X0_renew
theorem dX3_base_0 : decode cX3_base 0 = .ok (.iload_n 1, 1) := by decide +kernel
theorem dX3_base_1 : decode cX3_base 1 = .ok (.iconst 0, 1) := by decide +kernel
theorem dX3_base_2 : decode cX3_base 2 = .ok (.bipush 20, 2) := by decide +kernel
theorem dX3_base_4 : decode cX3_base 4 = .ok (.invokestatic 49, 3) := by decide +kernel
theorem dX3_base_7 : decode cX3_base 7 = .ok (.ifCond .ne 6, 3) := by decide +kernel
theorem dX3_base_10 : decode cX3_base 10 = .ok (.bipush (-2), 2) := by decide +kernel
theorem dX3_base_12 : decode cX3_base 12 = .ok (.ireturn, 1) := by decide +kernel
theorem dX3_base_13 : decode cX3_base 13 = .ok (.aload_n 0, 1) := by decide +kernel
theorem dX3_base_14 : decode cX3_base 14 = .ok (.getfield 14, 3) := by decide +kernel
theorem dX3_base_17 : decode cX3_base 17 = .ok (.getfield 92, 3) := by decide +kernel
theorem dX3_base_20 : decode cX3_base 20 = .ok (.istore_n 2, 1) := by decide +kernel
theorem dX3_base_21 : decode cX3_base 21 = .ok (.aload_n 0, 1) := by decide +kernel
theorem dX3_base_22 : decode cX3_base 22 = .ok (.getfield 14, 3) := by decide +kernel
theorem dX3_base_25 : decode cX3_base 25 = .ok (.iload_n 1, 1) := by decide +kernel
theorem dX3_base_26 : decode cX3_base 26 = .ok (.putfield 92, 3) := by decide +kernel
theorem dX3_base_29 : decode cX3_base 29 = .ok (.aload_n 0, 1) := by decide +kernel
theorem dX3_base_30 : decode cX3_base 30 = .ok (.getfield 14, 3) := by decide +kernel
theorem dX3_base_33 : decode cX3_base 33 = .ok (.invokevirtual 79, 3) := by decide +kernel
theorem dX3_base_36 : decode cX3_base 36 = .ok (.iload_n 2, 1) := by decide +kernel
theorem dX3_base_37 : decode cX3_base 37 = .ok (.ireturn, 1) := by decide +kernel
set_option maxRecDepth 100000 in
theorem ggX3_point_X3_isIn : GoodIn wsX3_point wsX3_isIn := goodIn_sub (mc (List.mem_of_getElem? (i := 5) rfl) mn) (by decide +kernel)
set_option maxRecDepth 20000 in
theorem gX3_point_X3_isIn : GoodIn wsX3_point (va_wsS RX3 49 yX3_isIn wsX3_isIn) := goodIn_app (goodIn_of _ (by decide +kernel)) ggX3_point_X3_isIn
set_option maxRecDepth 100000 in
theorem ggX3_point_X0_goesOnWith : GoodIn wsX3_point wsX0_goesOnWith := goodIn_sub (mc (List.mem_of_getElem? (i := 9) rfl) (mem_two (mc (List.mem_of_getElem? (i := 10) rfl) (mc (List.mem_of_getElem? (i := 11) rfl) (mc (List.mem_of_getElem? (i := 12) rfl) mn))) (fun w h => (List.mem_cons_of_mem _ (List.mem_append_right _ h))))) (by decide +kernel)
set_option maxRecDepth 20000 in
theorem gX3_point_X0_goesOnWith_n95 : GoodIn wsX3_point (wsX0_goesOnWith) := ggX3_point_X0_goesOnWith
set_option maxRecDepth 100000 in
theorem ggX3_point_X0_addPoint : GoodIn wsX3_point wsX0_addPoint := goodIn_sub (mc (List.mem_of_getElem? (i := 15) rfl) (mem_two (mc (List.mem_of_getElem? (i := 10) rfl) (mc (List.mem_of_getElem? (i := 11) rfl) (mc (List.mem_of_getElem? (i := 12) rfl) mn))) (fun w h => (List.mem_cons_of_mem _ (List.mem_append_right _ h))))) (by decide +kernel)
set_option maxRecDepth 20000 in
theorem gX3_point_X0_addPoint_n101 : GoodIn wsX3_point (wsX0_addPoint) := ggX3_point_X0_addPoint
set_option maxRecDepth 100000 in
theorem ggX3_point_X0_renew : GoodIn wsX3_point wsX0_renew := goodIn_sub (mc (List.mem_of_getElem? (i := 18) rfl) (mem_two (mc (List.mem_of_getElem? (i := 19) rfl) (mc (List.mem_of_getElem? (i := 20) rfl) (mc (List.mem_of_getElem? (i := 21) rfl) (mc (List.mem_of_getElem? (i := 22) rfl) (mc (List.mem_of_getElem? (i := 23) rfl) (mc (List.mem_of_getElem? (i := 24) rfl) (mc (List.mem_of_getElem? (i := 25) rfl) (mc (List.mem_of_getElem? (i := 26) rfl) (mc (List.mem_of_getElem? (i := 27) rfl) (mc (List.mem_of_getElem? (i := 28) rfl) (mc (List.mem_of_getElem? (i := 29) rfl) (mc (List.mem_of_getElem? (i := 30) rfl) (mc (List.mem_of_getElem? (i := 7) rfl) (mc (List.mem_of_getElem? (i := 31) rfl) (mc (List.mem_of_getElem? (i := 32) rfl) (mc (List.mem_of_getElem? (i := 33) rfl) (mc (List.mem_of_getElem? (i := 34) rfl) (mc (List.mem_of_getElem? (i := 35) rfl) (mc (List.mem_of_getElem? (i := 10) rfl) (mc (List.mem_of_getElem? (i := 11) rfl) (mc (List.mem_of_getElem? (i := 12) rfl) mn))))))))))))))))))))) (fun w h => (List.mem_cons_of_mem _ (List.mem_append_right _ h))))) (by decide +kernel)
set_option maxRecDepth 20000 in
theorem gX3_point_X0_renew_n79 : GoodIn wsX3_point (wsX0_renew) := ggX3_point_X0_renew
theorem dX3_point_0 : decode cX3_point 0 = .ok (.iload_n 1, 1) := by decide +kernel
theorem dX3_point_1 : decode cX3_point 1 = .ok (.iconst 1, 1) := by decide +kernel
theorem dX3_point_2 : decode cX3_point 2 = .ok (.sipush 2000, 3) := by decide +kernel
theorem dX3_point_5 : decode cX3_point 5 = .ok (.invokestatic 49, 3) := by decide +kernel
theorem dX3_point_8 : decode cX3_point 8 = .ok (.ifCond .eq 26, 3) := by decide +kernel
theorem dX3_point_11 : decode cX3_point 11 = .ok (.iload_n 2, 1) := by decide +kernel
theorem dX3_point_12 : decode cX3_point 12 = .ok (.iconst 0, 1) := by decide +kernel
theorem dX3_point_13 : decode cX3_point 13 = .ok (.sipush 1000, 3) := by decide +kernel
theorem dX3_point_16 : decode cX3_point 16 = .ok (.invokestatic 49, 3) := by decide +kernel
theorem dX3_point_19 : decode cX3_point 19 = .ok (.ifCond .eq 15, 3) := by decide +kernel
theorem dX3_point_22 : decode cX3_point 22 = .ok (.aload_n 0, 1) := by decide +kernel
theorem dX3_point_23 : decode cX3_point 23 = .ok (.getfield 14, 3) := by decide +kernel
theorem dX3_point_26 : decode cX3_point 26 = .ok (.iload_n 1, 1) := by decide +kernel
theorem dX3_point_27 : decode cX3_point 27 = .ok (.iload_n 2, 1) := by decide +kernel
theorem dX3_point_28 : decode cX3_point 28 = .ok (.invokevirtual 95, 3) := by decide +kernel
theorem dX3_point_31 : decode cX3_point 31 = .ok (.ifCond .ne 6, 3) := by decide +kernel
theorem dX3_point_34 : decode cX3_point 34 = .ok (.bipush (-2), 2) := by decide +kernel
theorem dX3_point_36 : decode cX3_point 36 = .ok (.ireturn, 1) := by decide +kernel
theorem dX3_point_37 : decode cX3_point 37 = .ok (.aload_n 0, 1) := by decide +kernel
theorem dX3_point_38 : decode cX3_point 38 = .ok (.getfield 14, 3) := by decide +kernel
theorem dX3_point_41 : decode cX3_point 41 = .ok (.getfield 98, 3) := by decide +kernel
theorem dX3_point_44 : decode cX3_point 44 = .ok (.bipush 6, 2) := by decide +kernel
theorem dX3_point_46 : decode cX3_point 46 = .ok (.if_icmp .lt 6, 3) := by decide +kernel
theorem dX3_point_49 : decode cX3_point 49 = .ok (.bipush (-4), 2) := by decide +kernel
theorem dX3_point_51 : decode cX3_point 51 = .ok (.ireturn, 1) := by decide +kernel
theorem dX3_point_52 : decode cX3_point 52 = .ok (.aload_n 0, 1) := by decide +kernel
theorem dX3_point_53 : decode cX3_point 53 = .ok (.getfield 14, 3) := by decide +kernel
theorem dX3_point_56 : decode cX3_point 56 = .ok (.iload_n 1, 1) := by decide +kernel
theorem dX3_point_57 : decode cX3_point 57 = .ok (.iload_n 2, 1) := by decide +kernel
theorem dX3_point_58 : decode cX3_point 58 = .ok (.invokevirtual 101, 3) := by decide +kernel
theorem dX3_point_61 : decode cX3_point 61 = .ok (.aload_n 0, 1) := by decide +kernel
theorem dX3_point_62 : decode cX3_point 62 = .ok (.getfield 14, 3) := by decide +kernel
theorem dX3_point_65 : decode cX3_point 65 = .ok (.invokevirtual 79, 3) := by decide +kernel
theorem dX3_point_68 : decode cX3_point 68 = .ok (.aload_n 0, 1) := by decide +kernel
theorem dX3_point_69 : decode cX3_point 69 = .ok (.getfield 14, 3) := by decide +kernel
theorem dX3_point_72 : decode cX3_point 72 = .ok (.getfield 98, 3) := by decide +kernel
theorem dX3_point_75 : decode cX3_point 75 = .ok (.ireturn, 1) := by decide +kernel
set_option maxRecDepth 100000 in
theorem ggX3_unpoint_X0_renew : GoodIn wsX3_unpoint wsX0_renew := goodIn_sub (mc (List.mem_of_getElem? (i := 5) rfl) (mem_two (mc (List.mem_of_getElem? (i := 6) rfl) (mc (List.mem_of_getElem? (i := 7) rfl) (mc (List.mem_of_getElem? (i := 8) rfl) (mc (List.mem_of_getElem? (i := 9) rfl) (mc (List.mem_of_getElem? (i := 10) rfl) (mc (List.mem_of_getElem? (i := 11) rfl) (mc (List.mem_of_getElem? (i := 12) rfl) (mc (List.mem_of_getElem? (i := 13) rfl) (mc (List.mem_of_getElem? (i := 14) rfl) (mc (List.mem_of_getElem? (i := 15) rfl) (mc (List.mem_of_getElem? (i := 16) rfl) (mc (List.mem_of_getElem? (i := 17) rfl) (mc (List.mem_of_getElem? (i := 3) rfl) (mc (List.mem_of_getElem? (i := 18) rfl) (mc (List.mem_of_getElem? (i := 19) rfl) (mc (List.mem_of_getElem? (i := 20) rfl) (mc (List.mem_of_getElem? (i := 21) rfl) (mc (List.mem_of_getElem? (i := 22) rfl) (mc (List.mem_of_getElem? (i := 23) rfl) (mc (List.mem_of_getElem? (i := 24) rfl) (mc (List.mem_of_getElem? (i := 25) rfl) mn))))))))))))))))))))) (fun w h => (List.mem_cons_of_mem _ (List.mem_append_right _ h))))) (by decide +kernel)
set_option maxRecDepth 20000 in
theorem gX3_unpoint_X0_renew_n79 : GoodIn wsX3_unpoint (wsX0_renew) := ggX3_unpoint_X0_renew
theorem dX3_unpoint_0 : decode cX3_unpoint 0 = .ok (.aload_n 0, 1) := by decide +kernel
theorem dX3_unpoint_1 : decode cX3_unpoint 1 = .ok (.getfield 14, 3) := by decide +kernel
theorem dX3_unpoint_4 : decode cX3_unpoint 4 = .ok (.getfield 98, 3) := by decide +kernel
theorem dX3_unpoint_7 : decode cX3_unpoint 7 = .ok (.istore_n 1, 1) := by decide +kernel
theorem dX3_unpoint_8 : decode cX3_unpoint 8 = .ok (.aload_n 0, 1) := by decide +kernel
theorem dX3_unpoint_9 : decode cX3_unpoint 9 = .ok (.getfield 14, 3) := by decide +kernel
theorem dX3_unpoint_12 : decode cX3_unpoint 12 = .ok (.iconst 0, 1) := by decide +kernel
theorem dX3_unpoint_13 : decode cX3_unpoint 13 = .ok (.putfield 98, 3) := by decide +kernel
theorem dX3_unpoint_16 : decode cX3_unpoint 16 = .ok (.aload_n 0, 1) := by decide +kernel
theorem dX3_unpoint_17 : decode cX3_unpoint 17 = .ok (.getfield 14, 3) := by decide +kernel
theorem dX3_unpoint_20 : decode cX3_unpoint 20 = .ok (.invokevirtual 79, 3) := by decide +kernel
theorem dX3_unpoint_23 : decode cX3_unpoint 23 = .ok (.iload_n 1, 1) := by decide +kernel
theorem dX3_unpoint_24 : decode cX3_unpoint 24 = .ok (.ireturn, 1) := by decide +kernel
set_option maxRecDepth 100000 in
theorem ggX3_table_X0_hardnessOf : GoodIn wsX3_table wsX0_hardnessOf := goodIn_sub (mc (List.mem_of_getElem? (i := 5) rfl) (mem_two (mc (List.mem_of_getElem? (i := 6) rfl) (mc (List.mem_of_getElem? (i := 7) rfl) (mc (List.mem_of_getElem? (i := 8) rfl) mn))) (fun w h => (List.mem_cons_of_mem _ (List.mem_append_right _ h))))) (by decide +kernel)
set_option maxRecDepth 20000 in
theorem gX3_table_X0_hardnessOf_n105 : GoodIn wsX3_table (wsX0_hardnessOf) := ggX3_table_X0_hardnessOf
theorem dX3_table_0 : decode cX3_table 0 = .ok (.iload_n 1, 1) := by decide +kernel
theorem dX3_table_1 : decode cX3_table 1 = .ok (.ifCond .ge 8, 3) := by decide +kernel
theorem dX3_table_4 : decode cX3_table 4 = .ok (.bipush (-2), 2) := by decide +kernel
theorem dX3_table_6 : decode cX3_table 6 = .ok (.goto 11, 3) := by decide +kernel
theorem dX3_table_9 : decode cX3_table 9 = .ok (.aload_n 0, 1) := by decide +kernel
theorem dX3_table_10 : decode cX3_table 10 = .ok (.getfield 14, 3) := by decide +kernel
theorem dX3_table_13 : decode cX3_table 13 = .ok (.iload_n 1, 1) := by decide +kernel
theorem dX3_table_14 : decode cX3_table 14 = .ok (.invokevirtual 105, 3) := by decide +kernel
theorem dX3_table_17 : decode cX3_table 17 = .ok (.ireturn, 1) := by decide +kernel
set_option maxRecDepth 100000 in
theorem ggX3_plan_X3_pourAnew : GoodIn wsX3_plan wsX3_pourAnew := goodIn_sub (mc (List.mem_of_getElem? (i := 6) rfl) (mem_two (mem_two (mem_two (mem_two (mem_two (mc (List.mem_of_getElem? (i := 7) rfl) (mc (List.mem_of_getElem? (i := 8) rfl) (mc (List.mem_of_getElem? (i := 9) rfl) (mc (List.mem_of_getElem? (i := 10) rfl) (mc (List.mem_of_getElem? (i := 11) rfl) (mc (List.mem_of_getElem? (i := 12) rfl) (mc (List.mem_of_getElem? (i := 13) rfl) (mc (List.mem_of_getElem? (i := 14) rfl) (mc (List.mem_of_getElem? (i := 15) rfl) (mc (List.mem_of_getElem? (i := 16) rfl) (mc (List.mem_of_getElem? (i := 17) rfl) (mc (List.mem_of_getElem? (i := 18) rfl) (mc (List.mem_of_getElem? (i := 19) rfl) (mc (List.mem_of_getElem? (i := 20) rfl) (mc (List.mem_of_getElem? (i := 21) rfl) (mc (List.mem_of_getElem? (i := 5) rfl) (mc (List.mem_of_getElem? (i := 22) rfl) (mc (List.mem_of_getElem? (i := 23) rfl) (mc (List.mem_of_getElem? (i := 24) rfl) (mc (List.mem_of_getElem? (i := 25) rfl) (mc (List.mem_of_getElem? (i := 26) rfl) (mc (List.mem_of_getElem? (i := 27) rfl) (mc (List.mem_of_getElem? (i := 28) rfl) (mc (List.mem_of_getElem? (i := 29) rfl) mn)))))))))))))))))))))))) (mem_two (mc (List.mem_of_getElem? (i := 30) rfl) (mc (List.mem_of_getElem? (i := 31) rfl) (mc (List.mem_of_getElem? (i := 32) rfl) (mc (List.mem_of_getElem? (i := 33) rfl) (mc (List.mem_of_getElem? (i := 34) rfl) (mc (List.mem_of_getElem? (i := 35) rfl) (mc (List.mem_of_getElem? (i := 36) rfl) (mc (List.mem_of_getElem? (i := 37) rfl) (mc (List.mem_of_getElem? (i := 38) rfl) (mc (List.mem_of_getElem? (i := 39) rfl) (mc (List.mem_of_getElem? (i := 40) rfl) (mc (List.mem_of_getElem? (i := 41) rfl) (mc (List.mem_of_getElem? (i := 42) rfl) (mc (List.mem_of_getElem? (i := 43) rfl) (mc (List.mem_of_getElem? (i := 44) rfl) (mc (List.mem_of_getElem? (i := 45) rfl) (mc (List.mem_of_getElem? (i := 46) rfl) (mc (List.mem_of_getElem? (i := 47) rfl) (mc (List.mem_of_getElem? (i := 48) rfl) (mc (List.mem_of_getElem? (i := 49) rfl) (mc (List.mem_of_getElem? (i := 50) rfl) (mc (List.mem_of_getElem? (i := 51) rfl) (mc (List.mem_of_getElem? (i := 52) rfl) (mc (List.mem_of_getElem? (i := 53) rfl) mn)))))))))))))))))))))))) (mem_two (mc (List.mem_of_getElem? (i := 54) rfl) (mc (List.mem_of_getElem? (i := 55) rfl) (mc (List.mem_of_getElem? (i := 56) rfl) (mc (List.mem_of_getElem? (i := 57) rfl) (mc (List.mem_of_getElem? (i := 58) rfl) (mc (List.mem_of_getElem? (i := 59) rfl) (mc (List.mem_of_getElem? (i := 60) rfl) (mc (List.mem_of_getElem? (i := 61) rfl) (mc (List.mem_of_getElem? (i := 62) rfl) (mc (List.mem_of_getElem? (i := 63) rfl) (mc (List.mem_of_getElem? (i := 64) rfl) (mc (List.mem_of_getElem? (i := 65) rfl) (mc (List.mem_of_getElem? (i := 66) rfl) (mc (List.mem_of_getElem? (i := 67) rfl) (mc (List.mem_of_getElem? (i := 68) rfl) (mc (List.mem_of_getElem? (i := 69) rfl) (mc (List.mem_of_getElem? (i := 70) rfl) (mc (List.mem_of_getElem? (i := 71) rfl) (mc (List.mem_of_getElem? (i := 72) rfl) (mc (List.mem_of_getElem? (i := 73) rfl) (mc (List.mem_of_getElem? (i := 74) rfl) (mc (List.mem_of_getElem? (i := 75) rfl) (mc (List.mem_of_getElem? (i := 76) rfl) (mc (List.mem_of_getElem? (i := 77) rfl) mn)))))))))))))))))))))))) (mc (List.mem_of_getElem? (i := 78) rfl) (mc (List.mem_of_getElem? (i := 79) rfl) (mc (List.mem_of_getElem? (i := 80) rfl) (mc (List.mem_of_getElem? (i := 81) rfl) (mc (List.mem_of_getElem? (i := 82) rfl) (mc (List.mem_of_getElem? (i := 83) rfl) (mc (List.mem_of_getElem? (i := 84) rfl) (mc (List.mem_of_getElem? (i := 85) rfl) (mc (List.mem_of_getElem? (i := 86) rfl) (mc (List.mem_of_getElem? (i := 87) rfl) mn))))))))))))) (fun w h => (List.mem_cons_of_mem _ (List.mem_append_left _ (List.mem_append_left _ (List.mem_append_left _ (List.mem_append_right _ h))))))) (fun w h => (List.mem_cons_of_mem _ (List.mem_append_left _ (List.mem_append_left _ (List.mem_append_right _ h)))))) (fun w h => (List.mem_cons_of_mem _ (List.mem_append_left _ (List.mem_append_right _ h))))) (fun w h => (List.mem_cons_of_mem _ (List.mem_append_right _ h))))) (by decide +kernel)
set_option maxRecDepth 100000 in
theorem gX3_plan_X3_pourAnew : GoodIn wsX3_plan (wsV RX3 109 RX3 yX3_pourAnew wsX3_pourAnew) := goodIn_app (goodIn_sub (mc (List.mem_of_getElem? (i := 2) rfl) (mc (List.mem_of_getElem? (i := 3) rfl) (mc (List.mem_of_getElem? (i := 4) rfl) (mc (List.mem_of_getElem? (i := 5) rfl) mn)))) (by decide +kernel)) ggX3_plan_X3_pourAnew
theorem dX3_plan_0 : decode cX3_plan 0 = .ok (.aload_n 0, 1) := by decide +kernel
theorem dX3_plan_1 : decode cX3_plan 1 = .ok (.aload_n 0, 1) := by decide +kernel
theorem dX3_plan_2 : decode cX3_plan 2 = .ok (.invokevirtual 109, 3) := by decide +kernel
theorem dX3_plan_5 : decode cX3_plan 5 = .ok (.putfield 46, 3) := by decide +kernel
theorem dX3_plan_8 : decode cX3_plan 8 = .ok (.aload_n 0, 1) := by decide +kernel
theorem dX3_plan_9 : decode cX3_plan 9 = .ok (.getfield 46, 3) := by decide +kernel
theorem dX3_plan_12 : decode cX3_plan 12 = .ok (.ireturn, 1) := by decide +kernel
set_option maxRecDepth 100000 in
theorem ggX3_order_X1_has : GoodIn wsX3_order wsX1_has := goodIn_sub (mc (List.mem_of_getElem? (i := 6) rfl) (mem_two (mc (List.mem_of_getElem? (i := 7) rfl) mn) (fun w h => (List.mem_cons_of_mem _ (List.mem_append_left _ (List.mem_append_right _ h)))))) (by decide +kernel)
set_option maxRecDepth 20000 in
theorem gX3_order_X1_has_n64 : GoodIn wsX3_order (wsX1_has) := ggX3_order_X1_has
set_option maxRecDepth 100000 in
theorem ggX3_order_X2_placeOf : GoodIn wsX3_order wsX2_placeOf := goodIn_sub (mc (List.mem_of_getElem? (i := 11) rfl) (mem_two (mc (List.mem_of_getElem? (i := 12) rfl) (mc (List.mem_of_getElem? (i := 13) rfl) mn)) (fun w h => (List.mem_cons_of_mem _ (List.mem_append_right _ h))))) (by decide +kernel)
set_option maxRecDepth 20000 in
theorem gX3_order_X2_placeOf_n113 : GoodIn wsX3_order (wsX2_placeOf) := ggX3_order_X2_placeOf
set_option maxRecDepth 100000 in
theorem ggX3_order_X2_move : GoodIn wsX3_order wsX2_move := goodIn_sub (mc (List.mem_of_getElem? (i := 16) rfl) (mem_two (mc (List.mem_of_getElem? (i := 13) rfl) (mc (List.mem_of_getElem? (i := 17) rfl) (mc (List.mem_of_getElem? (i := 18) rfl) (mc (List.mem_of_getElem? (i := 19) rfl) (mc (List.mem_of_getElem? (i := 9) rfl) (mc (List.mem_of_getElem? (i := 20) rfl) (mc (List.mem_of_getElem? (i := 12) rfl) mn))))))) (fun w h => (List.mem_cons_of_mem _ (List.mem_append_right _ h))))) (by decide +kernel)
set_option maxRecDepth 20000 in
theorem gX3_order_X2_move_n116 : GoodIn wsX3_order (wsX2_move) := ggX3_order_X2_move
theorem dX3_order_0 : decode cX3_order 0 = .ok (.aload_n 0, 1) := by decide +kernel
theorem dX3_order_1 : decode cX3_order 1 = .ok (.getfield 21, 3) := by decide +kernel
theorem dX3_order_4 : decode cX3_order 4 = .ok (.iload_n 1, 1) := by decide +kernel
theorem dX3_order_5 : decode cX3_order 5 = .ok (.invokevirtual 64, 3) := by decide +kernel
theorem dX3_order_8 : decode cX3_order 8 = .ok (.ifCond .eq 14, 3) := by decide +kernel
theorem dX3_order_11 : decode cX3_order 11 = .ok (.aload_n 0, 1) := by decide +kernel
theorem dX3_order_12 : decode cX3_order 12 = .ok (.getfield 21, 3) := by decide +kernel
theorem dX3_order_15 : decode cX3_order 15 = .ok (.iload_n 2, 1) := by decide +kernel
theorem dX3_order_16 : decode cX3_order 16 = .ok (.invokevirtual 64, 3) := by decide +kernel
theorem dX3_order_19 : decode cX3_order 19 = .ok (.ifCond .ne 5, 3) := by decide +kernel
theorem dX3_order_22 : decode cX3_order 22 = .ok (.iconst (-1), 1) := by decide +kernel
theorem dX3_order_23 : decode cX3_order 23 = .ok (.ireturn, 1) := by decide +kernel
theorem dX3_order_24 : decode cX3_order 24 = .ok (.aload_n 0, 1) := by decide +kernel
theorem dX3_order_25 : decode cX3_order 25 = .ok (.getfield 28, 3) := by decide +kernel
theorem dX3_order_28 : decode cX3_order 28 = .ok (.iload_n 1, 1) := by decide +kernel
theorem dX3_order_29 : decode cX3_order 29 = .ok (.invokevirtual 113, 3) := by decide +kernel
theorem dX3_order_32 : decode cX3_order 32 = .ok (.istore_n 3, 1) := by decide +kernel
theorem dX3_order_33 : decode cX3_order 33 = .ok (.aload_n 0, 1) := by decide +kernel
theorem dX3_order_34 : decode cX3_order 34 = .ok (.getfield 28, 3) := by decide +kernel
theorem dX3_order_37 : decode cX3_order 37 = .ok (.iload_n 3, 1) := by decide +kernel
theorem dX3_order_38 : decode cX3_order 38 = .ok (.iload_n 2, 1) := by decide +kernel
theorem dX3_order_39 : decode cX3_order 39 = .ok (.invokevirtual 116, 3) := by decide +kernel
theorem dX3_order_42 : decode cX3_order 42 = .ok (.iload_n 3, 1) := by decide +kernel
theorem dX3_order_43 : decode cX3_order 43 = .ok (.ireturn, 1) := by decide +kernel
set_option maxRecDepth 100000 in
theorem ggX3_best_X2_sort : GoodIn wsX3_best wsX2_sort := goodIn_sub (mc (List.mem_of_getElem? (i := 11) rfl) (mem_two (mc (List.mem_of_getElem? (i := 12) rfl) (mc (List.mem_of_getElem? (i := 13) rfl) mn)) (fun w h => (List.mem_cons_of_mem _ (List.mem_append_left _ (List.mem_append_right _ h)))))) (by decide +kernel)
set_option maxRecDepth 20000 in
theorem gX3_best_X2_sort_n119 : GoodIn wsX3_best (wsX2_sort) := ggX3_best_X2_sort
set_option maxRecDepth 100000 in
theorem ggX3_best_X3_pourAnew : GoodIn wsX3_best wsX3_pourAnew := goodIn_sub (mc (List.mem_of_getElem? (i := 18) rfl) (mem_two (mem_two (mem_two (mem_two (mem_two (mc (List.mem_of_getElem? (i := 1) rfl) (mc (List.mem_of_getElem? (i := 19) rfl) (mc (List.mem_of_getElem? (i := 2) rfl) (mc (List.mem_of_getElem? (i := 20) rfl) (mc (List.mem_of_getElem? (i := 21) rfl) (mc (List.mem_of_getElem? (i := 22) rfl) (mc (List.mem_of_getElem? (i := 23) rfl) (mc (List.mem_of_getElem? (i := 24) rfl) (mc (List.mem_of_getElem? (i := 25) rfl) (mc (List.mem_of_getElem? (i := 26) rfl) (mc (List.mem_of_getElem? (i := 27) rfl) (mc (List.mem_of_getElem? (i := 28) rfl) (mc (List.mem_of_getElem? (i := 29) rfl) (mc (List.mem_of_getElem? (i := 30) rfl) (mc (List.mem_of_getElem? (i := 31) rfl) (mc (List.mem_of_getElem? (i := 17) rfl) (mc (List.mem_of_getElem? (i := 32) rfl) (mc (List.mem_of_getElem? (i := 33) rfl) (mc (List.mem_of_getElem? (i := 34) rfl) (mc (List.mem_of_getElem? (i := 35) rfl) (mc (List.mem_of_getElem? (i := 36) rfl) (mc (List.mem_of_getElem? (i := 37) rfl) (mc (List.mem_of_getElem? (i := 38) rfl) (mc (List.mem_of_getElem? (i := 39) rfl) mn)))))))))))))))))))))))) (mem_two (mc (List.mem_of_getElem? (i := 40) rfl) (mc (List.mem_of_getElem? (i := 41) rfl) (mc (List.mem_of_getElem? (i := 42) rfl) (mc (List.mem_of_getElem? (i := 43) rfl) (mc (List.mem_of_getElem? (i := 44) rfl) (mc (List.mem_of_getElem? (i := 45) rfl) (mc (List.mem_of_getElem? (i := 9) rfl) (mc (List.mem_of_getElem? (i := 46) rfl) (mc (List.mem_of_getElem? (i := 47) rfl) (mc (List.mem_of_getElem? (i := 12) rfl) (mc (List.mem_of_getElem? (i := 13) rfl) (mc (List.mem_of_getElem? (i := 48) rfl) (mc (List.mem_of_getElem? (i := 49) rfl) (mc (List.mem_of_getElem? (i := 50) rfl) (mc (List.mem_of_getElem? (i := 51) rfl) (mc (List.mem_of_getElem? (i := 52) rfl) (mc (List.mem_of_getElem? (i := 53) rfl) (mc (List.mem_of_getElem? (i := 54) rfl) (mc (List.mem_of_getElem? (i := 55) rfl) (mc (List.mem_of_getElem? (i := 56) rfl) (mc (List.mem_of_getElem? (i := 57) rfl) (mc (List.mem_of_getElem? (i := 58) rfl) (mc (List.mem_of_getElem? (i := 59) rfl) (mc (List.mem_of_getElem? (i := 60) rfl) mn)))))))))))))))))))))))) (mem_two (mc (List.mem_of_getElem? (i := 61) rfl) (mc (List.mem_of_getElem? (i := 62) rfl) (mc (List.mem_of_getElem? (i := 63) rfl) (mc (List.mem_of_getElem? (i := 64) rfl) (mc (List.mem_of_getElem? (i := 65) rfl) (mc (List.mem_of_getElem? (i := 66) rfl) (mc (List.mem_of_getElem? (i := 67) rfl) (mc (List.mem_of_getElem? (i := 68) rfl) (mc (List.mem_of_getElem? (i := 69) rfl) (mc (List.mem_of_getElem? (i := 70) rfl) (mc (List.mem_of_getElem? (i := 71) rfl) (mc (List.mem_of_getElem? (i := 72) rfl) (mc (List.mem_of_getElem? (i := 73) rfl) (mc (List.mem_of_getElem? (i := 74) rfl) (mc (List.mem_of_getElem? (i := 75) rfl) (mc (List.mem_of_getElem? (i := 76) rfl) (mc (List.mem_of_getElem? (i := 77) rfl) (mc (List.mem_of_getElem? (i := 78) rfl) (mc (List.mem_of_getElem? (i := 79) rfl) (mc (List.mem_of_getElem? (i := 80) rfl) (mc (List.mem_of_getElem? (i := 81) rfl) (mc (List.mem_of_getElem? (i := 82) rfl) (mc (List.mem_of_getElem? (i := 83) rfl) (mc (List.mem_of_getElem? (i := 84) rfl) mn)))))))))))))))))))))))) (mc (List.mem_of_getElem? (i := 85) rfl) (mc (List.mem_of_getElem? (i := 86) rfl) (mc (List.mem_of_getElem? (i := 87) rfl) (mc (List.mem_of_getElem? (i := 88) rfl) (mc (List.mem_of_getElem? (i := 89) rfl) (mc (List.mem_of_getElem? (i := 90) rfl) (mc (List.mem_of_getElem? (i := 91) rfl) (mc (List.mem_of_getElem? (i := 92) rfl) (mc (List.mem_of_getElem? (i := 93) rfl) (mc (List.mem_of_getElem? (i := 94) rfl) mn))))))))))))) (fun w h => (List.mem_cons_of_mem _ (List.mem_append_left _ (List.mem_append_left _ (List.mem_append_left _ (List.mem_append_right _ h))))))) (fun w h => (List.mem_cons_of_mem _ (List.mem_append_left _ (List.mem_append_left _ (List.mem_append_right _ h)))))) (fun w h => (List.mem_cons_of_mem _ (List.mem_append_left _ (List.mem_append_right _ h))))) (fun w h => (List.mem_cons_of_mem _ (List.mem_append_right _ h))))) (by decide +kernel)
set_option maxRecDepth 100000 in
theorem gX3_best_X3_pourAnew : GoodIn wsX3_best (wsV RX3 109 RX3 yX3_pourAnew wsX3_pourAnew) := goodIn_app (goodIn_sub (mc (List.mem_of_getElem? (i := 14) rfl) (mc (List.mem_of_getElem? (i := 15) rfl) (mc (List.mem_of_getElem? (i := 16) rfl) (mc (List.mem_of_getElem? (i := 17) rfl) mn)))) (by decide +kernel)) ggX3_best_X3_pourAnew
set_option maxRecDepth 100000 in
theorem ggX3_best_X2_toNext : GoodIn wsX3_best wsX2_toNext := goodIn_sub (mc (List.mem_of_getElem? (i := 97) rfl) (mem_two (mc (List.mem_of_getElem? (i := 12) rfl) (mc (List.mem_of_getElem? (i := 13) rfl) (mc (List.mem_of_getElem? (i := 98) rfl) (mc (List.mem_of_getElem? (i := 99) rfl) (mc (List.mem_of_getElem? (i := 100) rfl) (mc (List.mem_of_getElem? (i := 9) rfl) (mc (List.mem_of_getElem? (i := 101) rfl) mn))))))) (fun w h => (List.mem_cons_of_mem _ (List.mem_append_left _ (List.mem_append_right _ h)))))) (by decide +kernel)
set_option maxRecDepth 20000 in
theorem gX3_best_X2_toNext_n131 : GoodIn wsX3_best (wsX2_toNext) := ggX3_best_X2_toNext
set_option maxRecDepth 100000 in
theorem ggX3_best_X3_plan : GoodIn wsX3_best wsX3_plan := goodIn_sub (mc (List.mem_of_getElem? (i := 105) rfl) (mem_two (mem_two (mem_two (mem_two (mem_two (mc (List.mem_of_getElem? (i := 106) rfl) (mc (List.mem_of_getElem? (i := 14) rfl) (mc (List.mem_of_getElem? (i := 15) rfl) (mc (List.mem_of_getElem? (i := 16) rfl) (mc (List.mem_of_getElem? (i := 17) rfl) (mc (List.mem_of_getElem? (i := 18) rfl) (mc (List.mem_of_getElem? (i := 1) rfl) (mc (List.mem_of_getElem? (i := 19) rfl) (mc (List.mem_of_getElem? (i := 2) rfl) (mc (List.mem_of_getElem? (i := 20) rfl) (mc (List.mem_of_getElem? (i := 21) rfl) (mc (List.mem_of_getElem? (i := 22) rfl) (mc (List.mem_of_getElem? (i := 23) rfl) (mc (List.mem_of_getElem? (i := 24) rfl) (mc (List.mem_of_getElem? (i := 25) rfl) (mc (List.mem_of_getElem? (i := 26) rfl) (mc (List.mem_of_getElem? (i := 27) rfl) (mc (List.mem_of_getElem? (i := 28) rfl) (mc (List.mem_of_getElem? (i := 29) rfl) (mc (List.mem_of_getElem? (i := 30) rfl) (mc (List.mem_of_getElem? (i := 31) rfl) (mc (List.mem_of_getElem? (i := 32) rfl) (mc (List.mem_of_getElem? (i := 33) rfl) (mc (List.mem_of_getElem? (i := 34) rfl) mn)))))))))))))))))))))))) (mem_two (mc (List.mem_of_getElem? (i := 35) rfl) (mc (List.mem_of_getElem? (i := 36) rfl) (mc (List.mem_of_getElem? (i := 37) rfl) (mc (List.mem_of_getElem? (i := 38) rfl) (mc (List.mem_of_getElem? (i := 39) rfl) (mc (List.mem_of_getElem? (i := 40) rfl) (mc (List.mem_of_getElem? (i := 41) rfl) (mc (List.mem_of_getElem? (i := 42) rfl) (mc (List.mem_of_getElem? (i := 43) rfl) (mc (List.mem_of_getElem? (i := 44) rfl) (mc (List.mem_of_getElem? (i := 45) rfl) (mc (List.mem_of_getElem? (i := 9) rfl) (mc (List.mem_of_getElem? (i := 46) rfl) (mc (List.mem_of_getElem? (i := 47) rfl) (mc (List.mem_of_getElem? (i := 12) rfl) (mc (List.mem_of_getElem? (i := 13) rfl) (mc (List.mem_of_getElem? (i := 48) rfl) (mc (List.mem_of_getElem? (i := 49) rfl) (mc (List.mem_of_getElem? (i := 50) rfl) (mc (List.mem_of_getElem? (i := 51) rfl) (mc (List.mem_of_getElem? (i := 52) rfl) (mc (List.mem_of_getElem? (i := 53) rfl) (mc (List.mem_of_getElem? (i := 54) rfl) (mc (List.mem_of_getElem? (i := 55) rfl) mn)))))))))))))))))))))))) (mem_two (mc (List.mem_of_getElem? (i := 56) rfl) (mc (List.mem_of_getElem? (i := 57) rfl) (mc (List.mem_of_getElem? (i := 58) rfl) (mc (List.mem_of_getElem? (i := 59) rfl) (mc (List.mem_of_getElem? (i := 60) rfl) (mc (List.mem_of_getElem? (i := 61) rfl) (mc (List.mem_of_getElem? (i := 62) rfl) (mc (List.mem_of_getElem? (i := 63) rfl) (mc (List.mem_of_getElem? (i := 64) rfl) (mc (List.mem_of_getElem? (i := 65) rfl) (mc (List.mem_of_getElem? (i := 66) rfl) (mc (List.mem_of_getElem? (i := 67) rfl) (mc (List.mem_of_getElem? (i := 68) rfl) (mc (List.mem_of_getElem? (i := 69) rfl) (mc (List.mem_of_getElem? (i := 70) rfl) (mc (List.mem_of_getElem? (i := 71) rfl) (mc (List.mem_of_getElem? (i := 72) rfl) (mc (List.mem_of_getElem? (i := 73) rfl) (mc (List.mem_of_getElem? (i := 74) rfl) (mc (List.mem_of_getElem? (i := 75) rfl) (mc (List.mem_of_getElem? (i := 76) rfl) (mc (List.mem_of_getElem? (i := 77) rfl) (mc (List.mem_of_getElem? (i := 78) rfl) (mc (List.mem_of_getElem? (i := 79) rfl) mn)))))))))))))))))))))))) (mc (List.mem_of_getElem? (i := 80) rfl) (mc (List.mem_of_getElem? (i := 81) rfl) (mc (List.mem_of_getElem? (i := 82) rfl) (mc (List.mem_of_getElem? (i := 83) rfl) (mc (List.mem_of_getElem? (i := 84) rfl) (mc (List.mem_of_getElem? (i := 85) rfl) (mc (List.mem_of_getElem? (i := 86) rfl) (mc (List.mem_of_getElem? (i := 87) rfl) (mc (List.mem_of_getElem? (i := 88) rfl) (mc (List.mem_of_getElem? (i := 89) rfl) (mc (List.mem_of_getElem? (i := 90) rfl) (mc (List.mem_of_getElem? (i := 91) rfl) (mc (List.mem_of_getElem? (i := 92) rfl) (mc (List.mem_of_getElem? (i := 93) rfl) (mc (List.mem_of_getElem? (i := 94) rfl) mn)))))))))))))))))) (fun w h => (List.mem_cons_of_mem _ (List.mem_append_left _ (List.mem_append_left _ (List.mem_append_left _ (List.mem_append_right _ h))))))) (fun w h => (List.mem_cons_of_mem _ (List.mem_append_left _ (List.mem_append_left _ (List.mem_append_right _ h)))))) (fun w h => (List.mem_cons_of_mem _ (List.mem_append_left _ (List.mem_append_right _ h))))) (fun w h => (List.mem_cons_of_mem _ (List.mem_append_right _ h))))) (by decide +kernel)
set_option maxRecDepth 100000 in
theorem gX3_best_X3_plan : GoodIn wsX3_best (wsV RX3 135 RX3 yX3_plan wsX3_plan) := goodIn_app (goodIn_sub (mc (List.mem_of_getElem? (i := 102) rfl) (mc (List.mem_of_getElem? (i := 103) rfl) (mc (List.mem_of_getElem? (i := 104) rfl) (mc (List.mem_of_getElem? (i := 17) rfl) mn)))) (by decide +kernel)) ggX3_best_X3_plan
theorem dX3_best_0 : decode cX3_best 0 = .ok (.aload_n 0, 1) := by decide +kernel
theorem dX3_best_1 : decode cX3_best 1 = .ok (.getfield 21, 3) := by decide +kernel
theorem dX3_best_4 : decode cX3_best 4 = .ok (.getfield 53, 3) := by decide +kernel
theorem dX3_best_7 : decode cX3_best 7 = .ok (.istore_n 1, 1) := by decide +kernel
theorem dX3_best_8 : decode cX3_best 8 = .ok (.iload_n 1, 1) := by decide +kernel
theorem dX3_best_9 : decode cX3_best 9 = .ok (.iconst 1, 1) := by decide +kernel
theorem dX3_best_10 : decode cX3_best 10 = .ok (.if_icmp .lt 8, 3) := by decide +kernel
theorem dX3_best_13 : decode cX3_best 13 = .ok (.iload_n 1, 1) := by decide +kernel
theorem dX3_best_14 : decode cX3_best 14 = .ok (.iconst 5, 1) := by decide +kernel
theorem dX3_best_15 : decode cX3_best 15 = .ok (.if_icmp .le 6, 3) := by decide +kernel
theorem dX3_best_18 : decode cX3_best 18 = .ok (.bipush (-3), 2) := by decide +kernel
theorem dX3_best_20 : decode cX3_best 20 = .ok (.ireturn, 1) := by decide +kernel
theorem dX3_best_21 : decode cX3_best 21 = .ok (.bipush 41, 2) := by decide +kernel
theorem dX3_best_23 : decode cX3_best 23 = .ok (.istore_n 2, 1) := by decide +kernel
theorem dX3_best_24 : decode cX3_best 24 = .ok (.aload_n 0, 1) := by decide +kernel
theorem dX3_best_25 : decode cX3_best 25 = .ok (.getfield 28, 3) := by decide +kernel
theorem dX3_best_28 : decode cX3_best 28 = .ok (.invokevirtual 119, 3) := by decide +kernel
theorem dX3_best_31 : decode cX3_best 31 = .ok (.iconst 0, 1) := by decide +kernel
theorem dX3_best_32 : decode cX3_best 32 = .ok (.istore_n 3, 1) := by decide +kernel
theorem dX3_best_33 : decode cX3_best 33 = .ok (.iload_n 3, 1) := by decide +kernel
theorem dX3_best_34 : decode cX3_best 34 = .ok (.bipush 120, 2) := by decide +kernel
theorem dX3_best_36 : decode cX3_best 36 = .ok (.if_icmp .ge 54, 3) := by decide +kernel
theorem dX3_best_39 : decode cX3_best 39 = .ok (.aload_n 0, 1) := by decide +kernel
theorem dX3_best_40 : decode cX3_best 40 = .ok (.invokevirtual 109, 3) := by decide +kernel
theorem dX3_best_43 : decode cX3_best 43 = .ok (.istore 4, 2) := by decide +kernel
theorem dX3_best_45 : decode cX3_best 45 = .ok (.iload 4, 2) := by decide +kernel
theorem dX3_best_47 : decode cX3_best 47 = .ok (.iload_n 2, 1) := by decide +kernel
theorem dX3_best_48 : decode cX3_best 48 = .ok (.if_icmp .ge 23, 3) := by decide +kernel
theorem dX3_best_51 : decode cX3_best 51 = .ok (.iload 4, 2) := by decide +kernel
theorem dX3_best_53 : decode cX3_best 53 = .ok (.istore_n 2, 1) := by decide +kernel
theorem dX3_best_54 : decode cX3_best 54 = .ok (.aload_n 0, 1) := by decide +kernel
theorem dX3_best_55 : decode cX3_best 55 = .ok (.getfield 28, 3) := by decide +kernel
theorem dX3_best_58 : decode cX3_best 58 = .ok (.getfield 122, 3) := by decide +kernel
theorem dX3_best_61 : decode cX3_best 61 = .ok (.iconst 0, 1) := by decide +kernel
theorem dX3_best_62 : decode cX3_best 62 = .ok (.aload_n 0, 1) := by decide +kernel
theorem dX3_best_63 : decode cX3_best 63 = .ok (.getfield 36, 3) := by decide +kernel
theorem dX3_best_66 : decode cX3_best 66 = .ok (.iconst 0, 1) := by decide +kernel
theorem dX3_best_67 : decode cX3_best 67 = .ok (.iload_n 1, 1) := by decide +kernel
theorem dX3_best_68 : decode cX3_best 68 = .ok (.invokestatic 125, 3) := by decide +kernel
theorem dX3_best_71 : decode cX3_best 71 = .ok (.aload_n 0, 1) := by decide +kernel
theorem dX3_best_72 : decode cX3_best 72 = .ok (.getfield 28, 3) := by decide +kernel
theorem dX3_best_75 : decode cX3_best 75 = .ok (.invokevirtual 131, 3) := by decide +kernel
theorem dX3_best_78 : decode cX3_best 78 = .ok (.ifCond .ne 6, 3) := by decide +kernel
theorem dX3_best_81 : decode cX3_best 81 = .ok (.goto 9, 3) := by decide +kernel
theorem dX3_best_84 : decode cX3_best 84 = .ok (.iinc 3 1, 3) := by decide +kernel
theorem dX3_best_87 : decode cX3_best 87 = .ok (.goto (-54), 3) := by decide +kernel
theorem dX3_best_90 : decode cX3_best 90 = .ok (.aload_n 0, 1) := by decide +kernel
theorem dX3_best_91 : decode cX3_best 91 = .ok (.getfield 36, 3) := by decide +kernel
theorem dX3_best_94 : decode cX3_best 94 = .ok (.iconst 0, 1) := by decide +kernel
theorem dX3_best_95 : decode cX3_best 95 = .ok (.aload_n 0, 1) := by decide +kernel
theorem dX3_best_96 : decode cX3_best 96 = .ok (.getfield 28, 3) := by decide +kernel
theorem dX3_best_99 : decode cX3_best 99 = .ok (.getfield 122, 3) := by decide +kernel
theorem dX3_best_102 : decode cX3_best 102 = .ok (.iconst 0, 1) := by decide +kernel
theorem dX3_best_103 : decode cX3_best 103 = .ok (.iload_n 1, 1) := by decide +kernel
theorem dX3_best_104 : decode cX3_best 104 = .ok (.invokestatic 125, 3) := by decide +kernel
theorem dX3_best_107 : decode cX3_best 107 = .ok (.aload_n 0, 1) := by decide +kernel
theorem dX3_best_108 : decode cX3_best 108 = .ok (.invokevirtual 135, 3) := by decide +kernel
theorem dX3_best_111 : decode cX3_best 111 = .ok (.ireturn, 1) := by decide +kernel
set_option maxRecDepth 100000 in
theorem ggX3_better_X3_pourAnew : GoodIn wsX3_better wsX3_pourAnew := goodIn_sub (mc (List.mem_of_getElem? (i := 6) rfl) (mem_two (mem_two (mem_two (mem_two (mem_two (mc (List.mem_of_getElem? (i := 7) rfl) (mc (List.mem_of_getElem? (i := 8) rfl) (mc (List.mem_of_getElem? (i := 9) rfl) (mc (List.mem_of_getElem? (i := 10) rfl) (mc (List.mem_of_getElem? (i := 11) rfl) (mc (List.mem_of_getElem? (i := 12) rfl) (mc (List.mem_of_getElem? (i := 13) rfl) (mc (List.mem_of_getElem? (i := 14) rfl) (mc (List.mem_of_getElem? (i := 15) rfl) (mc (List.mem_of_getElem? (i := 16) rfl) (mc (List.mem_of_getElem? (i := 17) rfl) (mc (List.mem_of_getElem? (i := 18) rfl) (mc (List.mem_of_getElem? (i := 19) rfl) (mc (List.mem_of_getElem? (i := 20) rfl) (mc (List.mem_of_getElem? (i := 21) rfl) (mc (List.mem_of_getElem? (i := 5) rfl) (mc (List.mem_of_getElem? (i := 22) rfl) (mc (List.mem_of_getElem? (i := 23) rfl) (mc (List.mem_of_getElem? (i := 24) rfl) (mc (List.mem_of_getElem? (i := 25) rfl) (mc (List.mem_of_getElem? (i := 26) rfl) (mc (List.mem_of_getElem? (i := 27) rfl) (mc (List.mem_of_getElem? (i := 28) rfl) (mc (List.mem_of_getElem? (i := 29) rfl) mn)))))))))))))))))))))))) (mem_two (mc (List.mem_of_getElem? (i := 30) rfl) (mc (List.mem_of_getElem? (i := 31) rfl) (mc (List.mem_of_getElem? (i := 32) rfl) (mc (List.mem_of_getElem? (i := 33) rfl) (mc (List.mem_of_getElem? (i := 34) rfl) (mc (List.mem_of_getElem? (i := 35) rfl) (mc (List.mem_of_getElem? (i := 36) rfl) (mc (List.mem_of_getElem? (i := 37) rfl) (mc (List.mem_of_getElem? (i := 38) rfl) (mc (List.mem_of_getElem? (i := 39) rfl) (mc (List.mem_of_getElem? (i := 40) rfl) (mc (List.mem_of_getElem? (i := 41) rfl) (mc (List.mem_of_getElem? (i := 42) rfl) (mc (List.mem_of_getElem? (i := 43) rfl) (mc (List.mem_of_getElem? (i := 44) rfl) (mc (List.mem_of_getElem? (i := 45) rfl) (mc (List.mem_of_getElem? (i := 46) rfl) (mc (List.mem_of_getElem? (i := 47) rfl) (mc (List.mem_of_getElem? (i := 48) rfl) (mc (List.mem_of_getElem? (i := 49) rfl) (mc (List.mem_of_getElem? (i := 50) rfl) (mc (List.mem_of_getElem? (i := 51) rfl) (mc (List.mem_of_getElem? (i := 52) rfl) (mc (List.mem_of_getElem? (i := 53) rfl) mn)))))))))))))))))))))))) (mem_two (mc (List.mem_of_getElem? (i := 54) rfl) (mc (List.mem_of_getElem? (i := 55) rfl) (mc (List.mem_of_getElem? (i := 56) rfl) (mc (List.mem_of_getElem? (i := 57) rfl) (mc (List.mem_of_getElem? (i := 58) rfl) (mc (List.mem_of_getElem? (i := 59) rfl) (mc (List.mem_of_getElem? (i := 60) rfl) (mc (List.mem_of_getElem? (i := 61) rfl) (mc (List.mem_of_getElem? (i := 62) rfl) (mc (List.mem_of_getElem? (i := 63) rfl) (mc (List.mem_of_getElem? (i := 64) rfl) (mc (List.mem_of_getElem? (i := 65) rfl) (mc (List.mem_of_getElem? (i := 66) rfl) (mc (List.mem_of_getElem? (i := 67) rfl) (mc (List.mem_of_getElem? (i := 68) rfl) (mc (List.mem_of_getElem? (i := 69) rfl) (mc (List.mem_of_getElem? (i := 70) rfl) (mc (List.mem_of_getElem? (i := 71) rfl) (mc (List.mem_of_getElem? (i := 72) rfl) (mc (List.mem_of_getElem? (i := 73) rfl) (mc (List.mem_of_getElem? (i := 74) rfl) (mc (List.mem_of_getElem? (i := 75) rfl) (mc (List.mem_of_getElem? (i := 76) rfl) (mc (List.mem_of_getElem? (i := 77) rfl) mn)))))))))))))))))))))))) (mc (List.mem_of_getElem? (i := 78) rfl) (mc (List.mem_of_getElem? (i := 79) rfl) (mc (List.mem_of_getElem? (i := 80) rfl) (mc (List.mem_of_getElem? (i := 81) rfl) (mc (List.mem_of_getElem? (i := 82) rfl) (mc (List.mem_of_getElem? (i := 83) rfl) (mc (List.mem_of_getElem? (i := 84) rfl) (mc (List.mem_of_getElem? (i := 85) rfl) (mc (List.mem_of_getElem? (i := 86) rfl) (mc (List.mem_of_getElem? (i := 87) rfl) mn))))))))))))) (fun w h => (List.mem_cons_of_mem _ (List.mem_append_left _ (List.mem_append_left _ (List.mem_append_left _ (List.mem_append_right _ h))))))) (fun w h => (List.mem_cons_of_mem _ (List.mem_append_left _ (List.mem_append_left _ (List.mem_append_right _ h)))))) (fun w h => (List.mem_cons_of_mem _ (List.mem_append_left _ (List.mem_append_right _ h))))) (fun w h => (List.mem_cons_of_mem _ (List.mem_append_right _ h))))) (by decide +kernel)
set_option maxRecDepth 100000 in
theorem gX3_better_X3_pourAnew : GoodIn wsX3_better (wsV RX3 109 RX3 yX3_pourAnew wsX3_pourAnew) := goodIn_app (goodIn_sub (mc (List.mem_of_getElem? (i := 2) rfl) (mc (List.mem_of_getElem? (i := 3) rfl) (mc (List.mem_of_getElem? (i := 4) rfl) (mc (List.mem_of_getElem? (i := 5) rfl) mn)))) (by decide +kernel)) ggX3_better_X3_pourAnew
set_option maxRecDepth 100000 in
theorem ggX3_better_X3_endOfFirstGoodChange : GoodIn wsX3_better wsX3_endOfFirstGoodChange := goodIn_sub (mc (List.mem_of_getElem? (i := 91) rfl) (mem_two (mem_two (mem_two (mem_two (mem_two (mc (List.mem_of_getElem? (i := 7) rfl) (mc (List.mem_of_getElem? (i := 9) rfl) (mc (List.mem_of_getElem? (i := 92) rfl) (mc (List.mem_of_getElem? (i := 36) rfl) (mc (List.mem_of_getElem? (i := 93) rfl) (mc (List.mem_of_getElem? (i := 94) rfl) (mc (List.mem_of_getElem? (i := 40) rfl) (mc (List.mem_of_getElem? (i := 95) rfl) (mc (List.mem_of_getElem? (i := 96) rfl) (mc (List.mem_of_getElem? (i := 97) rfl) (mc (List.mem_of_getElem? (i := 98) rfl) (mc (List.mem_of_getElem? (i := 39) rfl) (mc (List.mem_of_getElem? (i := 2) rfl) (mc (List.mem_of_getElem? (i := 3) rfl) (mc (List.mem_of_getElem? (i := 4) rfl) (mc (List.mem_of_getElem? (i := 5) rfl) (mc (List.mem_of_getElem? (i := 6) rfl) (mc (List.mem_of_getElem? (i := 8) rfl) (mc (List.mem_of_getElem? (i := 10) rfl) (mc (List.mem_of_getElem? (i := 11) rfl) (mc (List.mem_of_getElem? (i := 12) rfl) (mc (List.mem_of_getElem? (i := 13) rfl) (mc (List.mem_of_getElem? (i := 14) rfl) (mc (List.mem_of_getElem? (i := 15) rfl) mn)))))))))))))))))))))))) (mem_two (mc (List.mem_of_getElem? (i := 16) rfl) (mc (List.mem_of_getElem? (i := 17) rfl) (mc (List.mem_of_getElem? (i := 18) rfl) (mc (List.mem_of_getElem? (i := 19) rfl) (mc (List.mem_of_getElem? (i := 20) rfl) (mc (List.mem_of_getElem? (i := 21) rfl) (mc (List.mem_of_getElem? (i := 22) rfl) (mc (List.mem_of_getElem? (i := 23) rfl) (mc (List.mem_of_getElem? (i := 24) rfl) (mc (List.mem_of_getElem? (i := 25) rfl) (mc (List.mem_of_getElem? (i := 26) rfl) (mc (List.mem_of_getElem? (i := 27) rfl) (mc (List.mem_of_getElem? (i := 28) rfl) (mc (List.mem_of_getElem? (i := 29) rfl) (mc (List.mem_of_getElem? (i := 30) rfl) (mc (List.mem_of_getElem? (i := 31) rfl) (mc (List.mem_of_getElem? (i := 32) rfl) (mc (List.mem_of_getElem? (i := 33) rfl) (mc (List.mem_of_getElem? (i := 34) rfl) (mc (List.mem_of_getElem? (i := 35) rfl) (mc (List.mem_of_getElem? (i := 37) rfl) (mc (List.mem_of_getElem? (i := 38) rfl) (mc (List.mem_of_getElem? (i := 41) rfl) (mc (List.mem_of_getElem? (i := 42) rfl) mn)))))))))))))))))))))))) (mem_two (mc (List.mem_of_getElem? (i := 43) rfl) (mc (List.mem_of_getElem? (i := 44) rfl) (mc (List.mem_of_getElem? (i := 45) rfl) (mc (List.mem_of_getElem? (i := 46) rfl) (mc (List.mem_of_getElem? (i := 47) rfl) (mc (List.mem_of_getElem? (i := 48) rfl) (mc (List.mem_of_getElem? (i := 49) rfl) (mc (List.mem_of_getElem? (i := 50) rfl) (mc (List.mem_of_getElem? (i := 51) rfl) (mc (List.mem_of_getElem? (i := 52) rfl) (mc (List.mem_of_getElem? (i := 53) rfl) (mc (List.mem_of_getElem? (i := 54) rfl) (mc (List.mem_of_getElem? (i := 55) rfl) (mc (List.mem_of_getElem? (i := 56) rfl) (mc (List.mem_of_getElem? (i := 57) rfl) (mc (List.mem_of_getElem? (i := 58) rfl) (mc (List.mem_of_getElem? (i := 59) rfl) (mc (List.mem_of_getElem? (i := 60) rfl) (mc (List.mem_of_getElem? (i := 61) rfl) (mc (List.mem_of_getElem? (i := 62) rfl) (mc (List.mem_of_getElem? (i := 63) rfl) (mc (List.mem_of_getElem? (i := 64) rfl) (mc (List.mem_of_getElem? (i := 65) rfl) (mc (List.mem_of_getElem? (i := 66) rfl) mn)))))))))))))))))))))))) (mc (List.mem_of_getElem? (i := 67) rfl) (mc (List.mem_of_getElem? (i := 68) rfl) (mc (List.mem_of_getElem? (i := 69) rfl) (mc (List.mem_of_getElem? (i := 70) rfl) (mc (List.mem_of_getElem? (i := 71) rfl) (mc (List.mem_of_getElem? (i := 72) rfl) (mc (List.mem_of_getElem? (i := 73) rfl) (mc (List.mem_of_getElem? (i := 74) rfl) (mc (List.mem_of_getElem? (i := 75) rfl) (mc (List.mem_of_getElem? (i := 76) rfl) (mc (List.mem_of_getElem? (i := 77) rfl) (mc (List.mem_of_getElem? (i := 78) rfl) (mc (List.mem_of_getElem? (i := 79) rfl) (mc (List.mem_of_getElem? (i := 80) rfl) (mc (List.mem_of_getElem? (i := 81) rfl) (mc (List.mem_of_getElem? (i := 82) rfl) (mc (List.mem_of_getElem? (i := 83) rfl) (mc (List.mem_of_getElem? (i := 84) rfl) (mc (List.mem_of_getElem? (i := 85) rfl) (mc (List.mem_of_getElem? (i := 86) rfl) (mc (List.mem_of_getElem? (i := 87) rfl) mn)))))))))))))))))))))))) (fun w h => (List.mem_cons_of_mem _ (List.mem_append_left _ (List.mem_append_left _ (List.mem_append_left _ (List.mem_append_right _ h))))))) (fun w h => (List.mem_cons_of_mem _ (List.mem_append_left _ (List.mem_append_left _ (List.mem_append_right _ h)))))) (fun w h => (List.mem_cons_of_mem _ (List.mem_append_left _ (List.mem_append_right _ h))))) (fun w h => (List.mem_cons_of_mem _ (List.mem_append_right _ h))))) (by decide +kernel)
set_option maxRecDepth 100000 in
theorem gX3_better_X3_endOfFirstGoodChange : GoodIn wsX3_better (wsV RX3 138 RX3 yX3_endOfFirstGoodChange wsX3_endOfFirstGoodChange) := goodIn_app (goodIn_sub (mc (List.mem_of_getElem? (i := 88) rfl) (mc (List.mem_of_getElem? (i := 89) rfl) (mc (List.mem_of_getElem? (i := 90) rfl) (mc (List.mem_of_getElem? (i := 5) rfl) mn)))) (by decide +kernel)) ggX3_better_X3_endOfFirstGoodChange
theorem dX3_better_0 : decode cX3_better 0 = .ok (.iconst 0, 1) := by decide +kernel
theorem dX3_better_1 : decode cX3_better 1 = .ok (.istore_n 1, 1) := by decide +kernel
theorem dX3_better_2 : decode cX3_better 2 = .ok (.aload_n 0, 1) := by decide +kernel
theorem dX3_better_3 : decode cX3_better 3 = .ok (.invokevirtual 109, 3) := by decide +kernel
theorem dX3_better_6 : decode cX3_better 6 = .ok (.istore_n 2, 1) := by decide +kernel
theorem dX3_better_7 : decode cX3_better 7 = .ok (.iconst 0, 1) := by decide +kernel
theorem dX3_better_8 : decode cX3_better 8 = .ok (.istore_n 3, 1) := by decide +kernel
theorem dX3_better_9 : decode cX3_better 9 = .ok (.iload_n 3, 1) := by decide +kernel
theorem dX3_better_10 : decode cX3_better 10 = .ok (.bipush 10, 2) := by decide +kernel
theorem dX3_better_12 : decode cX3_better 12 = .ok (.if_icmp .ge 31, 3) := by decide +kernel
theorem dX3_better_15 : decode cX3_better 15 = .ok (.aload_n 0, 1) := by decide +kernel
theorem dX3_better_16 : decode cX3_better 16 = .ok (.iload_n 2, 1) := by decide +kernel
theorem dX3_better_17 : decode cX3_better 17 = .ok (.invokevirtual 138, 3) := by decide +kernel
theorem dX3_better_20 : decode cX3_better 20 = .ok (.istore 4, 2) := by decide +kernel
theorem dX3_better_22 : decode cX3_better 22 = .ok (.iload 4, 2) := by decide +kernel
theorem dX3_better_24 : decode cX3_better 24 = .ok (.iload_n 2, 1) := by decide +kernel
theorem dX3_better_25 : decode cX3_better 25 = .ok (.if_icmp .lt 6, 3) := by decide +kernel
theorem dX3_better_28 : decode cX3_better 28 = .ok (.goto 15, 3) := by decide +kernel
theorem dX3_better_31 : decode cX3_better 31 = .ok (.iload 4, 2) := by decide +kernel
theorem dX3_better_33 : decode cX3_better 33 = .ok (.istore_n 2, 1) := by decide +kernel
theorem dX3_better_34 : decode cX3_better 34 = .ok (.iinc 1 1, 3) := by decide +kernel
theorem dX3_better_37 : decode cX3_better 37 = .ok (.iinc 3 1, 3) := by decide +kernel
theorem dX3_better_40 : decode cX3_better 40 = .ok (.goto (-31), 3) := by decide +kernel
theorem dX3_better_43 : decode cX3_better 43 = .ok (.aload_n 0, 1) := by decide +kernel
theorem dX3_better_44 : decode cX3_better 44 = .ok (.aload_n 0, 1) := by decide +kernel
theorem dX3_better_45 : decode cX3_better 45 = .ok (.invokevirtual 109, 3) := by decide +kernel
theorem dX3_better_48 : decode cX3_better 48 = .ok (.putfield 46, 3) := by decide +kernel
theorem dX3_better_51 : decode cX3_better 51 = .ok (.iload_n 1, 1) := by decide +kernel
theorem dX3_better_52 : decode cX3_better 52 = .ok (.ireturn, 1) := by decide +kernel
set_option maxRecDepth 100000 in
theorem ggX3_now_X3_isDay : GoodIn wsX3_now wsX3_isDay := goodIn_sub (mc (List.mem_of_getElem? (i := 6) rfl) (mc (List.mem_of_getElem? (i := 7) rfl) (mc (List.mem_of_getElem? (i := 8) rfl) (mc (List.mem_of_getElem? (i := 5) rfl) (mc (List.mem_of_getElem? (i := 9) rfl) mn))))) (by decide +kernel)
set_option maxRecDepth 20000 in
theorem gX3_now_X3_isDay : GoodIn wsX3_now (va_wsS RX3 82 yX3_isDay wsX3_isDay) := goodIn_app (goodIn_of _ (by decide +kernel)) ggX3_now_X3_isDay
set_option maxRecDepth 100000 in
theorem ggX3_now_X1_unpourFrom : GoodIn wsX3_now wsX1_unpourFrom := goodIn_sub (mc (List.mem_of_getElem? (i := 13) rfl) (mem_two (mc (List.mem_of_getElem? (i := 14) rfl) (mc (List.mem_of_getElem? (i := 15) rfl) mn)) (fun w h => (List.mem_cons_of_mem _ (List.mem_append_right _ h))))) (by decide +kernel)
set_option maxRecDepth 20000 in
theorem gX3_now_X1_unpourFrom_n141 : GoodIn wsX3_now (wsX1_unpourFrom) := ggX3_now_X1_unpourFrom
theorem dX3_now_0 : decode cX3_now 0 = .ok (.iload_n 1, 1) := by decide +kernel
theorem dX3_now_1 : decode cX3_now 1 = .ok (.invokestatic 82, 3) := by decide +kernel
theorem dX3_now_4 : decode cX3_now 4 = .ok (.ifCond .ne 5, 3) := by decide +kernel
theorem dX3_now_7 : decode cX3_now 7 = .ok (.iconst (-1), 1) := by decide +kernel
theorem dX3_now_8 : decode cX3_now 8 = .ok (.ireturn, 1) := by decide +kernel
theorem dX3_now_9 : decode cX3_now 9 = .ok (.iload_n 1, 1) := by decide +kernel
theorem dX3_now_10 : decode cX3_now 10 = .ok (.aload_n 0, 1) := by decide +kernel
theorem dX3_now_11 : decode cX3_now 11 = .ok (.getfield 43, 3) := by decide +kernel
theorem dX3_now_14 : decode cX3_now 14 = .ok (.if_icmp .ge 6, 3) := by decide +kernel
theorem dX3_now_17 : decode cX3_now 17 = .ok (.bipush (-2), 2) := by decide +kernel
theorem dX3_now_19 : decode cX3_now 19 = .ok (.ireturn, 1) := by decide +kernel
theorem dX3_now_20 : decode cX3_now 20 = .ok (.aload_n 0, 1) := by decide +kernel
theorem dX3_now_21 : decode cX3_now 21 = .ok (.iload_n 1, 1) := by decide +kernel
theorem dX3_now_22 : decode cX3_now 22 = .ok (.putfield 43, 3) := by decide +kernel
theorem dX3_now_25 : decode cX3_now 25 = .ok (.aload_n 0, 1) := by decide +kernel
theorem dX3_now_26 : decode cX3_now 26 = .ok (.getfield 21, 3) := by decide +kernel
theorem dX3_now_29 : decode cX3_now 29 = .ok (.iload_n 1, 1) := by decide +kernel
theorem dX3_now_30 : decode cX3_now 30 = .ok (.invokevirtual 141, 3) := by decide +kernel
theorem dX3_now_33 : decode cX3_now 33 = .ok (.ireturn, 1) := by decide +kernel
set_option maxRecDepth 100000 in
theorem ggX3_bound_X1_longestLead : GoodIn wsX3_bound wsX1_longestLead := goodIn_sub (mc (List.mem_of_getElem? (i := 5) rfl) (mem_two (mc (List.mem_of_getElem? (i := 6) rfl) (mc (List.mem_of_getElem? (i := 7) rfl) (mc (List.mem_of_getElem? (i := 8) rfl) (mc (List.mem_of_getElem? (i := 9) rfl) (mc (List.mem_of_getElem? (i := 10) rfl) (mc (List.mem_of_getElem? (i := 11) rfl) (mc (List.mem_of_getElem? (i := 12) rfl) (mc (List.mem_of_getElem? (i := 13) rfl) (mc (List.mem_of_getElem? (i := 14) rfl) (mc (List.mem_of_getElem? (i := 3) rfl) (mc (List.mem_of_getElem? (i := 15) rfl) (mc (List.mem_of_getElem? (i := 16) rfl) mn)))))))))))) (fun w h => (List.mem_cons_of_mem _ (List.mem_append_right _ h))))) (by decide +kernel)
set_option maxRecDepth 20000 in
theorem gX3_bound_X1_longestLead_n144 : GoodIn wsX3_bound (wsX1_longestLead) := ggX3_bound_X1_longestLead
theorem dX3_bound_0 : decode cX3_bound 0 = .ok (.aload_n 0, 1) := by decide +kernel
theorem dX3_bound_1 : decode cX3_bound 1 = .ok (.getfield 21, 3) := by decide +kernel
theorem dX3_bound_4 : decode cX3_bound 4 = .ok (.getfield 53, 3) := by decide +kernel
theorem dX3_bound_7 : decode cX3_bound 7 = .ok (.ifCond .ne 7, 3) := by decide +kernel
theorem dX3_bound_10 : decode cX3_bound 10 = .ok (.iconst 0, 1) := by decide +kernel
theorem dX3_bound_11 : decode cX3_bound 11 = .ok (.goto 12, 3) := by decide +kernel
theorem dX3_bound_14 : decode cX3_bound 14 = .ok (.aload_n 0, 1) := by decide +kernel
theorem dX3_bound_15 : decode cX3_bound 15 = .ok (.getfield 21, 3) := by decide +kernel
theorem dX3_bound_18 : decode cX3_bound 18 = .ok (.invokevirtual 144, 3) := by decide +kernel
theorem dX3_bound_21 : decode cX3_bound 21 = .ok (.iconst 1, 1) := by decide +kernel
theorem dX3_bound_22 : decode cX3_bound 22 = .ok (.iadd, 1) := by decide +kernel
theorem dX3_bound_23 : decode cX3_bound 23 = .ok (.ireturn, 1) := by decide +kernel
set_option maxRecDepth 100000 in
theorem ggX3_about_X1_has : GoodIn wsX3_about wsX1_has := goodIn_sub (mc (List.mem_of_getElem? (i := 7) rfl) (mem_two (mc (List.mem_of_getElem? (i := 8) rfl) mn) (fun w h => (List.mem_cons_of_mem _ (List.mem_append_left _ (List.mem_append_left _ (List.mem_append_right _ h))))))) (by decide +kernel)
set_option maxRecDepth 20000 in
theorem gX3_about_X1_has_n64 : GoodIn wsX3_about (wsX1_has) := ggX3_about_X1_has
set_option maxRecDepth 100000 in
theorem ggX3_about_X0_stripDayFor : GoodIn wsX3_about wsX0_stripDayFor := goodIn_sub (mc (List.mem_of_getElem? (i := 12) rfl) (mem_two (mc (List.mem_of_getElem? (i := 13) rfl) mn) (fun w h => (List.mem_cons_of_mem _ (List.mem_append_left _ (List.mem_append_right _ h)))))) (by decide +kernel)
set_option maxRecDepth 20000 in
theorem gX3_about_X0_stripDayFor_n165 : GoodIn wsX3_about (wsX0_stripDayFor) := ggX3_about_X0_stripDayFor
set_option maxRecDepth 100000 in
theorem ggX3_about_X2_placeOf : GoodIn wsX3_about wsX2_placeOf := goodIn_sub (mc (List.mem_of_getElem? (i := 17) rfl) (mem_two (mc (List.mem_of_getElem? (i := 18) rfl) (mc (List.mem_of_getElem? (i := 19) rfl) mn)) (fun w h => (List.mem_cons_of_mem _ (List.mem_append_right _ h))))) (by decide +kernel)
set_option maxRecDepth 20000 in
theorem gX3_about_X2_placeOf_n113 : GoodIn wsX3_about (wsX2_placeOf) := ggX3_about_X2_placeOf
theorem dX3_about_0 : decode cX3_about 0 = .ok (.aload_n 0, 1) := by decide +kernel
theorem dX3_about_1 : decode cX3_about 1 = .ok (.getfield 21, 3) := by decide +kernel
theorem dX3_about_4 : decode cX3_about 4 = .ok (.iload_n 1, 1) := by decide +kernel
theorem dX3_about_5 : decode cX3_about 5 = .ok (.invokevirtual 64, 3) := by decide +kernel
theorem dX3_about_8 : decode cX3_about 8 = .ok (.ifCond .ne 5, 3) := by decide +kernel
theorem dX3_about_11 : decode cX3_about 11 = .ok (.iconst (-1), 1) := by decide +kernel
theorem dX3_about_12 : decode cX3_about 12 = .ok (.ireturn, 1) := by decide +kernel
theorem dX3_about_13 : decode cX3_about 13 = .ok (.iload_n 2, 1) := by decide +kernel
theorem dX3_about_14 : decode cX3_about 14 = .ok (.tableswitch 149 0 7 #[46, 56, 66, 76, 86, 96, 106, 140], 46) := by decide +kernel
theorem dX3_about_60 : decode cX3_about 60 = .ok (.aload_n 0, 1) := by decide +kernel
theorem dX3_about_61 : decode cX3_about 61 = .ok (.getfield 21, 3) := by decide +kernel
theorem dX3_about_64 : decode cX3_about 64 = .ok (.getfield 147, 3) := by decide +kernel
theorem dX3_about_67 : decode cX3_about 67 = .ok (.iload_n 1, 1) := by decide +kernel
theorem dX3_about_68 : decode cX3_about 68 = .ok (.iaload, 1) := by decide +kernel
theorem dX3_about_69 : decode cX3_about 69 = .ok (.ireturn, 1) := by decide +kernel
theorem dX3_about_70 : decode cX3_about 70 = .ok (.aload_n 0, 1) := by decide +kernel
theorem dX3_about_71 : decode cX3_about 71 = .ok (.getfield 21, 3) := by decide +kernel
theorem dX3_about_74 : decode cX3_about 74 = .ok (.getfield 150, 3) := by decide +kernel
theorem dX3_about_77 : decode cX3_about 77 = .ok (.iload_n 1, 1) := by decide +kernel
theorem dX3_about_78 : decode cX3_about 78 = .ok (.iaload, 1) := by decide +kernel
theorem dX3_about_79 : decode cX3_about 79 = .ok (.ireturn, 1) := by decide +kernel
theorem dX3_about_80 : decode cX3_about 80 = .ok (.aload_n 0, 1) := by decide +kernel
theorem dX3_about_81 : decode cX3_about 81 = .ok (.getfield 21, 3) := by decide +kernel
theorem dX3_about_84 : decode cX3_about 84 = .ok (.getfield 153, 3) := by decide +kernel
theorem dX3_about_87 : decode cX3_about 87 = .ok (.iload_n 1, 1) := by decide +kernel
theorem dX3_about_88 : decode cX3_about 88 = .ok (.iaload, 1) := by decide +kernel
theorem dX3_about_89 : decode cX3_about 89 = .ok (.ireturn, 1) := by decide +kernel
theorem dX3_about_90 : decode cX3_about 90 = .ok (.aload_n 0, 1) := by decide +kernel
theorem dX3_about_91 : decode cX3_about 91 = .ok (.getfield 21, 3) := by decide +kernel
theorem dX3_about_94 : decode cX3_about 94 = .ok (.getfield 156, 3) := by decide +kernel
theorem dX3_about_97 : decode cX3_about 97 = .ok (.iload_n 1, 1) := by decide +kernel
theorem dX3_about_98 : decode cX3_about 98 = .ok (.iaload, 1) := by decide +kernel
theorem dX3_about_99 : decode cX3_about 99 = .ok (.ireturn, 1) := by decide +kernel
theorem dX3_about_100 : decode cX3_about 100 = .ok (.aload_n 0, 1) := by decide +kernel
theorem dX3_about_101 : decode cX3_about 101 = .ok (.getfield 21, 3) := by decide +kernel
theorem dX3_about_104 : decode cX3_about 104 = .ok (.getfield 159, 3) := by decide +kernel
theorem dX3_about_107 : decode cX3_about 107 = .ok (.iload_n 1, 1) := by decide +kernel
theorem dX3_about_108 : decode cX3_about 108 = .ok (.iaload, 1) := by decide +kernel
theorem dX3_about_109 : decode cX3_about 109 = .ok (.ireturn, 1) := by decide +kernel
theorem dX3_about_110 : decode cX3_about 110 = .ok (.aload_n 0, 1) := by decide +kernel
theorem dX3_about_111 : decode cX3_about 111 = .ok (.getfield 21, 3) := by decide +kernel
theorem dX3_about_114 : decode cX3_about 114 = .ok (.getfield 162, 3) := by decide +kernel
theorem dX3_about_117 : decode cX3_about 117 = .ok (.iload_n 1, 1) := by decide +kernel
theorem dX3_about_118 : decode cX3_about 118 = .ok (.iaload, 1) := by decide +kernel
theorem dX3_about_119 : decode cX3_about 119 = .ok (.ireturn, 1) := by decide +kernel
theorem dX3_about_120 : decode cX3_about 120 = .ok (.aload_n 0, 1) := by decide +kernel
theorem dX3_about_121 : decode cX3_about 121 = .ok (.getfield 21, 3) := by decide +kernel
theorem dX3_about_124 : decode cX3_about 124 = .ok (.getfield 162, 3) := by decide +kernel
theorem dX3_about_127 : decode cX3_about 127 = .ok (.iload_n 1, 1) := by decide +kernel
theorem dX3_about_128 : decode cX3_about 128 = .ok (.iaload, 1) := by decide +kernel
theorem dX3_about_129 : decode cX3_about 129 = .ok (.iconst (-1), 1) := by decide +kernel
theorem dX3_about_130 : decode cX3_about 130 = .ok (.if_icmp .ne 7, 3) := by decide +kernel
theorem dX3_about_133 : decode cX3_about 133 = .ok (.iconst (-1), 1) := by decide +kernel
theorem dX3_about_134 : decode cX3_about 134 = .ok (.goto 19, 3) := by decide +kernel
theorem dX3_about_137 : decode cX3_about 137 = .ok (.aload_n 0, 1) := by decide +kernel
theorem dX3_about_138 : decode cX3_about 138 = .ok (.getfield 14, 3) := by decide +kernel
theorem dX3_about_141 : decode cX3_about 141 = .ok (.aload_n 0, 1) := by decide +kernel
theorem dX3_about_142 : decode cX3_about 142 = .ok (.getfield 21, 3) := by decide +kernel
theorem dX3_about_145 : decode cX3_about 145 = .ok (.getfield 162, 3) := by decide +kernel
theorem dX3_about_148 : decode cX3_about 148 = .ok (.iload_n 1, 1) := by decide +kernel
theorem dX3_about_149 : decode cX3_about 149 = .ok (.iaload, 1) := by decide +kernel
theorem dX3_about_150 : decode cX3_about 150 = .ok (.invokevirtual 165, 3) := by decide +kernel
theorem dX3_about_153 : decode cX3_about 153 = .ok (.ireturn, 1) := by decide +kernel
theorem dX3_about_154 : decode cX3_about 154 = .ok (.aload_n 0, 1) := by decide +kernel
theorem dX3_about_155 : decode cX3_about 155 = .ok (.getfield 28, 3) := by decide +kernel
theorem dX3_about_158 : decode cX3_about 158 = .ok (.iload_n 1, 1) := by decide +kernel
theorem dX3_about_159 : decode cX3_about 159 = .ok (.invokevirtual 113, 3) := by decide +kernel
theorem dX3_about_162 : decode cX3_about 162 = .ok (.ireturn, 1) := by decide +kernel
theorem dX3_about_163 : decode cX3_about 163 = .ok (.iconst (-1), 1) := by decide +kernel
theorem dX3_about_164 : decode cX3_about 164 = .ok (.ireturn, 1) := by decide +kernel
set_option maxRecDepth 100000 in
theorem ggX3_hard_X1_has : GoodIn wsX3_hard wsX1_has := goodIn_sub (mc (List.mem_of_getElem? (i := 6) rfl) (mem_two (mc (List.mem_of_getElem? (i := 7) rfl) mn) (fun w h => (List.mem_cons_of_mem _ (List.mem_append_left _ (List.mem_append_right _ h)))))) (by decide +kernel)
set_option maxRecDepth 20000 in
theorem gX3_hard_X1_has_n64 : GoodIn wsX3_hard (wsX1_has) := ggX3_hard_X1_has
set_option maxRecDepth 100000 in
theorem ggX3_hard_X3_isDay : GoodIn wsX3_hard wsX3_isDay := goodIn_sub (mc (List.mem_of_getElem? (i := 11) rfl) (mc (List.mem_of_getElem? (i := 12) rfl) (mc (List.mem_of_getElem? (i := 13) rfl) (mc (List.mem_of_getElem? (i := 10) rfl) (mc (List.mem_of_getElem? (i := 14) rfl) mn))))) (by decide +kernel)
set_option maxRecDepth 20000 in
theorem gX3_hard_X3_isDay : GoodIn wsX3_hard (va_wsS RX3 82 yX3_isDay wsX3_isDay) := goodIn_app (goodIn_of _ (by decide +kernel)) ggX3_hard_X3_isDay
set_option maxRecDepth 100000 in
theorem ggX3_hard_X0_hardnessOn : GoodIn wsX3_hard wsX0_hardnessOn := goodIn_sub (mc (List.mem_of_getElem? (i := 18) rfl) (mem_two (mc (List.mem_of_getElem? (i := 19) rfl) (mc (List.mem_of_getElem? (i := 20) rfl) (mc (List.mem_of_getElem? (i := 21) rfl) (mc (List.mem_of_getElem? (i := 22) rfl) (mc (List.mem_of_getElem? (i := 16) rfl) (mc (List.mem_of_getElem? (i := 23) rfl) (mc (List.mem_of_getElem? (i := 24) rfl) (mc (List.mem_of_getElem? (i := 25) rfl) (mc (List.mem_of_getElem? (i := 26) rfl) mn))))))))) (fun w h => (List.mem_cons_of_mem _ (List.mem_append_right _ h))))) (by decide +kernel)
set_option maxRecDepth 20000 in
theorem gX3_hard_X0_hardnessOn_n168 : GoodIn wsX3_hard (wsX0_hardnessOn) := ggX3_hard_X0_hardnessOn
theorem dX3_hard_0 : decode cX3_hard 0 = .ok (.aload_n 0, 1) := by decide +kernel
theorem dX3_hard_1 : decode cX3_hard 1 = .ok (.getfield 21, 3) := by decide +kernel
theorem dX3_hard_4 : decode cX3_hard 4 = .ok (.iload_n 1, 1) := by decide +kernel
theorem dX3_hard_5 : decode cX3_hard 5 = .ok (.invokevirtual 64, 3) := by decide +kernel
theorem dX3_hard_8 : decode cX3_hard 8 = .ok (.ifCond .eq 30, 3) := by decide +kernel
theorem dX3_hard_11 : decode cX3_hard 11 = .ok (.iload_n 2, 1) := by decide +kernel
theorem dX3_hard_12 : decode cX3_hard 12 = .ok (.invokestatic 82, 3) := by decide +kernel
theorem dX3_hard_15 : decode cX3_hard 15 = .ok (.ifCond .eq 23, 3) := by decide +kernel
theorem dX3_hard_18 : decode cX3_hard 18 = .ok (.aload_n 0, 1) := by decide +kernel
theorem dX3_hard_19 : decode cX3_hard 19 = .ok (.getfield 14, 3) := by decide +kernel
theorem dX3_hard_22 : decode cX3_hard 22 = .ok (.aload_n 0, 1) := by decide +kernel
theorem dX3_hard_23 : decode cX3_hard 23 = .ok (.getfield 21, 3) := by decide +kernel
theorem dX3_hard_26 : decode cX3_hard 26 = .ok (.getfield 162, 3) := by decide +kernel
theorem dX3_hard_29 : decode cX3_hard 29 = .ok (.iload_n 1, 1) := by decide +kernel
theorem dX3_hard_30 : decode cX3_hard 30 = .ok (.iaload, 1) := by decide +kernel
theorem dX3_hard_31 : decode cX3_hard 31 = .ok (.iload_n 2, 1) := by decide +kernel
theorem dX3_hard_32 : decode cX3_hard 32 = .ok (.invokevirtual 168, 3) := by decide +kernel
theorem dX3_hard_35 : decode cX3_hard 35 = .ok (.goto 4, 3) := by decide +kernel
theorem dX3_hard_38 : decode cX3_hard 38 = .ok (.iconst (-1), 1) := by decide +kernel
theorem dX3_hard_39 : decode cX3_hard 39 = .ok (.ireturn, 1) := by decide +kernel
set_option maxRecDepth 100000 in
theorem ggX3_why_X1_has : GoodIn wsX3_why wsX1_has := goodIn_sub (mc (List.mem_of_getElem? (i := 5) rfl) (mem_two (mc (List.mem_of_getElem? (i := 6) rfl) mn) (fun w h => (List.mem_cons_of_mem _ (List.mem_append_left _ (List.mem_append_left _ (List.mem_append_right _ h))))))) (by decide +kernel)
set_option maxRecDepth 20000 in
theorem gX3_why_X1_has_n64 : GoodIn wsX3_why (wsX1_has) := ggX3_why_X1_has
set_option maxRecDepth 100000 in
theorem ggX3_why_X3_isDay : GoodIn wsX3_why wsX3_isDay := goodIn_sub (mc (List.mem_of_getElem? (i := 10) rfl) (mc (List.mem_of_getElem? (i := 11) rfl) (mc (List.mem_of_getElem? (i := 12) rfl) (mc (List.mem_of_getElem? (i := 9) rfl) (mc (List.mem_of_getElem? (i := 13) rfl) mn))))) (by decide +kernel)
set_option maxRecDepth 20000 in
theorem gX3_why_X3_isDay : GoodIn wsX3_why (va_wsS RX3 82 yX3_isDay wsX3_isDay) := goodIn_app (goodIn_of _ (by decide +kernel)) ggX3_why_X3_isDay
set_option maxRecDepth 100000 in
theorem ggX3_why_X3_hindrance : GoodIn wsX3_why wsX3_hindrance := goodIn_sub (mc (List.mem_of_getElem? (i := 17) rfl) (mem_two (mem_two (mem_two (mem_two (mem_two (mc (List.mem_of_getElem? (i := 1) rfl) (mc (List.mem_of_getElem? (i := 18) rfl) (mc (List.mem_of_getElem? (i := 19) rfl) (mc (List.mem_of_getElem? (i := 20) rfl) (mc (List.mem_of_getElem? (i := 21) rfl) (mc (List.mem_of_getElem? (i := 9) rfl) (mc (List.mem_of_getElem? (i := 22) rfl) (mc (List.mem_of_getElem? (i := 23) rfl) (mc (List.mem_of_getElem? (i := 24) rfl) (mc (List.mem_of_getElem? (i := 25) rfl) (mc (List.mem_of_getElem? (i := 26) rfl) (mc (List.mem_of_getElem? (i := 27) rfl) (mc (List.mem_of_getElem? (i := 28) rfl) (mc (List.mem_of_getElem? (i := 3) rfl) (mc (List.mem_of_getElem? (i := 29) rfl) (mc (List.mem_of_getElem? (i := 30) rfl) (mc (List.mem_of_getElem? (i := 31) rfl) (mc (List.mem_of_getElem? (i := 32) rfl) (mc (List.mem_of_getElem? (i := 33) rfl) (mc (List.mem_of_getElem? (i := 34) rfl) (mc (List.mem_of_getElem? (i := 35) rfl) (mc (List.mem_of_getElem? (i := 36) rfl) (mc (List.mem_of_getElem? (i := 37) rfl) (mc (List.mem_of_getElem? (i := 38) rfl) mn)))))))))))))))))))))))) (mem_two (mc (List.mem_of_getElem? (i := 39) rfl) (mc (List.mem_of_getElem? (i := 40) rfl) (mc (List.mem_of_getElem? (i := 41) rfl) (mc (List.mem_of_getElem? (i := 42) rfl) (mc (List.mem_of_getElem? (i := 43) rfl) (mc (List.mem_of_getElem? (i := 44) rfl) (mc (List.mem_of_getElem? (i := 45) rfl) (mc (List.mem_of_getElem? (i := 46) rfl) (mc (List.mem_of_getElem? (i := 47) rfl) (mc (List.mem_of_getElem? (i := 48) rfl) (mc (List.mem_of_getElem? (i := 49) rfl) (mc (List.mem_of_getElem? (i := 50) rfl) (mc (List.mem_of_getElem? (i := 51) rfl) (mc (List.mem_of_getElem? (i := 52) rfl) (mc (List.mem_of_getElem? (i := 53) rfl) (mc (List.mem_of_getElem? (i := 54) rfl) (mc (List.mem_of_getElem? (i := 55) rfl) (mc (List.mem_of_getElem? (i := 56) rfl) (mc (List.mem_of_getElem? (i := 57) rfl) (mc (List.mem_of_getElem? (i := 58) rfl) (mc (List.mem_of_getElem? (i := 59) rfl) (mc (List.mem_of_getElem? (i := 60) rfl) (mc (List.mem_of_getElem? (i := 61) rfl) (mc (List.mem_of_getElem? (i := 62) rfl) mn)))))))))))))))))))))))) (mc (List.mem_of_getElem? (i := 63) rfl) (mc (List.mem_of_getElem? (i := 64) rfl) (mc (List.mem_of_getElem? (i := 65) rfl) (mc (List.mem_of_getElem? (i := 66) rfl) (mc (List.mem_of_getElem? (i := 67) rfl) (mc (List.mem_of_getElem? (i := 68) rfl) (mc (List.mem_of_getElem? (i := 69) rfl) (mc (List.mem_of_getElem? (i := 70) rfl) (mc (List.mem_of_getElem? (i := 71) rfl) (mc (List.mem_of_getElem? (i := 72) rfl) (mc (List.mem_of_getElem? (i := 73) rfl) (mc (List.mem_of_getElem? (i := 74) rfl) (mc (List.mem_of_getElem? (i := 75) rfl) (mc (List.mem_of_getElem? (i := 76) rfl) mn)))))))))))))))) (fun w h => (List.mem_cons_of_mem _ (List.mem_append_left _ (List.mem_append_left _ (List.mem_append_left _ (List.mem_append_right _ h))))))) (fun w h => (List.mem_cons_of_mem _ (List.mem_append_left _ (List.mem_append_left _ (List.mem_append_right _ h)))))) (fun w h => (List.mem_cons_of_mem _ (List.mem_append_left _ (List.mem_append_right _ h))))) (fun w h => (List.mem_cons_of_mem _ (List.mem_append_right _ h))))) (by decide +kernel)
set_option maxRecDepth 100000 in
theorem gX3_why_X3_hindrance : GoodIn wsX3_why (wsV RX3 172 RX3 yX3_hindrance wsX3_hindrance) := goodIn_app (goodIn_sub (mc (List.mem_of_getElem? (i := 14) rfl) (mc (List.mem_of_getElem? (i := 15) rfl) (mc (List.mem_of_getElem? (i := 16) rfl) (mc (List.mem_of_getElem? (i := 9) rfl) mn)))) (by decide +kernel)) ggX3_why_X3_hindrance
theorem dX3_why_0 : decode cX3_why 0 = .ok (.aload_n 0, 1) := by decide +kernel
theorem dX3_why_1 : decode cX3_why 1 = .ok (.getfield 21, 3) := by decide +kernel
theorem dX3_why_4 : decode cX3_why 4 = .ok (.iload_n 1, 1) := by decide +kernel
theorem dX3_why_5 : decode cX3_why 5 = .ok (.invokevirtual 64, 3) := by decide +kernel
theorem dX3_why_8 : decode cX3_why 8 = .ok (.ifCond .eq 19, 3) := by decide +kernel
theorem dX3_why_11 : decode cX3_why 11 = .ok (.iload_n 2, 1) := by decide +kernel
theorem dX3_why_12 : decode cX3_why 12 = .ok (.invokestatic 82, 3) := by decide +kernel
theorem dX3_why_15 : decode cX3_why 15 = .ok (.ifCond .eq 12, 3) := by decide +kernel
theorem dX3_why_18 : decode cX3_why 18 = .ok (.aload_n 0, 1) := by decide +kernel
theorem dX3_why_19 : decode cX3_why 19 = .ok (.iload_n 1, 1) := by decide +kernel
theorem dX3_why_20 : decode cX3_why 20 = .ok (.iload_n 2, 1) := by decide +kernel
theorem dX3_why_21 : decode cX3_why 21 = .ok (.invokevirtual 172, 3) := by decide +kernel
theorem dX3_why_24 : decode cX3_why 24 = .ok (.goto 4, 3) := by decide +kernel
theorem dX3_why_27 : decode cX3_why 27 = .ok (.iconst (-1), 1) := by decide +kernel
theorem dX3_why_28 : decode cX3_why 28 = .ok (.ireturn, 1) := by decide +kernel
set_option maxRecDepth 100000 in
theorem ggX3_free_X3_isIn : GoodIn wsX3_free wsX3_isIn := goodIn_sub (mc (List.mem_of_getElem? (i := 4) rfl) mn) (by decide +kernel)
set_option maxRecDepth 20000 in
theorem gX3_free_X3_isIn : GoodIn wsX3_free (va_wsS RX3 49 yX3_isIn wsX3_isIn) := goodIn_app (goodIn_of _ (by decide +kernel)) ggX3_free_X3_isIn
set_option maxRecDepth 100000 in
theorem ggX3_free_X3_isDay : GoodIn wsX3_free wsX3_isDay := goodIn_sub (mc (List.mem_of_getElem? (i := 7) rfl) (mc (List.mem_of_getElem? (i := 1) rfl) (mc (List.mem_of_getElem? (i := 2) rfl) (mc (List.mem_of_getElem? (i := 3) rfl) (mc (List.mem_of_getElem? (i := 4) rfl) mn))))) (by decide +kernel)
set_option maxRecDepth 20000 in
theorem gX3_free_X3_isDay : GoodIn wsX3_free (va_wsS RX3 82 yX3_isDay wsX3_isDay) := goodIn_app (goodIn_of _ (by decide +kernel)) ggX3_free_X3_isDay
set_option maxRecDepth 100000 in
theorem ggX3_free_X3_formsLeft : GoodIn wsX3_free wsX3_formsLeft := goodIn_sub (mc (List.mem_of_getElem? (i := 11) rfl) (mem_two (mem_two (mem_two (mc (List.mem_of_getElem? (i := 12) rfl) (mc (List.mem_of_getElem? (i := 13) rfl) (mc (List.mem_of_getElem? (i := 14) rfl) (mc (List.mem_of_getElem? (i := 15) rfl) (mc (List.mem_of_getElem? (i := 16) rfl) (mc (List.mem_of_getElem? (i := 3) rfl) (mc (List.mem_of_getElem? (i := 17) rfl) (mc (List.mem_of_getElem? (i := 18) rfl) (mc (List.mem_of_getElem? (i := 19) rfl) (mc (List.mem_of_getElem? (i := 20) rfl) (mc (List.mem_of_getElem? (i := 21) rfl) (mc (List.mem_of_getElem? (i := 22) rfl) (mc (List.mem_of_getElem? (i := 23) rfl) (mc (List.mem_of_getElem? (i := 24) rfl) (mc (List.mem_of_getElem? (i := 25) rfl) (mc (List.mem_of_getElem? (i := 26) rfl) (mc (List.mem_of_getElem? (i := 27) rfl) (mc (List.mem_of_getElem? (i := 28) rfl) mn)))))))))))))))))) (fun w h => (List.mem_cons_of_mem _ (List.mem_append_left _ (List.mem_append_left _ (List.mem_append_right _ h)))))) (fun w h => (List.mem_cons_of_mem _ (List.mem_append_left _ (List.mem_append_right _ h))))) (fun w h => (List.mem_cons_of_mem _ (List.mem_append_right _ h))))) (by decide +kernel)
set_option maxRecDepth 100000 in
theorem gX3_free_X3_formsLeft : GoodIn wsX3_free (wsV RX3 175 RX3 yX3_formsLeft wsX3_formsLeft) := goodIn_app (goodIn_sub (mc (List.mem_of_getElem? (i := 8) rfl) (mc (List.mem_of_getElem? (i := 9) rfl) (mc (List.mem_of_getElem? (i := 10) rfl) (mc (List.mem_of_getElem? (i := 3) rfl) mn)))) (by decide +kernel)) ggX3_free_X3_formsLeft
theorem dX3_free_0 : decode cX3_free 0 = .ok (.iload_n 1, 1) := by decide +kernel
theorem dX3_free_1 : decode cX3_free 1 = .ok (.iconst 0, 1) := by decide +kernel
theorem dX3_free_2 : decode cX3_free 2 = .ok (.iconst 2, 1) := by decide +kernel
theorem dX3_free_3 : decode cX3_free 3 = .ok (.invokestatic 49, 3) := by decide +kernel
theorem dX3_free_6 : decode cX3_free 6 = .ok (.ifCond .eq 20, 3) := by decide +kernel
theorem dX3_free_9 : decode cX3_free 9 = .ok (.iload_n 2, 1) := by decide +kernel
theorem dX3_free_10 : decode cX3_free 10 = .ok (.invokestatic 82, 3) := by decide +kernel
theorem dX3_free_13 : decode cX3_free 13 = .ok (.ifCond .eq 13, 3) := by decide +kernel
theorem dX3_free_16 : decode cX3_free 16 = .ok (.aload_n 0, 1) := by decide +kernel
theorem dX3_free_17 : decode cX3_free 17 = .ok (.iload_n 1, 1) := by decide +kernel
theorem dX3_free_18 : decode cX3_free 18 = .ok (.iload_n 2, 1) := by decide +kernel
theorem dX3_free_19 : decode cX3_free 19 = .ok (.iconst (-1), 1) := by decide +kernel
theorem dX3_free_20 : decode cX3_free 20 = .ok (.invokevirtual 175, 3) := by decide +kernel
theorem dX3_free_23 : decode cX3_free 23 = .ok (.goto 4, 3) := by decide +kernel
theorem dX3_free_26 : decode cX3_free 26 = .ok (.iconst (-1), 1) := by decide +kernel
theorem dX3_free_27 : decode cX3_free 27 = .ok (.ireturn, 1) := by decide +kernel
set_option maxRecDepth 100000 in
theorem ggX3_poured_X3_isDay : GoodIn wsX3_poured wsX3_isDay := goodIn_sub (mc (List.mem_of_getElem? (i := 4) rfl) (mc (List.mem_of_getElem? (i := 5) rfl) (mc (List.mem_of_getElem? (i := 6) rfl) (mc (List.mem_of_getElem? (i := 3) rfl) (mc (List.mem_of_getElem? (i := 7) rfl) mn))))) (by decide +kernel)
set_option maxRecDepth 20000 in
theorem gX3_poured_X3_isDay : GoodIn wsX3_poured (va_wsS RX3 82 yX3_isDay wsX3_isDay) := goodIn_app (goodIn_of _ (by decide +kernel)) ggX3_poured_X3_isDay
set_option maxRecDepth 100000 in
theorem ggX3_poured_X3_volumeOn : GoodIn wsX3_poured wsX3_volumeOn := goodIn_sub (mc (List.mem_of_getElem? (i := 11) rfl) (mem_two (mem_two (mc (List.mem_of_getElem? (i := 12) rfl) mn) (fun w h => (List.mem_cons_of_mem _ (List.mem_append_left _ (List.mem_append_right _ h))))) (fun w h => (List.mem_cons_of_mem _ (List.mem_append_right _ h))))) (by decide +kernel)
set_option maxRecDepth 100000 in
theorem gX3_poured_X3_volumeOn : GoodIn wsX3_poured (wsV RX3 179 RX3 yX3_volumeOn wsX3_volumeOn) := goodIn_app (goodIn_sub (mc (List.mem_of_getElem? (i := 8) rfl) (mc (List.mem_of_getElem? (i := 9) rfl) (mc (List.mem_of_getElem? (i := 10) rfl) (mc (List.mem_of_getElem? (i := 3) rfl) mn)))) (by decide +kernel)) ggX3_poured_X3_volumeOn
theorem dX3_poured_0 : decode cX3_poured 0 = .ok (.iload_n 1, 1) := by decide +kernel
theorem dX3_poured_1 : decode cX3_poured 1 = .ok (.invokestatic 82, 3) := by decide +kernel
theorem dX3_poured_4 : decode cX3_poured 4 = .ok (.ifCond .eq 12, 3) := by decide +kernel
theorem dX3_poured_7 : decode cX3_poured 7 = .ok (.aload_n 0, 1) := by decide +kernel
theorem dX3_poured_8 : decode cX3_poured 8 = .ok (.iload_n 1, 1) := by decide +kernel
theorem dX3_poured_9 : decode cX3_poured 9 = .ok (.iconst (-1), 1) := by decide +kernel
theorem dX3_poured_10 : decode cX3_poured 10 = .ok (.invokevirtual 179, 3) := by decide +kernel
theorem dX3_poured_13 : decode cX3_poured 13 = .ok (.goto 4, 3) := by decide +kernel
theorem dX3_poured_16 : decode cX3_poured 16 = .ok (.iconst (-1), 1) := by decide +kernel
theorem dX3_poured_17 : decode cX3_poured 17 = .ok (.ireturn, 1) := by decide +kernel
set_option maxRecDepth 100000 in
theorem ggX3_borne_X1_has : GoodIn wsX3_borne wsX1_has := goodIn_sub (mc (List.mem_of_getElem? (i := 7) rfl) (mem_two (mc (List.mem_of_getElem? (i := 8) rfl) mn) (fun w h => (List.mem_cons_of_mem _ (List.mem_append_left _ (List.mem_append_right _ h)))))) (by decide +kernel)
set_option maxRecDepth 20000 in
theorem gX3_borne_X1_has_n64 : GoodIn wsX3_borne (wsX1_has) := ggX3_borne_X1_has
set_option maxRecDepth 100000 in
theorem ggX3_borne_X3_isDay : GoodIn wsX3_borne wsX3_isDay := goodIn_sub (mc (List.mem_of_getElem? (i := 12) rfl) (mc (List.mem_of_getElem? (i := 13) rfl) (mc (List.mem_of_getElem? (i := 14) rfl) (mc (List.mem_of_getElem? (i := 11) rfl) (mc (List.mem_of_getElem? (i := 15) rfl) mn))))) (by decide +kernel)
set_option maxRecDepth 20000 in
theorem gX3_borne_X3_isDay : GoodIn wsX3_borne (va_wsS RX3 82 yX3_isDay wsX3_isDay) := goodIn_app (goodIn_of _ (by decide +kernel)) ggX3_borne_X3_isDay
set_option maxRecDepth 100000 in
theorem ggX3_borne_X3_isIn : GoodIn wsX3_borne wsX3_isIn := goodIn_sub (mc (List.mem_of_getElem? (i := 15) rfl) mn) (by decide +kernel)
set_option maxRecDepth 20000 in
theorem gX3_borne_X3_isIn : GoodIn wsX3_borne (va_wsS RX3 49 yX3_isIn wsX3_isIn) := goodIn_app (goodIn_of _ (by decide +kernel)) ggX3_borne_X3_isIn
set_option maxRecDepth 100000 in
theorem ggX3_borne_X1_standsOn : GoodIn wsX3_borne wsX1_standsOn := goodIn_sub (mc (List.mem_of_getElem? (i := 18) rfl) (mem_two (mc (List.mem_of_getElem? (i := 19) rfl) mn) (fun w h => (List.mem_cons_of_mem _ (List.mem_append_left _ (List.mem_append_right _ h)))))) (by decide +kernel)
set_option maxRecDepth 20000 in
theorem gX3_borne_X1_standsOn_n184 : GoodIn wsX3_borne (wsX1_standsOn) := ggX3_borne_X1_standsOn
set_option maxRecDepth 100000 in
theorem ggX3_borne_X0_hardnessOn : GoodIn wsX3_borne wsX0_hardnessOn := goodIn_sub (mc (List.mem_of_getElem? (i := 23) rfl) (mem_two (mc (List.mem_of_getElem? (i := 24) rfl) (mc (List.mem_of_getElem? (i := 25) rfl) (mc (List.mem_of_getElem? (i := 26) rfl) (mc (List.mem_of_getElem? (i := 27) rfl) (mc (List.mem_of_getElem? (i := 21) rfl) (mc (List.mem_of_getElem? (i := 28) rfl) (mc (List.mem_of_getElem? (i := 29) rfl) (mc (List.mem_of_getElem? (i := 30) rfl) (mc (List.mem_of_getElem? (i := 31) rfl) mn))))))))) (fun w h => (List.mem_cons_of_mem _ (List.mem_append_right _ h))))) (by decide +kernel)
set_option maxRecDepth 20000 in
theorem gX3_borne_X0_hardnessOn_n168 : GoodIn wsX3_borne (wsX0_hardnessOn) := ggX3_borne_X0_hardnessOn
set_option maxRecDepth 100000 in
theorem ggX3_borne_X3_hardnessBelow : GoodIn wsX3_borne wsX3_hardnessBelow := goodIn_sub (mc (List.mem_of_getElem? (i := 35) rfl) (mem_two (mem_two (mem_two (mc (List.mem_of_getElem? (i := 1) rfl) (mc (List.mem_of_getElem? (i := 3) rfl) (mc (List.mem_of_getElem? (i := 13) rfl) (mc (List.mem_of_getElem? (i := 14) rfl) (mc (List.mem_of_getElem? (i := 11) rfl) (mc (List.mem_of_getElem? (i := 15) rfl) (mc (List.mem_of_getElem? (i := 16) rfl) (mc (List.mem_of_getElem? (i := 5) rfl) (mc (List.mem_of_getElem? (i := 17) rfl) (mc (List.mem_of_getElem? (i := 18) rfl) (mc (List.mem_of_getElem? (i := 19) rfl) (mc (List.mem_of_getElem? (i := 20) rfl) (mc (List.mem_of_getElem? (i := 21) rfl) (mc (List.mem_of_getElem? (i := 22) rfl) (mc (List.mem_of_getElem? (i := 23) rfl) (mc (List.mem_of_getElem? (i := 24) rfl) (mc (List.mem_of_getElem? (i := 25) rfl) (mc (List.mem_of_getElem? (i := 26) rfl) (mc (List.mem_of_getElem? (i := 27) rfl) (mc (List.mem_of_getElem? (i := 28) rfl) (mc (List.mem_of_getElem? (i := 29) rfl) (mc (List.mem_of_getElem? (i := 30) rfl) (mc (List.mem_of_getElem? (i := 31) rfl) mn))))))))))))))))))))))) (fun w h => (List.mem_cons_of_mem _ (List.mem_append_left _ (List.mem_append_left _ (List.mem_append_right _ h)))))) (fun w h => (List.mem_cons_of_mem _ (List.mem_append_left _ (List.mem_append_right _ h))))) (fun w h => (List.mem_cons_of_mem _ (List.mem_append_right _ h))))) (by decide +kernel)
set_option maxRecDepth 100000 in
theorem gX3_borne_X3_hardnessBelow : GoodIn wsX3_borne (wsV RX3 187 RX3 yX3_hardnessBelow wsX3_hardnessBelow) := goodIn_app (goodIn_sub (mc (List.mem_of_getElem? (i := 32) rfl) (mc (List.mem_of_getElem? (i := 33) rfl) (mc (List.mem_of_getElem? (i := 34) rfl) (mc (List.mem_of_getElem? (i := 11) rfl) mn)))) (by decide +kernel)) ggX3_borne_X3_hardnessBelow
set_option maxRecDepth 100000 in
theorem ggX3_borne_X3_loadOf : GoodIn wsX3_borne wsX3_loadOf := goodIn_sub (mc (List.mem_of_getElem? (i := 39) rfl) (mem_two (mem_two (mem_two (mc (List.mem_of_getElem? (i := 1) rfl) (mc (List.mem_of_getElem? (i := 40) rfl) (mc (List.mem_of_getElem? (i := 41) rfl) (mc (List.mem_of_getElem? (i := 42) rfl) (mc (List.mem_of_getElem? (i := 11) rfl) (mc (List.mem_of_getElem? (i := 43) rfl) (mc (List.mem_of_getElem? (i := 3) rfl) (mc (List.mem_of_getElem? (i := 16) rfl) (mc (List.mem_of_getElem? (i := 5) rfl) (mc (List.mem_of_getElem? (i := 17) rfl) (mc (List.mem_of_getElem? (i := 18) rfl) (mc (List.mem_of_getElem? (i := 19) rfl) (mc (List.mem_of_getElem? (i := 44) rfl) (mc (List.mem_of_getElem? (i := 21) rfl) (mc (List.mem_of_getElem? (i := 45) rfl) (mc (List.mem_of_getElem? (i := 46) rfl) (mc (List.mem_of_getElem? (i := 47) rfl) mn))))))))))))))))) (fun w h => (List.mem_cons_of_mem _ (List.mem_append_left _ (List.mem_append_left _ (List.mem_append_right _ h)))))) (fun w h => (List.mem_cons_of_mem _ (List.mem_append_left _ (List.mem_append_right _ h))))) (fun w h => (List.mem_cons_of_mem _ (List.mem_append_right _ h))))) (by decide +kernel)
set_option maxRecDepth 100000 in
theorem gX3_borne_X3_loadOf : GoodIn wsX3_borne (wsV RX3 191 RX3 yX3_loadOf wsX3_loadOf) := goodIn_app (goodIn_sub (mc (List.mem_of_getElem? (i := 36) rfl) (mc (List.mem_of_getElem? (i := 37) rfl) (mc (List.mem_of_getElem? (i := 38) rfl) (mc (List.mem_of_getElem? (i := 11) rfl) mn)))) (by decide +kernel)) ggX3_borne_X3_loadOf
set_option maxRecDepth 100000 in
theorem ggX3_borne_X3_commonDivisor : GoodIn wsX3_borne wsX3_commonDivisor := goodIn_sub (mc (List.mem_of_getElem? (i := 50) rfl) mn) (by decide +kernel)
set_option maxRecDepth 20000 in
theorem gX3_borne_X3_commonDivisor : GoodIn wsX3_borne (va_wsS RX3 194 yX3_commonDivisor wsX3_commonDivisor) := goodIn_app (goodIn_of _ (by decide +kernel)) ggX3_borne_X3_commonDivisor
theorem dX3_borne_0 : decode cX3_borne 0 = .ok (.aload_n 0, 1) := by decide +kernel
theorem dX3_borne_1 : decode cX3_borne 1 = .ok (.getfield 21, 3) := by decide +kernel
theorem dX3_borne_4 : decode cX3_borne 4 = .ok (.iload_n 1, 1) := by decide +kernel
theorem dX3_borne_5 : decode cX3_borne 5 = .ok (.invokevirtual 64, 3) := by decide +kernel
theorem dX3_borne_8 : decode cX3_borne 8 = .ok (.ifCond .eq 19, 3) := by decide +kernel
theorem dX3_borne_11 : decode cX3_borne 11 = .ok (.iload_n 2, 1) := by decide +kernel
theorem dX3_borne_12 : decode cX3_borne 12 = .ok (.invokestatic 82, 3) := by decide +kernel
theorem dX3_borne_15 : decode cX3_borne 15 = .ok (.ifCond .eq 12, 3) := by decide +kernel
theorem dX3_borne_18 : decode cX3_borne 18 = .ok (.iload_n 3, 1) := by decide +kernel
theorem dX3_borne_19 : decode cX3_borne 19 = .ok (.iconst 0, 1) := by decide +kernel
theorem dX3_borne_20 : decode cX3_borne 20 = .ok (.iconst 1, 1) := by decide +kernel
theorem dX3_borne_21 : decode cX3_borne 21 = .ok (.invokestatic 49, 3) := by decide +kernel
theorem dX3_borne_24 : decode cX3_borne 24 = .ok (.ifCond .ne 7, 3) := by decide +kernel
theorem dX3_borne_27 : decode cX3_borne 27 = .ok (.ldc2_w 182, 3) := by decide +kernel
theorem dX3_borne_30 : decode cX3_borne 30 = .ok (.lreturn, 1) := by decide +kernel
theorem dX3_borne_31 : decode cX3_borne 31 = .ok (.aload_n 0, 1) := by decide +kernel
theorem dX3_borne_32 : decode cX3_borne 32 = .ok (.getfield 21, 3) := by decide +kernel
theorem dX3_borne_35 : decode cX3_borne 35 = .ok (.getfield 147, 3) := by decide +kernel
theorem dX3_borne_38 : decode cX3_borne 38 = .ok (.iload_n 1, 1) := by decide +kernel
theorem dX3_borne_39 : decode cX3_borne 39 = .ok (.iaload, 1) := by decide +kernel
theorem dX3_borne_40 : decode cX3_borne 40 = .ok (.ifCond .ne 15, 3) := by decide +kernel
theorem dX3_borne_43 : decode cX3_borne 43 = .ok (.aload_n 0, 1) := by decide +kernel
theorem dX3_borne_44 : decode cX3_borne 44 = .ok (.getfield 21, 3) := by decide +kernel
theorem dX3_borne_47 : decode cX3_borne 47 = .ok (.iload_n 1, 1) := by decide +kernel
theorem dX3_borne_48 : decode cX3_borne 48 = .ok (.iload_n 2, 1) := by decide +kernel
theorem dX3_borne_49 : decode cX3_borne 49 = .ok (.invokevirtual 184, 3) := by decide +kernel
theorem dX3_borne_52 : decode cX3_borne 52 = .ok (.ifCond .ne 7, 3) := by decide +kernel
theorem dX3_borne_55 : decode cX3_borne 55 = .ok (.ldc2_w 182, 3) := by decide +kernel
theorem dX3_borne_58 : decode cX3_borne 58 = .ok (.lreturn, 1) := by decide +kernel
theorem dX3_borne_59 : decode cX3_borne 59 = .ok (.aload_n 0, 1) := by decide +kernel
theorem dX3_borne_60 : decode cX3_borne 60 = .ok (.getfield 21, 3) := by decide +kernel
theorem dX3_borne_63 : decode cX3_borne 63 = .ok (.getfield 153, 3) := by decide +kernel
theorem dX3_borne_66 : decode cX3_borne 66 = .ok (.iload_n 1, 1) := by decide +kernel
theorem dX3_borne_67 : decode cX3_borne 67 = .ok (.iaload, 1) := by decide +kernel
theorem dX3_borne_68 : decode cX3_borne 68 = .ok (.i2l, 1) := by decide +kernel
theorem dX3_borne_69 : decode cX3_borne 69 = .ok (.lstore 4, 2) := by decide +kernel
theorem dX3_borne_71 : decode cX3_borne 71 = .ok (.lconst 1, 1) := by decide +kernel
theorem dX3_borne_72 : decode cX3_borne 72 = .ok (.lstore 6, 2) := by decide +kernel
theorem dX3_borne_74 : decode cX3_borne 74 = .ok (.aload_n 0, 1) := by decide +kernel
theorem dX3_borne_75 : decode cX3_borne 75 = .ok (.getfield 14, 3) := by decide +kernel
theorem dX3_borne_78 : decode cX3_borne 78 = .ok (.aload_n 0, 1) := by decide +kernel
theorem dX3_borne_79 : decode cX3_borne 79 = .ok (.getfield 21, 3) := by decide +kernel
theorem dX3_borne_82 : decode cX3_borne 82 = .ok (.getfield 162, 3) := by decide +kernel
theorem dX3_borne_85 : decode cX3_borne 85 = .ok (.iload_n 1, 1) := by decide +kernel
theorem dX3_borne_86 : decode cX3_borne 86 = .ok (.iaload, 1) := by decide +kernel
theorem dX3_borne_87 : decode cX3_borne 87 = .ok (.iload_n 2, 1) := by decide +kernel
theorem dX3_borne_88 : decode cX3_borne 88 = .ok (.invokevirtual 168, 3) := by decide +kernel
theorem dX3_borne_91 : decode cX3_borne 91 = .ok (.istore 8, 2) := by decide +kernel
theorem dX3_borne_93 : decode cX3_borne 93 = .ok (.iconst 1, 1) := by decide +kernel
theorem dX3_borne_94 : decode cX3_borne 94 = .ok (.istore 9, 2) := by decide +kernel
theorem dX3_borne_96 : decode cX3_borne 96 = .ok (.iload 9, 2) := by decide +kernel
theorem dX3_borne_98 : decode cX3_borne 98 = .ok (.iconst 2, 1) := by decide +kernel
theorem dX3_borne_99 : decode cX3_borne 99 = .ok (.if_icmp .gt 68, 3) := by decide +kernel
theorem dX3_borne_102 : decode cX3_borne 102 = .ok (.aload_n 0, 1) := by decide +kernel
theorem dX3_borne_103 : decode cX3_borne 103 = .ok (.getfield 21, 3) := by decide +kernel
theorem dX3_borne_106 : decode cX3_borne 106 = .ok (.getfield 150, 3) := by decide +kernel
theorem dX3_borne_109 : decode cX3_borne 109 = .ok (.iload_n 1, 1) := by decide +kernel
theorem dX3_borne_110 : decode cX3_borne 110 = .ok (.iaload, 1) := by decide +kernel
theorem dX3_borne_111 : decode cX3_borne 111 = .ok (.iload 9, 2) := by decide +kernel
theorem dX3_borne_113 : decode cX3_borne 113 = .ok (.iadd, 1) := by decide +kernel
theorem dX3_borne_114 : decode cX3_borne 114 = .ok (.istore 10, 2) := by decide +kernel
theorem dX3_borne_116 : decode cX3_borne 116 = .ok (.aload_n 0, 1) := by decide +kernel
theorem dX3_borne_117 : decode cX3_borne 117 = .ok (.iload 10, 2) := by decide +kernel
theorem dX3_borne_119 : decode cX3_borne 119 = .ok (.iload_n 2, 1) := by decide +kernel
theorem dX3_borne_120 : decode cX3_borne 120 = .ok (.invokevirtual 187, 3) := by decide +kernel
theorem dX3_borne_123 : decode cX3_borne 123 = .ok (.lstore 11, 2) := by decide +kernel
theorem dX3_borne_125 : decode cX3_borne 125 = .ok (.lload 11, 2) := by decide +kernel
theorem dX3_borne_127 : decode cX3_borne 127 = .ok (.lconst 0, 1) := by decide +kernel
theorem dX3_borne_128 : decode cX3_borne 128 = .ok (.lcmp, 1) := by decide +kernel
theorem dX3_borne_129 : decode cX3_borne 129 = .ok (.ifCond .le 32, 3) := by decide +kernel
theorem dX3_borne_132 : decode cX3_borne 132 = .ok (.lload 4, 2) := by decide +kernel
theorem dX3_borne_134 : decode cX3_borne 134 = .ok (.lload 11, 2) := by decide +kernel
theorem dX3_borne_136 : decode cX3_borne 136 = .ok (.lmul, 1) := by decide +kernel
theorem dX3_borne_137 : decode cX3_borne 137 = .ok (.lload 6, 2) := by decide +kernel
theorem dX3_borne_139 : decode cX3_borne 139 = .ok (.aload_n 0, 1) := by decide +kernel
theorem dX3_borne_140 : decode cX3_borne 140 = .ok (.iload 10, 2) := by decide +kernel
theorem dX3_borne_142 : decode cX3_borne 142 = .ok (.iload_n 2, 1) := by decide +kernel
theorem dX3_borne_143 : decode cX3_borne 143 = .ok (.invokevirtual 191, 3) := by decide +kernel
theorem dX3_borne_146 : decode cX3_borne 146 = .ok (.lmul, 1) := by decide +kernel
theorem dX3_borne_147 : decode cX3_borne 147 = .ok (.iload 8, 2) := by decide +kernel
theorem dX3_borne_149 : decode cX3_borne 149 = .ok (.i2l, 1) := by decide +kernel
theorem dX3_borne_150 : decode cX3_borne 150 = .ok (.lmul, 1) := by decide +kernel
theorem dX3_borne_151 : decode cX3_borne 151 = .ok (.ladd, 1) := by decide +kernel
theorem dX3_borne_152 : decode cX3_borne 152 = .ok (.lstore 4, 2) := by decide +kernel
theorem dX3_borne_154 : decode cX3_borne 154 = .ok (.lload 6, 2) := by decide +kernel
theorem dX3_borne_156 : decode cX3_borne 156 = .ok (.lload 11, 2) := by decide +kernel
theorem dX3_borne_158 : decode cX3_borne 158 = .ok (.lmul, 1) := by decide +kernel
theorem dX3_borne_159 : decode cX3_borne 159 = .ok (.lstore 6, 2) := by decide +kernel
theorem dX3_borne_161 : decode cX3_borne 161 = .ok (.iinc 9 1, 3) := by decide +kernel
theorem dX3_borne_164 : decode cX3_borne 164 = .ok (.goto (-68), 3) := by decide +kernel
theorem dX3_borne_167 : decode cX3_borne 167 = .ok (.lload 4, 2) := by decide +kernel
theorem dX3_borne_169 : decode cX3_borne 169 = .ok (.lload 6, 2) := by decide +kernel
theorem dX3_borne_171 : decode cX3_borne 171 = .ok (.invokestatic 194, 3) := by decide +kernel
theorem dX3_borne_174 : decode cX3_borne 174 = .ok (.lstore 9, 2) := by decide +kernel
theorem dX3_borne_176 : decode cX3_borne 176 = .ok (.lload 9, 2) := by decide +kernel
theorem dX3_borne_178 : decode cX3_borne 178 = .ok (.lconst 0, 1) := by decide +kernel
theorem dX3_borne_179 : decode cX3_borne 179 = .ok (.lcmp, 1) := by decide +kernel
theorem dX3_borne_180 : decode cX3_borne 180 = .ok (.ifCond .ne 7, 3) := by decide +kernel
theorem dX3_borne_183 : decode cX3_borne 183 = .ok (.ldc2_w 182, 3) := by decide +kernel
theorem dX3_borne_186 : decode cX3_borne 186 = .ok (.lreturn, 1) := by decide +kernel
theorem dX3_borne_187 : decode cX3_borne 187 = .ok (.iload_n 3, 1) := by decide +kernel
theorem dX3_borne_188 : decode cX3_borne 188 = .ok (.ifCond .ne 11, 3) := by decide +kernel
theorem dX3_borne_191 : decode cX3_borne 191 = .ok (.lload 4, 2) := by decide +kernel
theorem dX3_borne_193 : decode cX3_borne 193 = .ok (.lload 9, 2) := by decide +kernel
theorem dX3_borne_195 : decode cX3_borne 195 = .ok (.ldiv, 1) := by decide +kernel
theorem dX3_borne_196 : decode cX3_borne 196 = .ok (.goto 8, 3) := by decide +kernel
theorem dX3_borne_199 : decode cX3_borne 199 = .ok (.lload 6, 2) := by decide +kernel
theorem dX3_borne_201 : decode cX3_borne 201 = .ok (.lload 9, 2) := by decide +kernel
theorem dX3_borne_203 : decode cX3_borne 203 = .ok (.ldiv, 1) := by decide +kernel
theorem dX3_borne_204 : decode cX3_borne 204 = .ok (.lreturn, 1) := by decide +kernel
set_option maxRecDepth 100000 in
theorem ggX3_count_X1_howManyPoured : GoodIn wsX3_count wsX1_howManyPoured := goodIn_sub (mc (List.mem_of_getElem? (i := 9) rfl) (mem_two (mc (List.mem_of_getElem? (i := 10) rfl) (mc (List.mem_of_getElem? (i := 11) rfl) mn)) (fun w h => (List.mem_cons_of_mem _ (List.mem_append_left _ (List.mem_append_right _ h)))))) (by decide +kernel)
set_option maxRecDepth 20000 in
theorem gX3_count_X1_howManyPoured_n198 : GoodIn wsX3_count (wsX1_howManyPoured) := ggX3_count_X1_howManyPoured
theorem dX3_count_0 : decode cX3_count 0 = .ok (.iload_n 1, 1) := by decide +kernel
theorem dX3_count_1 : decode cX3_count 1 = .ok (.tableswitch 90 0 6 #[43, 51, 59, 64, 72, 77, 85], 43) := by decide +kernel
theorem dX3_count_44 : decode cX3_count 44 = .ok (.aload_n 0, 1) := by decide +kernel
theorem dX3_count_45 : decode cX3_count 45 = .ok (.getfield 21, 3) := by decide +kernel
theorem dX3_count_48 : decode cX3_count 48 = .ok (.getfield 53, 3) := by decide +kernel
theorem dX3_count_51 : decode cX3_count 51 = .ok (.ireturn, 1) := by decide +kernel
theorem dX3_count_52 : decode cX3_count 52 = .ok (.aload_n 0, 1) := by decide +kernel
theorem dX3_count_53 : decode cX3_count 53 = .ok (.getfield 21, 3) := by decide +kernel
theorem dX3_count_56 : decode cX3_count 56 = .ok (.invokevirtual 198, 3) := by decide +kernel
theorem dX3_count_59 : decode cX3_count 59 = .ok (.ireturn, 1) := by decide +kernel
theorem dX3_count_60 : decode cX3_count 60 = .ok (.aload_n 0, 1) := by decide +kernel
theorem dX3_count_61 : decode cX3_count 61 = .ok (.getfield 43, 3) := by decide +kernel
theorem dX3_count_64 : decode cX3_count 64 = .ok (.ireturn, 1) := by decide +kernel
theorem dX3_count_65 : decode cX3_count 65 = .ok (.aload_n 0, 1) := by decide +kernel
theorem dX3_count_66 : decode cX3_count 66 = .ok (.getfield 14, 3) := by decide +kernel
theorem dX3_count_69 : decode cX3_count 69 = .ok (.getfield 98, 3) := by decide +kernel
theorem dX3_count_72 : decode cX3_count 72 = .ok (.ireturn, 1) := by decide +kernel
theorem dX3_count_73 : decode cX3_count 73 = .ok (.aload_n 0, 1) := by decide +kernel
theorem dX3_count_74 : decode cX3_count 74 = .ok (.getfield 39, 3) := by decide +kernel
theorem dX3_count_77 : decode cX3_count 77 = .ok (.ireturn, 1) := by decide +kernel
theorem dX3_count_78 : decode cX3_count 78 = .ok (.aload_n 0, 1) := by decide +kernel
theorem dX3_count_79 : decode cX3_count 79 = .ok (.getfield 14, 3) := by decide +kernel
theorem dX3_count_82 : decode cX3_count 82 = .ok (.getfield 92, 3) := by decide +kernel
theorem dX3_count_85 : decode cX3_count 85 = .ok (.ireturn, 1) := by decide +kernel
theorem dX3_count_86 : decode cX3_count 86 = .ok (.aload_n 0, 1) := by decide +kernel
theorem dX3_count_87 : decode cX3_count 87 = .ok (.getfield 46, 3) := by decide +kernel
theorem dX3_count_90 : decode cX3_count 90 = .ok (.ireturn, 1) := by decide +kernel
theorem dX3_count_91 : decode cX3_count 91 = .ok (.iconst (-1), 1) := by decide +kernel
theorem dX3_count_92 : decode cX3_count 92 = .ok (.ireturn, 1) := by decide +kernel
set_option maxRecDepth 100000 in
theorem ggX3_pourAnew_X1_unpourFrom : GoodIn wsX3_pourAnew wsX1_unpourFrom := goodIn_sub (mc (List.mem_of_getElem? (i := 7) rfl) (mem_two (mc (List.mem_of_getElem? (i := 8) rfl) (mc (List.mem_of_getElem? (i := 9) rfl) mn)) (fun w h => (List.mem_cons_of_mem _ (List.mem_append_left _ (List.mem_append_left _ (List.mem_append_right _ h))))))) (by decide +kernel)
set_option maxRecDepth 20000 in
theorem gX3_pourAnew_X1_unpourFrom_n141 : GoodIn wsX3_pourAnew (wsX1_unpourFrom) := ggX3_pourAnew_X1_unpourFrom
set_option maxRecDepth 100000 in
theorem ggX3_pourAnew_X1_howManyPoured : GoodIn wsX3_pourAnew wsX1_howManyPoured := goodIn_sub (mc (List.mem_of_getElem? (i := 12) rfl) (mem_two (mc (List.mem_of_getElem? (i := 8) rfl) (mc (List.mem_of_getElem? (i := 9) rfl) mn)) (fun w h => (List.mem_cons_of_mem _ (List.mem_append_left _ (List.mem_append_left _ (List.mem_append_right _ h))))))) (by decide +kernel)
set_option maxRecDepth 20000 in
theorem gX3_pourAnew_X1_howManyPoured_n198 : GoodIn wsX3_pourAnew (wsX1_howManyPoured) := ggX3_pourAnew_X1_howManyPoured
set_option maxRecDepth 100000 in
theorem ggX3_pourAnew_X3_hindrance : GoodIn wsX3_pourAnew wsX3_hindrance := goodIn_sub (mc (List.mem_of_getElem? (i := 17) rfl) (mem_two (mem_two (mem_two (mem_two (mem_two (mc (List.mem_of_getElem? (i := 1) rfl) (mc (List.mem_of_getElem? (i := 18) rfl) (mc (List.mem_of_getElem? (i := 19) rfl) (mc (List.mem_of_getElem? (i := 20) rfl) (mc (List.mem_of_getElem? (i := 21) rfl) (mc (List.mem_of_getElem? (i := 16) rfl) (mc (List.mem_of_getElem? (i := 22) rfl) (mc (List.mem_of_getElem? (i := 23) rfl) (mc (List.mem_of_getElem? (i := 24) rfl) (mc (List.mem_of_getElem? (i := 25) rfl) (mc (List.mem_of_getElem? (i := 26) rfl) (mc (List.mem_of_getElem? (i := 3) rfl) (mc (List.mem_of_getElem? (i := 27) rfl) (mc (List.mem_of_getElem? (i := 5) rfl) (mc (List.mem_of_getElem? (i := 28) rfl) (mc (List.mem_of_getElem? (i := 29) rfl) (mc (List.mem_of_getElem? (i := 9) rfl) (mc (List.mem_of_getElem? (i := 30) rfl) (mc (List.mem_of_getElem? (i := 31) rfl) (mc (List.mem_of_getElem? (i := 32) rfl) (mc (List.mem_of_getElem? (i := 33) rfl) (mc (List.mem_of_getElem? (i := 34) rfl) (mc (List.mem_of_getElem? (i := 35) rfl) (mc (List.mem_of_getElem? (i := 36) rfl) mn)))))))))))))))))))))))) (mem_two (mc (List.mem_of_getElem? (i := 37) rfl) (mc (List.mem_of_getElem? (i := 38) rfl) (mc (List.mem_of_getElem? (i := 39) rfl) (mc (List.mem_of_getElem? (i := 40) rfl) (mc (List.mem_of_getElem? (i := 41) rfl) (mc (List.mem_of_getElem? (i := 42) rfl) (mc (List.mem_of_getElem? (i := 43) rfl) (mc (List.mem_of_getElem? (i := 44) rfl) (mc (List.mem_of_getElem? (i := 45) rfl) (mc (List.mem_of_getElem? (i := 46) rfl) (mc (List.mem_of_getElem? (i := 47) rfl) (mc (List.mem_of_getElem? (i := 48) rfl) (mc (List.mem_of_getElem? (i := 49) rfl) (mc (List.mem_of_getElem? (i := 50) rfl) (mc (List.mem_of_getElem? (i := 51) rfl) (mc (List.mem_of_getElem? (i := 52) rfl) (mc (List.mem_of_getElem? (i := 53) rfl) (mc (List.mem_of_getElem? (i := 54) rfl) (mc (List.mem_of_getElem? (i := 55) rfl) (mc (List.mem_of_getElem? (i := 56) rfl) (mc (List.mem_of_getElem? (i := 57) rfl) (mc (List.mem_of_getElem? (i := 58) rfl) (mc (List.mem_of_getElem? (i := 59) rfl) (mc (List.mem_of_getElem? (i := 60) rfl) mn)))))))))))))))))))))))) (mc (List.mem_of_getElem? (i := 61) rfl) (mc (List.mem_of_getElem? (i := 62) rfl) (mc (List.mem_of_getElem? (i := 63) rfl) (mc (List.mem_of_getElem? (i := 64) rfl) (mc (List.mem_of_getElem? (i := 65) rfl) (mc (List.mem_of_getElem? (i := 66) rfl) (mc (List.mem_of_getElem? (i := 67) rfl) (mc (List.mem_of_getElem? (i := 68) rfl) (mc (List.mem_of_getElem? (i := 69) rfl) (mc (List.mem_of_getElem? (i := 70) rfl) (mc (List.mem_of_getElem? (i := 71) rfl) (mc (List.mem_of_getElem? (i := 72) rfl) (mc (List.mem_of_getElem? (i := 73) rfl) (mc (List.mem_of_getElem? (i := 74) rfl) mn)))))))))))))))) (fun w h => (List.mem_cons_of_mem _ (List.mem_append_left _ (List.mem_append_left _ (List.mem_append_left _ (List.mem_append_right _ h))))))) (fun w h => (List.mem_cons_of_mem _ (List.mem_append_left _ (List.mem_append_left _ (List.mem_append_right _ h)))))) (fun w h => (List.mem_cons_of_mem _ (List.mem_append_left _ (List.mem_append_right _ h))))) (fun w h => (List.mem_cons_of_mem _ (List.mem_append_right _ h))))) (by decide +kernel)
set_option maxRecDepth 100000 in
theorem gX3_pourAnew_X3_hindrance : GoodIn wsX3_pourAnew (wsV RX3 172 RX3 yX3_hindrance wsX3_hindrance) := goodIn_app (goodIn_sub (mc (List.mem_of_getElem? (i := 13) rfl) (mc (List.mem_of_getElem? (i := 14) rfl) (mc (List.mem_of_getElem? (i := 15) rfl) (mc (List.mem_of_getElem? (i := 16) rfl) mn)))) (by decide +kernel)) ggX3_pourAnew_X3_hindrance
set_option maxRecDepth 100000 in
theorem ggX3_pourAnew_X3_endOfAll : GoodIn wsX3_pourAnew wsX3_endOfAll := goodIn_sub (mc (List.mem_of_getElem? (i := 78) rfl) (mem_two (mem_two (mem_two (mc (List.mem_of_getElem? (i := 1) rfl) (mc (List.mem_of_getElem? (i := 40) rfl) (mc (List.mem_of_getElem? (i := 79) rfl) (mc (List.mem_of_getElem? (i := 80) rfl) (mc (List.mem_of_getElem? (i := 81) rfl) (mc (List.mem_of_getElem? (i := 82) rfl) (mc (List.mem_of_getElem? (i := 67) rfl) (mc (List.mem_of_getElem? (i := 47) rfl) (mc (List.mem_of_getElem? (i := 68) rfl) (mc (List.mem_of_getElem? (i := 69) rfl) (mc (List.mem_of_getElem? (i := 70) rfl) mn))))))))))) (fun w h => (List.mem_cons_of_mem _ (List.mem_append_left _ (List.mem_append_left _ (List.mem_append_left _ (List.mem_append_right _ h))))))) (fun w h => (List.mem_cons_of_mem _ (List.mem_append_left _ (List.mem_append_left _ (List.mem_append_right _ h)))))) (fun w h => (List.mem_cons_of_mem _ (List.mem_append_right _ h))))) (by decide +kernel)
set_option maxRecDepth 100000 in
theorem gX3_pourAnew_X3_endOfAll : GoodIn wsX3_pourAnew (wsV RX3 201 RX3 yX3_endOfAll wsX3_endOfAll) := goodIn_app (goodIn_sub (mc (List.mem_of_getElem? (i := 75) rfl) (mc (List.mem_of_getElem? (i := 76) rfl) (mc (List.mem_of_getElem? (i := 77) rfl) (mc (List.mem_of_getElem? (i := 16) rfl) mn)))) (by decide +kernel)) ggX3_pourAnew_X3_endOfAll
theorem dX3_pourAnew_0 : decode cX3_pourAnew 0 = .ok (.aload_n 0, 1) := by decide +kernel
theorem dX3_pourAnew_1 : decode cX3_pourAnew 1 = .ok (.getfield 21, 3) := by decide +kernel
theorem dX3_pourAnew_4 : decode cX3_pourAnew 4 = .ok (.aload_n 0, 1) := by decide +kernel
theorem dX3_pourAnew_5 : decode cX3_pourAnew 5 = .ok (.getfield 43, 3) := by decide +kernel
theorem dX3_pourAnew_8 : decode cX3_pourAnew 8 = .ok (.invokevirtual 141, 3) := by decide +kernel
theorem dX3_pourAnew_11 : decode cX3_pourAnew 11 = .ok (.pop, 1) := by decide +kernel
theorem dX3_pourAnew_12 : decode cX3_pourAnew 12 = .ok (.aload_n 0, 1) := by decide +kernel
theorem dX3_pourAnew_13 : decode cX3_pourAnew 13 = .ok (.getfield 21, 3) := by decide +kernel
theorem dX3_pourAnew_16 : decode cX3_pourAnew 16 = .ok (.getfield 53, 3) := by decide +kernel
theorem dX3_pourAnew_19 : decode cX3_pourAnew 19 = .ok (.aload_n 0, 1) := by decide +kernel
theorem dX3_pourAnew_20 : decode cX3_pourAnew 20 = .ok (.getfield 21, 3) := by decide +kernel
theorem dX3_pourAnew_23 : decode cX3_pourAnew 23 = .ok (.invokevirtual 198, 3) := by decide +kernel
theorem dX3_pourAnew_26 : decode cX3_pourAnew 26 = .ok (.isub, 1) := by decide +kernel
theorem dX3_pourAnew_27 : decode cX3_pourAnew 27 = .ok (.istore_n 1, 1) := by decide +kernel
theorem dX3_pourAnew_28 : decode cX3_pourAnew 28 = .ok (.aload_n 0, 1) := by decide +kernel
theorem dX3_pourAnew_29 : decode cX3_pourAnew 29 = .ok (.getfield 43, 3) := by decide +kernel
theorem dX3_pourAnew_32 : decode cX3_pourAnew 32 = .ok (.istore_n 2, 1) := by decide +kernel
theorem dX3_pourAnew_33 : decode cX3_pourAnew 33 = .ok (.iload_n 2, 1) := by decide +kernel
theorem dX3_pourAnew_34 : decode cX3_pourAnew 34 = .ok (.bipush 40, 2) := by decide +kernel
theorem dX3_pourAnew_36 : decode cX3_pourAnew 36 = .ok (.if_icmp .ge 81, 3) := by decide +kernel
theorem dX3_pourAnew_39 : decode cX3_pourAnew 39 = .ok (.iload_n 1, 1) := by decide +kernel
theorem dX3_pourAnew_40 : decode cX3_pourAnew 40 = .ok (.ifCond .le 77, 3) := by decide +kernel
theorem dX3_pourAnew_43 : decode cX3_pourAnew 43 = .ok (.iconst 0, 1) := by decide +kernel
theorem dX3_pourAnew_44 : decode cX3_pourAnew 44 = .ok (.istore_n 3, 1) := by decide +kernel
theorem dX3_pourAnew_45 : decode cX3_pourAnew 45 = .ok (.iload_n 3, 1) := by decide +kernel
theorem dX3_pourAnew_46 : decode cX3_pourAnew 46 = .ok (.aload_n 0, 1) := by decide +kernel
theorem dX3_pourAnew_47 : decode cX3_pourAnew 47 = .ok (.getfield 21, 3) := by decide +kernel
theorem dX3_pourAnew_50 : decode cX3_pourAnew 50 = .ok (.getfield 53, 3) := by decide +kernel
theorem dX3_pourAnew_53 : decode cX3_pourAnew 53 = .ok (.if_icmp .ge 58, 3) := by decide +kernel
theorem dX3_pourAnew_56 : decode cX3_pourAnew 56 = .ok (.aload_n 0, 1) := by decide +kernel
theorem dX3_pourAnew_57 : decode cX3_pourAnew 57 = .ok (.getfield 28, 3) := by decide +kernel
theorem dX3_pourAnew_60 : decode cX3_pourAnew 60 = .ok (.getfield 122, 3) := by decide +kernel
theorem dX3_pourAnew_63 : decode cX3_pourAnew 63 = .ok (.iload_n 3, 1) := by decide +kernel
theorem dX3_pourAnew_64 : decode cX3_pourAnew 64 = .ok (.iaload, 1) := by decide +kernel
theorem dX3_pourAnew_65 : decode cX3_pourAnew 65 = .ok (.istore 4, 2) := by decide +kernel
theorem dX3_pourAnew_67 : decode cX3_pourAnew 67 = .ok (.aload_n 0, 1) := by decide +kernel
theorem dX3_pourAnew_68 : decode cX3_pourAnew 68 = .ok (.getfield 21, 3) := by decide +kernel
theorem dX3_pourAnew_71 : decode cX3_pourAnew 71 = .ok (.getfield 162, 3) := by decide +kernel
theorem dX3_pourAnew_74 : decode cX3_pourAnew 74 = .ok (.iload 4, 2) := by decide +kernel
theorem dX3_pourAnew_76 : decode cX3_pourAnew 76 = .ok (.iaload, 1) := by decide +kernel
theorem dX3_pourAnew_77 : decode cX3_pourAnew 77 = .ok (.iconst (-1), 1) := by decide +kernel
theorem dX3_pourAnew_78 : decode cX3_pourAnew 78 = .ok (.if_icmp .ne 27, 3) := by decide +kernel
theorem dX3_pourAnew_81 : decode cX3_pourAnew 81 = .ok (.aload_n 0, 1) := by decide +kernel
theorem dX3_pourAnew_82 : decode cX3_pourAnew 82 = .ok (.iload 4, 2) := by decide +kernel
theorem dX3_pourAnew_84 : decode cX3_pourAnew 84 = .ok (.iload_n 2, 1) := by decide +kernel
theorem dX3_pourAnew_85 : decode cX3_pourAnew 85 = .ok (.invokevirtual 172, 3) := by decide +kernel
theorem dX3_pourAnew_88 : decode cX3_pourAnew 88 = .ok (.ifCond .ne 17, 3) := by decide +kernel
theorem dX3_pourAnew_91 : decode cX3_pourAnew 91 = .ok (.aload_n 0, 1) := by decide +kernel
theorem dX3_pourAnew_92 : decode cX3_pourAnew 92 = .ok (.getfield 21, 3) := by decide +kernel
theorem dX3_pourAnew_95 : decode cX3_pourAnew 95 = .ok (.getfield 162, 3) := by decide +kernel
theorem dX3_pourAnew_98 : decode cX3_pourAnew 98 = .ok (.iload 4, 2) := by decide +kernel
theorem dX3_pourAnew_100 : decode cX3_pourAnew 100 = .ok (.iload_n 2, 1) := by decide +kernel
theorem dX3_pourAnew_101 : decode cX3_pourAnew 101 = .ok (.iastore, 1) := by decide +kernel
theorem dX3_pourAnew_102 : decode cX3_pourAnew 102 = .ok (.iinc 1 (-1), 3) := by decide +kernel
theorem dX3_pourAnew_105 : decode cX3_pourAnew 105 = .ok (.iinc 3 1, 3) := by decide +kernel
theorem dX3_pourAnew_108 : decode cX3_pourAnew 108 = .ok (.goto (-63), 3) := by decide +kernel
theorem dX3_pourAnew_111 : decode cX3_pourAnew 111 = .ok (.iinc 2 1, 3) := by decide +kernel
theorem dX3_pourAnew_114 : decode cX3_pourAnew 114 = .ok (.goto (-81), 3) := by decide +kernel
theorem dX3_pourAnew_117 : decode cX3_pourAnew 117 = .ok (.aload_n 0, 1) := by decide +kernel
theorem dX3_pourAnew_118 : decode cX3_pourAnew 118 = .ok (.invokevirtual 201, 3) := by decide +kernel
theorem dX3_pourAnew_121 : decode cX3_pourAnew 121 = .ok (.ireturn, 1) := by decide +kernel
set_option maxRecDepth 100000 in
theorem ggX3_endOfAll_X0_stripDayFor : GoodIn wsX3_endOfAll wsX0_stripDayFor := goodIn_sub (mc (List.mem_of_getElem? (i := 10) rfl) (mem_two (mc (List.mem_of_getElem? (i := 11) rfl) mn) (fun w h => (List.mem_cons_of_mem _ (List.mem_append_right _ h))))) (by decide +kernel)
set_option maxRecDepth 20000 in
theorem gX3_endOfAll_X0_stripDayFor_n165 : GoodIn wsX3_endOfAll (wsX0_stripDayFor) := ggX3_endOfAll_X0_stripDayFor
theorem dX3_endOfAll_0 : decode cX3_endOfAll 0 = .ok (.iconst 0, 1) := by decide +kernel
theorem dX3_endOfAll_1 : decode cX3_endOfAll 1 = .ok (.istore_n 1, 1) := by decide +kernel
theorem dX3_endOfAll_2 : decode cX3_endOfAll 2 = .ok (.iconst 0, 1) := by decide +kernel
theorem dX3_endOfAll_3 : decode cX3_endOfAll 3 = .ok (.istore_n 2, 1) := by decide +kernel
theorem dX3_endOfAll_4 : decode cX3_endOfAll 4 = .ok (.iload_n 2, 1) := by decide +kernel
theorem dX3_endOfAll_5 : decode cX3_endOfAll 5 = .ok (.aload_n 0, 1) := by decide +kernel
theorem dX3_endOfAll_6 : decode cX3_endOfAll 6 = .ok (.getfield 21, 3) := by decide +kernel
theorem dX3_endOfAll_9 : decode cX3_endOfAll 9 = .ok (.getfield 53, 3) := by decide +kernel
theorem dX3_endOfAll_12 : decode cX3_endOfAll 12 = .ok (.if_icmp .ge 30, 3) := by decide +kernel
theorem dX3_endOfAll_15 : decode cX3_endOfAll 15 = .ok (.iload_n 1, 1) := by decide +kernel
theorem dX3_endOfAll_16 : decode cX3_endOfAll 16 = .ok (.aload_n 0, 1) := by decide +kernel
theorem dX3_endOfAll_17 : decode cX3_endOfAll 17 = .ok (.getfield 14, 3) := by decide +kernel
theorem dX3_endOfAll_20 : decode cX3_endOfAll 20 = .ok (.aload_n 0, 1) := by decide +kernel
theorem dX3_endOfAll_21 : decode cX3_endOfAll 21 = .ok (.getfield 21, 3) := by decide +kernel
theorem dX3_endOfAll_24 : decode cX3_endOfAll 24 = .ok (.getfield 162, 3) := by decide +kernel
theorem dX3_endOfAll_27 : decode cX3_endOfAll 27 = .ok (.iload_n 2, 1) := by decide +kernel
theorem dX3_endOfAll_28 : decode cX3_endOfAll 28 = .ok (.iaload, 1) := by decide +kernel
theorem dX3_endOfAll_29 : decode cX3_endOfAll 29 = .ok (.invokevirtual 165, 3) := by decide +kernel
theorem dX3_endOfAll_32 : decode cX3_endOfAll 32 = .ok (.invokestatic 204, 3) := by decide +kernel
theorem dX3_endOfAll_35 : decode cX3_endOfAll 35 = .ok (.istore_n 1, 1) := by decide +kernel
theorem dX3_endOfAll_36 : decode cX3_endOfAll 36 = .ok (.iinc 2 1, 3) := by decide +kernel
theorem dX3_endOfAll_39 : decode cX3_endOfAll 39 = .ok (.goto (-35), 3) := by decide +kernel
theorem dX3_endOfAll_42 : decode cX3_endOfAll 42 = .ok (.iload_n 1, 1) := by decide +kernel
theorem dX3_endOfAll_43 : decode cX3_endOfAll 43 = .ok (.ireturn, 1) := by decide +kernel
set_option maxRecDepth 100000 in
theorem ggX3_endOfFirstGoodChange_X2_move : GoodIn wsX3_endOfFirstGoodChange wsX2_move := goodIn_sub (mc (List.mem_of_getElem? (i := 6) rfl) (mem_two (mc (List.mem_of_getElem? (i := 7) rfl) (mc (List.mem_of_getElem? (i := 8) rfl) (mc (List.mem_of_getElem? (i := 9) rfl) (mc (List.mem_of_getElem? (i := 10) rfl) (mc (List.mem_of_getElem? (i := 4) rfl) (mc (List.mem_of_getElem? (i := 11) rfl) (mc (List.mem_of_getElem? (i := 12) rfl) mn))))))) (fun w h => (List.mem_cons_of_mem _ (List.mem_append_left _ (List.mem_append_right _ h)))))) (by decide +kernel)
set_option maxRecDepth 20000 in
theorem gX3_endOfFirstGoodChange_X2_move_n116 : GoodIn wsX3_endOfFirstGoodChange (wsX2_move) := ggX3_endOfFirstGoodChange_X2_move
set_option maxRecDepth 100000 in
theorem ggX3_endOfFirstGoodChange_X3_pourAnew : GoodIn wsX3_endOfFirstGoodChange wsX3_pourAnew := goodIn_sub (mc (List.mem_of_getElem? (i := 17) rfl) (mem_two (mem_two (mem_two (mem_two (mem_two (mc (List.mem_of_getElem? (i := 1) rfl) (mc (List.mem_of_getElem? (i := 18) rfl) (mc (List.mem_of_getElem? (i := 2) rfl) (mc (List.mem_of_getElem? (i := 19) rfl) (mc (List.mem_of_getElem? (i := 20) rfl) (mc (List.mem_of_getElem? (i := 21) rfl) (mc (List.mem_of_getElem? (i := 22) rfl) (mc (List.mem_of_getElem? (i := 23) rfl) (mc (List.mem_of_getElem? (i := 24) rfl) (mc (List.mem_of_getElem? (i := 25) rfl) (mc (List.mem_of_getElem? (i := 26) rfl) (mc (List.mem_of_getElem? (i := 27) rfl) (mc (List.mem_of_getElem? (i := 28) rfl) (mc (List.mem_of_getElem? (i := 29) rfl) (mc (List.mem_of_getElem? (i := 30) rfl) (mc (List.mem_of_getElem? (i := 16) rfl) (mc (List.mem_of_getElem? (i := 31) rfl) (mc (List.mem_of_getElem? (i := 32) rfl) (mc (List.mem_of_getElem? (i := 33) rfl) (mc (List.mem_of_getElem? (i := 34) rfl) (mc (List.mem_of_getElem? (i := 35) rfl) (mc (List.mem_of_getElem? (i := 36) rfl) (mc (List.mem_of_getElem? (i := 37) rfl) (mc (List.mem_of_getElem? (i := 38) rfl) mn)))))))))))))))))))))))) (mem_two (mc (List.mem_of_getElem? (i := 39) rfl) (mc (List.mem_of_getElem? (i := 40) rfl) (mc (List.mem_of_getElem? (i := 41) rfl) (mc (List.mem_of_getElem? (i := 42) rfl) (mc (List.mem_of_getElem? (i := 43) rfl) (mc (List.mem_of_getElem? (i := 44) rfl) (mc (List.mem_of_getElem? (i := 4) rfl) (mc (List.mem_of_getElem? (i := 45) rfl) (mc (List.mem_of_getElem? (i := 46) rfl) (mc (List.mem_of_getElem? (i := 12) rfl) (mc (List.mem_of_getElem? (i := 7) rfl) (mc (List.mem_of_getElem? (i := 47) rfl) (mc (List.mem_of_getElem? (i := 48) rfl) (mc (List.mem_of_getElem? (i := 49) rfl) (mc (List.mem_of_getElem? (i := 50) rfl) (mc (List.mem_of_getElem? (i := 51) rfl) (mc (List.mem_of_getElem? (i := 52) rfl) (mc (List.mem_of_getElem? (i := 53) rfl) (mc (List.mem_of_getElem? (i := 54) rfl) (mc (List.mem_of_getElem? (i := 55) rfl) (mc (List.mem_of_getElem? (i := 56) rfl) (mc (List.mem_of_getElem? (i := 57) rfl) (mc (List.mem_of_getElem? (i := 58) rfl) (mc (List.mem_of_getElem? (i := 59) rfl) mn)))))))))))))))))))))))) (mem_two (mc (List.mem_of_getElem? (i := 60) rfl) (mc (List.mem_of_getElem? (i := 61) rfl) (mc (List.mem_of_getElem? (i := 62) rfl) (mc (List.mem_of_getElem? (i := 63) rfl) (mc (List.mem_of_getElem? (i := 64) rfl) (mc (List.mem_of_getElem? (i := 65) rfl) (mc (List.mem_of_getElem? (i := 66) rfl) (mc (List.mem_of_getElem? (i := 67) rfl) (mc (List.mem_of_getElem? (i := 68) rfl) (mc (List.mem_of_getElem? (i := 69) rfl) (mc (List.mem_of_getElem? (i := 70) rfl) (mc (List.mem_of_getElem? (i := 71) rfl) (mc (List.mem_of_getElem? (i := 72) rfl) (mc (List.mem_of_getElem? (i := 73) rfl) (mc (List.mem_of_getElem? (i := 74) rfl) (mc (List.mem_of_getElem? (i := 75) rfl) (mc (List.mem_of_getElem? (i := 76) rfl) (mc (List.mem_of_getElem? (i := 77) rfl) (mc (List.mem_of_getElem? (i := 78) rfl) (mc (List.mem_of_getElem? (i := 79) rfl) (mc (List.mem_of_getElem? (i := 80) rfl) (mc (List.mem_of_getElem? (i := 81) rfl) (mc (List.mem_of_getElem? (i := 82) rfl) (mc (List.mem_of_getElem? (i := 83) rfl) mn)))))))))))))))))))))))) (mc (List.mem_of_getElem? (i := 84) rfl) (mc (List.mem_of_getElem? (i := 85) rfl) (mc (List.mem_of_getElem? (i := 86) rfl) (mc (List.mem_of_getElem? (i := 87) rfl) (mc (List.mem_of_getElem? (i := 88) rfl) (mc (List.mem_of_getElem? (i := 89) rfl) (mc (List.mem_of_getElem? (i := 90) rfl) (mc (List.mem_of_getElem? (i := 91) rfl) (mc (List.mem_of_getElem? (i := 92) rfl) (mc (List.mem_of_getElem? (i := 93) rfl) mn))))))))))))) (fun w h => (List.mem_cons_of_mem _ (List.mem_append_left _ (List.mem_append_left _ (List.mem_append_left _ (List.mem_append_right _ h))))))) (fun w h => (List.mem_cons_of_mem _ (List.mem_append_left _ (List.mem_append_left _ (List.mem_append_right _ h)))))) (fun w h => (List.mem_cons_of_mem _ (List.mem_append_left _ (List.mem_append_right _ h))))) (fun w h => (List.mem_cons_of_mem _ (List.mem_append_right _ h))))) (by decide +kernel)
set_option maxRecDepth 100000 in
theorem gX3_endOfFirstGoodChange_X3_pourAnew : GoodIn wsX3_endOfFirstGoodChange (wsV RX3 109 RX3 yX3_pourAnew wsX3_pourAnew) := goodIn_app (goodIn_sub (mc (List.mem_of_getElem? (i := 13) rfl) (mc (List.mem_of_getElem? (i := 14) rfl) (mc (List.mem_of_getElem? (i := 15) rfl) (mc (List.mem_of_getElem? (i := 16) rfl) mn)))) (by decide +kernel)) ggX3_endOfFirstGoodChange_X3_pourAnew
theorem dX3_endOfFirstGoodChange_0 : decode cX3_endOfFirstGoodChange 0 = .ok (.iconst 0, 1) := by decide +kernel
theorem dX3_endOfFirstGoodChange_1 : decode cX3_endOfFirstGoodChange 1 = .ok (.istore_n 2, 1) := by decide +kernel
theorem dX3_endOfFirstGoodChange_2 : decode cX3_endOfFirstGoodChange 2 = .ok (.iload_n 2, 1) := by decide +kernel
theorem dX3_endOfFirstGoodChange_3 : decode cX3_endOfFirstGoodChange 3 = .ok (.iconst 1, 1) := by decide +kernel
theorem dX3_endOfFirstGoodChange_4 : decode cX3_endOfFirstGoodChange 4 = .ok (.iadd, 1) := by decide +kernel
theorem dX3_endOfFirstGoodChange_5 : decode cX3_endOfFirstGoodChange 5 = .ok (.aload_n 0, 1) := by decide +kernel
theorem dX3_endOfFirstGoodChange_6 : decode cX3_endOfFirstGoodChange 6 = .ok (.getfield 21, 3) := by decide +kernel
theorem dX3_endOfFirstGoodChange_9 : decode cX3_endOfFirstGoodChange 9 = .ok (.getfield 53, 3) := by decide +kernel
theorem dX3_endOfFirstGoodChange_12 : decode cX3_endOfFirstGoodChange 12 = .ok (.if_icmp .ge 43, 3) := by decide +kernel
theorem dX3_endOfFirstGoodChange_15 : decode cX3_endOfFirstGoodChange 15 = .ok (.aload_n 0, 1) := by decide +kernel
theorem dX3_endOfFirstGoodChange_16 : decode cX3_endOfFirstGoodChange 16 = .ok (.getfield 28, 3) := by decide +kernel
theorem dX3_endOfFirstGoodChange_19 : decode cX3_endOfFirstGoodChange 19 = .ok (.iload_n 2, 1) := by decide +kernel
theorem dX3_endOfFirstGoodChange_20 : decode cX3_endOfFirstGoodChange 20 = .ok (.iload_n 2, 1) := by decide +kernel
theorem dX3_endOfFirstGoodChange_21 : decode cX3_endOfFirstGoodChange 21 = .ok (.iconst 1, 1) := by decide +kernel
theorem dX3_endOfFirstGoodChange_22 : decode cX3_endOfFirstGoodChange 22 = .ok (.iadd, 1) := by decide +kernel
theorem dX3_endOfFirstGoodChange_23 : decode cX3_endOfFirstGoodChange 23 = .ok (.invokevirtual 116, 3) := by decide +kernel
theorem dX3_endOfFirstGoodChange_26 : decode cX3_endOfFirstGoodChange 26 = .ok (.aload_n 0, 1) := by decide +kernel
theorem dX3_endOfFirstGoodChange_27 : decode cX3_endOfFirstGoodChange 27 = .ok (.invokevirtual 109, 3) := by decide +kernel
theorem dX3_endOfFirstGoodChange_30 : decode cX3_endOfFirstGoodChange 30 = .ok (.istore_n 3, 1) := by decide +kernel
theorem dX3_endOfFirstGoodChange_31 : decode cX3_endOfFirstGoodChange 31 = .ok (.iload_n 3, 1) := by decide +kernel
theorem dX3_endOfFirstGoodChange_32 : decode cX3_endOfFirstGoodChange 32 = .ok (.iload_n 1, 1) := by decide +kernel
theorem dX3_endOfFirstGoodChange_33 : decode cX3_endOfFirstGoodChange 33 = .ok (.if_icmp .ge 5, 3) := by decide +kernel
theorem dX3_endOfFirstGoodChange_36 : decode cX3_endOfFirstGoodChange 36 = .ok (.iload_n 3, 1) := by decide +kernel
theorem dX3_endOfFirstGoodChange_37 : decode cX3_endOfFirstGoodChange 37 = .ok (.ireturn, 1) := by decide +kernel
theorem dX3_endOfFirstGoodChange_38 : decode cX3_endOfFirstGoodChange 38 = .ok (.aload_n 0, 1) := by decide +kernel
theorem dX3_endOfFirstGoodChange_39 : decode cX3_endOfFirstGoodChange 39 = .ok (.getfield 28, 3) := by decide +kernel
theorem dX3_endOfFirstGoodChange_42 : decode cX3_endOfFirstGoodChange 42 = .ok (.iload_n 2, 1) := by decide +kernel
theorem dX3_endOfFirstGoodChange_43 : decode cX3_endOfFirstGoodChange 43 = .ok (.iload_n 2, 1) := by decide +kernel
theorem dX3_endOfFirstGoodChange_44 : decode cX3_endOfFirstGoodChange 44 = .ok (.iconst 1, 1) := by decide +kernel
theorem dX3_endOfFirstGoodChange_45 : decode cX3_endOfFirstGoodChange 45 = .ok (.iadd, 1) := by decide +kernel
theorem dX3_endOfFirstGoodChange_46 : decode cX3_endOfFirstGoodChange 46 = .ok (.invokevirtual 116, 3) := by decide +kernel
theorem dX3_endOfFirstGoodChange_49 : decode cX3_endOfFirstGoodChange 49 = .ok (.iinc 2 1, 3) := by decide +kernel
theorem dX3_endOfFirstGoodChange_52 : decode cX3_endOfFirstGoodChange 52 = .ok (.goto (-50), 3) := by decide +kernel
theorem dX3_endOfFirstGoodChange_55 : decode cX3_endOfFirstGoodChange 55 = .ok (.iload_n 1, 1) := by decide +kernel
theorem dX3_endOfFirstGoodChange_56 : decode cX3_endOfFirstGoodChange 56 = .ok (.ireturn, 1) := by decide +kernel
set_option maxRecDepth 100000 in
theorem ggX3_hindrance_X3_waitsForAhead : GoodIn wsX3_hindrance wsX3_waitsForAhead := goodIn_sub (mc (List.mem_of_getElem? (i := 7) rfl) (mem_two (mem_two (mem_two (mc (List.mem_of_getElem? (i := 1) rfl) (mc (List.mem_of_getElem? (i := 8) rfl) (mc (List.mem_of_getElem? (i := 9) rfl) (mc (List.mem_of_getElem? (i := 10) rfl) (mc (List.mem_of_getElem? (i := 6) rfl) (mc (List.mem_of_getElem? (i := 11) rfl) (mc (List.mem_of_getElem? (i := 12) rfl) (mc (List.mem_of_getElem? (i := 13) rfl) (mc (List.mem_of_getElem? (i := 14) rfl) (mc (List.mem_of_getElem? (i := 15) rfl) (mc (List.mem_of_getElem? (i := 16) rfl) (mc (List.mem_of_getElem? (i := 17) rfl) (mc (List.mem_of_getElem? (i := 18) rfl) (mc (List.mem_of_getElem? (i := 19) rfl) (mc (List.mem_of_getElem? (i := 20) rfl) (mc (List.mem_of_getElem? (i := 21) rfl) (mc (List.mem_of_getElem? (i := 22) rfl) (mc (List.mem_of_getElem? (i := 23) rfl) mn)))))))))))))))))) (fun w h => (List.mem_cons_of_mem _ (List.mem_append_left _ (List.mem_append_left _ (List.mem_append_left _ (List.mem_append_right _ h))))))) (fun w h => (List.mem_cons_of_mem _ (List.mem_append_left _ (List.mem_append_left _ (List.mem_append_right _ h)))))) (fun w h => (List.mem_cons_of_mem _ (List.mem_append_left _ (List.mem_append_right _ h)))))) (by decide +kernel)
set_option maxRecDepth 100000 in
theorem gX3_hindrance_X3_waitsForAhead : GoodIn wsX3_hindrance (wsV RX3 209 RX3 yX3_waitsForAhead wsX3_waitsForAhead) := goodIn_app (goodIn_sub (mc (List.mem_of_getElem? (i := 3) rfl) (mc (List.mem_of_getElem? (i := 4) rfl) (mc (List.mem_of_getElem? (i := 5) rfl) (mc (List.mem_of_getElem? (i := 6) rfl) mn)))) (by decide +kernel)) ggX3_hindrance_X3_waitsForAhead
set_option maxRecDepth 100000 in
theorem ggX3_hindrance_X3_waitsToStand : GoodIn wsX3_hindrance wsX3_waitsToStand := goodIn_sub (mc (List.mem_of_getElem? (i := 27) rfl) (mem_two (mem_two (mem_two (mc (List.mem_of_getElem? (i := 1) rfl) (mc (List.mem_of_getElem? (i := 28) rfl) (mc (List.mem_of_getElem? (i := 29) rfl) (mc (List.mem_of_getElem? (i := 14) rfl) (mc (List.mem_of_getElem? (i := 30) rfl) (mc (List.mem_of_getElem? (i := 31) rfl) (mc (List.mem_of_getElem? (i := 32) rfl) (mc (List.mem_of_getElem? (i := 33) rfl) (mc (List.mem_of_getElem? (i := 34) rfl) (mc (List.mem_of_getElem? (i := 35) rfl) (mc (List.mem_of_getElem? (i := 36) rfl) (mc (List.mem_of_getElem? (i := 37) rfl) (mc (List.mem_of_getElem? (i := 38) rfl) (mc (List.mem_of_getElem? (i := 39) rfl) (mc (List.mem_of_getElem? (i := 40) rfl) (mc (List.mem_of_getElem? (i := 41) rfl) (mc (List.mem_of_getElem? (i := 42) rfl) (mc (List.mem_of_getElem? (i := 43) rfl) (mc (List.mem_of_getElem? (i := 44) rfl) (mc (List.mem_of_getElem? (i := 45) rfl) mn)))))))))))))))))))) (fun w h => (List.mem_cons_of_mem _ (List.mem_append_left _ (List.mem_append_left _ (List.mem_append_left _ (List.mem_append_right _ h))))))) (fun w h => (List.mem_cons_of_mem _ (List.mem_append_left _ (List.mem_append_left _ (List.mem_append_right _ h)))))) (fun w h => (List.mem_cons_of_mem _ (List.mem_append_right _ h))))) (by decide +kernel)
set_option maxRecDepth 100000 in
theorem gX3_hindrance_X3_waitsToStand : GoodIn wsX3_hindrance (wsV RX3 212 RX3 yX3_waitsToStand wsX3_waitsToStand) := goodIn_app (goodIn_sub (mc (List.mem_of_getElem? (i := 24) rfl) (mc (List.mem_of_getElem? (i := 25) rfl) (mc (List.mem_of_getElem? (i := 26) rfl) (mc (List.mem_of_getElem? (i := 6) rfl) mn)))) (by decide +kernel)) ggX3_hindrance_X3_waitsToStand
set_option maxRecDepth 100000 in
theorem ggX3_hindrance_X3_formsLeft : GoodIn wsX3_hindrance wsX3_formsLeft := goodIn_sub (mc (List.mem_of_getElem? (i := 49) rfl) (mem_two (mem_two (mem_two (mc (List.mem_of_getElem? (i := 50) rfl) (mc (List.mem_of_getElem? (i := 1) rfl) (mc (List.mem_of_getElem? (i := 51) rfl) (mc (List.mem_of_getElem? (i := 52) rfl) (mc (List.mem_of_getElem? (i := 53) rfl) (mc (List.mem_of_getElem? (i := 6) rfl) (mc (List.mem_of_getElem? (i := 54) rfl) (mc (List.mem_of_getElem? (i := 28) rfl) (mc (List.mem_of_getElem? (i := 13) rfl) (mc (List.mem_of_getElem? (i := 14) rfl) (mc (List.mem_of_getElem? (i := 15) rfl) (mc (List.mem_of_getElem? (i := 16) rfl) (mc (List.mem_of_getElem? (i := 17) rfl) (mc (List.mem_of_getElem? (i := 55) rfl) (mc (List.mem_of_getElem? (i := 35) rfl) (mc (List.mem_of_getElem? (i := 56) rfl) (mc (List.mem_of_getElem? (i := 57) rfl) (mc (List.mem_of_getElem? (i := 58) rfl) mn)))))))))))))))))) (fun w h => (List.mem_cons_of_mem _ (List.mem_append_left _ (List.mem_append_left _ (List.mem_append_left _ (List.mem_append_right _ h))))))) (fun w h => (List.mem_cons_of_mem _ (List.mem_append_left _ (List.mem_append_left _ (List.mem_append_right _ h)))))) (fun w h => (List.mem_cons_of_mem _ (List.mem_append_right _ h))))) (by decide +kernel)
set_option maxRecDepth 100000 in
theorem gX3_hindrance_X3_formsLeft : GoodIn wsX3_hindrance (wsV RX3 175 RX3 yX3_formsLeft wsX3_formsLeft) := goodIn_app (goodIn_sub (mc (List.mem_of_getElem? (i := 46) rfl) (mc (List.mem_of_getElem? (i := 47) rfl) (mc (List.mem_of_getElem? (i := 48) rfl) (mc (List.mem_of_getElem? (i := 6) rfl) mn)))) (by decide +kernel)) ggX3_hindrance_X3_formsLeft
set_option maxRecDepth 100000 in
theorem ggX3_hindrance_X3_volumeOn : GoodIn wsX3_hindrance wsX3_volumeOn := goodIn_sub (mc (List.mem_of_getElem? (i := 62) rfl) (mem_two (mem_two (mc (List.mem_of_getElem? (i := 1) rfl) mn) (fun w h => (List.mem_cons_of_mem _ (List.mem_append_left _ (List.mem_append_left _ (List.mem_append_left _ (List.mem_append_right _ h))))))) (fun w h => (List.mem_cons_of_mem _ (List.mem_append_left _ (List.mem_append_left _ (List.mem_append_right _ h))))))) (by decide +kernel)
set_option maxRecDepth 100000 in
theorem gX3_hindrance_X3_volumeOn : GoodIn wsX3_hindrance (wsV RX3 179 RX3 yX3_volumeOn wsX3_volumeOn) := goodIn_app (goodIn_sub (mc (List.mem_of_getElem? (i := 59) rfl) (mc (List.mem_of_getElem? (i := 60) rfl) (mc (List.mem_of_getElem? (i := 61) rfl) (mc (List.mem_of_getElem? (i := 6) rfl) mn)))) (by decide +kernel)) ggX3_hindrance_X3_volumeOn
theorem dX3_hindrance_0 : decode cX3_hindrance 0 = .ok (.aload_n 0, 1) := by decide +kernel
theorem dX3_hindrance_1 : decode cX3_hindrance 1 = .ok (.iload_n 1, 1) := by decide +kernel
theorem dX3_hindrance_2 : decode cX3_hindrance 2 = .ok (.iload_n 2, 1) := by decide +kernel
theorem dX3_hindrance_3 : decode cX3_hindrance 3 = .ok (.invokevirtual 209, 3) := by decide +kernel
theorem dX3_hindrance_6 : decode cX3_hindrance 6 = .ok (.ifCond .eq 5, 3) := by decide +kernel
theorem dX3_hindrance_9 : decode cX3_hindrance 9 = .ok (.iconst 1, 1) := by decide +kernel
theorem dX3_hindrance_10 : decode cX3_hindrance 10 = .ok (.ireturn, 1) := by decide +kernel
theorem dX3_hindrance_11 : decode cX3_hindrance 11 = .ok (.aload_n 0, 1) := by decide +kernel
theorem dX3_hindrance_12 : decode cX3_hindrance 12 = .ok (.getfield 21, 3) := by decide +kernel
theorem dX3_hindrance_15 : decode cX3_hindrance 15 = .ok (.getfield 147, 3) := by decide +kernel
theorem dX3_hindrance_18 : decode cX3_hindrance 18 = .ok (.iload_n 1, 1) := by decide +kernel
theorem dX3_hindrance_19 : decode cX3_hindrance 19 = .ok (.iaload, 1) := by decide +kernel
theorem dX3_hindrance_20 : decode cX3_hindrance 20 = .ok (.ifCond .ne 14, 3) := by decide +kernel
theorem dX3_hindrance_23 : decode cX3_hindrance 23 = .ok (.aload_n 0, 1) := by decide +kernel
theorem dX3_hindrance_24 : decode cX3_hindrance 24 = .ok (.iload_n 1, 1) := by decide +kernel
theorem dX3_hindrance_25 : decode cX3_hindrance 25 = .ok (.iload_n 2, 1) := by decide +kernel
theorem dX3_hindrance_26 : decode cX3_hindrance 26 = .ok (.invokevirtual 212, 3) := by decide +kernel
theorem dX3_hindrance_29 : decode cX3_hindrance 29 = .ok (.ifCond .eq 5, 3) := by decide +kernel
theorem dX3_hindrance_32 : decode cX3_hindrance 32 = .ok (.iconst 2, 1) := by decide +kernel
theorem dX3_hindrance_33 : decode cX3_hindrance 33 = .ok (.ireturn, 1) := by decide +kernel
theorem dX3_hindrance_34 : decode cX3_hindrance 34 = .ok (.aload_n 0, 1) := by decide +kernel
theorem dX3_hindrance_35 : decode cX3_hindrance 35 = .ok (.aload_n 0, 1) := by decide +kernel
theorem dX3_hindrance_36 : decode cX3_hindrance 36 = .ok (.getfield 21, 3) := by decide +kernel
theorem dX3_hindrance_39 : decode cX3_hindrance 39 = .ok (.getfield 156, 3) := by decide +kernel
theorem dX3_hindrance_42 : decode cX3_hindrance 42 = .ok (.iload_n 1, 1) := by decide +kernel
theorem dX3_hindrance_43 : decode cX3_hindrance 43 = .ok (.iaload, 1) := by decide +kernel
theorem dX3_hindrance_44 : decode cX3_hindrance 44 = .ok (.iload_n 2, 1) := by decide +kernel
theorem dX3_hindrance_45 : decode cX3_hindrance 45 = .ok (.iload_n 1, 1) := by decide +kernel
theorem dX3_hindrance_46 : decode cX3_hindrance 46 = .ok (.invokevirtual 175, 3) := by decide +kernel
theorem dX3_hindrance_49 : decode cX3_hindrance 49 = .ok (.aload_n 0, 1) := by decide +kernel
theorem dX3_hindrance_50 : decode cX3_hindrance 50 = .ok (.getfield 21, 3) := by decide +kernel
theorem dX3_hindrance_53 : decode cX3_hindrance 53 = .ok (.getfield 159, 3) := by decide +kernel
theorem dX3_hindrance_56 : decode cX3_hindrance 56 = .ok (.iload_n 1, 1) := by decide +kernel
theorem dX3_hindrance_57 : decode cX3_hindrance 57 = .ok (.iaload, 1) := by decide +kernel
theorem dX3_hindrance_58 : decode cX3_hindrance 58 = .ok (.if_icmp .ge 5, 3) := by decide +kernel
theorem dX3_hindrance_61 : decode cX3_hindrance 61 = .ok (.iconst 3, 1) := by decide +kernel
theorem dX3_hindrance_62 : decode cX3_hindrance 62 = .ok (.ireturn, 1) := by decide +kernel
theorem dX3_hindrance_63 : decode cX3_hindrance 63 = .ok (.aload_n 0, 1) := by decide +kernel
theorem dX3_hindrance_64 : decode cX3_hindrance 64 = .ok (.iload_n 2, 1) := by decide +kernel
theorem dX3_hindrance_65 : decode cX3_hindrance 65 = .ok (.iload_n 1, 1) := by decide +kernel
theorem dX3_hindrance_66 : decode cX3_hindrance 66 = .ok (.invokevirtual 179, 3) := by decide +kernel
theorem dX3_hindrance_69 : decode cX3_hindrance 69 = .ok (.aload_n 0, 1) := by decide +kernel
theorem dX3_hindrance_70 : decode cX3_hindrance 70 = .ok (.getfield 21, 3) := by decide +kernel
theorem dX3_hindrance_73 : decode cX3_hindrance 73 = .ok (.getfield 153, 3) := by decide +kernel
theorem dX3_hindrance_76 : decode cX3_hindrance 76 = .ok (.iload_n 1, 1) := by decide +kernel
theorem dX3_hindrance_77 : decode cX3_hindrance 77 = .ok (.iaload, 1) := by decide +kernel
theorem dX3_hindrance_78 : decode cX3_hindrance 78 = .ok (.iadd, 1) := by decide +kernel
theorem dX3_hindrance_79 : decode cX3_hindrance 79 = .ok (.aload_n 0, 1) := by decide +kernel
theorem dX3_hindrance_80 : decode cX3_hindrance 80 = .ok (.getfield 39, 3) := by decide +kernel
theorem dX3_hindrance_83 : decode cX3_hindrance 83 = .ok (.if_icmp .le 7, 3) := by decide +kernel
theorem dX3_hindrance_86 : decode cX3_hindrance 86 = .ok (.iconst 4, 1) := by decide +kernel
theorem dX3_hindrance_87 : decode cX3_hindrance 87 = .ok (.goto 4, 3) := by decide +kernel
theorem dX3_hindrance_90 : decode cX3_hindrance 90 = .ok (.iconst 0, 1) := by decide +kernel
theorem dX3_hindrance_91 : decode cX3_hindrance 91 = .ok (.ireturn, 1) := by decide +kernel
set_option maxRecDepth 100000 in
theorem ggX3_waitsForAhead_X3_leadsBy : GoodIn wsX3_waitsForAhead wsX3_leadsBy := goodIn_sub (mc (List.mem_of_getElem? (i := 6) rfl) (mem_two (mem_two (mem_two (mc (List.mem_of_getElem? (i := 1) rfl) (mc (List.mem_of_getElem? (i := 7) rfl) (mc (List.mem_of_getElem? (i := 8) rfl) (mc (List.mem_of_getElem? (i := 9) rfl) (mc (List.mem_of_getElem? (i := 10) rfl) (mc (List.mem_of_getElem? (i := 11) rfl) (mc (List.mem_of_getElem? (i := 12) rfl) (mc (List.mem_of_getElem? (i := 13) rfl) (mc (List.mem_of_getElem? (i := 14) rfl) (mc (List.mem_of_getElem? (i := 15) rfl) (mc (List.mem_of_getElem? (i := 16) rfl) (mc (List.mem_of_getElem? (i := 17) rfl) (mc (List.mem_of_getElem? (i := 18) rfl) mn))))))))))))) (fun w h => (List.mem_cons_of_mem _ (List.mem_append_left _ (List.mem_append_left _ (List.mem_append_right _ h)))))) (fun w h => (List.mem_cons_of_mem _ (List.mem_append_left _ (List.mem_append_right _ h))))) (fun w h => (List.mem_cons_of_mem _ (List.mem_append_right _ h))))) (by decide +kernel)
set_option maxRecDepth 100000 in
theorem gX3_waitsForAhead_X3_leadsBy : GoodIn wsX3_waitsForAhead (wsV RX3 215 RX3 yX3_leadsBy wsX3_leadsBy) := goodIn_app (goodIn_sub (mc (List.mem_of_getElem? (i := 2) rfl) (mc (List.mem_of_getElem? (i := 3) rfl) (mc (List.mem_of_getElem? (i := 4) rfl) (mc (List.mem_of_getElem? (i := 5) rfl) mn)))) (by decide +kernel)) ggX3_waitsForAhead_X3_leadsBy
theorem dX3_waitsForAhead_0 : decode cX3_waitsForAhead 0 = .ok (.iconst 0, 1) := by decide +kernel
theorem dX3_waitsForAhead_1 : decode cX3_waitsForAhead 1 = .ok (.istore_n 3, 1) := by decide +kernel
theorem dX3_waitsForAhead_2 : decode cX3_waitsForAhead 2 = .ok (.iload_n 3, 1) := by decide +kernel
theorem dX3_waitsForAhead_3 : decode cX3_waitsForAhead 3 = .ok (.aload_n 0, 1) := by decide +kernel
theorem dX3_waitsForAhead_4 : decode cX3_waitsForAhead 4 = .ok (.getfield 21, 3) := by decide +kernel
theorem dX3_waitsForAhead_7 : decode cX3_waitsForAhead 7 = .ok (.getfield 53, 3) := by decide +kernel
theorem dX3_waitsForAhead_10 : decode cX3_waitsForAhead 10 = .ok (.if_icmp .ge 36, 3) := by decide +kernel
theorem dX3_waitsForAhead_13 : decode cX3_waitsForAhead 13 = .ok (.aload_n 0, 1) := by decide +kernel
theorem dX3_waitsForAhead_14 : decode cX3_waitsForAhead 14 = .ok (.getfield 21, 3) := by decide +kernel
theorem dX3_waitsForAhead_17 : decode cX3_waitsForAhead 17 = .ok (.getfield 72, 3) := by decide +kernel
theorem dX3_waitsForAhead_20 : decode cX3_waitsForAhead 20 = .ok (.iload_n 3, 1) := by decide +kernel
theorem dX3_waitsForAhead_21 : decode cX3_waitsForAhead 21 = .ok (.aaload, 1) := by decide +kernel
theorem dX3_waitsForAhead_22 : decode cX3_waitsForAhead 22 = .ok (.iload_n 1, 1) := by decide +kernel
theorem dX3_waitsForAhead_23 : decode cX3_waitsForAhead 23 = .ok (.iaload, 1) := by decide +kernel
theorem dX3_waitsForAhead_24 : decode cX3_waitsForAhead 24 = .ok (.iconst (-1), 1) := by decide +kernel
theorem dX3_waitsForAhead_25 : decode cX3_waitsForAhead 25 = .ok (.if_icmp .eq 15, 3) := by decide +kernel
theorem dX3_waitsForAhead_28 : decode cX3_waitsForAhead 28 = .ok (.aload_n 0, 1) := by decide +kernel
theorem dX3_waitsForAhead_29 : decode cX3_waitsForAhead 29 = .ok (.iload_n 3, 1) := by decide +kernel
theorem dX3_waitsForAhead_30 : decode cX3_waitsForAhead 30 = .ok (.iload_n 1, 1) := by decide +kernel
theorem dX3_waitsForAhead_31 : decode cX3_waitsForAhead 31 = .ok (.iload_n 2, 1) := by decide +kernel
theorem dX3_waitsForAhead_32 : decode cX3_waitsForAhead 32 = .ok (.invokevirtual 215, 3) := by decide +kernel
theorem dX3_waitsForAhead_35 : decode cX3_waitsForAhead 35 = .ok (.ifCond .ne 5, 3) := by decide +kernel
theorem dX3_waitsForAhead_38 : decode cX3_waitsForAhead 38 = .ok (.iconst 1, 1) := by decide +kernel
theorem dX3_waitsForAhead_39 : decode cX3_waitsForAhead 39 = .ok (.ireturn, 1) := by decide +kernel
theorem dX3_waitsForAhead_40 : decode cX3_waitsForAhead 40 = .ok (.iinc 3 1, 3) := by decide +kernel
theorem dX3_waitsForAhead_43 : decode cX3_waitsForAhead 43 = .ok (.goto (-41), 3) := by decide +kernel
theorem dX3_waitsForAhead_46 : decode cX3_waitsForAhead 46 = .ok (.iconst 0, 1) := by decide +kernel
theorem dX3_waitsForAhead_47 : decode cX3_waitsForAhead 47 = .ok (.ireturn, 1) := by decide +kernel
set_option maxRecDepth 100000 in
theorem ggX3_leadsBy_X1_standsOn : GoodIn wsX3_leadsBy wsX1_standsOn := goodIn_sub (mc (List.mem_of_getElem? (i := 6) rfl) (mem_two (mc (List.mem_of_getElem? (i := 7) rfl) mn) (fun w h => (List.mem_cons_of_mem _ (List.mem_append_left _ (List.mem_append_right _ h)))))) (by decide +kernel)
set_option maxRecDepth 20000 in
theorem gX3_leadsBy_X1_standsOn_n184 : GoodIn wsX3_leadsBy (wsX1_standsOn) := ggX3_leadsBy_X1_standsOn
set_option maxRecDepth 100000 in
theorem ggX3_leadsBy_X2_placeOf : GoodIn wsX3_leadsBy wsX2_placeOf := goodIn_sub (mc (List.mem_of_getElem? (i := 11) rfl) (mem_two (mc (List.mem_of_getElem? (i := 12) rfl) (mc (List.mem_of_getElem? (i := 13) rfl) mn)) (fun w h => (List.mem_cons_of_mem _ (List.mem_append_right _ h))))) (by decide +kernel)
set_option maxRecDepth 20000 in
theorem gX3_leadsBy_X2_placeOf_n113 : GoodIn wsX3_leadsBy (wsX2_placeOf) := ggX3_leadsBy_X2_placeOf
theorem dX3_leadsBy_0 : decode cX3_leadsBy 0 = .ok (.aload_n 0, 1) := by decide +kernel
theorem dX3_leadsBy_1 : decode cX3_leadsBy 1 = .ok (.getfield 21, 3) := by decide +kernel
theorem dX3_leadsBy_4 : decode cX3_leadsBy 4 = .ok (.getfield 72, 3) := by decide +kernel
theorem dX3_leadsBy_7 : decode cX3_leadsBy 7 = .ok (.iload_n 1, 1) := by decide +kernel
theorem dX3_leadsBy_8 : decode cX3_leadsBy 8 = .ok (.aaload, 1) := by decide +kernel
theorem dX3_leadsBy_9 : decode cX3_leadsBy 9 = .ok (.iload_n 2, 1) := by decide +kernel
theorem dX3_leadsBy_10 : decode cX3_leadsBy 10 = .ok (.iaload, 1) := by decide +kernel
theorem dX3_leadsBy_11 : decode cX3_leadsBy 11 = .ok (.istore 4, 2) := by decide +kernel
theorem dX3_leadsBy_13 : decode cX3_leadsBy 13 = .ok (.aload_n 0, 1) := by decide +kernel
theorem dX3_leadsBy_14 : decode cX3_leadsBy 14 = .ok (.getfield 21, 3) := by decide +kernel
theorem dX3_leadsBy_17 : decode cX3_leadsBy 17 = .ok (.iload_n 1, 1) := by decide +kernel
theorem dX3_leadsBy_18 : decode cX3_leadsBy 18 = .ok (.iload_n 3, 1) := by decide +kernel
theorem dX3_leadsBy_19 : decode cX3_leadsBy 19 = .ok (.invokevirtual 184, 3) := by decide +kernel
theorem dX3_leadsBy_22 : decode cX3_leadsBy 22 = .ok (.ifCond .ne 5, 3) := by decide +kernel
theorem dX3_leadsBy_25 : decode cX3_leadsBy 25 = .ok (.iconst 0, 1) := by decide +kernel
theorem dX3_leadsBy_26 : decode cX3_leadsBy 26 = .ok (.ireturn, 1) := by decide +kernel
theorem dX3_leadsBy_27 : decode cX3_leadsBy 27 = .ok (.iload 4, 2) := by decide +kernel
theorem dX3_leadsBy_29 : decode cX3_leadsBy 29 = .ok (.ifCond .ne 41, 3) := by decide +kernel
theorem dX3_leadsBy_32 : decode cX3_leadsBy 32 = .ok (.aload_n 0, 1) := by decide +kernel
theorem dX3_leadsBy_33 : decode cX3_leadsBy 33 = .ok (.getfield 21, 3) := by decide +kernel
theorem dX3_leadsBy_36 : decode cX3_leadsBy 36 = .ok (.getfield 162, 3) := by decide +kernel
theorem dX3_leadsBy_39 : decode cX3_leadsBy 39 = .ok (.iload_n 1, 1) := by decide +kernel
theorem dX3_leadsBy_40 : decode cX3_leadsBy 40 = .ok (.iaload, 1) := by decide +kernel
theorem dX3_leadsBy_41 : decode cX3_leadsBy 41 = .ok (.iload_n 3, 1) := by decide +kernel
theorem dX3_leadsBy_42 : decode cX3_leadsBy 42 = .ok (.if_icmp .ne 28, 3) := by decide +kernel
theorem dX3_leadsBy_45 : decode cX3_leadsBy 45 = .ok (.aload_n 0, 1) := by decide +kernel
theorem dX3_leadsBy_46 : decode cX3_leadsBy 46 = .ok (.getfield 28, 3) := by decide +kernel
theorem dX3_leadsBy_49 : decode cX3_leadsBy 49 = .ok (.iload_n 1, 1) := by decide +kernel
theorem dX3_leadsBy_50 : decode cX3_leadsBy 50 = .ok (.invokevirtual 113, 3) := by decide +kernel
theorem dX3_leadsBy_53 : decode cX3_leadsBy 53 = .ok (.aload_n 0, 1) := by decide +kernel
theorem dX3_leadsBy_54 : decode cX3_leadsBy 54 = .ok (.getfield 28, 3) := by decide +kernel
theorem dX3_leadsBy_57 : decode cX3_leadsBy 57 = .ok (.iload_n 2, 1) := by decide +kernel
theorem dX3_leadsBy_58 : decode cX3_leadsBy 58 = .ok (.invokevirtual 113, 3) := by decide +kernel
theorem dX3_leadsBy_61 : decode cX3_leadsBy 61 = .ok (.if_icmp .ge 7, 3) := by decide +kernel
theorem dX3_leadsBy_64 : decode cX3_leadsBy 64 = .ok (.iconst 1, 1) := by decide +kernel
theorem dX3_leadsBy_65 : decode cX3_leadsBy 65 = .ok (.goto 4, 3) := by decide +kernel
theorem dX3_leadsBy_68 : decode cX3_leadsBy 68 = .ok (.iconst 0, 1) := by decide +kernel
theorem dX3_leadsBy_69 : decode cX3_leadsBy 69 = .ok (.ireturn, 1) := by decide +kernel
theorem dX3_leadsBy_70 : decode cX3_leadsBy 70 = .ok (.aload_n 0, 1) := by decide +kernel
theorem dX3_leadsBy_71 : decode cX3_leadsBy 71 = .ok (.getfield 21, 3) := by decide +kernel
theorem dX3_leadsBy_74 : decode cX3_leadsBy 74 = .ok (.getfield 162, 3) := by decide +kernel
theorem dX3_leadsBy_77 : decode cX3_leadsBy 77 = .ok (.iload_n 1, 1) := by decide +kernel
theorem dX3_leadsBy_78 : decode cX3_leadsBy 78 = .ok (.iaload, 1) := by decide +kernel
theorem dX3_leadsBy_79 : decode cX3_leadsBy 79 = .ok (.iload 4, 2) := by decide +kernel
theorem dX3_leadsBy_81 : decode cX3_leadsBy 81 = .ok (.iadd, 1) := by decide +kernel
theorem dX3_leadsBy_82 : decode cX3_leadsBy 82 = .ok (.iload_n 3, 1) := by decide +kernel
theorem dX3_leadsBy_83 : decode cX3_leadsBy 83 = .ok (.if_icmp .gt 7, 3) := by decide +kernel
theorem dX3_leadsBy_86 : decode cX3_leadsBy 86 = .ok (.iconst 1, 1) := by decide +kernel
theorem dX3_leadsBy_87 : decode cX3_leadsBy 87 = .ok (.goto 4, 3) := by decide +kernel
theorem dX3_leadsBy_90 : decode cX3_leadsBy 90 = .ok (.iconst 0, 1) := by decide +kernel
theorem dX3_leadsBy_91 : decode cX3_leadsBy 91 = .ok (.ireturn, 1) := by decide +kernel
set_option maxRecDepth 100000 in
theorem ggX3_waitsToStand_X1_carries : GoodIn wsX3_waitsToStand wsX1_carries := goodIn_sub (mc (List.mem_of_getElem? (i := 6) rfl) (mem_two (mc (List.mem_of_getElem? (i := 7) rfl) (mc (List.mem_of_getElem? (i := 8) rfl) mn)) (fun w h => (List.mem_cons_of_mem _ (List.mem_append_left _ (List.mem_append_right _ h)))))) (by decide +kernel)
set_option maxRecDepth 20000 in
theorem gX3_waitsToStand_X1_carries_n218 : GoodIn wsX3_waitsToStand (wsX1_carries) := ggX3_waitsToStand_X1_carries
set_option maxRecDepth 100000 in
theorem ggX3_waitsToStand_X0_hardnessOn : GoodIn wsX3_waitsToStand wsX0_hardnessOn := goodIn_sub (mc (List.mem_of_getElem? (i := 12) rfl) (mem_two (mc (List.mem_of_getElem? (i := 13) rfl) (mc (List.mem_of_getElem? (i := 14) rfl) (mc (List.mem_of_getElem? (i := 15) rfl) (mc (List.mem_of_getElem? (i := 16) rfl) (mc (List.mem_of_getElem? (i := 10) rfl) (mc (List.mem_of_getElem? (i := 17) rfl) (mc (List.mem_of_getElem? (i := 18) rfl) (mc (List.mem_of_getElem? (i := 19) rfl) (mc (List.mem_of_getElem? (i := 20) rfl) mn))))))))) (fun w h => (List.mem_cons_of_mem _ (List.mem_append_right _ h))))) (by decide +kernel)
set_option maxRecDepth 20000 in
theorem gX3_waitsToStand_X0_hardnessOn_n168 : GoodIn wsX3_waitsToStand (wsX0_hardnessOn) := ggX3_waitsToStand_X0_hardnessOn
theorem dX3_waitsToStand_0 : decode cX3_waitsToStand 0 = .ok (.iconst 0, 1) := by decide +kernel
theorem dX3_waitsToStand_1 : decode cX3_waitsToStand 1 = .ok (.istore_n 3, 1) := by decide +kernel
theorem dX3_waitsToStand_2 : decode cX3_waitsToStand 2 = .ok (.iload_n 3, 1) := by decide +kernel
theorem dX3_waitsToStand_3 : decode cX3_waitsToStand 3 = .ok (.aload_n 0, 1) := by decide +kernel
theorem dX3_waitsToStand_4 : decode cX3_waitsToStand 4 = .ok (.getfield 21, 3) := by decide +kernel
theorem dX3_waitsToStand_7 : decode cX3_waitsToStand 7 = .ok (.getfield 53, 3) := by decide +kernel
theorem dX3_waitsToStand_10 : decode cX3_waitsToStand 10 = .ok (.if_icmp .ge 52, 3) := by decide +kernel
theorem dX3_waitsToStand_13 : decode cX3_waitsToStand 13 = .ok (.aload_n 0, 1) := by decide +kernel
theorem dX3_waitsToStand_14 : decode cX3_waitsToStand 14 = .ok (.getfield 21, 3) := by decide +kernel
theorem dX3_waitsToStand_17 : decode cX3_waitsToStand 17 = .ok (.iload_n 3, 1) := by decide +kernel
theorem dX3_waitsToStand_18 : decode cX3_waitsToStand 18 = .ok (.iload_n 1, 1) := by decide +kernel
theorem dX3_waitsToStand_19 : decode cX3_waitsToStand 19 = .ok (.invokevirtual 218, 3) := by decide +kernel
theorem dX3_waitsToStand_22 : decode cX3_waitsToStand 22 = .ok (.ifCond .eq 34, 3) := by decide +kernel
theorem dX3_waitsToStand_25 : decode cX3_waitsToStand 25 = .ok (.aload_n 0, 1) := by decide +kernel
theorem dX3_waitsToStand_26 : decode cX3_waitsToStand 26 = .ok (.getfield 14, 3) := by decide +kernel
theorem dX3_waitsToStand_29 : decode cX3_waitsToStand 29 = .ok (.aload_n 0, 1) := by decide +kernel
theorem dX3_waitsToStand_30 : decode cX3_waitsToStand 30 = .ok (.getfield 21, 3) := by decide +kernel
theorem dX3_waitsToStand_33 : decode cX3_waitsToStand 33 = .ok (.getfield 162, 3) := by decide +kernel
theorem dX3_waitsToStand_36 : decode cX3_waitsToStand 36 = .ok (.iload_n 3, 1) := by decide +kernel
theorem dX3_waitsToStand_37 : decode cX3_waitsToStand 37 = .ok (.iaload, 1) := by decide +kernel
theorem dX3_waitsToStand_38 : decode cX3_waitsToStand 38 = .ok (.iload_n 2, 1) := by decide +kernel
theorem dX3_waitsToStand_39 : decode cX3_waitsToStand 39 = .ok (.invokevirtual 168, 3) := by decide +kernel
theorem dX3_waitsToStand_42 : decode cX3_waitsToStand 42 = .ok (.aload_n 0, 1) := by decide +kernel
theorem dX3_waitsToStand_43 : decode cX3_waitsToStand 43 = .ok (.getfield 14, 3) := by decide +kernel
theorem dX3_waitsToStand_46 : decode cX3_waitsToStand 46 = .ok (.getfield 76, 3) := by decide +kernel
theorem dX3_waitsToStand_49 : decode cX3_waitsToStand 49 = .ok (.iconst 1, 1) := by decide +kernel
theorem dX3_waitsToStand_50 : decode cX3_waitsToStand 50 = .ok (.iaload, 1) := by decide +kernel
theorem dX3_waitsToStand_51 : decode cX3_waitsToStand 51 = .ok (.if_icmp .ge 5, 3) := by decide +kernel
theorem dX3_waitsToStand_54 : decode cX3_waitsToStand 54 = .ok (.iconst 1, 1) := by decide +kernel
theorem dX3_waitsToStand_55 : decode cX3_waitsToStand 55 = .ok (.ireturn, 1) := by decide +kernel
theorem dX3_waitsToStand_56 : decode cX3_waitsToStand 56 = .ok (.iinc 3 1, 3) := by decide +kernel
theorem dX3_waitsToStand_59 : decode cX3_waitsToStand 59 = .ok (.goto (-57), 3) := by decide +kernel
theorem dX3_waitsToStand_62 : decode cX3_waitsToStand 62 = .ok (.iconst 0, 1) := by decide +kernel
theorem dX3_waitsToStand_63 : decode cX3_waitsToStand 63 = .ok (.ireturn, 1) := by decide +kernel
set_option maxRecDepth 100000 in
theorem ggX3_formsLeft_X3_isHeldOn : GoodIn wsX3_formsLeft wsX3_isHeldOn := goodIn_sub (mc (List.mem_of_getElem? (i := 7) rfl) (mem_two (mem_two (mem_two (mc (List.mem_of_getElem? (i := 2) rfl) (mc (List.mem_of_getElem? (i := 8) rfl) (mc (List.mem_of_getElem? (i := 9) rfl) (mc (List.mem_of_getElem? (i := 10) rfl) (mc (List.mem_of_getElem? (i := 11) rfl) (mc (List.mem_of_getElem? (i := 12) rfl) (mc (List.mem_of_getElem? (i := 13) rfl) (mc (List.mem_of_getElem? (i := 14) rfl) (mc (List.mem_of_getElem? (i := 15) rfl) (mc (List.mem_of_getElem? (i := 16) rfl) (mc (List.mem_of_getElem? (i := 17) rfl) (mc (List.mem_of_getElem? (i := 18) rfl) mn)))))))))))) (fun w h => (List.mem_cons_of_mem _ (List.mem_append_left _ (List.mem_append_left _ (List.mem_append_right _ h)))))) (fun w h => (List.mem_cons_of_mem _ (List.mem_append_left _ (List.mem_append_right _ h))))) (fun w h => (List.mem_cons_of_mem _ (List.mem_append_right _ h))))) (by decide +kernel)
set_option maxRecDepth 100000 in
theorem gX3_formsLeft_X3_isHeldOn : GoodIn wsX3_formsLeft (wsV RX3 221 RX3 yX3_isHeldOn wsX3_isHeldOn) := goodIn_app (goodIn_sub (mc (List.mem_of_getElem? (i := 3) rfl) (mc (List.mem_of_getElem? (i := 4) rfl) (mc (List.mem_of_getElem? (i := 5) rfl) (mc (List.mem_of_getElem? (i := 6) rfl) mn)))) (by decide +kernel)) ggX3_formsLeft_X3_isHeldOn
theorem dX3_formsLeft_0 : decode cX3_formsLeft 0 = .ok (.aload_n 0, 1) := by decide +kernel
theorem dX3_formsLeft_1 : decode cX3_formsLeft 1 = .ok (.getfield 32, 3) := by decide +kernel
theorem dX3_formsLeft_4 : decode cX3_formsLeft 4 = .ok (.iload_n 1, 1) := by decide +kernel
theorem dX3_formsLeft_5 : decode cX3_formsLeft 5 = .ok (.iaload, 1) := by decide +kernel
theorem dX3_formsLeft_6 : decode cX3_formsLeft 6 = .ok (.istore 4, 2) := by decide +kernel
theorem dX3_formsLeft_8 : decode cX3_formsLeft 8 = .ok (.iconst 0, 1) := by decide +kernel
theorem dX3_formsLeft_9 : decode cX3_formsLeft 9 = .ok (.istore 5, 2) := by decide +kernel
theorem dX3_formsLeft_11 : decode cX3_formsLeft 11 = .ok (.iload 5, 2) := by decide +kernel
theorem dX3_formsLeft_13 : decode cX3_formsLeft 13 = .ok (.aload_n 0, 1) := by decide +kernel
theorem dX3_formsLeft_14 : decode cX3_formsLeft 14 = .ok (.getfield 21, 3) := by decide +kernel
theorem dX3_formsLeft_17 : decode cX3_formsLeft 17 = .ok (.getfield 53, 3) := by decide +kernel
theorem dX3_formsLeft_20 : decode cX3_formsLeft 20 = .ok (.if_icmp .ge 54, 3) := by decide +kernel
theorem dX3_formsLeft_23 : decode cX3_formsLeft 23 = .ok (.iload 5, 2) := by decide +kernel
theorem dX3_formsLeft_25 : decode cX3_formsLeft 25 = .ok (.iload_n 3, 1) := by decide +kernel
theorem dX3_formsLeft_26 : decode cX3_formsLeft 26 = .ok (.if_icmp .eq 42, 3) := by decide +kernel
theorem dX3_formsLeft_29 : decode cX3_formsLeft 29 = .ok (.aload_n 0, 1) := by decide +kernel
theorem dX3_formsLeft_30 : decode cX3_formsLeft 30 = .ok (.getfield 21, 3) := by decide +kernel
theorem dX3_formsLeft_33 : decode cX3_formsLeft 33 = .ok (.getfield 156, 3) := by decide +kernel
theorem dX3_formsLeft_36 : decode cX3_formsLeft 36 = .ok (.iload 5, 2) := by decide +kernel
theorem dX3_formsLeft_38 : decode cX3_formsLeft 38 = .ok (.iaload, 1) := by decide +kernel
theorem dX3_formsLeft_39 : decode cX3_formsLeft 39 = .ok (.iload_n 1, 1) := by decide +kernel
theorem dX3_formsLeft_40 : decode cX3_formsLeft 40 = .ok (.if_icmp .ne 28, 3) := by decide +kernel
theorem dX3_formsLeft_43 : decode cX3_formsLeft 43 = .ok (.aload_n 0, 1) := by decide +kernel
theorem dX3_formsLeft_44 : decode cX3_formsLeft 44 = .ok (.iload 5, 2) := by decide +kernel
theorem dX3_formsLeft_46 : decode cX3_formsLeft 46 = .ok (.iload_n 2, 1) := by decide +kernel
theorem dX3_formsLeft_47 : decode cX3_formsLeft 47 = .ok (.invokevirtual 221, 3) := by decide +kernel
theorem dX3_formsLeft_50 : decode cX3_formsLeft 50 = .ok (.ifCond .eq 18, 3) := by decide +kernel
theorem dX3_formsLeft_53 : decode cX3_formsLeft 53 = .ok (.iload 4, 2) := by decide +kernel
theorem dX3_formsLeft_55 : decode cX3_formsLeft 55 = .ok (.aload_n 0, 1) := by decide +kernel
theorem dX3_formsLeft_56 : decode cX3_formsLeft 56 = .ok (.getfield 21, 3) := by decide +kernel
theorem dX3_formsLeft_59 : decode cX3_formsLeft 59 = .ok (.getfield 159, 3) := by decide +kernel
theorem dX3_formsLeft_62 : decode cX3_formsLeft 62 = .ok (.iload 5, 2) := by decide +kernel
theorem dX3_formsLeft_64 : decode cX3_formsLeft 64 = .ok (.iaload, 1) := by decide +kernel
theorem dX3_formsLeft_65 : decode cX3_formsLeft 65 = .ok (.isub, 1) := by decide +kernel
theorem dX3_formsLeft_66 : decode cX3_formsLeft 66 = .ok (.istore 4, 2) := by decide +kernel
theorem dX3_formsLeft_68 : decode cX3_formsLeft 68 = .ok (.iinc 5 1, 3) := by decide +kernel
theorem dX3_formsLeft_71 : decode cX3_formsLeft 71 = .ok (.goto (-60), 3) := by decide +kernel
theorem dX3_formsLeft_74 : decode cX3_formsLeft 74 = .ok (.iload 4, 2) := by decide +kernel
theorem dX3_formsLeft_76 : decode cX3_formsLeft 76 = .ok (.ireturn, 1) := by decide +kernel
theorem dX3_volumeOn_0 : decode cX3_volumeOn 0 = .ok (.iconst 0, 1) := by decide +kernel
theorem dX3_volumeOn_1 : decode cX3_volumeOn 1 = .ok (.istore_n 3, 1) := by decide +kernel
theorem dX3_volumeOn_2 : decode cX3_volumeOn 2 = .ok (.iconst 0, 1) := by decide +kernel
theorem dX3_volumeOn_3 : decode cX3_volumeOn 3 = .ok (.istore 4, 2) := by decide +kernel
theorem dX3_volumeOn_5 : decode cX3_volumeOn 5 = .ok (.iload 4, 2) := by decide +kernel
theorem dX3_volumeOn_7 : decode cX3_volumeOn 7 = .ok (.aload_n 0, 1) := by decide +kernel
theorem dX3_volumeOn_8 : decode cX3_volumeOn 8 = .ok (.getfield 21, 3) := by decide +kernel
theorem dX3_volumeOn_11 : decode cX3_volumeOn 11 = .ok (.getfield 53, 3) := by decide +kernel
theorem dX3_volumeOn_14 : decode cX3_volumeOn 14 = .ok (.if_icmp .ge 42, 3) := by decide +kernel
theorem dX3_volumeOn_17 : decode cX3_volumeOn 17 = .ok (.iload 4, 2) := by decide +kernel
theorem dX3_volumeOn_19 : decode cX3_volumeOn 19 = .ok (.iload_n 2, 1) := by decide +kernel
theorem dX3_volumeOn_20 : decode cX3_volumeOn 20 = .ok (.if_icmp .eq 30, 3) := by decide +kernel
theorem dX3_volumeOn_23 : decode cX3_volumeOn 23 = .ok (.aload_n 0, 1) := by decide +kernel
theorem dX3_volumeOn_24 : decode cX3_volumeOn 24 = .ok (.getfield 21, 3) := by decide +kernel
theorem dX3_volumeOn_27 : decode cX3_volumeOn 27 = .ok (.getfield 162, 3) := by decide +kernel
theorem dX3_volumeOn_30 : decode cX3_volumeOn 30 = .ok (.iload 4, 2) := by decide +kernel
theorem dX3_volumeOn_32 : decode cX3_volumeOn 32 = .ok (.iaload, 1) := by decide +kernel
theorem dX3_volumeOn_33 : decode cX3_volumeOn 33 = .ok (.iload_n 1, 1) := by decide +kernel
theorem dX3_volumeOn_34 : decode cX3_volumeOn 34 = .ok (.if_icmp .ne 16, 3) := by decide +kernel
theorem dX3_volumeOn_37 : decode cX3_volumeOn 37 = .ok (.iload_n 3, 1) := by decide +kernel
theorem dX3_volumeOn_38 : decode cX3_volumeOn 38 = .ok (.aload_n 0, 1) := by decide +kernel
theorem dX3_volumeOn_39 : decode cX3_volumeOn 39 = .ok (.getfield 21, 3) := by decide +kernel
theorem dX3_volumeOn_42 : decode cX3_volumeOn 42 = .ok (.getfield 153, 3) := by decide +kernel
theorem dX3_volumeOn_45 : decode cX3_volumeOn 45 = .ok (.iload 4, 2) := by decide +kernel
theorem dX3_volumeOn_47 : decode cX3_volumeOn 47 = .ok (.iaload, 1) := by decide +kernel
theorem dX3_volumeOn_48 : decode cX3_volumeOn 48 = .ok (.iadd, 1) := by decide +kernel
theorem dX3_volumeOn_49 : decode cX3_volumeOn 49 = .ok (.istore_n 3, 1) := by decide +kernel
theorem dX3_volumeOn_50 : decode cX3_volumeOn 50 = .ok (.iinc 4 1, 3) := by decide +kernel
theorem dX3_volumeOn_53 : decode cX3_volumeOn 53 = .ok (.goto (-48), 3) := by decide +kernel
theorem dX3_volumeOn_56 : decode cX3_volumeOn 56 = .ok (.iload_n 3, 1) := by decide +kernel
theorem dX3_volumeOn_57 : decode cX3_volumeOn 57 = .ok (.ireturn, 1) := by decide +kernel
set_option maxRecDepth 100000 in
theorem ggX3_isHeldOn_X1_standsOn : GoodIn wsX3_isHeldOn wsX1_standsOn := goodIn_sub (mc (List.mem_of_getElem? (i := 6) rfl) (mem_two (mc (List.mem_of_getElem? (i := 7) rfl) mn) (fun w h => (List.mem_cons_of_mem _ (List.mem_append_left _ (List.mem_append_right _ h)))))) (by decide +kernel)
set_option maxRecDepth 20000 in
theorem gX3_isHeldOn_X1_standsOn_n184 : GoodIn wsX3_isHeldOn (wsX1_standsOn) := ggX3_isHeldOn_X1_standsOn
set_option maxRecDepth 100000 in
theorem ggX3_isHeldOn_X0_stripDayFor : GoodIn wsX3_isHeldOn wsX0_stripDayFor := goodIn_sub (mc (List.mem_of_getElem? (i := 11) rfl) (mem_two (mc (List.mem_of_getElem? (i := 12) rfl) mn) (fun w h => (List.mem_cons_of_mem _ (List.mem_append_right _ h))))) (by decide +kernel)
set_option maxRecDepth 20000 in
theorem gX3_isHeldOn_X0_stripDayFor_n165 : GoodIn wsX3_isHeldOn (wsX0_stripDayFor) := ggX3_isHeldOn_X0_stripDayFor
theorem dX3_isHeldOn_0 : decode cX3_isHeldOn 0 = .ok (.aload_n 0, 1) := by decide +kernel
theorem dX3_isHeldOn_1 : decode cX3_isHeldOn 1 = .ok (.getfield 21, 3) := by decide +kernel
theorem dX3_isHeldOn_4 : decode cX3_isHeldOn 4 = .ok (.iload_n 1, 1) := by decide +kernel
theorem dX3_isHeldOn_5 : decode cX3_isHeldOn 5 = .ok (.iload_n 2, 1) := by decide +kernel
theorem dX3_isHeldOn_6 : decode cX3_isHeldOn 6 = .ok (.invokevirtual 184, 3) := by decide +kernel
theorem dX3_isHeldOn_9 : decode cX3_isHeldOn 9 = .ok (.ifCond .eq 27, 3) := by decide +kernel
theorem dX3_isHeldOn_12 : decode cX3_isHeldOn 12 = .ok (.iload_n 2, 1) := by decide +kernel
theorem dX3_isHeldOn_13 : decode cX3_isHeldOn 13 = .ok (.aload_n 0, 1) := by decide +kernel
theorem dX3_isHeldOn_14 : decode cX3_isHeldOn 14 = .ok (.getfield 14, 3) := by decide +kernel
theorem dX3_isHeldOn_17 : decode cX3_isHeldOn 17 = .ok (.aload_n 0, 1) := by decide +kernel
theorem dX3_isHeldOn_18 : decode cX3_isHeldOn 18 = .ok (.getfield 21, 3) := by decide +kernel
theorem dX3_isHeldOn_21 : decode cX3_isHeldOn 21 = .ok (.getfield 162, 3) := by decide +kernel
theorem dX3_isHeldOn_24 : decode cX3_isHeldOn 24 = .ok (.iload_n 1, 1) := by decide +kernel
theorem dX3_isHeldOn_25 : decode cX3_isHeldOn 25 = .ok (.iaload, 1) := by decide +kernel
theorem dX3_isHeldOn_26 : decode cX3_isHeldOn 26 = .ok (.invokevirtual 165, 3) := by decide +kernel
theorem dX3_isHeldOn_29 : decode cX3_isHeldOn 29 = .ok (.if_icmp .ge 7, 3) := by decide +kernel
theorem dX3_isHeldOn_32 : decode cX3_isHeldOn 32 = .ok (.iconst 1, 1) := by decide +kernel
theorem dX3_isHeldOn_33 : decode cX3_isHeldOn 33 = .ok (.goto 4, 3) := by decide +kernel
theorem dX3_isHeldOn_36 : decode cX3_isHeldOn 36 = .ok (.iconst 0, 1) := by decide +kernel
theorem dX3_isHeldOn_37 : decode cX3_isHeldOn 37 = .ok (.ireturn, 1) := by decide +kernel
set_option maxRecDepth 100000 in
theorem ggX3_hardnessBelow_X3_isIn : GoodIn wsX3_hardnessBelow wsX3_isIn := goodIn_sub (mc (List.mem_of_getElem? (i := 6) rfl) mn) (by decide +kernel)
set_option maxRecDepth 20000 in
theorem gX3_hardnessBelow_X3_isIn : GoodIn wsX3_hardnessBelow (va_wsS RX3 49 yX3_isIn wsX3_isIn) := goodIn_app (goodIn_of _ (by decide +kernel)) ggX3_hardnessBelow_X3_isIn
set_option maxRecDepth 100000 in
theorem ggX3_hardnessBelow_X1_standsOn : GoodIn wsX3_hardnessBelow wsX1_standsOn := goodIn_sub (mc (List.mem_of_getElem? (i := 10) rfl) (mem_two (mc (List.mem_of_getElem? (i := 11) rfl) mn) (fun w h => (List.mem_cons_of_mem _ (List.mem_append_left _ (List.mem_append_right _ h)))))) (by decide +kernel)
set_option maxRecDepth 20000 in
theorem gX3_hardnessBelow_X1_standsOn_n184 : GoodIn wsX3_hardnessBelow (wsX1_standsOn) := ggX3_hardnessBelow_X1_standsOn
set_option maxRecDepth 100000 in
theorem ggX3_hardnessBelow_X0_hardnessOn : GoodIn wsX3_hardnessBelow wsX0_hardnessOn := goodIn_sub (mc (List.mem_of_getElem? (i := 15) rfl) (mem_two (mc (List.mem_of_getElem? (i := 16) rfl) (mc (List.mem_of_getElem? (i := 17) rfl) (mc (List.mem_of_getElem? (i := 18) rfl) (mc (List.mem_of_getElem? (i := 19) rfl) (mc (List.mem_of_getElem? (i := 13) rfl) (mc (List.mem_of_getElem? (i := 20) rfl) (mc (List.mem_of_getElem? (i := 21) rfl) (mc (List.mem_of_getElem? (i := 22) rfl) (mc (List.mem_of_getElem? (i := 23) rfl) mn))))))))) (fun w h => (List.mem_cons_of_mem _ (List.mem_append_right _ h))))) (by decide +kernel)
set_option maxRecDepth 20000 in
theorem gX3_hardnessBelow_X0_hardnessOn_n168 : GoodIn wsX3_hardnessBelow (wsX0_hardnessOn) := ggX3_hardnessBelow_X0_hardnessOn
theorem dX3_hardnessBelow_0 : decode cX3_hardnessBelow 0 = .ok (.lconst 0, 1) := by decide +kernel
theorem dX3_hardnessBelow_1 : decode cX3_hardnessBelow 1 = .ok (.lstore_n 3, 1) := by decide +kernel
theorem dX3_hardnessBelow_2 : decode cX3_hardnessBelow 2 = .ok (.iconst 0, 1) := by decide +kernel
theorem dX3_hardnessBelow_3 : decode cX3_hardnessBelow 3 = .ok (.istore 5, 2) := by decide +kernel
theorem dX3_hardnessBelow_5 : decode cX3_hardnessBelow 5 = .ok (.iload 5, 2) := by decide +kernel
theorem dX3_hardnessBelow_7 : decode cX3_hardnessBelow 7 = .ok (.aload_n 0, 1) := by decide +kernel
theorem dX3_hardnessBelow_8 : decode cX3_hardnessBelow 8 = .ok (.getfield 21, 3) := by decide +kernel
theorem dX3_hardnessBelow_11 : decode cX3_hardnessBelow 11 = .ok (.getfield 53, 3) := by decide +kernel
theorem dX3_hardnessBelow_14 : decode cX3_hardnessBelow 14 = .ok (.if_icmp .ge 81, 3) := by decide +kernel
theorem dX3_hardnessBelow_17 : decode cX3_hardnessBelow 17 = .ok (.iload_n 1, 1) := by decide +kernel
theorem dX3_hardnessBelow_18 : decode cX3_hardnessBelow 18 = .ok (.aload_n 0, 1) := by decide +kernel
theorem dX3_hardnessBelow_19 : decode cX3_hardnessBelow 19 = .ok (.getfield 21, 3) := by decide +kernel
theorem dX3_hardnessBelow_22 : decode cX3_hardnessBelow 22 = .ok (.getfield 150, 3) := by decide +kernel
theorem dX3_hardnessBelow_25 : decode cX3_hardnessBelow 25 = .ok (.iload 5, 2) := by decide +kernel
theorem dX3_hardnessBelow_27 : decode cX3_hardnessBelow 27 = .ok (.iaload, 1) := by decide +kernel
theorem dX3_hardnessBelow_28 : decode cX3_hardnessBelow 28 = .ok (.isub, 1) := by decide +kernel
theorem dX3_hardnessBelow_29 : decode cX3_hardnessBelow 29 = .ok (.iconst 1, 1) := by decide +kernel
theorem dX3_hardnessBelow_30 : decode cX3_hardnessBelow 30 = .ok (.iconst 2, 1) := by decide +kernel
theorem dX3_hardnessBelow_31 : decode cX3_hardnessBelow 31 = .ok (.invokestatic 49, 3) := by decide +kernel
theorem dX3_hardnessBelow_34 : decode cX3_hardnessBelow 34 = .ok (.istore 6, 2) := by decide +kernel
theorem dX3_hardnessBelow_36 : decode cX3_hardnessBelow 36 = .ok (.iload 6, 2) := by decide +kernel
theorem dX3_hardnessBelow_38 : decode cX3_hardnessBelow 38 = .ok (.ifCond .eq 51, 3) := by decide +kernel
theorem dX3_hardnessBelow_41 : decode cX3_hardnessBelow 41 = .ok (.aload_n 0, 1) := by decide +kernel
theorem dX3_hardnessBelow_42 : decode cX3_hardnessBelow 42 = .ok (.getfield 21, 3) := by decide +kernel
theorem dX3_hardnessBelow_45 : decode cX3_hardnessBelow 45 = .ok (.getfield 147, 3) := by decide +kernel
theorem dX3_hardnessBelow_48 : decode cX3_hardnessBelow 48 = .ok (.iload 5, 2) := by decide +kernel
theorem dX3_hardnessBelow_50 : decode cX3_hardnessBelow 50 = .ok (.iaload, 1) := by decide +kernel
theorem dX3_hardnessBelow_51 : decode cX3_hardnessBelow 51 = .ok (.ifCond .ne 38, 3) := by decide +kernel
theorem dX3_hardnessBelow_54 : decode cX3_hardnessBelow 54 = .ok (.aload_n 0, 1) := by decide +kernel
theorem dX3_hardnessBelow_55 : decode cX3_hardnessBelow 55 = .ok (.getfield 21, 3) := by decide +kernel
theorem dX3_hardnessBelow_58 : decode cX3_hardnessBelow 58 = .ok (.iload 5, 2) := by decide +kernel
theorem dX3_hardnessBelow_60 : decode cX3_hardnessBelow 60 = .ok (.iload_n 2, 1) := by decide +kernel
theorem dX3_hardnessBelow_61 : decode cX3_hardnessBelow 61 = .ok (.invokevirtual 184, 3) := by decide +kernel
theorem dX3_hardnessBelow_64 : decode cX3_hardnessBelow 64 = .ok (.ifCond .eq 25, 3) := by decide +kernel
theorem dX3_hardnessBelow_67 : decode cX3_hardnessBelow 67 = .ok (.lload_n 3, 1) := by decide +kernel
theorem dX3_hardnessBelow_68 : decode cX3_hardnessBelow 68 = .ok (.aload_n 0, 1) := by decide +kernel
theorem dX3_hardnessBelow_69 : decode cX3_hardnessBelow 69 = .ok (.getfield 14, 3) := by decide +kernel
theorem dX3_hardnessBelow_72 : decode cX3_hardnessBelow 72 = .ok (.aload_n 0, 1) := by decide +kernel
theorem dX3_hardnessBelow_73 : decode cX3_hardnessBelow 73 = .ok (.getfield 21, 3) := by decide +kernel
theorem dX3_hardnessBelow_76 : decode cX3_hardnessBelow 76 = .ok (.getfield 162, 3) := by decide +kernel
theorem dX3_hardnessBelow_79 : decode cX3_hardnessBelow 79 = .ok (.iload 5, 2) := by decide +kernel
theorem dX3_hardnessBelow_81 : decode cX3_hardnessBelow 81 = .ok (.iaload, 1) := by decide +kernel
theorem dX3_hardnessBelow_82 : decode cX3_hardnessBelow 82 = .ok (.iload_n 2, 1) := by decide +kernel
theorem dX3_hardnessBelow_83 : decode cX3_hardnessBelow 83 = .ok (.invokevirtual 168, 3) := by decide +kernel
theorem dX3_hardnessBelow_86 : decode cX3_hardnessBelow 86 = .ok (.i2l, 1) := by decide +kernel
theorem dX3_hardnessBelow_87 : decode cX3_hardnessBelow 87 = .ok (.ladd, 1) := by decide +kernel
theorem dX3_hardnessBelow_88 : decode cX3_hardnessBelow 88 = .ok (.lstore_n 3, 1) := by decide +kernel
theorem dX3_hardnessBelow_89 : decode cX3_hardnessBelow 89 = .ok (.iinc 5 1, 3) := by decide +kernel
theorem dX3_hardnessBelow_92 : decode cX3_hardnessBelow 92 = .ok (.goto (-87), 3) := by decide +kernel
theorem dX3_hardnessBelow_95 : decode cX3_hardnessBelow 95 = .ok (.lload_n 3, 1) := by decide +kernel
theorem dX3_hardnessBelow_96 : decode cX3_hardnessBelow 96 = .ok (.lreturn, 1) := by decide +kernel
set_option maxRecDepth 100000 in
theorem ggX3_loadOf_X3_isHeldOn : GoodIn wsX3_loadOf wsX3_isHeldOn := goodIn_sub (mc (List.mem_of_getElem? (i := 6) rfl) (mem_two (mem_two (mem_two (mc (List.mem_of_getElem? (i := 1) rfl) (mc (List.mem_of_getElem? (i := 7) rfl) (mc (List.mem_of_getElem? (i := 8) rfl) (mc (List.mem_of_getElem? (i := 9) rfl) (mc (List.mem_of_getElem? (i := 10) rfl) (mc (List.mem_of_getElem? (i := 11) rfl) (mc (List.mem_of_getElem? (i := 12) rfl) (mc (List.mem_of_getElem? (i := 13) rfl) (mc (List.mem_of_getElem? (i := 14) rfl) (mc (List.mem_of_getElem? (i := 15) rfl) (mc (List.mem_of_getElem? (i := 16) rfl) (mc (List.mem_of_getElem? (i := 17) rfl) mn)))))))))))) (fun w h => (List.mem_cons_of_mem _ (List.mem_append_left _ (List.mem_append_left _ (List.mem_append_right _ h)))))) (fun w h => (List.mem_cons_of_mem _ (List.mem_append_left _ (List.mem_append_right _ h))))) (fun w h => (List.mem_cons_of_mem _ (List.mem_append_right _ h))))) (by decide +kernel)
set_option maxRecDepth 100000 in
theorem gX3_loadOf_X3_isHeldOn : GoodIn wsX3_loadOf (wsV RX3 221 RX3 yX3_isHeldOn wsX3_isHeldOn) := goodIn_app (goodIn_sub (mc (List.mem_of_getElem? (i := 2) rfl) (mc (List.mem_of_getElem? (i := 3) rfl) (mc (List.mem_of_getElem? (i := 4) rfl) (mc (List.mem_of_getElem? (i := 5) rfl) mn)))) (by decide +kernel)) ggX3_loadOf_X3_isHeldOn
theorem dX3_loadOf_0 : decode cX3_loadOf 0 = .ok (.lconst 0, 1) := by decide +kernel
theorem dX3_loadOf_1 : decode cX3_loadOf 1 = .ok (.lstore_n 3, 1) := by decide +kernel
theorem dX3_loadOf_2 : decode cX3_loadOf 2 = .ok (.iconst 0, 1) := by decide +kernel
theorem dX3_loadOf_3 : decode cX3_loadOf 3 = .ok (.istore 5, 2) := by decide +kernel
theorem dX3_loadOf_5 : decode cX3_loadOf 5 = .ok (.iload 5, 2) := by decide +kernel
theorem dX3_loadOf_7 : decode cX3_loadOf 7 = .ok (.aload_n 0, 1) := by decide +kernel
theorem dX3_loadOf_8 : decode cX3_loadOf 8 = .ok (.getfield 21, 3) := by decide +kernel
theorem dX3_loadOf_11 : decode cX3_loadOf 11 = .ok (.getfield 53, 3) := by decide +kernel
theorem dX3_loadOf_14 : decode cX3_loadOf 14 = .ok (.if_icmp .ge 60, 3) := by decide +kernel
theorem dX3_loadOf_17 : decode cX3_loadOf 17 = .ok (.aload_n 0, 1) := by decide +kernel
theorem dX3_loadOf_18 : decode cX3_loadOf 18 = .ok (.getfield 21, 3) := by decide +kernel
theorem dX3_loadOf_21 : decode cX3_loadOf 21 = .ok (.getfield 150, 3) := by decide +kernel
theorem dX3_loadOf_24 : decode cX3_loadOf 24 = .ok (.iload 5, 2) := by decide +kernel
theorem dX3_loadOf_26 : decode cX3_loadOf 26 = .ok (.iaload, 1) := by decide +kernel
theorem dX3_loadOf_27 : decode cX3_loadOf 27 = .ok (.iload_n 1, 1) := by decide +kernel
theorem dX3_loadOf_28 : decode cX3_loadOf 28 = .ok (.if_icmp .ne 40, 3) := by decide +kernel
theorem dX3_loadOf_31 : decode cX3_loadOf 31 = .ok (.aload_n 0, 1) := by decide +kernel
theorem dX3_loadOf_32 : decode cX3_loadOf 32 = .ok (.getfield 21, 3) := by decide +kernel
theorem dX3_loadOf_35 : decode cX3_loadOf 35 = .ok (.getfield 147, 3) := by decide +kernel
theorem dX3_loadOf_38 : decode cX3_loadOf 38 = .ok (.iload 5, 2) := by decide +kernel
theorem dX3_loadOf_40 : decode cX3_loadOf 40 = .ok (.iaload, 1) := by decide +kernel
theorem dX3_loadOf_41 : decode cX3_loadOf 41 = .ok (.ifCond .ne 27, 3) := by decide +kernel
theorem dX3_loadOf_44 : decode cX3_loadOf 44 = .ok (.aload_n 0, 1) := by decide +kernel
theorem dX3_loadOf_45 : decode cX3_loadOf 45 = .ok (.iload 5, 2) := by decide +kernel
theorem dX3_loadOf_47 : decode cX3_loadOf 47 = .ok (.iload_n 2, 1) := by decide +kernel
theorem dX3_loadOf_48 : decode cX3_loadOf 48 = .ok (.invokevirtual 221, 3) := by decide +kernel
theorem dX3_loadOf_51 : decode cX3_loadOf 51 = .ok (.ifCond .eq 17, 3) := by decide +kernel
theorem dX3_loadOf_54 : decode cX3_loadOf 54 = .ok (.lload_n 3, 1) := by decide +kernel
theorem dX3_loadOf_55 : decode cX3_loadOf 55 = .ok (.aload_n 0, 1) := by decide +kernel
theorem dX3_loadOf_56 : decode cX3_loadOf 56 = .ok (.getfield 21, 3) := by decide +kernel
theorem dX3_loadOf_59 : decode cX3_loadOf 59 = .ok (.getfield 153, 3) := by decide +kernel
theorem dX3_loadOf_62 : decode cX3_loadOf 62 = .ok (.iload 5, 2) := by decide +kernel
theorem dX3_loadOf_64 : decode cX3_loadOf 64 = .ok (.iaload, 1) := by decide +kernel
theorem dX3_loadOf_65 : decode cX3_loadOf 65 = .ok (.i2l, 1) := by decide +kernel
theorem dX3_loadOf_66 : decode cX3_loadOf 66 = .ok (.ladd, 1) := by decide +kernel
theorem dX3_loadOf_67 : decode cX3_loadOf 67 = .ok (.lstore_n 3, 1) := by decide +kernel
theorem dX3_loadOf_68 : decode cX3_loadOf 68 = .ok (.iinc 5 1, 3) := by decide +kernel
theorem dX3_loadOf_71 : decode cX3_loadOf 71 = .ok (.goto (-66), 3) := by decide +kernel
theorem dX3_loadOf_74 : decode cX3_loadOf 74 = .ok (.lload_n 3, 1) := by decide +kernel
theorem dX3_loadOf_75 : decode cX3_loadOf 75 = .ok (.lreturn, 1) := by decide +kernel
theorem dX3_isIn_0 : decode cX3_isIn 0 = .ok (.iload_n 0, 1) := by decide +kernel
theorem dX3_isIn_1 : decode cX3_isIn 1 = .ok (.iload_n 1, 1) := by decide +kernel
theorem dX3_isIn_2 : decode cX3_isIn 2 = .ok (.if_icmp .lt 12, 3) := by decide +kernel
theorem dX3_isIn_5 : decode cX3_isIn 5 = .ok (.iload_n 0, 1) := by decide +kernel
theorem dX3_isIn_6 : decode cX3_isIn 6 = .ok (.iload_n 2, 1) := by decide +kernel
theorem dX3_isIn_7 : decode cX3_isIn 7 = .ok (.if_icmp .gt 7, 3) := by decide +kernel
theorem dX3_isIn_10 : decode cX3_isIn 10 = .ok (.iconst 1, 1) := by decide +kernel
theorem dX3_isIn_11 : decode cX3_isIn 11 = .ok (.goto 4, 3) := by decide +kernel
theorem dX3_isIn_14 : decode cX3_isIn 14 = .ok (.iconst 0, 1) := by decide +kernel
theorem dX3_isIn_15 : decode cX3_isIn 15 = .ok (.ireturn, 1) := by decide +kernel
set_option maxRecDepth 100000 in
theorem ggX3_isDay_X3_isIn : GoodIn wsX3_isDay wsX3_isIn := goodIn_sub (mc (List.mem_of_getElem? (i := 4) rfl) mn) (by decide +kernel)
set_option maxRecDepth 20000 in
theorem gX3_isDay_X3_isIn : GoodIn wsX3_isDay (va_wsS RX3 49 yX3_isIn wsX3_isIn) := goodIn_app (goodIn_of _ (by decide +kernel)) ggX3_isDay_X3_isIn
theorem dX3_isDay_0 : decode cX3_isDay 0 = .ok (.iload_n 0, 1) := by decide +kernel
theorem dX3_isDay_1 : decode cX3_isDay 1 = .ok (.iconst 0, 1) := by decide +kernel
theorem dX3_isDay_2 : decode cX3_isDay 2 = .ok (.bipush 39, 2) := by decide +kernel
theorem dX3_isDay_4 : decode cX3_isDay 4 = .ok (.invokestatic 49, 3) := by decide +kernel
theorem dX3_isDay_7 : decode cX3_isDay 7 = .ok (.ireturn, 1) := by decide +kernel
theorem dX3_commonDivisor_0 : decode cX3_commonDivisor 0 = .ok (.lload_n 0, 1) := by decide +kernel
theorem dX3_commonDivisor_1 : decode cX3_commonDivisor 1 = .ok (.lstore 4, 2) := by decide +kernel
theorem dX3_commonDivisor_3 : decode cX3_commonDivisor 3 = .ok (.lload_n 2, 1) := by decide +kernel
theorem dX3_commonDivisor_4 : decode cX3_commonDivisor 4 = .ok (.lstore 6, 2) := by decide +kernel
theorem dX3_commonDivisor_6 : decode cX3_commonDivisor 6 = .ok (.iconst 0, 1) := by decide +kernel
theorem dX3_commonDivisor_7 : decode cX3_commonDivisor 7 = .ok (.istore 8, 2) := by decide +kernel
theorem dX3_commonDivisor_9 : decode cX3_commonDivisor 9 = .ok (.iload 8, 2) := by decide +kernel
theorem dX3_commonDivisor_11 : decode cX3_commonDivisor 11 = .ok (.sipush 200, 3) := by decide +kernel
theorem dX3_commonDivisor_14 : decode cX3_commonDivisor 14 = .ok (.if_icmp .ge 31, 3) := by decide +kernel
theorem dX3_commonDivisor_17 : decode cX3_commonDivisor 17 = .ok (.lload 6, 2) := by decide +kernel
theorem dX3_commonDivisor_19 : decode cX3_commonDivisor 19 = .ok (.lconst 0, 1) := by decide +kernel
theorem dX3_commonDivisor_20 : decode cX3_commonDivisor 20 = .ok (.lcmp, 1) := by decide +kernel
theorem dX3_commonDivisor_21 : decode cX3_commonDivisor 21 = .ok (.ifCond .eq 24, 3) := by decide +kernel
theorem dX3_commonDivisor_24 : decode cX3_commonDivisor 24 = .ok (.lload 4, 2) := by decide +kernel
theorem dX3_commonDivisor_26 : decode cX3_commonDivisor 26 = .ok (.lload 6, 2) := by decide +kernel
theorem dX3_commonDivisor_28 : decode cX3_commonDivisor 28 = .ok (.lrem, 1) := by decide +kernel
theorem dX3_commonDivisor_29 : decode cX3_commonDivisor 29 = .ok (.lstore 9, 2) := by decide +kernel
theorem dX3_commonDivisor_31 : decode cX3_commonDivisor 31 = .ok (.lload 6, 2) := by decide +kernel
theorem dX3_commonDivisor_33 : decode cX3_commonDivisor 33 = .ok (.lstore 4, 2) := by decide +kernel
theorem dX3_commonDivisor_35 : decode cX3_commonDivisor 35 = .ok (.lload 9, 2) := by decide +kernel
theorem dX3_commonDivisor_37 : decode cX3_commonDivisor 37 = .ok (.lstore 6, 2) := by decide +kernel
theorem dX3_commonDivisor_39 : decode cX3_commonDivisor 39 = .ok (.iinc 8 1, 3) := by decide +kernel
theorem dX3_commonDivisor_42 : decode cX3_commonDivisor 42 = .ok (.goto (-33), 3) := by decide +kernel
theorem dX3_commonDivisor_45 : decode cX3_commonDivisor 45 = .ok (.lload 4, 2) := by decide +kernel
theorem dX3_commonDivisor_47 : decode cX3_commonDivisor 47 = .ok (.lreturn, 1) := by decide +kernel
