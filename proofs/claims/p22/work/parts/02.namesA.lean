set_option maxRecDepth 100000 in
theorem ggX0_init_X0_renew : GoodIn wsX0_init wsX0_renew := goodIn_sub (mc (List.mem_of_getElem? (i := 17) rfl) (mem_two (mc (List.mem_of_getElem? (i := 9) rfl) (mc (List.mem_of_getElem? (i := 5) rfl) (mc (List.mem_of_getElem? (i := 11) rfl) (mc (List.mem_of_getElem? (i := 18) rfl) (mc (List.mem_of_getElem? (i := 19) rfl) (mc (List.mem_of_getElem? (i := 20) rfl) (mc (List.mem_of_getElem? (i := 21) rfl) (mc (List.mem_of_getElem? (i := 6) rfl) (mc (List.mem_of_getElem? (i := 10) rfl) (mc (List.mem_of_getElem? (i := 22) rfl) (mc (List.mem_of_getElem? (i := 23) rfl) (mc (List.mem_of_getElem? (i := 24) rfl) (mc (List.mem_of_getElem? (i := 16) rfl) (mc (List.mem_of_getElem? (i := 25) rfl) (mc (List.mem_of_getElem? (i := 26) rfl) (mc (List.mem_of_getElem? (i := 27) rfl) (mc (List.mem_of_getElem? (i := 28) rfl) (mc (List.mem_of_getElem? (i := 29) rfl) (mc (List.mem_of_getElem? (i := 12) rfl) (mc (List.mem_of_getElem? (i := 7) rfl) (mc (List.mem_of_getElem? (i := 8) rfl) mn))))))))))))))))))))) (fun w h => (List.mem_cons_of_mem _ (List.mem_append_right _ h))))) (by decide +kernel)
set_option maxRecDepth 100000 in
theorem gX0_init_X0_renew : GoodIn wsX0_init (wsV RX0 37 RX0 yX0_renew wsX0_renew) := goodIn_app (goodIn_sub (mc (List.mem_of_getElem? (i := 13) rfl) (mc (List.mem_of_getElem? (i := 14) rfl) (mc (List.mem_of_getElem? (i := 15) rfl) (mc (List.mem_of_getElem? (i := 16) rfl) mn)))) (by decide +kernel)) ggX0_init_X0_renew
theorem dX0_init_0 : decode cX0_init 0 = .ok (.aload_n 0, 1) := by decide +kernel
theorem dX0_init_1 : decode cX0_init 1 = .ok (.invokespecial 3, 3) := by decide +kernel
theorem dX0_init_4 : decode cX0_init 4 = .ok (.aload_n 0, 1) := by decide +kernel
theorem dX0_init_5 : decode cX0_init 5 = .ok (.bipush 40, 2) := by decide +kernel
theorem dX0_init_7 : decode cX0_init 7 = .ok (.newarray .int, 2) := by decide +kernel
theorem dX0_init_9 : decode cX0_init 9 = .ok (.putfield 9, 3) := by decide +kernel
theorem dX0_init_12 : decode cX0_init 12 = .ok (.aload_n 0, 1) := by decide +kernel
theorem dX0_init_13 : decode cX0_init 13 = .ok (.iconst 2, 1) := by decide +kernel
theorem dX0_init_14 : decode cX0_init 14 = .ok (.newarray .int, 2) := by decide +kernel
theorem dX0_init_16 : decode cX0_init 16 = .ok (.dup, 1) := by decide +kernel
theorem dX0_init_17 : decode cX0_init 17 = .ok (.iconst 0, 1) := by decide +kernel
theorem dX0_init_18 : decode cX0_init 18 = .ok (.sipush 500, 3) := by decide +kernel
theorem dX0_init_21 : decode cX0_init 21 = .ok (.iastore, 1) := by decide +kernel
theorem dX0_init_22 : decode cX0_init 22 = .ok (.dup, 1) := by decide +kernel
theorem dX0_init_23 : decode cX0_init 23 = .ok (.iconst 1, 1) := by decide +kernel
theorem dX0_init_24 : decode cX0_init 24 = .ok (.sipush 300, 3) := by decide +kernel
theorem dX0_init_27 : decode cX0_init 27 = .ok (.iastore, 1) := by decide +kernel
theorem dX0_init_28 : decode cX0_init 28 = .ok (.putfield 15, 3) := by decide +kernel
theorem dX0_init_31 : decode cX0_init 31 = .ok (.aload_n 0, 1) := by decide +kernel
theorem dX0_init_32 : decode cX0_init 32 = .ok (.bipush 6, 2) := by decide +kernel
theorem dX0_init_34 : decode cX0_init 34 = .ok (.newarray .int, 2) := by decide +kernel
theorem dX0_init_36 : decode cX0_init 36 = .ok (.putfield 18, 3) := by decide +kernel
theorem dX0_init_39 : decode cX0_init 39 = .ok (.aload_n 0, 1) := by decide +kernel
theorem dX0_init_40 : decode cX0_init 40 = .ok (.bipush 6, 2) := by decide +kernel
theorem dX0_init_42 : decode cX0_init 42 = .ok (.newarray .int, 2) := by decide +kernel
theorem dX0_init_44 : decode cX0_init 44 = .ok (.putfield 21, 3) := by decide +kernel
theorem dX0_init_47 : decode cX0_init 47 = .ok (.aload_n 0, 1) := by decide +kernel
theorem dX0_init_48 : decode cX0_init 48 = .ok (.bipush 40, 2) := by decide +kernel
theorem dX0_init_50 : decode cX0_init 50 = .ok (.newarray .int, 2) := by decide +kernel
theorem dX0_init_52 : decode cX0_init 52 = .ok (.putfield 24, 3) := by decide +kernel
theorem dX0_init_55 : decode cX0_init 55 = .ok (.aload_n 0, 1) := by decide +kernel
theorem dX0_init_56 : decode cX0_init 56 = .ok (.bipush 40, 2) := by decide +kernel
theorem dX0_init_58 : decode cX0_init 58 = .ok (.newarray .int, 2) := by decide +kernel
theorem dX0_init_60 : decode cX0_init 60 = .ok (.putfield 27, 3) := by decide +kernel
theorem dX0_init_63 : decode cX0_init 63 = .ok (.aload_n 0, 1) := by decide +kernel
theorem dX0_init_64 : decode cX0_init 64 = .ok (.iconst 0, 1) := by decide +kernel
theorem dX0_init_65 : decode cX0_init 65 = .ok (.putfield 30, 3) := by decide +kernel
theorem dX0_init_68 : decode cX0_init 68 = .ok (.aload_n 0, 1) := by decide +kernel
theorem dX0_init_69 : decode cX0_init 69 = .ok (.iconst 0, 1) := by decide +kernel
theorem dX0_init_70 : decode cX0_init 70 = .ok (.putfield 34, 3) := by decide +kernel
theorem dX0_init_73 : decode cX0_init 73 = .ok (.iconst 0, 1) := by decide +kernel
theorem dX0_init_74 : decode cX0_init 74 = .ok (.istore_n 1, 1) := by decide +kernel
theorem dX0_init_75 : decode cX0_init 75 = .ok (.iload_n 1, 1) := by decide +kernel
theorem dX0_init_76 : decode cX0_init 76 = .ok (.bipush 40, 2) := by decide +kernel
theorem dX0_init_78 : decode cX0_init 78 = .ok (.if_icmp .ge 17, 3) := by decide +kernel
theorem dX0_init_81 : decode cX0_init 81 = .ok (.aload_n 0, 1) := by decide +kernel
theorem dX0_init_82 : decode cX0_init 82 = .ok (.getfield 9, 3) := by decide +kernel
theorem dX0_init_85 : decode cX0_init 85 = .ok (.iload_n 1, 1) := by decide +kernel
theorem dX0_init_86 : decode cX0_init 86 = .ok (.bipush 20, 2) := by decide +kernel
theorem dX0_init_88 : decode cX0_init 88 = .ok (.iastore, 1) := by decide +kernel
theorem dX0_init_89 : decode cX0_init 89 = .ok (.iinc 1 1, 3) := by decide +kernel
theorem dX0_init_92 : decode cX0_init 92 = .ok (.goto (-17), 3) := by decide +kernel
theorem dX0_init_95 : decode cX0_init 95 = .ok (.aload_n 0, 1) := by decide +kernel
theorem dX0_init_96 : decode cX0_init 96 = .ok (.invokevirtual 37, 3) := by decide +kernel
theorem dX0_init_99 : decode cX0_init 99 = .ok (.return_, 1) := by decide +kernel
theorem dX0_goesOnWith_0 : decode cX0_goesOnWith 0 = .ok (.aload_n 0, 1) := by decide +kernel
theorem dX0_goesOnWith_1 : decode cX0_goesOnWith 1 = .ok (.getfield 34, 3) := by decide +kernel
theorem dX0_goesOnWith_4 : decode cX0_goesOnWith 4 = .ok (.iconst 1, 1) := by decide +kernel
theorem dX0_goesOnWith_5 : decode cX0_goesOnWith 5 = .ok (.isub, 1) := by decide +kernel
theorem dX0_goesOnWith_6 : decode cX0_goesOnWith 6 = .ok (.istore_n 3, 1) := by decide +kernel
theorem dX0_goesOnWith_7 : decode cX0_goesOnWith 7 = .ok (.iload_n 3, 1) := by decide +kernel
theorem dX0_goesOnWith_8 : decode cX0_goesOnWith 8 = .ok (.ifCond .lt 29, 3) := by decide +kernel
theorem dX0_goesOnWith_11 : decode cX0_goesOnWith 11 = .ok (.iload_n 3, 1) := by decide +kernel
theorem dX0_goesOnWith_12 : decode cX0_goesOnWith 12 = .ok (.bipush 6, 2) := by decide +kernel
theorem dX0_goesOnWith_14 : decode cX0_goesOnWith 14 = .ok (.if_icmp .ge 23, 3) := by decide +kernel
theorem dX0_goesOnWith_17 : decode cX0_goesOnWith 17 = .ok (.iload_n 1, 1) := by decide +kernel
theorem dX0_goesOnWith_18 : decode cX0_goesOnWith 18 = .ok (.aload_n 0, 1) := by decide +kernel
theorem dX0_goesOnWith_19 : decode cX0_goesOnWith 19 = .ok (.getfield 18, 3) := by decide +kernel
theorem dX0_goesOnWith_22 : decode cX0_goesOnWith 22 = .ok (.iload_n 3, 1) := by decide +kernel
theorem dX0_goesOnWith_23 : decode cX0_goesOnWith 23 = .ok (.iaload, 1) := by decide +kernel
theorem dX0_goesOnWith_24 : decode cX0_goesOnWith 24 = .ok (.if_icmp .le 17, 3) := by decide +kernel
theorem dX0_goesOnWith_27 : decode cX0_goesOnWith 27 = .ok (.iload_n 2, 1) := by decide +kernel
theorem dX0_goesOnWith_28 : decode cX0_goesOnWith 28 = .ok (.aload_n 0, 1) := by decide +kernel
theorem dX0_goesOnWith_29 : decode cX0_goesOnWith 29 = .ok (.getfield 21, 3) := by decide +kernel
theorem dX0_goesOnWith_32 : decode cX0_goesOnWith 32 = .ok (.iload_n 3, 1) := by decide +kernel
theorem dX0_goesOnWith_33 : decode cX0_goesOnWith 33 = .ok (.iaload, 1) := by decide +kernel
theorem dX0_goesOnWith_34 : decode cX0_goesOnWith 34 = .ok (.if_icmp .lt 7, 3) := by decide +kernel
theorem dX0_goesOnWith_37 : decode cX0_goesOnWith 37 = .ok (.iconst 1, 1) := by decide +kernel
theorem dX0_goesOnWith_38 : decode cX0_goesOnWith 38 = .ok (.goto 4, 3) := by decide +kernel
theorem dX0_goesOnWith_41 : decode cX0_goesOnWith 41 = .ok (.iconst 0, 1) := by decide +kernel
theorem dX0_goesOnWith_42 : decode cX0_goesOnWith 42 = .ok (.ireturn, 1) := by decide +kernel
theorem dX0_addPoint_0 : decode cX0_addPoint 0 = .ok (.aload_n 0, 1) := by decide +kernel
theorem dX0_addPoint_1 : decode cX0_addPoint 1 = .ok (.getfield 34, 3) := by decide +kernel
theorem dX0_addPoint_4 : decode cX0_addPoint 4 = .ok (.bipush 6, 2) := by decide +kernel
theorem dX0_addPoint_6 : decode cX0_addPoint 6 = .ok (.if_icmp .ge 33, 3) := by decide +kernel
theorem dX0_addPoint_9 : decode cX0_addPoint 9 = .ok (.aload_n 0, 1) := by decide +kernel
theorem dX0_addPoint_10 : decode cX0_addPoint 10 = .ok (.getfield 18, 3) := by decide +kernel
theorem dX0_addPoint_13 : decode cX0_addPoint 13 = .ok (.aload_n 0, 1) := by decide +kernel
theorem dX0_addPoint_14 : decode cX0_addPoint 14 = .ok (.getfield 34, 3) := by decide +kernel
theorem dX0_addPoint_17 : decode cX0_addPoint 17 = .ok (.iload_n 1, 1) := by decide +kernel
theorem dX0_addPoint_18 : decode cX0_addPoint 18 = .ok (.iastore, 1) := by decide +kernel
theorem dX0_addPoint_19 : decode cX0_addPoint 19 = .ok (.aload_n 0, 1) := by decide +kernel
theorem dX0_addPoint_20 : decode cX0_addPoint 20 = .ok (.getfield 21, 3) := by decide +kernel
theorem dX0_addPoint_23 : decode cX0_addPoint 23 = .ok (.aload_n 0, 1) := by decide +kernel
theorem dX0_addPoint_24 : decode cX0_addPoint 24 = .ok (.getfield 34, 3) := by decide +kernel
theorem dX0_addPoint_27 : decode cX0_addPoint 27 = .ok (.iload_n 2, 1) := by decide +kernel
theorem dX0_addPoint_28 : decode cX0_addPoint 28 = .ok (.iastore, 1) := by decide +kernel
theorem dX0_addPoint_29 : decode cX0_addPoint 29 = .ok (.aload_n 0, 1) := by decide +kernel
theorem dX0_addPoint_30 : decode cX0_addPoint 30 = .ok (.dup, 1) := by decide +kernel
theorem dX0_addPoint_31 : decode cX0_addPoint 31 = .ok (.getfield 34, 3) := by decide +kernel
theorem dX0_addPoint_34 : decode cX0_addPoint 34 = .ok (.iconst 1, 1) := by decide +kernel
theorem dX0_addPoint_35 : decode cX0_addPoint 35 = .ok (.iadd, 1) := by decide +kernel
theorem dX0_addPoint_36 : decode cX0_addPoint 36 = .ok (.putfield 34, 3) := by decide +kernel
theorem dX0_addPoint_39 : decode cX0_addPoint 39 = .ok (.return_, 1) := by decide +kernel
theorem dX0_hardnessOf_0 : decode cX0_hardnessOf 0 = .ok (.iconst 0, 1) := by decide +kernel
theorem dX0_hardnessOf_1 : decode cX0_hardnessOf 1 = .ok (.istore_n 2, 1) := by decide +kernel
theorem dX0_hardnessOf_2 : decode cX0_hardnessOf 2 = .ok (.iconst 0, 1) := by decide +kernel
theorem dX0_hardnessOf_3 : decode cX0_hardnessOf 3 = .ok (.istore_n 3, 1) := by decide +kernel
theorem dX0_hardnessOf_4 : decode cX0_hardnessOf 4 = .ok (.iconst 0, 1) := by decide +kernel
theorem dX0_hardnessOf_5 : decode cX0_hardnessOf 5 = .ok (.istore 4, 2) := by decide +kernel
theorem dX0_hardnessOf_7 : decode cX0_hardnessOf 7 = .ok (.iload 4, 2) := by decide +kernel
theorem dX0_hardnessOf_9 : decode cX0_hardnessOf 9 = .ok (.aload_n 0, 1) := by decide +kernel
theorem dX0_hardnessOf_10 : decode cX0_hardnessOf 10 = .ok (.getfield 34, 3) := by decide +kernel
theorem dX0_hardnessOf_13 : decode cX0_hardnessOf 13 = .ok (.if_icmp .ge 82, 3) := by decide +kernel
theorem dX0_hardnessOf_16 : decode cX0_hardnessOf 16 = .ok (.iload 4, 2) := by decide +kernel
theorem dX0_hardnessOf_18 : decode cX0_hardnessOf 18 = .ok (.bipush 6, 2) := by decide +kernel
theorem dX0_hardnessOf_20 : decode cX0_hardnessOf 20 = .ok (.if_icmp .ge 75, 3) := by decide +kernel
theorem dX0_hardnessOf_23 : decode cX0_hardnessOf 23 = .ok (.aload_n 0, 1) := by decide +kernel
theorem dX0_hardnessOf_24 : decode cX0_hardnessOf 24 = .ok (.getfield 18, 3) := by decide +kernel
theorem dX0_hardnessOf_27 : decode cX0_hardnessOf 27 = .ok (.iload 4, 2) := by decide +kernel
theorem dX0_hardnessOf_29 : decode cX0_hardnessOf 29 = .ok (.iaload, 1) := by decide +kernel
theorem dX0_hardnessOf_30 : decode cX0_hardnessOf 30 = .ok (.iload_n 2, 1) := by decide +kernel
theorem dX0_hardnessOf_31 : decode cX0_hardnessOf 31 = .ok (.isub, 1) := by decide +kernel
theorem dX0_hardnessOf_32 : decode cX0_hardnessOf 32 = .ok (.istore 5, 2) := by decide +kernel
theorem dX0_hardnessOf_34 : decode cX0_hardnessOf 34 = .ok (.iload_n 1, 1) := by decide +kernel
theorem dX0_hardnessOf_35 : decode cX0_hardnessOf 35 = .ok (.aload_n 0, 1) := by decide +kernel
theorem dX0_hardnessOf_36 : decode cX0_hardnessOf 36 = .ok (.getfield 18, 3) := by decide +kernel
theorem dX0_hardnessOf_39 : decode cX0_hardnessOf 39 = .ok (.iload 4, 2) := by decide +kernel
theorem dX0_hardnessOf_41 : decode cX0_hardnessOf 41 = .ok (.iaload, 1) := by decide +kernel
theorem dX0_hardnessOf_42 : decode cX0_hardnessOf 42 = .ok (.if_icmp .ge 31, 3) := by decide +kernel
theorem dX0_hardnessOf_45 : decode cX0_hardnessOf 45 = .ok (.iload 5, 2) := by decide +kernel
theorem dX0_hardnessOf_47 : decode cX0_hardnessOf 47 = .ok (.ifCond .le 26, 3) := by decide +kernel
theorem dX0_hardnessOf_50 : decode cX0_hardnessOf 50 = .ok (.aload_n 0, 1) := by decide +kernel
theorem dX0_hardnessOf_51 : decode cX0_hardnessOf 51 = .ok (.getfield 21, 3) := by decide +kernel
theorem dX0_hardnessOf_54 : decode cX0_hardnessOf 54 = .ok (.iload 4, 2) := by decide +kernel
theorem dX0_hardnessOf_56 : decode cX0_hardnessOf 56 = .ok (.iaload, 1) := by decide +kernel
theorem dX0_hardnessOf_57 : decode cX0_hardnessOf 57 = .ok (.iload_n 3, 1) := by decide +kernel
theorem dX0_hardnessOf_58 : decode cX0_hardnessOf 58 = .ok (.isub, 1) := by decide +kernel
theorem dX0_hardnessOf_59 : decode cX0_hardnessOf 59 = .ok (.istore 6, 2) := by decide +kernel
theorem dX0_hardnessOf_61 : decode cX0_hardnessOf 61 = .ok (.iload_n 3, 1) := by decide +kernel
theorem dX0_hardnessOf_62 : decode cX0_hardnessOf 62 = .ok (.iload 6, 2) := by decide +kernel
theorem dX0_hardnessOf_64 : decode cX0_hardnessOf 64 = .ok (.iload_n 1, 1) := by decide +kernel
theorem dX0_hardnessOf_65 : decode cX0_hardnessOf 65 = .ok (.iload_n 2, 1) := by decide +kernel
theorem dX0_hardnessOf_66 : decode cX0_hardnessOf 66 = .ok (.isub, 1) := by decide +kernel
theorem dX0_hardnessOf_67 : decode cX0_hardnessOf 67 = .ok (.imul, 1) := by decide +kernel
theorem dX0_hardnessOf_68 : decode cX0_hardnessOf 68 = .ok (.iload 5, 2) := by decide +kernel
theorem dX0_hardnessOf_70 : decode cX0_hardnessOf 70 = .ok (.idiv, 1) := by decide +kernel
theorem dX0_hardnessOf_71 : decode cX0_hardnessOf 71 = .ok (.iadd, 1) := by decide +kernel
theorem dX0_hardnessOf_72 : decode cX0_hardnessOf 72 = .ok (.ireturn, 1) := by decide +kernel
theorem dX0_hardnessOf_73 : decode cX0_hardnessOf 73 = .ok (.aload_n 0, 1) := by decide +kernel
theorem dX0_hardnessOf_74 : decode cX0_hardnessOf 74 = .ok (.getfield 18, 3) := by decide +kernel
theorem dX0_hardnessOf_77 : decode cX0_hardnessOf 77 = .ok (.iload 4, 2) := by decide +kernel
theorem dX0_hardnessOf_79 : decode cX0_hardnessOf 79 = .ok (.iaload, 1) := by decide +kernel
theorem dX0_hardnessOf_80 : decode cX0_hardnessOf 80 = .ok (.istore_n 2, 1) := by decide +kernel
theorem dX0_hardnessOf_81 : decode cX0_hardnessOf 81 = .ok (.aload_n 0, 1) := by decide +kernel
theorem dX0_hardnessOf_82 : decode cX0_hardnessOf 82 = .ok (.getfield 21, 3) := by decide +kernel
theorem dX0_hardnessOf_85 : decode cX0_hardnessOf 85 = .ok (.iload 4, 2) := by decide +kernel
theorem dX0_hardnessOf_87 : decode cX0_hardnessOf 87 = .ok (.iaload, 1) := by decide +kernel
theorem dX0_hardnessOf_88 : decode cX0_hardnessOf 88 = .ok (.istore_n 3, 1) := by decide +kernel
theorem dX0_hardnessOf_89 : decode cX0_hardnessOf 89 = .ok (.iinc 4 1, 3) := by decide +kernel
theorem dX0_hardnessOf_92 : decode cX0_hardnessOf 92 = .ok (.goto (-85), 3) := by decide +kernel
theorem dX0_hardnessOf_95 : decode cX0_hardnessOf 95 = .ok (.iload_n 3, 1) := by decide +kernel
theorem dX0_hardnessOf_96 : decode cX0_hardnessOf 96 = .ok (.ireturn, 1) := by decide +kernel
set_option maxRecDepth 100000 in
theorem ggX0_hardnessOn_X0_hardnessOf : GoodIn wsX0_hardnessOn wsX0_hardnessOf := goodIn_sub (mc (List.mem_of_getElem? (i := 6) rfl) (mem_two (mc (List.mem_of_getElem? (i := 7) rfl) (mc (List.mem_of_getElem? (i := 8) rfl) (mc (List.mem_of_getElem? (i := 9) rfl) mn))) (fun w h => (List.mem_cons_of_mem _ (List.mem_append_right _ h))))) (by decide +kernel)
set_option maxRecDepth 100000 in
theorem gX0_hardnessOn_X0_hardnessOf : GoodIn wsX0_hardnessOn (wsV RX0 40 RX0 yX0_hardnessOf wsX0_hardnessOf) := goodIn_app (goodIn_sub (mc (List.mem_of_getElem? (i := 2) rfl) (mc (List.mem_of_getElem? (i := 3) rfl) (mc (List.mem_of_getElem? (i := 4) rfl) (mc (List.mem_of_getElem? (i := 5) rfl) mn)))) (by decide +kernel)) ggX0_hardnessOn_X0_hardnessOf
theorem dX0_hardnessOn_0 : decode cX0_hardnessOn 0 = .ok (.iload_n 1, 1) := by decide +kernel
theorem dX0_hardnessOn_1 : decode cX0_hardnessOn 1 = .ok (.ifCond .lt 14, 3) := by decide +kernel
theorem dX0_hardnessOn_4 : decode cX0_hardnessOn 4 = .ok (.iload_n 2, 1) := by decide +kernel
theorem dX0_hardnessOn_5 : decode cX0_hardnessOn 5 = .ok (.iload_n 1, 1) := by decide +kernel
theorem dX0_hardnessOn_6 : decode cX0_hardnessOn 6 = .ok (.if_icmp .lt 9, 3) := by decide +kernel
theorem dX0_hardnessOn_9 : decode cX0_hardnessOn 9 = .ok (.iload_n 2, 1) := by decide +kernel
theorem dX0_hardnessOn_10 : decode cX0_hardnessOn 10 = .ok (.bipush 40, 2) := by decide +kernel
theorem dX0_hardnessOn_12 : decode cX0_hardnessOn 12 = .ok (.if_icmp .lt 5, 3) := by decide +kernel
theorem dX0_hardnessOn_15 : decode cX0_hardnessOn 15 = .ok (.iconst (-1), 1) := by decide +kernel
theorem dX0_hardnessOn_16 : decode cX0_hardnessOn 16 = .ok (.ireturn, 1) := by decide +kernel
theorem dX0_hardnessOn_17 : decode cX0_hardnessOn 17 = .ok (.aload_n 0, 1) := by decide +kernel
theorem dX0_hardnessOn_18 : decode cX0_hardnessOn 18 = .ok (.aload_n 0, 1) := by decide +kernel
theorem dX0_hardnessOn_19 : decode cX0_hardnessOn 19 = .ok (.getfield 24, 3) := by decide +kernel
theorem dX0_hardnessOn_22 : decode cX0_hardnessOn 22 = .ok (.iload_n 2, 1) := by decide +kernel
theorem dX0_hardnessOn_23 : decode cX0_hardnessOn 23 = .ok (.iaload, 1) := by decide +kernel
theorem dX0_hardnessOn_24 : decode cX0_hardnessOn 24 = .ok (.aload_n 0, 1) := by decide +kernel
theorem dX0_hardnessOn_25 : decode cX0_hardnessOn 25 = .ok (.getfield 24, 3) := by decide +kernel
theorem dX0_hardnessOn_28 : decode cX0_hardnessOn 28 = .ok (.iload_n 1, 1) := by decide +kernel
theorem dX0_hardnessOn_29 : decode cX0_hardnessOn 29 = .ok (.iaload, 1) := by decide +kernel
theorem dX0_hardnessOn_30 : decode cX0_hardnessOn 30 = .ok (.isub, 1) := by decide +kernel
theorem dX0_hardnessOn_31 : decode cX0_hardnessOn 31 = .ok (.invokevirtual 40, 3) := by decide +kernel
theorem dX0_hardnessOn_34 : decode cX0_hardnessOn 34 = .ok (.ireturn, 1) := by decide +kernel
theorem dX0_stripDayFor_0 : decode cX0_stripDayFor 0 = .ok (.iload_n 1, 1) := by decide +kernel
theorem dX0_stripDayFor_1 : decode cX0_stripDayFor 1 = .ok (.ifCond .lt 18, 3) := by decide +kernel
theorem dX0_stripDayFor_4 : decode cX0_stripDayFor 4 = .ok (.iload_n 1, 1) := by decide +kernel
theorem dX0_stripDayFor_5 : decode cX0_stripDayFor 5 = .ok (.bipush 40, 2) := by decide +kernel
theorem dX0_stripDayFor_7 : decode cX0_stripDayFor 7 = .ok (.if_icmp .ge 12, 3) := by decide +kernel
theorem dX0_stripDayFor_10 : decode cX0_stripDayFor 10 = .ok (.aload_n 0, 1) := by decide +kernel
theorem dX0_stripDayFor_11 : decode cX0_stripDayFor 11 = .ok (.getfield 27, 3) := by decide +kernel
theorem dX0_stripDayFor_14 : decode cX0_stripDayFor 14 = .ok (.iload_n 1, 1) := by decide +kernel
theorem dX0_stripDayFor_15 : decode cX0_stripDayFor 15 = .ok (.iaload, 1) := by decide +kernel
theorem dX0_stripDayFor_16 : decode cX0_stripDayFor 16 = .ok (.goto 5, 3) := by decide +kernel
theorem dX0_stripDayFor_19 : decode cX0_stripDayFor 19 = .ok (.bipush 40, 2) := by decide +kernel
theorem dX0_stripDayFor_21 : decode cX0_stripDayFor 21 = .ok (.ireturn, 1) := by decide +kernel
set_option maxRecDepth 100000 in
theorem ggX0_renew_X0_hardnessOn : GoodIn wsX0_renew wsX0_hardnessOn := goodIn_sub (mc (List.mem_of_getElem? (i := 14) rfl) (mem_two (mc (List.mem_of_getElem? (i := 1) rfl) (mc (List.mem_of_getElem? (i := 15) rfl) (mc (List.mem_of_getElem? (i := 16) rfl) (mc (List.mem_of_getElem? (i := 17) rfl) (mc (List.mem_of_getElem? (i := 13) rfl) (mc (List.mem_of_getElem? (i := 18) rfl) (mc (List.mem_of_getElem? (i := 19) rfl) (mc (List.mem_of_getElem? (i := 20) rfl) (mc (List.mem_of_getElem? (i := 21) rfl) mn))))))))) (fun w h => (List.mem_cons_of_mem _ (List.mem_append_right _ h))))) (by decide +kernel)
set_option maxRecDepth 100000 in
theorem gX0_renew_X0_hardnessOn : GoodIn wsX0_renew (wsV RX0 50 RX0 yX0_hardnessOn wsX0_hardnessOn) := goodIn_app (goodIn_sub (mc (List.mem_of_getElem? (i := 10) rfl) (mc (List.mem_of_getElem? (i := 11) rfl) (mc (List.mem_of_getElem? (i := 12) rfl) (mc (List.mem_of_getElem? (i := 13) rfl) mn)))) (by decide +kernel)) ggX0_renew_X0_hardnessOn
theorem dX0_renew_0 : decode cX0_renew 0 = .ok (.iconst 1, 1) := by decide +kernel
theorem dX0_renew_1 : decode cX0_renew 1 = .ok (.istore_n 1, 1) := by decide +kernel
theorem dX0_renew_2 : decode cX0_renew 2 = .ok (.iload_n 1, 1) := by decide +kernel
theorem dX0_renew_3 : decode cX0_renew 3 = .ok (.bipush 40, 2) := by decide +kernel
theorem dX0_renew_5 : decode cX0_renew 5 = .ok (.if_icmp .ge 41, 3) := by decide +kernel
theorem dX0_renew_8 : decode cX0_renew 8 = .ok (.aload_n 0, 1) := by decide +kernel
theorem dX0_renew_9 : decode cX0_renew 9 = .ok (.getfield 24, 3) := by decide +kernel
theorem dX0_renew_12 : decode cX0_renew 12 = .ok (.iload_n 1, 1) := by decide +kernel
theorem dX0_renew_13 : decode cX0_renew 13 = .ok (.aload_n 0, 1) := by decide +kernel
theorem dX0_renew_14 : decode cX0_renew 14 = .ok (.getfield 24, 3) := by decide +kernel
theorem dX0_renew_17 : decode cX0_renew 17 = .ok (.iload_n 1, 1) := by decide +kernel
theorem dX0_renew_18 : decode cX0_renew 18 = .ok (.iconst 1, 1) := by decide +kernel
theorem dX0_renew_19 : decode cX0_renew 19 = .ok (.isub, 1) := by decide +kernel
theorem dX0_renew_20 : decode cX0_renew 20 = .ok (.iaload, 1) := by decide +kernel
theorem dX0_renew_21 : decode cX0_renew 21 = .ok (.iconst 0, 1) := by decide +kernel
theorem dX0_renew_22 : decode cX0_renew 22 = .ok (.aload_n 0, 1) := by decide +kernel
theorem dX0_renew_23 : decode cX0_renew 23 = .ok (.getfield 9, 3) := by decide +kernel
theorem dX0_renew_26 : decode cX0_renew 26 = .ok (.iload_n 1, 1) := by decide +kernel
theorem dX0_renew_27 : decode cX0_renew 27 = .ok (.iconst 1, 1) := by decide +kernel
theorem dX0_renew_28 : decode cX0_renew 28 = .ok (.isub, 1) := by decide +kernel
theorem dX0_renew_29 : decode cX0_renew 29 = .ok (.iaload, 1) := by decide +kernel
theorem dX0_renew_30 : decode cX0_renew 30 = .ok (.aload_n 0, 1) := by decide +kernel
theorem dX0_renew_31 : decode cX0_renew 31 = .ok (.getfield 30, 3) := by decide +kernel
theorem dX0_renew_34 : decode cX0_renew 34 = .ok (.isub, 1) := by decide +kernel
theorem dX0_renew_35 : decode cX0_renew 35 = .ok (.invokestatic 44, 3) := by decide +kernel
theorem dX0_renew_38 : decode cX0_renew 38 = .ok (.iadd, 1) := by decide +kernel
theorem dX0_renew_39 : decode cX0_renew 39 = .ok (.iastore, 1) := by decide +kernel
theorem dX0_renew_40 : decode cX0_renew 40 = .ok (.iinc 1 1, 3) := by decide +kernel
theorem dX0_renew_43 : decode cX0_renew 43 = .ok (.goto (-41), 3) := by decide +kernel
theorem dX0_renew_46 : decode cX0_renew 46 = .ok (.iconst 0, 1) := by decide +kernel
theorem dX0_renew_47 : decode cX0_renew 47 = .ok (.istore_n 1, 1) := by decide +kernel
theorem dX0_renew_48 : decode cX0_renew 48 = .ok (.iconst 0, 1) := by decide +kernel
theorem dX0_renew_49 : decode cX0_renew 49 = .ok (.istore_n 2, 1) := by decide +kernel
theorem dX0_renew_50 : decode cX0_renew 50 = .ok (.iload_n 2, 1) := by decide +kernel
theorem dX0_renew_51 : decode cX0_renew 51 = .ok (.bipush 40, 2) := by decide +kernel
theorem dX0_renew_53 : decode cX0_renew 53 = .ok (.if_icmp .ge 51, 3) := by decide +kernel
theorem dX0_renew_56 : decode cX0_renew 56 = .ok (.iload_n 1, 1) := by decide +kernel
theorem dX0_renew_57 : decode cX0_renew 57 = .ok (.iload_n 2, 1) := by decide +kernel
theorem dX0_renew_58 : decode cX0_renew 58 = .ok (.iconst 1, 1) := by decide +kernel
theorem dX0_renew_59 : decode cX0_renew 59 = .ok (.iadd, 1) := by decide +kernel
theorem dX0_renew_60 : decode cX0_renew 60 = .ok (.invokestatic 44, 3) := by decide +kernel
theorem dX0_renew_63 : decode cX0_renew 63 = .ok (.istore_n 1, 1) := by decide +kernel
theorem dX0_renew_64 : decode cX0_renew 64 = .ok (.iload_n 1, 1) := by decide +kernel
theorem dX0_renew_65 : decode cX0_renew 65 = .ok (.bipush 40, 2) := by decide +kernel
theorem dX0_renew_67 : decode cX0_renew 67 = .ok (.if_icmp .ge 24, 3) := by decide +kernel
theorem dX0_renew_70 : decode cX0_renew 70 = .ok (.aload_n 0, 1) := by decide +kernel
theorem dX0_renew_71 : decode cX0_renew 71 = .ok (.iload_n 2, 1) := by decide +kernel
theorem dX0_renew_72 : decode cX0_renew 72 = .ok (.iload_n 1, 1) := by decide +kernel
theorem dX0_renew_73 : decode cX0_renew 73 = .ok (.invokevirtual 50, 3) := by decide +kernel
theorem dX0_renew_76 : decode cX0_renew 76 = .ok (.aload_n 0, 1) := by decide +kernel
theorem dX0_renew_77 : decode cX0_renew 77 = .ok (.getfield 15, 3) := by decide +kernel
theorem dX0_renew_80 : decode cX0_renew 80 = .ok (.iconst 0, 1) := by decide +kernel
theorem dX0_renew_81 : decode cX0_renew 81 = .ok (.iaload, 1) := by decide +kernel
theorem dX0_renew_82 : decode cX0_renew 82 = .ok (.if_icmp .ge 9, 3) := by decide +kernel
theorem dX0_renew_85 : decode cX0_renew 85 = .ok (.iinc 1 1, 3) := by decide +kernel
theorem dX0_renew_88 : decode cX0_renew 88 = .ok (.goto (-24), 3) := by decide +kernel
theorem dX0_renew_91 : decode cX0_renew 91 = .ok (.aload_n 0, 1) := by decide +kernel
theorem dX0_renew_92 : decode cX0_renew 92 = .ok (.getfield 27, 3) := by decide +kernel
theorem dX0_renew_95 : decode cX0_renew 95 = .ok (.iload_n 2, 1) := by decide +kernel
theorem dX0_renew_96 : decode cX0_renew 96 = .ok (.iload_n 1, 1) := by decide +kernel
theorem dX0_renew_97 : decode cX0_renew 97 = .ok (.iastore, 1) := by decide +kernel
theorem dX0_renew_98 : decode cX0_renew 98 = .ok (.iinc 2 1, 3) := by decide +kernel
theorem dX0_renew_101 : decode cX0_renew 101 = .ok (.goto (-51), 3) := by decide +kernel
theorem dX0_renew_104 : decode cX0_renew 104 = .ok (.return_, 1) := by decide +kernel
theorem dX1_init_0 : decode cX1_init 0 = .ok (.aload_n 0, 1) := by decide +kernel
theorem dX1_init_1 : decode cX1_init 1 = .ok (.invokespecial 3, 3) := by decide +kernel
theorem dX1_init_4 : decode cX1_init 4 = .ok (.aload_n 0, 1) := by decide +kernel
theorem dX1_init_5 : decode cX1_init 5 = .ok (.bipush 10, 2) := by decide +kernel
theorem dX1_init_7 : decode cX1_init 7 = .ok (.newarray .int, 2) := by decide +kernel
theorem dX1_init_9 : decode cX1_init 9 = .ok (.putfield 9, 3) := by decide +kernel
theorem dX1_init_12 : decode cX1_init 12 = .ok (.aload_n 0, 1) := by decide +kernel
theorem dX1_init_13 : decode cX1_init 13 = .ok (.bipush 10, 2) := by decide +kernel
theorem dX1_init_15 : decode cX1_init 15 = .ok (.newarray .int, 2) := by decide +kernel
theorem dX1_init_17 : decode cX1_init 17 = .ok (.putfield 15, 3) := by decide +kernel
theorem dX1_init_20 : decode cX1_init 20 = .ok (.aload_n 0, 1) := by decide +kernel
theorem dX1_init_21 : decode cX1_init 21 = .ok (.bipush 10, 2) := by decide +kernel
theorem dX1_init_23 : decode cX1_init 23 = .ok (.newarray .int, 2) := by decide +kernel
theorem dX1_init_25 : decode cX1_init 25 = .ok (.putfield 18, 3) := by decide +kernel
theorem dX1_init_28 : decode cX1_init 28 = .ok (.aload_n 0, 1) := by decide +kernel
theorem dX1_init_29 : decode cX1_init 29 = .ok (.bipush 10, 2) := by decide +kernel
theorem dX1_init_31 : decode cX1_init 31 = .ok (.newarray .int, 2) := by decide +kernel
theorem dX1_init_33 : decode cX1_init 33 = .ok (.putfield 21, 3) := by decide +kernel
theorem dX1_init_36 : decode cX1_init 36 = .ok (.aload_n 0, 1) := by decide +kernel
theorem dX1_init_37 : decode cX1_init 37 = .ok (.bipush 10, 2) := by decide +kernel
theorem dX1_init_39 : decode cX1_init 39 = .ok (.newarray .int, 2) := by decide +kernel
theorem dX1_init_41 : decode cX1_init 41 = .ok (.putfield 24, 3) := by decide +kernel
theorem dX1_init_44 : decode cX1_init 44 = .ok (.aload_n 0, 1) := by decide +kernel
theorem dX1_init_45 : decode cX1_init 45 = .ok (.bipush 10, 2) := by decide +kernel
theorem dX1_init_47 : decode cX1_init 47 = .ok (.newarray .int, 2) := by decide +kernel
theorem dX1_init_49 : decode cX1_init 49 = .ok (.putfield 27, 3) := by decide +kernel
theorem dX1_init_52 : decode cX1_init 52 = .ok (.aload_n 0, 1) := by decide +kernel
theorem dX1_init_53 : decode cX1_init 53 = .ok (.bipush 10, 2) := by decide +kernel
theorem dX1_init_55 : decode cX1_init 55 = .ok (.bipush 10, 2) := by decide +kernel
theorem dX1_init_57 : decode cX1_init 57 = .ok (.multianewarray 30 2, 4) := by decide +kernel
theorem dX1_init_61 : decode cX1_init 61 = .ok (.putfield 32, 3) := by decide +kernel
theorem dX1_init_64 : decode cX1_init 64 = .ok (.aload_n 0, 1) := by decide +kernel
theorem dX1_init_65 : decode cX1_init 65 = .ok (.bipush 10, 2) := by decide +kernel
theorem dX1_init_67 : decode cX1_init 67 = .ok (.newarray .int, 2) := by decide +kernel
theorem dX1_init_69 : decode cX1_init 69 = .ok (.putfield 35, 3) := by decide +kernel
theorem dX1_init_72 : decode cX1_init 72 = .ok (.aload_n 0, 1) := by decide +kernel
theorem dX1_init_73 : decode cX1_init 73 = .ok (.iconst 0, 1) := by decide +kernel
theorem dX1_init_74 : decode cX1_init 74 = .ok (.putfield 38, 3) := by decide +kernel
theorem dX1_init_77 : decode cX1_init 77 = .ok (.iconst 0, 1) := by decide +kernel
theorem dX1_init_78 : decode cX1_init 78 = .ok (.istore_n 1, 1) := by decide +kernel
theorem dX1_init_79 : decode cX1_init 79 = .ok (.iload_n 1, 1) := by decide +kernel
theorem dX1_init_80 : decode cX1_init 80 = .ok (.bipush 10, 2) := by decide +kernel
theorem dX1_init_82 : decode cX1_init 82 = .ok (.if_icmp .ge 39, 3) := by decide +kernel
theorem dX1_init_85 : decode cX1_init 85 = .ok (.aload_n 0, 1) := by decide +kernel
theorem dX1_init_86 : decode cX1_init 86 = .ok (.getfield 27, 3) := by decide +kernel
theorem dX1_init_89 : decode cX1_init 89 = .ok (.iload_n 1, 1) := by decide +kernel
theorem dX1_init_90 : decode cX1_init 90 = .ok (.iconst (-1), 1) := by decide +kernel
theorem dX1_init_91 : decode cX1_init 91 = .ok (.iastore, 1) := by decide +kernel
theorem dX1_init_92 : decode cX1_init 92 = .ok (.iconst 0, 1) := by decide +kernel
theorem dX1_init_93 : decode cX1_init 93 = .ok (.istore_n 2, 1) := by decide +kernel
theorem dX1_init_94 : decode cX1_init 94 = .ok (.iload_n 2, 1) := by decide +kernel
theorem dX1_init_95 : decode cX1_init 95 = .ok (.bipush 10, 2) := by decide +kernel
theorem dX1_init_97 : decode cX1_init 97 = .ok (.if_icmp .ge 18, 3) := by decide +kernel
theorem dX1_init_100 : decode cX1_init 100 = .ok (.aload_n 0, 1) := by decide +kernel
theorem dX1_init_101 : decode cX1_init 101 = .ok (.getfield 32, 3) := by decide +kernel
theorem dX1_init_104 : decode cX1_init 104 = .ok (.iload_n 1, 1) := by decide +kernel
theorem dX1_init_105 : decode cX1_init 105 = .ok (.aaload, 1) := by decide +kernel
theorem dX1_init_106 : decode cX1_init 106 = .ok (.iload_n 2, 1) := by decide +kernel
theorem dX1_init_107 : decode cX1_init 107 = .ok (.iconst (-1), 1) := by decide +kernel
theorem dX1_init_108 : decode cX1_init 108 = .ok (.iastore, 1) := by decide +kernel
theorem dX1_init_109 : decode cX1_init 109 = .ok (.iinc 2 1, 3) := by decide +kernel
theorem dX1_init_112 : decode cX1_init 112 = .ok (.goto (-18), 3) := by decide +kernel
theorem dX1_init_115 : decode cX1_init 115 = .ok (.iinc 1 1, 3) := by decide +kernel
theorem dX1_init_118 : decode cX1_init 118 = .ok (.goto (-39), 3) := by decide +kernel
theorem dX1_init_121 : decode cX1_init 121 = .ok (.return_, 1) := by decide +kernel
theorem dX1_has_0 : decode cX1_has 0 = .ok (.iload_n 1, 1) := by decide +kernel
theorem dX1_has_1 : decode cX1_has 1 = .ok (.ifCond .lt 21, 3) := by decide +kernel
theorem dX1_has_4 : decode cX1_has 4 = .ok (.iload_n 1, 1) := by decide +kernel
theorem dX1_has_5 : decode cX1_has 5 = .ok (.aload_n 0, 1) := by decide +kernel
theorem dX1_has_6 : decode cX1_has 6 = .ok (.getfield 38, 3) := by decide +kernel
theorem dX1_has_9 : decode cX1_has 9 = .ok (.if_icmp .ge 13, 3) := by decide +kernel
theorem dX1_has_12 : decode cX1_has 12 = .ok (.iload_n 1, 1) := by decide +kernel
theorem dX1_has_13 : decode cX1_has 13 = .ok (.bipush 10, 2) := by decide +kernel
theorem dX1_has_15 : decode cX1_has 15 = .ok (.if_icmp .ge 7, 3) := by decide +kernel
theorem dX1_has_18 : decode cX1_has 18 = .ok (.iconst 1, 1) := by decide +kernel
theorem dX1_has_19 : decode cX1_has 19 = .ok (.goto 4, 3) := by decide +kernel
theorem dX1_has_22 : decode cX1_has 22 = .ok (.iconst 0, 1) := by decide +kernel
theorem dX1_has_23 : decode cX1_has 23 = .ok (.ireturn, 1) := by decide +kernel
theorem dX1_add_0 : decode cX1_add 0 = .ok (.aload_n 0, 1) := by decide +kernel
theorem dX1_add_1 : decode cX1_add 1 = .ok (.getfield 38, 3) := by decide +kernel
theorem dX1_add_4 : decode cX1_add 4 = .ok (.istore 6, 2) := by decide +kernel
theorem dX1_add_6 : decode cX1_add 6 = .ok (.iload 6, 2) := by decide +kernel
theorem dX1_add_8 : decode cX1_add 8 = .ok (.bipush 10, 2) := by decide +kernel
theorem dX1_add_10 : decode cX1_add 10 = .ok (.if_icmp .lt 6, 3) := by decide +kernel
theorem dX1_add_13 : decode cX1_add 13 = .ok (.bipush (-4), 2) := by decide +kernel
theorem dX1_add_15 : decode cX1_add 15 = .ok (.ireturn, 1) := by decide +kernel
theorem dX1_add_16 : decode cX1_add 16 = .ok (.aload_n 0, 1) := by decide +kernel
theorem dX1_add_17 : decode cX1_add 17 = .ok (.getfield 9, 3) := by decide +kernel
theorem dX1_add_20 : decode cX1_add 20 = .ok (.iload 6, 2) := by decide +kernel
theorem dX1_add_22 : decode cX1_add 22 = .ok (.iload_n 1, 1) := by decide +kernel
theorem dX1_add_23 : decode cX1_add 23 = .ok (.iastore, 1) := by decide +kernel
theorem dX1_add_24 : decode cX1_add 24 = .ok (.aload_n 0, 1) := by decide +kernel
theorem dX1_add_25 : decode cX1_add 25 = .ok (.getfield 15, 3) := by decide +kernel
theorem dX1_add_28 : decode cX1_add 28 = .ok (.iload 6, 2) := by decide +kernel
theorem dX1_add_30 : decode cX1_add 30 = .ok (.iload_n 2, 1) := by decide +kernel
theorem dX1_add_31 : decode cX1_add 31 = .ok (.iastore, 1) := by decide +kernel
theorem dX1_add_32 : decode cX1_add 32 = .ok (.aload_n 0, 1) := by decide +kernel
theorem dX1_add_33 : decode cX1_add 33 = .ok (.getfield 18, 3) := by decide +kernel
theorem dX1_add_36 : decode cX1_add 36 = .ok (.iload 6, 2) := by decide +kernel
theorem dX1_add_38 : decode cX1_add 38 = .ok (.iload_n 3, 1) := by decide +kernel
theorem dX1_add_39 : decode cX1_add 39 = .ok (.iastore, 1) := by decide +kernel
theorem dX1_add_40 : decode cX1_add 40 = .ok (.aload_n 0, 1) := by decide +kernel
theorem dX1_add_41 : decode cX1_add 41 = .ok (.getfield 21, 3) := by decide +kernel
theorem dX1_add_44 : decode cX1_add 44 = .ok (.iload 6, 2) := by decide +kernel
theorem dX1_add_46 : decode cX1_add 46 = .ok (.iload 4, 2) := by decide +kernel
theorem dX1_add_48 : decode cX1_add 48 = .ok (.iastore, 1) := by decide +kernel
theorem dX1_add_49 : decode cX1_add 49 = .ok (.aload_n 0, 1) := by decide +kernel
theorem dX1_add_50 : decode cX1_add 50 = .ok (.getfield 24, 3) := by decide +kernel
theorem dX1_add_53 : decode cX1_add 53 = .ok (.iload 6, 2) := by decide +kernel
theorem dX1_add_55 : decode cX1_add 55 = .ok (.iload 5, 2) := by decide +kernel
theorem dX1_add_57 : decode cX1_add 57 = .ok (.iastore, 1) := by decide +kernel
theorem dX1_add_58 : decode cX1_add 58 = .ok (.aload_n 0, 1) := by decide +kernel
theorem dX1_add_59 : decode cX1_add 59 = .ok (.dup, 1) := by decide +kernel
theorem dX1_add_60 : decode cX1_add 60 = .ok (.getfield 38, 3) := by decide +kernel
theorem dX1_add_63 : decode cX1_add 63 = .ok (.iconst 1, 1) := by decide +kernel
theorem dX1_add_64 : decode cX1_add 64 = .ok (.iadd, 1) := by decide +kernel
theorem dX1_add_65 : decode cX1_add 65 = .ok (.putfield 38, 3) := by decide +kernel
theorem dX1_add_68 : decode cX1_add 68 = .ok (.iload 6, 2) := by decide +kernel
theorem dX1_add_70 : decode cX1_add 70 = .ok (.ireturn, 1) := by decide +kernel
theorem dX1_standsOn_0 : decode cX1_standsOn 0 = .ok (.aload_n 0, 1) := by decide +kernel
theorem dX1_standsOn_1 : decode cX1_standsOn 1 = .ok (.getfield 27, 3) := by decide +kernel
theorem dX1_standsOn_4 : decode cX1_standsOn 4 = .ok (.iload_n 1, 1) := by decide +kernel
theorem dX1_standsOn_5 : decode cX1_standsOn 5 = .ok (.iaload, 1) := by decide +kernel
theorem dX1_standsOn_6 : decode cX1_standsOn 6 = .ok (.iconst (-1), 1) := by decide +kernel
theorem dX1_standsOn_7 : decode cX1_standsOn 7 = .ok (.if_icmp .eq 17, 3) := by decide +kernel
theorem dX1_standsOn_10 : decode cX1_standsOn 10 = .ok (.aload_n 0, 1) := by decide +kernel
theorem dX1_standsOn_11 : decode cX1_standsOn 11 = .ok (.getfield 27, 3) := by decide +kernel
theorem dX1_standsOn_14 : decode cX1_standsOn 14 = .ok (.iload_n 1, 1) := by decide +kernel
theorem dX1_standsOn_15 : decode cX1_standsOn 15 = .ok (.iaload, 1) := by decide +kernel
theorem dX1_standsOn_16 : decode cX1_standsOn 16 = .ok (.iload_n 2, 1) := by decide +kernel
theorem dX1_standsOn_17 : decode cX1_standsOn 17 = .ok (.if_icmp .gt 7, 3) := by decide +kernel
theorem dX1_standsOn_20 : decode cX1_standsOn 20 = .ok (.iconst 1, 1) := by decide +kernel
theorem dX1_standsOn_21 : decode cX1_standsOn 21 = .ok (.goto 4, 3) := by decide +kernel
theorem dX1_standsOn_24 : decode cX1_standsOn 24 = .ok (.iconst 0, 1) := by decide +kernel
theorem dX1_standsOn_25 : decode cX1_standsOn 25 = .ok (.ireturn, 1) := by decide +kernel
theorem dX1_carries_0 : decode cX1_carries 0 = .ok (.aload_n 0, 1) := by decide +kernel
theorem dX1_carries_1 : decode cX1_carries 1 = .ok (.getfield 9, 3) := by decide +kernel
theorem dX1_carries_4 : decode cX1_carries 4 = .ok (.iload_n 1, 1) := by decide +kernel
theorem dX1_carries_5 : decode cX1_carries 5 = .ok (.iaload, 1) := by decide +kernel
theorem dX1_carries_6 : decode cX1_carries 6 = .ok (.iconst 1, 1) := by decide +kernel
theorem dX1_carries_7 : decode cX1_carries 7 = .ok (.if_icmp .eq 13, 3) := by decide +kernel
theorem dX1_carries_10 : decode cX1_carries 10 = .ok (.aload_n 0, 1) := by decide +kernel
theorem dX1_carries_11 : decode cX1_carries 11 = .ok (.getfield 9, 3) := by decide +kernel
theorem dX1_carries_14 : decode cX1_carries 14 = .ok (.iload_n 1, 1) := by decide +kernel
theorem dX1_carries_15 : decode cX1_carries 15 = .ok (.iaload, 1) := by decide +kernel
theorem dX1_carries_16 : decode cX1_carries 16 = .ok (.iconst 2, 1) := by decide +kernel
theorem dX1_carries_17 : decode cX1_carries 17 = .ok (.if_icmp .ne 24, 3) := by decide +kernel
theorem dX1_carries_20 : decode cX1_carries 20 = .ok (.aload_n 0, 1) := by decide +kernel
theorem dX1_carries_21 : decode cX1_carries 21 = .ok (.getfield 15, 3) := by decide +kernel
theorem dX1_carries_24 : decode cX1_carries 24 = .ok (.iload_n 1, 1) := by decide +kernel
theorem dX1_carries_25 : decode cX1_carries 25 = .ok (.iaload, 1) := by decide +kernel
theorem dX1_carries_26 : decode cX1_carries 26 = .ok (.aload_n 0, 1) := by decide +kernel
theorem dX1_carries_27 : decode cX1_carries 27 = .ok (.getfield 15, 3) := by decide +kernel
theorem dX1_carries_30 : decode cX1_carries 30 = .ok (.iload_n 2, 1) := by decide +kernel
theorem dX1_carries_31 : decode cX1_carries 31 = .ok (.iaload, 1) := by decide +kernel
theorem dX1_carries_32 : decode cX1_carries 32 = .ok (.if_icmp .ne 7, 3) := by decide +kernel
theorem dX1_carries_35 : decode cX1_carries 35 = .ok (.iconst 1, 1) := by decide +kernel
theorem dX1_carries_36 : decode cX1_carries 36 = .ok (.goto 4, 3) := by decide +kernel
theorem dX1_carries_39 : decode cX1_carries 39 = .ok (.iconst 0, 1) := by decide +kernel
theorem dX1_carries_40 : decode cX1_carries 40 = .ok (.ireturn, 1) := by decide +kernel
theorem dX1_carries_41 : decode cX1_carries 41 = .ok (.aload_n 0, 1) := by decide +kernel
theorem dX1_carries_42 : decode cX1_carries 42 = .ok (.getfield 9, 3) := by decide +kernel
theorem dX1_carries_45 : decode cX1_carries 45 = .ok (.iload_n 1, 1) := by decide +kernel
theorem dX1_carries_46 : decode cX1_carries 46 = .ok (.iaload, 1) := by decide +kernel
theorem dX1_carries_47 : decode cX1_carries 47 = .ok (.ifCond .ne 24, 3) := by decide +kernel
theorem dX1_carries_50 : decode cX1_carries 50 = .ok (.aload_n 0, 1) := by decide +kernel
theorem dX1_carries_51 : decode cX1_carries 51 = .ok (.getfield 15, 3) := by decide +kernel
theorem dX1_carries_54 : decode cX1_carries 54 = .ok (.iload_n 1, 1) := by decide +kernel
theorem dX1_carries_55 : decode cX1_carries 55 = .ok (.iaload, 1) := by decide +kernel
theorem dX1_carries_56 : decode cX1_carries 56 = .ok (.aload_n 0, 1) := by decide +kernel
theorem dX1_carries_57 : decode cX1_carries 57 = .ok (.getfield 15, 3) := by decide +kernel
theorem dX1_carries_60 : decode cX1_carries 60 = .ok (.iload_n 2, 1) := by decide +kernel
theorem dX1_carries_61 : decode cX1_carries 61 = .ok (.iaload, 1) := by decide +kernel
theorem dX1_carries_62 : decode cX1_carries 62 = .ok (.iconst 1, 1) := by decide +kernel
theorem dX1_carries_63 : decode cX1_carries 63 = .ok (.isub, 1) := by decide +kernel
theorem dX1_carries_64 : decode cX1_carries 64 = .ok (.if_icmp .ne 7, 3) := by decide +kernel
theorem dX1_carries_67 : decode cX1_carries 67 = .ok (.iconst 1, 1) := by decide +kernel
theorem dX1_carries_68 : decode cX1_carries 68 = .ok (.goto 4, 3) := by decide +kernel
theorem dX1_carries_71 : decode cX1_carries 71 = .ok (.iconst 0, 1) := by decide +kernel
theorem dX1_carries_72 : decode cX1_carries 72 = .ok (.ireturn, 1) := by decide +kernel
theorem dX1_unpourFrom_0 : decode cX1_unpourFrom 0 = .ok (.iconst 0, 1) := by decide +kernel
theorem dX1_unpourFrom_1 : decode cX1_unpourFrom 1 = .ok (.istore_n 2, 1) := by decide +kernel
theorem dX1_unpourFrom_2 : decode cX1_unpourFrom 2 = .ok (.iconst 0, 1) := by decide +kernel
theorem dX1_unpourFrom_3 : decode cX1_unpourFrom 3 = .ok (.istore_n 3, 1) := by decide +kernel
theorem dX1_unpourFrom_4 : decode cX1_unpourFrom 4 = .ok (.iload_n 3, 1) := by decide +kernel
theorem dX1_unpourFrom_5 : decode cX1_unpourFrom 5 = .ok (.aload_n 0, 1) := by decide +kernel
theorem dX1_unpourFrom_6 : decode cX1_unpourFrom 6 = .ok (.getfield 38, 3) := by decide +kernel
theorem dX1_unpourFrom_9 : decode cX1_unpourFrom 9 = .ok (.if_icmp .ge 29, 3) := by decide +kernel
theorem dX1_unpourFrom_12 : decode cX1_unpourFrom 12 = .ok (.aload_n 0, 1) := by decide +kernel
theorem dX1_unpourFrom_13 : decode cX1_unpourFrom 13 = .ok (.getfield 27, 3) := by decide +kernel
theorem dX1_unpourFrom_16 : decode cX1_unpourFrom 16 = .ok (.iload_n 3, 1) := by decide +kernel
theorem dX1_unpourFrom_17 : decode cX1_unpourFrom 17 = .ok (.iaload, 1) := by decide +kernel
theorem dX1_unpourFrom_18 : decode cX1_unpourFrom 18 = .ok (.iload_n 1, 1) := by decide +kernel
theorem dX1_unpourFrom_19 : decode cX1_unpourFrom 19 = .ok (.if_icmp .lt 13, 3) := by decide +kernel
theorem dX1_unpourFrom_22 : decode cX1_unpourFrom 22 = .ok (.aload_n 0, 1) := by decide +kernel
theorem dX1_unpourFrom_23 : decode cX1_unpourFrom 23 = .ok (.getfield 27, 3) := by decide +kernel
theorem dX1_unpourFrom_26 : decode cX1_unpourFrom 26 = .ok (.iload_n 3, 1) := by decide +kernel
theorem dX1_unpourFrom_27 : decode cX1_unpourFrom 27 = .ok (.iconst (-1), 1) := by decide +kernel
theorem dX1_unpourFrom_28 : decode cX1_unpourFrom 28 = .ok (.iastore, 1) := by decide +kernel
theorem dX1_unpourFrom_29 : decode cX1_unpourFrom 29 = .ok (.iinc 2 1, 3) := by decide +kernel
theorem dX1_unpourFrom_32 : decode cX1_unpourFrom 32 = .ok (.iinc 3 1, 3) := by decide +kernel
theorem dX1_unpourFrom_35 : decode cX1_unpourFrom 35 = .ok (.goto (-31), 3) := by decide +kernel
theorem dX1_unpourFrom_38 : decode cX1_unpourFrom 38 = .ok (.iload_n 2, 1) := by decide +kernel
theorem dX1_unpourFrom_39 : decode cX1_unpourFrom 39 = .ok (.ireturn, 1) := by decide +kernel
theorem dX1_howManyPoured_0 : decode cX1_howManyPoured 0 = .ok (.iconst 0, 1) := by decide +kernel
theorem dX1_howManyPoured_1 : decode cX1_howManyPoured 1 = .ok (.istore_n 1, 1) := by decide +kernel
theorem dX1_howManyPoured_2 : decode cX1_howManyPoured 2 = .ok (.iconst 0, 1) := by decide +kernel
theorem dX1_howManyPoured_3 : decode cX1_howManyPoured 3 = .ok (.istore_n 2, 1) := by decide +kernel
theorem dX1_howManyPoured_4 : decode cX1_howManyPoured 4 = .ok (.iload_n 2, 1) := by decide +kernel
theorem dX1_howManyPoured_5 : decode cX1_howManyPoured 5 = .ok (.aload_n 0, 1) := by decide +kernel
theorem dX1_howManyPoured_6 : decode cX1_howManyPoured 6 = .ok (.getfield 38, 3) := by decide +kernel
theorem dX1_howManyPoured_9 : decode cX1_howManyPoured 9 = .ok (.if_icmp .ge 22, 3) := by decide +kernel
theorem dX1_howManyPoured_12 : decode cX1_howManyPoured 12 = .ok (.aload_n 0, 1) := by decide +kernel
theorem dX1_howManyPoured_13 : decode cX1_howManyPoured 13 = .ok (.getfield 27, 3) := by decide +kernel
theorem dX1_howManyPoured_16 : decode cX1_howManyPoured 16 = .ok (.iload_n 2, 1) := by decide +kernel
theorem dX1_howManyPoured_17 : decode cX1_howManyPoured 17 = .ok (.iaload, 1) := by decide +kernel
theorem dX1_howManyPoured_18 : decode cX1_howManyPoured 18 = .ok (.iconst (-1), 1) := by decide +kernel
theorem dX1_howManyPoured_19 : decode cX1_howManyPoured 19 = .ok (.if_icmp .eq 6, 3) := by decide +kernel
theorem dX1_howManyPoured_22 : decode cX1_howManyPoured 22 = .ok (.iinc 1 1, 3) := by decide +kernel
theorem dX1_howManyPoured_25 : decode cX1_howManyPoured 25 = .ok (.iinc 2 1, 3) := by decide +kernel
theorem dX1_howManyPoured_28 : decode cX1_howManyPoured 28 = .ok (.goto (-24), 3) := by decide +kernel
theorem dX1_howManyPoured_31 : decode cX1_howManyPoured 31 = .ok (.iload_n 1, 1) := by decide +kernel
theorem dX1_howManyPoured_32 : decode cX1_howManyPoured 32 = .ok (.ireturn, 1) := by decide +kernel
set_option maxRecDepth 100000 in
theorem ggX1_mustLead_X1_lengthenWays : GoodIn wsX1_mustLead wsX1_lengthenWays := goodIn_sub (mc (List.mem_of_getElem? (i := 7) rfl) (mem_two (mc (List.mem_of_getElem? (i := 1) rfl) (mc (List.mem_of_getElem? (i := 2) rfl) (mc (List.mem_of_getElem? (i := 8) rfl) (mc (List.mem_of_getElem? (i := 9) rfl) (mc (List.mem_of_getElem? (i := 10) rfl) (mc (List.mem_of_getElem? (i := 11) rfl) (mc (List.mem_of_getElem? (i := 12) rfl) mn))))))) (fun w h => (List.mem_cons_of_mem _ (List.mem_append_right _ h))))) (by decide +kernel)
set_option maxRecDepth 100000 in
theorem gX1_mustLead_X1_lengthenWays : GoodIn wsX1_mustLead (wsV RX1 42 RX1 yX1_lengthenWays wsX1_lengthenWays) := goodIn_app (goodIn_sub (mc (List.mem_of_getElem? (i := 3) rfl) (mc (List.mem_of_getElem? (i := 4) rfl) (mc (List.mem_of_getElem? (i := 5) rfl) (mc (List.mem_of_getElem? (i := 6) rfl) mn)))) (by decide +kernel)) ggX1_mustLead_X1_lengthenWays
theorem dX1_mustLead_0 : decode cX1_mustLead 0 = .ok (.iconst 0, 1) := by decide +kernel
theorem dX1_mustLead_1 : decode cX1_mustLead 1 = .ok (.istore_n 3, 1) := by decide +kernel
theorem dX1_mustLead_2 : decode cX1_mustLead 2 = .ok (.iload_n 3, 1) := by decide +kernel
theorem dX1_mustLead_3 : decode cX1_mustLead 3 = .ok (.aload_n 0, 1) := by decide +kernel
theorem dX1_mustLead_4 : decode cX1_mustLead 4 = .ok (.getfield 38, 3) := by decide +kernel
theorem dX1_mustLead_7 : decode cX1_mustLead 7 = .ok (.if_icmp .ge 16, 3) := by decide +kernel
theorem dX1_mustLead_10 : decode cX1_mustLead 10 = .ok (.aload_n 0, 1) := by decide +kernel
theorem dX1_mustLead_11 : decode cX1_mustLead 11 = .ok (.getfield 35, 3) := by decide +kernel
theorem dX1_mustLead_14 : decode cX1_mustLead 14 = .ok (.iload_n 3, 1) := by decide +kernel
theorem dX1_mustLead_15 : decode cX1_mustLead 15 = .ok (.iconst (-1), 1) := by decide +kernel
theorem dX1_mustLead_16 : decode cX1_mustLead 16 = .ok (.iastore, 1) := by decide +kernel
theorem dX1_mustLead_17 : decode cX1_mustLead 17 = .ok (.iinc 3 1, 3) := by decide +kernel
theorem dX1_mustLead_20 : decode cX1_mustLead 20 = .ok (.goto (-18), 3) := by decide +kernel
theorem dX1_mustLead_23 : decode cX1_mustLead 23 = .ok (.aload_n 0, 1) := by decide +kernel
theorem dX1_mustLead_24 : decode cX1_mustLead 24 = .ok (.getfield 35, 3) := by decide +kernel
theorem dX1_mustLead_27 : decode cX1_mustLead 27 = .ok (.iload_n 1, 1) := by decide +kernel
theorem dX1_mustLead_28 : decode cX1_mustLead 28 = .ok (.iconst 0, 1) := by decide +kernel
theorem dX1_mustLead_29 : decode cX1_mustLead 29 = .ok (.iastore, 1) := by decide +kernel
theorem dX1_mustLead_30 : decode cX1_mustLead 30 = .ok (.aload_n 0, 1) := by decide +kernel
theorem dX1_mustLead_31 : decode cX1_mustLead 31 = .ok (.invokevirtual 42, 3) := by decide +kernel
theorem dX1_mustLead_34 : decode cX1_mustLead 34 = .ok (.aload_n 0, 1) := by decide +kernel
theorem dX1_mustLead_35 : decode cX1_mustLead 35 = .ok (.getfield 35, 3) := by decide +kernel
theorem dX1_mustLead_38 : decode cX1_mustLead 38 = .ok (.iload_n 2, 1) := by decide +kernel
theorem dX1_mustLead_39 : decode cX1_mustLead 39 = .ok (.iaload, 1) := by decide +kernel
theorem dX1_mustLead_40 : decode cX1_mustLead 40 = .ok (.iconst (-1), 1) := by decide +kernel
theorem dX1_mustLead_41 : decode cX1_mustLead 41 = .ok (.if_icmp .eq 7, 3) := by decide +kernel
theorem dX1_mustLead_44 : decode cX1_mustLead 44 = .ok (.iconst 1, 1) := by decide +kernel
theorem dX1_mustLead_45 : decode cX1_mustLead 45 = .ok (.goto 4, 3) := by decide +kernel
theorem dX1_mustLead_48 : decode cX1_mustLead 48 = .ok (.iconst 0, 1) := by decide +kernel
theorem dX1_mustLead_49 : decode cX1_mustLead 49 = .ok (.ireturn, 1) := by decide +kernel
set_option maxRecDepth 100000 in
theorem ggX1_longestLead_X1_lengthenWays : GoodIn wsX1_longestLead wsX1_lengthenWays := goodIn_sub (mc (List.mem_of_getElem? (i := 11) rfl) (mem_two (mc (List.mem_of_getElem? (i := 1) rfl) (mc (List.mem_of_getElem? (i := 2) rfl) (mc (List.mem_of_getElem? (i := 12) rfl) (mc (List.mem_of_getElem? (i := 3) rfl) (mc (List.mem_of_getElem? (i := 4) rfl) (mc (List.mem_of_getElem? (i := 5) rfl) (mc (List.mem_of_getElem? (i := 6) rfl) mn))))))) (fun w h => (List.mem_cons_of_mem _ (List.mem_append_right _ h))))) (by decide +kernel)
set_option maxRecDepth 100000 in
theorem gX1_longestLead_X1_lengthenWays : GoodIn wsX1_longestLead (wsV RX1 42 RX1 yX1_lengthenWays wsX1_lengthenWays) := goodIn_app (goodIn_sub (mc (List.mem_of_getElem? (i := 7) rfl) (mc (List.mem_of_getElem? (i := 8) rfl) (mc (List.mem_of_getElem? (i := 9) rfl) (mc (List.mem_of_getElem? (i := 10) rfl) mn)))) (by decide +kernel)) ggX1_longestLead_X1_lengthenWays
theorem dX1_longestLead_0 : decode cX1_longestLead 0 = .ok (.iconst 0, 1) := by decide +kernel
theorem dX1_longestLead_1 : decode cX1_longestLead 1 = .ok (.istore_n 1, 1) := by decide +kernel
theorem dX1_longestLead_2 : decode cX1_longestLead 2 = .ok (.iload_n 1, 1) := by decide +kernel
theorem dX1_longestLead_3 : decode cX1_longestLead 3 = .ok (.aload_n 0, 1) := by decide +kernel
theorem dX1_longestLead_4 : decode cX1_longestLead 4 = .ok (.getfield 38, 3) := by decide +kernel
theorem dX1_longestLead_7 : decode cX1_longestLead 7 = .ok (.if_icmp .ge 16, 3) := by decide +kernel
theorem dX1_longestLead_10 : decode cX1_longestLead 10 = .ok (.aload_n 0, 1) := by decide +kernel
theorem dX1_longestLead_11 : decode cX1_longestLead 11 = .ok (.getfield 35, 3) := by decide +kernel
theorem dX1_longestLead_14 : decode cX1_longestLead 14 = .ok (.iload_n 1, 1) := by decide +kernel
theorem dX1_longestLead_15 : decode cX1_longestLead 15 = .ok (.iconst 0, 1) := by decide +kernel
theorem dX1_longestLead_16 : decode cX1_longestLead 16 = .ok (.iastore, 1) := by decide +kernel
theorem dX1_longestLead_17 : decode cX1_longestLead 17 = .ok (.iinc 1 1, 3) := by decide +kernel
theorem dX1_longestLead_20 : decode cX1_longestLead 20 = .ok (.goto (-18), 3) := by decide +kernel
theorem dX1_longestLead_23 : decode cX1_longestLead 23 = .ok (.aload_n 0, 1) := by decide +kernel
theorem dX1_longestLead_24 : decode cX1_longestLead 24 = .ok (.invokevirtual 42, 3) := by decide +kernel
theorem dX1_longestLead_27 : decode cX1_longestLead 27 = .ok (.iconst 0, 1) := by decide +kernel
theorem dX1_longestLead_28 : decode cX1_longestLead 28 = .ok (.istore_n 1, 1) := by decide +kernel
theorem dX1_longestLead_29 : decode cX1_longestLead 29 = .ok (.iconst 0, 1) := by decide +kernel
theorem dX1_longestLead_30 : decode cX1_longestLead 30 = .ok (.istore_n 2, 1) := by decide +kernel
theorem dX1_longestLead_31 : decode cX1_longestLead 31 = .ok (.iload_n 2, 1) := by decide +kernel
theorem dX1_longestLead_32 : decode cX1_longestLead 32 = .ok (.aload_n 0, 1) := by decide +kernel
theorem dX1_longestLead_33 : decode cX1_longestLead 33 = .ok (.getfield 38, 3) := by decide +kernel
theorem dX1_longestLead_36 : decode cX1_longestLead 36 = .ok (.if_icmp .ge 20, 3) := by decide +kernel
theorem dX1_longestLead_39 : decode cX1_longestLead 39 = .ok (.iload_n 1, 1) := by decide +kernel
theorem dX1_longestLead_40 : decode cX1_longestLead 40 = .ok (.aload_n 0, 1) := by decide +kernel
theorem dX1_longestLead_41 : decode cX1_longestLead 41 = .ok (.getfield 35, 3) := by decide +kernel
theorem dX1_longestLead_44 : decode cX1_longestLead 44 = .ok (.iload_n 2, 1) := by decide +kernel
theorem dX1_longestLead_45 : decode cX1_longestLead 45 = .ok (.iaload, 1) := by decide +kernel
theorem dX1_longestLead_46 : decode cX1_longestLead 46 = .ok (.invokestatic 45, 3) := by decide +kernel
theorem dX1_longestLead_49 : decode cX1_longestLead 49 = .ok (.istore_n 1, 1) := by decide +kernel
theorem dX1_longestLead_50 : decode cX1_longestLead 50 = .ok (.iinc 2 1, 3) := by decide +kernel
theorem dX1_longestLead_53 : decode cX1_longestLead 53 = .ok (.goto (-22), 3) := by decide +kernel
theorem dX1_longestLead_56 : decode cX1_longestLead 56 = .ok (.iload_n 1, 1) := by decide +kernel
theorem dX1_longestLead_57 : decode cX1_longestLead 57 = .ok (.ireturn, 1) := by decide +kernel
theorem dX1_lengthenWays_0 : decode cX1_lengthenWays 0 = .ok (.iconst 1, 1) := by decide +kernel
theorem dX1_lengthenWays_1 : decode cX1_lengthenWays 1 = .ok (.istore_n 1, 1) := by decide +kernel
theorem dX1_lengthenWays_2 : decode cX1_lengthenWays 2 = .ok (.iload_n 1, 1) := by decide +kernel
theorem dX1_lengthenWays_3 : decode cX1_lengthenWays 3 = .ok (.aload_n 0, 1) := by decide +kernel
theorem dX1_lengthenWays_4 : decode cX1_lengthenWays 4 = .ok (.getfield 38, 3) := by decide +kernel
theorem dX1_lengthenWays_7 : decode cX1_lengthenWays 7 = .ok (.if_icmp .ge 93, 3) := by decide +kernel
theorem dX1_lengthenWays_10 : decode cX1_lengthenWays 10 = .ok (.iconst 0, 1) := by decide +kernel
theorem dX1_lengthenWays_11 : decode cX1_lengthenWays 11 = .ok (.istore_n 2, 1) := by decide +kernel
theorem dX1_lengthenWays_12 : decode cX1_lengthenWays 12 = .ok (.iload_n 2, 1) := by decide +kernel
theorem dX1_lengthenWays_13 : decode cX1_lengthenWays 13 = .ok (.aload_n 0, 1) := by decide +kernel
theorem dX1_lengthenWays_14 : decode cX1_lengthenWays 14 = .ok (.getfield 38, 3) := by decide +kernel
theorem dX1_lengthenWays_17 : decode cX1_lengthenWays 17 = .ok (.if_icmp .ge 77, 3) := by decide +kernel
theorem dX1_lengthenWays_20 : decode cX1_lengthenWays 20 = .ok (.iconst 0, 1) := by decide +kernel
theorem dX1_lengthenWays_21 : decode cX1_lengthenWays 21 = .ok (.istore_n 3, 1) := by decide +kernel
theorem dX1_lengthenWays_22 : decode cX1_lengthenWays 22 = .ok (.iload_n 3, 1) := by decide +kernel
theorem dX1_lengthenWays_23 : decode cX1_lengthenWays 23 = .ok (.aload_n 0, 1) := by decide +kernel
theorem dX1_lengthenWays_24 : decode cX1_lengthenWays 24 = .ok (.getfield 38, 3) := by decide +kernel
theorem dX1_lengthenWays_27 : decode cX1_lengthenWays 27 = .ok (.if_icmp .ge 61, 3) := by decide +kernel
theorem dX1_lengthenWays_30 : decode cX1_lengthenWays 30 = .ok (.aload_n 0, 1) := by decide +kernel
theorem dX1_lengthenWays_31 : decode cX1_lengthenWays 31 = .ok (.getfield 35, 3) := by decide +kernel
theorem dX1_lengthenWays_34 : decode cX1_lengthenWays 34 = .ok (.iload_n 2, 1) := by decide +kernel
theorem dX1_lengthenWays_35 : decode cX1_lengthenWays 35 = .ok (.iaload, 1) := by decide +kernel
theorem dX1_lengthenWays_36 : decode cX1_lengthenWays 36 = .ok (.iconst (-1), 1) := by decide +kernel
theorem dX1_lengthenWays_37 : decode cX1_lengthenWays 37 = .ok (.if_icmp .eq 45, 3) := by decide +kernel
theorem dX1_lengthenWays_40 : decode cX1_lengthenWays 40 = .ok (.aload_n 0, 1) := by decide +kernel
theorem dX1_lengthenWays_41 : decode cX1_lengthenWays 41 = .ok (.getfield 32, 3) := by decide +kernel
theorem dX1_lengthenWays_44 : decode cX1_lengthenWays 44 = .ok (.iload_n 2, 1) := by decide +kernel
theorem dX1_lengthenWays_45 : decode cX1_lengthenWays 45 = .ok (.aaload, 1) := by decide +kernel
theorem dX1_lengthenWays_46 : decode cX1_lengthenWays 46 = .ok (.iload_n 3, 1) := by decide +kernel
theorem dX1_lengthenWays_47 : decode cX1_lengthenWays 47 = .ok (.iaload, 1) := by decide +kernel
theorem dX1_lengthenWays_48 : decode cX1_lengthenWays 48 = .ok (.iconst (-1), 1) := by decide +kernel
theorem dX1_lengthenWays_49 : decode cX1_lengthenWays 49 = .ok (.if_icmp .eq 33, 3) := by decide +kernel
theorem dX1_lengthenWays_52 : decode cX1_lengthenWays 52 = .ok (.aload_n 0, 1) := by decide +kernel
theorem dX1_lengthenWays_53 : decode cX1_lengthenWays 53 = .ok (.getfield 35, 3) := by decide +kernel
theorem dX1_lengthenWays_56 : decode cX1_lengthenWays 56 = .ok (.iload_n 3, 1) := by decide +kernel
theorem dX1_lengthenWays_57 : decode cX1_lengthenWays 57 = .ok (.aload_n 0, 1) := by decide +kernel
theorem dX1_lengthenWays_58 : decode cX1_lengthenWays 58 = .ok (.getfield 35, 3) := by decide +kernel
theorem dX1_lengthenWays_61 : decode cX1_lengthenWays 61 = .ok (.iload_n 3, 1) := by decide +kernel
theorem dX1_lengthenWays_62 : decode cX1_lengthenWays 62 = .ok (.iaload, 1) := by decide +kernel
theorem dX1_lengthenWays_63 : decode cX1_lengthenWays 63 = .ok (.aload_n 0, 1) := by decide +kernel
theorem dX1_lengthenWays_64 : decode cX1_lengthenWays 64 = .ok (.getfield 35, 3) := by decide +kernel
theorem dX1_lengthenWays_67 : decode cX1_lengthenWays 67 = .ok (.iload_n 2, 1) := by decide +kernel
theorem dX1_lengthenWays_68 : decode cX1_lengthenWays 68 = .ok (.iaload, 1) := by decide +kernel
theorem dX1_lengthenWays_69 : decode cX1_lengthenWays 69 = .ok (.aload_n 0, 1) := by decide +kernel
theorem dX1_lengthenWays_70 : decode cX1_lengthenWays 70 = .ok (.getfield 32, 3) := by decide +kernel
theorem dX1_lengthenWays_73 : decode cX1_lengthenWays 73 = .ok (.iload_n 2, 1) := by decide +kernel
theorem dX1_lengthenWays_74 : decode cX1_lengthenWays 74 = .ok (.aaload, 1) := by decide +kernel
theorem dX1_lengthenWays_75 : decode cX1_lengthenWays 75 = .ok (.iload_n 3, 1) := by decide +kernel
theorem dX1_lengthenWays_76 : decode cX1_lengthenWays 76 = .ok (.iaload, 1) := by decide +kernel
theorem dX1_lengthenWays_77 : decode cX1_lengthenWays 77 = .ok (.iadd, 1) := by decide +kernel
theorem dX1_lengthenWays_78 : decode cX1_lengthenWays 78 = .ok (.invokestatic 45, 3) := by decide +kernel
theorem dX1_lengthenWays_81 : decode cX1_lengthenWays 81 = .ok (.iastore, 1) := by decide +kernel
theorem dX1_lengthenWays_82 : decode cX1_lengthenWays 82 = .ok (.iinc 3 1, 3) := by decide +kernel
theorem dX1_lengthenWays_85 : decode cX1_lengthenWays 85 = .ok (.goto (-63), 3) := by decide +kernel
theorem dX1_lengthenWays_88 : decode cX1_lengthenWays 88 = .ok (.iinc 2 1, 3) := by decide +kernel
theorem dX1_lengthenWays_91 : decode cX1_lengthenWays 91 = .ok (.goto (-79), 3) := by decide +kernel
theorem dX1_lengthenWays_94 : decode cX1_lengthenWays 94 = .ok (.iinc 1 1, 3) := by decide +kernel
theorem dX1_lengthenWays_97 : decode cX1_lengthenWays 97 = .ok (.goto (-95), 3) := by decide +kernel
theorem dX1_lengthenWays_100 : decode cX1_lengthenWays 100 = .ok (.return_, 1) := by decide +kernel
theorem dX2_init_0 : decode cX2_init 0 = .ok (.aload_n 0, 1) := by decide +kernel
theorem dX2_init_1 : decode cX2_init 1 = .ok (.invokespecial 3, 3) := by decide +kernel
theorem dX2_init_4 : decode cX2_init 4 = .ok (.aload_n 0, 1) := by decide +kernel
theorem dX2_init_5 : decode cX2_init 5 = .ok (.bipush 10, 2) := by decide +kernel
theorem dX2_init_7 : decode cX2_init 7 = .ok (.newarray .int, 2) := by decide +kernel
theorem dX2_init_9 : decode cX2_init 9 = .ok (.putfield 9, 3) := by decide +kernel
theorem dX2_init_12 : decode cX2_init 12 = .ok (.aload_n 0, 1) := by decide +kernel
theorem dX2_init_13 : decode cX2_init 13 = .ok (.iconst 0, 1) := by decide +kernel
theorem dX2_init_14 : decode cX2_init 14 = .ok (.putfield 15, 3) := by decide +kernel
theorem dX2_init_17 : decode cX2_init 17 = .ok (.return_, 1) := by decide +kernel
theorem dX2_append_0 : decode cX2_append 0 = .ok (.aload_n 0, 1) := by decide +kernel
theorem dX2_append_1 : decode cX2_append 1 = .ok (.getfield 15, 3) := by decide +kernel
theorem dX2_append_4 : decode cX2_append 4 = .ok (.bipush 10, 2) := by decide +kernel
theorem dX2_append_6 : decode cX2_append 6 = .ok (.if_icmp .ge 23, 3) := by decide +kernel
theorem dX2_append_9 : decode cX2_append 9 = .ok (.aload_n 0, 1) := by decide +kernel
theorem dX2_append_10 : decode cX2_append 10 = .ok (.getfield 9, 3) := by decide +kernel
theorem dX2_append_13 : decode cX2_append 13 = .ok (.aload_n 0, 1) := by decide +kernel
theorem dX2_append_14 : decode cX2_append 14 = .ok (.getfield 15, 3) := by decide +kernel
theorem dX2_append_17 : decode cX2_append 17 = .ok (.iload_n 1, 1) := by decide +kernel
theorem dX2_append_18 : decode cX2_append 18 = .ok (.iastore, 1) := by decide +kernel
theorem dX2_append_19 : decode cX2_append 19 = .ok (.aload_n 0, 1) := by decide +kernel
theorem dX2_append_20 : decode cX2_append 20 = .ok (.dup, 1) := by decide +kernel
theorem dX2_append_21 : decode cX2_append 21 = .ok (.getfield 15, 3) := by decide +kernel
theorem dX2_append_24 : decode cX2_append 24 = .ok (.iconst 1, 1) := by decide +kernel
theorem dX2_append_25 : decode cX2_append 25 = .ok (.iadd, 1) := by decide +kernel
theorem dX2_append_26 : decode cX2_append 26 = .ok (.putfield 15, 3) := by decide +kernel
theorem dX2_append_29 : decode cX2_append 29 = .ok (.return_, 1) := by decide +kernel
theorem dX2_placeOf_0 : decode cX2_placeOf 0 = .ok (.iconst 0, 1) := by decide +kernel
theorem dX2_placeOf_1 : decode cX2_placeOf 1 = .ok (.istore_n 2, 1) := by decide +kernel
theorem dX2_placeOf_2 : decode cX2_placeOf 2 = .ok (.iload_n 2, 1) := by decide +kernel
theorem dX2_placeOf_3 : decode cX2_placeOf 3 = .ok (.aload_n 0, 1) := by decide +kernel
theorem dX2_placeOf_4 : decode cX2_placeOf 4 = .ok (.getfield 15, 3) := by decide +kernel
theorem dX2_placeOf_7 : decode cX2_placeOf 7 = .ok (.if_icmp .ge 21, 3) := by decide +kernel
theorem dX2_placeOf_10 : decode cX2_placeOf 10 = .ok (.aload_n 0, 1) := by decide +kernel
theorem dX2_placeOf_11 : decode cX2_placeOf 11 = .ok (.getfield 9, 3) := by decide +kernel
theorem dX2_placeOf_14 : decode cX2_placeOf 14 = .ok (.iload_n 2, 1) := by decide +kernel
theorem dX2_placeOf_15 : decode cX2_placeOf 15 = .ok (.iaload, 1) := by decide +kernel
theorem dX2_placeOf_16 : decode cX2_placeOf 16 = .ok (.iload_n 1, 1) := by decide +kernel
theorem dX2_placeOf_17 : decode cX2_placeOf 17 = .ok (.if_icmp .ne 5, 3) := by decide +kernel
theorem dX2_placeOf_20 : decode cX2_placeOf 20 = .ok (.iload_n 2, 1) := by decide +kernel
theorem dX2_placeOf_21 : decode cX2_placeOf 21 = .ok (.ireturn, 1) := by decide +kernel
theorem dX2_placeOf_22 : decode cX2_placeOf 22 = .ok (.iinc 2 1, 3) := by decide +kernel
theorem dX2_placeOf_25 : decode cX2_placeOf 25 = .ok (.goto (-23), 3) := by decide +kernel
theorem dX2_placeOf_28 : decode cX2_placeOf 28 = .ok (.iconst (-1), 1) := by decide +kernel
theorem dX2_placeOf_29 : decode cX2_placeOf 29 = .ok (.ireturn, 1) := by decide +kernel
theorem dX2_isPlace_0 : decode cX2_isPlace 0 = .ok (.iload_n 1, 1) := by decide +kernel
theorem dX2_isPlace_1 : decode cX2_isPlace 1 = .ok (.ifCond .lt 15, 3) := by decide +kernel
theorem dX2_isPlace_4 : decode cX2_isPlace 4 = .ok (.iload_n 1, 1) := by decide +kernel
theorem dX2_isPlace_5 : decode cX2_isPlace 5 = .ok (.aload_n 0, 1) := by decide +kernel
theorem dX2_isPlace_6 : decode cX2_isPlace 6 = .ok (.getfield 15, 3) := by decide +kernel
theorem dX2_isPlace_9 : decode cX2_isPlace 9 = .ok (.if_icmp .ge 7, 3) := by decide +kernel
theorem dX2_isPlace_12 : decode cX2_isPlace 12 = .ok (.iconst 1, 1) := by decide +kernel
theorem dX2_isPlace_13 : decode cX2_isPlace 13 = .ok (.goto 4, 3) := by decide +kernel
theorem dX2_isPlace_16 : decode cX2_isPlace 16 = .ok (.iconst 0, 1) := by decide +kernel
theorem dX2_isPlace_17 : decode cX2_isPlace 17 = .ok (.ireturn, 1) := by decide +kernel
set_option maxRecDepth 100000 in
theorem ggX2_move_X2_isPlace : GoodIn wsX2_move wsX2_isPlace := goodIn_sub (mc (List.mem_of_getElem? (i := 6) rfl) (mem_two (mc (List.mem_of_getElem? (i := 7) rfl) mn) (fun w h => (List.mem_cons_of_mem _ (List.mem_append_right _ h))))) (by decide +kernel)
set_option maxRecDepth 100000 in
theorem gX2_move_X2_isPlace : GoodIn wsX2_move (wsV RX2 19 RX2 yX2_isPlace wsX2_isPlace) := goodIn_app (goodIn_sub (mc (List.mem_of_getElem? (i := 2) rfl) (mc (List.mem_of_getElem? (i := 3) rfl) (mc (List.mem_of_getElem? (i := 4) rfl) (mc (List.mem_of_getElem? (i := 5) rfl) mn)))) (by decide +kernel)) ggX2_move_X2_isPlace
theorem dX2_move_0 : decode cX2_move 0 = .ok (.aload_n 0, 1) := by decide +kernel
theorem dX2_move_1 : decode cX2_move 1 = .ok (.iload_n 1, 1) := by decide +kernel
theorem dX2_move_2 : decode cX2_move 2 = .ok (.invokevirtual 19, 3) := by decide +kernel
theorem dX2_move_5 : decode cX2_move 5 = .ok (.ifCond .eq 11, 3) := by decide +kernel
theorem dX2_move_8 : decode cX2_move 8 = .ok (.aload_n 0, 1) := by decide +kernel
theorem dX2_move_9 : decode cX2_move 9 = .ok (.iload_n 2, 1) := by decide +kernel
theorem dX2_move_10 : decode cX2_move 10 = .ok (.invokevirtual 19, 3) := by decide +kernel
theorem dX2_move_13 : decode cX2_move 13 = .ok (.ifCond .ne 4, 3) := by decide +kernel
theorem dX2_move_16 : decode cX2_move 16 = .ok (.return_, 1) := by decide +kernel
theorem dX2_move_17 : decode cX2_move 17 = .ok (.aload_n 0, 1) := by decide +kernel
theorem dX2_move_18 : decode cX2_move 18 = .ok (.getfield 9, 3) := by decide +kernel
theorem dX2_move_21 : decode cX2_move 21 = .ok (.iload_n 1, 1) := by decide +kernel
theorem dX2_move_22 : decode cX2_move 22 = .ok (.iaload, 1) := by decide +kernel
theorem dX2_move_23 : decode cX2_move 23 = .ok (.istore_n 3, 1) := by decide +kernel
theorem dX2_move_24 : decode cX2_move 24 = .ok (.iload_n 1, 1) := by decide +kernel
theorem dX2_move_25 : decode cX2_move 25 = .ok (.istore 4, 2) := by decide +kernel
theorem dX2_move_27 : decode cX2_move 27 = .ok (.iload 4, 2) := by decide +kernel
theorem dX2_move_29 : decode cX2_move 29 = .ok (.iload_n 2, 1) := by decide +kernel
theorem dX2_move_30 : decode cX2_move 30 = .ok (.if_icmp .ge 25, 3) := by decide +kernel
theorem dX2_move_33 : decode cX2_move 33 = .ok (.aload_n 0, 1) := by decide +kernel
theorem dX2_move_34 : decode cX2_move 34 = .ok (.getfield 9, 3) := by decide +kernel
theorem dX2_move_37 : decode cX2_move 37 = .ok (.iload 4, 2) := by decide +kernel
theorem dX2_move_39 : decode cX2_move 39 = .ok (.aload_n 0, 1) := by decide +kernel
theorem dX2_move_40 : decode cX2_move 40 = .ok (.getfield 9, 3) := by decide +kernel
theorem dX2_move_43 : decode cX2_move 43 = .ok (.iload 4, 2) := by decide +kernel
theorem dX2_move_45 : decode cX2_move 45 = .ok (.iconst 1, 1) := by decide +kernel
theorem dX2_move_46 : decode cX2_move 46 = .ok (.iadd, 1) := by decide +kernel
theorem dX2_move_47 : decode cX2_move 47 = .ok (.iaload, 1) := by decide +kernel
theorem dX2_move_48 : decode cX2_move 48 = .ok (.iastore, 1) := by decide +kernel
theorem dX2_move_49 : decode cX2_move 49 = .ok (.iinc 4 1, 3) := by decide +kernel
theorem dX2_move_52 : decode cX2_move 52 = .ok (.goto (-25), 3) := by decide +kernel
theorem dX2_move_55 : decode cX2_move 55 = .ok (.iload_n 1, 1) := by decide +kernel
theorem dX2_move_56 : decode cX2_move 56 = .ok (.istore 4, 2) := by decide +kernel
theorem dX2_move_58 : decode cX2_move 58 = .ok (.iload 4, 2) := by decide +kernel
theorem dX2_move_60 : decode cX2_move 60 = .ok (.iload_n 2, 1) := by decide +kernel
theorem dX2_move_61 : decode cX2_move 61 = .ok (.if_icmp .le 25, 3) := by decide +kernel
theorem dX2_move_64 : decode cX2_move 64 = .ok (.aload_n 0, 1) := by decide +kernel
theorem dX2_move_65 : decode cX2_move 65 = .ok (.getfield 9, 3) := by decide +kernel
theorem dX2_move_68 : decode cX2_move 68 = .ok (.iload 4, 2) := by decide +kernel
theorem dX2_move_70 : decode cX2_move 70 = .ok (.aload_n 0, 1) := by decide +kernel
theorem dX2_move_71 : decode cX2_move 71 = .ok (.getfield 9, 3) := by decide +kernel
theorem dX2_move_74 : decode cX2_move 74 = .ok (.iload 4, 2) := by decide +kernel
theorem dX2_move_76 : decode cX2_move 76 = .ok (.iconst 1, 1) := by decide +kernel
theorem dX2_move_77 : decode cX2_move 77 = .ok (.isub, 1) := by decide +kernel
theorem dX2_move_78 : decode cX2_move 78 = .ok (.iaload, 1) := by decide +kernel
theorem dX2_move_79 : decode cX2_move 79 = .ok (.iastore, 1) := by decide +kernel
theorem dX2_move_80 : decode cX2_move 80 = .ok (.iinc 4 (-1), 3) := by decide +kernel
theorem dX2_move_83 : decode cX2_move 83 = .ok (.goto (-25), 3) := by decide +kernel
theorem dX2_move_86 : decode cX2_move 86 = .ok (.aload_n 0, 1) := by decide +kernel
theorem dX2_move_87 : decode cX2_move 87 = .ok (.getfield 9, 3) := by decide +kernel
theorem dX2_move_90 : decode cX2_move 90 = .ok (.iload_n 2, 1) := by decide +kernel
theorem dX2_move_91 : decode cX2_move 91 = .ok (.iload_n 3, 1) := by decide +kernel
theorem dX2_move_92 : decode cX2_move 92 = .ok (.iastore, 1) := by decide +kernel
theorem dX2_move_93 : decode cX2_move 93 = .ok (.return_, 1) := by decide +kernel
theorem dX2_sort_0 : decode cX2_sort 0 = .ok (.iconst 0, 1) := by decide +kernel
theorem dX2_sort_1 : decode cX2_sort 1 = .ok (.istore_n 1, 1) := by decide +kernel
theorem dX2_sort_2 : decode cX2_sort 2 = .ok (.iload_n 1, 1) := by decide +kernel
theorem dX2_sort_3 : decode cX2_sort 3 = .ok (.aload_n 0, 1) := by decide +kernel
theorem dX2_sort_4 : decode cX2_sort 4 = .ok (.getfield 15, 3) := by decide +kernel
theorem dX2_sort_7 : decode cX2_sort 7 = .ok (.if_icmp .ge 16, 3) := by decide +kernel
theorem dX2_sort_10 : decode cX2_sort 10 = .ok (.aload_n 0, 1) := by decide +kernel
theorem dX2_sort_11 : decode cX2_sort 11 = .ok (.getfield 9, 3) := by decide +kernel
theorem dX2_sort_14 : decode cX2_sort 14 = .ok (.iload_n 1, 1) := by decide +kernel
theorem dX2_sort_15 : decode cX2_sort 15 = .ok (.iload_n 1, 1) := by decide +kernel
theorem dX2_sort_16 : decode cX2_sort 16 = .ok (.iastore, 1) := by decide +kernel
theorem dX2_sort_17 : decode cX2_sort 17 = .ok (.iinc 1 1, 3) := by decide +kernel
theorem dX2_sort_20 : decode cX2_sort 20 = .ok (.goto (-18), 3) := by decide +kernel
theorem dX2_sort_23 : decode cX2_sort 23 = .ok (.return_, 1) := by decide +kernel
set_option maxRecDepth 100000 in
theorem ggX2_toNext_X2_swap : GoodIn wsX2_toNext wsX2_swap := goodIn_sub (mc (List.mem_of_getElem? (i := 7) rfl) (mem_two (mc (List.mem_of_getElem? (i := 2) rfl) mn) (fun w h => (List.mem_cons_of_mem _ (List.mem_append_right _ h))))) (by decide +kernel)
set_option maxRecDepth 100000 in
theorem gX2_toNext_X2_swap : GoodIn wsX2_toNext (wsV RX2 23 RX2 yX2_swap wsX2_swap) := goodIn_app (goodIn_sub (mc (List.mem_of_getElem? (i := 3) rfl) (mc (List.mem_of_getElem? (i := 4) rfl) (mc (List.mem_of_getElem? (i := 5) rfl) (mc (List.mem_of_getElem? (i := 6) rfl) mn)))) (by decide +kernel)) ggX2_toNext_X2_swap
theorem dX2_toNext_0 : decode cX2_toNext 0 = .ok (.aload_n 0, 1) := by decide +kernel
theorem dX2_toNext_1 : decode cX2_toNext 1 = .ok (.getfield 15, 3) := by decide +kernel
theorem dX2_toNext_4 : decode cX2_toNext 4 = .ok (.iconst 2, 1) := by decide +kernel
theorem dX2_toNext_5 : decode cX2_toNext 5 = .ok (.isub, 1) := by decide +kernel
theorem dX2_toNext_6 : decode cX2_toNext 6 = .ok (.istore_n 1, 1) := by decide +kernel
theorem dX2_toNext_7 : decode cX2_toNext 7 = .ok (.iload_n 1, 1) := by decide +kernel
theorem dX2_toNext_8 : decode cX2_toNext 8 = .ok (.ifCond .lt 26, 3) := by decide +kernel
theorem dX2_toNext_11 : decode cX2_toNext 11 = .ok (.aload_n 0, 1) := by decide +kernel
theorem dX2_toNext_12 : decode cX2_toNext 12 = .ok (.getfield 9, 3) := by decide +kernel
theorem dX2_toNext_15 : decode cX2_toNext 15 = .ok (.iload_n 1, 1) := by decide +kernel
theorem dX2_toNext_16 : decode cX2_toNext 16 = .ok (.iaload, 1) := by decide +kernel
theorem dX2_toNext_17 : decode cX2_toNext 17 = .ok (.aload_n 0, 1) := by decide +kernel
theorem dX2_toNext_18 : decode cX2_toNext 18 = .ok (.getfield 9, 3) := by decide +kernel
theorem dX2_toNext_21 : decode cX2_toNext 21 = .ok (.iload_n 1, 1) := by decide +kernel
theorem dX2_toNext_22 : decode cX2_toNext 22 = .ok (.iconst 1, 1) := by decide +kernel
theorem dX2_toNext_23 : decode cX2_toNext 23 = .ok (.iadd, 1) := by decide +kernel
theorem dX2_toNext_24 : decode cX2_toNext 24 = .ok (.iaload, 1) := by decide +kernel
theorem dX2_toNext_25 : decode cX2_toNext 25 = .ok (.if_icmp .le 9, 3) := by decide +kernel
theorem dX2_toNext_28 : decode cX2_toNext 28 = .ok (.iinc 1 (-1), 3) := by decide +kernel
theorem dX2_toNext_31 : decode cX2_toNext 31 = .ok (.goto (-24), 3) := by decide +kernel
theorem dX2_toNext_34 : decode cX2_toNext 34 = .ok (.iload_n 1, 1) := by decide +kernel
theorem dX2_toNext_35 : decode cX2_toNext 35 = .ok (.ifCond .ge 5, 3) := by decide +kernel
theorem dX2_toNext_38 : decode cX2_toNext 38 = .ok (.iconst 0, 1) := by decide +kernel
theorem dX2_toNext_39 : decode cX2_toNext 39 = .ok (.ireturn, 1) := by decide +kernel
theorem dX2_toNext_40 : decode cX2_toNext 40 = .ok (.aload_n 0, 1) := by decide +kernel
theorem dX2_toNext_41 : decode cX2_toNext 41 = .ok (.getfield 15, 3) := by decide +kernel
theorem dX2_toNext_44 : decode cX2_toNext 44 = .ok (.iconst 1, 1) := by decide +kernel
theorem dX2_toNext_45 : decode cX2_toNext 45 = .ok (.isub, 1) := by decide +kernel
theorem dX2_toNext_46 : decode cX2_toNext 46 = .ok (.istore_n 2, 1) := by decide +kernel
theorem dX2_toNext_47 : decode cX2_toNext 47 = .ok (.iload_n 2, 1) := by decide +kernel
theorem dX2_toNext_48 : decode cX2_toNext 48 = .ok (.iload_n 1, 1) := by decide +kernel
theorem dX2_toNext_49 : decode cX2_toNext 49 = .ok (.if_icmp .le 24, 3) := by decide +kernel
theorem dX2_toNext_52 : decode cX2_toNext 52 = .ok (.aload_n 0, 1) := by decide +kernel
theorem dX2_toNext_53 : decode cX2_toNext 53 = .ok (.getfield 9, 3) := by decide +kernel
theorem dX2_toNext_56 : decode cX2_toNext 56 = .ok (.iload_n 2, 1) := by decide +kernel
theorem dX2_toNext_57 : decode cX2_toNext 57 = .ok (.iaload, 1) := by decide +kernel
theorem dX2_toNext_58 : decode cX2_toNext 58 = .ok (.aload_n 0, 1) := by decide +kernel
theorem dX2_toNext_59 : decode cX2_toNext 59 = .ok (.getfield 9, 3) := by decide +kernel
theorem dX2_toNext_62 : decode cX2_toNext 62 = .ok (.iload_n 1, 1) := by decide +kernel
theorem dX2_toNext_63 : decode cX2_toNext 63 = .ok (.iaload, 1) := by decide +kernel
theorem dX2_toNext_64 : decode cX2_toNext 64 = .ok (.if_icmp .ge 9, 3) := by decide +kernel
theorem dX2_toNext_67 : decode cX2_toNext 67 = .ok (.iinc 2 (-1), 3) := by decide +kernel
theorem dX2_toNext_70 : decode cX2_toNext 70 = .ok (.goto (-23), 3) := by decide +kernel
theorem dX2_toNext_73 : decode cX2_toNext 73 = .ok (.aload_n 0, 1) := by decide +kernel
theorem dX2_toNext_74 : decode cX2_toNext 74 = .ok (.iload_n 1, 1) := by decide +kernel
theorem dX2_toNext_75 : decode cX2_toNext 75 = .ok (.iload_n 2, 1) := by decide +kernel
theorem dX2_toNext_76 : decode cX2_toNext 76 = .ok (.invokevirtual 23, 3) := by decide +kernel
theorem dX2_toNext_79 : decode cX2_toNext 79 = .ok (.iload_n 1, 1) := by decide +kernel
theorem dX2_toNext_80 : decode cX2_toNext 80 = .ok (.iconst 1, 1) := by decide +kernel
theorem dX2_toNext_81 : decode cX2_toNext 81 = .ok (.iadd, 1) := by decide +kernel
theorem dX2_toNext_82 : decode cX2_toNext 82 = .ok (.istore_n 3, 1) := by decide +kernel
theorem dX2_toNext_83 : decode cX2_toNext 83 = .ok (.aload_n 0, 1) := by decide +kernel
theorem dX2_toNext_84 : decode cX2_toNext 84 = .ok (.getfield 15, 3) := by decide +kernel
theorem dX2_toNext_87 : decode cX2_toNext 87 = .ok (.iconst 1, 1) := by decide +kernel
theorem dX2_toNext_88 : decode cX2_toNext 88 = .ok (.isub, 1) := by decide +kernel
theorem dX2_toNext_89 : decode cX2_toNext 89 = .ok (.istore 4, 2) := by decide +kernel
theorem dX2_toNext_91 : decode cX2_toNext 91 = .ok (.iload_n 3, 1) := by decide +kernel
theorem dX2_toNext_92 : decode cX2_toNext 92 = .ok (.iload 4, 2) := by decide +kernel
theorem dX2_toNext_94 : decode cX2_toNext 94 = .ok (.if_icmp .ge 19, 3) := by decide +kernel
theorem dX2_toNext_97 : decode cX2_toNext 97 = .ok (.aload_n 0, 1) := by decide +kernel
theorem dX2_toNext_98 : decode cX2_toNext 98 = .ok (.iload_n 3, 1) := by decide +kernel
theorem dX2_toNext_99 : decode cX2_toNext 99 = .ok (.iload 4, 2) := by decide +kernel
theorem dX2_toNext_101 : decode cX2_toNext 101 = .ok (.invokevirtual 23, 3) := by decide +kernel
theorem dX2_toNext_104 : decode cX2_toNext 104 = .ok (.iinc 3 1, 3) := by decide +kernel
theorem dX2_toNext_107 : decode cX2_toNext 107 = .ok (.iinc 4 (-1), 3) := by decide +kernel
theorem dX2_toNext_110 : decode cX2_toNext 110 = .ok (.goto (-19), 3) := by decide +kernel
theorem dX2_toNext_113 : decode cX2_toNext 113 = .ok (.iconst 1, 1) := by decide +kernel
theorem dX2_toNext_114 : decode cX2_toNext 114 = .ok (.ireturn, 1) := by decide +kernel
theorem dX2_swap_0 : decode cX2_swap 0 = .ok (.aload_n 0, 1) := by decide +kernel
theorem dX2_swap_1 : decode cX2_swap 1 = .ok (.getfield 9, 3) := by decide +kernel
theorem dX2_swap_4 : decode cX2_swap 4 = .ok (.iload_n 1, 1) := by decide +kernel
theorem dX2_swap_5 : decode cX2_swap 5 = .ok (.iaload, 1) := by decide +kernel
theorem dX2_swap_6 : decode cX2_swap 6 = .ok (.istore_n 3, 1) := by decide +kernel
theorem dX2_swap_7 : decode cX2_swap 7 = .ok (.aload_n 0, 1) := by decide +kernel
theorem dX2_swap_8 : decode cX2_swap 8 = .ok (.getfield 9, 3) := by decide +kernel
theorem dX2_swap_11 : decode cX2_swap 11 = .ok (.iload_n 1, 1) := by decide +kernel
theorem dX2_swap_12 : decode cX2_swap 12 = .ok (.aload_n 0, 1) := by decide +kernel
theorem dX2_swap_13 : decode cX2_swap 13 = .ok (.getfield 9, 3) := by decide +kernel
theorem dX2_swap_16 : decode cX2_swap 16 = .ok (.iload_n 2, 1) := by decide +kernel
theorem dX2_swap_17 : decode cX2_swap 17 = .ok (.iaload, 1) := by decide +kernel
theorem dX2_swap_18 : decode cX2_swap 18 = .ok (.iastore, 1) := by decide +kernel
theorem dX2_swap_19 : decode cX2_swap 19 = .ok (.aload_n 0, 1) := by decide +kernel
theorem dX2_swap_20 : decode cX2_swap 20 = .ok (.getfield 9, 3) := by decide +kernel
theorem dX2_swap_23 : decode cX2_swap 23 = .ok (.iload_n 2, 1) := by decide +kernel
theorem dX2_swap_24 : decode cX2_swap 24 = .ok (.iload_n 3, 1) := by decide +kernel
theorem dX2_swap_25 : decode cX2_swap 25 = .ok (.iastore, 1) := by decide +kernel
theorem dX2_swap_26 : decode cX2_swap 26 = .ok (.return_, 1) := by decide +kernel
