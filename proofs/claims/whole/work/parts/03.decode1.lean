theorem dX0_init_0 : decode cX0_init 0 = .ok (.aload_n 0, 1) := by decide +kernel
theorem dX0_init_1 : decode cX0_init 1 = .ok (.invokespecial 3, 3) := by decide +kernel
theorem dX0_init_4 : decode cX0_init 4 = .ok (.aload_n 0, 1) := by decide +kernel
theorem dX0_init_5 : decode cX0_init 5 = .ok (.bipush 6, 2) := by decide +kernel
theorem dX0_init_7 : decode cX0_init 7 = .ok (.newarray .int, 2) := by decide +kernel
theorem dX0_init_9 : decode cX0_init 9 = .ok (.putfield 9, 3) := by decide +kernel
theorem dX0_init_12 : decode cX0_init 12 = .ok (.aload_n 0, 1) := by decide +kernel
theorem dX0_init_13 : decode cX0_init 13 = .ok (.bipush 6, 2) := by decide +kernel
theorem dX0_init_15 : decode cX0_init 15 = .ok (.newarray .int, 2) := by decide +kernel
theorem dX0_init_17 : decode cX0_init 17 = .ok (.putfield 15, 3) := by decide +kernel
theorem dX0_init_20 : decode cX0_init 20 = .ok (.aload_n 0, 1) := by decide +kernel
theorem dX0_init_21 : decode cX0_init 21 = .ok (.bipush 6, 2) := by decide +kernel
theorem dX0_init_23 : decode cX0_init 23 = .ok (.newarray .int, 2) := by decide +kernel
theorem dX0_init_25 : decode cX0_init 25 = .ok (.putfield 18, 3) := by decide +kernel
theorem dX0_init_28 : decode cX0_init 28 = .ok (.return_, 1) := by decide +kernel
theorem dX0_clear_0 : decode cX0_clear 0 = .ok (.aload_n 0, 1) := by decide +kernel
theorem dX0_clear_1 : decode cX0_clear 1 = .ok (.iconst 0, 1) := by decide +kernel
theorem dX0_clear_2 : decode cX0_clear 2 = .ok (.putfield 21, 3) := by decide +kernel
theorem dX0_clear_5 : decode cX0_clear 5 = .ok (.aload_n 0, 1) := by decide +kernel
theorem dX0_clear_6 : decode cX0_clear 6 = .ok (.iconst 0, 1) := by decide +kernel
theorem dX0_clear_7 : decode cX0_clear 7 = .ok (.putfield 25, 3) := by decide +kernel
theorem dX0_clear_10 : decode cX0_clear 10 = .ok (.return_, 1) := by decide +kernel
theorem dX0_add_0 : decode cX0_add 0 = .ok (.aload_n 0, 1) := by decide +kernel
theorem dX0_add_1 : decode cX0_add 1 = .ok (.getfield 21, 3) := by decide +kernel
theorem dX0_add_4 : decode cX0_add 4 = .ok (.bipush 6, 2) := by decide +kernel
theorem dX0_add_6 : decode cX0_add 6 = .ok (.if_icmp .lt 5, 3) := by decide +kernel
theorem dX0_add_9 : decode cX0_add 9 = .ok (.iconst 0, 1) := by decide +kernel
theorem dX0_add_10 : decode cX0_add 10 = .ok (.ireturn, 1) := by decide +kernel
theorem dX0_add_11 : decode cX0_add 11 = .ok (.aload_n 0, 1) := by decide +kernel
theorem dX0_add_12 : decode cX0_add 12 = .ok (.getfield 9, 3) := by decide +kernel
theorem dX0_add_15 : decode cX0_add 15 = .ok (.aload_n 0, 1) := by decide +kernel
theorem dX0_add_16 : decode cX0_add 16 = .ok (.getfield 21, 3) := by decide +kernel
theorem dX0_add_19 : decode cX0_add 19 = .ok (.iload_n 1, 1) := by decide +kernel
theorem dX0_add_20 : decode cX0_add 20 = .ok (.invokestatic 28, 3) := by decide +kernel
theorem dX0_add_23 : decode cX0_add 23 = .ok (.aload_n 0, 1) := by decide +kernel
theorem dX0_add_24 : decode cX0_add 24 = .ok (.getfield 15, 3) := by decide +kernel
theorem dX0_add_27 : decode cX0_add 27 = .ok (.aload_n 0, 1) := by decide +kernel
theorem dX0_add_28 : decode cX0_add 28 = .ok (.getfield 21, 3) := by decide +kernel
theorem dX0_add_31 : decode cX0_add 31 = .ok (.iload_n 2, 1) := by decide +kernel
theorem dX0_add_32 : decode cX0_add 32 = .ok (.invokestatic 28, 3) := by decide +kernel
theorem dX0_add_35 : decode cX0_add 35 = .ok (.aload_n 0, 1) := by decide +kernel
theorem dX0_add_36 : decode cX0_add 36 = .ok (.getfield 18, 3) := by decide +kernel
theorem dX0_add_39 : decode cX0_add 39 = .ok (.aload_n 0, 1) := by decide +kernel
theorem dX0_add_40 : decode cX0_add 40 = .ok (.getfield 21, 3) := by decide +kernel
theorem dX0_add_43 : decode cX0_add 43 = .ok (.iload_n 3, 1) := by decide +kernel
theorem dX0_add_44 : decode cX0_add 44 = .ok (.invokestatic 28, 3) := by decide +kernel
theorem dX0_add_47 : decode cX0_add 47 = .ok (.aload_n 0, 1) := by decide +kernel
theorem dX0_add_48 : decode cX0_add 48 = .ok (.dup, 1) := by decide +kernel
theorem dX0_add_49 : decode cX0_add 49 = .ok (.getfield 21, 3) := by decide +kernel
theorem dX0_add_52 : decode cX0_add 52 = .ok (.iconst 1, 1) := by decide +kernel
theorem dX0_add_53 : decode cX0_add 53 = .ok (.iadd, 1) := by decide +kernel
theorem dX0_add_54 : decode cX0_add 54 = .ok (.putfield 21, 3) := by decide +kernel
theorem dX0_add_57 : decode cX0_add 57 = .ok (.iconst 1, 1) := by decide +kernel
theorem dX0_add_58 : decode cX0_add 58 = .ok (.ireturn, 1) := by decide +kernel
theorem dX0_openIn_0 : decode cX0_openIn 0 = .ok (.aload_n 0, 1) := by decide +kernel
theorem dX0_openIn_1 : decode cX0_openIn 1 = .ok (.dup, 1) := by decide +kernel
theorem dX0_openIn_2 : decode cX0_openIn 2 = .ok (.getfield 25, 3) := by decide +kernel
theorem dX0_openIn_5 : decode cX0_openIn 5 = .ok (.iconst 1, 1) := by decide +kernel
theorem dX0_openIn_6 : decode cX0_openIn 6 = .ok (.iload_n 1, 1) := by decide +kernel
theorem dX0_openIn_7 : decode cX0_openIn 7 = .ok (.ishl, 1) := by decide +kernel
theorem dX0_openIn_8 : decode cX0_openIn 8 = .ok (.ior, 1) := by decide +kernel
theorem dX0_openIn_9 : decode cX0_openIn 9 = .ok (.putfield 25, 3) := by decide +kernel
theorem dX0_openIn_12 : decode cX0_openIn 12 = .ok (.return_, 1) := by decide +kernel
theorem dX0_has_0 : decode cX0_has 0 = .ok (.iload_n 1, 1) := by decide +kernel
theorem dX0_has_1 : decode cX0_has 1 = .ok (.ifCond .lt 15, 3) := by decide +kernel
theorem dX0_has_4 : decode cX0_has 4 = .ok (.iload_n 1, 1) := by decide +kernel
theorem dX0_has_5 : decode cX0_has 5 = .ok (.aload_n 0, 1) := by decide +kernel
theorem dX0_has_6 : decode cX0_has 6 = .ok (.getfield 21, 3) := by decide +kernel
theorem dX0_has_9 : decode cX0_has 9 = .ok (.if_icmp .ge 7, 3) := by decide +kernel
theorem dX0_has_12 : decode cX0_has 12 = .ok (.iconst 1, 1) := by decide +kernel
theorem dX0_has_13 : decode cX0_has 13 = .ok (.goto 4, 3) := by decide +kernel
theorem dX0_has_16 : decode cX0_has 16 = .ok (.iconst 0, 1) := by decide +kernel
theorem dX0_has_17 : decode cX0_has 17 = .ok (.ireturn, 1) := by decide +kernel
theorem dX0_roomOf_0 : decode cX0_roomOf 0 = .ok (.aload_n 0, 1) := by decide +kernel
theorem dX0_roomOf_1 : decode cX0_roomOf 1 = .ok (.getfield 18, 3) := by decide +kernel
theorem dX0_roomOf_4 : decode cX0_roomOf 4 = .ok (.iload_n 1, 1) := by decide +kernel
theorem dX0_roomOf_5 : decode cX0_roomOf 5 = .ok (.invokestatic 32, 3) := by decide +kernel
theorem dX0_roomOf_8 : decode cX0_roomOf 8 = .ok (.ireturn, 1) := by decide +kernel
theorem dX0_isOpenedIn_0 : decode cX0_isOpenedIn 0 = .ok (.aload_n 0, 1) := by decide +kernel
theorem dX0_isOpenedIn_1 : decode cX0_isOpenedIn 1 = .ok (.getfield 25, 3) := by decide +kernel
theorem dX0_isOpenedIn_4 : decode cX0_isOpenedIn 4 = .ok (.iload_n 1, 1) := by decide +kernel
theorem dX0_isOpenedIn_5 : decode cX0_isOpenedIn 5 = .ok (.bipush 24, 2) := by decide +kernel
theorem dX0_isOpenedIn_7 : decode cX0_isOpenedIn 7 = .ok (.irem, 1) := by decide +kernel
theorem dX0_isOpenedIn_8 : decode cX0_isOpenedIn 8 = .ok (.ishr, 1) := by decide +kernel
theorem dX0_isOpenedIn_9 : decode cX0_isOpenedIn 9 = .ok (.iconst 1, 1) := by decide +kernel
theorem dX0_isOpenedIn_10 : decode cX0_isOpenedIn 10 = .ok (.iand, 1) := by decide +kernel
theorem dX0_isOpenedIn_11 : decode cX0_isOpenedIn 11 = .ok (.iconst 1, 1) := by decide +kernel
theorem dX0_isOpenedIn_12 : decode cX0_isOpenedIn 12 = .ok (.if_icmp .ne 7, 3) := by decide +kernel
theorem dX0_isOpenedIn_15 : decode cX0_isOpenedIn 15 = .ok (.iconst 1, 1) := by decide +kernel
theorem dX0_isOpenedIn_16 : decode cX0_isOpenedIn 16 = .ok (.goto 4, 3) := by decide +kernel
theorem dX0_isOpenedIn_19 : decode cX0_isOpenedIn 19 = .ok (.iconst 0, 1) := by decide +kernel
theorem dX0_isOpenedIn_20 : decode cX0_isOpenedIn 20 = .ok (.ireturn, 1) := by decide +kernel
theorem dX0_warmIn_0 : decode cX0_warmIn 0 = .ok (.aload_n 0, 1) := by decide +kernel
theorem dX0_warmIn_1 : decode cX0_warmIn 1 = .ok (.iload_n 2, 1) := by decide +kernel
theorem dX0_warmIn_2 : decode cX0_warmIn 2 = .ok (.invokevirtual 36, 3) := by decide +kernel
theorem dX0_warmIn_5 : decode cX0_warmIn 5 = .ok (.ifCond .eq 23, 3) := by decide +kernel
theorem dX0_warmIn_8 : decode cX0_warmIn 8 = .ok (.aload_n 0, 1) := by decide +kernel
theorem dX0_warmIn_9 : decode cX0_warmIn 9 = .ok (.getfield 9, 3) := by decide +kernel
theorem dX0_warmIn_12 : decode cX0_warmIn 12 = .ok (.iload_n 1, 1) := by decide +kernel
theorem dX0_warmIn_13 : decode cX0_warmIn 13 = .ok (.invokestatic 32, 3) := by decide +kernel
theorem dX0_warmIn_16 : decode cX0_warmIn 16 = .ok (.aload_n 0, 1) := by decide +kernel
theorem dX0_warmIn_17 : decode cX0_warmIn 17 = .ok (.getfield 15, 3) := by decide +kernel
theorem dX0_warmIn_20 : decode cX0_warmIn 20 = .ok (.iload_n 1, 1) := by decide +kernel
theorem dX0_warmIn_21 : decode cX0_warmIn 21 = .ok (.invokestatic 32, 3) := by decide +kernel
theorem dX0_warmIn_24 : decode cX0_warmIn 24 = .ok (.iadd, 1) := by decide +kernel
theorem dX0_warmIn_25 : decode cX0_warmIn 25 = .ok (.goto 11, 3) := by decide +kernel
theorem dX0_warmIn_28 : decode cX0_warmIn 28 = .ok (.aload_n 0, 1) := by decide +kernel
theorem dX0_warmIn_29 : decode cX0_warmIn 29 = .ok (.getfield 9, 3) := by decide +kernel
theorem dX0_warmIn_32 : decode cX0_warmIn 32 = .ok (.iload_n 1, 1) := by decide +kernel
theorem dX0_warmIn_33 : decode cX0_warmIn 33 = .ok (.invokestatic 32, 3) := by decide +kernel
theorem dX0_warmIn_36 : decode cX0_warmIn 36 = .ok (.ireturn, 1) := by decide +kernel
theorem dX0_warmthOver_0 : decode cX0_warmthOver 0 = .ok (.iload_n 3, 1) := by decide +kernel
theorem dX0_warmthOver_1 : decode cX0_warmthOver 1 = .ok (.bipush 24, 2) := by decide +kernel
theorem dX0_warmthOver_3 : decode cX0_warmthOver 3 = .ok (.idiv, 1) := by decide +kernel
theorem dX0_warmthOver_4 : decode cX0_warmthOver 4 = .ok (.aload_n 0, 1) := by decide +kernel
theorem dX0_warmthOver_5 : decode cX0_warmthOver 5 = .ok (.getfield 25, 3) := by decide +kernel
theorem dX0_warmthOver_8 : decode cX0_warmthOver 8 = .ok (.invokestatic 40, 3) := by decide +kernel
theorem dX0_warmthOver_11 : decode cX0_warmthOver 11 = .ok (.imul, 1) := by decide +kernel
theorem dX0_warmthOver_12 : decode cX0_warmthOver 12 = .ok (.istore 4, 2) := by decide +kernel
theorem dX0_warmthOver_14 : decode cX0_warmthOver 14 = .ok (.iconst 0, 1) := by decide +kernel
theorem dX0_warmthOver_15 : decode cX0_warmthOver 15 = .ok (.istore 5, 2) := by decide +kernel
theorem dX0_warmthOver_17 : decode cX0_warmthOver 17 = .ok (.iload 5, 2) := by decide +kernel
theorem dX0_warmthOver_19 : decode cX0_warmthOver 19 = .ok (.iload_n 3, 1) := by decide +kernel
theorem dX0_warmthOver_20 : decode cX0_warmthOver 20 = .ok (.bipush 24, 2) := by decide +kernel
theorem dX0_warmthOver_22 : decode cX0_warmthOver 22 = .ok (.irem, 1) := by decide +kernel
theorem dX0_warmthOver_23 : decode cX0_warmthOver 23 = .ok (.if_icmp .ge 23, 3) := by decide +kernel
theorem dX0_warmthOver_26 : decode cX0_warmthOver 26 = .ok (.aload_n 0, 1) := by decide +kernel
theorem dX0_warmthOver_27 : decode cX0_warmthOver 27 = .ok (.iload_n 2, 1) := by decide +kernel
theorem dX0_warmthOver_28 : decode cX0_warmthOver 28 = .ok (.iload 5, 2) := by decide +kernel
theorem dX0_warmthOver_30 : decode cX0_warmthOver 30 = .ok (.iadd, 1) := by decide +kernel
theorem dX0_warmthOver_31 : decode cX0_warmthOver 31 = .ok (.invokevirtual 36, 3) := by decide +kernel
theorem dX0_warmthOver_34 : decode cX0_warmthOver 34 = .ok (.ifCond .eq 6, 3) := by decide +kernel
theorem dX0_warmthOver_37 : decode cX0_warmthOver 37 = .ok (.iinc 4 1, 3) := by decide +kernel
theorem dX0_warmthOver_40 : decode cX0_warmthOver 40 = .ok (.iinc 5 1, 3) := by decide +kernel
theorem dX0_warmthOver_43 : decode cX0_warmthOver 43 = .ok (.goto (-26), 3) := by decide +kernel
theorem dX0_warmthOver_46 : decode cX0_warmthOver 46 = .ok (.iload_n 3, 1) := by decide +kernel
theorem dX0_warmthOver_47 : decode cX0_warmthOver 47 = .ok (.aload_n 0, 1) := by decide +kernel
theorem dX0_warmthOver_48 : decode cX0_warmthOver 48 = .ok (.getfield 9, 3) := by decide +kernel
theorem dX0_warmthOver_51 : decode cX0_warmthOver 51 = .ok (.iload_n 1, 1) := by decide +kernel
theorem dX0_warmthOver_52 : decode cX0_warmthOver 52 = .ok (.invokestatic 32, 3) := by decide +kernel
theorem dX0_warmthOver_55 : decode cX0_warmthOver 55 = .ok (.imul, 1) := by decide +kernel
theorem dX0_warmthOver_56 : decode cX0_warmthOver 56 = .ok (.iload 4, 2) := by decide +kernel
theorem dX0_warmthOver_58 : decode cX0_warmthOver 58 = .ok (.aload_n 0, 1) := by decide +kernel
theorem dX0_warmthOver_59 : decode cX0_warmthOver 59 = .ok (.getfield 15, 3) := by decide +kernel
theorem dX0_warmthOver_62 : decode cX0_warmthOver 62 = .ok (.iload_n 1, 1) := by decide +kernel
theorem dX0_warmthOver_63 : decode cX0_warmthOver 63 = .ok (.invokestatic 32, 3) := by decide +kernel
theorem dX0_warmthOver_66 : decode cX0_warmthOver 66 = .ok (.imul, 1) := by decide +kernel
theorem dX0_warmthOver_67 : decode cX0_warmthOver 67 = .ok (.iadd, 1) := by decide +kernel
theorem dX0_warmthOver_68 : decode cX0_warmthOver 68 = .ok (.ireturn, 1) := by decide +kernel
theorem dX0_warmthOverCut_0 : decode cX0_warmthOverCut 0 = .ok (.iconst 3, 1) := by decide +kernel
theorem dX0_warmthOverCut_1 : decode cX0_warmthOverCut 1 = .ok (.iload_n 2, 1) := by decide +kernel
theorem dX0_warmthOverCut_2 : decode cX0_warmthOverCut 2 = .ok (.imul, 1) := by decide +kernel
theorem dX0_warmthOverCut_3 : decode cX0_warmthOverCut 3 = .ok (.iload_n 2, 1) := by decide +kernel
theorem dX0_warmthOverCut_4 : decode cX0_warmthOverCut 4 = .ok (.iconst 1, 1) := by decide +kernel
theorem dX0_warmthOverCut_5 : decode cX0_warmthOverCut 5 = .ok (.iadd, 1) := by decide +kernel
theorem dX0_warmthOverCut_6 : decode cX0_warmthOverCut 6 = .ok (.imul, 1) := by decide +kernel
theorem dX0_warmthOverCut_7 : decode cX0_warmthOverCut 7 = .ok (.iconst 2, 1) := by decide +kernel
theorem dX0_warmthOverCut_8 : decode cX0_warmthOverCut 8 = .ok (.idiv, 1) := by decide +kernel
theorem dX0_warmthOverCut_9 : decode cX0_warmthOverCut 9 = .ok (.istore 4, 2) := by decide +kernel
theorem dX0_warmthOverCut_11 : decode cX0_warmthOverCut 11 = .ok (.iload_n 2, 1) := by decide +kernel
theorem dX0_warmthOverCut_12 : decode cX0_warmthOverCut 12 = .ok (.aload_n 0, 1) := by decide +kernel
theorem dX0_warmthOverCut_13 : decode cX0_warmthOverCut 13 = .ok (.getfield 9, 3) := by decide +kernel
theorem dX0_warmthOverCut_16 : decode cX0_warmthOverCut 16 = .ok (.iload_n 1, 1) := by decide +kernel
theorem dX0_warmthOverCut_17 : decode cX0_warmthOverCut 17 = .ok (.invokestatic 32, 3) := by decide +kernel
theorem dX0_warmthOverCut_20 : decode cX0_warmthOverCut 20 = .ok (.imul, 1) := by decide +kernel
theorem dX0_warmthOverCut_21 : decode cX0_warmthOverCut 21 = .ok (.iload 4, 2) := by decide +kernel
theorem dX0_warmthOverCut_23 : decode cX0_warmthOverCut 23 = .ok (.iadd, 1) := by decide +kernel
theorem dX0_warmthOverCut_24 : decode cX0_warmthOverCut 24 = .ok (.iload_n 3, 1) := by decide +kernel
theorem dX0_warmthOverCut_25 : decode cX0_warmthOverCut 25 = .ok (.ifCond .eq 14, 3) := by decide +kernel
theorem dX0_warmthOverCut_28 : decode cX0_warmthOverCut 28 = .ok (.aload_n 0, 1) := by decide +kernel
theorem dX0_warmthOverCut_29 : decode cX0_warmthOverCut 29 = .ok (.getfield 15, 3) := by decide +kernel
theorem dX0_warmthOverCut_32 : decode cX0_warmthOverCut 32 = .ok (.iload_n 1, 1) := by decide +kernel
theorem dX0_warmthOverCut_33 : decode cX0_warmthOverCut 33 = .ok (.invokestatic 32, 3) := by decide +kernel
theorem dX0_warmthOverCut_36 : decode cX0_warmthOverCut 36 = .ok (.goto 4, 3) := by decide +kernel
theorem dX0_warmthOverCut_39 : decode cX0_warmthOverCut 39 = .ok (.iconst 0, 1) := by decide +kernel
theorem dX0_warmthOverCut_40 : decode cX0_warmthOverCut 40 = .ok (.iadd, 1) := by decide +kernel
theorem dX0_warmthOverCut_41 : decode cX0_warmthOverCut 41 = .ok (.ireturn, 1) := by decide +kernel
theorem dX1_init_0 : decode cX1_init 0 = .ok (.aload_n 0, 1) := by decide +kernel
theorem dX1_init_1 : decode cX1_init 1 = .ok (.invokespecial 3, 3) := by decide +kernel
theorem dX1_init_4 : decode cX1_init 4 = .ok (.aload_n 0, 1) := by decide +kernel
theorem dX1_init_5 : decode cX1_init 5 = .ok (.sipush 200, 3) := by decide +kernel
theorem dX1_init_8 : decode cX1_init 8 = .ok (.newarray .int, 2) := by decide +kernel
theorem dX1_init_10 : decode cX1_init 10 = .ok (.putfield 9, 3) := by decide +kernel
theorem dX1_init_13 : decode cX1_init 13 = .ok (.aload_n 0, 1) := by decide +kernel
theorem dX1_init_14 : decode cX1_init 14 = .ok (.bipush 10, 2) := by decide +kernel
theorem dX1_init_16 : decode cX1_init 16 = .ok (.newarray .int, 2) := by decide +kernel
theorem dX1_init_18 : decode cX1_init 18 = .ok (.putfield 15, 3) := by decide +kernel
theorem dX1_init_21 : decode cX1_init 21 = .ok (.aload_n 0, 1) := by decide +kernel
theorem dX1_init_22 : decode cX1_init 22 = .ok (.bipush 20, 2) := by decide +kernel
theorem dX1_init_24 : decode cX1_init 24 = .ok (.newarray .int, 2) := by decide +kernel
theorem dX1_init_26 : decode cX1_init 26 = .ok (.putfield 18, 3) := by decide +kernel
theorem dX1_init_29 : decode cX1_init 29 = .ok (.aload_n 0, 1) := by decide +kernel
theorem dX1_init_30 : decode cX1_init 30 = .ok (.aload_n 1, 1) := by decide +kernel
theorem dX1_init_31 : decode cX1_init 31 = .ok (.putfield 21, 3) := by decide +kernel
theorem dX1_init_34 : decode cX1_init 34 = .ok (.return_, 1) := by decide +kernel
theorem dX1_lookAhead_0 : decode cX1_lookAhead 0 = .ok (.bipush 42, 2) := by decide +kernel
theorem dX1_lookAhead_2 : decode cX1_lookAhead 2 = .ok (.aload_n 0, 1) := by decide +kernel
theorem dX1_lookAhead_3 : decode cX1_lookAhead 3 = .ok (.getfield 21, 3) := by decide +kernel
theorem dX1_lookAhead_6 : decode cX1_lookAhead 6 = .ok (.getfield 25, 3) := by decide +kernel
theorem dX1_lookAhead_9 : decode cX1_lookAhead 9 = .ok (.getfield 31, 3) := by decide +kernel
theorem dX1_lookAhead_12 : decode cX1_lookAhead 12 = .ok (.bipush 24, 2) := by decide +kernel
theorem dX1_lookAhead_14 : decode cX1_lookAhead 14 = .ok (.irem, 1) := by decide +kernel
theorem dX1_lookAhead_15 : decode cX1_lookAhead 15 = .ok (.isub, 1) := by decide +kernel
theorem dX1_lookAhead_16 : decode cX1_lookAhead 16 = .ok (.bipush 24, 2) := by decide +kernel
theorem dX1_lookAhead_18 : decode cX1_lookAhead 18 = .ok (.irem, 1) := by decide +kernel
theorem dX1_lookAhead_19 : decode cX1_lookAhead 19 = .ok (.istore_n 2, 1) := by decide +kernel
theorem dX1_lookAhead_20 : decode cX1_lookAhead 20 = .ok (.iconst 0, 1) := by decide +kernel
theorem dX1_lookAhead_21 : decode cX1_lookAhead 21 = .ok (.istore_n 3, 1) := by decide +kernel
theorem dX1_lookAhead_22 : decode cX1_lookAhead 22 = .ok (.iload_n 3, 1) := by decide +kernel
theorem dX1_lookAhead_23 : decode cX1_lookAhead 23 = .ok (.aload_n 0, 1) := by decide +kernel
theorem dX1_lookAhead_24 : decode cX1_lookAhead 24 = .ok (.getfield 21, 3) := by decide +kernel
theorem dX1_lookAhead_27 : decode cX1_lookAhead 27 = .ok (.getfield 37, 3) := by decide +kernel
theorem dX1_lookAhead_30 : decode cX1_lookAhead 30 = .ok (.getfield 41, 3) := by decide +kernel
theorem dX1_lookAhead_33 : decode cX1_lookAhead 33 = .ok (.getfield 47, 3) := by decide +kernel
theorem dX1_lookAhead_36 : decode cX1_lookAhead 36 = .ok (.if_icmp .ge 25, 3) := by decide +kernel
theorem dX1_lookAhead_39 : decode cX1_lookAhead 39 = .ok (.aload_n 0, 1) := by decide +kernel
theorem dX1_lookAhead_40 : decode cX1_lookAhead 40 = .ok (.getfield 15, 3) := by decide +kernel
theorem dX1_lookAhead_43 : decode cX1_lookAhead 43 = .ok (.iload_n 3, 1) := by decide +kernel
theorem dX1_lookAhead_44 : decode cX1_lookAhead 44 = .ok (.aload_n 0, 1) := by decide +kernel
theorem dX1_lookAhead_45 : decode cX1_lookAhead 45 = .ok (.getfield 21, 3) := by decide +kernel
theorem dX1_lookAhead_48 : decode cX1_lookAhead 48 = .ok (.iload_n 3, 1) := by decide +kernel
theorem dX1_lookAhead_49 : decode cX1_lookAhead 49 = .ok (.invokevirtual 52, 3) := by decide +kernel
theorem dX1_lookAhead_52 : decode cX1_lookAhead 52 = .ok (.invokestatic 56, 3) := by decide +kernel
theorem dX1_lookAhead_55 : decode cX1_lookAhead 55 = .ok (.iinc 3 1, 3) := by decide +kernel
theorem dX1_lookAhead_58 : decode cX1_lookAhead 58 = .ok (.goto (-36), 3) := by decide +kernel
theorem dX1_lookAhead_61 : decode cX1_lookAhead 61 = .ok (.iconst 0, 1) := by decide +kernel
theorem dX1_lookAhead_62 : decode cX1_lookAhead 62 = .ok (.istore_n 3, 1) := by decide +kernel
theorem dX1_lookAhead_63 : decode cX1_lookAhead 63 = .ok (.iload_n 3, 1) := by decide +kernel
theorem dX1_lookAhead_64 : decode cX1_lookAhead 64 = .ok (.iload_n 1, 1) := by decide +kernel
theorem dX1_lookAhead_65 : decode cX1_lookAhead 65 = .ok (.if_icmp .ge 105, 3) := by decide +kernel
theorem dX1_lookAhead_68 : decode cX1_lookAhead 68 = .ok (.iconst 0, 1) := by decide +kernel
theorem dX1_lookAhead_69 : decode cX1_lookAhead 69 = .ok (.istore 4, 2) := by decide +kernel
theorem dX1_lookAhead_71 : decode cX1_lookAhead 71 = .ok (.iconst 0, 1) := by decide +kernel
theorem dX1_lookAhead_72 : decode cX1_lookAhead 72 = .ok (.istore 5, 2) := by decide +kernel
theorem dX1_lookAhead_74 : decode cX1_lookAhead 74 = .ok (.iload 5, 2) := by decide +kernel
theorem dX1_lookAhead_76 : decode cX1_lookAhead 76 = .ok (.aload_n 0, 1) := by decide +kernel
theorem dX1_lookAhead_77 : decode cX1_lookAhead 77 = .ok (.getfield 21, 3) := by decide +kernel
theorem dX1_lookAhead_80 : decode cX1_lookAhead 80 = .ok (.getfield 37, 3) := by decide +kernel
theorem dX1_lookAhead_83 : decode cX1_lookAhead 83 = .ok (.getfield 41, 3) := by decide +kernel
theorem dX1_lookAhead_86 : decode cX1_lookAhead 86 = .ok (.getfield 47, 3) := by decide +kernel
theorem dX1_lookAhead_89 : decode cX1_lookAhead 89 = .ok (.if_icmp .ge 65, 3) := by decide +kernel
theorem dX1_lookAhead_92 : decode cX1_lookAhead 92 = .ok (.aload_n 0, 1) := by decide +kernel
theorem dX1_lookAhead_93 : decode cX1_lookAhead 93 = .ok (.getfield 21, 3) := by decide +kernel
theorem dX1_lookAhead_96 : decode cX1_lookAhead 96 = .ok (.iload 5, 2) := by decide +kernel
theorem dX1_lookAhead_98 : decode cX1_lookAhead 98 = .ok (.iload_n 2, 1) := by decide +kernel
theorem dX1_lookAhead_99 : decode cX1_lookAhead 99 = .ok (.iload_n 3, 1) := by decide +kernel
theorem dX1_lookAhead_100 : decode cX1_lookAhead 100 = .ok (.bipush 24, 2) := by decide +kernel
theorem dX1_lookAhead_102 : decode cX1_lookAhead 102 = .ok (.imul, 1) := by decide +kernel
theorem dX1_lookAhead_103 : decode cX1_lookAhead 103 = .ok (.iadd, 1) := by decide +kernel
theorem dX1_lookAhead_104 : decode cX1_lookAhead 104 = .ok (.invokevirtual 60, 3) := by decide +kernel
theorem dX1_lookAhead_107 : decode cX1_lookAhead 107 = .ok (.istore 6, 2) := by decide +kernel
theorem dX1_lookAhead_109 : decode cX1_lookAhead 109 = .ok (.aload_n 0, 1) := by decide +kernel
theorem dX1_lookAhead_110 : decode cX1_lookAhead 110 = .ok (.getfield 9, 3) := by decide +kernel
theorem dX1_lookAhead_113 : decode cX1_lookAhead 113 = .ok (.iload_n 3, 1) := by decide +kernel
theorem dX1_lookAhead_114 : decode cX1_lookAhead 114 = .ok (.bipush 10, 2) := by decide +kernel
theorem dX1_lookAhead_116 : decode cX1_lookAhead 116 = .ok (.imul, 1) := by decide +kernel
theorem dX1_lookAhead_117 : decode cX1_lookAhead 117 = .ok (.iload 5, 2) := by decide +kernel
theorem dX1_lookAhead_119 : decode cX1_lookAhead 119 = .ok (.iadd, 1) := by decide +kernel
theorem dX1_lookAhead_120 : decode cX1_lookAhead 120 = .ok (.iload 6, 2) := by decide +kernel
theorem dX1_lookAhead_122 : decode cX1_lookAhead 122 = .ok (.invokestatic 56, 3) := by decide +kernel
theorem dX1_lookAhead_125 : decode cX1_lookAhead 125 = .ok (.iload 6, 2) := by decide +kernel
theorem dX1_lookAhead_127 : decode cX1_lookAhead 127 = .ok (.aload_n 0, 1) := by decide +kernel
theorem dX1_lookAhead_128 : decode cX1_lookAhead 128 = .ok (.getfield 15, 3) := by decide +kernel
theorem dX1_lookAhead_131 : decode cX1_lookAhead 131 = .ok (.iload 5, 2) := by decide +kernel
theorem dX1_lookAhead_133 : decode cX1_lookAhead 133 = .ok (.invokestatic 64, 3) := by decide +kernel
theorem dX1_lookAhead_136 : decode cX1_lookAhead 136 = .ok (.if_icmp .lt 12, 3) := by decide +kernel
theorem dX1_lookAhead_139 : decode cX1_lookAhead 139 = .ok (.iload 4, 2) := by decide +kernel
theorem dX1_lookAhead_141 : decode cX1_lookAhead 141 = .ok (.iconst 1, 1) := by decide +kernel
theorem dX1_lookAhead_142 : decode cX1_lookAhead 142 = .ok (.iload 5, 2) := by decide +kernel
theorem dX1_lookAhead_144 : decode cX1_lookAhead 144 = .ok (.ishl, 1) := by decide +kernel
theorem dX1_lookAhead_145 : decode cX1_lookAhead 145 = .ok (.ior, 1) := by decide +kernel
theorem dX1_lookAhead_146 : decode cX1_lookAhead 146 = .ok (.istore 4, 2) := by decide +kernel
theorem dX1_lookAhead_148 : decode cX1_lookAhead 148 = .ok (.iinc 5 1, 3) := by decide +kernel
theorem dX1_lookAhead_151 : decode cX1_lookAhead 151 = .ok (.goto (-77), 3) := by decide +kernel
theorem dX1_lookAhead_154 : decode cX1_lookAhead 154 = .ok (.aload_n 0, 1) := by decide +kernel
theorem dX1_lookAhead_155 : decode cX1_lookAhead 155 = .ok (.getfield 18, 3) := by decide +kernel
theorem dX1_lookAhead_158 : decode cX1_lookAhead 158 = .ok (.iload_n 3, 1) := by decide +kernel
theorem dX1_lookAhead_159 : decode cX1_lookAhead 159 = .ok (.iload 4, 2) := by decide +kernel
theorem dX1_lookAhead_161 : decode cX1_lookAhead 161 = .ok (.invokestatic 56, 3) := by decide +kernel
theorem dX1_lookAhead_164 : decode cX1_lookAhead 164 = .ok (.iinc 3 1, 3) := by decide +kernel
theorem dX1_lookAhead_167 : decode cX1_lookAhead 167 = .ok (.goto (-104), 3) := by decide +kernel
theorem dX1_lookAhead_170 : decode cX1_lookAhead 170 = .ok (.return_, 1) := by decide +kernel
theorem dX1_offOn_0 : decode cX1_offOn 0 = .ok (.aload_n 0, 1) := by decide +kernel
theorem dX1_offOn_1 : decode cX1_offOn 1 = .ok (.getfield 18, 3) := by decide +kernel
theorem dX1_offOn_4 : decode cX1_offOn 4 = .ok (.iload_n 1, 1) := by decide +kernel
theorem dX1_offOn_5 : decode cX1_offOn 5 = .ok (.invokestatic 64, 3) := by decide +kernel
theorem dX1_offOn_8 : decode cX1_offOn 8 = .ok (.ireturn, 1) := by decide +kernel
theorem dX1_oldestOn_0 : decode cX1_oldestOn 0 = .ok (.bipush (-4), 2) := by decide +kernel
theorem dX1_oldestOn_2 : decode cX1_oldestOn 2 = .ok (.istore_n 3, 1) := by decide +kernel
theorem dX1_oldestOn_3 : decode cX1_oldestOn 3 = .ok (.iconst 0, 1) := by decide +kernel
theorem dX1_oldestOn_4 : decode cX1_oldestOn 4 = .ok (.istore 4, 2) := by decide +kernel
theorem dX1_oldestOn_6 : decode cX1_oldestOn 6 = .ok (.iload 4, 2) := by decide +kernel
theorem dX1_oldestOn_8 : decode cX1_oldestOn 8 = .ok (.aload_n 0, 1) := by decide +kernel
theorem dX1_oldestOn_9 : decode cX1_oldestOn 9 = .ok (.getfield 21, 3) := by decide +kernel
theorem dX1_oldestOn_12 : decode cX1_oldestOn 12 = .ok (.getfield 37, 3) := by decide +kernel
theorem dX1_oldestOn_15 : decode cX1_oldestOn 15 = .ok (.getfield 41, 3) := by decide +kernel
theorem dX1_oldestOn_18 : decode cX1_oldestOn 18 = .ok (.getfield 47, 3) := by decide +kernel
theorem dX1_oldestOn_21 : decode cX1_oldestOn 21 = .ok (.if_icmp .ge 36, 3) := by decide +kernel
theorem dX1_oldestOn_24 : decode cX1_oldestOn 24 = .ok (.iload_n 2, 1) := by decide +kernel
theorem dX1_oldestOn_25 : decode cX1_oldestOn 25 = .ok (.iload 4, 2) := by decide +kernel
theorem dX1_oldestOn_27 : decode cX1_oldestOn 27 = .ok (.invokestatic 68, 3) := by decide +kernel
theorem dX1_oldestOn_30 : decode cX1_oldestOn 30 = .ok (.ifCond .eq 21, 3) := by decide +kernel
theorem dX1_oldestOn_33 : decode cX1_oldestOn 33 = .ok (.iload_n 3, 1) := by decide +kernel
theorem dX1_oldestOn_34 : decode cX1_oldestOn 34 = .ok (.ifCond .lt 14, 3) := by decide +kernel
theorem dX1_oldestOn_37 : decode cX1_oldestOn 37 = .ok (.aload_n 0, 1) := by decide +kernel
theorem dX1_oldestOn_38 : decode cX1_oldestOn 38 = .ok (.iload_n 1, 1) := by decide +kernel
theorem dX1_oldestOn_39 : decode cX1_oldestOn 39 = .ok (.iload 4, 2) := by decide +kernel
theorem dX1_oldestOn_41 : decode cX1_oldestOn 41 = .ok (.iload_n 3, 1) := by decide +kernel
theorem dX1_oldestOn_42 : decode cX1_oldestOn 42 = .ok (.invokevirtual 72, 3) := by decide +kernel
theorem dX1_oldestOn_45 : decode cX1_oldestOn 45 = .ok (.ifCond .eq 6, 3) := by decide +kernel
theorem dX1_oldestOn_48 : decode cX1_oldestOn 48 = .ok (.iload 4, 2) := by decide +kernel
theorem dX1_oldestOn_50 : decode cX1_oldestOn 50 = .ok (.istore_n 3, 1) := by decide +kernel
theorem dX1_oldestOn_51 : decode cX1_oldestOn 51 = .ok (.iinc 4 1, 3) := by decide +kernel
theorem dX1_oldestOn_54 : decode cX1_oldestOn 54 = .ok (.goto (-48), 3) := by decide +kernel
theorem dX1_oldestOn_57 : decode cX1_oldestOn 57 = .ok (.iload_n 3, 1) := by decide +kernel
theorem dX1_oldestOn_58 : decode cX1_oldestOn 58 = .ok (.ifCond .ge 7, 3) := by decide +kernel
theorem dX1_oldestOn_61 : decode cX1_oldestOn 61 = .ok (.iconst 0, 1) := by decide +kernel
theorem dX1_oldestOn_62 : decode cX1_oldestOn 62 = .ok (.goto 6, 3) := by decide +kernel
theorem dX1_oldestOn_65 : decode cX1_oldestOn 65 = .ok (.iconst 1, 1) := by decide +kernel
theorem dX1_oldestOn_66 : decode cX1_oldestOn 66 = .ok (.iload_n 3, 1) := by decide +kernel
theorem dX1_oldestOn_67 : decode cX1_oldestOn 67 = .ok (.ishl, 1) := by decide +kernel
theorem dX1_oldestOn_68 : decode cX1_oldestOn 68 = .ok (.ireturn, 1) := by decide +kernel
theorem dX1_isOlderOn_0 : decode cX1_isOlderOn 0 = .ok (.aload_n 0, 1) := by decide +kernel
theorem dX1_isOlderOn_1 : decode cX1_isOlderOn 1 = .ok (.getfield 9, 3) := by decide +kernel
theorem dX1_isOlderOn_4 : decode cX1_isOlderOn 4 = .ok (.iload_n 1, 1) := by decide +kernel
theorem dX1_isOlderOn_5 : decode cX1_isOlderOn 5 = .ok (.bipush 10, 2) := by decide +kernel
theorem dX1_isOlderOn_7 : decode cX1_isOlderOn 7 = .ok (.imul, 1) := by decide +kernel
theorem dX1_isOlderOn_8 : decode cX1_isOlderOn 8 = .ok (.iload_n 2, 1) := by decide +kernel
theorem dX1_isOlderOn_9 : decode cX1_isOlderOn 9 = .ok (.iadd, 1) := by decide +kernel
theorem dX1_isOlderOn_10 : decode cX1_isOlderOn 10 = .ok (.invokestatic 64, 3) := by decide +kernel
theorem dX1_isOlderOn_13 : decode cX1_isOlderOn 13 = .ok (.i2l, 1) := by decide +kernel
theorem dX1_isOlderOn_14 : decode cX1_isOlderOn 14 = .ok (.aload_n 0, 1) := by decide +kernel
theorem dX1_isOlderOn_15 : decode cX1_isOlderOn 15 = .ok (.getfield 15, 3) := by decide +kernel
theorem dX1_isOlderOn_18 : decode cX1_isOlderOn 18 = .ok (.iload_n 3, 1) := by decide +kernel
theorem dX1_isOlderOn_19 : decode cX1_isOlderOn 19 = .ok (.invokestatic 64, 3) := by decide +kernel
theorem dX1_isOlderOn_22 : decode cX1_isOlderOn 22 = .ok (.i2l, 1) := by decide +kernel
theorem dX1_isOlderOn_23 : decode cX1_isOlderOn 23 = .ok (.lmul, 1) := by decide +kernel
theorem dX1_isOlderOn_24 : decode cX1_isOlderOn 24 = .ok (.lstore 4, 2) := by decide +kernel
theorem dX1_isOlderOn_26 : decode cX1_isOlderOn 26 = .ok (.aload_n 0, 1) := by decide +kernel
theorem dX1_isOlderOn_27 : decode cX1_isOlderOn 27 = .ok (.getfield 9, 3) := by decide +kernel
theorem dX1_isOlderOn_30 : decode cX1_isOlderOn 30 = .ok (.iload_n 1, 1) := by decide +kernel
theorem dX1_isOlderOn_31 : decode cX1_isOlderOn 31 = .ok (.bipush 10, 2) := by decide +kernel
theorem dX1_isOlderOn_33 : decode cX1_isOlderOn 33 = .ok (.imul, 1) := by decide +kernel
theorem dX1_isOlderOn_34 : decode cX1_isOlderOn 34 = .ok (.iload_n 3, 1) := by decide +kernel
theorem dX1_isOlderOn_35 : decode cX1_isOlderOn 35 = .ok (.iadd, 1) := by decide +kernel
theorem dX1_isOlderOn_36 : decode cX1_isOlderOn 36 = .ok (.invokestatic 64, 3) := by decide +kernel
theorem dX1_isOlderOn_39 : decode cX1_isOlderOn 39 = .ok (.i2l, 1) := by decide +kernel
theorem dX1_isOlderOn_40 : decode cX1_isOlderOn 40 = .ok (.aload_n 0, 1) := by decide +kernel
theorem dX1_isOlderOn_41 : decode cX1_isOlderOn 41 = .ok (.getfield 15, 3) := by decide +kernel
theorem dX1_isOlderOn_44 : decode cX1_isOlderOn 44 = .ok (.iload_n 2, 1) := by decide +kernel
theorem dX1_isOlderOn_45 : decode cX1_isOlderOn 45 = .ok (.invokestatic 64, 3) := by decide +kernel
theorem dX1_isOlderOn_48 : decode cX1_isOlderOn 48 = .ok (.i2l, 1) := by decide +kernel
theorem dX1_isOlderOn_49 : decode cX1_isOlderOn 49 = .ok (.lmul, 1) := by decide +kernel
theorem dX1_isOlderOn_50 : decode cX1_isOlderOn 50 = .ok (.lstore 6, 2) := by decide +kernel
theorem dX1_isOlderOn_52 : decode cX1_isOlderOn 52 = .ok (.lload 4, 2) := by decide +kernel
theorem dX1_isOlderOn_54 : decode cX1_isOlderOn 54 = .ok (.lload 6, 2) := by decide +kernel
theorem dX1_isOlderOn_56 : decode cX1_isOlderOn 56 = .ok (.lcmp, 1) := by decide +kernel
theorem dX1_isOlderOn_57 : decode cX1_isOlderOn 57 = .ok (.ifCond .le 7, 3) := by decide +kernel
theorem dX1_isOlderOn_60 : decode cX1_isOlderOn 60 = .ok (.iconst 1, 1) := by decide +kernel
theorem dX1_isOlderOn_61 : decode cX1_isOlderOn 61 = .ok (.goto 4, 3) := by decide +kernel
theorem dX1_isOlderOn_64 : decode cX1_isOlderOn 64 = .ok (.iconst 0, 1) := by decide +kernel
theorem dX1_isOlderOn_65 : decode cX1_isOlderOn 65 = .ok (.ireturn, 1) := by decide +kernel
theorem dX1_costOfHabit_0 : decode cX1_costOfHabit 0 = .ok (.aload_n 0, 1) := by decide +kernel
theorem dX1_costOfHabit_1 : decode cX1_costOfHabit 1 = .ok (.iload_n 2, 1) := by decide +kernel
theorem dX1_costOfHabit_2 : decode cX1_costOfHabit 2 = .ok (.invokevirtual 76, 3) := by decide +kernel
theorem dX1_costOfHabit_5 : decode cX1_costOfHabit 5 = .ok (.aload_n 0, 1) := by decide +kernel
theorem dX1_costOfHabit_6 : decode cX1_costOfHabit 6 = .ok (.getfield 21, 3) := by decide +kernel
theorem dX1_costOfHabit_9 : decode cX1_costOfHabit 9 = .ok (.getfield 25, 3) := by decide +kernel
theorem dX1_costOfHabit_12 : decode cX1_costOfHabit 12 = .ok (.invokevirtual 80, 3) := by decide +kernel
theorem dX1_costOfHabit_15 : decode cX1_costOfHabit 15 = .ok (.istore 4, 2) := by decide +kernel
theorem dX1_costOfHabit_17 : decode cX1_costOfHabit 17 = .ok (.iconst 0, 1) := by decide +kernel
theorem dX1_costOfHabit_18 : decode cX1_costOfHabit 18 = .ok (.istore 5, 2) := by decide +kernel
theorem dX1_costOfHabit_20 : decode cX1_costOfHabit 20 = .ok (.iconst 0, 1) := by decide +kernel
theorem dX1_costOfHabit_21 : decode cX1_costOfHabit 21 = .ok (.istore 6, 2) := by decide +kernel
theorem dX1_costOfHabit_23 : decode cX1_costOfHabit 23 = .ok (.iload 6, 2) := by decide +kernel
theorem dX1_costOfHabit_25 : decode cX1_costOfHabit 25 = .ok (.iload_n 2, 1) := by decide +kernel
theorem dX1_costOfHabit_26 : decode cX1_costOfHabit 26 = .ok (.if_icmp .ge 76, 3) := by decide +kernel
theorem dX1_costOfHabit_29 : decode cX1_costOfHabit 29 = .ok (.iload_n 1, 1) := by decide +kernel
theorem dX1_costOfHabit_30 : decode cX1_costOfHabit 30 = .ok (.iload 6, 2) := by decide +kernel
theorem dX1_costOfHabit_32 : decode cX1_costOfHabit 32 = .ok (.invokestatic 84, 3) := by decide +kernel
theorem dX1_costOfHabit_35 : decode cX1_costOfHabit 35 = .ok (.ifCond .eq 61, 3) := by decide +kernel
theorem dX1_costOfHabit_38 : decode cX1_costOfHabit 38 = .ok (.iload_n 3, 1) := by decide +kernel
theorem dX1_costOfHabit_39 : decode cX1_costOfHabit 39 = .ok (.ifCond .ne 11, 3) := by decide +kernel
theorem dX1_costOfHabit_42 : decode cX1_costOfHabit 42 = .ok (.iload 4, 2) := by decide +kernel
theorem dX1_costOfHabit_44 : decode cX1_costOfHabit 44 = .ok (.invokestatic 87, 3) := by decide +kernel
theorem dX1_costOfHabit_47 : decode cX1_costOfHabit 47 = .ok (.goto 11, 3) := by decide +kernel
theorem dX1_costOfHabit_50 : decode cX1_costOfHabit 50 = .ok (.aload_n 0, 1) := by decide +kernel
theorem dX1_costOfHabit_51 : decode cX1_costOfHabit 51 = .ok (.iload 6, 2) := by decide +kernel
theorem dX1_costOfHabit_53 : decode cX1_costOfHabit 53 = .ok (.iload 4, 2) := by decide +kernel
theorem dX1_costOfHabit_55 : decode cX1_costOfHabit 55 = .ok (.invokevirtual 90, 3) := by decide +kernel
theorem dX1_costOfHabit_58 : decode cX1_costOfHabit 58 = .ok (.istore 7, 2) := by decide +kernel
theorem dX1_costOfHabit_60 : decode cX1_costOfHabit 60 = .ok (.iload 5, 2) := by decide +kernel
theorem dX1_costOfHabit_62 : decode cX1_costOfHabit 62 = .ok (.aload_n 0, 1) := by decide +kernel
theorem dX1_costOfHabit_63 : decode cX1_costOfHabit 63 = .ok (.getfield 21, 3) := by decide +kernel
theorem dX1_costOfHabit_66 : decode cX1_costOfHabit 66 = .ok (.getfield 37, 3) := by decide +kernel
theorem dX1_costOfHabit_69 : decode cX1_costOfHabit 69 = .ok (.getfield 41, 3) := by decide +kernel
theorem dX1_costOfHabit_72 : decode cX1_costOfHabit 72 = .ok (.iload 7, 2) := by decide +kernel
theorem dX1_costOfHabit_74 : decode cX1_costOfHabit 74 = .ok (.aload_n 0, 1) := by decide +kernel
theorem dX1_costOfHabit_75 : decode cX1_costOfHabit 75 = .ok (.iload 6, 2) := by decide +kernel
theorem dX1_costOfHabit_77 : decode cX1_costOfHabit 77 = .ok (.invokevirtual 93, 3) := by decide +kernel
theorem dX1_costOfHabit_80 : decode cX1_costOfHabit 80 = .ok (.iand, 1) := by decide +kernel
theorem dX1_costOfHabit_81 : decode cX1_costOfHabit 81 = .ok (.invokevirtual 96, 3) := by decide +kernel
theorem dX1_costOfHabit_84 : decode cX1_costOfHabit 84 = .ok (.iadd, 1) := by decide +kernel
theorem dX1_costOfHabit_85 : decode cX1_costOfHabit 85 = .ok (.istore 5, 2) := by decide +kernel
theorem dX1_costOfHabit_87 : decode cX1_costOfHabit 87 = .ok (.iload 4, 2) := by decide +kernel
theorem dX1_costOfHabit_89 : decode cX1_costOfHabit 89 = .ok (.iload 7, 2) := by decide +kernel
theorem dX1_costOfHabit_91 : decode cX1_costOfHabit 91 = .ok (.iconst (-1), 1) := by decide +kernel
theorem dX1_costOfHabit_92 : decode cX1_costOfHabit 92 = .ok (.ixor, 1) := by decide +kernel
theorem dX1_costOfHabit_93 : decode cX1_costOfHabit 93 = .ok (.iand, 1) := by decide +kernel
theorem dX1_costOfHabit_94 : decode cX1_costOfHabit 94 = .ok (.istore 4, 2) := by decide +kernel
theorem dX1_costOfHabit_96 : decode cX1_costOfHabit 96 = .ok (.iinc 6 1, 3) := by decide +kernel
theorem dX1_costOfHabit_99 : decode cX1_costOfHabit 99 = .ok (.goto (-76), 3) := by decide +kernel
theorem dX1_costOfHabit_102 : decode cX1_costOfHabit 102 = .ok (.iload 5, 2) := by decide +kernel
theorem dX1_costOfHabit_104 : decode cX1_costOfHabit 104 = .ok (.aload_n 0, 1) := by decide +kernel
theorem dX1_costOfHabit_105 : decode cX1_costOfHabit 105 = .ok (.getfield 21, 3) := by decide +kernel
theorem dX1_costOfHabit_108 : decode cX1_costOfHabit 108 = .ok (.getfield 37, 3) := by decide +kernel
theorem dX1_costOfHabit_111 : decode cX1_costOfHabit 111 = .ok (.getfield 41, 3) := by decide +kernel
theorem dX1_costOfHabit_114 : decode cX1_costOfHabit 114 = .ok (.iload 4, 2) := by decide +kernel
theorem dX1_costOfHabit_116 : decode cX1_costOfHabit 116 = .ok (.aload_n 0, 1) := by decide +kernel
theorem dX1_costOfHabit_117 : decode cX1_costOfHabit 117 = .ok (.iload_n 2, 1) := by decide +kernel
theorem dX1_costOfHabit_118 : decode cX1_costOfHabit 118 = .ok (.iconst 1, 1) := by decide +kernel
theorem dX1_costOfHabit_119 : decode cX1_costOfHabit 119 = .ok (.isub, 1) := by decide +kernel
theorem dX1_costOfHabit_120 : decode cX1_costOfHabit 120 = .ok (.invokevirtual 93, 3) := by decide +kernel
theorem dX1_costOfHabit_123 : decode cX1_costOfHabit 123 = .ok (.iand, 1) := by decide +kernel
theorem dX1_costOfHabit_124 : decode cX1_costOfHabit 124 = .ok (.invokevirtual 96, 3) := by decide +kernel
theorem dX1_costOfHabit_127 : decode cX1_costOfHabit 127 = .ok (.iadd, 1) := by decide +kernel
theorem dX1_costOfHabit_128 : decode cX1_costOfHabit 128 = .ok (.ireturn, 1) := by decide +kernel
theorem dX1_isOneTaken_0 : decode cX1_isOneTaken 0 = .ok (.ldc2_w 99, 3) := by decide +kernel
theorem dX1_isOneTaken_3 : decode cX1_isOneTaken 3 = .ok (.iload_n 0, 1) := by decide +kernel
theorem dX1_isOneTaken_4 : decode cX1_isOneTaken 4 = .ok (.i2l, 1) := by decide +kernel
theorem dX1_isOneTaken_5 : decode cX1_isOneTaken 5 = .ok (.lmul, 1) := by decide +kernel
theorem dX1_isOneTaken_6 : decode cX1_isOneTaken 6 = .ok (.ldc2_w 101, 3) := by decide +kernel
theorem dX1_isOneTaken_9 : decode cX1_isOneTaken 9 = .ok (.iload_n 1, 1) := by decide +kernel
theorem dX1_isOneTaken_10 : decode cX1_isOneTaken 10 = .ok (.i2l, 1) := by decide +kernel
theorem dX1_isOneTaken_11 : decode cX1_isOneTaken 11 = .ok (.lmul, 1) := by decide +kernel
theorem dX1_isOneTaken_12 : decode cX1_isOneTaken 12 = .ok (.ladd, 1) := by decide +kernel
theorem dX1_isOneTaken_13 : decode cX1_isOneTaken 13 = .ok (.lconst 1, 1) := by decide +kernel
theorem dX1_isOneTaken_14 : decode cX1_isOneTaken 14 = .ok (.ladd, 1) := by decide +kernel
theorem dX1_isOneTaken_15 : decode cX1_isOneTaken 15 = .ok (.lstore_n 2, 1) := by decide +kernel
theorem dX1_isOneTaken_16 : decode cX1_isOneTaken 16 = .ok (.lload_n 2, 1) := by decide +kernel
theorem dX1_isOneTaken_17 : decode cX1_isOneTaken 17 = .ok (.lload_n 2, 1) := by decide +kernel
theorem dX1_isOneTaken_18 : decode cX1_isOneTaken 18 = .ok (.lmul, 1) := by decide +kernel
theorem dX1_isOneTaken_19 : decode cX1_isOneTaken 19 = .ok (.ldc2_w 103, 3) := by decide +kernel
theorem dX1_isOneTaken_22 : decode cX1_isOneTaken 22 = .ok (.lrem, 1) := by decide +kernel
theorem dX1_isOneTaken_23 : decode cX1_isOneTaken 23 = .ok (.ldc2_w 105, 3) := by decide +kernel
theorem dX1_isOneTaken_26 : decode cX1_isOneTaken 26 = .ok (.lrem, 1) := by decide +kernel
theorem dX1_isOneTaken_27 : decode cX1_isOneTaken 27 = .ok (.lconst 0, 1) := by decide +kernel
theorem dX1_isOneTaken_28 : decode cX1_isOneTaken 28 = .ok (.lcmp, 1) := by decide +kernel
theorem dX1_isOneTaken_29 : decode cX1_isOneTaken 29 = .ok (.ifCond .eq 7, 3) := by decide +kernel
theorem dX1_isOneTaken_32 : decode cX1_isOneTaken 32 = .ok (.iconst 1, 1) := by decide +kernel
theorem dX1_isOneTaken_33 : decode cX1_isOneTaken 33 = .ok (.goto 4, 3) := by decide +kernel
theorem dX1_isOneTaken_36 : decode cX1_isOneTaken 36 = .ok (.iconst 0, 1) := by decide +kernel
theorem dX1_isOneTaken_37 : decode cX1_isOneTaken 37 = .ok (.ireturn, 1) := by decide +kernel
theorem dX1_highestOf_0 : decode cX1_highestOf 0 = .ok (.bipush 9, 2) := by decide +kernel
theorem dX1_highestOf_2 : decode cX1_highestOf 2 = .ok (.istore_n 1, 1) := by decide +kernel
theorem dX1_highestOf_3 : decode cX1_highestOf 3 = .ok (.iload_n 1, 1) := by decide +kernel
theorem dX1_highestOf_4 : decode cX1_highestOf 4 = .ok (.ifCond .lt 21, 3) := by decide +kernel
theorem dX1_highestOf_7 : decode cX1_highestOf 7 = .ok (.iload_n 0, 1) := by decide +kernel
theorem dX1_highestOf_8 : decode cX1_highestOf 8 = .ok (.iload_n 1, 1) := by decide +kernel
theorem dX1_highestOf_9 : decode cX1_highestOf 9 = .ok (.invokestatic 68, 3) := by decide +kernel
theorem dX1_highestOf_12 : decode cX1_highestOf 12 = .ok (.ifCond .eq 7, 3) := by decide +kernel
theorem dX1_highestOf_15 : decode cX1_highestOf 15 = .ok (.iconst 1, 1) := by decide +kernel
theorem dX1_highestOf_16 : decode cX1_highestOf 16 = .ok (.iload_n 1, 1) := by decide +kernel
theorem dX1_highestOf_17 : decode cX1_highestOf 17 = .ok (.ishl, 1) := by decide +kernel
theorem dX1_highestOf_18 : decode cX1_highestOf 18 = .ok (.ireturn, 1) := by decide +kernel
theorem dX1_highestOf_19 : decode cX1_highestOf 19 = .ok (.iinc 1 (-1), 3) := by decide +kernel
theorem dX1_highestOf_22 : decode cX1_highestOf 22 = .ok (.goto (-19), 3) := by decide +kernel
theorem dX1_highestOf_25 : decode cX1_highestOf 25 = .ok (.iconst 0, 1) := by decide +kernel
theorem dX1_highestOf_26 : decode cX1_highestOf 26 = .ok (.ireturn, 1) := by decide +kernel
theorem dX2_init_0 : decode cX2_init 0 = .ok (.aload_n 0, 1) := by decide +kernel
theorem dX2_init_1 : decode cX2_init 1 = .ok (.invokespecial 3, 3) := by decide +kernel
theorem dX2_init_4 : decode cX2_init 4 = .ok (.aload_n 0, 1) := by decide +kernel
theorem dX2_init_5 : decode cX2_init 5 = .ok (.bipush 10, 2) := by decide +kernel
theorem dX2_init_7 : decode cX2_init 7 = .ok (.newarray .int, 2) := by decide +kernel
theorem dX2_init_9 : decode cX2_init 9 = .ok (.putfield 9, 3) := by decide +kernel
theorem dX2_init_12 : decode cX2_init 12 = .ok (.aload_n 0, 1) := by decide +kernel
theorem dX2_init_13 : decode cX2_init 13 = .ok (.bipush 10, 2) := by decide +kernel
theorem dX2_init_15 : decode cX2_init 15 = .ok (.newarray .int, 2) := by decide +kernel
theorem dX2_init_17 : decode cX2_init 17 = .ok (.putfield 15, 3) := by decide +kernel
theorem dX2_init_20 : decode cX2_init 20 = .ok (.aload_n 0, 1) := by decide +kernel
theorem dX2_init_21 : decode cX2_init 21 = .ok (.bipush 10, 2) := by decide +kernel
theorem dX2_init_23 : decode cX2_init 23 = .ok (.newarray .int, 2) := by decide +kernel
theorem dX2_init_25 : decode cX2_init 25 = .ok (.putfield 18, 3) := by decide +kernel
theorem dX2_init_28 : decode cX2_init 28 = .ok (.aload_n 0, 1) := by decide +kernel
theorem dX2_init_29 : decode cX2_init 29 = .ok (.bipush 10, 2) := by decide +kernel
theorem dX2_init_31 : decode cX2_init 31 = .ok (.newarray .int, 2) := by decide +kernel
theorem dX2_init_33 : decode cX2_init 33 = .ok (.putfield 21, 3) := by decide +kernel
theorem dX2_init_36 : decode cX2_init 36 = .ok (.aload_n 0, 1) := by decide +kernel
theorem dX2_init_37 : decode cX2_init 37 = .ok (.bipush 10, 2) := by decide +kernel
theorem dX2_init_39 : decode cX2_init 39 = .ok (.newarray .int, 2) := by decide +kernel
theorem dX2_init_41 : decode cX2_init 41 = .ok (.putfield 24, 3) := by decide +kernel
theorem dX2_init_44 : decode cX2_init 44 = .ok (.aload_n 0, 1) := by decide +kernel
theorem dX2_init_45 : decode cX2_init 45 = .ok (.bipush 10, 2) := by decide +kernel
theorem dX2_init_47 : decode cX2_init 47 = .ok (.newarray .int, 2) := by decide +kernel
theorem dX2_init_49 : decode cX2_init 49 = .ok (.putfield 27, 3) := by decide +kernel
theorem dX2_init_52 : decode cX2_init 52 = .ok (.aload_n 0, 1) := by decide +kernel
theorem dX2_init_53 : decode cX2_init 53 = .ok (.iconst 4, 1) := by decide +kernel
theorem dX2_init_54 : decode cX2_init 54 = .ok (.newarray .int, 2) := by decide +kernel
theorem dX2_init_56 : decode cX2_init 56 = .ok (.putfield 30, 3) := by decide +kernel
theorem dX2_init_59 : decode cX2_init 59 = .ok (.return_, 1) := by decide +kernel
theorem dX2_clear_0 : decode cX2_clear 0 = .ok (.aload_n 0, 1) := by decide +kernel
theorem dX2_clear_1 : decode cX2_clear 1 = .ok (.iconst 0, 1) := by decide +kernel
theorem dX2_clear_2 : decode cX2_clear 2 = .ok (.putfield 33, 3) := by decide +kernel
theorem dX2_clear_5 : decode cX2_clear 5 = .ok (.iconst 0, 1) := by decide +kernel
theorem dX2_clear_6 : decode cX2_clear 6 = .ok (.istore_n 1, 1) := by decide +kernel
theorem dX2_clear_7 : decode cX2_clear 7 = .ok (.iload_n 1, 1) := by decide +kernel
theorem dX2_clear_8 : decode cX2_clear 8 = .ok (.iconst 4, 1) := by decide +kernel
theorem dX2_clear_9 : decode cX2_clear 9 = .ok (.if_icmp .ge 18, 3) := by decide +kernel
theorem dX2_clear_12 : decode cX2_clear 12 = .ok (.aload_n 0, 1) := by decide +kernel
theorem dX2_clear_13 : decode cX2_clear 13 = .ok (.getfield 30, 3) := by decide +kernel
theorem dX2_clear_16 : decode cX2_clear 16 = .ok (.iload_n 1, 1) := by decide +kernel
theorem dX2_clear_17 : decode cX2_clear 17 = .ok (.iconst 0, 1) := by decide +kernel
theorem dX2_clear_18 : decode cX2_clear 18 = .ok (.invokestatic 37, 3) := by decide +kernel
theorem dX2_clear_21 : decode cX2_clear 21 = .ok (.iinc 1 1, 3) := by decide +kernel
theorem dX2_clear_24 : decode cX2_clear 24 = .ok (.goto (-17), 3) := by decide +kernel
theorem dX2_clear_27 : decode cX2_clear 27 = .ok (.return_, 1) := by decide +kernel
theorem dX2_add_0 : decode cX2_add 0 = .ok (.aload_n 0, 1) := by decide +kernel
theorem dX2_add_1 : decode cX2_add 1 = .ok (.getfield 33, 3) := by decide +kernel
theorem dX2_add_4 : decode cX2_add 4 = .ok (.bipush 10, 2) := by decide +kernel
theorem dX2_add_6 : decode cX2_add 6 = .ok (.if_icmp .lt 5, 3) := by decide +kernel
theorem dX2_add_9 : decode cX2_add 9 = .ok (.iconst 0, 1) := by decide +kernel
theorem dX2_add_10 : decode cX2_add 10 = .ok (.ireturn, 1) := by decide +kernel
theorem dX2_add_11 : decode cX2_add 11 = .ok (.aload_n 0, 1) := by decide +kernel
theorem dX2_add_12 : decode cX2_add 12 = .ok (.getfield 9, 3) := by decide +kernel
theorem dX2_add_15 : decode cX2_add 15 = .ok (.aload_n 0, 1) := by decide +kernel
theorem dX2_add_16 : decode cX2_add 16 = .ok (.getfield 33, 3) := by decide +kernel
theorem dX2_add_19 : decode cX2_add 19 = .ok (.iload_n 1, 1) := by decide +kernel
theorem dX2_add_20 : decode cX2_add 20 = .ok (.invokestatic 37, 3) := by decide +kernel
theorem dX2_add_23 : decode cX2_add 23 = .ok (.aload_n 0, 1) := by decide +kernel
theorem dX2_add_24 : decode cX2_add 24 = .ok (.getfield 15, 3) := by decide +kernel
theorem dX2_add_27 : decode cX2_add 27 = .ok (.aload_n 0, 1) := by decide +kernel
theorem dX2_add_28 : decode cX2_add 28 = .ok (.getfield 33, 3) := by decide +kernel
theorem dX2_add_31 : decode cX2_add 31 = .ok (.iload_n 2, 1) := by decide +kernel
theorem dX2_add_32 : decode cX2_add 32 = .ok (.invokestatic 37, 3) := by decide +kernel
theorem dX2_add_35 : decode cX2_add 35 = .ok (.aload_n 0, 1) := by decide +kernel
theorem dX2_add_36 : decode cX2_add 36 = .ok (.getfield 18, 3) := by decide +kernel
theorem dX2_add_39 : decode cX2_add 39 = .ok (.aload_n 0, 1) := by decide +kernel
theorem dX2_add_40 : decode cX2_add 40 = .ok (.getfield 33, 3) := by decide +kernel
theorem dX2_add_43 : decode cX2_add 43 = .ok (.iload_n 3, 1) := by decide +kernel
theorem dX2_add_44 : decode cX2_add 44 = .ok (.invokestatic 37, 3) := by decide +kernel
theorem dX2_add_47 : decode cX2_add 47 = .ok (.aload_n 0, 1) := by decide +kernel
theorem dX2_add_48 : decode cX2_add 48 = .ok (.getfield 21, 3) := by decide +kernel
theorem dX2_add_51 : decode cX2_add 51 = .ok (.aload_n 0, 1) := by decide +kernel
theorem dX2_add_52 : decode cX2_add 52 = .ok (.getfield 33, 3) := by decide +kernel
theorem dX2_add_55 : decode cX2_add 55 = .ok (.iload 4, 2) := by decide +kernel
theorem dX2_add_57 : decode cX2_add 57 = .ok (.invokestatic 37, 3) := by decide +kernel
theorem dX2_add_60 : decode cX2_add 60 = .ok (.aload_n 0, 1) := by decide +kernel
theorem dX2_add_61 : decode cX2_add 61 = .ok (.getfield 24, 3) := by decide +kernel
theorem dX2_add_64 : decode cX2_add 64 = .ok (.aload_n 0, 1) := by decide +kernel
theorem dX2_add_65 : decode cX2_add 65 = .ok (.getfield 33, 3) := by decide +kernel
theorem dX2_add_68 : decode cX2_add 68 = .ok (.iload 5, 2) := by decide +kernel
theorem dX2_add_70 : decode cX2_add 70 = .ok (.invokestatic 37, 3) := by decide +kernel
theorem dX2_add_73 : decode cX2_add 73 = .ok (.aload_n 0, 1) := by decide +kernel
theorem dX2_add_74 : decode cX2_add 74 = .ok (.getfield 27, 3) := by decide +kernel
theorem dX2_add_77 : decode cX2_add 77 = .ok (.aload_n 0, 1) := by decide +kernel
theorem dX2_add_78 : decode cX2_add 78 = .ok (.getfield 33, 3) := by decide +kernel
theorem dX2_add_81 : decode cX2_add 81 = .ok (.iload 6, 2) := by decide +kernel
theorem dX2_add_83 : decode cX2_add 83 = .ok (.invokestatic 37, 3) := by decide +kernel
theorem dX2_add_86 : decode cX2_add 86 = .ok (.aload_n 0, 1) := by decide +kernel
theorem dX2_add_87 : decode cX2_add 87 = .ok (.getfield 30, 3) := by decide +kernel
theorem dX2_add_90 : decode cX2_add 90 = .ok (.iload 6, 2) := by decide +kernel
theorem dX2_add_92 : decode cX2_add 92 = .ok (.aload_n 0, 1) := by decide +kernel
theorem dX2_add_93 : decode cX2_add 93 = .ok (.getfield 30, 3) := by decide +kernel
theorem dX2_add_96 : decode cX2_add 96 = .ok (.iload 6, 2) := by decide +kernel
theorem dX2_add_98 : decode cX2_add 98 = .ok (.invokestatic 41, 3) := by decide +kernel
theorem dX2_add_101 : decode cX2_add 101 = .ok (.iconst 1, 1) := by decide +kernel
theorem dX2_add_102 : decode cX2_add 102 = .ok (.aload_n 0, 1) := by decide +kernel
theorem dX2_add_103 : decode cX2_add 103 = .ok (.getfield 33, 3) := by decide +kernel
theorem dX2_add_106 : decode cX2_add 106 = .ok (.ishl, 1) := by decide +kernel
theorem dX2_add_107 : decode cX2_add 107 = .ok (.ior, 1) := by decide +kernel
theorem dX2_add_108 : decode cX2_add 108 = .ok (.invokestatic 37, 3) := by decide +kernel
theorem dX2_add_111 : decode cX2_add 111 = .ok (.aload_n 0, 1) := by decide +kernel
theorem dX2_add_112 : decode cX2_add 112 = .ok (.dup, 1) := by decide +kernel
theorem dX2_add_113 : decode cX2_add 113 = .ok (.getfield 33, 3) := by decide +kernel
theorem dX2_add_116 : decode cX2_add 116 = .ok (.iconst 1, 1) := by decide +kernel
theorem dX2_add_117 : decode cX2_add 117 = .ok (.iadd, 1) := by decide +kernel
theorem dX2_add_118 : decode cX2_add 118 = .ok (.putfield 33, 3) := by decide +kernel
theorem dX2_add_121 : decode cX2_add 121 = .ok (.iconst 1, 1) := by decide +kernel
theorem dX2_add_122 : decode cX2_add 122 = .ok (.ireturn, 1) := by decide +kernel
theorem dX2_kindOf_0 : decode cX2_kindOf 0 = .ok (.aload_n 0, 1) := by decide +kernel
theorem dX2_kindOf_1 : decode cX2_kindOf 1 = .ok (.getfield 9, 3) := by decide +kernel
theorem dX2_kindOf_4 : decode cX2_kindOf 4 = .ok (.iload_n 1, 1) := by decide +kernel
theorem dX2_kindOf_5 : decode cX2_kindOf 5 = .ok (.invokestatic 41, 3) := by decide +kernel
theorem dX2_kindOf_8 : decode cX2_kindOf 8 = .ok (.ireturn, 1) := by decide +kernel
theorem dX2_cellOf_0 : decode cX2_cellOf 0 = .ok (.aload_n 0, 1) := by decide +kernel
theorem dX2_cellOf_1 : decode cX2_cellOf 1 = .ok (.getfield 15, 3) := by decide +kernel
theorem dX2_cellOf_4 : decode cX2_cellOf 4 = .ok (.iload_n 1, 1) := by decide +kernel
theorem dX2_cellOf_5 : decode cX2_cellOf 5 = .ok (.invokestatic 41, 3) := by decide +kernel
theorem dX2_cellOf_8 : decode cX2_cellOf 8 = .ok (.ireturn, 1) := by decide +kernel
theorem dX2_coinOf_0 : decode cX2_coinOf 0 = .ok (.aload_n 0, 1) := by decide +kernel
theorem dX2_coinOf_1 : decode cX2_coinOf 1 = .ok (.getfield 18, 3) := by decide +kernel
theorem dX2_coinOf_4 : decode cX2_coinOf 4 = .ok (.iload_n 1, 1) := by decide +kernel
theorem dX2_coinOf_5 : decode cX2_coinOf 5 = .ok (.invokestatic 41, 3) := by decide +kernel
theorem dX2_coinOf_8 : decode cX2_coinOf 8 = .ok (.ireturn, 1) := by decide +kernel
theorem dX2_printedOf_0 : decode cX2_printedOf 0 = .ok (.aload_n 0, 1) := by decide +kernel
theorem dX2_printedOf_1 : decode cX2_printedOf 1 = .ok (.getfield 24, 3) := by decide +kernel
theorem dX2_printedOf_4 : decode cX2_printedOf 4 = .ok (.iload_n 1, 1) := by decide +kernel
theorem dX2_printedOf_5 : decode cX2_printedOf 5 = .ok (.invokestatic 41, 3) := by decide +kernel
theorem dX2_printedOf_8 : decode cX2_printedOf 8 = .ok (.ireturn, 1) := by decide +kernel
theorem dX2_sortOf_0 : decode cX2_sortOf 0 = .ok (.aload_n 0, 1) := by decide +kernel
theorem dX2_sortOf_1 : decode cX2_sortOf 1 = .ok (.getfield 27, 3) := by decide +kernel
theorem dX2_sortOf_4 : decode cX2_sortOf 4 = .ok (.iload_n 1, 1) := by decide +kernel
theorem dX2_sortOf_5 : decode cX2_sortOf 5 = .ok (.invokestatic 41, 3) := by decide +kernel
theorem dX2_sortOf_8 : decode cX2_sortOf 8 = .ok (.ireturn, 1) := by decide +kernel
theorem dX2_limitAs_0 : decode cX2_limitAs 0 = .ok (.bipush 50, 2) := by decide +kernel
theorem dX2_limitAs_2 : decode cX2_limitAs 2 = .ok (.iload_n 2, 1) := by decide +kernel
theorem dX2_limitAs_3 : decode cX2_limitAs 3 = .ok (.iconst 2, 1) := by decide +kernel
theorem dX2_limitAs_4 : decode cX2_limitAs 4 = .ok (.if_icmp .ne 17, 3) := by decide +kernel
theorem dX2_limitAs_7 : decode cX2_limitAs 7 = .ok (.aload_n 0, 1) := by decide +kernel
theorem dX2_limitAs_8 : decode cX2_limitAs 8 = .ok (.getfield 21, 3) := by decide +kernel
theorem dX2_limitAs_11 : decode cX2_limitAs 11 = .ok (.iload_n 1, 1) := by decide +kernel
theorem dX2_limitAs_12 : decode cX2_limitAs 12 = .ok (.invokestatic 41, 3) := by decide +kernel
theorem dX2_limitAs_15 : decode cX2_limitAs 15 = .ok (.bipush 96, 2) := by decide +kernel
theorem dX2_limitAs_17 : decode cX2_limitAs 17 = .ok (.iadd, 1) := by decide +kernel
theorem dX2_limitAs_18 : decode cX2_limitAs 18 = .ok (.goto 11, 3) := by decide +kernel
theorem dX2_limitAs_21 : decode cX2_limitAs 21 = .ok (.aload_n 0, 1) := by decide +kernel
theorem dX2_limitAs_22 : decode cX2_limitAs 22 = .ok (.getfield 21, 3) := by decide +kernel
theorem dX2_limitAs_25 : decode cX2_limitAs 25 = .ok (.iload_n 1, 1) := by decide +kernel
theorem dX2_limitAs_26 : decode cX2_limitAs 26 = .ok (.invokestatic 41, 3) := by decide +kernel
theorem dX2_limitAs_29 : decode cX2_limitAs 29 = .ok (.imul, 1) := by decide +kernel
theorem dX2_limitAs_30 : decode cX2_limitAs 30 = .ok (.ireturn, 1) := by decide +kernel
theorem dX2_numberIn_0 : decode cX2_numberIn 0 = .ok (.iconst 0, 1) := by decide +kernel
theorem dX2_numberIn_1 : decode cX2_numberIn 1 = .ok (.istore_n 2, 1) := by decide +kernel
theorem dX2_numberIn_2 : decode cX2_numberIn 2 = .ok (.iconst 0, 1) := by decide +kernel
theorem dX2_numberIn_3 : decode cX2_numberIn 3 = .ok (.istore_n 3, 1) := by decide +kernel
theorem dX2_numberIn_4 : decode cX2_numberIn 4 = .ok (.iload_n 3, 1) := by decide +kernel
theorem dX2_numberIn_5 : decode cX2_numberIn 5 = .ok (.aload_n 0, 1) := by decide +kernel
theorem dX2_numberIn_6 : decode cX2_numberIn 6 = .ok (.getfield 33, 3) := by decide +kernel
theorem dX2_numberIn_9 : decode cX2_numberIn 9 = .ok (.if_icmp .ge 24, 3) := by decide +kernel
theorem dX2_numberIn_12 : decode cX2_numberIn 12 = .ok (.aload_n 0, 1) := by decide +kernel
theorem dX2_numberIn_13 : decode cX2_numberIn 13 = .ok (.getfield 15, 3) := by decide +kernel
theorem dX2_numberIn_16 : decode cX2_numberIn 16 = .ok (.iload_n 3, 1) := by decide +kernel
theorem dX2_numberIn_17 : decode cX2_numberIn 17 = .ok (.invokestatic 41, 3) := by decide +kernel
theorem dX2_numberIn_20 : decode cX2_numberIn 20 = .ok (.iload_n 1, 1) := by decide +kernel
theorem dX2_numberIn_21 : decode cX2_numberIn 21 = .ok (.if_icmp .ne 6, 3) := by decide +kernel
theorem dX2_numberIn_24 : decode cX2_numberIn 24 = .ok (.iinc 2 1, 3) := by decide +kernel
theorem dX2_numberIn_27 : decode cX2_numberIn 27 = .ok (.iinc 3 1, 3) := by decide +kernel
theorem dX2_numberIn_30 : decode cX2_numberIn 30 = .ok (.goto (-26), 3) := by decide +kernel
theorem dX2_numberIn_33 : decode cX2_numberIn 33 = .ok (.iload_n 2, 1) := by decide +kernel
theorem dX2_numberIn_34 : decode cX2_numberIn 34 = .ok (.ireturn, 1) := by decide +kernel
theorem dX2_coinOfAll_0 : decode cX2_coinOfAll 0 = .ok (.iconst 0, 1) := by decide +kernel
theorem dX2_coinOfAll_1 : decode cX2_coinOfAll 1 = .ok (.istore_n 2, 1) := by decide +kernel
theorem dX2_coinOfAll_2 : decode cX2_coinOfAll 2 = .ok (.iconst 0, 1) := by decide +kernel
theorem dX2_coinOfAll_3 : decode cX2_coinOfAll 3 = .ok (.istore_n 3, 1) := by decide +kernel
theorem dX2_coinOfAll_4 : decode cX2_coinOfAll 4 = .ok (.iload_n 3, 1) := by decide +kernel
theorem dX2_coinOfAll_5 : decode cX2_coinOfAll 5 = .ok (.aload_n 0, 1) := by decide +kernel
theorem dX2_coinOfAll_6 : decode cX2_coinOfAll 6 = .ok (.getfield 33, 3) := by decide +kernel
theorem dX2_coinOfAll_9 : decode cX2_coinOfAll 9 = .ok (.if_icmp .ge 28, 3) := by decide +kernel
theorem dX2_coinOfAll_12 : decode cX2_coinOfAll 12 = .ok (.iload_n 1, 1) := by decide +kernel
theorem dX2_coinOfAll_13 : decode cX2_coinOfAll 13 = .ok (.iload_n 3, 1) := by decide +kernel
theorem dX2_coinOfAll_14 : decode cX2_coinOfAll 14 = .ok (.invokestatic 45, 3) := by decide +kernel
theorem dX2_coinOfAll_17 : decode cX2_coinOfAll 17 = .ok (.ifCond .eq 14, 3) := by decide +kernel
theorem dX2_coinOfAll_20 : decode cX2_coinOfAll 20 = .ok (.iload_n 2, 1) := by decide +kernel
theorem dX2_coinOfAll_21 : decode cX2_coinOfAll 21 = .ok (.aload_n 0, 1) := by decide +kernel
theorem dX2_coinOfAll_22 : decode cX2_coinOfAll 22 = .ok (.getfield 18, 3) := by decide +kernel
theorem dX2_coinOfAll_25 : decode cX2_coinOfAll 25 = .ok (.iload_n 3, 1) := by decide +kernel
theorem dX2_coinOfAll_26 : decode cX2_coinOfAll 26 = .ok (.invokestatic 41, 3) := by decide +kernel
theorem dX2_coinOfAll_29 : decode cX2_coinOfAll 29 = .ok (.iadd, 1) := by decide +kernel
theorem dX2_coinOfAll_30 : decode cX2_coinOfAll 30 = .ok (.istore_n 2, 1) := by decide +kernel
theorem dX2_coinOfAll_31 : decode cX2_coinOfAll 31 = .ok (.iinc 3 1, 3) := by decide +kernel
theorem dX2_coinOfAll_34 : decode cX2_coinOfAll 34 = .ok (.goto (-30), 3) := by decide +kernel
theorem dX2_coinOfAll_37 : decode cX2_coinOfAll 37 = .ok (.iload_n 2, 1) := by decide +kernel
theorem dX2_coinOfAll_38 : decode cX2_coinOfAll 38 = .ok (.ireturn, 1) := by decide +kernel
theorem dX2_bitsOfSort_0 : decode cX2_bitsOfSort 0 = .ok (.aload_n 0, 1) := by decide +kernel
theorem dX2_bitsOfSort_1 : decode cX2_bitsOfSort 1 = .ok (.getfield 30, 3) := by decide +kernel
theorem dX2_bitsOfSort_4 : decode cX2_bitsOfSort 4 = .ok (.iload_n 1, 1) := by decide +kernel
theorem dX2_bitsOfSort_5 : decode cX2_bitsOfSort 5 = .ok (.invokestatic 41, 3) := by decide +kernel
theorem dX2_bitsOfSort_8 : decode cX2_bitsOfSort 8 = .ok (.ireturn, 1) := by decide +kernel
theorem dX3_init_0 : decode cX3_init 0 = .ok (.aload_n 0, 1) := by decide +kernel
theorem dX3_init_1 : decode cX3_init 1 = .ok (.invokespecial 3, 3) := by decide +kernel
theorem dX3_init_4 : decode cX3_init 4 = .ok (.aload_n 0, 1) := by decide +kernel
theorem dX3_init_5 : decode cX3_init 5 = .ok (.aload_n 1, 1) := by decide +kernel
theorem dX3_init_6 : decode cX3_init 6 = .ok (.putfield 9, 3) := by decide +kernel
theorem dX3_init_9 : decode cX3_init 9 = .ok (.aload_n 0, 1) := by decide +kernel
theorem dX3_init_10 : decode cX3_init 10 = .ok (.aload_n 2, 1) := by decide +kernel
theorem dX3_init_11 : decode cX3_init 11 = .ok (.putfield 15, 3) := by decide +kernel
theorem dX3_init_14 : decode cX3_init 14 = .ok (.return_, 1) := by decide +kernel
theorem dX3_hasFood_0 : decode cX3_hasFood 0 = .ok (.iload_n 1, 1) := by decide +kernel
theorem dX3_hasFood_1 : decode cX3_hasFood 1 = .ok (.ifCond .lt 21, 3) := by decide +kernel
theorem dX3_hasFood_4 : decode cX3_hasFood 4 = .ok (.iload_n 1, 1) := by decide +kernel
theorem dX3_hasFood_5 : decode cX3_hasFood 5 = .ok (.aload_n 0, 1) := by decide +kernel
theorem dX3_hasFood_6 : decode cX3_hasFood 6 = .ok (.getfield 9, 3) := by decide +kernel
theorem dX3_hasFood_9 : decode cX3_hasFood 9 = .ok (.getfield 19, 3) := by decide +kernel
theorem dX3_hasFood_12 : decode cX3_hasFood 12 = .ok (.getfield 25, 3) := by decide +kernel
theorem dX3_hasFood_15 : decode cX3_hasFood 15 = .ok (.if_icmp .ge 7, 3) := by decide +kernel
theorem dX3_hasFood_18 : decode cX3_hasFood 18 = .ok (.iconst 1, 1) := by decide +kernel
theorem dX3_hasFood_19 : decode cX3_hasFood 19 = .ok (.goto 4, 3) := by decide +kernel
theorem dX3_hasFood_22 : decode cX3_hasFood 22 = .ok (.iconst 0, 1) := by decide +kernel
theorem dX3_hasFood_23 : decode cX3_hasFood 23 = .ok (.ireturn, 1) := by decide +kernel
theorem dX3_limitOf_0 : decode cX3_limitOf 0 = .ok (.aload_n 0, 1) := by decide +kernel
theorem dX3_limitOf_1 : decode cX3_limitOf 1 = .ok (.getfield 9, 3) := by decide +kernel
theorem dX3_limitOf_4 : decode cX3_limitOf 4 = .ok (.getfield 19, 3) := by decide +kernel
theorem dX3_limitOf_7 : decode cX3_limitOf 7 = .ok (.iload_n 1, 1) := by decide +kernel
theorem dX3_limitOf_8 : decode cX3_limitOf 8 = .ok (.aload_n 0, 1) := by decide +kernel
theorem dX3_limitOf_9 : decode cX3_limitOf 9 = .ok (.getfield 15, 3) := by decide +kernel
theorem dX3_limitOf_12 : decode cX3_limitOf 12 = .ok (.iload_n 1, 1) := by decide +kernel
theorem dX3_limitOf_13 : decode cX3_limitOf 13 = .ok (.invokevirtual 31, 3) := by decide +kernel
theorem dX3_limitOf_16 : decode cX3_limitOf 16 = .ok (.invokevirtual 37, 3) := by decide +kernel
theorem dX3_limitOf_19 : decode cX3_limitOf 19 = .ok (.ireturn, 1) := by decide +kernel
theorem dX3_isOff_0 : decode cX3_isOff 0 = .ok (.aload_n 0, 1) := by decide +kernel
theorem dX3_isOff_1 : decode cX3_isOff 1 = .ok (.getfield 15, 3) := by decide +kernel
theorem dX3_isOff_4 : decode cX3_isOff 4 = .ok (.iload_n 1, 1) := by decide +kernel
theorem dX3_isOff_5 : decode cX3_isOff 5 = .ok (.invokevirtual 41, 3) := by decide +kernel
theorem dX3_isOff_8 : decode cX3_isOff 8 = .ok (.aload_n 0, 1) := by decide +kernel
theorem dX3_isOff_9 : decode cX3_isOff 9 = .ok (.iload_n 1, 1) := by decide +kernel
theorem dX3_isOff_10 : decode cX3_isOff 10 = .ok (.invokevirtual 44, 3) := by decide +kernel
theorem dX3_isOff_13 : decode cX3_isOff 13 = .ok (.if_icmp .lt 7, 3) := by decide +kernel
theorem dX3_isOff_16 : decode cX3_isOff 16 = .ok (.iconst 1, 1) := by decide +kernel
theorem dX3_isOff_17 : decode cX3_isOff 17 = .ok (.goto 4, 3) := by decide +kernel
theorem dX3_isOff_20 : decode cX3_isOff 20 = .ok (.iconst 0, 1) := by decide +kernel
theorem dX3_isOff_21 : decode cX3_isOff 21 = .ok (.ireturn, 1) := by decide +kernel
theorem dX3_offAndThere_0 : decode cX3_offAndThere 0 = .ok (.iconst 0, 1) := by decide +kernel
theorem dX3_offAndThere_1 : decode cX3_offAndThere 1 = .ok (.istore_n 1, 1) := by decide +kernel
theorem dX3_offAndThere_2 : decode cX3_offAndThere 2 = .ok (.iconst 0, 1) := by decide +kernel
theorem dX3_offAndThere_3 : decode cX3_offAndThere 3 = .ok (.istore_n 2, 1) := by decide +kernel
theorem dX3_offAndThere_4 : decode cX3_offAndThere 4 = .ok (.iload_n 2, 1) := by decide +kernel
theorem dX3_offAndThere_5 : decode cX3_offAndThere 5 = .ok (.aload_n 0, 1) := by decide +kernel
theorem dX3_offAndThere_6 : decode cX3_offAndThere 6 = .ok (.getfield 9, 3) := by decide +kernel
theorem dX3_offAndThere_9 : decode cX3_offAndThere 9 = .ok (.getfield 19, 3) := by decide +kernel
theorem dX3_offAndThere_12 : decode cX3_offAndThere 12 = .ok (.getfield 25, 3) := by decide +kernel
theorem dX3_offAndThere_15 : decode cX3_offAndThere 15 = .ok (.if_icmp .ge 34, 3) := by decide +kernel
theorem dX3_offAndThere_18 : decode cX3_offAndThere 18 = .ok (.aload_n 0, 1) := by decide +kernel
theorem dX3_offAndThere_19 : decode cX3_offAndThere 19 = .ok (.getfield 15, 3) := by decide +kernel
theorem dX3_offAndThere_22 : decode cX3_offAndThere 22 = .ok (.iload_n 2, 1) := by decide +kernel
theorem dX3_offAndThere_23 : decode cX3_offAndThere 23 = .ok (.invokevirtual 47, 3) := by decide +kernel
theorem dX3_offAndThere_26 : decode cX3_offAndThere 26 = .ok (.ifCond .eq 17, 3) := by decide +kernel
theorem dX3_offAndThere_29 : decode cX3_offAndThere 29 = .ok (.aload_n 0, 1) := by decide +kernel
theorem dX3_offAndThere_30 : decode cX3_offAndThere 30 = .ok (.iload_n 2, 1) := by decide +kernel
theorem dX3_offAndThere_31 : decode cX3_offAndThere 31 = .ok (.invokevirtual 51, 3) := by decide +kernel
theorem dX3_offAndThere_34 : decode cX3_offAndThere 34 = .ok (.ifCond .eq 9, 3) := by decide +kernel
theorem dX3_offAndThere_37 : decode cX3_offAndThere 37 = .ok (.iload_n 1, 1) := by decide +kernel
theorem dX3_offAndThere_38 : decode cX3_offAndThere 38 = .ok (.iconst 1, 1) := by decide +kernel
theorem dX3_offAndThere_39 : decode cX3_offAndThere 39 = .ok (.iload_n 2, 1) := by decide +kernel
theorem dX3_offAndThere_40 : decode cX3_offAndThere 40 = .ok (.ishl, 1) := by decide +kernel
theorem dX3_offAndThere_41 : decode cX3_offAndThere 41 = .ok (.ior, 1) := by decide +kernel
theorem dX3_offAndThere_42 : decode cX3_offAndThere 42 = .ok (.istore_n 1, 1) := by decide +kernel
theorem dX3_offAndThere_43 : decode cX3_offAndThere 43 = .ok (.iinc 2 1, 3) := by decide +kernel
theorem dX3_offAndThere_46 : decode cX3_offAndThere 46 = .ok (.goto (-42), 3) := by decide +kernel
theorem dX3_offAndThere_49 : decode cX3_offAndThere 49 = .ok (.iload_n 1, 1) := by decide +kernel
theorem dX3_offAndThere_50 : decode cX3_offAndThere 50 = .ok (.ireturn, 1) := by decide +kernel
theorem dX3_ageBehind_0 : decode cX3_ageBehind 0 = .ok (.aload_n 0, 1) := by decide +kernel
theorem dX3_ageBehind_1 : decode cX3_ageBehind 1 = .ok (.iload_n 1, 1) := by decide +kernel
theorem dX3_ageBehind_2 : decode cX3_ageBehind 2 = .ok (.aload_n 0, 1) := by decide +kernel
theorem dX3_ageBehind_3 : decode cX3_ageBehind 3 = .ok (.getfield 15, 3) := by decide +kernel
theorem dX3_ageBehind_6 : decode cX3_ageBehind 6 = .ok (.iload_n 1, 1) := by decide +kernel
theorem dX3_ageBehind_7 : decode cX3_ageBehind 7 = .ok (.invokevirtual 31, 3) := by decide +kernel
theorem dX3_ageBehind_10 : decode cX3_ageBehind 10 = .ok (.aload_n 0, 1) := by decide +kernel
theorem dX3_ageBehind_11 : decode cX3_ageBehind 11 = .ok (.getfield 15, 3) := by decide +kernel
theorem dX3_ageBehind_14 : decode cX3_ageBehind 14 = .ok (.iload_n 1, 1) := by decide +kernel
theorem dX3_ageBehind_15 : decode cX3_ageBehind 15 = .ok (.invokevirtual 54, 3) := by decide +kernel
theorem dX3_ageBehind_18 : decode cX3_ageBehind 18 = .ok (.iload_n 2, 1) := by decide +kernel
theorem dX3_ageBehind_19 : decode cX3_ageBehind 19 = .ok (.invokevirtual 57, 3) := by decide +kernel
theorem dX3_ageBehind_22 : decode cX3_ageBehind 22 = .ok (.ireturn, 1) := by decide +kernel
theorem dX3_ageAs_0 : decode cX3_ageAs 0 = .ok (.aload_n 0, 1) := by decide +kernel
theorem dX3_ageAs_1 : decode cX3_ageAs 1 = .ok (.getfield 15, 3) := by decide +kernel
theorem dX3_ageAs_4 : decode cX3_ageAs 4 = .ok (.iload_n 1, 1) := by decide +kernel
theorem dX3_ageAs_5 : decode cX3_ageAs 5 = .ok (.invokevirtual 41, 3) := by decide +kernel
theorem dX3_ageAs_8 : decode cX3_ageAs 8 = .ok (.iload_n 2, 1) := by decide +kernel
theorem dX3_ageAs_9 : decode cX3_ageAs 9 = .ok (.iload 4, 2) := by decide +kernel
theorem dX3_ageAs_11 : decode cX3_ageAs 11 = .ok (.aload_n 0, 1) := by decide +kernel
theorem dX3_ageAs_12 : decode cX3_ageAs 12 = .ok (.getfield 9, 3) := by decide +kernel
theorem dX3_ageAs_15 : decode cX3_ageAs 15 = .ok (.getfield 61, 3) := by decide +kernel
theorem dX3_ageAs_18 : decode cX3_ageAs 18 = .ok (.iload_n 3, 1) := by decide +kernel
theorem dX3_ageAs_19 : decode cX3_ageAs 19 = .ok (.aload_n 0, 1) := by decide +kernel
theorem dX3_ageAs_20 : decode cX3_ageAs 20 = .ok (.getfield 15, 3) := by decide +kernel
theorem dX3_ageAs_23 : decode cX3_ageAs 23 = .ok (.getfield 65, 3) := by decide +kernel
theorem dX3_ageAs_26 : decode cX3_ageAs 26 = .ok (.iload 4, 2) := by decide +kernel
theorem dX3_ageAs_28 : decode cX3_ageAs 28 = .ok (.invokevirtual 68, 3) := by decide +kernel
theorem dX3_ageAs_31 : decode cX3_ageAs 31 = .ok (.invokestatic 74, 3) := by decide +kernel
theorem dX3_ageAs_34 : decode cX3_ageAs 34 = .ok (.iadd, 1) := by decide +kernel
theorem dX3_ageAs_35 : decode cX3_ageAs 35 = .ok (.ireturn, 1) := by decide +kernel
theorem dX3_coinLostAs_0 : decode cX3_coinLostAs 0 = .ok (.aload_n 0, 1) := by decide +kernel
theorem dX3_coinLostAs_1 : decode cX3_coinLostAs 1 = .ok (.iload_n 1, 1) := by decide +kernel
theorem dX3_coinLostAs_2 : decode cX3_coinLostAs 2 = .ok (.iload_n 2, 1) := by decide +kernel
theorem dX3_coinLostAs_3 : decode cX3_coinLostAs 3 = .ok (.iload_n 3, 1) := by decide +kernel
theorem dX3_coinLostAs_4 : decode cX3_coinLostAs 4 = .ok (.iload 4, 2) := by decide +kernel
theorem dX3_coinLostAs_6 : decode cX3_coinLostAs 6 = .ok (.invokevirtual 57, 3) := by decide +kernel
theorem dX3_coinLostAs_9 : decode cX3_coinLostAs 9 = .ok (.aload_n 0, 1) := by decide +kernel
theorem dX3_coinLostAs_10 : decode cX3_coinLostAs 10 = .ok (.getfield 9, 3) := by decide +kernel
theorem dX3_coinLostAs_13 : decode cX3_coinLostAs 13 = .ok (.getfield 19, 3) := by decide +kernel
theorem dX3_coinLostAs_16 : decode cX3_coinLostAs 16 = .ok (.iload_n 1, 1) := by decide +kernel
theorem dX3_coinLostAs_17 : decode cX3_coinLostAs 17 = .ok (.iload_n 2, 1) := by decide +kernel
theorem dX3_coinLostAs_18 : decode cX3_coinLostAs 18 = .ok (.invokevirtual 37, 3) := by decide +kernel
theorem dX3_coinLostAs_21 : decode cX3_coinLostAs 21 = .ok (.if_icmp .lt 17, 3) := by decide +kernel
theorem dX3_coinLostAs_24 : decode cX3_coinLostAs 24 = .ok (.aload_n 0, 1) := by decide +kernel
theorem dX3_coinLostAs_25 : decode cX3_coinLostAs 25 = .ok (.getfield 9, 3) := by decide +kernel
theorem dX3_coinLostAs_28 : decode cX3_coinLostAs 28 = .ok (.getfield 19, 3) := by decide +kernel
theorem dX3_coinLostAs_31 : decode cX3_coinLostAs 31 = .ok (.iload_n 1, 1) := by decide +kernel
theorem dX3_coinLostAs_32 : decode cX3_coinLostAs 32 = .ok (.invokevirtual 77, 3) := by decide +kernel
theorem dX3_coinLostAs_35 : decode cX3_coinLostAs 35 = .ok (.goto 4, 3) := by decide +kernel
theorem dX3_coinLostAs_38 : decode cX3_coinLostAs 38 = .ok (.iconst 0, 1) := by decide +kernel
theorem dX3_coinLostAs_39 : decode cX3_coinLostAs 39 = .ok (.ireturn, 1) := by decide +kernel
theorem dX3_letHoursGoBy_0 : decode cX3_letHoursGoBy 0 = .ok (.iconst 0, 1) := by decide +kernel
theorem dX3_letHoursGoBy_1 : decode cX3_letHoursGoBy 1 = .ok (.istore_n 2, 1) := by decide +kernel
theorem dX3_letHoursGoBy_2 : decode cX3_letHoursGoBy 2 = .ok (.iload_n 2, 1) := by decide +kernel
theorem dX3_letHoursGoBy_3 : decode cX3_letHoursGoBy 3 = .ok (.aload_n 0, 1) := by decide +kernel
theorem dX3_letHoursGoBy_4 : decode cX3_letHoursGoBy 4 = .ok (.getfield 9, 3) := by decide +kernel
theorem dX3_letHoursGoBy_7 : decode cX3_letHoursGoBy 7 = .ok (.getfield 19, 3) := by decide +kernel
theorem dX3_letHoursGoBy_10 : decode cX3_letHoursGoBy 10 = .ok (.getfield 25, 3) := by decide +kernel
theorem dX3_letHoursGoBy_13 : decode cX3_letHoursGoBy 13 = .ok (.if_icmp .ge 34, 3) := by decide +kernel
theorem dX3_letHoursGoBy_16 : decode cX3_letHoursGoBy 16 = .ok (.aload_n 0, 1) := by decide +kernel
theorem dX3_letHoursGoBy_17 : decode cX3_letHoursGoBy 17 = .ok (.getfield 15, 3) := by decide +kernel
theorem dX3_letHoursGoBy_20 : decode cX3_letHoursGoBy 20 = .ok (.iload_n 2, 1) := by decide +kernel
theorem dX3_letHoursGoBy_21 : decode cX3_letHoursGoBy 21 = .ok (.invokevirtual 47, 3) := by decide +kernel
theorem dX3_letHoursGoBy_24 : decode cX3_letHoursGoBy 24 = .ok (.ifCond .eq 17, 3) := by decide +kernel
theorem dX3_letHoursGoBy_27 : decode cX3_letHoursGoBy 27 = .ok (.aload_n 0, 1) := by decide +kernel
theorem dX3_letHoursGoBy_28 : decode cX3_letHoursGoBy 28 = .ok (.getfield 15, 3) := by decide +kernel
theorem dX3_letHoursGoBy_31 : decode cX3_letHoursGoBy 31 = .ok (.iload_n 2, 1) := by decide +kernel
theorem dX3_letHoursGoBy_32 : decode cX3_letHoursGoBy 32 = .ok (.aload_n 0, 1) := by decide +kernel
theorem dX3_letHoursGoBy_33 : decode cX3_letHoursGoBy 33 = .ok (.iload_n 2, 1) := by decide +kernel
theorem dX3_letHoursGoBy_34 : decode cX3_letHoursGoBy 34 = .ok (.iload_n 1, 1) := by decide +kernel
theorem dX3_letHoursGoBy_35 : decode cX3_letHoursGoBy 35 = .ok (.invokevirtual 80, 3) := by decide +kernel
theorem dX3_letHoursGoBy_38 : decode cX3_letHoursGoBy 38 = .ok (.invokevirtual 83, 3) := by decide +kernel
theorem dX3_letHoursGoBy_41 : decode cX3_letHoursGoBy 41 = .ok (.iinc 2 1, 3) := by decide +kernel
theorem dX3_letHoursGoBy_44 : decode cX3_letHoursGoBy 44 = .ok (.goto (-42), 3) := by decide +kernel
theorem dX3_letHoursGoBy_47 : decode cX3_letHoursGoBy 47 = .ok (.aload_n 0, 1) := by decide +kernel
theorem dX3_letHoursGoBy_48 : decode cX3_letHoursGoBy 48 = .ok (.getfield 15, 3) := by decide +kernel
theorem dX3_letHoursGoBy_51 : decode cX3_letHoursGoBy 51 = .ok (.dup, 1) := by decide +kernel
theorem dX3_letHoursGoBy_52 : decode cX3_letHoursGoBy 52 = .ok (.getfield 65, 3) := by decide +kernel
theorem dX3_letHoursGoBy_55 : decode cX3_letHoursGoBy 55 = .ok (.iload_n 1, 1) := by decide +kernel
theorem dX3_letHoursGoBy_56 : decode cX3_letHoursGoBy 56 = .ok (.iadd, 1) := by decide +kernel
theorem dX3_letHoursGoBy_57 : decode cX3_letHoursGoBy 57 = .ok (.putfield 65, 3) := by decide +kernel
theorem dX3_letHoursGoBy_60 : decode cX3_letHoursGoBy 60 = .ok (.return_, 1) := by decide +kernel
theorem dX3_hoursTillOff_0 : decode cX3_hoursTillOff 0 = .ok (.aload_n 0, 1) := by decide +kernel
theorem dX3_hoursTillOff_1 : decode cX3_hoursTillOff 1 = .ok (.getfield 15, 3) := by decide +kernel
theorem dX3_hoursTillOff_4 : decode cX3_hoursTillOff 4 = .ok (.iload_n 1, 1) := by decide +kernel
theorem dX3_hoursTillOff_5 : decode cX3_hoursTillOff 5 = .ok (.invokevirtual 31, 3) := by decide +kernel
theorem dX3_hoursTillOff_8 : decode cX3_hoursTillOff 8 = .ok (.istore_n 3, 1) := by decide +kernel
theorem dX3_hoursTillOff_9 : decode cX3_hoursTillOff 9 = .ok (.aload_n 0, 1) := by decide +kernel
theorem dX3_hoursTillOff_10 : decode cX3_hoursTillOff 10 = .ok (.iload_n 1, 1) := by decide +kernel
theorem dX3_hoursTillOff_11 : decode cX3_hoursTillOff 11 = .ok (.invokevirtual 44, 3) := by decide +kernel
theorem dX3_hoursTillOff_14 : decode cX3_hoursTillOff 14 = .ok (.aload_n 0, 1) := by decide +kernel
theorem dX3_hoursTillOff_15 : decode cX3_hoursTillOff 15 = .ok (.getfield 15, 3) := by decide +kernel
theorem dX3_hoursTillOff_18 : decode cX3_hoursTillOff 18 = .ok (.iload_n 1, 1) := by decide +kernel
theorem dX3_hoursTillOff_19 : decode cX3_hoursTillOff 19 = .ok (.invokevirtual 41, 3) := by decide +kernel
theorem dX3_hoursTillOff_22 : decode cX3_hoursTillOff 22 = .ok (.isub, 1) := by decide +kernel
theorem dX3_hoursTillOff_23 : decode cX3_hoursTillOff 23 = .ok (.istore 4, 2) := by decide +kernel
theorem dX3_hoursTillOff_25 : decode cX3_hoursTillOff 25 = .ok (.iload 4, 2) := by decide +kernel
theorem dX3_hoursTillOff_27 : decode cX3_hoursTillOff 27 = .ok (.ifCond .gt 5, 3) := by decide +kernel
theorem dX3_hoursTillOff_30 : decode cX3_hoursTillOff 30 = .ok (.iconst 0, 1) := by decide +kernel
theorem dX3_hoursTillOff_31 : decode cX3_hoursTillOff 31 = .ok (.ireturn, 1) := by decide +kernel
theorem dX3_hoursTillOff_32 : decode cX3_hoursTillOff 32 = .ok (.iload_n 3, 1) := by decide +kernel
theorem dX3_hoursTillOff_33 : decode cX3_hoursTillOff 33 = .ok (.bipush 24, 2) := by decide +kernel
theorem dX3_hoursTillOff_35 : decode cX3_hoursTillOff 35 = .ok (.aload_n 0, 1) := by decide +kernel
theorem dX3_hoursTillOff_36 : decode cX3_hoursTillOff 36 = .ok (.getfield 9, 3) := by decide +kernel
theorem dX3_hoursTillOff_39 : decode cX3_hoursTillOff 39 = .ok (.getfield 61, 3) := by decide +kernel
theorem dX3_hoursTillOff_42 : decode cX3_hoursTillOff 42 = .ok (.iload_n 2, 1) := by decide +kernel
theorem dX3_hoursTillOff_43 : decode cX3_hoursTillOff 43 = .ok (.aload_n 0, 1) := by decide +kernel
theorem dX3_hoursTillOff_44 : decode cX3_hoursTillOff 44 = .ok (.getfield 15, 3) := by decide +kernel
theorem dX3_hoursTillOff_47 : decode cX3_hoursTillOff 47 = .ok (.getfield 65, 3) := by decide +kernel
theorem dX3_hoursTillOff_50 : decode cX3_hoursTillOff 50 = .ok (.bipush 24, 2) := by decide +kernel
theorem dX3_hoursTillOff_52 : decode cX3_hoursTillOff 52 = .ok (.invokevirtual 68, 3) := by decide +kernel
theorem dX3_hoursTillOff_55 : decode cX3_hoursTillOff 55 = .ok (.invokestatic 74, 3) := by decide +kernel
theorem dX3_hoursTillOff_58 : decode cX3_hoursTillOff 58 = .ok (.istore 5, 2) := by decide +kernel
theorem dX3_hoursTillOff_60 : decode cX3_hoursTillOff 60 = .ok (.iload 5, 2) := by decide +kernel
theorem dX3_hoursTillOff_62 : decode cX3_hoursTillOff 62 = .ok (.ifCond .le 13, 3) := by decide +kernel
theorem dX3_hoursTillOff_65 : decode cX3_hoursTillOff 65 = .ok (.iload 4, 2) := by decide +kernel
theorem dX3_hoursTillOff_67 : decode cX3_hoursTillOff 67 = .ok (.iconst 1, 1) := by decide +kernel
theorem dX3_hoursTillOff_68 : decode cX3_hoursTillOff 68 = .ok (.isub, 1) := by decide +kernel
theorem dX3_hoursTillOff_69 : decode cX3_hoursTillOff 69 = .ok (.iload 5, 2) := by decide +kernel
theorem dX3_hoursTillOff_71 : decode cX3_hoursTillOff 71 = .ok (.idiv, 1) := by decide +kernel
theorem dX3_hoursTillOff_72 : decode cX3_hoursTillOff 72 = .ok (.goto 4, 3) := by decide +kernel
theorem dX3_hoursTillOff_75 : decode cX3_hoursTillOff 75 = .ok (.iconst 0, 1) := by decide +kernel
theorem dX3_hoursTillOff_76 : decode cX3_hoursTillOff 76 = .ok (.istore 6, 2) := by decide +kernel
theorem dX3_hoursTillOff_78 : decode cX3_hoursTillOff 78 = .ok (.iload 6, 2) := by decide +kernel
theorem dX3_hoursTillOff_80 : decode cX3_hoursTillOff 80 = .ok (.bipush 24, 2) := by decide +kernel
theorem dX3_hoursTillOff_82 : decode cX3_hoursTillOff 82 = .ok (.imul, 1) := by decide +kernel
theorem dX3_hoursTillOff_83 : decode cX3_hoursTillOff 83 = .ok (.istore 7, 2) := by decide +kernel
theorem dX3_hoursTillOff_85 : decode cX3_hoursTillOff 85 = .ok (.iload 4, 2) := by decide +kernel
theorem dX3_hoursTillOff_87 : decode cX3_hoursTillOff 87 = .ok (.iload 6, 2) := by decide +kernel
theorem dX3_hoursTillOff_89 : decode cX3_hoursTillOff 89 = .ok (.iload 5, 2) := by decide +kernel
theorem dX3_hoursTillOff_91 : decode cX3_hoursTillOff 91 = .ok (.imul, 1) := by decide +kernel
theorem dX3_hoursTillOff_92 : decode cX3_hoursTillOff 92 = .ok (.isub, 1) := by decide +kernel
theorem dX3_hoursTillOff_93 : decode cX3_hoursTillOff 93 = .ok (.istore 4, 2) := by decide +kernel
theorem dX3_hoursTillOff_95 : decode cX3_hoursTillOff 95 = .ok (.iconst 0, 1) := by decide +kernel
theorem dX3_hoursTillOff_96 : decode cX3_hoursTillOff 96 = .ok (.istore 8, 2) := by decide +kernel
theorem dX3_hoursTillOff_98 : decode cX3_hoursTillOff 98 = .ok (.iload 8, 2) := by decide +kernel
theorem dX3_hoursTillOff_100 : decode cX3_hoursTillOff 100 = .ok (.bipush 24, 2) := by decide +kernel
theorem dX3_hoursTillOff_102 : decode cX3_hoursTillOff 102 = .ok (.if_icmp .ge 48, 3) := by decide +kernel
theorem dX3_hoursTillOff_105 : decode cX3_hoursTillOff 105 = .ok (.iload 4, 2) := by decide +kernel
theorem dX3_hoursTillOff_107 : decode cX3_hoursTillOff 107 = .ok (.ifCond .le 43, 3) := by decide +kernel
theorem dX3_hoursTillOff_110 : decode cX3_hoursTillOff 110 = .ok (.iload 4, 2) := by decide +kernel
theorem dX3_hoursTillOff_112 : decode cX3_hoursTillOff 112 = .ok (.iload_n 3, 1) := by decide +kernel
theorem dX3_hoursTillOff_113 : decode cX3_hoursTillOff 113 = .ok (.iconst 1, 1) := by decide +kernel
theorem dX3_hoursTillOff_114 : decode cX3_hoursTillOff 114 = .ok (.aload_n 0, 1) := by decide +kernel
theorem dX3_hoursTillOff_115 : decode cX3_hoursTillOff 115 = .ok (.getfield 9, 3) := by decide +kernel
theorem dX3_hoursTillOff_118 : decode cX3_hoursTillOff 118 = .ok (.getfield 61, 3) := by decide +kernel
theorem dX3_hoursTillOff_121 : decode cX3_hoursTillOff 121 = .ok (.iload_n 2, 1) := by decide +kernel
theorem dX3_hoursTillOff_122 : decode cX3_hoursTillOff 122 = .ok (.aload_n 0, 1) := by decide +kernel
theorem dX3_hoursTillOff_123 : decode cX3_hoursTillOff 123 = .ok (.getfield 15, 3) := by decide +kernel
theorem dX3_hoursTillOff_126 : decode cX3_hoursTillOff 126 = .ok (.getfield 65, 3) := by decide +kernel
theorem dX3_hoursTillOff_129 : decode cX3_hoursTillOff 129 = .ok (.iload 8, 2) := by decide +kernel
theorem dX3_hoursTillOff_131 : decode cX3_hoursTillOff 131 = .ok (.iadd, 1) := by decide +kernel
theorem dX3_hoursTillOff_132 : decode cX3_hoursTillOff 132 = .ok (.invokevirtual 87, 3) := by decide +kernel
theorem dX3_hoursTillOff_135 : decode cX3_hoursTillOff 135 = .ok (.invokestatic 74, 3) := by decide +kernel
theorem dX3_hoursTillOff_138 : decode cX3_hoursTillOff 138 = .ok (.isub, 1) := by decide +kernel
theorem dX3_hoursTillOff_139 : decode cX3_hoursTillOff 139 = .ok (.istore 4, 2) := by decide +kernel
theorem dX3_hoursTillOff_141 : decode cX3_hoursTillOff 141 = .ok (.iinc 7 1, 3) := by decide +kernel
theorem dX3_hoursTillOff_144 : decode cX3_hoursTillOff 144 = .ok (.iinc 8 1, 3) := by decide +kernel
theorem dX3_hoursTillOff_147 : decode cX3_hoursTillOff 147 = .ok (.goto (-49), 3) := by decide +kernel
theorem dX3_hoursTillOff_150 : decode cX3_hoursTillOff 150 = .ok (.iload 7, 2) := by decide +kernel
theorem dX3_hoursTillOff_152 : decode cX3_hoursTillOff 152 = .ok (.sipush 5000, 3) := by decide +kernel
theorem dX3_hoursTillOff_155 : decode cX3_hoursTillOff 155 = .ok (.if_icmp .gt 8, 3) := by decide +kernel
theorem dX3_hoursTillOff_158 : decode cX3_hoursTillOff 158 = .ok (.iload 7, 2) := by decide +kernel
theorem dX3_hoursTillOff_160 : decode cX3_hoursTillOff 160 = .ok (.goto 5, 3) := by decide +kernel
theorem dX3_hoursTillOff_163 : decode cX3_hoursTillOff 163 = .ok (.bipush (-4), 2) := by decide +kernel
theorem dX3_hoursTillOff_165 : decode cX3_hoursTillOff 165 = .ok (.ireturn, 1) := by decide +kernel
theorem dX3_lostBehind_0 : decode cX3_lostBehind 0 = .ok (.iconst 0, 1) := by decide +kernel
theorem dX3_lostBehind_1 : decode cX3_lostBehind 1 = .ok (.istore_n 2, 1) := by decide +kernel
theorem dX3_lostBehind_2 : decode cX3_lostBehind 2 = .ok (.iconst 0, 1) := by decide +kernel
theorem dX3_lostBehind_3 : decode cX3_lostBehind 3 = .ok (.istore_n 3, 1) := by decide +kernel
theorem dX3_lostBehind_4 : decode cX3_lostBehind 4 = .ok (.iload_n 3, 1) := by decide +kernel
theorem dX3_lostBehind_5 : decode cX3_lostBehind 5 = .ok (.aload_n 0, 1) := by decide +kernel
theorem dX3_lostBehind_6 : decode cX3_lostBehind 6 = .ok (.getfield 9, 3) := by decide +kernel
theorem dX3_lostBehind_9 : decode cX3_lostBehind 9 = .ok (.getfield 19, 3) := by decide +kernel
theorem dX3_lostBehind_12 : decode cX3_lostBehind 12 = .ok (.getfield 25, 3) := by decide +kernel
theorem dX3_lostBehind_15 : decode cX3_lostBehind 15 = .ok (.if_icmp .ge 45, 3) := by decide +kernel
theorem dX3_lostBehind_18 : decode cX3_lostBehind 18 = .ok (.aload_n 0, 1) := by decide +kernel
theorem dX3_lostBehind_19 : decode cX3_lostBehind 19 = .ok (.getfield 15, 3) := by decide +kernel
theorem dX3_lostBehind_22 : decode cX3_lostBehind 22 = .ok (.iload_n 3, 1) := by decide +kernel
theorem dX3_lostBehind_23 : decode cX3_lostBehind 23 = .ok (.invokevirtual 47, 3) := by decide +kernel
theorem dX3_lostBehind_26 : decode cX3_lostBehind 26 = .ok (.ifCond .eq 28, 3) := by decide +kernel
theorem dX3_lostBehind_29 : decode cX3_lostBehind 29 = .ok (.iload_n 2, 1) := by decide +kernel
theorem dX3_lostBehind_30 : decode cX3_lostBehind 30 = .ok (.aload_n 0, 1) := by decide +kernel
theorem dX3_lostBehind_31 : decode cX3_lostBehind 31 = .ok (.iload_n 3, 1) := by decide +kernel
theorem dX3_lostBehind_32 : decode cX3_lostBehind 32 = .ok (.aload_n 0, 1) := by decide +kernel
theorem dX3_lostBehind_33 : decode cX3_lostBehind 33 = .ok (.getfield 15, 3) := by decide +kernel
theorem dX3_lostBehind_36 : decode cX3_lostBehind 36 = .ok (.iload_n 3, 1) := by decide +kernel
theorem dX3_lostBehind_37 : decode cX3_lostBehind 37 = .ok (.invokevirtual 31, 3) := by decide +kernel
theorem dX3_lostBehind_40 : decode cX3_lostBehind 40 = .ok (.aload_n 0, 1) := by decide +kernel
theorem dX3_lostBehind_41 : decode cX3_lostBehind 41 = .ok (.getfield 15, 3) := by decide +kernel
theorem dX3_lostBehind_44 : decode cX3_lostBehind 44 = .ok (.iload_n 3, 1) := by decide +kernel
theorem dX3_lostBehind_45 : decode cX3_lostBehind 45 = .ok (.invokevirtual 54, 3) := by decide +kernel
theorem dX3_lostBehind_48 : decode cX3_lostBehind 48 = .ok (.iload_n 1, 1) := by decide +kernel
theorem dX3_lostBehind_49 : decode cX3_lostBehind 49 = .ok (.invokevirtual 90, 3) := by decide +kernel
theorem dX3_lostBehind_52 : decode cX3_lostBehind 52 = .ok (.iadd, 1) := by decide +kernel
theorem dX3_lostBehind_53 : decode cX3_lostBehind 53 = .ok (.istore_n 2, 1) := by decide +kernel
theorem dX3_lostBehind_54 : decode cX3_lostBehind 54 = .ok (.iinc 3 1, 3) := by decide +kernel
theorem dX3_lostBehind_57 : decode cX3_lostBehind 57 = .ok (.goto (-53), 3) := by decide +kernel
theorem dX3_lostBehind_60 : decode cX3_lostBehind 60 = .ok (.iload_n 2, 1) := by decide +kernel
theorem dX3_lostBehind_61 : decode cX3_lostBehind 61 = .ok (.ireturn, 1) := by decide +kernel
theorem dX3_lostIfFrozen_0 : decode cX3_lostIfFrozen 0 = .ok (.aload_n 0, 1) := by decide +kernel
theorem dX3_lostIfFrozen_1 : decode cX3_lostIfFrozen 1 = .ok (.getfield 15, 3) := by decide +kernel
theorem dX3_lostIfFrozen_4 : decode cX3_lostIfFrozen 4 = .ok (.iload_n 1, 1) := by decide +kernel
theorem dX3_lostIfFrozen_5 : decode cX3_lostIfFrozen 5 = .ok (.invokevirtual 54, 3) := by decide +kernel
theorem dX3_lostIfFrozen_8 : decode cX3_lostIfFrozen 8 = .ok (.istore 4, 2) := by decide +kernel
theorem dX3_lostIfFrozen_10 : decode cX3_lostIfFrozen 10 = .ok (.aload_n 0, 1) := by decide +kernel
theorem dX3_lostIfFrozen_11 : decode cX3_lostIfFrozen 11 = .ok (.iload_n 1, 1) := by decide +kernel
theorem dX3_lostIfFrozen_12 : decode cX3_lostIfFrozen 12 = .ok (.aload_n 0, 1) := by decide +kernel
theorem dX3_lostIfFrozen_13 : decode cX3_lostIfFrozen 13 = .ok (.getfield 15, 3) := by decide +kernel
theorem dX3_lostIfFrozen_16 : decode cX3_lostIfFrozen 16 = .ok (.iload_n 1, 1) := by decide +kernel
theorem dX3_lostIfFrozen_17 : decode cX3_lostIfFrozen 17 = .ok (.invokevirtual 31, 3) := by decide +kernel
theorem dX3_lostIfFrozen_20 : decode cX3_lostIfFrozen 20 = .ok (.iload 4, 2) := by decide +kernel
theorem dX3_lostIfFrozen_22 : decode cX3_lostIfFrozen 22 = .ok (.iload_n 2, 1) := by decide +kernel
theorem dX3_lostIfFrozen_23 : decode cX3_lostIfFrozen 23 = .ok (.invokevirtual 90, 3) := by decide +kernel
theorem dX3_lostIfFrozen_26 : decode cX3_lostIfFrozen 26 = .ok (.istore 5, 2) := by decide +kernel
theorem dX3_lostIfFrozen_28 : decode cX3_lostIfFrozen 28 = .ok (.iload_n 3, 1) := by decide +kernel
theorem dX3_lostIfFrozen_29 : decode cX3_lostIfFrozen 29 = .ok (.iload 5, 2) := by decide +kernel
theorem dX3_lostIfFrozen_31 : decode cX3_lostIfFrozen 31 = .ok (.isub, 1) := by decide +kernel
theorem dX3_lostIfFrozen_32 : decode cX3_lostIfFrozen 32 = .ok (.aload_n 0, 1) := by decide +kernel
theorem dX3_lostIfFrozen_33 : decode cX3_lostIfFrozen 33 = .ok (.iload_n 1, 1) := by decide +kernel
theorem dX3_lostIfFrozen_34 : decode cX3_lostIfFrozen 34 = .ok (.iconst 3, 1) := by decide +kernel
theorem dX3_lostIfFrozen_35 : decode cX3_lostIfFrozen 35 = .ok (.iload 4, 2) := by decide +kernel
theorem dX3_lostIfFrozen_37 : decode cX3_lostIfFrozen 37 = .ok (.iload_n 2, 1) := by decide +kernel
theorem dX3_lostIfFrozen_38 : decode cX3_lostIfFrozen 38 = .ok (.invokevirtual 90, 3) := by decide +kernel
theorem dX3_lostIfFrozen_41 : decode cX3_lostIfFrozen 41 = .ok (.iadd, 1) := by decide +kernel
theorem dX3_lostIfFrozen_42 : decode cX3_lostIfFrozen 42 = .ok (.ireturn, 1) := by decide +kernel
theorem dX3_bestToFreeze_0 : decode cX3_bestToFreeze 0 = .ok (.bipush (-4), 2) := by decide +kernel
theorem dX3_bestToFreeze_2 : decode cX3_bestToFreeze 2 = .ok (.istore_n 2, 1) := by decide +kernel
theorem dX3_bestToFreeze_3 : decode cX3_bestToFreeze 3 = .ok (.aload_n 0, 1) := by decide +kernel
theorem dX3_bestToFreeze_4 : decode cX3_bestToFreeze 4 = .ok (.iload_n 1, 1) := by decide +kernel
theorem dX3_bestToFreeze_5 : decode cX3_bestToFreeze 5 = .ok (.invokevirtual 93, 3) := by decide +kernel
theorem dX3_bestToFreeze_8 : decode cX3_bestToFreeze 8 = .ok (.istore_n 3, 1) := by decide +kernel
theorem dX3_bestToFreeze_9 : decode cX3_bestToFreeze 9 = .ok (.iload_n 3, 1) := by decide +kernel
theorem dX3_bestToFreeze_10 : decode cX3_bestToFreeze 10 = .ok (.istore 4, 2) := by decide +kernel
theorem dX3_bestToFreeze_12 : decode cX3_bestToFreeze 12 = .ok (.iconst 0, 1) := by decide +kernel
theorem dX3_bestToFreeze_13 : decode cX3_bestToFreeze 13 = .ok (.istore 5, 2) := by decide +kernel
theorem dX3_bestToFreeze_15 : decode cX3_bestToFreeze 15 = .ok (.iload 5, 2) := by decide +kernel
theorem dX3_bestToFreeze_17 : decode cX3_bestToFreeze 17 = .ok (.aload_n 0, 1) := by decide +kernel
theorem dX3_bestToFreeze_18 : decode cX3_bestToFreeze 18 = .ok (.getfield 9, 3) := by decide +kernel
theorem dX3_bestToFreeze_21 : decode cX3_bestToFreeze 21 = .ok (.getfield 19, 3) := by decide +kernel
theorem dX3_bestToFreeze_24 : decode cX3_bestToFreeze 24 = .ok (.getfield 25, 3) := by decide +kernel
theorem dX3_bestToFreeze_27 : decode cX3_bestToFreeze 27 = .ok (.if_icmp .ge 58, 3) := by decide +kernel
theorem dX3_bestToFreeze_30 : decode cX3_bestToFreeze 30 = .ok (.aload_n 0, 1) := by decide +kernel
theorem dX3_bestToFreeze_31 : decode cX3_bestToFreeze 31 = .ok (.getfield 15, 3) := by decide +kernel
theorem dX3_bestToFreeze_34 : decode cX3_bestToFreeze 34 = .ok (.iload 5, 2) := by decide +kernel
theorem dX3_bestToFreeze_36 : decode cX3_bestToFreeze 36 = .ok (.invokevirtual 47, 3) := by decide +kernel
theorem dX3_bestToFreeze_39 : decode cX3_bestToFreeze 39 = .ok (.ifCond .eq 40, 3) := by decide +kernel
theorem dX3_bestToFreeze_42 : decode cX3_bestToFreeze 42 = .ok (.aload_n 0, 1) := by decide +kernel
theorem dX3_bestToFreeze_43 : decode cX3_bestToFreeze 43 = .ok (.getfield 15, 3) := by decide +kernel
theorem dX3_bestToFreeze_46 : decode cX3_bestToFreeze 46 = .ok (.iload 5, 2) := by decide +kernel
theorem dX3_bestToFreeze_48 : decode cX3_bestToFreeze 48 = .ok (.invokevirtual 31, 3) := by decide +kernel
theorem dX3_bestToFreeze_51 : decode cX3_bestToFreeze 51 = .ok (.iconst 3, 1) := by decide +kernel
theorem dX3_bestToFreeze_52 : decode cX3_bestToFreeze 52 = .ok (.if_icmp .eq 27, 3) := by decide +kernel
theorem dX3_bestToFreeze_55 : decode cX3_bestToFreeze 55 = .ok (.aload_n 0, 1) := by decide +kernel
theorem dX3_bestToFreeze_56 : decode cX3_bestToFreeze 56 = .ok (.iload 5, 2) := by decide +kernel
theorem dX3_bestToFreeze_58 : decode cX3_bestToFreeze 58 = .ok (.iload_n 1, 1) := by decide +kernel
theorem dX3_bestToFreeze_59 : decode cX3_bestToFreeze 59 = .ok (.iload_n 3, 1) := by decide +kernel
theorem dX3_bestToFreeze_60 : decode cX3_bestToFreeze 60 = .ok (.invokevirtual 96, 3) := by decide +kernel
theorem dX3_bestToFreeze_63 : decode cX3_bestToFreeze 63 = .ok (.istore 6, 2) := by decide +kernel
theorem dX3_bestToFreeze_65 : decode cX3_bestToFreeze 65 = .ok (.iload 6, 2) := by decide +kernel
theorem dX3_bestToFreeze_67 : decode cX3_bestToFreeze 67 = .ok (.iload 4, 2) := by decide +kernel
theorem dX3_bestToFreeze_69 : decode cX3_bestToFreeze 69 = .ok (.if_icmp .ge 10, 3) := by decide +kernel
theorem dX3_bestToFreeze_72 : decode cX3_bestToFreeze 72 = .ok (.iload 5, 2) := by decide +kernel
theorem dX3_bestToFreeze_74 : decode cX3_bestToFreeze 74 = .ok (.istore_n 2, 1) := by decide +kernel
theorem dX3_bestToFreeze_75 : decode cX3_bestToFreeze 75 = .ok (.iload 6, 2) := by decide +kernel
theorem dX3_bestToFreeze_77 : decode cX3_bestToFreeze 77 = .ok (.istore 4, 2) := by decide +kernel
theorem dX3_bestToFreeze_79 : decode cX3_bestToFreeze 79 = .ok (.iinc 5 1, 3) := by decide +kernel
theorem dX3_bestToFreeze_82 : decode cX3_bestToFreeze 82 = .ok (.goto (-67), 3) := by decide +kernel
theorem dX3_bestToFreeze_85 : decode cX3_bestToFreeze 85 = .ok (.iload_n 2, 1) := by decide +kernel
theorem dX3_bestToFreeze_86 : decode cX3_bestToFreeze 86 = .ok (.ireturn, 1) := by decide +kernel
theorem dX3_errorsByPrint_0 : decode cX3_errorsByPrint 0 = .ok (.aload_n 0, 1) := by decide +kernel
theorem dX3_errorsByPrint_1 : decode cX3_errorsByPrint 1 = .ok (.getfield 15, 3) := by decide +kernel
theorem dX3_errorsByPrint_4 : decode cX3_errorsByPrint 4 = .ok (.getfield 65, 3) := by decide +kernel
theorem dX3_errorsByPrint_7 : decode cX3_errorsByPrint 7 = .ok (.bipush 24, 2) := by decide +kernel
theorem dX3_errorsByPrint_9 : decode cX3_errorsByPrint 9 = .ok (.idiv, 1) := by decide +kernel
theorem dX3_errorsByPrint_10 : decode cX3_errorsByPrint 10 = .ok (.istore_n 2, 1) := by decide +kernel
theorem dX3_errorsByPrint_11 : decode cX3_errorsByPrint 11 = .ok (.iconst 0, 1) := by decide +kernel
theorem dX3_errorsByPrint_12 : decode cX3_errorsByPrint 12 = .ok (.istore_n 3, 1) := by decide +kernel
theorem dX3_errorsByPrint_13 : decode cX3_errorsByPrint 13 = .ok (.iconst 0, 1) := by decide +kernel
theorem dX3_errorsByPrint_14 : decode cX3_errorsByPrint 14 = .ok (.istore 4, 2) := by decide +kernel
theorem dX3_errorsByPrint_16 : decode cX3_errorsByPrint 16 = .ok (.iload 4, 2) := by decide +kernel
theorem dX3_errorsByPrint_18 : decode cX3_errorsByPrint 18 = .ok (.aload_n 0, 1) := by decide +kernel
theorem dX3_errorsByPrint_19 : decode cX3_errorsByPrint 19 = .ok (.getfield 9, 3) := by decide +kernel
theorem dX3_errorsByPrint_22 : decode cX3_errorsByPrint 22 = .ok (.getfield 19, 3) := by decide +kernel
theorem dX3_errorsByPrint_25 : decode cX3_errorsByPrint 25 = .ok (.getfield 25, 3) := by decide +kernel
theorem dX3_errorsByPrint_28 : decode cX3_errorsByPrint 28 = .ok (.if_icmp .ge 63, 3) := by decide +kernel
theorem dX3_errorsByPrint_31 : decode cX3_errorsByPrint 31 = .ok (.iload_n 2, 1) := by decide +kernel
theorem dX3_errorsByPrint_32 : decode cX3_errorsByPrint 32 = .ok (.aload_n 0, 1) := by decide +kernel
theorem dX3_errorsByPrint_33 : decode cX3_errorsByPrint 33 = .ok (.getfield 9, 3) := by decide +kernel
theorem dX3_errorsByPrint_36 : decode cX3_errorsByPrint 36 = .ok (.getfield 19, 3) := by decide +kernel
theorem dX3_errorsByPrint_39 : decode cX3_errorsByPrint 39 = .ok (.iload 4, 2) := by decide +kernel
theorem dX3_errorsByPrint_41 : decode cX3_errorsByPrint 41 = .ok (.invokevirtual 99, 3) := by decide +kernel
theorem dX3_errorsByPrint_44 : decode cX3_errorsByPrint 44 = .ok (.if_icmp .le 7, 3) := by decide +kernel
theorem dX3_errorsByPrint_47 : decode cX3_errorsByPrint 47 = .ok (.iconst 1, 1) := by decide +kernel
theorem dX3_errorsByPrint_48 : decode cX3_errorsByPrint 48 = .ok (.goto 4, 3) := by decide +kernel
theorem dX3_errorsByPrint_51 : decode cX3_errorsByPrint 51 = .ok (.iconst 0, 1) := by decide +kernel
theorem dX3_errorsByPrint_52 : decode cX3_errorsByPrint 52 = .ok (.istore 5, 2) := by decide +kernel
theorem dX3_errorsByPrint_54 : decode cX3_errorsByPrint 54 = .ok (.aload_n 0, 1) := by decide +kernel
theorem dX3_errorsByPrint_55 : decode cX3_errorsByPrint 55 = .ok (.getfield 15, 3) := by decide +kernel
theorem dX3_errorsByPrint_58 : decode cX3_errorsByPrint 58 = .ok (.iload 4, 2) := by decide +kernel
theorem dX3_errorsByPrint_60 : decode cX3_errorsByPrint 60 = .ok (.invokevirtual 47, 3) := by decide +kernel
theorem dX3_errorsByPrint_63 : decode cX3_errorsByPrint 63 = .ok (.ifCond .eq 22, 3) := by decide +kernel
theorem dX3_errorsByPrint_66 : decode cX3_errorsByPrint 66 = .ok (.aload_n 0, 1) := by decide +kernel
theorem dX3_errorsByPrint_67 : decode cX3_errorsByPrint 67 = .ok (.iload 4, 2) := by decide +kernel
theorem dX3_errorsByPrint_69 : decode cX3_errorsByPrint 69 = .ok (.invokevirtual 51, 3) := by decide +kernel
theorem dX3_errorsByPrint_72 : decode cX3_errorsByPrint 72 = .ok (.iload_n 1, 1) := by decide +kernel
theorem dX3_errorsByPrint_73 : decode cX3_errorsByPrint 73 = .ok (.if_icmp .ne 12, 3) := by decide +kernel
theorem dX3_errorsByPrint_76 : decode cX3_errorsByPrint 76 = .ok (.iload 5, 2) := by decide +kernel
theorem dX3_errorsByPrint_78 : decode cX3_errorsByPrint 78 = .ok (.iload_n 1, 1) := by decide +kernel
theorem dX3_errorsByPrint_79 : decode cX3_errorsByPrint 79 = .ok (.if_icmp .eq 6, 3) := by decide +kernel
theorem dX3_errorsByPrint_82 : decode cX3_errorsByPrint 82 = .ok (.iinc 3 1, 3) := by decide +kernel
theorem dX3_errorsByPrint_85 : decode cX3_errorsByPrint 85 = .ok (.iinc 4 1, 3) := by decide +kernel
theorem dX3_errorsByPrint_88 : decode cX3_errorsByPrint 88 = .ok (.goto (-72), 3) := by decide +kernel
theorem dX3_errorsByPrint_91 : decode cX3_errorsByPrint 91 = .ok (.iload_n 3, 1) := by decide +kernel
theorem dX3_errorsByPrint_92 : decode cX3_errorsByPrint 92 = .ok (.ireturn, 1) := by decide +kernel
theorem dX3_errorsBySmell_0 : decode cX3_errorsBySmell 0 = .ok (.iconst 0, 1) := by decide +kernel
theorem dX3_errorsBySmell_1 : decode cX3_errorsBySmell 1 = .ok (.istore_n 2, 1) := by decide +kernel
theorem dX3_errorsBySmell_2 : decode cX3_errorsBySmell 2 = .ok (.iconst 0, 1) := by decide +kernel
theorem dX3_errorsBySmell_3 : decode cX3_errorsBySmell 3 = .ok (.istore_n 3, 1) := by decide +kernel
theorem dX3_errorsBySmell_4 : decode cX3_errorsBySmell 4 = .ok (.iload_n 3, 1) := by decide +kernel
theorem dX3_errorsBySmell_5 : decode cX3_errorsBySmell 5 = .ok (.aload_n 0, 1) := by decide +kernel
theorem dX3_errorsBySmell_6 : decode cX3_errorsBySmell 6 = .ok (.getfield 9, 3) := by decide +kernel
theorem dX3_errorsBySmell_9 : decode cX3_errorsBySmell 9 = .ok (.getfield 19, 3) := by decide +kernel
theorem dX3_errorsBySmell_12 : decode cX3_errorsBySmell 12 = .ok (.getfield 25, 3) := by decide +kernel
theorem dX3_errorsBySmell_15 : decode cX3_errorsBySmell 15 = .ok (.if_icmp .ge 81, 3) := by decide +kernel
theorem dX3_errorsBySmell_18 : decode cX3_errorsBySmell 18 = .ok (.aload_n 0, 1) := by decide +kernel
theorem dX3_errorsBySmell_19 : decode cX3_errorsBySmell 19 = .ok (.getfield 15, 3) := by decide +kernel
theorem dX3_errorsBySmell_22 : decode cX3_errorsBySmell 22 = .ok (.iload_n 3, 1) := by decide +kernel
theorem dX3_errorsBySmell_23 : decode cX3_errorsBySmell 23 = .ok (.invokevirtual 47, 3) := by decide +kernel
theorem dX3_errorsBySmell_26 : decode cX3_errorsBySmell 26 = .ok (.ifCond .eq 64, 3) := by decide +kernel
theorem dX3_errorsBySmell_29 : decode cX3_errorsBySmell 29 = .ok (.bipush 10, 2) := by decide +kernel
theorem dX3_errorsBySmell_31 : decode cX3_errorsBySmell 31 = .ok (.aload_n 0, 1) := by decide +kernel
theorem dX3_errorsBySmell_32 : decode cX3_errorsBySmell 32 = .ok (.getfield 15, 3) := by decide +kernel
theorem dX3_errorsBySmell_35 : decode cX3_errorsBySmell 35 = .ok (.iload_n 3, 1) := by decide +kernel
theorem dX3_errorsBySmell_36 : decode cX3_errorsBySmell 36 = .ok (.invokevirtual 41, 3) := by decide +kernel
theorem dX3_errorsBySmell_39 : decode cX3_errorsBySmell 39 = .ok (.imul, 1) := by decide +kernel
theorem dX3_errorsBySmell_40 : decode cX3_errorsBySmell 40 = .ok (.iload_n 1, 1) := by decide +kernel
theorem dX3_errorsBySmell_41 : decode cX3_errorsBySmell 41 = .ok (.aload_n 0, 1) := by decide +kernel
theorem dX3_errorsBySmell_42 : decode cX3_errorsBySmell 42 = .ok (.iload_n 3, 1) := by decide +kernel
theorem dX3_errorsBySmell_43 : decode cX3_errorsBySmell 43 = .ok (.invokevirtual 44, 3) := by decide +kernel
theorem dX3_errorsBySmell_46 : decode cX3_errorsBySmell 46 = .ok (.imul, 1) := by decide +kernel
theorem dX3_errorsBySmell_47 : decode cX3_errorsBySmell 47 = .ok (.if_icmp .lt 7, 3) := by decide +kernel
theorem dX3_errorsBySmell_50 : decode cX3_errorsBySmell 50 = .ok (.iconst 1, 1) := by decide +kernel
theorem dX3_errorsBySmell_51 : decode cX3_errorsBySmell 51 = .ok (.goto 4, 3) := by decide +kernel
theorem dX3_errorsBySmell_54 : decode cX3_errorsBySmell 54 = .ok (.iconst 0, 1) := by decide +kernel
theorem dX3_errorsBySmell_55 : decode cX3_errorsBySmell 55 = .ok (.istore 4, 2) := by decide +kernel
theorem dX3_errorsBySmell_57 : decode cX3_errorsBySmell 57 = .ok (.iload_n 2, 1) := by decide +kernel
theorem dX3_errorsBySmell_58 : decode cX3_errorsBySmell 58 = .ok (.iload 4, 2) := by decide +kernel
theorem dX3_errorsBySmell_60 : decode cX3_errorsBySmell 60 = .ok (.aload_n 0, 1) := by decide +kernel
theorem dX3_errorsBySmell_61 : decode cX3_errorsBySmell 61 = .ok (.iload_n 3, 1) := by decide +kernel
theorem dX3_errorsBySmell_62 : decode cX3_errorsBySmell 62 = .ok (.invokevirtual 51, 3) := by decide +kernel
theorem dX3_errorsBySmell_65 : decode cX3_errorsBySmell 65 = .ok (.if_icmp .ne 13, 3) := by decide +kernel
theorem dX3_errorsBySmell_68 : decode cX3_errorsBySmell 68 = .ok (.aload_n 0, 1) := by decide +kernel
theorem dX3_errorsBySmell_69 : decode cX3_errorsBySmell 69 = .ok (.getfield 9, 3) := by decide +kernel
theorem dX3_errorsBySmell_72 : decode cX3_errorsBySmell 72 = .ok (.getfield 102, 3) := by decide +kernel
theorem dX3_errorsBySmell_75 : decode cX3_errorsBySmell 75 = .ok (.goto 13, 3) := by decide +kernel
theorem dX3_errorsBySmell_78 : decode cX3_errorsBySmell 78 = .ok (.bipush 10, 2) := by decide +kernel
theorem dX3_errorsBySmell_80 : decode cX3_errorsBySmell 80 = .ok (.aload_n 0, 1) := by decide +kernel
theorem dX3_errorsBySmell_81 : decode cX3_errorsBySmell 81 = .ok (.getfield 9, 3) := by decide +kernel
theorem dX3_errorsBySmell_84 : decode cX3_errorsBySmell 84 = .ok (.getfield 102, 3) := by decide +kernel
theorem dX3_errorsBySmell_87 : decode cX3_errorsBySmell 87 = .ok (.isub, 1) := by decide +kernel
theorem dX3_errorsBySmell_88 : decode cX3_errorsBySmell 88 = .ok (.iadd, 1) := by decide +kernel
theorem dX3_errorsBySmell_89 : decode cX3_errorsBySmell 89 = .ok (.istore_n 2, 1) := by decide +kernel
theorem dX3_errorsBySmell_90 : decode cX3_errorsBySmell 90 = .ok (.iinc 3 1, 3) := by decide +kernel
theorem dX3_errorsBySmell_93 : decode cX3_errorsBySmell 93 = .ok (.goto (-89), 3) := by decide +kernel
theorem dX3_errorsBySmell_96 : decode cX3_errorsBySmell 96 = .ok (.iload_n 2, 1) := by decide +kernel
theorem dX3_errorsBySmell_97 : decode cX3_errorsBySmell 97 = .ok (.ireturn, 1) := by decide +kernel
theorem dX3_bestLine_0 : decode cX3_bestLine 0 = .ok (.iconst 0, 1) := by decide +kernel
theorem dX3_bestLine_1 : decode cX3_bestLine 1 = .ok (.istore_n 1, 1) := by decide +kernel
theorem dX3_bestLine_2 : decode cX3_bestLine 2 = .ok (.iconst 1, 1) := by decide +kernel
theorem dX3_bestLine_3 : decode cX3_bestLine 3 = .ok (.istore_n 2, 1) := by decide +kernel
theorem dX3_bestLine_4 : decode cX3_bestLine 4 = .ok (.iload_n 2, 1) := by decide +kernel
theorem dX3_bestLine_5 : decode cX3_bestLine 5 = .ok (.bipush 20, 2) := by decide +kernel
theorem dX3_bestLine_7 : decode cX3_bestLine 7 = .ok (.if_icmp .gt 24, 3) := by decide +kernel
theorem dX3_bestLine_10 : decode cX3_bestLine 10 = .ok (.aload_n 0, 1) := by decide +kernel
theorem dX3_bestLine_11 : decode cX3_bestLine 11 = .ok (.iload_n 2, 1) := by decide +kernel
theorem dX3_bestLine_12 : decode cX3_bestLine 12 = .ok (.invokevirtual 105, 3) := by decide +kernel
theorem dX3_bestLine_15 : decode cX3_bestLine 15 = .ok (.aload_n 0, 1) := by decide +kernel
theorem dX3_bestLine_16 : decode cX3_bestLine 16 = .ok (.iload_n 1, 1) := by decide +kernel
theorem dX3_bestLine_17 : decode cX3_bestLine 17 = .ok (.invokevirtual 105, 3) := by decide +kernel
theorem dX3_bestLine_20 : decode cX3_bestLine 20 = .ok (.if_icmp .ge 5, 3) := by decide +kernel
theorem dX3_bestLine_23 : decode cX3_bestLine 23 = .ok (.iload_n 2, 1) := by decide +kernel
theorem dX3_bestLine_24 : decode cX3_bestLine 24 = .ok (.istore_n 1, 1) := by decide +kernel
theorem dX3_bestLine_25 : decode cX3_bestLine 25 = .ok (.iinc 2 1, 3) := by decide +kernel
theorem dX3_bestLine_28 : decode cX3_bestLine 28 = .ok (.goto (-24), 3) := by decide +kernel
theorem dX3_bestLine_31 : decode cX3_bestLine 31 = .ok (.iload_n 1, 1) := by decide +kernel
theorem dX3_bestLine_32 : decode cX3_bestLine 32 = .ok (.ireturn, 1) := by decide +kernel
theorem dX3_offBehindCut_0 : decode cX3_offBehindCut 0 = .ok (.iconst 0, 1) := by decide +kernel
theorem dX3_offBehindCut_1 : decode cX3_offBehindCut 1 = .ok (.istore_n 3, 1) := by decide +kernel
theorem dX3_offBehindCut_2 : decode cX3_offBehindCut 2 = .ok (.iconst 0, 1) := by decide +kernel
theorem dX3_offBehindCut_3 : decode cX3_offBehindCut 3 = .ok (.istore 4, 2) := by decide +kernel
theorem dX3_offBehindCut_5 : decode cX3_offBehindCut 5 = .ok (.iload 4, 2) := by decide +kernel
theorem dX3_offBehindCut_7 : decode cX3_offBehindCut 7 = .ok (.aload_n 0, 1) := by decide +kernel
theorem dX3_offBehindCut_8 : decode cX3_offBehindCut 8 = .ok (.getfield 9, 3) := by decide +kernel
theorem dX3_offBehindCut_11 : decode cX3_offBehindCut 11 = .ok (.getfield 19, 3) := by decide +kernel
theorem dX3_offBehindCut_14 : decode cX3_offBehindCut 14 = .ok (.getfield 25, 3) := by decide +kernel
theorem dX3_offBehindCut_17 : decode cX3_offBehindCut 17 = .ok (.if_icmp .ge 89, 3) := by decide +kernel
theorem dX3_offBehindCut_20 : decode cX3_offBehindCut 20 = .ok (.aload_n 0, 1) := by decide +kernel
theorem dX3_offBehindCut_21 : decode cX3_offBehindCut 21 = .ok (.getfield 9, 3) := by decide +kernel
theorem dX3_offBehindCut_24 : decode cX3_offBehindCut 24 = .ok (.getfield 61, 3) := by decide +kernel
theorem dX3_offBehindCut_27 : decode cX3_offBehindCut 27 = .ok (.aload_n 0, 1) := by decide +kernel
theorem dX3_offBehindCut_28 : decode cX3_offBehindCut 28 = .ok (.getfield 15, 3) := by decide +kernel
theorem dX3_offBehindCut_31 : decode cX3_offBehindCut 31 = .ok (.iload 4, 2) := by decide +kernel
theorem dX3_offBehindCut_33 : decode cX3_offBehindCut 33 = .ok (.invokevirtual 54, 3) := by decide +kernel
theorem dX3_offBehindCut_36 : decode cX3_offBehindCut 36 = .ok (.iload_n 1, 1) := by decide +kernel
theorem dX3_offBehindCut_37 : decode cX3_offBehindCut 37 = .ok (.iload_n 2, 1) := by decide +kernel
theorem dX3_offBehindCut_38 : decode cX3_offBehindCut 38 = .ok (.invokevirtual 108, 3) := by decide +kernel
theorem dX3_offBehindCut_41 : decode cX3_offBehindCut 41 = .ok (.istore 5, 2) := by decide +kernel
theorem dX3_offBehindCut_43 : decode cX3_offBehindCut 43 = .ok (.aload_n 0, 1) := by decide +kernel
theorem dX3_offBehindCut_44 : decode cX3_offBehindCut 44 = .ok (.getfield 15, 3) := by decide +kernel
theorem dX3_offBehindCut_47 : decode cX3_offBehindCut 47 = .ok (.iload 4, 2) := by decide +kernel
theorem dX3_offBehindCut_49 : decode cX3_offBehindCut 49 = .ok (.invokevirtual 41, 3) := by decide +kernel
theorem dX3_offBehindCut_52 : decode cX3_offBehindCut 52 = .ok (.aload_n 0, 1) := by decide +kernel
theorem dX3_offBehindCut_53 : decode cX3_offBehindCut 53 = .ok (.getfield 15, 3) := by decide +kernel
theorem dX3_offBehindCut_56 : decode cX3_offBehindCut 56 = .ok (.iload 4, 2) := by decide +kernel
theorem dX3_offBehindCut_58 : decode cX3_offBehindCut 58 = .ok (.invokevirtual 31, 3) := by decide +kernel
theorem dX3_offBehindCut_61 : decode cX3_offBehindCut 61 = .ok (.iload_n 1, 1) := by decide +kernel
theorem dX3_offBehindCut_62 : decode cX3_offBehindCut 62 = .ok (.iload 5, 2) := by decide +kernel
theorem dX3_offBehindCut_64 : decode cX3_offBehindCut 64 = .ok (.invokestatic 74, 3) := by decide +kernel
theorem dX3_offBehindCut_67 : decode cX3_offBehindCut 67 = .ok (.iadd, 1) := by decide +kernel
theorem dX3_offBehindCut_68 : decode cX3_offBehindCut 68 = .ok (.istore 6, 2) := by decide +kernel
theorem dX3_offBehindCut_70 : decode cX3_offBehindCut 70 = .ok (.aload_n 0, 1) := by decide +kernel
theorem dX3_offBehindCut_71 : decode cX3_offBehindCut 71 = .ok (.getfield 15, 3) := by decide +kernel
theorem dX3_offBehindCut_74 : decode cX3_offBehindCut 74 = .ok (.iload 4, 2) := by decide +kernel
theorem dX3_offBehindCut_76 : decode cX3_offBehindCut 76 = .ok (.invokevirtual 47, 3) := by decide +kernel
theorem dX3_offBehindCut_79 : decode cX3_offBehindCut 79 = .ok (.ifCond .eq 21, 3) := by decide +kernel
theorem dX3_offBehindCut_82 : decode cX3_offBehindCut 82 = .ok (.iload 6, 2) := by decide +kernel
theorem dX3_offBehindCut_84 : decode cX3_offBehindCut 84 = .ok (.aload_n 0, 1) := by decide +kernel
theorem dX3_offBehindCut_85 : decode cX3_offBehindCut 85 = .ok (.iload 4, 2) := by decide +kernel
theorem dX3_offBehindCut_87 : decode cX3_offBehindCut 87 = .ok (.invokevirtual 44, 3) := by decide +kernel
theorem dX3_offBehindCut_90 : decode cX3_offBehindCut 90 = .ok (.if_icmp .lt 10, 3) := by decide +kernel
theorem dX3_offBehindCut_93 : decode cX3_offBehindCut 93 = .ok (.iload_n 3, 1) := by decide +kernel
theorem dX3_offBehindCut_94 : decode cX3_offBehindCut 94 = .ok (.iconst 1, 1) := by decide +kernel
theorem dX3_offBehindCut_95 : decode cX3_offBehindCut 95 = .ok (.iload 4, 2) := by decide +kernel
theorem dX3_offBehindCut_97 : decode cX3_offBehindCut 97 = .ok (.ishl, 1) := by decide +kernel
theorem dX3_offBehindCut_98 : decode cX3_offBehindCut 98 = .ok (.ior, 1) := by decide +kernel
theorem dX3_offBehindCut_99 : decode cX3_offBehindCut 99 = .ok (.istore_n 3, 1) := by decide +kernel
theorem dX3_offBehindCut_100 : decode cX3_offBehindCut 100 = .ok (.iinc 4 1, 3) := by decide +kernel
theorem dX3_offBehindCut_103 : decode cX3_offBehindCut 103 = .ok (.goto (-98), 3) := by decide +kernel
theorem dX3_offBehindCut_106 : decode cX3_offBehindCut 106 = .ok (.iload_n 3, 1) := by decide +kernel
theorem dX3_offBehindCut_107 : decode cX3_offBehindCut 107 = .ok (.ireturn, 1) := by decide +kernel
theorem dX3_weightOfIll_0 : decode cX3_weightOfIll 0 = .ok (.aload_n 0, 1) := by decide +kernel
theorem dX3_weightOfIll_1 : decode cX3_weightOfIll 1 = .ok (.getfield 15, 3) := by decide +kernel
theorem dX3_weightOfIll_4 : decode cX3_weightOfIll 4 = .ok (.iload_n 1, 1) := by decide +kernel
theorem dX3_weightOfIll_5 : decode cX3_weightOfIll 5 = .ok (.invokevirtual 112, 3) := by decide +kernel
theorem dX3_weightOfIll_8 : decode cX3_weightOfIll 8 = .ok (.istore_n 2, 1) := by decide +kernel
theorem dX3_weightOfIll_9 : decode cX3_weightOfIll 9 = .ok (.aload_n 0, 1) := by decide +kernel
theorem dX3_weightOfIll_10 : decode cX3_weightOfIll 10 = .ok (.iload_n 1, 1) := by decide +kernel
theorem dX3_weightOfIll_11 : decode cX3_weightOfIll 11 = .ok (.invokevirtual 44, 3) := by decide +kernel
theorem dX3_weightOfIll_14 : decode cX3_weightOfIll 14 = .ok (.istore_n 3, 1) := by decide +kernel
theorem dX3_weightOfIll_15 : decode cX3_weightOfIll 15 = .ok (.aload_n 0, 1) := by decide +kernel
theorem dX3_weightOfIll_16 : decode cX3_weightOfIll 16 = .ok (.getfield 15, 3) := by decide +kernel
theorem dX3_weightOfIll_19 : decode cX3_weightOfIll 19 = .ok (.iload_n 1, 1) := by decide +kernel
theorem dX3_weightOfIll_20 : decode cX3_weightOfIll 20 = .ok (.invokevirtual 115, 3) := by decide +kernel
theorem dX3_weightOfIll_23 : decode cX3_weightOfIll 23 = .ok (.iconst 1, 1) := by decide +kernel
theorem dX3_weightOfIll_24 : decode cX3_weightOfIll 24 = .ok (.if_icmp .ne 18, 3) := by decide +kernel
theorem dX3_weightOfIll_27 : decode cX3_weightOfIll 27 = .ok (.iload_n 2, 1) := by decide +kernel
theorem dX3_weightOfIll_28 : decode cX3_weightOfIll 28 = .ok (.bipush 6, 2) := by decide +kernel
theorem dX3_weightOfIll_30 : decode cX3_weightOfIll 30 = .ok (.bipush 72, 2) := by decide +kernel
theorem dX3_weightOfIll_32 : decode cX3_weightOfIll 32 = .ok (.invokestatic 118, 3) := by decide +kernel
theorem dX3_weightOfIll_35 : decode cX3_weightOfIll 35 = .ok (.ifCond .eq 7, 3) := by decide +kernel
theorem dX3_weightOfIll_38 : decode cX3_weightOfIll 38 = .ok (.iload_n 3, 1) := by decide +kernel
theorem dX3_weightOfIll_39 : decode cX3_weightOfIll 39 = .ok (.ifCond .gt 5, 3) := by decide +kernel
theorem dX3_weightOfIll_42 : decode cX3_weightOfIll 42 = .ok (.iconst 0, 1) := by decide +kernel
theorem dX3_weightOfIll_43 : decode cX3_weightOfIll 43 = .ok (.ireturn, 1) := by decide +kernel
theorem dX3_weightOfIll_44 : decode cX3_weightOfIll 44 = .ok (.bipush 10, 2) := by decide +kernel
theorem dX3_weightOfIll_46 : decode cX3_weightOfIll 46 = .ok (.aload_n 0, 1) := by decide +kernel
theorem dX3_weightOfIll_47 : decode cX3_weightOfIll 47 = .ok (.getfield 15, 3) := by decide +kernel
theorem dX3_weightOfIll_50 : decode cX3_weightOfIll 50 = .ok (.iload_n 1, 1) := by decide +kernel
theorem dX3_weightOfIll_51 : decode cX3_weightOfIll 51 = .ok (.invokevirtual 41, 3) := by decide +kernel
theorem dX3_weightOfIll_54 : decode cX3_weightOfIll 54 = .ok (.imul, 1) := by decide +kernel
theorem dX3_weightOfIll_55 : decode cX3_weightOfIll 55 = .ok (.iload_n 3, 1) := by decide +kernel
theorem dX3_weightOfIll_56 : decode cX3_weightOfIll 56 = .ok (.idiv, 1) := by decide +kernel
theorem dX3_weightOfIll_57 : decode cX3_weightOfIll 57 = .ok (.istore 4, 2) := by decide +kernel
theorem dX3_weightOfIll_59 : decode cX3_weightOfIll 59 = .ok (.iload_n 2, 1) := by decide +kernel
theorem dX3_weightOfIll_60 : decode cX3_weightOfIll 60 = .ok (.bipush 24, 2) := by decide +kernel
theorem dX3_weightOfIll_62 : decode cX3_weightOfIll 62 = .ok (.if_icmp .gt 10, 3) := by decide +kernel
theorem dX3_weightOfIll_65 : decode cX3_weightOfIll 65 = .ok (.iconst 2, 1) := by decide +kernel
theorem dX3_weightOfIll_66 : decode cX3_weightOfIll 66 = .ok (.iload 4, 2) := by decide +kernel
theorem dX3_weightOfIll_68 : decode cX3_weightOfIll 68 = .ok (.imul, 1) := by decide +kernel
theorem dX3_weightOfIll_69 : decode cX3_weightOfIll 69 = .ok (.goto 5, 3) := by decide +kernel
theorem dX3_weightOfIll_72 : decode cX3_weightOfIll 72 = .ok (.iload 4, 2) := by decide +kernel
theorem dX3_weightOfIll_74 : decode cX3_weightOfIll 74 = .ok (.ireturn, 1) := by decide +kernel
theorem dX4_init_0 : decode cX4_init 0 = .ok (.aload_n 0, 1) := by decide +kernel
theorem dX4_init_1 : decode cX4_init 1 = .ok (.invokespecial 3, 3) := by decide +kernel
theorem dX4_init_4 : decode cX4_init 4 = .ok (.aload_n 0, 1) := by decide +kernel
theorem dX4_init_5 : decode cX4_init 5 = .ok (.bipush 24, 2) := by decide +kernel
theorem dX4_init_7 : decode cX4_init 7 = .ok (.newarray .int, 2) := by decide +kernel
theorem dX4_init_9 : decode cX4_init 9 = .ok (.putfield 9, 3) := by decide +kernel
theorem dX4_init_12 : decode cX4_init 12 = .ok (.aload_n 0, 1) := by decide +kernel
theorem dX4_init_13 : decode cX4_init 13 = .ok (.bipush 6, 2) := by decide +kernel
theorem dX4_init_15 : decode cX4_init 15 = .ok (.newarray .int, 2) := by decide +kernel
theorem dX4_init_17 : decode cX4_init 17 = .ok (.putfield 15, 3) := by decide +kernel
theorem dX4_init_20 : decode cX4_init 20 = .ok (.aload_n 0, 1) := by decide +kernel
theorem dX4_init_21 : decode cX4_init 21 = .ok (.iconst 4, 1) := by decide +kernel
theorem dX4_init_22 : decode cX4_init 22 = .ok (.newarray .int, 2) := by decide +kernel
theorem dX4_init_24 : decode cX4_init 24 = .ok (.putfield 18, 3) := by decide +kernel
theorem dX4_init_27 : decode cX4_init 27 = .ok (.aload_n 0, 1) := by decide +kernel
theorem dX4_init_28 : decode cX4_init 28 = .ok (.iconst 4, 1) := by decide +kernel
theorem dX4_init_29 : decode cX4_init 29 = .ok (.newarray .int, 2) := by decide +kernel
theorem dX4_init_31 : decode cX4_init 31 = .ok (.putfield 21, 3) := by decide +kernel
theorem dX4_init_34 : decode cX4_init 34 = .ok (.aload_n 0, 1) := by decide +kernel
theorem dX4_init_35 : decode cX4_init 35 = .ok (.aload_n 1, 1) := by decide +kernel
theorem dX4_init_36 : decode cX4_init 36 = .ok (.putfield 24, 3) := by decide +kernel
theorem dX4_init_39 : decode cX4_init 39 = .ok (.return_, 1) := by decide +kernel
theorem dX4_findBest_0 : decode cX4_findBest 0 = .ok (.aload_n 0, 1) := by decide +kernel
theorem dX4_findBest_1 : decode cX4_findBest 1 = .ok (.iload_n 1, 1) := by decide +kernel
theorem dX4_findBest_2 : decode cX4_findBest 2 = .ok (.putfield 28, 3) := by decide +kernel
theorem dX4_findBest_5 : decode cX4_findBest 5 = .ok (.aload_n 0, 1) := by decide +kernel
theorem dX4_findBest_6 : decode cX4_findBest 6 = .ok (.ldc 32, 2) := by decide +kernel
theorem dX4_findBest_8 : decode cX4_findBest 8 = .ok (.putfield 33, 3) := by decide +kernel
theorem dX4_findBest_11 : decode cX4_findBest 11 = .ok (.iconst 0, 1) := by decide +kernel
theorem dX4_findBest_12 : decode cX4_findBest 12 = .ok (.istore_n 3, 1) := by decide +kernel
theorem dX4_findBest_13 : decode cX4_findBest 13 = .ok (.iload_n 3, 1) := by decide +kernel
theorem dX4_findBest_14 : decode cX4_findBest 14 = .ok (.aload_n 0, 1) := by decide +kernel
theorem dX4_findBest_15 : decode cX4_findBest 15 = .ok (.getfield 24, 3) := by decide +kernel
theorem dX4_findBest_18 : decode cX4_findBest 18 = .ok (.getfield 36, 3) := by decide +kernel
theorem dX4_findBest_21 : decode cX4_findBest 21 = .ok (.getfield 42, 3) := by decide +kernel
theorem dX4_findBest_24 : decode cX4_findBest 24 = .ok (.getfield 48, 3) := by decide +kernel
theorem dX4_findBest_27 : decode cX4_findBest 27 = .ok (.if_icmp .ge 43, 3) := by decide +kernel
theorem dX4_findBest_30 : decode cX4_findBest 30 = .ok (.aload_n 0, 1) := by decide +kernel
theorem dX4_findBest_31 : decode cX4_findBest 31 = .ok (.getfield 15, 3) := by decide +kernel
theorem dX4_findBest_34 : decode cX4_findBest 34 = .ok (.iload_n 3, 1) := by decide +kernel
theorem dX4_findBest_35 : decode cX4_findBest 35 = .ok (.aload_n 0, 1) := by decide +kernel
theorem dX4_findBest_36 : decode cX4_findBest 36 = .ok (.getfield 24, 3) := by decide +kernel
theorem dX4_findBest_39 : decode cX4_findBest 39 = .ok (.getfield 36, 3) := by decide +kernel
theorem dX4_findBest_42 : decode cX4_findBest 42 = .ok (.getfield 42, 3) := by decide +kernel
theorem dX4_findBest_45 : decode cX4_findBest 45 = .ok (.iload_n 3, 1) := by decide +kernel
theorem dX4_findBest_46 : decode cX4_findBest 46 = .ok (.invokevirtual 51, 3) := by decide +kernel
theorem dX4_findBest_49 : decode cX4_findBest 49 = .ok (.aload_n 0, 1) := by decide +kernel
theorem dX4_findBest_50 : decode cX4_findBest 50 = .ok (.getfield 24, 3) := by decide +kernel
theorem dX4_findBest_53 : decode cX4_findBest 53 = .ok (.getfield 55, 3) := by decide +kernel
theorem dX4_findBest_56 : decode cX4_findBest 56 = .ok (.iload_n 3, 1) := by decide +kernel
theorem dX4_findBest_57 : decode cX4_findBest 57 = .ok (.invokevirtual 59, 3) := by decide +kernel
theorem dX4_findBest_60 : decode cX4_findBest 60 = .ok (.isub, 1) := by decide +kernel
theorem dX4_findBest_61 : decode cX4_findBest 61 = .ok (.invokestatic 64, 3) := by decide +kernel
theorem dX4_findBest_64 : decode cX4_findBest 64 = .ok (.iinc 3 1, 3) := by decide +kernel
theorem dX4_findBest_67 : decode cX4_findBest 67 = .ok (.goto (-54), 3) := by decide +kernel
theorem dX4_findBest_70 : decode cX4_findBest 70 = .ok (.aload_n 0, 1) := by decide +kernel
theorem dX4_findBest_71 : decode cX4_findBest 71 = .ok (.iconst 0, 1) := by decide +kernel
theorem dX4_findBest_72 : decode cX4_findBest 72 = .ok (.aload_n 0, 1) := by decide +kernel
theorem dX4_findBest_73 : decode cX4_findBest 73 = .ok (.iload_n 2, 1) := by decide +kernel
theorem dX4_findBest_74 : decode cX4_findBest 74 = .ok (.invokevirtual 68, 3) := by decide +kernel
theorem dX4_findBest_77 : decode cX4_findBest 77 = .ok (.invokestatic 71, 3) := by decide +kernel
theorem dX4_findBest_80 : decode cX4_findBest 80 = .ok (.return_, 1) := by decide +kernel
theorem dX4_lookAtFoods_0 : decode cX4_lookAtFoods 0 = .ok (.iconst 0, 1) := by decide +kernel
theorem dX4_lookAtFoods_1 : decode cX4_lookAtFoods 1 = .ok (.istore_n 2, 1) := by decide +kernel
theorem dX4_lookAtFoods_2 : decode cX4_lookAtFoods 2 = .ok (.iconst 0, 1) := by decide +kernel
theorem dX4_lookAtFoods_3 : decode cX4_lookAtFoods 3 = .ok (.istore_n 3, 1) := by decide +kernel
theorem dX4_lookAtFoods_4 : decode cX4_lookAtFoods 4 = .ok (.iconst 0, 1) := by decide +kernel
theorem dX4_lookAtFoods_5 : decode cX4_lookAtFoods 5 = .ok (.istore 4, 2) := by decide +kernel
theorem dX4_lookAtFoods_7 : decode cX4_lookAtFoods 7 = .ok (.iload 4, 2) := by decide +kernel
theorem dX4_lookAtFoods_9 : decode cX4_lookAtFoods 9 = .ok (.aload_n 0, 1) := by decide +kernel
theorem dX4_lookAtFoods_10 : decode cX4_lookAtFoods 10 = .ok (.getfield 24, 3) := by decide +kernel
theorem dX4_lookAtFoods_13 : decode cX4_lookAtFoods 13 = .ok (.getfield 36, 3) := by decide +kernel
theorem dX4_lookAtFoods_16 : decode cX4_lookAtFoods 16 = .ok (.getfield 75, 3) := by decide +kernel
theorem dX4_lookAtFoods_19 : decode cX4_lookAtFoods 19 = .ok (.getfield 79, 3) := by decide +kernel
theorem dX4_lookAtFoods_22 : decode cX4_lookAtFoods 22 = .ok (.if_icmp .ge 158, 3) := by decide +kernel
theorem dX4_lookAtFoods_25 : decode cX4_lookAtFoods 25 = .ok (.aload_n 0, 1) := by decide +kernel
theorem dX4_lookAtFoods_26 : decode cX4_lookAtFoods 26 = .ok (.getfield 24, 3) := by decide +kernel
theorem dX4_lookAtFoods_29 : decode cX4_lookAtFoods 29 = .ok (.getfield 55, 3) := by decide +kernel
theorem dX4_lookAtFoods_32 : decode cX4_lookAtFoods 32 = .ok (.iload 4, 2) := by decide +kernel
theorem dX4_lookAtFoods_34 : decode cX4_lookAtFoods 34 = .ok (.invokevirtual 82, 3) := by decide +kernel
theorem dX4_lookAtFoods_37 : decode cX4_lookAtFoods 37 = .ok (.ifCond .eq 137, 3) := by decide +kernel
theorem dX4_lookAtFoods_40 : decode cX4_lookAtFoods 40 = .ok (.aload_n 0, 1) := by decide +kernel
theorem dX4_lookAtFoods_41 : decode cX4_lookAtFoods 41 = .ok (.getfield 24, 3) := by decide +kernel
theorem dX4_lookAtFoods_44 : decode cX4_lookAtFoods 44 = .ok (.getfield 55, 3) := by decide +kernel
theorem dX4_lookAtFoods_47 : decode cX4_lookAtFoods 47 = .ok (.iload 4, 2) := by decide +kernel
theorem dX4_lookAtFoods_49 : decode cX4_lookAtFoods 49 = .ok (.invokevirtual 86, 3) := by decide +kernel
theorem dX4_lookAtFoods_52 : decode cX4_lookAtFoods 52 = .ok (.istore 5, 2) := by decide +kernel
theorem dX4_lookAtFoods_54 : decode cX4_lookAtFoods 54 = .ok (.aload_n 0, 1) := by decide +kernel
theorem dX4_lookAtFoods_55 : decode cX4_lookAtFoods 55 = .ok (.getfield 24, 3) := by decide +kernel
theorem dX4_lookAtFoods_58 : decode cX4_lookAtFoods 58 = .ok (.getfield 55, 3) := by decide +kernel
theorem dX4_lookAtFoods_61 : decode cX4_lookAtFoods 61 = .ok (.iload 4, 2) := by decide +kernel
theorem dX4_lookAtFoods_63 : decode cX4_lookAtFoods 63 = .ok (.invokevirtual 89, 3) := by decide +kernel
theorem dX4_lookAtFoods_66 : decode cX4_lookAtFoods 66 = .ok (.istore 6, 2) := by decide +kernel
theorem dX4_lookAtFoods_68 : decode cX4_lookAtFoods 68 = .ok (.iload_n 2, 1) := by decide +kernel
theorem dX4_lookAtFoods_69 : decode cX4_lookAtFoods 69 = .ok (.aload_n 0, 1) := by decide +kernel
theorem dX4_lookAtFoods_70 : decode cX4_lookAtFoods 70 = .ok (.getfield 28, 3) := by decide +kernel
theorem dX4_lookAtFoods_73 : decode cX4_lookAtFoods 73 = .ok (.if_icmp .lt 23, 3) := by decide +kernel
theorem dX4_lookAtFoods_76 : decode cX4_lookAtFoods 76 = .ok (.iload_n 3, 1) := by decide +kernel
theorem dX4_lookAtFoods_77 : decode cX4_lookAtFoods 77 = .ok (.aload_n 0, 1) := by decide +kernel
theorem dX4_lookAtFoods_78 : decode cX4_lookAtFoods 78 = .ok (.getfield 24, 3) := by decide +kernel
theorem dX4_lookAtFoods_81 : decode cX4_lookAtFoods 81 = .ok (.iload 4, 2) := by decide +kernel
theorem dX4_lookAtFoods_83 : decode cX4_lookAtFoods 83 = .ok (.iload 5, 2) := by decide +kernel
theorem dX4_lookAtFoods_85 : decode cX4_lookAtFoods 85 = .ok (.iload 6, 2) := by decide +kernel
theorem dX4_lookAtFoods_87 : decode cX4_lookAtFoods 87 = .ok (.iload_n 1, 1) := by decide +kernel
theorem dX4_lookAtFoods_88 : decode cX4_lookAtFoods 88 = .ok (.invokevirtual 92, 3) := by decide +kernel
theorem dX4_lookAtFoods_91 : decode cX4_lookAtFoods 91 = .ok (.iadd, 1) := by decide +kernel
theorem dX4_lookAtFoods_92 : decode cX4_lookAtFoods 92 = .ok (.istore_n 3, 1) := by decide +kernel
theorem dX4_lookAtFoods_93 : decode cX4_lookAtFoods 93 = .ok (.goto 81, 3) := by decide +kernel
theorem dX4_lookAtFoods_96 : decode cX4_lookAtFoods 96 = .ok (.aload_n 0, 1) := by decide +kernel
theorem dX4_lookAtFoods_97 : decode cX4_lookAtFoods 97 = .ok (.getfield 15, 3) := by decide +kernel
theorem dX4_lookAtFoods_100 : decode cX4_lookAtFoods 100 = .ok (.iload 6, 2) := by decide +kernel
theorem dX4_lookAtFoods_102 : decode cX4_lookAtFoods 102 = .ok (.aload_n 0, 1) := by decide +kernel
theorem dX4_lookAtFoods_103 : decode cX4_lookAtFoods 103 = .ok (.getfield 15, 3) := by decide +kernel
theorem dX4_lookAtFoods_106 : decode cX4_lookAtFoods 106 = .ok (.iload 6, 2) := by decide +kernel
theorem dX4_lookAtFoods_108 : decode cX4_lookAtFoods 108 = .ok (.invokestatic 96, 3) := by decide +kernel
theorem dX4_lookAtFoods_111 : decode cX4_lookAtFoods 111 = .ok (.iconst 1, 1) := by decide +kernel
theorem dX4_lookAtFoods_112 : decode cX4_lookAtFoods 112 = .ok (.iadd, 1) := by decide +kernel
theorem dX4_lookAtFoods_113 : decode cX4_lookAtFoods 113 = .ok (.invokestatic 64, 3) := by decide +kernel
theorem dX4_lookAtFoods_116 : decode cX4_lookAtFoods 116 = .ok (.iconst 0, 1) := by decide +kernel
theorem dX4_lookAtFoods_117 : decode cX4_lookAtFoods 117 = .ok (.istore 7, 2) := by decide +kernel
theorem dX4_lookAtFoods_119 : decode cX4_lookAtFoods 119 = .ok (.iload 7, 2) := by decide +kernel
theorem dX4_lookAtFoods_121 : decode cX4_lookAtFoods 121 = .ok (.aload_n 0, 1) := by decide +kernel
theorem dX4_lookAtFoods_122 : decode cX4_lookAtFoods 122 = .ok (.getfield 24, 3) := by decide +kernel
theorem dX4_lookAtFoods_125 : decode cX4_lookAtFoods 125 = .ok (.getfield 36, 3) := by decide +kernel
theorem dX4_lookAtFoods_128 : decode cX4_lookAtFoods 128 = .ok (.getfield 42, 3) := by decide +kernel
theorem dX4_lookAtFoods_131 : decode cX4_lookAtFoods 131 = .ok (.getfield 48, 3) := by decide +kernel
theorem dX4_lookAtFoods_134 : decode cX4_lookAtFoods 134 = .ok (.if_icmp .ge 37, 3) := by decide +kernel
theorem dX4_lookAtFoods_137 : decode cX4_lookAtFoods 137 = .ok (.aload_n 0, 1) := by decide +kernel
theorem dX4_lookAtFoods_138 : decode cX4_lookAtFoods 138 = .ok (.getfield 9, 3) := by decide +kernel
theorem dX4_lookAtFoods_141 : decode cX4_lookAtFoods 141 = .ok (.iload_n 2, 1) := by decide +kernel
theorem dX4_lookAtFoods_142 : decode cX4_lookAtFoods 142 = .ok (.bipush 6, 2) := by decide +kernel
theorem dX4_lookAtFoods_144 : decode cX4_lookAtFoods 144 = .ok (.imul, 1) := by decide +kernel
theorem dX4_lookAtFoods_145 : decode cX4_lookAtFoods 145 = .ok (.iload 7, 2) := by decide +kernel
theorem dX4_lookAtFoods_147 : decode cX4_lookAtFoods 147 = .ok (.iadd, 1) := by decide +kernel
theorem dX4_lookAtFoods_148 : decode cX4_lookAtFoods 148 = .ok (.aload_n 0, 1) := by decide +kernel
theorem dX4_lookAtFoods_149 : decode cX4_lookAtFoods 149 = .ok (.getfield 24, 3) := by decide +kernel
theorem dX4_lookAtFoods_152 : decode cX4_lookAtFoods 152 = .ok (.iload 4, 2) := by decide +kernel
theorem dX4_lookAtFoods_154 : decode cX4_lookAtFoods 154 = .ok (.iload 5, 2) := by decide +kernel
theorem dX4_lookAtFoods_156 : decode cX4_lookAtFoods 156 = .ok (.iload 7, 2) := by decide +kernel
theorem dX4_lookAtFoods_158 : decode cX4_lookAtFoods 158 = .ok (.iload_n 1, 1) := by decide +kernel
theorem dX4_lookAtFoods_159 : decode cX4_lookAtFoods 159 = .ok (.invokevirtual 92, 3) := by decide +kernel
theorem dX4_lookAtFoods_162 : decode cX4_lookAtFoods 162 = .ok (.invokestatic 64, 3) := by decide +kernel
theorem dX4_lookAtFoods_165 : decode cX4_lookAtFoods 165 = .ok (.iinc 7 1, 3) := by decide +kernel
theorem dX4_lookAtFoods_168 : decode cX4_lookAtFoods 168 = .ok (.goto (-49), 3) := by decide +kernel
theorem dX4_lookAtFoods_171 : decode cX4_lookAtFoods 171 = .ok (.iinc 2 1, 3) := by decide +kernel
theorem dX4_lookAtFoods_174 : decode cX4_lookAtFoods 174 = .ok (.iinc 4 1, 3) := by decide +kernel
theorem dX4_lookAtFoods_177 : decode cX4_lookAtFoods 177 = .ok (.goto (-170), 3) := by decide +kernel
theorem dX4_lookAtFoods_180 : decode cX4_lookAtFoods 180 = .ok (.iload_n 3, 1) := by decide +kernel
theorem dX4_lookAtFoods_181 : decode cX4_lookAtFoods 181 = .ok (.ireturn, 1) := by decide +kernel
theorem dX4_cellFor_0 : decode cX4_cellFor 0 = .ok (.aload_n 0, 1) := by decide +kernel
theorem dX4_cellFor_1 : decode cX4_cellFor 1 = .ok (.getfield 21, 3) := by decide +kernel
theorem dX4_cellFor_4 : decode cX4_cellFor 4 = .ok (.iload_n 1, 1) := by decide +kernel
theorem dX4_cellFor_5 : decode cX4_cellFor 5 = .ok (.invokestatic 96, 3) := by decide +kernel
theorem dX4_cellFor_8 : decode cX4_cellFor 8 = .ok (.ireturn, 1) := by decide +kernel
theorem dX4_tryFood_0 : decode cX4_tryFood 0 = .ok (.iload_n 1, 1) := by decide +kernel
theorem dX4_tryFood_1 : decode cX4_tryFood 1 = .ok (.aload_n 0, 1) := by decide +kernel
theorem dX4_tryFood_2 : decode cX4_tryFood 2 = .ok (.getfield 28, 3) := by decide +kernel
theorem dX4_tryFood_5 : decode cX4_tryFood 5 = .ok (.if_icmp .ge 8, 3) := by decide +kernel
theorem dX4_tryFood_8 : decode cX4_tryFood 8 = .ok (.iload_n 1, 1) := by decide +kernel
theorem dX4_tryFood_9 : decode cX4_tryFood 9 = .ok (.iconst 4, 1) := by decide +kernel
theorem dX4_tryFood_10 : decode cX4_tryFood 10 = .ok (.if_icmp .lt 9, 3) := by decide +kernel
theorem dX4_tryFood_13 : decode cX4_tryFood 13 = .ok (.aload_n 0, 1) := by decide +kernel
theorem dX4_tryFood_14 : decode cX4_tryFood 14 = .ok (.iload_n 2, 1) := by decide +kernel
theorem dX4_tryFood_15 : decode cX4_tryFood 15 = .ok (.invokevirtual 100, 3) := by decide +kernel
theorem dX4_tryFood_18 : decode cX4_tryFood 18 = .ok (.return_, 1) := by decide +kernel
theorem dX4_tryFood_19 : decode cX4_tryFood 19 = .ok (.iconst 0, 1) := by decide +kernel
theorem dX4_tryFood_20 : decode cX4_tryFood 20 = .ok (.istore_n 3, 1) := by decide +kernel
theorem dX4_tryFood_21 : decode cX4_tryFood 21 = .ok (.iload_n 3, 1) := by decide +kernel
theorem dX4_tryFood_22 : decode cX4_tryFood 22 = .ok (.aload_n 0, 1) := by decide +kernel
theorem dX4_tryFood_23 : decode cX4_tryFood 23 = .ok (.getfield 24, 3) := by decide +kernel
theorem dX4_tryFood_26 : decode cX4_tryFood 26 = .ok (.getfield 36, 3) := by decide +kernel
theorem dX4_tryFood_29 : decode cX4_tryFood 29 = .ok (.getfield 42, 3) := by decide +kernel
theorem dX4_tryFood_32 : decode cX4_tryFood 32 = .ok (.getfield 48, 3) := by decide +kernel
theorem dX4_tryFood_35 : decode cX4_tryFood 35 = .ok (.if_icmp .ge 77, 3) := by decide +kernel
theorem dX4_tryFood_38 : decode cX4_tryFood 38 = .ok (.aload_n 0, 1) := by decide +kernel
theorem dX4_tryFood_39 : decode cX4_tryFood 39 = .ok (.getfield 15, 3) := by decide +kernel
theorem dX4_tryFood_42 : decode cX4_tryFood 42 = .ok (.iload_n 3, 1) := by decide +kernel
theorem dX4_tryFood_43 : decode cX4_tryFood 43 = .ok (.invokestatic 96, 3) := by decide +kernel
theorem dX4_tryFood_46 : decode cX4_tryFood 46 = .ok (.istore 4, 2) := by decide +kernel
theorem dX4_tryFood_48 : decode cX4_tryFood 48 = .ok (.iload 4, 2) := by decide +kernel
theorem dX4_tryFood_50 : decode cX4_tryFood 50 = .ok (.ifCond .le 56, 3) := by decide +kernel
theorem dX4_tryFood_53 : decode cX4_tryFood 53 = .ok (.aload_n 0, 1) := by decide +kernel
theorem dX4_tryFood_54 : decode cX4_tryFood 54 = .ok (.getfield 15, 3) := by decide +kernel
theorem dX4_tryFood_57 : decode cX4_tryFood 57 = .ok (.iload_n 3, 1) := by decide +kernel
theorem dX4_tryFood_58 : decode cX4_tryFood 58 = .ok (.iload 4, 2) := by decide +kernel
theorem dX4_tryFood_60 : decode cX4_tryFood 60 = .ok (.iconst 1, 1) := by decide +kernel
theorem dX4_tryFood_61 : decode cX4_tryFood 61 = .ok (.isub, 1) := by decide +kernel
theorem dX4_tryFood_62 : decode cX4_tryFood 62 = .ok (.invokestatic 64, 3) := by decide +kernel
theorem dX4_tryFood_65 : decode cX4_tryFood 65 = .ok (.aload_n 0, 1) := by decide +kernel
theorem dX4_tryFood_66 : decode cX4_tryFood 66 = .ok (.getfield 18, 3) := by decide +kernel
theorem dX4_tryFood_69 : decode cX4_tryFood 69 = .ok (.iload_n 1, 1) := by decide +kernel
theorem dX4_tryFood_70 : decode cX4_tryFood 70 = .ok (.iload_n 3, 1) := by decide +kernel
theorem dX4_tryFood_71 : decode cX4_tryFood 71 = .ok (.invokestatic 64, 3) := by decide +kernel
theorem dX4_tryFood_74 : decode cX4_tryFood 74 = .ok (.aload_n 0, 1) := by decide +kernel
theorem dX4_tryFood_75 : decode cX4_tryFood 75 = .ok (.iload_n 1, 1) := by decide +kernel
theorem dX4_tryFood_76 : decode cX4_tryFood 76 = .ok (.iconst 1, 1) := by decide +kernel
theorem dX4_tryFood_77 : decode cX4_tryFood 77 = .ok (.iadd, 1) := by decide +kernel
theorem dX4_tryFood_78 : decode cX4_tryFood 78 = .ok (.iload_n 2, 1) := by decide +kernel
theorem dX4_tryFood_79 : decode cX4_tryFood 79 = .ok (.aload_n 0, 1) := by decide +kernel
theorem dX4_tryFood_80 : decode cX4_tryFood 80 = .ok (.getfield 9, 3) := by decide +kernel
theorem dX4_tryFood_83 : decode cX4_tryFood 83 = .ok (.iload_n 1, 1) := by decide +kernel
theorem dX4_tryFood_84 : decode cX4_tryFood 84 = .ok (.bipush 6, 2) := by decide +kernel
theorem dX4_tryFood_86 : decode cX4_tryFood 86 = .ok (.imul, 1) := by decide +kernel
theorem dX4_tryFood_87 : decode cX4_tryFood 87 = .ok (.iload_n 3, 1) := by decide +kernel
theorem dX4_tryFood_88 : decode cX4_tryFood 88 = .ok (.iadd, 1) := by decide +kernel
theorem dX4_tryFood_89 : decode cX4_tryFood 89 = .ok (.invokestatic 96, 3) := by decide +kernel
theorem dX4_tryFood_92 : decode cX4_tryFood 92 = .ok (.iadd, 1) := by decide +kernel
theorem dX4_tryFood_93 : decode cX4_tryFood 93 = .ok (.invokestatic 71, 3) := by decide +kernel
theorem dX4_tryFood_96 : decode cX4_tryFood 96 = .ok (.aload_n 0, 1) := by decide +kernel
theorem dX4_tryFood_97 : decode cX4_tryFood 97 = .ok (.getfield 15, 3) := by decide +kernel
theorem dX4_tryFood_100 : decode cX4_tryFood 100 = .ok (.iload_n 3, 1) := by decide +kernel
theorem dX4_tryFood_101 : decode cX4_tryFood 101 = .ok (.iload 4, 2) := by decide +kernel
theorem dX4_tryFood_103 : decode cX4_tryFood 103 = .ok (.invokestatic 64, 3) := by decide +kernel
theorem dX4_tryFood_106 : decode cX4_tryFood 106 = .ok (.iinc 3 1, 3) := by decide +kernel
theorem dX4_tryFood_109 : decode cX4_tryFood 109 = .ok (.goto (-88), 3) := by decide +kernel
theorem dX4_tryFood_112 : decode cX4_tryFood 112 = .ok (.return_, 1) := by decide +kernel
theorem dX4_settle_0 : decode cX4_settle 0 = .ok (.iload_n 1, 1) := by decide +kernel
theorem dX4_settle_1 : decode cX4_settle 1 = .ok (.aload_n 0, 1) := by decide +kernel
theorem dX4_settle_2 : decode cX4_settle 2 = .ok (.getfield 33, 3) := by decide +kernel
theorem dX4_settle_5 : decode cX4_settle 5 = .ok (.if_icmp .lt 4, 3) := by decide +kernel
theorem dX4_settle_8 : decode cX4_settle 8 = .ok (.return_, 1) := by decide +kernel
theorem dX4_settle_9 : decode cX4_settle 9 = .ok (.aload_n 0, 1) := by decide +kernel
theorem dX4_settle_10 : decode cX4_settle 10 = .ok (.iload_n 1, 1) := by decide +kernel
theorem dX4_settle_11 : decode cX4_settle 11 = .ok (.putfield 33, 3) := by decide +kernel
theorem dX4_settle_14 : decode cX4_settle 14 = .ok (.iconst 0, 1) := by decide +kernel
theorem dX4_settle_15 : decode cX4_settle 15 = .ok (.istore_n 2, 1) := by decide +kernel
theorem dX4_settle_16 : decode cX4_settle 16 = .ok (.iload_n 2, 1) := by decide +kernel
theorem dX4_settle_17 : decode cX4_settle 17 = .ok (.aload_n 0, 1) := by decide +kernel
theorem dX4_settle_18 : decode cX4_settle 18 = .ok (.getfield 28, 3) := by decide +kernel
theorem dX4_settle_21 : decode cX4_settle 21 = .ok (.if_icmp .ge 25, 3) := by decide +kernel
theorem dX4_settle_24 : decode cX4_settle 24 = .ok (.aload_n 0, 1) := by decide +kernel
theorem dX4_settle_25 : decode cX4_settle 25 = .ok (.getfield 21, 3) := by decide +kernel
theorem dX4_settle_28 : decode cX4_settle 28 = .ok (.iload_n 2, 1) := by decide +kernel
theorem dX4_settle_29 : decode cX4_settle 29 = .ok (.aload_n 0, 1) := by decide +kernel
theorem dX4_settle_30 : decode cX4_settle 30 = .ok (.getfield 18, 3) := by decide +kernel
theorem dX4_settle_33 : decode cX4_settle 33 = .ok (.iload_n 2, 1) := by decide +kernel
theorem dX4_settle_34 : decode cX4_settle 34 = .ok (.invokestatic 96, 3) := by decide +kernel
theorem dX4_settle_37 : decode cX4_settle 37 = .ok (.invokestatic 64, 3) := by decide +kernel
theorem dX4_settle_40 : decode cX4_settle 40 = .ok (.iinc 2 1, 3) := by decide +kernel
theorem dX4_settle_43 : decode cX4_settle 43 = .ok (.goto (-27), 3) := by decide +kernel
theorem dX4_settle_46 : decode cX4_settle 46 = .ok (.return_, 1) := by decide +kernel
theorem dX5_init_0 : decode cX5_init 0 = .ok (.aload_n 0, 1) := by decide +kernel
theorem dX5_init_1 : decode cX5_init 1 = .ok (.invokespecial 3, 3) := by decide +kernel
theorem dX5_init_4 : decode cX5_init 4 = .ok (.aload_n 0, 1) := by decide +kernel
theorem dX5_init_5 : decode cX5_init 5 = .ok (.bipush 6, 2) := by decide +kernel
theorem dX5_init_7 : decode cX5_init 7 = .ok (.newarray .int, 2) := by decide +kernel
theorem dX5_init_9 : decode cX5_init 9 = .ok (.putfield 9, 3) := by decide +kernel
theorem dX5_init_12 : decode cX5_init 12 = .ok (.aload_n 0, 1) := by decide +kernel
theorem dX5_init_13 : decode cX5_init 13 = .ok (.bipush 6, 2) := by decide +kernel
theorem dX5_init_15 : decode cX5_init 15 = .ok (.newarray .int, 2) := by decide +kernel
theorem dX5_init_17 : decode cX5_init 17 = .ok (.putfield 15, 3) := by decide +kernel
theorem dX5_init_20 : decode cX5_init 20 = .ok (.aload_n 0, 1) := by decide +kernel
theorem dX5_init_21 : decode cX5_init 21 = .ok (.bipush 10, 2) := by decide +kernel
theorem dX5_init_23 : decode cX5_init 23 = .ok (.putfield 18, 3) := by decide +kernel
theorem dX5_init_26 : decode cX5_init 26 = .ok (.aload_n 0, 1) := by decide +kernel
theorem dX5_init_27 : decode cX5_init 27 = .ok (.bipush 20, 2) := by decide +kernel
theorem dX5_init_29 : decode cX5_init 29 = .ok (.putfield 22, 3) := by decide +kernel
theorem dX5_init_32 : decode cX5_init 32 = .ok (.return_, 1) := by decide +kernel
theorem dX5_clear_0 : decode cX5_clear 0 = .ok (.aload_n 0, 1) := by decide +kernel
theorem dX5_clear_1 : decode cX5_clear 1 = .ok (.iconst 0, 1) := by decide +kernel
theorem dX5_clear_2 : decode cX5_clear 2 = .ok (.putfield 25, 3) := by decide +kernel
theorem dX5_clear_5 : decode cX5_clear 5 = .ok (.aload_n 0, 1) := by decide +kernel
theorem dX5_clear_6 : decode cX5_clear 6 = .ok (.bipush 10, 2) := by decide +kernel
theorem dX5_clear_8 : decode cX5_clear 8 = .ok (.putfield 18, 3) := by decide +kernel
theorem dX5_clear_11 : decode cX5_clear 11 = .ok (.aload_n 0, 1) := by decide +kernel
theorem dX5_clear_12 : decode cX5_clear 12 = .ok (.bipush 20, 2) := by decide +kernel
theorem dX5_clear_14 : decode cX5_clear 14 = .ok (.putfield 22, 3) := by decide +kernel
theorem dX5_clear_17 : decode cX5_clear 17 = .ok (.return_, 1) := by decide +kernel
theorem dX5_add_0 : decode cX5_add 0 = .ok (.aload_n 0, 1) := by decide +kernel
theorem dX5_add_1 : decode cX5_add 1 = .ok (.getfield 25, 3) := by decide +kernel
theorem dX5_add_4 : decode cX5_add 4 = .ok (.bipush 6, 2) := by decide +kernel
theorem dX5_add_6 : decode cX5_add 6 = .ok (.if_icmp .lt 5, 3) := by decide +kernel
theorem dX5_add_9 : decode cX5_add 9 = .ok (.iconst 0, 1) := by decide +kernel
theorem dX5_add_10 : decode cX5_add 10 = .ok (.ireturn, 1) := by decide +kernel
theorem dX5_add_11 : decode cX5_add 11 = .ok (.aload_n 0, 1) := by decide +kernel
theorem dX5_add_12 : decode cX5_add 12 = .ok (.getfield 9, 3) := by decide +kernel
theorem dX5_add_15 : decode cX5_add 15 = .ok (.aload_n 0, 1) := by decide +kernel
theorem dX5_add_16 : decode cX5_add 16 = .ok (.getfield 25, 3) := by decide +kernel
theorem dX5_add_19 : decode cX5_add 19 = .ok (.iload_n 1, 1) := by decide +kernel
theorem dX5_add_20 : decode cX5_add 20 = .ok (.invokestatic 28, 3) := by decide +kernel
theorem dX5_add_23 : decode cX5_add 23 = .ok (.aload_n 0, 1) := by decide +kernel
theorem dX5_add_24 : decode cX5_add 24 = .ok (.getfield 15, 3) := by decide +kernel
theorem dX5_add_27 : decode cX5_add 27 = .ok (.aload_n 0, 1) := by decide +kernel
theorem dX5_add_28 : decode cX5_add 28 = .ok (.getfield 25, 3) := by decide +kernel
theorem dX5_add_31 : decode cX5_add 31 = .ok (.iload_n 2, 1) := by decide +kernel
theorem dX5_add_32 : decode cX5_add 32 = .ok (.invokestatic 28, 3) := by decide +kernel
theorem dX5_add_35 : decode cX5_add 35 = .ok (.aload_n 0, 1) := by decide +kernel
theorem dX5_add_36 : decode cX5_add 36 = .ok (.dup, 1) := by decide +kernel
theorem dX5_add_37 : decode cX5_add 37 = .ok (.getfield 25, 3) := by decide +kernel
theorem dX5_add_40 : decode cX5_add 40 = .ok (.iconst 1, 1) := by decide +kernel
theorem dX5_add_41 : decode cX5_add 41 = .ok (.iadd, 1) := by decide +kernel
theorem dX5_add_42 : decode cX5_add 42 = .ok (.putfield 25, 3) := by decide +kernel
theorem dX5_add_45 : decode cX5_add 45 = .ok (.iconst 1, 1) := by decide +kernel
theorem dX5_add_46 : decode cX5_add 46 = .ok (.ireturn, 1) := by decide +kernel
theorem dX5_expectOf_0 : decode cX5_expectOf 0 = .ok (.iload_n 1, 1) := by decide +kernel
theorem dX5_expectOf_1 : decode cX5_expectOf 1 = .ok (.aload_n 0, 1) := by decide +kernel
theorem dX5_expectOf_2 : decode cX5_expectOf 2 = .ok (.getfield 18, 3) := by decide +kernel
theorem dX5_expectOf_5 : decode cX5_expectOf 5 = .ok (.imul, 1) := by decide +kernel
theorem dX5_expectOf_6 : decode cX5_expectOf 6 = .ok (.iload_n 1, 1) := by decide +kernel
theorem dX5_expectOf_7 : decode cX5_expectOf 7 = .ok (.iconst 2, 1) := by decide +kernel
theorem dX5_expectOf_8 : decode cX5_expectOf 8 = .ok (.idiv, 1) := by decide +kernel
theorem dX5_expectOf_9 : decode cX5_expectOf 9 = .ok (.aload_n 0, 1) := by decide +kernel
theorem dX5_expectOf_10 : decode cX5_expectOf 10 = .ok (.getfield 22, 3) := by decide +kernel
theorem dX5_expectOf_13 : decode cX5_expectOf 13 = .ok (.imul, 1) := by decide +kernel
theorem dX5_expectOf_14 : decode cX5_expectOf 14 = .ok (.iload_n 1, 1) := by decide +kernel
theorem dX5_expectOf_15 : decode cX5_expectOf 15 = .ok (.iconst 2, 1) := by decide +kernel
theorem dX5_expectOf_16 : decode cX5_expectOf 16 = .ok (.irem, 1) := by decide +kernel
theorem dX5_expectOf_17 : decode cX5_expectOf 17 = .ok (.aload_n 0, 1) := by decide +kernel
theorem dX5_expectOf_18 : decode cX5_expectOf 18 = .ok (.getfield 18, 3) := by decide +kernel
theorem dX5_expectOf_21 : decode cX5_expectOf 21 = .ok (.imul, 1) := by decide +kernel
theorem dX5_expectOf_22 : decode cX5_expectOf 22 = .ok (.iadd, 1) := by decide +kernel
theorem dX5_expectOf_23 : decode cX5_expectOf 23 = .ok (.invokestatic 32, 3) := by decide +kernel
theorem dX5_expectOf_26 : decode cX5_expectOf 26 = .ok (.istore_n 2, 1) := by decide +kernel
theorem dX5_expectOf_27 : decode cX5_expectOf 27 = .ok (.iconst 0, 1) := by decide +kernel
theorem dX5_expectOf_28 : decode cX5_expectOf 28 = .ok (.istore_n 3, 1) := by decide +kernel
theorem dX5_expectOf_29 : decode cX5_expectOf 29 = .ok (.iconst 0, 1) := by decide +kernel
theorem dX5_expectOf_30 : decode cX5_expectOf 30 = .ok (.istore 4, 2) := by decide +kernel
theorem dX5_expectOf_32 : decode cX5_expectOf 32 = .ok (.iload 4, 2) := by decide +kernel
theorem dX5_expectOf_34 : decode cX5_expectOf 34 = .ok (.aload_n 0, 1) := by decide +kernel
theorem dX5_expectOf_35 : decode cX5_expectOf 35 = .ok (.getfield 25, 3) := by decide +kernel
theorem dX5_expectOf_38 : decode cX5_expectOf 38 = .ok (.if_icmp .ge 46, 3) := by decide +kernel
theorem dX5_expectOf_41 : decode cX5_expectOf 41 = .ok (.aload_n 0, 1) := by decide +kernel
theorem dX5_expectOf_42 : decode cX5_expectOf 42 = .ok (.getfield 9, 3) := by decide +kernel
theorem dX5_expectOf_45 : decode cX5_expectOf 45 = .ok (.iload 4, 2) := by decide +kernel
theorem dX5_expectOf_47 : decode cX5_expectOf 47 = .ok (.invokestatic 38, 3) := by decide +kernel
theorem dX5_expectOf_50 : decode cX5_expectOf 50 = .ok (.iload_n 1, 1) := by decide +kernel
theorem dX5_expectOf_51 : decode cX5_expectOf 51 = .ok (.isub, 1) := by decide +kernel
theorem dX5_expectOf_52 : decode cX5_expectOf 52 = .ok (.iconst 0, 1) := by decide +kernel
theorem dX5_expectOf_53 : decode cX5_expectOf 53 = .ok (.invokestatic 42, 3) := by decide +kernel
theorem dX5_expectOf_56 : decode cX5_expectOf 56 = .ok (.istore 5, 2) := by decide +kernel
theorem dX5_expectOf_58 : decode cX5_expectOf 58 = .ok (.iload_n 3, 1) := by decide +kernel
theorem dX5_expectOf_59 : decode cX5_expectOf 59 = .ok (.aload_n 0, 1) := by decide +kernel
theorem dX5_expectOf_60 : decode cX5_expectOf 60 = .ok (.getfield 15, 3) := by decide +kernel
theorem dX5_expectOf_63 : decode cX5_expectOf 63 = .ok (.iload 4, 2) := by decide +kernel
theorem dX5_expectOf_65 : decode cX5_expectOf 65 = .ok (.invokestatic 38, 3) := by decide +kernel
theorem dX5_expectOf_68 : decode cX5_expectOf 68 = .ok (.iload_n 2, 1) := by decide +kernel
theorem dX5_expectOf_69 : decode cX5_expectOf 69 = .ok (.bipush 15, 2) := by decide +kernel
theorem dX5_expectOf_71 : decode cX5_expectOf 71 = .ok (.iload 5, 2) := by decide +kernel
theorem dX5_expectOf_73 : decode cX5_expectOf 73 = .ok (.imul, 1) := by decide +kernel
theorem dX5_expectOf_74 : decode cX5_expectOf 74 = .ok (.iadd, 1) := by decide +kernel
theorem dX5_expectOf_75 : decode cX5_expectOf 75 = .ok (.imul, 1) := by decide +kernel
theorem dX5_expectOf_76 : decode cX5_expectOf 76 = .ok (.iadd, 1) := by decide +kernel
theorem dX5_expectOf_77 : decode cX5_expectOf 77 = .ok (.istore_n 3, 1) := by decide +kernel
theorem dX5_expectOf_78 : decode cX5_expectOf 78 = .ok (.iinc 4 1, 3) := by decide +kernel
theorem dX5_expectOf_81 : decode cX5_expectOf 81 = .ok (.goto (-49), 3) := by decide +kernel
theorem dX5_expectOf_84 : decode cX5_expectOf 84 = .ok (.iload_n 3, 1) := by decide +kernel
theorem dX5_expectOf_85 : decode cX5_expectOf 85 = .ok (.ireturn, 1) := by decide +kernel
theorem dX5_bestPacks_0 : decode cX5_bestPacks 0 = .ok (.iconst 0, 1) := by decide +kernel
theorem dX5_bestPacks_1 : decode cX5_bestPacks 1 = .ok (.istore_n 1, 1) := by decide +kernel
theorem dX5_bestPacks_2 : decode cX5_bestPacks 2 = .ok (.iconst 1, 1) := by decide +kernel
theorem dX5_bestPacks_3 : decode cX5_bestPacks 3 = .ok (.istore_n 2, 1) := by decide +kernel
theorem dX5_bestPacks_4 : decode cX5_bestPacks 4 = .ok (.iload_n 2, 1) := by decide +kernel
theorem dX5_bestPacks_5 : decode cX5_bestPacks 5 = .ok (.bipush 9, 2) := by decide +kernel
theorem dX5_bestPacks_7 : decode cX5_bestPacks 7 = .ok (.if_icmp .gt 24, 3) := by decide +kernel
theorem dX5_bestPacks_10 : decode cX5_bestPacks 10 = .ok (.aload_n 0, 1) := by decide +kernel
theorem dX5_bestPacks_11 : decode cX5_bestPacks 11 = .ok (.iload_n 2, 1) := by decide +kernel
theorem dX5_bestPacks_12 : decode cX5_bestPacks 12 = .ok (.invokevirtual 45, 3) := by decide +kernel
theorem dX5_bestPacks_15 : decode cX5_bestPacks 15 = .ok (.aload_n 0, 1) := by decide +kernel
theorem dX5_bestPacks_16 : decode cX5_bestPacks 16 = .ok (.iload_n 1, 1) := by decide +kernel
theorem dX5_bestPacks_17 : decode cX5_bestPacks 17 = .ok (.invokevirtual 45, 3) := by decide +kernel
theorem dX5_bestPacks_20 : decode cX5_bestPacks 20 = .ok (.if_icmp .ge 5, 3) := by decide +kernel
theorem dX5_bestPacks_23 : decode cX5_bestPacks 23 = .ok (.iload_n 2, 1) := by decide +kernel
theorem dX5_bestPacks_24 : decode cX5_bestPacks 24 = .ok (.istore_n 1, 1) := by decide +kernel
theorem dX5_bestPacks_25 : decode cX5_bestPacks 25 = .ok (.iinc 2 1, 3) := by decide +kernel
theorem dX5_bestPacks_28 : decode cX5_bestPacks 28 = .ok (.goto (-24), 3) := by decide +kernel
theorem dX5_bestPacks_31 : decode cX5_bestPacks 31 = .ok (.iload_n 1, 1) := by decide +kernel
theorem dX5_bestPacks_32 : decode cX5_bestPacks 32 = .ok (.ireturn, 1) := by decide +kernel
theorem dX6_init_0 : decode cX6_init 0 = .ok (.aload_n 0, 1) := by decide +kernel
theorem dX6_init_1 : decode cX6_init 1 = .ok (.invokespecial 3, 3) := by decide +kernel
theorem dX6_init_4 : decode cX6_init 4 = .ok (.aload_n 0, 1) := by decide +kernel
theorem dX6_init_5 : decode cX6_init 5 = .ok (.iconst 4, 1) := by decide +kernel
theorem dX6_init_6 : decode cX6_init 6 = .ok (.newarray .int, 2) := by decide +kernel
theorem dX6_init_8 : decode cX6_init 8 = .ok (.putfield 9, 3) := by decide +kernel
theorem dX6_init_11 : decode cX6_init 11 = .ok (.aload_n 0, 1) := by decide +kernel
theorem dX6_init_12 : decode cX6_init 12 = .ok (.iconst 4, 1) := by decide +kernel
theorem dX6_init_13 : decode cX6_init 13 = .ok (.newarray .int, 2) := by decide +kernel
theorem dX6_init_15 : decode cX6_init 15 = .ok (.putfield 15, 3) := by decide +kernel
theorem dX6_init_18 : decode cX6_init 18 = .ok (.aload_n 0, 1) := by decide +kernel
theorem dX6_init_19 : decode cX6_init 19 = .ok (.aload_n 1, 1) := by decide +kernel
theorem dX6_init_20 : decode cX6_init 20 = .ok (.putfield 18, 3) := by decide +kernel
theorem dX6_init_23 : decode cX6_init 23 = .ok (.aload_n 0, 1) := by decide +kernel
theorem dX6_init_24 : decode cX6_init 24 = .ok (.aload_n 2, 1) := by decide +kernel
theorem dX6_init_25 : decode cX6_init 25 = .ok (.putfield 22, 3) := by decide +kernel
theorem dX6_init_28 : decode cX6_init 28 = .ok (.return_, 1) := by decide +kernel
theorem dX6_findCheapest_0 : decode cX6_findCheapest 0 = .ok (.aload_n 0, 1) := by decide +kernel
theorem dX6_findCheapest_1 : decode cX6_findCheapest 1 = .ok (.iload_n 1, 1) := by decide +kernel
theorem dX6_findCheapest_2 : decode cX6_findCheapest 2 = .ok (.putfield 26, 3) := by decide +kernel
theorem dX6_findCheapest_5 : decode cX6_findCheapest 5 = .ok (.aload_n 0, 1) := by decide +kernel
theorem dX6_findCheapest_6 : decode cX6_findCheapest 6 = .ok (.ldc 30, 2) := by decide +kernel
theorem dX6_findCheapest_8 : decode cX6_findCheapest 8 = .ok (.putfield 31, 3) := by decide +kernel
theorem dX6_findCheapest_11 : decode cX6_findCheapest 11 = .ok (.aload_n 0, 1) := by decide +kernel
theorem dX6_findCheapest_12 : decode cX6_findCheapest 12 = .ok (.getfield 22, 3) := by decide +kernel
theorem dX6_findCheapest_15 : decode cX6_findCheapest 15 = .ok (.aload_n 0, 1) := by decide +kernel
theorem dX6_findCheapest_16 : decode cX6_findCheapest 16 = .ok (.getfield 26, 3) := by decide +kernel
theorem dX6_findCheapest_19 : decode cX6_findCheapest 19 = .ok (.invokevirtual 34, 3) := by decide +kernel
theorem dX6_findCheapest_22 : decode cX6_findCheapest 22 = .ok (.aload_n 0, 1) := by decide +kernel
theorem dX6_findCheapest_23 : decode cX6_findCheapest 23 = .ok (.iconst 0, 1) := by decide +kernel
theorem dX6_findCheapest_24 : decode cX6_findCheapest 24 = .ok (.aload_n 0, 1) := by decide +kernel
theorem dX6_findCheapest_25 : decode cX6_findCheapest 25 = .ok (.getfield 18, 3) := by decide +kernel
theorem dX6_findCheapest_28 : decode cX6_findCheapest 28 = .ok (.getfield 40, 3) := by decide +kernel
theorem dX6_findCheapest_31 : decode cX6_findCheapest 31 = .ok (.invokevirtual 46, 3) := by decide +kernel
theorem dX6_findCheapest_34 : decode cX6_findCheapest 34 = .ok (.iconst 0, 1) := by decide +kernel
theorem dX6_findCheapest_35 : decode cX6_findCheapest 35 = .ok (.invokestatic 52, 3) := by decide +kernel
theorem dX6_findCheapest_38 : decode cX6_findCheapest 38 = .ok (.return_, 1) := by decide +kernel
theorem dX6_dishOn_0 : decode cX6_dishOn 0 = .ok (.aload_n 0, 1) := by decide +kernel
theorem dX6_dishOn_1 : decode cX6_dishOn 1 = .ok (.getfield 15, 3) := by decide +kernel
theorem dX6_dishOn_4 : decode cX6_dishOn 4 = .ok (.iload_n 1, 1) := by decide +kernel
theorem dX6_dishOn_5 : decode cX6_dishOn 5 = .ok (.invokestatic 56, 3) := by decide +kernel
theorem dX6_dishOn_8 : decode cX6_dishOn 8 = .ok (.ireturn, 1) := by decide +kernel
theorem dX6_tryEvening_0 : decode cX6_tryEvening 0 = .ok (.iload_n 3, 1) := by decide +kernel
theorem dX6_tryEvening_1 : decode cX6_tryEvening 1 = .ok (.aload_n 0, 1) := by decide +kernel
theorem dX6_tryEvening_2 : decode cX6_tryEvening 2 = .ok (.getfield 31, 3) := by decide +kernel
theorem dX6_tryEvening_5 : decode cX6_tryEvening 5 = .ok (.if_icmp .lt 4, 3) := by decide +kernel
theorem dX6_tryEvening_8 : decode cX6_tryEvening 8 = .ok (.return_, 1) := by decide +kernel
theorem dX6_tryEvening_9 : decode cX6_tryEvening 9 = .ok (.iload_n 1, 1) := by decide +kernel
theorem dX6_tryEvening_10 : decode cX6_tryEvening 10 = .ok (.aload_n 0, 1) := by decide +kernel
theorem dX6_tryEvening_11 : decode cX6_tryEvening 11 = .ok (.getfield 26, 3) := by decide +kernel
theorem dX6_tryEvening_14 : decode cX6_tryEvening 14 = .ok (.if_icmp .ge 8, 3) := by decide +kernel
theorem dX6_tryEvening_17 : decode cX6_tryEvening 17 = .ok (.iload_n 1, 1) := by decide +kernel
theorem dX6_tryEvening_18 : decode cX6_tryEvening 18 = .ok (.iconst 4, 1) := by decide +kernel
theorem dX6_tryEvening_19 : decode cX6_tryEvening 19 = .ok (.if_icmp .lt 15, 3) := by decide +kernel
theorem dX6_tryEvening_22 : decode cX6_tryEvening 22 = .ok (.aload_n 0, 1) := by decide +kernel
theorem dX6_tryEvening_23 : decode cX6_tryEvening 23 = .ok (.iload_n 3, 1) := by decide +kernel
theorem dX6_tryEvening_24 : decode cX6_tryEvening 24 = .ok (.aload_n 0, 1) := by decide +kernel
theorem dX6_tryEvening_25 : decode cX6_tryEvening 25 = .ok (.iload_n 2, 1) := by decide +kernel
theorem dX6_tryEvening_26 : decode cX6_tryEvening 26 = .ok (.invokevirtual 60, 3) := by decide +kernel
theorem dX6_tryEvening_29 : decode cX6_tryEvening 29 = .ok (.iadd, 1) := by decide +kernel
theorem dX6_tryEvening_30 : decode cX6_tryEvening 30 = .ok (.invokevirtual 64, 3) := by decide +kernel
theorem dX6_tryEvening_33 : decode cX6_tryEvening 33 = .ok (.return_, 1) := by decide +kernel
theorem dX6_tryEvening_34 : decode cX6_tryEvening 34 = .ok (.aload_n 0, 1) := by decide +kernel
theorem dX6_tryEvening_35 : decode cX6_tryEvening 35 = .ok (.getfield 9, 3) := by decide +kernel
theorem dX6_tryEvening_38 : decode cX6_tryEvening 38 = .ok (.iload_n 1, 1) := by decide +kernel
theorem dX6_tryEvening_39 : decode cX6_tryEvening 39 = .ok (.bipush (-4), 2) := by decide +kernel
theorem dX6_tryEvening_41 : decode cX6_tryEvening 41 = .ok (.invokestatic 67, 3) := by decide +kernel
theorem dX6_tryEvening_44 : decode cX6_tryEvening 44 = .ok (.aload_n 0, 1) := by decide +kernel
theorem dX6_tryEvening_45 : decode cX6_tryEvening 45 = .ok (.iload_n 1, 1) := by decide +kernel
theorem dX6_tryEvening_46 : decode cX6_tryEvening 46 = .ok (.iconst 1, 1) := by decide +kernel
theorem dX6_tryEvening_47 : decode cX6_tryEvening 47 = .ok (.iadd, 1) := by decide +kernel
theorem dX6_tryEvening_48 : decode cX6_tryEvening 48 = .ok (.iload_n 2, 1) := by decide +kernel
theorem dX6_tryEvening_49 : decode cX6_tryEvening 49 = .ok (.iload_n 3, 1) := by decide +kernel
theorem dX6_tryEvening_50 : decode cX6_tryEvening 50 = .ok (.aload_n 0, 1) := by decide +kernel
theorem dX6_tryEvening_51 : decode cX6_tryEvening 51 = .ok (.iconst 0, 1) := by decide +kernel
theorem dX6_tryEvening_52 : decode cX6_tryEvening 52 = .ok (.invokevirtual 71, 3) := by decide +kernel
theorem dX6_tryEvening_55 : decode cX6_tryEvening 55 = .ok (.iadd, 1) := by decide +kernel
theorem dX6_tryEvening_56 : decode cX6_tryEvening 56 = .ok (.invokestatic 52, 3) := by decide +kernel
theorem dX6_tryEvening_59 : decode cX6_tryEvening 59 = .ok (.iconst 0, 1) := by decide +kernel
theorem dX6_tryEvening_60 : decode cX6_tryEvening 60 = .ok (.istore 4, 2) := by decide +kernel
theorem dX6_tryEvening_62 : decode cX6_tryEvening 62 = .ok (.iload 4, 2) := by decide +kernel
theorem dX6_tryEvening_64 : decode cX6_tryEvening 64 = .ok (.aload_n 0, 1) := by decide +kernel
theorem dX6_tryEvening_65 : decode cX6_tryEvening 65 = .ok (.getfield 18, 3) := by decide +kernel
theorem dX6_tryEvening_68 : decode cX6_tryEvening 68 = .ok (.getfield 74, 3) := by decide +kernel
theorem dX6_tryEvening_71 : decode cX6_tryEvening 71 = .ok (.getfield 78, 3) := by decide +kernel
theorem dX6_tryEvening_74 : decode cX6_tryEvening 74 = .ok (.if_icmp .ge 69, 3) := by decide +kernel
theorem dX6_tryEvening_77 : decode cX6_tryEvening 77 = .ok (.aload_n 0, 1) := by decide +kernel
theorem dX6_tryEvening_78 : decode cX6_tryEvening 78 = .ok (.getfield 18, 3) := by decide +kernel
theorem dX6_tryEvening_81 : decode cX6_tryEvening 81 = .ok (.getfield 74, 3) := by decide +kernel
theorem dX6_tryEvening_84 : decode cX6_tryEvening 84 = .ok (.iload 4, 2) := by decide +kernel
theorem dX6_tryEvening_86 : decode cX6_tryEvening 86 = .ok (.invokevirtual 83, 3) := by decide +kernel
theorem dX6_tryEvening_89 : decode cX6_tryEvening 89 = .ok (.istore 5, 2) := by decide +kernel
theorem dX6_tryEvening_91 : decode cX6_tryEvening 91 = .ok (.aload_n 0, 1) := by decide +kernel
theorem dX6_tryEvening_92 : decode cX6_tryEvening 92 = .ok (.iload_n 1, 1) := by decide +kernel
theorem dX6_tryEvening_93 : decode cX6_tryEvening 93 = .ok (.iload_n 2, 1) := by decide +kernel
theorem dX6_tryEvening_94 : decode cX6_tryEvening 94 = .ok (.iload 5, 2) := by decide +kernel
theorem dX6_tryEvening_96 : decode cX6_tryEvening 96 = .ok (.invokevirtual 86, 3) := by decide +kernel
theorem dX6_tryEvening_99 : decode cX6_tryEvening 99 = .ok (.istore 6, 2) := by decide +kernel
theorem dX6_tryEvening_101 : decode cX6_tryEvening 101 = .ok (.iload 6, 2) := by decide +kernel
theorem dX6_tryEvening_103 : decode cX6_tryEvening 103 = .ok (.ifCond .eq 34, 3) := by decide +kernel
theorem dX6_tryEvening_106 : decode cX6_tryEvening 106 = .ok (.aload_n 0, 1) := by decide +kernel
theorem dX6_tryEvening_107 : decode cX6_tryEvening 107 = .ok (.getfield 9, 3) := by decide +kernel
theorem dX6_tryEvening_110 : decode cX6_tryEvening 110 = .ok (.iload_n 1, 1) := by decide +kernel
theorem dX6_tryEvening_111 : decode cX6_tryEvening 111 = .ok (.iload 4, 2) := by decide +kernel
theorem dX6_tryEvening_113 : decode cX6_tryEvening 113 = .ok (.invokestatic 67, 3) := by decide +kernel
theorem dX6_tryEvening_116 : decode cX6_tryEvening 116 = .ok (.aload_n 0, 1) := by decide +kernel
theorem dX6_tryEvening_117 : decode cX6_tryEvening 117 = .ok (.iload_n 1, 1) := by decide +kernel
theorem dX6_tryEvening_118 : decode cX6_tryEvening 118 = .ok (.iconst 1, 1) := by decide +kernel
theorem dX6_tryEvening_119 : decode cX6_tryEvening 119 = .ok (.iadd, 1) := by decide +kernel
theorem dX6_tryEvening_120 : decode cX6_tryEvening 120 = .ok (.iload_n 2, 1) := by decide +kernel
theorem dX6_tryEvening_121 : decode cX6_tryEvening 121 = .ok (.iload 6, 2) := by decide +kernel
theorem dX6_tryEvening_123 : decode cX6_tryEvening 123 = .ok (.iconst (-1), 1) := by decide +kernel
theorem dX6_tryEvening_124 : decode cX6_tryEvening 124 = .ok (.ixor, 1) := by decide +kernel
theorem dX6_tryEvening_125 : decode cX6_tryEvening 125 = .ok (.iand, 1) := by decide +kernel
theorem dX6_tryEvening_126 : decode cX6_tryEvening 126 = .ok (.iload_n 3, 1) := by decide +kernel
theorem dX6_tryEvening_127 : decode cX6_tryEvening 127 = .ok (.aload_n 0, 1) := by decide +kernel
theorem dX6_tryEvening_128 : decode cX6_tryEvening 128 = .ok (.iload 5, 2) := by decide +kernel
theorem dX6_tryEvening_130 : decode cX6_tryEvening 130 = .ok (.invokevirtual 71, 3) := by decide +kernel
theorem dX6_tryEvening_133 : decode cX6_tryEvening 133 = .ok (.iadd, 1) := by decide +kernel
theorem dX6_tryEvening_134 : decode cX6_tryEvening 134 = .ok (.invokestatic 52, 3) := by decide +kernel
theorem dX6_tryEvening_137 : decode cX6_tryEvening 137 = .ok (.iinc 4 1, 3) := by decide +kernel
theorem dX6_tryEvening_140 : decode cX6_tryEvening 140 = .ok (.goto (-78), 3) := by decide +kernel
theorem dX6_tryEvening_143 : decode cX6_tryEvening 143 = .ok (.return_, 1) := by decide +kernel
theorem dX6_costOfHunger_0 : decode cX6_costOfHunger 0 = .ok (.bipush 10, 2) := by decide +kernel
theorem dX6_costOfHunger_2 : decode cX6_costOfHunger 2 = .ok (.aload_n 0, 1) := by decide +kernel
theorem dX6_costOfHunger_3 : decode cX6_costOfHunger 3 = .ok (.getfield 18, 3) := by decide +kernel
theorem dX6_costOfHunger_6 : decode cX6_costOfHunger 6 = .ok (.getfield 74, 3) := by decide +kernel
theorem dX6_costOfHunger_9 : decode cX6_costOfHunger 9 = .ok (.iload_n 1, 1) := by decide +kernel
theorem dX6_costOfHunger_10 : decode cX6_costOfHunger 10 = .ok (.invokevirtual 90, 3) := by decide +kernel
theorem dX6_costOfHunger_13 : decode cX6_costOfHunger 13 = .ok (.imul, 1) := by decide +kernel
theorem dX6_costOfHunger_14 : decode cX6_costOfHunger 14 = .ok (.ireturn, 1) := by decide +kernel
theorem dX6_coinLeft_0 : decode cX6_coinLeft 0 = .ok (.aload_n 0, 1) := by decide +kernel
theorem dX6_coinLeft_1 : decode cX6_coinLeft 1 = .ok (.getfield 18, 3) := by decide +kernel
theorem dX6_coinLeft_4 : decode cX6_coinLeft 4 = .ok (.getfield 74, 3) := by decide +kernel
theorem dX6_coinLeft_7 : decode cX6_coinLeft 7 = .ok (.getfield 93, 3) := by decide +kernel
theorem dX6_coinLeft_10 : decode cX6_coinLeft 10 = .ok (.iload_n 1, 1) := by decide +kernel
theorem dX6_coinLeft_11 : decode cX6_coinLeft 11 = .ok (.aload_n 0, 1) := by decide +kernel
theorem dX6_coinLeft_12 : decode cX6_coinLeft 12 = .ok (.getfield 22, 3) := by decide +kernel
theorem dX6_coinLeft_15 : decode cX6_coinLeft 15 = .ok (.aload_n 0, 1) := by decide +kernel
theorem dX6_coinLeft_16 : decode cX6_coinLeft 16 = .ok (.getfield 26, 3) := by decide +kernel
theorem dX6_coinLeft_19 : decode cX6_coinLeft 19 = .ok (.iconst 1, 1) := by decide +kernel
theorem dX6_coinLeft_20 : decode cX6_coinLeft 20 = .ok (.isub, 1) := by decide +kernel
theorem dX6_coinLeft_21 : decode cX6_coinLeft 21 = .ok (.invokevirtual 97, 3) := by decide +kernel
theorem dX6_coinLeft_24 : decode cX6_coinLeft 24 = .ok (.iand, 1) := by decide +kernel
theorem dX6_coinLeft_25 : decode cX6_coinLeft 25 = .ok (.invokevirtual 100, 3) := by decide +kernel
theorem dX6_coinLeft_28 : decode cX6_coinLeft 28 = .ok (.ireturn, 1) := by decide +kernel
theorem dX6_eatenOn_0 : decode cX6_eatenOn 0 = .ok (.iload_n 2, 1) := by decide +kernel
theorem dX6_eatenOn_1 : decode cX6_eatenOn 1 = .ok (.aload_n 0, 1) := by decide +kernel
theorem dX6_eatenOn_2 : decode cX6_eatenOn 2 = .ok (.getfield 22, 3) := by decide +kernel
theorem dX6_eatenOn_5 : decode cX6_eatenOn 5 = .ok (.iload_n 1, 1) := by decide +kernel
theorem dX6_eatenOn_6 : decode cX6_eatenOn 6 = .ok (.invokevirtual 97, 3) := by decide +kernel
theorem dX6_eatenOn_9 : decode cX6_eatenOn 9 = .ok (.iconst (-1), 1) := by decide +kernel
theorem dX6_eatenOn_10 : decode cX6_eatenOn 10 = .ok (.ixor, 1) := by decide +kernel
theorem dX6_eatenOn_11 : decode cX6_eatenOn 11 = .ok (.iand, 1) := by decide +kernel
theorem dX6_eatenOn_12 : decode cX6_eatenOn 12 = .ok (.istore 4, 2) := by decide +kernel
theorem dX6_eatenOn_14 : decode cX6_eatenOn 14 = .ok (.iconst 0, 1) := by decide +kernel
theorem dX6_eatenOn_15 : decode cX6_eatenOn 15 = .ok (.istore 5, 2) := by decide +kernel
theorem dX6_eatenOn_17 : decode cX6_eatenOn 17 = .ok (.iconst 0, 1) := by decide +kernel
theorem dX6_eatenOn_18 : decode cX6_eatenOn 18 = .ok (.istore 6, 2) := by decide +kernel
theorem dX6_eatenOn_20 : decode cX6_eatenOn 20 = .ok (.iload 6, 2) := by decide +kernel
theorem dX6_eatenOn_22 : decode cX6_eatenOn 22 = .ok (.iconst 4, 1) := by decide +kernel
theorem dX6_eatenOn_23 : decode cX6_eatenOn 23 = .ok (.if_icmp .ge 60, 3) := by decide +kernel
theorem dX6_eatenOn_26 : decode cX6_eatenOn 26 = .ok (.iload_n 3, 1) := by decide +kernel
theorem dX6_eatenOn_27 : decode cX6_eatenOn 27 = .ok (.iload 6, 2) := by decide +kernel
theorem dX6_eatenOn_29 : decode cX6_eatenOn 29 = .ok (.invokestatic 105, 3) := by decide +kernel
theorem dX6_eatenOn_32 : decode cX6_eatenOn 32 = .ok (.ifCond .eq 45, 3) := by decide +kernel
theorem dX6_eatenOn_35 : decode cX6_eatenOn 35 = .ok (.aload_n 0, 1) := by decide +kernel
theorem dX6_eatenOn_36 : decode cX6_eatenOn 36 = .ok (.getfield 22, 3) := by decide +kernel
theorem dX6_eatenOn_39 : decode cX6_eatenOn 39 = .ok (.iload_n 1, 1) := by decide +kernel
theorem dX6_eatenOn_40 : decode cX6_eatenOn 40 = .ok (.iload 4, 2) := by decide +kernel
theorem dX6_eatenOn_42 : decode cX6_eatenOn 42 = .ok (.aload_n 0, 1) := by decide +kernel
theorem dX6_eatenOn_43 : decode cX6_eatenOn 43 = .ok (.getfield 18, 3) := by decide +kernel
theorem dX6_eatenOn_46 : decode cX6_eatenOn 46 = .ok (.getfield 74, 3) := by decide +kernel
theorem dX6_eatenOn_49 : decode cX6_eatenOn 49 = .ok (.getfield 93, 3) := by decide +kernel
theorem dX6_eatenOn_52 : decode cX6_eatenOn 52 = .ok (.iload 6, 2) := by decide +kernel
theorem dX6_eatenOn_54 : decode cX6_eatenOn 54 = .ok (.invokevirtual 109, 3) := by decide +kernel
theorem dX6_eatenOn_57 : decode cX6_eatenOn 57 = .ok (.iand, 1) := by decide +kernel
theorem dX6_eatenOn_58 : decode cX6_eatenOn 58 = .ok (.invokevirtual 112, 3) := by decide +kernel
theorem dX6_eatenOn_61 : decode cX6_eatenOn 61 = .ok (.istore 7, 2) := by decide +kernel
theorem dX6_eatenOn_63 : decode cX6_eatenOn 63 = .ok (.iload 7, 2) := by decide +kernel
theorem dX6_eatenOn_65 : decode cX6_eatenOn 65 = .ok (.ifCond .ne 5, 3) := by decide +kernel
theorem dX6_eatenOn_68 : decode cX6_eatenOn 68 = .ok (.iconst 0, 1) := by decide +kernel
theorem dX6_eatenOn_69 : decode cX6_eatenOn 69 = .ok (.ireturn, 1) := by decide +kernel
theorem dX6_eatenOn_70 : decode cX6_eatenOn 70 = .ok (.iload 5, 2) := by decide +kernel
theorem dX6_eatenOn_72 : decode cX6_eatenOn 72 = .ok (.iload 7, 2) := by decide +kernel
theorem dX6_eatenOn_74 : decode cX6_eatenOn 74 = .ok (.ior, 1) := by decide +kernel
theorem dX6_eatenOn_75 : decode cX6_eatenOn 75 = .ok (.istore 5, 2) := by decide +kernel
theorem dX6_eatenOn_77 : decode cX6_eatenOn 77 = .ok (.iinc 6 1, 3) := by decide +kernel
theorem dX6_eatenOn_80 : decode cX6_eatenOn 80 = .ok (.goto (-60), 3) := by decide +kernel
theorem dX6_eatenOn_83 : decode cX6_eatenOn 83 = .ok (.iload 5, 2) := by decide +kernel
theorem dX6_eatenOn_85 : decode cX6_eatenOn 85 = .ok (.ireturn, 1) := by decide +kernel
theorem dX6_settle_0 : decode cX6_settle 0 = .ok (.iload_n 1, 1) := by decide +kernel
theorem dX6_settle_1 : decode cX6_settle 1 = .ok (.aload_n 0, 1) := by decide +kernel
theorem dX6_settle_2 : decode cX6_settle 2 = .ok (.getfield 31, 3) := by decide +kernel
theorem dX6_settle_5 : decode cX6_settle 5 = .ok (.if_icmp .lt 4, 3) := by decide +kernel
theorem dX6_settle_8 : decode cX6_settle 8 = .ok (.return_, 1) := by decide +kernel
theorem dX6_settle_9 : decode cX6_settle 9 = .ok (.aload_n 0, 1) := by decide +kernel
theorem dX6_settle_10 : decode cX6_settle 10 = .ok (.iload_n 1, 1) := by decide +kernel
theorem dX6_settle_11 : decode cX6_settle 11 = .ok (.putfield 31, 3) := by decide +kernel
theorem dX6_settle_14 : decode cX6_settle 14 = .ok (.iconst 0, 1) := by decide +kernel
theorem dX6_settle_15 : decode cX6_settle 15 = .ok (.istore_n 2, 1) := by decide +kernel
theorem dX6_settle_16 : decode cX6_settle 16 = .ok (.iload_n 2, 1) := by decide +kernel
theorem dX6_settle_17 : decode cX6_settle 17 = .ok (.aload_n 0, 1) := by decide +kernel
theorem dX6_settle_18 : decode cX6_settle 18 = .ok (.getfield 26, 3) := by decide +kernel
theorem dX6_settle_21 : decode cX6_settle 21 = .ok (.if_icmp .ge 25, 3) := by decide +kernel
theorem dX6_settle_24 : decode cX6_settle 24 = .ok (.aload_n 0, 1) := by decide +kernel
theorem dX6_settle_25 : decode cX6_settle 25 = .ok (.getfield 15, 3) := by decide +kernel
theorem dX6_settle_28 : decode cX6_settle 28 = .ok (.iload_n 2, 1) := by decide +kernel
theorem dX6_settle_29 : decode cX6_settle 29 = .ok (.aload_n 0, 1) := by decide +kernel
theorem dX6_settle_30 : decode cX6_settle 30 = .ok (.getfield 9, 3) := by decide +kernel
theorem dX6_settle_33 : decode cX6_settle 33 = .ok (.iload_n 2, 1) := by decide +kernel
theorem dX6_settle_34 : decode cX6_settle 34 = .ok (.invokestatic 56, 3) := by decide +kernel
theorem dX6_settle_37 : decode cX6_settle 37 = .ok (.invokestatic 67, 3) := by decide +kernel
theorem dX6_settle_40 : decode cX6_settle 40 = .ok (.iinc 2 1, 3) := by decide +kernel
theorem dX6_settle_43 : decode cX6_settle 43 = .ok (.goto (-27), 3) := by decide +kernel
theorem dX6_settle_46 : decode cX6_settle 46 = .ok (.return_, 1) := by decide +kernel
theorem dX7_init_0 : decode cX7_init 0 = .ok (.aload_n 0, 1) := by decide +kernel
theorem dX7_init_1 : decode cX7_init 1 = .ok (.invokespecial 3, 3) := by decide +kernel
theorem dX7_init_4 : decode cX7_init 4 = .ok (.aload_n 0, 1) := by decide +kernel
theorem dX7_init_5 : decode cX7_init 5 = .ok (.bipush 8, 2) := by decide +kernel
theorem dX7_init_7 : decode cX7_init 7 = .ok (.newarray .int, 2) := by decide +kernel
theorem dX7_init_9 : decode cX7_init 9 = .ok (.putfield 9, 3) := by decide +kernel
theorem dX7_init_12 : decode cX7_init 12 = .ok (.aload_n 0, 1) := by decide +kernel
theorem dX7_init_13 : decode cX7_init 13 = .ok (.bipush 8, 2) := by decide +kernel
theorem dX7_init_15 : decode cX7_init 15 = .ok (.newarray .int, 2) := by decide +kernel
theorem dX7_init_17 : decode cX7_init 17 = .ok (.putfield 15, 3) := by decide +kernel
theorem dX7_init_20 : decode cX7_init 20 = .ok (.return_, 1) := by decide +kernel
theorem dX7_add_0 : decode cX7_add 0 = .ok (.aload_n 0, 1) := by decide +kernel
theorem dX7_add_1 : decode cX7_add 1 = .ok (.getfield 18, 3) := by decide +kernel
theorem dX7_add_4 : decode cX7_add 4 = .ok (.bipush 8, 2) := by decide +kernel
theorem dX7_add_6 : decode cX7_add 6 = .ok (.if_icmp .lt 5, 3) := by decide +kernel
theorem dX7_add_9 : decode cX7_add 9 = .ok (.iconst 0, 1) := by decide +kernel
theorem dX7_add_10 : decode cX7_add 10 = .ok (.ireturn, 1) := by decide +kernel
theorem dX7_add_11 : decode cX7_add 11 = .ok (.aload_n 0, 1) := by decide +kernel
theorem dX7_add_12 : decode cX7_add 12 = .ok (.getfield 9, 3) := by decide +kernel
theorem dX7_add_15 : decode cX7_add 15 = .ok (.aload_n 0, 1) := by decide +kernel
theorem dX7_add_16 : decode cX7_add 16 = .ok (.getfield 18, 3) := by decide +kernel
theorem dX7_add_19 : decode cX7_add 19 = .ok (.iload_n 1, 1) := by decide +kernel
theorem dX7_add_20 : decode cX7_add 20 = .ok (.invokestatic 22, 3) := by decide +kernel
theorem dX7_add_23 : decode cX7_add 23 = .ok (.aload_n 0, 1) := by decide +kernel
theorem dX7_add_24 : decode cX7_add 24 = .ok (.getfield 15, 3) := by decide +kernel
theorem dX7_add_27 : decode cX7_add 27 = .ok (.aload_n 0, 1) := by decide +kernel
theorem dX7_add_28 : decode cX7_add 28 = .ok (.getfield 18, 3) := by decide +kernel
theorem dX7_add_31 : decode cX7_add 31 = .ok (.iload_n 2, 1) := by decide +kernel
theorem dX7_add_32 : decode cX7_add 32 = .ok (.invokestatic 22, 3) := by decide +kernel
theorem dX7_add_35 : decode cX7_add 35 = .ok (.aload_n 0, 1) := by decide +kernel
theorem dX7_add_36 : decode cX7_add 36 = .ok (.dup, 1) := by decide +kernel
theorem dX7_add_37 : decode cX7_add 37 = .ok (.getfield 18, 3) := by decide +kernel
theorem dX7_add_40 : decode cX7_add 40 = .ok (.iconst 1, 1) := by decide +kernel
theorem dX7_add_41 : decode cX7_add 41 = .ok (.iadd, 1) := by decide +kernel
theorem dX7_add_42 : decode cX7_add 42 = .ok (.putfield 18, 3) := by decide +kernel
theorem dX7_add_45 : decode cX7_add 45 = .ok (.iconst 1, 1) := by decide +kernel
theorem dX7_add_46 : decode cX7_add 46 = .ok (.ireturn, 1) := by decide +kernel
theorem dX7_fittedBy_0 : decode cX7_fittedBy 0 = .ok (.iconst 0, 1) := by decide +kernel
theorem dX7_fittedBy_1 : decode cX7_fittedBy 1 = .ok (.istore_n 2, 1) := by decide +kernel
theorem dX7_fittedBy_2 : decode cX7_fittedBy 2 = .ok (.iconst 0, 1) := by decide +kernel
theorem dX7_fittedBy_3 : decode cX7_fittedBy 3 = .ok (.istore_n 3, 1) := by decide +kernel
theorem dX7_fittedBy_4 : decode cX7_fittedBy 4 = .ok (.iload_n 3, 1) := by decide +kernel
theorem dX7_fittedBy_5 : decode cX7_fittedBy 5 = .ok (.aload_n 0, 1) := by decide +kernel
theorem dX7_fittedBy_6 : decode cX7_fittedBy 6 = .ok (.getfield 18, 3) := by decide +kernel
theorem dX7_fittedBy_9 : decode cX7_fittedBy 9 = .ok (.if_icmp .ge 58, 3) := by decide +kernel
theorem dX7_fittedBy_12 : decode cX7_fittedBy 12 = .ok (.iload_n 1, 1) := by decide +kernel
theorem dX7_fittedBy_13 : decode cX7_fittedBy 13 = .ok (.aload_n 0, 1) := by decide +kernel
theorem dX7_fittedBy_14 : decode cX7_fittedBy 14 = .ok (.getfield 9, 3) := by decide +kernel
theorem dX7_fittedBy_17 : decode cX7_fittedBy 17 = .ok (.iload_n 3, 1) := by decide +kernel
theorem dX7_fittedBy_18 : decode cX7_fittedBy 18 = .ok (.invokestatic 26, 3) := by decide +kernel
theorem dX7_fittedBy_21 : decode cX7_fittedBy 21 = .ok (.iadd, 1) := by decide +kernel
theorem dX7_fittedBy_22 : decode cX7_fittedBy 22 = .ok (.istore 4, 2) := by decide +kernel
theorem dX7_fittedBy_24 : decode cX7_fittedBy 24 = .ok (.aload_n 0, 1) := by decide +kernel
theorem dX7_fittedBy_25 : decode cX7_fittedBy 25 = .ok (.getfield 15, 3) := by decide +kernel
theorem dX7_fittedBy_28 : decode cX7_fittedBy 28 = .ok (.iload_n 3, 1) := by decide +kernel
theorem dX7_fittedBy_29 : decode cX7_fittedBy 29 = .ok (.invokestatic 26, 3) := by decide +kernel
theorem dX7_fittedBy_32 : decode cX7_fittedBy 32 = .ok (.istore 5, 2) := by decide +kernel
theorem dX7_fittedBy_34 : decode cX7_fittedBy 34 = .ok (.iload 4, 2) := by decide +kernel
theorem dX7_fittedBy_36 : decode cX7_fittedBy 36 = .ok (.iload 5, 2) := by decide +kernel
theorem dX7_fittedBy_38 : decode cX7_fittedBy 38 = .ok (.imul, 1) := by decide +kernel
theorem dX7_fittedBy_39 : decode cX7_fittedBy 39 = .ok (.sipush 2400, 3) := by decide +kernel
theorem dX7_fittedBy_42 : decode cX7_fittedBy 42 = .ok (.if_icmp .lt 19, 3) := by decide +kernel
theorem dX7_fittedBy_45 : decode cX7_fittedBy 45 = .ok (.iload 4, 2) := by decide +kernel
theorem dX7_fittedBy_47 : decode cX7_fittedBy 47 = .ok (.iload 5, 2) := by decide +kernel
theorem dX7_fittedBy_49 : decode cX7_fittedBy 49 = .ok (.iconst 1, 1) := by decide +kernel
theorem dX7_fittedBy_50 : decode cX7_fittedBy 50 = .ok (.isub, 1) := by decide +kernel
theorem dX7_fittedBy_51 : decode cX7_fittedBy 51 = .ok (.imul, 1) := by decide +kernel
theorem dX7_fittedBy_52 : decode cX7_fittedBy 52 = .ok (.sipush 2400, 3) := by decide +kernel
theorem dX7_fittedBy_55 : decode cX7_fittedBy 55 = .ok (.if_icmp .ge 6, 3) := by decide +kernel
theorem dX7_fittedBy_58 : decode cX7_fittedBy 58 = .ok (.iinc 2 1, 3) := by decide +kernel
theorem dX7_fittedBy_61 : decode cX7_fittedBy 61 = .ok (.iinc 3 1, 3) := by decide +kernel
theorem dX7_fittedBy_64 : decode cX7_fittedBy 64 = .ok (.goto (-60), 3) := by decide +kernel
theorem dX7_fittedBy_67 : decode cX7_fittedBy 67 = .ok (.iload_n 2, 1) := by decide +kernel
theorem dX7_fittedBy_68 : decode cX7_fittedBy 68 = .ok (.ireturn, 1) := by decide +kernel
theorem dX7_bestLaw_0 : decode cX7_bestLaw 0 = .ok (.iconst 0, 1) := by decide +kernel
theorem dX7_bestLaw_1 : decode cX7_bestLaw 1 = .ok (.istore_n 1, 1) := by decide +kernel
theorem dX7_bestLaw_2 : decode cX7_bestLaw 2 = .ok (.iconst 1, 1) := by decide +kernel
theorem dX7_bestLaw_3 : decode cX7_bestLaw 3 = .ok (.istore_n 2, 1) := by decide +kernel
theorem dX7_bestLaw_4 : decode cX7_bestLaw 4 = .ok (.iload_n 2, 1) := by decide +kernel
theorem dX7_bestLaw_5 : decode cX7_bestLaw 5 = .ok (.bipush 40, 2) := by decide +kernel
theorem dX7_bestLaw_7 : decode cX7_bestLaw 7 = .ok (.if_icmp .gt 24, 3) := by decide +kernel
theorem dX7_bestLaw_10 : decode cX7_bestLaw 10 = .ok (.aload_n 0, 1) := by decide +kernel
theorem dX7_bestLaw_11 : decode cX7_bestLaw 11 = .ok (.iload_n 2, 1) := by decide +kernel
theorem dX7_bestLaw_12 : decode cX7_bestLaw 12 = .ok (.invokevirtual 30, 3) := by decide +kernel
theorem dX7_bestLaw_15 : decode cX7_bestLaw 15 = .ok (.aload_n 0, 1) := by decide +kernel
theorem dX7_bestLaw_16 : decode cX7_bestLaw 16 = .ok (.iload_n 1, 1) := by decide +kernel
theorem dX7_bestLaw_17 : decode cX7_bestLaw 17 = .ok (.invokevirtual 30, 3) := by decide +kernel
theorem dX7_bestLaw_20 : decode cX7_bestLaw 20 = .ok (.if_icmp .le 5, 3) := by decide +kernel
theorem dX7_bestLaw_23 : decode cX7_bestLaw 23 = .ok (.iload_n 2, 1) := by decide +kernel
theorem dX7_bestLaw_24 : decode cX7_bestLaw 24 = .ok (.istore_n 1, 1) := by decide +kernel
theorem dX7_bestLaw_25 : decode cX7_bestLaw 25 = .ok (.iinc 2 1, 3) := by decide +kernel
theorem dX7_bestLaw_28 : decode cX7_bestLaw 28 = .ok (.goto (-24), 3) := by decide +kernel
theorem dX7_bestLaw_31 : decode cX7_bestLaw 31 = .ok (.iload_n 1, 1) := by decide +kernel
theorem dX7_bestLaw_32 : decode cX7_bestLaw 32 = .ok (.ireturn, 1) := by decide +kernel
theorem dX8_init_0 : decode cX8_init 0 = .ok (.aload_n 0, 1) := by decide +kernel
theorem dX8_init_1 : decode cX8_init 1 = .ok (.invokespecial 3, 3) := by decide +kernel
theorem dX8_init_4 : decode cX8_init 4 = .ok (.aload_n 0, 1) := by decide +kernel
theorem dX8_init_5 : decode cX8_init 5 = .ok (.bipush 10, 2) := by decide +kernel
theorem dX8_init_7 : decode cX8_init 7 = .ok (.newarray .int, 2) := by decide +kernel
theorem dX8_init_9 : decode cX8_init 9 = .ok (.putfield 9, 3) := by decide +kernel
theorem dX8_init_12 : decode cX8_init 12 = .ok (.aload_n 0, 1) := by decide +kernel
theorem dX8_init_13 : decode cX8_init 13 = .ok (.bipush 10, 2) := by decide +kernel
theorem dX8_init_15 : decode cX8_init 15 = .ok (.newarray .int, 2) := by decide +kernel
theorem dX8_init_17 : decode cX8_init 17 = .ok (.putfield 15, 3) := by decide +kernel
theorem dX8_init_20 : decode cX8_init 20 = .ok (.aload_n 0, 1) := by decide +kernel
theorem dX8_init_21 : decode cX8_init 21 = .ok (.bipush 10, 2) := by decide +kernel
theorem dX8_init_23 : decode cX8_init 23 = .ok (.newarray .int, 2) := by decide +kernel
theorem dX8_init_25 : decode cX8_init 25 = .ok (.putfield 18, 3) := by decide +kernel
theorem dX8_init_28 : decode cX8_init 28 = .ok (.aload_n 0, 1) := by decide +kernel
theorem dX8_init_29 : decode cX8_init 29 = .ok (.bipush 10, 2) := by decide +kernel
theorem dX8_init_31 : decode cX8_init 31 = .ok (.newarray .int, 2) := by decide +kernel
theorem dX8_init_33 : decode cX8_init 33 = .ok (.putfield 21, 3) := by decide +kernel
theorem dX8_init_36 : decode cX8_init 36 = .ok (.aload_n 0, 1) := by decide +kernel
theorem dX8_init_37 : decode cX8_init 37 = .ok (.bipush 10, 2) := by decide +kernel
theorem dX8_init_39 : decode cX8_init 39 = .ok (.newarray .int, 2) := by decide +kernel
theorem dX8_init_41 : decode cX8_init 41 = .ok (.putfield 24, 3) := by decide +kernel
theorem dX8_init_44 : decode cX8_init 44 = .ok (.return_, 1) := by decide +kernel
theorem dX8_start_0 : decode cX8_start 0 = .ok (.aload_n 0, 1) := by decide +kernel
theorem dX8_start_1 : decode cX8_start 1 = .ok (.aload_n 1, 1) := by decide +kernel
theorem dX8_start_2 : decode cX8_start 2 = .ok (.getfield 27, 3) := by decide +kernel
theorem dX8_start_5 : decode cX8_start 5 = .ok (.putfield 33, 3) := by decide +kernel
theorem dX8_start_8 : decode cX8_start 8 = .ok (.aload_n 0, 1) := by decide +kernel
theorem dX8_start_9 : decode cX8_start 9 = .ok (.iconst 0, 1) := by decide +kernel
theorem dX8_start_10 : decode cX8_start 10 = .ok (.putfield 34, 3) := by decide +kernel
theorem dX8_start_13 : decode cX8_start 13 = .ok (.iconst 0, 1) := by decide +kernel
theorem dX8_start_14 : decode cX8_start 14 = .ok (.istore_n 2, 1) := by decide +kernel
theorem dX8_start_15 : decode cX8_start 15 = .ok (.iload_n 2, 1) := by decide +kernel
theorem dX8_start_16 : decode cX8_start 16 = .ok (.aload_n 0, 1) := by decide +kernel
theorem dX8_start_17 : decode cX8_start 17 = .ok (.getfield 33, 3) := by decide +kernel
theorem dX8_start_20 : decode cX8_start 20 = .ok (.if_icmp .ge 62, 3) := by decide +kernel
theorem dX8_start_23 : decode cX8_start 23 = .ok (.aload_n 0, 1) := by decide +kernel
theorem dX8_start_24 : decode cX8_start 24 = .ok (.getfield 9, 3) := by decide +kernel
theorem dX8_start_27 : decode cX8_start 27 = .ok (.iload_n 2, 1) := by decide +kernel
theorem dX8_start_28 : decode cX8_start 28 = .ok (.aload_n 1, 1) := by decide +kernel
theorem dX8_start_29 : decode cX8_start 29 = .ok (.iload_n 2, 1) := by decide +kernel
theorem dX8_start_30 : decode cX8_start 30 = .ok (.invokevirtual 37, 3) := by decide +kernel
theorem dX8_start_33 : decode cX8_start 33 = .ok (.invokestatic 41, 3) := by decide +kernel
theorem dX8_start_36 : decode cX8_start 36 = .ok (.aload_n 0, 1) := by decide +kernel
theorem dX8_start_37 : decode cX8_start 37 = .ok (.getfield 15, 3) := by decide +kernel
theorem dX8_start_40 : decode cX8_start 40 = .ok (.iload_n 2, 1) := by decide +kernel
theorem dX8_start_41 : decode cX8_start 41 = .ok (.aload_n 1, 1) := by decide +kernel
theorem dX8_start_42 : decode cX8_start 42 = .ok (.iload_n 2, 1) := by decide +kernel
theorem dX8_start_43 : decode cX8_start 43 = .ok (.invokevirtual 45, 3) := by decide +kernel
theorem dX8_start_46 : decode cX8_start 46 = .ok (.invokestatic 41, 3) := by decide +kernel
theorem dX8_start_49 : decode cX8_start 49 = .ok (.aload_n 0, 1) := by decide +kernel
theorem dX8_start_50 : decode cX8_start 50 = .ok (.getfield 18, 3) := by decide +kernel
theorem dX8_start_53 : decode cX8_start 53 = .ok (.iload_n 2, 1) := by decide +kernel
theorem dX8_start_54 : decode cX8_start 54 = .ok (.iconst 0, 1) := by decide +kernel
theorem dX8_start_55 : decode cX8_start 55 = .ok (.invokestatic 41, 3) := by decide +kernel
theorem dX8_start_58 : decode cX8_start 58 = .ok (.aload_n 0, 1) := by decide +kernel
theorem dX8_start_59 : decode cX8_start 59 = .ok (.getfield 21, 3) := by decide +kernel
theorem dX8_start_62 : decode cX8_start 62 = .ok (.iload_n 2, 1) := by decide +kernel
theorem dX8_start_63 : decode cX8_start 63 = .ok (.iconst 0, 1) := by decide +kernel
theorem dX8_start_64 : decode cX8_start 64 = .ok (.invokestatic 41, 3) := by decide +kernel
theorem dX8_start_67 : decode cX8_start 67 = .ok (.aload_n 0, 1) := by decide +kernel
theorem dX8_start_68 : decode cX8_start 68 = .ok (.getfield 24, 3) := by decide +kernel
theorem dX8_start_71 : decode cX8_start 71 = .ok (.iload_n 2, 1) := by decide +kernel
theorem dX8_start_72 : decode cX8_start 72 = .ok (.iconst 0, 1) := by decide +kernel
theorem dX8_start_73 : decode cX8_start 73 = .ok (.invokestatic 41, 3) := by decide +kernel
theorem dX8_start_76 : decode cX8_start 76 = .ok (.iinc 2 1, 3) := by decide +kernel
theorem dX8_start_79 : decode cX8_start 79 = .ok (.goto (-64), 3) := by decide +kernel
theorem dX8_start_82 : decode cX8_start 82 = .ok (.return_, 1) := by decide +kernel
theorem dX8_copyFrom_0 : decode cX8_copyFrom 0 = .ok (.aload_n 0, 1) := by decide +kernel
theorem dX8_copyFrom_1 : decode cX8_copyFrom 1 = .ok (.aload_n 1, 1) := by decide +kernel
theorem dX8_copyFrom_2 : decode cX8_copyFrom 2 = .ok (.getfield 33, 3) := by decide +kernel
theorem dX8_copyFrom_5 : decode cX8_copyFrom 5 = .ok (.putfield 33, 3) := by decide +kernel
theorem dX8_copyFrom_8 : decode cX8_copyFrom 8 = .ok (.aload_n 0, 1) := by decide +kernel
theorem dX8_copyFrom_9 : decode cX8_copyFrom 9 = .ok (.aload_n 1, 1) := by decide +kernel
theorem dX8_copyFrom_10 : decode cX8_copyFrom 10 = .ok (.getfield 34, 3) := by decide +kernel
theorem dX8_copyFrom_13 : decode cX8_copyFrom 13 = .ok (.putfield 34, 3) := by decide +kernel
theorem dX8_copyFrom_16 : decode cX8_copyFrom 16 = .ok (.iconst 0, 1) := by decide +kernel
theorem dX8_copyFrom_17 : decode cX8_copyFrom 17 = .ok (.istore_n 2, 1) := by decide +kernel
theorem dX8_copyFrom_18 : decode cX8_copyFrom 18 = .ok (.iload_n 2, 1) := by decide +kernel
theorem dX8_copyFrom_19 : decode cX8_copyFrom 19 = .ok (.aload_n 0, 1) := by decide +kernel
theorem dX8_copyFrom_20 : decode cX8_copyFrom 20 = .ok (.getfield 33, 3) := by decide +kernel
theorem dX8_copyFrom_23 : decode cX8_copyFrom 23 = .ok (.if_icmp .ge 89, 3) := by decide +kernel
theorem dX8_copyFrom_26 : decode cX8_copyFrom 26 = .ok (.aload_n 0, 1) := by decide +kernel
theorem dX8_copyFrom_27 : decode cX8_copyFrom 27 = .ok (.getfield 9, 3) := by decide +kernel
theorem dX8_copyFrom_30 : decode cX8_copyFrom 30 = .ok (.iload_n 2, 1) := by decide +kernel
theorem dX8_copyFrom_31 : decode cX8_copyFrom 31 = .ok (.aload_n 1, 1) := by decide +kernel
theorem dX8_copyFrom_32 : decode cX8_copyFrom 32 = .ok (.getfield 9, 3) := by decide +kernel
theorem dX8_copyFrom_35 : decode cX8_copyFrom 35 = .ok (.iload_n 2, 1) := by decide +kernel
theorem dX8_copyFrom_36 : decode cX8_copyFrom 36 = .ok (.invokestatic 48, 3) := by decide +kernel
theorem dX8_copyFrom_39 : decode cX8_copyFrom 39 = .ok (.invokestatic 41, 3) := by decide +kernel
theorem dX8_copyFrom_42 : decode cX8_copyFrom 42 = .ok (.aload_n 0, 1) := by decide +kernel
theorem dX8_copyFrom_43 : decode cX8_copyFrom 43 = .ok (.getfield 15, 3) := by decide +kernel
theorem dX8_copyFrom_46 : decode cX8_copyFrom 46 = .ok (.iload_n 2, 1) := by decide +kernel
theorem dX8_copyFrom_47 : decode cX8_copyFrom 47 = .ok (.aload_n 1, 1) := by decide +kernel
theorem dX8_copyFrom_48 : decode cX8_copyFrom 48 = .ok (.getfield 15, 3) := by decide +kernel
theorem dX8_copyFrom_51 : decode cX8_copyFrom 51 = .ok (.iload_n 2, 1) := by decide +kernel
theorem dX8_copyFrom_52 : decode cX8_copyFrom 52 = .ok (.invokestatic 48, 3) := by decide +kernel
theorem dX8_copyFrom_55 : decode cX8_copyFrom 55 = .ok (.invokestatic 41, 3) := by decide +kernel
theorem dX8_copyFrom_58 : decode cX8_copyFrom 58 = .ok (.aload_n 0, 1) := by decide +kernel
theorem dX8_copyFrom_59 : decode cX8_copyFrom 59 = .ok (.getfield 18, 3) := by decide +kernel
theorem dX8_copyFrom_62 : decode cX8_copyFrom 62 = .ok (.iload_n 2, 1) := by decide +kernel
theorem dX8_copyFrom_63 : decode cX8_copyFrom 63 = .ok (.aload_n 1, 1) := by decide +kernel
theorem dX8_copyFrom_64 : decode cX8_copyFrom 64 = .ok (.getfield 18, 3) := by decide +kernel
theorem dX8_copyFrom_67 : decode cX8_copyFrom 67 = .ok (.iload_n 2, 1) := by decide +kernel
theorem dX8_copyFrom_68 : decode cX8_copyFrom 68 = .ok (.invokestatic 48, 3) := by decide +kernel
theorem dX8_copyFrom_71 : decode cX8_copyFrom 71 = .ok (.invokestatic 41, 3) := by decide +kernel
theorem dX8_copyFrom_74 : decode cX8_copyFrom 74 = .ok (.aload_n 0, 1) := by decide +kernel
theorem dX8_copyFrom_75 : decode cX8_copyFrom 75 = .ok (.getfield 21, 3) := by decide +kernel
theorem dX8_copyFrom_78 : decode cX8_copyFrom 78 = .ok (.iload_n 2, 1) := by decide +kernel
theorem dX8_copyFrom_79 : decode cX8_copyFrom 79 = .ok (.aload_n 1, 1) := by decide +kernel
theorem dX8_copyFrom_80 : decode cX8_copyFrom 80 = .ok (.getfield 21, 3) := by decide +kernel
theorem dX8_copyFrom_83 : decode cX8_copyFrom 83 = .ok (.iload_n 2, 1) := by decide +kernel
theorem dX8_copyFrom_84 : decode cX8_copyFrom 84 = .ok (.invokestatic 48, 3) := by decide +kernel
theorem dX8_copyFrom_87 : decode cX8_copyFrom 87 = .ok (.invokestatic 41, 3) := by decide +kernel
theorem dX8_copyFrom_90 : decode cX8_copyFrom 90 = .ok (.aload_n 0, 1) := by decide +kernel
theorem dX8_copyFrom_91 : decode cX8_copyFrom 91 = .ok (.getfield 24, 3) := by decide +kernel
theorem dX8_copyFrom_94 : decode cX8_copyFrom 94 = .ok (.iload_n 2, 1) := by decide +kernel
theorem dX8_copyFrom_95 : decode cX8_copyFrom 95 = .ok (.aload_n 1, 1) := by decide +kernel
theorem dX8_copyFrom_96 : decode cX8_copyFrom 96 = .ok (.getfield 24, 3) := by decide +kernel
theorem dX8_copyFrom_99 : decode cX8_copyFrom 99 = .ok (.iload_n 2, 1) := by decide +kernel
theorem dX8_copyFrom_100 : decode cX8_copyFrom 100 = .ok (.invokestatic 48, 3) := by decide +kernel
theorem dX8_copyFrom_103 : decode cX8_copyFrom 103 = .ok (.invokestatic 41, 3) := by decide +kernel
theorem dX8_copyFrom_106 : decode cX8_copyFrom 106 = .ok (.iinc 2 1, 3) := by decide +kernel
theorem dX8_copyFrom_109 : decode cX8_copyFrom 109 = .ok (.goto (-91), 3) := by decide +kernel
theorem dX8_copyFrom_112 : decode cX8_copyFrom 112 = .ok (.return_, 1) := by decide +kernel
theorem dX8_kindOf_0 : decode cX8_kindOf 0 = .ok (.aload_n 0, 1) := by decide +kernel
theorem dX8_kindOf_1 : decode cX8_kindOf 1 = .ok (.getfield 9, 3) := by decide +kernel
theorem dX8_kindOf_4 : decode cX8_kindOf 4 = .ok (.iload_n 1, 1) := by decide +kernel
theorem dX8_kindOf_5 : decode cX8_kindOf 5 = .ok (.invokestatic 48, 3) := by decide +kernel
theorem dX8_kindOf_8 : decode cX8_kindOf 8 = .ok (.ireturn, 1) := by decide +kernel
theorem dX8_turnInto_0 : decode cX8_turnInto 0 = .ok (.aload_n 0, 1) := by decide +kernel
theorem dX8_turnInto_1 : decode cX8_turnInto 1 = .ok (.getfield 9, 3) := by decide +kernel
theorem dX8_turnInto_4 : decode cX8_turnInto 4 = .ok (.iload_n 1, 1) := by decide +kernel
theorem dX8_turnInto_5 : decode cX8_turnInto 5 = .ok (.iload_n 2, 1) := by decide +kernel
theorem dX8_turnInto_6 : decode cX8_turnInto 6 = .ok (.invokestatic 41, 3) := by decide +kernel
theorem dX8_turnInto_9 : decode cX8_turnInto 9 = .ok (.return_, 1) := by decide +kernel
theorem dX8_cellOf_0 : decode cX8_cellOf 0 = .ok (.aload_n 0, 1) := by decide +kernel
theorem dX8_cellOf_1 : decode cX8_cellOf 1 = .ok (.getfield 15, 3) := by decide +kernel
theorem dX8_cellOf_4 : decode cX8_cellOf 4 = .ok (.iload_n 1, 1) := by decide +kernel
theorem dX8_cellOf_5 : decode cX8_cellOf 5 = .ok (.invokestatic 48, 3) := by decide +kernel
theorem dX8_cellOf_8 : decode cX8_cellOf 8 = .ok (.ireturn, 1) := by decide +kernel
theorem dX8_putInto_0 : decode cX8_putInto 0 = .ok (.aload_n 0, 1) := by decide +kernel
theorem dX8_putInto_1 : decode cX8_putInto 1 = .ok (.getfield 15, 3) := by decide +kernel
theorem dX8_putInto_4 : decode cX8_putInto 4 = .ok (.iload_n 1, 1) := by decide +kernel
theorem dX8_putInto_5 : decode cX8_putInto 5 = .ok (.iload_n 2, 1) := by decide +kernel
theorem dX8_putInto_6 : decode cX8_putInto 6 = .ok (.invokestatic 41, 3) := by decide +kernel
theorem dX8_putInto_9 : decode cX8_putInto 9 = .ok (.return_, 1) := by decide +kernel
theorem dX8_ageOf_0 : decode cX8_ageOf 0 = .ok (.aload_n 0, 1) := by decide +kernel
theorem dX8_ageOf_1 : decode cX8_ageOf 1 = .ok (.getfield 18, 3) := by decide +kernel
theorem dX8_ageOf_4 : decode cX8_ageOf 4 = .ok (.iload_n 1, 1) := by decide +kernel
theorem dX8_ageOf_5 : decode cX8_ageOf 5 = .ok (.invokestatic 48, 3) := by decide +kernel
theorem dX8_ageOf_8 : decode cX8_ageOf 8 = .ok (.ireturn, 1) := by decide +kernel
theorem dX8_ageTo_0 : decode cX8_ageTo 0 = .ok (.aload_n 0, 1) := by decide +kernel
theorem dX8_ageTo_1 : decode cX8_ageTo 1 = .ok (.getfield 18, 3) := by decide +kernel
theorem dX8_ageTo_4 : decode cX8_ageTo 4 = .ok (.iload_n 1, 1) := by decide +kernel
theorem dX8_ageTo_5 : decode cX8_ageTo 5 = .ok (.iload_n 2, 1) := by decide +kernel
theorem dX8_ageTo_6 : decode cX8_ageTo 6 = .ok (.invokestatic 41, 3) := by decide +kernel
theorem dX8_ageTo_9 : decode cX8_ageTo 9 = .ok (.return_, 1) := by decide +kernel
theorem dX8_fateOf_0 : decode cX8_fateOf 0 = .ok (.aload_n 0, 1) := by decide +kernel
theorem dX8_fateOf_1 : decode cX8_fateOf 1 = .ok (.getfield 21, 3) := by decide +kernel
theorem dX8_fateOf_4 : decode cX8_fateOf 4 = .ok (.iload_n 1, 1) := by decide +kernel
theorem dX8_fateOf_5 : decode cX8_fateOf 5 = .ok (.invokestatic 48, 3) := by decide +kernel
theorem dX8_fateOf_8 : decode cX8_fateOf 8 = .ok (.ireturn, 1) := by decide +kernel
theorem dX8_takeOut_0 : decode cX8_takeOut 0 = .ok (.aload_n 0, 1) := by decide +kernel
theorem dX8_takeOut_1 : decode cX8_takeOut 1 = .ok (.getfield 21, 3) := by decide +kernel
theorem dX8_takeOut_4 : decode cX8_takeOut 4 = .ok (.iload_n 1, 1) := by decide +kernel
theorem dX8_takeOut_5 : decode cX8_takeOut 5 = .ok (.iload_n 2, 1) := by decide +kernel
theorem dX8_takeOut_6 : decode cX8_takeOut 6 = .ok (.invokestatic 41, 3) := by decide +kernel
theorem dX8_takeOut_9 : decode cX8_takeOut 9 = .ok (.aload_n 0, 1) := by decide +kernel
theorem dX8_takeOut_10 : decode cX8_takeOut 10 = .ok (.getfield 24, 3) := by decide +kernel
theorem dX8_takeOut_13 : decode cX8_takeOut 13 = .ok (.iload_n 1, 1) := by decide +kernel
theorem dX8_takeOut_14 : decode cX8_takeOut 14 = .ok (.aload_n 0, 1) := by decide +kernel
theorem dX8_takeOut_15 : decode cX8_takeOut 15 = .ok (.getfield 34, 3) := by decide +kernel
theorem dX8_takeOut_18 : decode cX8_takeOut 18 = .ok (.invokestatic 41, 3) := by decide +kernel
theorem dX8_takeOut_21 : decode cX8_takeOut 21 = .ok (.return_, 1) := by decide +kernel
theorem dX8_hoursSinceLeft_0 : decode cX8_hoursSinceLeft 0 = .ok (.aload_n 0, 1) := by decide +kernel
theorem dX8_hoursSinceLeft_1 : decode cX8_hoursSinceLeft 1 = .ok (.getfield 34, 3) := by decide +kernel
theorem dX8_hoursSinceLeft_4 : decode cX8_hoursSinceLeft 4 = .ok (.aload_n 0, 1) := by decide +kernel
theorem dX8_hoursSinceLeft_5 : decode cX8_hoursSinceLeft 5 = .ok (.getfield 24, 3) := by decide +kernel
theorem dX8_hoursSinceLeft_8 : decode cX8_hoursSinceLeft 8 = .ok (.iload_n 1, 1) := by decide +kernel
theorem dX8_hoursSinceLeft_9 : decode cX8_hoursSinceLeft 9 = .ok (.invokestatic 48, 3) := by decide +kernel
theorem dX8_hoursSinceLeft_12 : decode cX8_hoursSinceLeft 12 = .ok (.isub, 1) := by decide +kernel
theorem dX8_hoursSinceLeft_13 : decode cX8_hoursSinceLeft 13 = .ok (.ireturn, 1) := by decide +kernel
theorem dX8_isThere_0 : decode cX8_isThere 0 = .ok (.iload_n 1, 1) := by decide +kernel
theorem dX8_isThere_1 : decode cX8_isThere 1 = .ok (.ifCond .lt 26, 3) := by decide +kernel
theorem dX8_isThere_4 : decode cX8_isThere 4 = .ok (.iload_n 1, 1) := by decide +kernel
theorem dX8_isThere_5 : decode cX8_isThere 5 = .ok (.aload_n 0, 1) := by decide +kernel
theorem dX8_isThere_6 : decode cX8_isThere 6 = .ok (.getfield 33, 3) := by decide +kernel
theorem dX8_isThere_9 : decode cX8_isThere 9 = .ok (.if_icmp .ge 18, 3) := by decide +kernel
theorem dX8_isThere_12 : decode cX8_isThere 12 = .ok (.aload_n 0, 1) := by decide +kernel
theorem dX8_isThere_13 : decode cX8_isThere 13 = .ok (.getfield 21, 3) := by decide +kernel
theorem dX8_isThere_16 : decode cX8_isThere 16 = .ok (.iload_n 1, 1) := by decide +kernel
theorem dX8_isThere_17 : decode cX8_isThere 17 = .ok (.invokestatic 48, 3) := by decide +kernel
theorem dX8_isThere_20 : decode cX8_isThere 20 = .ok (.ifCond .ne 7, 3) := by decide +kernel
theorem dX8_isThere_23 : decode cX8_isThere 23 = .ok (.iconst 1, 1) := by decide +kernel
theorem dX8_isThere_24 : decode cX8_isThere 24 = .ok (.goto 4, 3) := by decide +kernel
theorem dX8_isThere_27 : decode cX8_isThere 27 = .ok (.iconst 0, 1) := by decide +kernel
theorem dX8_isThere_28 : decode cX8_isThere 28 = .ok (.ireturn, 1) := by decide +kernel
theorem dX8_bitsThere_0 : decode cX8_bitsThere 0 = .ok (.iconst 0, 1) := by decide +kernel
theorem dX8_bitsThere_1 : decode cX8_bitsThere 1 = .ok (.istore_n 1, 1) := by decide +kernel
theorem dX8_bitsThere_2 : decode cX8_bitsThere 2 = .ok (.iconst 0, 1) := by decide +kernel
theorem dX8_bitsThere_3 : decode cX8_bitsThere 3 = .ok (.istore_n 2, 1) := by decide +kernel
theorem dX8_bitsThere_4 : decode cX8_bitsThere 4 = .ok (.iload_n 2, 1) := by decide +kernel
theorem dX8_bitsThere_5 : decode cX8_bitsThere 5 = .ok (.aload_n 0, 1) := by decide +kernel
theorem dX8_bitsThere_6 : decode cX8_bitsThere 6 = .ok (.getfield 33, 3) := by decide +kernel
theorem dX8_bitsThere_9 : decode cX8_bitsThere 9 = .ok (.if_icmp .ge 23, 3) := by decide +kernel
theorem dX8_bitsThere_12 : decode cX8_bitsThere 12 = .ok (.aload_n 0, 1) := by decide +kernel
theorem dX8_bitsThere_13 : decode cX8_bitsThere 13 = .ok (.iload_n 2, 1) := by decide +kernel
theorem dX8_bitsThere_14 : decode cX8_bitsThere 14 = .ok (.invokevirtual 52, 3) := by decide +kernel
theorem dX8_bitsThere_17 : decode cX8_bitsThere 17 = .ok (.ifCond .eq 9, 3) := by decide +kernel
theorem dX8_bitsThere_20 : decode cX8_bitsThere 20 = .ok (.iload_n 1, 1) := by decide +kernel
theorem dX8_bitsThere_21 : decode cX8_bitsThere 21 = .ok (.iconst 1, 1) := by decide +kernel
theorem dX8_bitsThere_22 : decode cX8_bitsThere 22 = .ok (.iload_n 2, 1) := by decide +kernel
theorem dX8_bitsThere_23 : decode cX8_bitsThere 23 = .ok (.ishl, 1) := by decide +kernel
theorem dX8_bitsThere_24 : decode cX8_bitsThere 24 = .ok (.ior, 1) := by decide +kernel
theorem dX8_bitsThere_25 : decode cX8_bitsThere 25 = .ok (.istore_n 1, 1) := by decide +kernel
theorem dX8_bitsThere_26 : decode cX8_bitsThere 26 = .ok (.iinc 2 1, 3) := by decide +kernel
theorem dX8_bitsThere_29 : decode cX8_bitsThere 29 = .ok (.goto (-25), 3) := by decide +kernel
theorem dX8_bitsThere_32 : decode cX8_bitsThere 32 = .ok (.iload_n 1, 1) := by decide +kernel
theorem dX8_bitsThere_33 : decode cX8_bitsThere 33 = .ok (.ireturn, 1) := by decide +kernel
theorem dX8_numberThere_0 : decode cX8_numberThere 0 = .ok (.aload_n 0, 1) := by decide +kernel
theorem dX8_numberThere_1 : decode cX8_numberThere 1 = .ok (.invokevirtual 56, 3) := by decide +kernel
theorem dX8_numberThere_4 : decode cX8_numberThere 4 = .ok (.invokestatic 60, 3) := by decide +kernel
theorem dX8_numberThere_7 : decode cX8_numberThere 7 = .ok (.ireturn, 1) := by decide +kernel
theorem dX8_numberIn_0 : decode cX8_numberIn 0 = .ok (.iconst 0, 1) := by decide +kernel
theorem dX8_numberIn_1 : decode cX8_numberIn 1 = .ok (.istore_n 2, 1) := by decide +kernel
theorem dX8_numberIn_2 : decode cX8_numberIn 2 = .ok (.iconst 0, 1) := by decide +kernel
theorem dX8_numberIn_3 : decode cX8_numberIn 3 = .ok (.istore_n 3, 1) := by decide +kernel
theorem dX8_numberIn_4 : decode cX8_numberIn 4 = .ok (.iload_n 3, 1) := by decide +kernel
theorem dX8_numberIn_5 : decode cX8_numberIn 5 = .ok (.aload_n 0, 1) := by decide +kernel
theorem dX8_numberIn_6 : decode cX8_numberIn 6 = .ok (.getfield 33, 3) := by decide +kernel
theorem dX8_numberIn_9 : decode cX8_numberIn 9 = .ok (.if_icmp .ge 32, 3) := by decide +kernel
theorem dX8_numberIn_12 : decode cX8_numberIn 12 = .ok (.aload_n 0, 1) := by decide +kernel
theorem dX8_numberIn_13 : decode cX8_numberIn 13 = .ok (.iload_n 3, 1) := by decide +kernel
theorem dX8_numberIn_14 : decode cX8_numberIn 14 = .ok (.invokevirtual 52, 3) := by decide +kernel
theorem dX8_numberIn_17 : decode cX8_numberIn 17 = .ok (.ifCond .eq 18, 3) := by decide +kernel
theorem dX8_numberIn_20 : decode cX8_numberIn 20 = .ok (.aload_n 0, 1) := by decide +kernel
theorem dX8_numberIn_21 : decode cX8_numberIn 21 = .ok (.getfield 15, 3) := by decide +kernel
theorem dX8_numberIn_24 : decode cX8_numberIn 24 = .ok (.iload_n 3, 1) := by decide +kernel
theorem dX8_numberIn_25 : decode cX8_numberIn 25 = .ok (.invokestatic 48, 3) := by decide +kernel
theorem dX8_numberIn_28 : decode cX8_numberIn 28 = .ok (.iload_n 1, 1) := by decide +kernel
theorem dX8_numberIn_29 : decode cX8_numberIn 29 = .ok (.if_icmp .ne 6, 3) := by decide +kernel
theorem dX8_numberIn_32 : decode cX8_numberIn 32 = .ok (.iinc 2 1, 3) := by decide +kernel
theorem dX8_numberIn_35 : decode cX8_numberIn 35 = .ok (.iinc 3 1, 3) := by decide +kernel
theorem dX8_numberIn_38 : decode cX8_numberIn 38 = .ok (.goto (-34), 3) := by decide +kernel
theorem dX8_numberIn_41 : decode cX8_numberIn 41 = .ok (.iload_n 2, 1) := by decide +kernel
theorem dX8_numberIn_42 : decode cX8_numberIn 42 = .ok (.ireturn, 1) := by decide +kernel
theorem dX9_init_0 : decode cX9_init 0 = .ok (.aload_n 0, 1) := by decide +kernel
theorem dX9_init_1 : decode cX9_init 1 = .ok (.invokespecial 3, 3) := by decide +kernel
theorem dX9_init_4 : decode cX9_init 4 = .ok (.aload_n 0, 1) := by decide +kernel
theorem dX9_init_5 : decode cX9_init 5 = .ok (.sipush 400, 3) := by decide +kernel
theorem dX9_init_8 : decode cX9_init 8 = .ok (.newarray .int, 2) := by decide +kernel
theorem dX9_init_10 : decode cX9_init 10 = .ok (.putfield 9, 3) := by decide +kernel
theorem dX9_init_13 : decode cX9_init 13 = .ok (.aload_n 0, 1) := by decide +kernel
theorem dX9_init_14 : decode cX9_init 14 = .ok (.bipush 6, 2) := by decide +kernel
theorem dX9_init_16 : decode cX9_init 16 = .ok (.newarray .int, 2) := by decide +kernel
theorem dX9_init_18 : decode cX9_init 18 = .ok (.putfield 15, 3) := by decide +kernel
theorem dX9_init_21 : decode cX9_init 21 = .ok (.return_, 1) := by decide +kernel
theorem dX9_append_0 : decode cX9_append 0 = .ok (.iload_n 1, 1) := by decide +kernel
theorem dX9_append_1 : decode cX9_append 1 = .ok (.sipush 400, 3) := by decide +kernel
theorem dX9_append_4 : decode cX9_append 4 = .ok (.aload_n 0, 1) := by decide +kernel
theorem dX9_append_5 : decode cX9_append 5 = .ok (.getfield 18, 3) := by decide +kernel
theorem dX9_append_8 : decode cX9_append 8 = .ok (.isub, 1) := by decide +kernel
theorem dX9_append_9 : decode cX9_append 9 = .ok (.if_icmp .le 5, 3) := by decide +kernel
theorem dX9_append_12 : decode cX9_append 12 = .ok (.iconst 0, 1) := by decide +kernel
theorem dX9_append_13 : decode cX9_append 13 = .ok (.ireturn, 1) := by decide +kernel
theorem dX9_append_14 : decode cX9_append 14 = .ok (.iload_n 1, 1) := by decide +kernel
theorem dX9_append_15 : decode cX9_append 15 = .ok (.iconst 1, 1) := by decide +kernel
theorem dX9_append_16 : decode cX9_append 16 = .ok (.isub, 1) := by decide +kernel
theorem dX9_append_17 : decode cX9_append 17 = .ok (.istore 4, 2) := by decide +kernel
theorem dX9_append_19 : decode cX9_append 19 = .ok (.iload 4, 2) := by decide +kernel
theorem dX9_append_21 : decode cX9_append 21 = .ok (.ifCond .lt 42, 3) := by decide +kernel
theorem dX9_append_24 : decode cX9_append 24 = .ok (.aload_n 0, 1) := by decide +kernel
theorem dX9_append_25 : decode cX9_append 25 = .ok (.getfield 9, 3) := by decide +kernel
theorem dX9_append_28 : decode cX9_append 28 = .ok (.aload_n 0, 1) := by decide +kernel
theorem dX9_append_29 : decode cX9_append 29 = .ok (.getfield 18, 3) := by decide +kernel
theorem dX9_append_32 : decode cX9_append 32 = .ok (.lload_n 2, 1) := by decide +kernel
theorem dX9_append_33 : decode cX9_append 33 = .ok (.bipush 8, 2) := by decide +kernel
theorem dX9_append_35 : decode cX9_append 35 = .ok (.iload 4, 2) := by decide +kernel
theorem dX9_append_37 : decode cX9_append 37 = .ok (.imul, 1) := by decide +kernel
theorem dX9_append_38 : decode cX9_append 38 = .ok (.lushr, 1) := by decide +kernel
theorem dX9_append_39 : decode cX9_append 39 = .ok (.ldc2_w 22, 3) := by decide +kernel
theorem dX9_append_42 : decode cX9_append 42 = .ok (.land, 1) := by decide +kernel
theorem dX9_append_43 : decode cX9_append 43 = .ok (.l2i, 1) := by decide +kernel
theorem dX9_append_44 : decode cX9_append 44 = .ok (.invokestatic 24, 3) := by decide +kernel
theorem dX9_append_47 : decode cX9_append 47 = .ok (.aload_n 0, 1) := by decide +kernel
theorem dX9_append_48 : decode cX9_append 48 = .ok (.dup, 1) := by decide +kernel
theorem dX9_append_49 : decode cX9_append 49 = .ok (.getfield 18, 3) := by decide +kernel
theorem dX9_append_52 : decode cX9_append 52 = .ok (.iconst 1, 1) := by decide +kernel
theorem dX9_append_53 : decode cX9_append 53 = .ok (.iadd, 1) := by decide +kernel
theorem dX9_append_54 : decode cX9_append 54 = .ok (.putfield 18, 3) := by decide +kernel
theorem dX9_append_57 : decode cX9_append 57 = .ok (.iinc 4 (-1), 3) := by decide +kernel
theorem dX9_append_60 : decode cX9_append 60 = .ok (.goto (-41), 3) := by decide +kernel
theorem dX9_append_63 : decode cX9_append 63 = .ok (.iconst 1, 1) := by decide +kernel
theorem dX9_append_64 : decode cX9_append 64 = .ok (.ireturn, 1) := by decide +kernel
theorem dX9_byteAt_0 : decode cX9_byteAt 0 = .ok (.iload_n 1, 1) := by decide +kernel
theorem dX9_byteAt_1 : decode cX9_byteAt 1 = .ok (.aload_n 0, 1) := by decide +kernel
theorem dX9_byteAt_2 : decode cX9_byteAt 2 = .ok (.getfield 18, 3) := by decide +kernel
theorem dX9_byteAt_5 : decode cX9_byteAt 5 = .ok (.if_icmp .ge 14, 3) := by decide +kernel
theorem dX9_byteAt_8 : decode cX9_byteAt 8 = .ok (.aload_n 0, 1) := by decide +kernel
theorem dX9_byteAt_9 : decode cX9_byteAt 9 = .ok (.getfield 9, 3) := by decide +kernel
theorem dX9_byteAt_12 : decode cX9_byteAt 12 = .ok (.iload_n 1, 1) := by decide +kernel
theorem dX9_byteAt_13 : decode cX9_byteAt 13 = .ok (.invokestatic 28, 3) := by decide +kernel
theorem dX9_byteAt_16 : decode cX9_byteAt 16 = .ok (.goto 4, 3) := by decide +kernel
theorem dX9_byteAt_19 : decode cX9_byteAt 19 = .ok (.iconst 0, 1) := by decide +kernel
theorem dX9_byteAt_20 : decode cX9_byteAt 20 = .ok (.ireturn, 1) := by decide +kernel
theorem dX9_readItem_0 : decode cX9_readItem 0 = .ok (.aload_n 0, 1) := by decide +kernel
theorem dX9_readItem_1 : decode cX9_readItem 1 = .ok (.aload_n 0, 1) := by decide +kernel
theorem dX9_readItem_2 : decode cX9_readItem 2 = .ok (.iload_n 1, 1) := by decide +kernel
theorem dX9_readItem_3 : decode cX9_readItem 3 = .ok (.invokevirtual 32, 3) := by decide +kernel
theorem dX9_readItem_6 : decode cX9_readItem 6 = .ok (.putfield 36, 3) := by decide +kernel
theorem dX9_readItem_9 : decode cX9_readItem 9 = .ok (.aload_n 0, 1) := by decide +kernel
theorem dX9_readItem_10 : decode cX9_readItem 10 = .ok (.iconst 0, 1) := by decide +kernel
theorem dX9_readItem_11 : decode cX9_readItem 11 = .ok (.putfield 39, 3) := by decide +kernel
theorem dX9_readItem_14 : decode cX9_readItem 14 = .ok (.iload_n 1, 1) := by decide +kernel
theorem dX9_readItem_15 : decode cX9_readItem 15 = .ok (.iconst 1, 1) := by decide +kernel
theorem dX9_readItem_16 : decode cX9_readItem 16 = .ok (.iadd, 1) := by decide +kernel
theorem dX9_readItem_17 : decode cX9_readItem 17 = .ok (.istore_n 2, 1) := by decide +kernel
theorem dX9_readItem_18 : decode cX9_readItem 18 = .ok (.iconst 0, 1) := by decide +kernel
theorem dX9_readItem_19 : decode cX9_readItem 19 = .ok (.istore_n 3, 1) := by decide +kernel
theorem dX9_readItem_20 : decode cX9_readItem 20 = .ok (.iload_n 3, 1) := by decide +kernel
theorem dX9_readItem_21 : decode cX9_readItem 21 = .ok (.bipush 6, 2) := by decide +kernel
theorem dX9_readItem_23 : decode cX9_readItem 23 = .ok (.if_icmp .ge 57, 3) := by decide +kernel
theorem dX9_readItem_26 : decode cX9_readItem 26 = .ok (.aload_n 0, 1) := by decide +kernel
theorem dX9_readItem_27 : decode cX9_readItem 27 = .ok (.iload_n 2, 1) := by decide +kernel
theorem dX9_readItem_28 : decode cX9_readItem 28 = .ok (.invokevirtual 42, 3) := by decide +kernel
theorem dX9_readItem_31 : decode cX9_readItem 31 = .ok (.istore 4, 2) := by decide +kernel
theorem dX9_readItem_33 : decode cX9_readItem 33 = .ok (.iload 4, 2) := by decide +kernel
theorem dX9_readItem_35 : decode cX9_readItem 35 = .ok (.iload_n 2, 1) := by decide +kernel
theorem dX9_readItem_36 : decode cX9_readItem 36 = .ok (.if_icmp .ne 6, 3) := by decide +kernel
theorem dX9_readItem_39 : decode cX9_readItem 39 = .ok (.bipush (-4), 2) := by decide +kernel
theorem dX9_readItem_41 : decode cX9_readItem 41 = .ok (.ireturn, 1) := by decide +kernel
theorem dX9_readItem_42 : decode cX9_readItem 42 = .ok (.aload_n 0, 1) := by decide +kernel
theorem dX9_readItem_43 : decode cX9_readItem 43 = .ok (.iload 4, 2) := by decide +kernel
theorem dX9_readItem_45 : decode cX9_readItem 45 = .ok (.invokevirtual 32, 3) := by decide +kernel
theorem dX9_readItem_48 : decode cX9_readItem 48 = .ok (.istore 5, 2) := by decide +kernel
theorem dX9_readItem_50 : decode cX9_readItem 50 = .ok (.iload 4, 2) := by decide +kernel
theorem dX9_readItem_52 : decode cX9_readItem 52 = .ok (.iconst 1, 1) := by decide +kernel
theorem dX9_readItem_53 : decode cX9_readItem 53 = .ok (.iadd, 1) := by decide +kernel
theorem dX9_readItem_54 : decode cX9_readItem 54 = .ok (.istore_n 2, 1) := by decide +kernel
theorem dX9_readItem_55 : decode cX9_readItem 55 = .ok (.iload 5, 2) := by decide +kernel
theorem dX9_readItem_57 : decode cX9_readItem 57 = .ok (.bipush 59, 2) := by decide +kernel
theorem dX9_readItem_59 : decode cX9_readItem 59 = .ok (.if_icmp .ne 5, 3) := by decide +kernel
theorem dX9_readItem_62 : decode cX9_readItem 62 = .ok (.iload_n 2, 1) := by decide +kernel
theorem dX9_readItem_63 : decode cX9_readItem 63 = .ok (.ireturn, 1) := by decide +kernel
theorem dX9_readItem_64 : decode cX9_readItem 64 = .ok (.iload 5, 2) := by decide +kernel
theorem dX9_readItem_66 : decode cX9_readItem 66 = .ok (.bipush 44, 2) := by decide +kernel
theorem dX9_readItem_68 : decode cX9_readItem 68 = .ok (.if_icmp .eq 6, 3) := by decide +kernel
theorem dX9_readItem_71 : decode cX9_readItem 71 = .ok (.bipush (-4), 2) := by decide +kernel
theorem dX9_readItem_73 : decode cX9_readItem 73 = .ok (.ireturn, 1) := by decide +kernel
theorem dX9_readItem_74 : decode cX9_readItem 74 = .ok (.iinc 3 1, 3) := by decide +kernel
theorem dX9_readItem_77 : decode cX9_readItem 77 = .ok (.goto (-57), 3) := by decide +kernel
theorem dX9_readItem_80 : decode cX9_readItem 80 = .ok (.bipush (-4), 2) := by decide +kernel
theorem dX9_readItem_82 : decode cX9_readItem 82 = .ok (.ireturn, 1) := by decide +kernel
theorem dX9_readNumber_0 : decode cX9_readNumber 0 = .ok (.iconst 0, 1) := by decide +kernel
theorem dX9_readNumber_1 : decode cX9_readNumber 1 = .ok (.istore_n 2, 1) := by decide +kernel
theorem dX9_readNumber_2 : decode cX9_readNumber 2 = .ok (.iconst 0, 1) := by decide +kernel
theorem dX9_readNumber_3 : decode cX9_readNumber 3 = .ok (.istore_n 3, 1) := by decide +kernel
theorem dX9_readNumber_4 : decode cX9_readNumber 4 = .ok (.iconst 0, 1) := by decide +kernel
theorem dX9_readNumber_5 : decode cX9_readNumber 5 = .ok (.istore 4, 2) := by decide +kernel
theorem dX9_readNumber_7 : decode cX9_readNumber 7 = .ok (.iload 4, 2) := by decide +kernel
theorem dX9_readNumber_9 : decode cX9_readNumber 9 = .ok (.iconst 3, 1) := by decide +kernel
theorem dX9_readNumber_10 : decode cX9_readNumber 10 = .ok (.if_icmp .ge 43, 3) := by decide +kernel
theorem dX9_readNumber_13 : decode cX9_readNumber 13 = .ok (.aload_n 0, 1) := by decide +kernel
theorem dX9_readNumber_14 : decode cX9_readNumber 14 = .ok (.iload_n 1, 1) := by decide +kernel
theorem dX9_readNumber_15 : decode cX9_readNumber 15 = .ok (.iload 4, 2) := by decide +kernel
theorem dX9_readNumber_17 : decode cX9_readNumber 17 = .ok (.iadd, 1) := by decide +kernel
theorem dX9_readNumber_18 : decode cX9_readNumber 18 = .ok (.invokevirtual 32, 3) := by decide +kernel
theorem dX9_readNumber_21 : decode cX9_readNumber 21 = .ok (.invokestatic 45, 3) := by decide +kernel
theorem dX9_readNumber_24 : decode cX9_readNumber 24 = .ok (.ifCond .eq 29, 3) := by decide +kernel
theorem dX9_readNumber_27 : decode cX9_readNumber 27 = .ok (.bipush 10, 2) := by decide +kernel
theorem dX9_readNumber_29 : decode cX9_readNumber 29 = .ok (.iload_n 2, 1) := by decide +kernel
theorem dX9_readNumber_30 : decode cX9_readNumber 30 = .ok (.imul, 1) := by decide +kernel
theorem dX9_readNumber_31 : decode cX9_readNumber 31 = .ok (.aload_n 0, 1) := by decide +kernel
theorem dX9_readNumber_32 : decode cX9_readNumber 32 = .ok (.iload_n 1, 1) := by decide +kernel
theorem dX9_readNumber_33 : decode cX9_readNumber 33 = .ok (.iload 4, 2) := by decide +kernel
theorem dX9_readNumber_35 : decode cX9_readNumber 35 = .ok (.iadd, 1) := by decide +kernel
theorem dX9_readNumber_36 : decode cX9_readNumber 36 = .ok (.invokevirtual 32, 3) := by decide +kernel
theorem dX9_readNumber_39 : decode cX9_readNumber 39 = .ok (.iadd, 1) := by decide +kernel
theorem dX9_readNumber_40 : decode cX9_readNumber 40 = .ok (.bipush 48, 2) := by decide +kernel
theorem dX9_readNumber_42 : decode cX9_readNumber 42 = .ok (.isub, 1) := by decide +kernel
theorem dX9_readNumber_43 : decode cX9_readNumber 43 = .ok (.istore_n 2, 1) := by decide +kernel
theorem dX9_readNumber_44 : decode cX9_readNumber 44 = .ok (.iinc 3 1, 3) := by decide +kernel
theorem dX9_readNumber_47 : decode cX9_readNumber 47 = .ok (.iinc 4 1, 3) := by decide +kernel
theorem dX9_readNumber_50 : decode cX9_readNumber 50 = .ok (.goto (-43), 3) := by decide +kernel
theorem dX9_readNumber_53 : decode cX9_readNumber 53 = .ok (.iload_n 3, 1) := by decide +kernel
theorem dX9_readNumber_54 : decode cX9_readNumber 54 = .ok (.ifCond .le 25, 3) := by decide +kernel
theorem dX9_readNumber_57 : decode cX9_readNumber 57 = .ok (.aload_n 0, 1) := by decide +kernel
theorem dX9_readNumber_58 : decode cX9_readNumber 58 = .ok (.getfield 15, 3) := by decide +kernel
theorem dX9_readNumber_61 : decode cX9_readNumber 61 = .ok (.aload_n 0, 1) := by decide +kernel
theorem dX9_readNumber_62 : decode cX9_readNumber 62 = .ok (.getfield 39, 3) := by decide +kernel
theorem dX9_readNumber_65 : decode cX9_readNumber 65 = .ok (.iload_n 2, 1) := by decide +kernel
theorem dX9_readNumber_66 : decode cX9_readNumber 66 = .ok (.invokestatic 24, 3) := by decide +kernel
theorem dX9_readNumber_69 : decode cX9_readNumber 69 = .ok (.aload_n 0, 1) := by decide +kernel
theorem dX9_readNumber_70 : decode cX9_readNumber 70 = .ok (.dup, 1) := by decide +kernel
theorem dX9_readNumber_71 : decode cX9_readNumber 71 = .ok (.getfield 39, 3) := by decide +kernel
theorem dX9_readNumber_74 : decode cX9_readNumber 74 = .ok (.iconst 1, 1) := by decide +kernel
theorem dX9_readNumber_75 : decode cX9_readNumber 75 = .ok (.iadd, 1) := by decide +kernel
theorem dX9_readNumber_76 : decode cX9_readNumber 76 = .ok (.putfield 39, 3) := by decide +kernel
theorem dX9_readNumber_79 : decode cX9_readNumber 79 = .ok (.iload_n 1, 1) := by decide +kernel
theorem dX9_readNumber_80 : decode cX9_readNumber 80 = .ok (.iload_n 3, 1) := by decide +kernel
theorem dX9_readNumber_81 : decode cX9_readNumber 81 = .ok (.iadd, 1) := by decide +kernel
theorem dX9_readNumber_82 : decode cX9_readNumber 82 = .ok (.ireturn, 1) := by decide +kernel
theorem dX9_isFigure_0 : decode cX9_isFigure 0 = .ok (.iload_n 0, 1) := by decide +kernel
theorem dX9_isFigure_1 : decode cX9_isFigure 1 = .ok (.bipush 48, 2) := by decide +kernel
theorem dX9_isFigure_3 : decode cX9_isFigure 3 = .ok (.if_icmp .lt 13, 3) := by decide +kernel
theorem dX9_isFigure_6 : decode cX9_isFigure 6 = .ok (.iload_n 0, 1) := by decide +kernel
theorem dX9_isFigure_7 : decode cX9_isFigure 7 = .ok (.bipush 57, 2) := by decide +kernel
theorem dX9_isFigure_9 : decode cX9_isFigure 9 = .ok (.if_icmp .gt 7, 3) := by decide +kernel
theorem dX9_isFigure_12 : decode cX9_isFigure 12 = .ok (.iconst 1, 1) := by decide +kernel
theorem dX9_isFigure_13 : decode cX9_isFigure 13 = .ok (.goto 4, 3) := by decide +kernel
theorem dX9_isFigure_16 : decode cX9_isFigure 16 = .ok (.iconst 0, 1) := by decide +kernel
theorem dX9_isFigure_17 : decode cX9_isFigure 17 = .ok (.ireturn, 1) := by decide +kernel
theorem dX9_number_0 : decode cX9_number 0 = .ok (.aload_n 0, 1) := by decide +kernel
theorem dX9_number_1 : decode cX9_number 1 = .ok (.getfield 15, 3) := by decide +kernel
theorem dX9_number_4 : decode cX9_number 4 = .ok (.iload_n 1, 1) := by decide +kernel
theorem dX9_number_5 : decode cX9_number 5 = .ok (.invokestatic 28, 3) := by decide +kernel
theorem dX9_number_8 : decode cX9_number 8 = .ok (.ireturn, 1) := by decide +kernel
theorem dX9_isNumberWithin_0 : decode cX9_isNumberWithin 0 = .ok (.iload_n 1, 1) := by decide +kernel
theorem dX9_isNumberWithin_1 : decode cX9_isNumberWithin 1 = .ok (.aload_n 0, 1) := by decide +kernel
theorem dX9_isNumberWithin_2 : decode cX9_isNumberWithin 2 = .ok (.getfield 39, 3) := by decide +kernel
theorem dX9_isNumberWithin_5 : decode cX9_isNumberWithin 5 = .ok (.if_icmp .ge 20, 3) := by decide +kernel
theorem dX9_isNumberWithin_8 : decode cX9_isNumberWithin 8 = .ok (.aload_n 0, 1) := by decide +kernel
theorem dX9_isNumberWithin_9 : decode cX9_isNumberWithin 9 = .ok (.iload_n 1, 1) := by decide +kernel
theorem dX9_isNumberWithin_10 : decode cX9_isNumberWithin 10 = .ok (.invokevirtual 49, 3) := by decide +kernel
theorem dX9_isNumberWithin_13 : decode cX9_isNumberWithin 13 = .ok (.iload_n 2, 1) := by decide +kernel
theorem dX9_isNumberWithin_14 : decode cX9_isNumberWithin 14 = .ok (.iload_n 3, 1) := by decide +kernel
theorem dX9_isNumberWithin_15 : decode cX9_isNumberWithin 15 = .ok (.invokestatic 52, 3) := by decide +kernel
theorem dX9_isNumberWithin_18 : decode cX9_isNumberWithin 18 = .ok (.ifCond .eq 7, 3) := by decide +kernel
theorem dX9_isNumberWithin_21 : decode cX9_isNumberWithin 21 = .ok (.iconst 1, 1) := by decide +kernel
theorem dX9_isNumberWithin_22 : decode cX9_isNumberWithin 22 = .ok (.goto 4, 3) := by decide +kernel
theorem dX9_isNumberWithin_25 : decode cX9_isNumberWithin 25 = .ok (.iconst 0, 1) := by decide +kernel
theorem dX9_isNumberWithin_26 : decode cX9_isNumberWithin 26 = .ok (.ireturn, 1) := by decide +kernel
theorem dX10_init_0 : decode cX10_init 0 = .ok (.aload_n 0, 1) := by decide +kernel
theorem dX10_init_1 : decode cX10_init 1 = .ok (.invokespecial 3, 3) := by decide +kernel
theorem dX10_init_4 : decode cX10_init 4 = .ok (.aload_n 0, 1) := by decide +kernel
theorem dX10_init_5 : decode cX10_init 5 = .ok (.new 9, 3) := by decide +kernel
theorem dX10_init_8 : decode cX10_init 8 = .ok (.dup, 1) := by decide +kernel
theorem dX10_init_9 : decode cX10_init 9 = .ok (.invokespecial 11, 3) := by decide +kernel
theorem dX10_init_12 : decode cX10_init 12 = .ok (.putfield 12, 3) := by decide +kernel
theorem dX10_init_15 : decode cX10_init 15 = .ok (.aload_n 0, 1) := by decide +kernel
theorem dX10_init_16 : decode cX10_init 16 = .ok (.new 18, 3) := by decide +kernel
theorem dX10_init_19 : decode cX10_init 19 = .ok (.dup, 1) := by decide +kernel
theorem dX10_init_20 : decode cX10_init 20 = .ok (.invokespecial 20, 3) := by decide +kernel
theorem dX10_init_23 : decode cX10_init 23 = .ok (.putfield 21, 3) := by decide +kernel
theorem dX10_init_26 : decode cX10_init 26 = .ok (.aload_n 0, 1) := by decide +kernel
theorem dX10_init_27 : decode cX10_init 27 = .ok (.iconst 5, 1) := by decide +kernel
theorem dX10_init_28 : decode cX10_init 28 = .ok (.newarray .int, 2) := by decide +kernel
theorem dX10_init_30 : decode cX10_init 30 = .ok (.putfield 25, 3) := by decide +kernel
theorem dX10_init_33 : decode cX10_init 33 = .ok (.aload_n 0, 1) := by decide +kernel
theorem dX10_init_34 : decode cX10_init 34 = .ok (.iconst 4, 1) := by decide +kernel
theorem dX10_init_35 : decode cX10_init 35 = .ok (.newarray .int, 2) := by decide +kernel
theorem dX10_init_37 : decode cX10_init 37 = .ok (.putfield 29, 3) := by decide +kernel
theorem dX10_init_40 : decode cX10_init 40 = .ok (.aload_n 0, 1) := by decide +kernel
theorem dX10_init_41 : decode cX10_init 41 = .ok (.new 32, 3) := by decide +kernel
theorem dX10_init_44 : decode cX10_init 44 = .ok (.dup, 1) := by decide +kernel
theorem dX10_init_45 : decode cX10_init 45 = .ok (.invokespecial 34, 3) := by decide +kernel
theorem dX10_init_48 : decode cX10_init 48 = .ok (.putfield 35, 3) := by decide +kernel
theorem dX10_init_51 : decode cX10_init 51 = .ok (.aload_n 0, 1) := by decide +kernel
theorem dX10_init_52 : decode cX10_init 52 = .ok (.iconst 1, 1) := by decide +kernel
theorem dX10_init_53 : decode cX10_init 53 = .ok (.putfield 39, 3) := by decide +kernel
theorem dX10_init_56 : decode cX10_init 56 = .ok (.return_, 1) := by decide +kernel
theorem dX10_read_0 : decode cX10_read 0 = .ok (.aload_n 0, 1) := by decide +kernel
theorem dX10_read_1 : decode cX10_read 1 = .ok (.invokevirtual 43, 3) := by decide +kernel
theorem dX10_read_4 : decode cX10_read 4 = .ok (.iconst 0, 1) := by decide +kernel
theorem dX10_read_5 : decode cX10_read 5 = .ok (.istore_n 2, 1) := by decide +kernel
theorem dX10_read_6 : decode cX10_read 6 = .ok (.iconst 0, 1) := by decide +kernel
theorem dX10_read_7 : decode cX10_read 7 = .ok (.istore_n 3, 1) := by decide +kernel
theorem dX10_read_8 : decode cX10_read 8 = .ok (.iload_n 3, 1) := by decide +kernel
theorem dX10_read_9 : decode cX10_read 9 = .ok (.sipush 400, 3) := by decide +kernel
theorem dX10_read_12 : decode cX10_read 12 = .ok (.if_icmp .ge 42, 3) := by decide +kernel
theorem dX10_read_15 : decode cX10_read 15 = .ok (.iload_n 2, 1) := by decide +kernel
theorem dX10_read_16 : decode cX10_read 16 = .ok (.aload_n 1, 1) := by decide +kernel
theorem dX10_read_17 : decode cX10_read 17 = .ok (.getfield 46, 3) := by decide +kernel
theorem dX10_read_20 : decode cX10_read 20 = .ok (.if_icmp .ge 34, 3) := by decide +kernel
theorem dX10_read_23 : decode cX10_read 23 = .ok (.aload_n 1, 1) := by decide +kernel
theorem dX10_read_24 : decode cX10_read 24 = .ok (.iload_n 2, 1) := by decide +kernel
theorem dX10_read_25 : decode cX10_read 25 = .ok (.invokevirtual 51, 3) := by decide +kernel
theorem dX10_read_28 : decode cX10_read 28 = .ok (.istore 4, 2) := by decide +kernel
theorem dX10_read_30 : decode cX10_read 30 = .ok (.iload 4, 2) := by decide +kernel
theorem dX10_read_32 : decode cX10_read 32 = .ok (.ifCond .lt 11, 3) := by decide +kernel
theorem dX10_read_35 : decode cX10_read 35 = .ok (.aload_n 0, 1) := by decide +kernel
theorem dX10_read_36 : decode cX10_read 36 = .ok (.aload_n 1, 1) := by decide +kernel
theorem dX10_read_37 : decode cX10_read 37 = .ok (.invokevirtual 55, 3) := by decide +kernel
theorem dX10_read_40 : decode cX10_read 40 = .ok (.ifCond .ne 5, 3) := by decide +kernel
theorem dX10_read_43 : decode cX10_read 43 = .ok (.iload_n 2, 1) := by decide +kernel
theorem dX10_read_44 : decode cX10_read 44 = .ok (.ireturn, 1) := by decide +kernel
theorem dX10_read_45 : decode cX10_read 45 = .ok (.iload 4, 2) := by decide +kernel
theorem dX10_read_47 : decode cX10_read 47 = .ok (.istore_n 2, 1) := by decide +kernel
theorem dX10_read_48 : decode cX10_read 48 = .ok (.iinc 3 1, 3) := by decide +kernel
theorem dX10_read_51 : decode cX10_read 51 = .ok (.goto (-43), 3) := by decide +kernel
theorem dX10_read_54 : decode cX10_read 54 = .ok (.bipush (-4), 2) := by decide +kernel
theorem dX10_read_56 : decode cX10_read 56 = .ok (.ireturn, 1) := by decide +kernel
theorem dX10_clear_0 : decode cX10_clear 0 = .ok (.aload_n 0, 1) := by decide +kernel
theorem dX10_clear_1 : decode cX10_clear 1 = .ok (.getfield 12, 3) := by decide +kernel
theorem dX10_clear_4 : decode cX10_clear 4 = .ok (.invokevirtual 59, 3) := by decide +kernel
theorem dX10_clear_7 : decode cX10_clear 7 = .ok (.aload_n 0, 1) := by decide +kernel
theorem dX10_clear_8 : decode cX10_clear 8 = .ok (.getfield 21, 3) := by decide +kernel
theorem dX10_clear_11 : decode cX10_clear 11 = .ok (.invokevirtual 60, 3) := by decide +kernel
theorem dX10_clear_14 : decode cX10_clear 14 = .ok (.aload_n 0, 1) := by decide +kernel
theorem dX10_clear_15 : decode cX10_clear 15 = .ok (.iconst 0, 1) := by decide +kernel
theorem dX10_clear_16 : decode cX10_clear 16 = .ok (.putfield 61, 3) := by decide +kernel
theorem dX10_clear_19 : decode cX10_clear 19 = .ok (.aload_n 0, 1) := by decide +kernel
theorem dX10_clear_20 : decode cX10_clear 20 = .ok (.iconst 0, 1) := by decide +kernel
theorem dX10_clear_21 : decode cX10_clear 21 = .ok (.putfield 64, 3) := by decide +kernel
theorem dX10_clear_24 : decode cX10_clear 24 = .ok (.aload_n 0, 1) := by decide +kernel
theorem dX10_clear_25 : decode cX10_clear 25 = .ok (.getfield 35, 3) := by decide +kernel
theorem dX10_clear_28 : decode cX10_clear 28 = .ok (.invokevirtual 67, 3) := by decide +kernel
theorem dX10_clear_31 : decode cX10_clear 31 = .ok (.aload_n 0, 1) := by decide +kernel
theorem dX10_clear_32 : decode cX10_clear 32 = .ok (.iconst 1, 1) := by decide +kernel
theorem dX10_clear_33 : decode cX10_clear 33 = .ok (.putfield 39, 3) := by decide +kernel
theorem dX10_clear_36 : decode cX10_clear 36 = .ok (.return_, 1) := by decide +kernel
theorem dX10_takeItem_0 : decode cX10_takeItem 0 = .ok (.aload_n 1, 1) := by decide +kernel
theorem dX10_takeItem_1 : decode cX10_takeItem 1 = .ok (.getfield 68, 3) := by decide +kernel
theorem dX10_takeItem_4 : decode cX10_takeItem 4 = .ok (.tableswitch 136 98 115 #[124, 88, 106, 112, 100, 118, 136, 136, 136, 136, 136, 136, 136, 94, 136, 136, 136, 130], 88) := by decide +kernel
theorem dX10_takeItem_92 : decode cX10_takeItem 92 = .ok (.aload_n 0, 1) := by decide +kernel
theorem dX10_takeItem_93 : decode cX10_takeItem 93 = .ok (.aload_n 1, 1) := by decide +kernel
theorem dX10_takeItem_94 : decode cX10_takeItem 94 = .ok (.invokevirtual 71, 3) := by decide +kernel
theorem dX10_takeItem_97 : decode cX10_takeItem 97 = .ok (.ireturn, 1) := by decide +kernel
theorem dX10_takeItem_98 : decode cX10_takeItem 98 = .ok (.aload_n 0, 1) := by decide +kernel
theorem dX10_takeItem_99 : decode cX10_takeItem 99 = .ok (.aload_n 1, 1) := by decide +kernel
theorem dX10_takeItem_100 : decode cX10_takeItem 100 = .ok (.invokevirtual 74, 3) := by decide +kernel
theorem dX10_takeItem_103 : decode cX10_takeItem 103 = .ok (.ireturn, 1) := by decide +kernel
theorem dX10_takeItem_104 : decode cX10_takeItem 104 = .ok (.aload_n 0, 1) := by decide +kernel
theorem dX10_takeItem_105 : decode cX10_takeItem 105 = .ok (.aload_n 1, 1) := by decide +kernel
theorem dX10_takeItem_106 : decode cX10_takeItem 106 = .ok (.invokevirtual 77, 3) := by decide +kernel
theorem dX10_takeItem_109 : decode cX10_takeItem 109 = .ok (.ireturn, 1) := by decide +kernel
theorem dX10_takeItem_110 : decode cX10_takeItem 110 = .ok (.aload_n 0, 1) := by decide +kernel
theorem dX10_takeItem_111 : decode cX10_takeItem 111 = .ok (.aload_n 1, 1) := by decide +kernel
theorem dX10_takeItem_112 : decode cX10_takeItem 112 = .ok (.invokevirtual 80, 3) := by decide +kernel
theorem dX10_takeItem_115 : decode cX10_takeItem 115 = .ok (.ireturn, 1) := by decide +kernel
theorem dX10_takeItem_116 : decode cX10_takeItem 116 = .ok (.aload_n 0, 1) := by decide +kernel
theorem dX10_takeItem_117 : decode cX10_takeItem 117 = .ok (.aload_n 1, 1) := by decide +kernel
theorem dX10_takeItem_118 : decode cX10_takeItem 118 = .ok (.invokevirtual 83, 3) := by decide +kernel
theorem dX10_takeItem_121 : decode cX10_takeItem 121 = .ok (.ireturn, 1) := by decide +kernel
theorem dX10_takeItem_122 : decode cX10_takeItem 122 = .ok (.aload_n 0, 1) := by decide +kernel
theorem dX10_takeItem_123 : decode cX10_takeItem 123 = .ok (.aload_n 1, 1) := by decide +kernel
theorem dX10_takeItem_124 : decode cX10_takeItem 124 = .ok (.invokevirtual 86, 3) := by decide +kernel
theorem dX10_takeItem_127 : decode cX10_takeItem 127 = .ok (.ireturn, 1) := by decide +kernel
theorem dX10_takeItem_128 : decode cX10_takeItem 128 = .ok (.aload_n 0, 1) := by decide +kernel
theorem dX10_takeItem_129 : decode cX10_takeItem 129 = .ok (.aload_n 1, 1) := by decide +kernel
theorem dX10_takeItem_130 : decode cX10_takeItem 130 = .ok (.invokevirtual 89, 3) := by decide +kernel
theorem dX10_takeItem_133 : decode cX10_takeItem 133 = .ok (.ireturn, 1) := by decide +kernel
theorem dX10_takeItem_134 : decode cX10_takeItem 134 = .ok (.aload_n 0, 1) := by decide +kernel
theorem dX10_takeItem_135 : decode cX10_takeItem 135 = .ok (.aload_n 1, 1) := by decide +kernel
theorem dX10_takeItem_136 : decode cX10_takeItem 136 = .ok (.invokevirtual 92, 3) := by decide +kernel
theorem dX10_takeItem_139 : decode cX10_takeItem 139 = .ok (.ireturn, 1) := by decide +kernel
theorem dX10_takeItem_140 : decode cX10_takeItem 140 = .ok (.iconst 0, 1) := by decide +kernel
theorem dX10_takeItem_141 : decode cX10_takeItem 141 = .ok (.ireturn, 1) := by decide +kernel
theorem dX10_takeCell_0 : decode cX10_takeCell 0 = .ok (.aload_n 1, 1) := by decide +kernel
theorem dX10_takeCell_1 : decode cX10_takeCell 1 = .ok (.getfield 95, 3) := by decide +kernel
theorem dX10_takeCell_4 : decode cX10_takeCell 4 = .ok (.iconst 3, 1) := by decide +kernel
theorem dX10_takeCell_5 : decode cX10_takeCell 5 = .ok (.if_icmp .ne 66, 3) := by decide +kernel
theorem dX10_takeCell_8 : decode cX10_takeCell 8 = .ok (.aload_n 1, 1) := by decide +kernel
theorem dX10_takeCell_9 : decode cX10_takeCell 9 = .ok (.iconst 0, 1) := by decide +kernel
theorem dX10_takeCell_10 : decode cX10_takeCell 10 = .ok (.iconst 0, 1) := by decide +kernel
theorem dX10_takeCell_11 : decode cX10_takeCell 11 = .ok (.sipush 200, 3) := by decide +kernel
theorem dX10_takeCell_14 : decode cX10_takeCell 14 = .ok (.invokevirtual 98, 3) := by decide +kernel
theorem dX10_takeCell_17 : decode cX10_takeCell 17 = .ok (.ifCond .eq 54, 3) := by decide +kernel
theorem dX10_takeCell_20 : decode cX10_takeCell 20 = .ok (.aload_n 1, 1) := by decide +kernel
theorem dX10_takeCell_21 : decode cX10_takeCell 21 = .ok (.iconst 1, 1) := by decide +kernel
theorem dX10_takeCell_22 : decode cX10_takeCell 22 = .ok (.iconst 0, 1) := by decide +kernel
theorem dX10_takeCell_23 : decode cX10_takeCell 23 = .ok (.bipush 99, 2) := by decide +kernel
theorem dX10_takeCell_25 : decode cX10_takeCell 25 = .ok (.invokevirtual 98, 3) := by decide +kernel
theorem dX10_takeCell_28 : decode cX10_takeCell 28 = .ok (.ifCond .eq 43, 3) := by decide +kernel
theorem dX10_takeCell_31 : decode cX10_takeCell 31 = .ok (.aload_n 1, 1) := by decide +kernel
theorem dX10_takeCell_32 : decode cX10_takeCell 32 = .ok (.iconst 2, 1) := by decide +kernel
theorem dX10_takeCell_33 : decode cX10_takeCell 33 = .ok (.iconst 1, 1) := by decide +kernel
theorem dX10_takeCell_34 : decode cX10_takeCell 34 = .ok (.bipush 10, 2) := by decide +kernel
theorem dX10_takeCell_36 : decode cX10_takeCell 36 = .ok (.invokevirtual 98, 3) := by decide +kernel
theorem dX10_takeCell_39 : decode cX10_takeCell 39 = .ok (.ifCond .eq 32, 3) := by decide +kernel
theorem dX10_takeCell_42 : decode cX10_takeCell 42 = .ok (.aload_n 0, 1) := by decide +kernel
theorem dX10_takeCell_43 : decode cX10_takeCell 43 = .ok (.getfield 12, 3) := by decide +kernel
theorem dX10_takeCell_46 : decode cX10_takeCell 46 = .ok (.aload_n 1, 1) := by decide +kernel
theorem dX10_takeCell_47 : decode cX10_takeCell 47 = .ok (.iconst 0, 1) := by decide +kernel
theorem dX10_takeCell_48 : decode cX10_takeCell 48 = .ok (.invokevirtual 102, 3) := by decide +kernel
theorem dX10_takeCell_51 : decode cX10_takeCell 51 = .ok (.aload_n 1, 1) := by decide +kernel
theorem dX10_takeCell_52 : decode cX10_takeCell 52 = .ok (.iconst 1, 1) := by decide +kernel
theorem dX10_takeCell_53 : decode cX10_takeCell 53 = .ok (.invokevirtual 102, 3) := by decide +kernel
theorem dX10_takeCell_56 : decode cX10_takeCell 56 = .ok (.aload_n 1, 1) := by decide +kernel
theorem dX10_takeCell_57 : decode cX10_takeCell 57 = .ok (.iconst 2, 1) := by decide +kernel
theorem dX10_takeCell_58 : decode cX10_takeCell 58 = .ok (.invokevirtual 102, 3) := by decide +kernel
theorem dX10_takeCell_61 : decode cX10_takeCell 61 = .ok (.invokevirtual 105, 3) := by decide +kernel
theorem dX10_takeCell_64 : decode cX10_takeCell 64 = .ok (.ifCond .eq 7, 3) := by decide +kernel
theorem dX10_takeCell_67 : decode cX10_takeCell 67 = .ok (.iconst 1, 1) := by decide +kernel
theorem dX10_takeCell_68 : decode cX10_takeCell 68 = .ok (.goto 4, 3) := by decide +kernel
theorem dX10_takeCell_71 : decode cX10_takeCell 71 = .ok (.iconst 0, 1) := by decide +kernel
theorem dX10_takeCell_72 : decode cX10_takeCell 72 = .ok (.ireturn, 1) := by decide +kernel
theorem dX10_takeOpenedHour_0 : decode cX10_takeOpenedHour 0 = .ok (.aload_n 1, 1) := by decide +kernel
theorem dX10_takeOpenedHour_1 : decode cX10_takeOpenedHour 1 = .ok (.getfield 95, 3) := by decide +kernel
theorem dX10_takeOpenedHour_4 : decode cX10_takeOpenedHour 4 = .ok (.iconst 1, 1) := by decide +kernel
theorem dX10_takeOpenedHour_5 : decode cX10_takeOpenedHour 5 = .ok (.if_icmp .ne 14, 3) := by decide +kernel
theorem dX10_takeOpenedHour_8 : decode cX10_takeOpenedHour 8 = .ok (.aload_n 1, 1) := by decide +kernel
theorem dX10_takeOpenedHour_9 : decode cX10_takeOpenedHour 9 = .ok (.iconst 0, 1) := by decide +kernel
theorem dX10_takeOpenedHour_10 : decode cX10_takeOpenedHour 10 = .ok (.iconst 0, 1) := by decide +kernel
theorem dX10_takeOpenedHour_11 : decode cX10_takeOpenedHour 11 = .ok (.bipush 23, 2) := by decide +kernel
theorem dX10_takeOpenedHour_13 : decode cX10_takeOpenedHour 13 = .ok (.invokevirtual 98, 3) := by decide +kernel
theorem dX10_takeOpenedHour_16 : decode cX10_takeOpenedHour 16 = .ok (.ifCond .ne 5, 3) := by decide +kernel
theorem dX10_takeOpenedHour_19 : decode cX10_takeOpenedHour 19 = .ok (.iconst 0, 1) := by decide +kernel
theorem dX10_takeOpenedHour_20 : decode cX10_takeOpenedHour 20 = .ok (.ireturn, 1) := by decide +kernel
theorem dX10_takeOpenedHour_21 : decode cX10_takeOpenedHour 21 = .ok (.aload_n 0, 1) := by decide +kernel
theorem dX10_takeOpenedHour_22 : decode cX10_takeOpenedHour 22 = .ok (.getfield 12, 3) := by decide +kernel
theorem dX10_takeOpenedHour_25 : decode cX10_takeOpenedHour 25 = .ok (.aload_n 1, 1) := by decide +kernel
theorem dX10_takeOpenedHour_26 : decode cX10_takeOpenedHour 26 = .ok (.iconst 0, 1) := by decide +kernel
theorem dX10_takeOpenedHour_27 : decode cX10_takeOpenedHour 27 = .ok (.invokevirtual 102, 3) := by decide +kernel
theorem dX10_takeOpenedHour_30 : decode cX10_takeOpenedHour 30 = .ok (.invokevirtual 108, 3) := by decide +kernel
theorem dX10_takeOpenedHour_33 : decode cX10_takeOpenedHour 33 = .ok (.iconst 1, 1) := by decide +kernel
theorem dX10_takeOpenedHour_34 : decode cX10_takeOpenedHour 34 = .ok (.ireturn, 1) := by decide +kernel
theorem dX10_takeFood_0 : decode cX10_takeFood 0 = .ok (.aload_n 1, 1) := by decide +kernel
theorem dX10_takeFood_1 : decode cX10_takeFood 1 = .ok (.getfield 95, 3) := by decide +kernel
theorem dX10_takeFood_4 : decode cX10_takeFood 4 = .ok (.bipush 6, 2) := by decide +kernel
theorem dX10_takeFood_6 : decode cX10_takeFood 6 = .ok (.if_icmp .ne 116, 3) := by decide +kernel
theorem dX10_takeFood_9 : decode cX10_takeFood 9 = .ok (.aload_n 1, 1) := by decide +kernel
theorem dX10_takeFood_10 : decode cX10_takeFood 10 = .ok (.iconst 0, 1) := by decide +kernel
theorem dX10_takeFood_11 : decode cX10_takeFood 11 = .ok (.iconst 0, 1) := by decide +kernel
theorem dX10_takeFood_12 : decode cX10_takeFood 12 = .ok (.iconst 3, 1) := by decide +kernel
theorem dX10_takeFood_13 : decode cX10_takeFood 13 = .ok (.invokevirtual 98, 3) := by decide +kernel
theorem dX10_takeFood_16 : decode cX10_takeFood 16 = .ok (.ifCond .eq 106, 3) := by decide +kernel
theorem dX10_takeFood_19 : decode cX10_takeFood 19 = .ok (.aload_n 0, 1) := by decide +kernel
theorem dX10_takeFood_20 : decode cX10_takeFood 20 = .ok (.getfield 12, 3) := by decide +kernel
theorem dX10_takeFood_23 : decode cX10_takeFood 23 = .ok (.aload_n 1, 1) := by decide +kernel
theorem dX10_takeFood_24 : decode cX10_takeFood 24 = .ok (.iconst 1, 1) := by decide +kernel
theorem dX10_takeFood_25 : decode cX10_takeFood 25 = .ok (.invokevirtual 102, 3) := by decide +kernel
theorem dX10_takeFood_28 : decode cX10_takeFood 28 = .ok (.invokevirtual 112, 3) := by decide +kernel
theorem dX10_takeFood_31 : decode cX10_takeFood 31 = .ok (.ifCond .eq 91, 3) := by decide +kernel
theorem dX10_takeFood_34 : decode cX10_takeFood 34 = .ok (.aload_n 1, 1) := by decide +kernel
theorem dX10_takeFood_35 : decode cX10_takeFood 35 = .ok (.iconst 2, 1) := by decide +kernel
theorem dX10_takeFood_36 : decode cX10_takeFood 36 = .ok (.iconst 0, 1) := by decide +kernel
theorem dX10_takeFood_37 : decode cX10_takeFood 37 = .ok (.bipush 99, 2) := by decide +kernel
theorem dX10_takeFood_39 : decode cX10_takeFood 39 = .ok (.invokevirtual 98, 3) := by decide +kernel
theorem dX10_takeFood_42 : decode cX10_takeFood 42 = .ok (.ifCond .eq 80, 3) := by decide +kernel
theorem dX10_takeFood_45 : decode cX10_takeFood 45 = .ok (.aload_n 1, 1) := by decide +kernel
theorem dX10_takeFood_46 : decode cX10_takeFood 46 = .ok (.iconst 3, 1) := by decide +kernel
theorem dX10_takeFood_47 : decode cX10_takeFood 47 = .ok (.iconst 1, 1) := by decide +kernel
theorem dX10_takeFood_48 : decode cX10_takeFood 48 = .ok (.sipush 240, 3) := by decide +kernel
theorem dX10_takeFood_51 : decode cX10_takeFood 51 = .ok (.invokevirtual 98, 3) := by decide +kernel
theorem dX10_takeFood_54 : decode cX10_takeFood 54 = .ok (.ifCond .eq 68, 3) := by decide +kernel
theorem dX10_takeFood_57 : decode cX10_takeFood 57 = .ok (.aload_n 1, 1) := by decide +kernel
theorem dX10_takeFood_58 : decode cX10_takeFood 58 = .ok (.iconst 4, 1) := by decide +kernel
theorem dX10_takeFood_59 : decode cX10_takeFood 59 = .ok (.iconst 0, 1) := by decide +kernel
theorem dX10_takeFood_60 : decode cX10_takeFood 60 = .ok (.bipush 99, 2) := by decide +kernel
theorem dX10_takeFood_62 : decode cX10_takeFood 62 = .ok (.invokevirtual 98, 3) := by decide +kernel
theorem dX10_takeFood_65 : decode cX10_takeFood 65 = .ok (.ifCond .eq 57, 3) := by decide +kernel
theorem dX10_takeFood_68 : decode cX10_takeFood 68 = .ok (.aload_n 1, 1) := by decide +kernel
theorem dX10_takeFood_69 : decode cX10_takeFood 69 = .ok (.iconst 5, 1) := by decide +kernel
theorem dX10_takeFood_70 : decode cX10_takeFood 70 = .ok (.iconst 0, 1) := by decide +kernel
theorem dX10_takeFood_71 : decode cX10_takeFood 71 = .ok (.iconst 3, 1) := by decide +kernel
theorem dX10_takeFood_72 : decode cX10_takeFood 72 = .ok (.invokevirtual 98, 3) := by decide +kernel
theorem dX10_takeFood_75 : decode cX10_takeFood 75 = .ok (.ifCond .eq 47, 3) := by decide +kernel
theorem dX10_takeFood_78 : decode cX10_takeFood 78 = .ok (.aload_n 0, 1) := by decide +kernel
theorem dX10_takeFood_79 : decode cX10_takeFood 79 = .ok (.getfield 21, 3) := by decide +kernel
theorem dX10_takeFood_82 : decode cX10_takeFood 82 = .ok (.aload_n 1, 1) := by decide +kernel
theorem dX10_takeFood_83 : decode cX10_takeFood 83 = .ok (.iconst 0, 1) := by decide +kernel
theorem dX10_takeFood_84 : decode cX10_takeFood 84 = .ok (.invokevirtual 102, 3) := by decide +kernel
theorem dX10_takeFood_87 : decode cX10_takeFood 87 = .ok (.aload_n 1, 1) := by decide +kernel
theorem dX10_takeFood_88 : decode cX10_takeFood 88 = .ok (.iconst 1, 1) := by decide +kernel
theorem dX10_takeFood_89 : decode cX10_takeFood 89 = .ok (.invokevirtual 102, 3) := by decide +kernel
theorem dX10_takeFood_92 : decode cX10_takeFood 92 = .ok (.aload_n 1, 1) := by decide +kernel
theorem dX10_takeFood_93 : decode cX10_takeFood 93 = .ok (.iconst 2, 1) := by decide +kernel
theorem dX10_takeFood_94 : decode cX10_takeFood 94 = .ok (.invokevirtual 102, 3) := by decide +kernel
theorem dX10_takeFood_97 : decode cX10_takeFood 97 = .ok (.aload_n 1, 1) := by decide +kernel
theorem dX10_takeFood_98 : decode cX10_takeFood 98 = .ok (.iconst 3, 1) := by decide +kernel
theorem dX10_takeFood_99 : decode cX10_takeFood 99 = .ok (.invokevirtual 102, 3) := by decide +kernel
theorem dX10_takeFood_102 : decode cX10_takeFood 102 = .ok (.aload_n 1, 1) := by decide +kernel
theorem dX10_takeFood_103 : decode cX10_takeFood 103 = .ok (.iconst 4, 1) := by decide +kernel
theorem dX10_takeFood_104 : decode cX10_takeFood 104 = .ok (.invokevirtual 102, 3) := by decide +kernel
theorem dX10_takeFood_107 : decode cX10_takeFood 107 = .ok (.aload_n 1, 1) := by decide +kernel
theorem dX10_takeFood_108 : decode cX10_takeFood 108 = .ok (.iconst 5, 1) := by decide +kernel
theorem dX10_takeFood_109 : decode cX10_takeFood 109 = .ok (.invokevirtual 102, 3) := by decide +kernel
theorem dX10_takeFood_112 : decode cX10_takeFood 112 = .ok (.invokevirtual 116, 3) := by decide +kernel
theorem dX10_takeFood_115 : decode cX10_takeFood 115 = .ok (.ifCond .eq 7, 3) := by decide +kernel
theorem dX10_takeFood_118 : decode cX10_takeFood 118 = .ok (.iconst 1, 1) := by decide +kernel
theorem dX10_takeFood_119 : decode cX10_takeFood 119 = .ok (.goto 4, 3) := by decide +kernel
theorem dX10_takeFood_122 : decode cX10_takeFood 122 = .ok (.iconst 0, 1) := by decide +kernel
theorem dX10_takeFood_123 : decode cX10_takeFood 123 = .ok (.ireturn, 1) := by decide +kernel
theorem dX10_takeDish_0 : decode cX10_takeDish 0 = .ok (.aload_n 1, 1) := by decide +kernel
theorem dX10_takeDish_1 : decode cX10_takeDish 1 = .ok (.getfield 95, 3) := by decide +kernel
theorem dX10_takeDish_4 : decode cX10_takeDish 4 = .ok (.iconst 1, 1) := by decide +kernel
theorem dX10_takeDish_5 : decode cX10_takeDish 5 = .ok (.if_icmp .ne 22, 3) := by decide +kernel
theorem dX10_takeDish_8 : decode cX10_takeDish 8 = .ok (.aload_n 1, 1) := by decide +kernel
theorem dX10_takeDish_9 : decode cX10_takeDish 9 = .ok (.iconst 0, 1) := by decide +kernel
theorem dX10_takeDish_10 : decode cX10_takeDish 10 = .ok (.iconst 1, 1) := by decide +kernel
theorem dX10_takeDish_11 : decode cX10_takeDish 11 = .ok (.bipush 15, 2) := by decide +kernel
theorem dX10_takeDish_13 : decode cX10_takeDish 13 = .ok (.invokevirtual 98, 3) := by decide +kernel
theorem dX10_takeDish_16 : decode cX10_takeDish 16 = .ok (.ifCond .eq 11, 3) := by decide +kernel
theorem dX10_takeDish_19 : decode cX10_takeDish 19 = .ok (.aload_n 0, 1) := by decide +kernel
theorem dX10_takeDish_20 : decode cX10_takeDish 20 = .ok (.getfield 61, 3) := by decide +kernel
theorem dX10_takeDish_23 : decode cX10_takeDish 23 = .ok (.iconst 5, 1) := by decide +kernel
theorem dX10_takeDish_24 : decode cX10_takeDish 24 = .ok (.if_icmp .lt 5, 3) := by decide +kernel
theorem dX10_takeDish_27 : decode cX10_takeDish 27 = .ok (.iconst 0, 1) := by decide +kernel
theorem dX10_takeDish_28 : decode cX10_takeDish 28 = .ok (.ireturn, 1) := by decide +kernel
theorem dX10_takeDish_29 : decode cX10_takeDish 29 = .ok (.aload_n 0, 1) := by decide +kernel
theorem dX10_takeDish_30 : decode cX10_takeDish 30 = .ok (.getfield 25, 3) := by decide +kernel
theorem dX10_takeDish_33 : decode cX10_takeDish 33 = .ok (.aload_n 0, 1) := by decide +kernel
theorem dX10_takeDish_34 : decode cX10_takeDish 34 = .ok (.getfield 61, 3) := by decide +kernel
theorem dX10_takeDish_37 : decode cX10_takeDish 37 = .ok (.aload_n 1, 1) := by decide +kernel
theorem dX10_takeDish_38 : decode cX10_takeDish 38 = .ok (.iconst 0, 1) := by decide +kernel
theorem dX10_takeDish_39 : decode cX10_takeDish 39 = .ok (.invokevirtual 102, 3) := by decide +kernel
theorem dX10_takeDish_42 : decode cX10_takeDish 42 = .ok (.invokestatic 119, 3) := by decide +kernel
